theorem dX0_init_0 : decode cX0_init 0 = .ok (.aload_n 0, 1) := by decide +kernel
theorem dX0_init_1 : decode cX0_init 1 = .ok (.invokespecial 3, 3) := by decide +kernel
theorem dX0_init_4 : decode cX0_init 4 = .ok (.aload_n 0, 1) := by decide +kernel
theorem dX0_init_5 : decode cX0_init 5 = .ok (.bipush 24, 2) := by decide +kernel
theorem dX0_init_7 : decode cX0_init 7 = .ok (.newarray .int, 2) := by decide +kernel
theorem dX0_init_9 : decode cX0_init 9 = .ok (.putfield 9, 3) := by decide +kernel
theorem dX0_init_12 : decode cX0_init 12 = .ok (.aload_n 0, 1) := by decide +kernel
theorem dX0_init_13 : decode cX0_init 13 = .ok (.bipush 24, 2) := by decide +kernel
theorem dX0_init_15 : decode cX0_init 15 = .ok (.newarray .int, 2) := by decide +kernel
theorem dX0_init_17 : decode cX0_init 17 = .ok (.putfield 15, 3) := by decide +kernel
theorem dX0_init_20 : decode cX0_init 20 = .ok (.aload_n 0, 1) := by decide +kernel
theorem dX0_init_21 : decode cX0_init 21 = .ok (.bipush 24, 2) := by decide +kernel
theorem dX0_init_23 : decode cX0_init 23 = .ok (.newarray .int, 2) := by decide +kernel
theorem dX0_init_25 : decode cX0_init 25 = .ok (.putfield 18, 3) := by decide +kernel
theorem dX0_init_28 : decode cX0_init 28 = .ok (.return_, 1) := by decide +kernel
theorem dX0_keep_0 : decode cX0_keep 0 = .ok (.aload_n 0, 1) := by decide +kernel
theorem dX0_keep_1 : decode cX0_keep 1 = .ok (.aload_n 0, 1) := by decide +kernel
theorem dX0_keep_2 : decode cX0_keep 2 = .ok (.getfield 21, 3) := by decide +kernel
theorem dX0_keep_5 : decode cX0_keep 5 = .ok (.iconst 1, 1) := by decide +kernel
theorem dX0_keep_6 : decode cX0_keep 6 = .ok (.iadd, 1) := by decide +kernel
theorem dX0_keep_7 : decode cX0_keep 7 = .ok (.bipush 24, 2) := by decide +kernel
theorem dX0_keep_9 : decode cX0_keep 9 = .ok (.if_icmp .ge 12, 3) := by decide +kernel
theorem dX0_keep_12 : decode cX0_keep 12 = .ok (.aload_n 0, 1) := by decide +kernel
theorem dX0_keep_13 : decode cX0_keep 13 = .ok (.getfield 21, 3) := by decide +kernel
theorem dX0_keep_16 : decode cX0_keep 16 = .ok (.iconst 1, 1) := by decide +kernel
theorem dX0_keep_17 : decode cX0_keep 17 = .ok (.iadd, 1) := by decide +kernel
theorem dX0_keep_18 : decode cX0_keep 18 = .ok (.goto 4, 3) := by decide +kernel
theorem dX0_keep_21 : decode cX0_keep 21 = .ok (.iconst 0, 1) := by decide +kernel
theorem dX0_keep_22 : decode cX0_keep 22 = .ok (.putfield 21, 3) := by decide +kernel
theorem dX0_keep_25 : decode cX0_keep 25 = .ok (.aload_n 0, 1) := by decide +kernel
theorem dX0_keep_26 : decode cX0_keep 26 = .ok (.aload_n 0, 1) := by decide +kernel
theorem dX0_keep_27 : decode cX0_keep 27 = .ok (.getfield 25, 3) := by decide +kernel
theorem dX0_keep_30 : decode cX0_keep 30 = .ok (.iconst 1, 1) := by decide +kernel
theorem dX0_keep_31 : decode cX0_keep 31 = .ok (.iadd, 1) := by decide +kernel
theorem dX0_keep_32 : decode cX0_keep 32 = .ok (.bipush 24, 2) := by decide +kernel
theorem dX0_keep_34 : decode cX0_keep 34 = .ok (.invokestatic 28, 3) := by decide +kernel
theorem dX0_keep_37 : decode cX0_keep 37 = .ok (.putfield 25, 3) := by decide +kernel
theorem dX0_keep_40 : decode cX0_keep 40 = .ok (.aload_n 0, 1) := by decide +kernel
theorem dX0_keep_41 : decode cX0_keep 41 = .ok (.getfield 9, 3) := by decide +kernel
theorem dX0_keep_44 : decode cX0_keep 44 = .ok (.aload_n 0, 1) := by decide +kernel
theorem dX0_keep_45 : decode cX0_keep 45 = .ok (.getfield 21, 3) := by decide +kernel
theorem dX0_keep_48 : decode cX0_keep 48 = .ok (.iload_n 1, 1) := by decide +kernel
theorem dX0_keep_49 : decode cX0_keep 49 = .ok (.invokestatic 34, 3) := by decide +kernel
theorem dX0_keep_52 : decode cX0_keep 52 = .ok (.aload_n 0, 1) := by decide +kernel
theorem dX0_keep_53 : decode cX0_keep 53 = .ok (.getfield 15, 3) := by decide +kernel
theorem dX0_keep_56 : decode cX0_keep 56 = .ok (.aload_n 0, 1) := by decide +kernel
theorem dX0_keep_57 : decode cX0_keep 57 = .ok (.getfield 21, 3) := by decide +kernel
theorem dX0_keep_60 : decode cX0_keep 60 = .ok (.iload_n 2, 1) := by decide +kernel
theorem dX0_keep_61 : decode cX0_keep 61 = .ok (.invokestatic 34, 3) := by decide +kernel
theorem dX0_keep_64 : decode cX0_keep 64 = .ok (.aload_n 0, 1) := by decide +kernel
theorem dX0_keep_65 : decode cX0_keep 65 = .ok (.getfield 18, 3) := by decide +kernel
theorem dX0_keep_68 : decode cX0_keep 68 = .ok (.aload_n 0, 1) := by decide +kernel
theorem dX0_keep_69 : decode cX0_keep 69 = .ok (.getfield 21, 3) := by decide +kernel
theorem dX0_keep_72 : decode cX0_keep 72 = .ok (.iload_n 3, 1) := by decide +kernel
theorem dX0_keep_73 : decode cX0_keep 73 = .ok (.invokestatic 34, 3) := by decide +kernel
theorem dX0_keep_76 : decode cX0_keep 76 = .ok (.return_, 1) := by decide +kernel
theorem dX0_latestSide_0 : decode cX0_latestSide 0 = .ok (.aload_n 0, 1) := by decide +kernel
theorem dX0_latestSide_1 : decode cX0_latestSide 1 = .ok (.getfield 9, 3) := by decide +kernel
theorem dX0_latestSide_4 : decode cX0_latestSide 4 = .ok (.aload_n 0, 1) := by decide +kernel
theorem dX0_latestSide_5 : decode cX0_latestSide 5 = .ok (.getfield 21, 3) := by decide +kernel
theorem dX0_latestSide_8 : decode cX0_latestSide 8 = .ok (.invokestatic 38, 3) := by decide +kernel
theorem dX0_latestSide_11 : decode cX0_latestSide 11 = .ok (.ireturn, 1) := by decide +kernel
theorem dX0_latestPlace_0 : decode cX0_latestPlace 0 = .ok (.aload_n 0, 1) := by decide +kernel
theorem dX0_latestPlace_1 : decode cX0_latestPlace 1 = .ok (.getfield 15, 3) := by decide +kernel
theorem dX0_latestPlace_4 : decode cX0_latestPlace 4 = .ok (.aload_n 0, 1) := by decide +kernel
theorem dX0_latestPlace_5 : decode cX0_latestPlace 5 = .ok (.getfield 21, 3) := by decide +kernel
theorem dX0_latestPlace_8 : decode cX0_latestPlace 8 = .ok (.invokestatic 38, 3) := by decide +kernel
theorem dX0_latestPlace_11 : decode cX0_latestPlace 11 = .ok (.ireturn, 1) := by decide +kernel
theorem dX0_latestLetter_0 : decode cX0_latestLetter 0 = .ok (.aload_n 0, 1) := by decide +kernel
theorem dX0_latestLetter_1 : decode cX0_latestLetter 1 = .ok (.getfield 18, 3) := by decide +kernel
theorem dX0_latestLetter_4 : decode cX0_latestLetter 4 = .ok (.aload_n 0, 1) := by decide +kernel
theorem dX0_latestLetter_5 : decode cX0_latestLetter 5 = .ok (.getfield 21, 3) := by decide +kernel
theorem dX0_latestLetter_8 : decode cX0_latestLetter 8 = .ok (.invokestatic 38, 3) := by decide +kernel
theorem dX0_latestLetter_11 : decode cX0_latestLetter 11 = .ok (.ireturn, 1) := by decide +kernel
theorem dX0_forgetLatest_0 : decode cX0_forgetLatest 0 = .ok (.aload_n 0, 1) := by decide +kernel
theorem dX0_forgetLatest_1 : decode cX0_forgetLatest 1 = .ok (.aload_n 0, 1) := by decide +kernel
theorem dX0_forgetLatest_2 : decode cX0_forgetLatest 2 = .ok (.getfield 21, 3) := by decide +kernel
theorem dX0_forgetLatest_5 : decode cX0_forgetLatest 5 = .ok (.ifCond .le 12, 3) := by decide +kernel
theorem dX0_forgetLatest_8 : decode cX0_forgetLatest 8 = .ok (.aload_n 0, 1) := by decide +kernel
theorem dX0_forgetLatest_9 : decode cX0_forgetLatest 9 = .ok (.getfield 21, 3) := by decide +kernel
theorem dX0_forgetLatest_12 : decode cX0_forgetLatest 12 = .ok (.iconst 1, 1) := by decide +kernel
theorem dX0_forgetLatest_13 : decode cX0_forgetLatest 13 = .ok (.isub, 1) := by decide +kernel
theorem dX0_forgetLatest_14 : decode cX0_forgetLatest 14 = .ok (.goto 5, 3) := by decide +kernel
theorem dX0_forgetLatest_17 : decode cX0_forgetLatest 17 = .ok (.bipush 23, 2) := by decide +kernel
theorem dX0_forgetLatest_19 : decode cX0_forgetLatest 19 = .ok (.putfield 21, 3) := by decide +kernel
theorem dX0_forgetLatest_22 : decode cX0_forgetLatest 22 = .ok (.aload_n 0, 1) := by decide +kernel
theorem dX0_forgetLatest_23 : decode cX0_forgetLatest 23 = .ok (.aload_n 0, 1) := by decide +kernel
theorem dX0_forgetLatest_24 : decode cX0_forgetLatest 24 = .ok (.getfield 25, 3) := by decide +kernel
theorem dX0_forgetLatest_27 : decode cX0_forgetLatest 27 = .ok (.iconst 1, 1) := by decide +kernel
theorem dX0_forgetLatest_28 : decode cX0_forgetLatest 28 = .ok (.isub, 1) := by decide +kernel
theorem dX0_forgetLatest_29 : decode cX0_forgetLatest 29 = .ok (.iconst 0, 1) := by decide +kernel
theorem dX0_forgetLatest_30 : decode cX0_forgetLatest 30 = .ok (.invokestatic 42, 3) := by decide +kernel
theorem dX0_forgetLatest_33 : decode cX0_forgetLatest 33 = .ok (.putfield 25, 3) := by decide +kernel
theorem dX0_forgetLatest_36 : decode cX0_forgetLatest 36 = .ok (.return_, 1) := by decide +kernel
theorem dX0_forgetAll_0 : decode cX0_forgetAll 0 = .ok (.aload_n 0, 1) := by decide +kernel
theorem dX0_forgetAll_1 : decode cX0_forgetAll 1 = .ok (.iconst 0, 1) := by decide +kernel
theorem dX0_forgetAll_2 : decode cX0_forgetAll 2 = .ok (.putfield 25, 3) := by decide +kernel
theorem dX0_forgetAll_5 : decode cX0_forgetAll 5 = .ok (.return_, 1) := by decide +kernel
theorem dX1_init_0 : decode cX1_init 0 = .ok (.aload_n 0, 1) := by decide +kernel
theorem dX1_init_1 : decode cX1_init 1 = .ok (.invokespecial 3, 3) := by decide +kernel
theorem dX1_init_4 : decode cX1_init 4 = .ok (.aload_n 0, 1) := by decide +kernel
theorem dX1_init_5 : decode cX1_init 5 = .ok (.bipush 16, 2) := by decide +kernel
theorem dX1_init_7 : decode cX1_init 7 = .ok (.newarray .int, 2) := by decide +kernel
theorem dX1_init_9 : decode cX1_init 9 = .ok (.putfield 9, 3) := by decide +kernel
theorem dX1_init_12 : decode cX1_init 12 = .ok (.return_, 1) := by decide +kernel
theorem dX1_answer_0 : decode cX1_answer 0 = .ok (.aload_n 0, 1) := by decide +kernel
theorem dX1_answer_1 : decode cX1_answer 1 = .ok (.iconst 0, 1) := by decide +kernel
theorem dX1_answer_2 : decode cX1_answer 2 = .ok (.putfield 15, 3) := by decide +kernel
theorem dX1_answer_5 : decode cX1_answer 5 = .ok (.aload_n 1, 1) := by decide +kernel
theorem dX1_answer_6 : decode cX1_answer 6 = .ok (.iload_n 2, 1) := by decide +kernel
theorem dX1_answer_7 : decode cX1_answer 7 = .ok (.invokevirtual 19, 3) := by decide +kernel
theorem dX1_answer_10 : decode cX1_answer 10 = .ok (.iconst 4, 1) := by decide +kernel
theorem dX1_answer_11 : decode cX1_answer 11 = .ok (.invokestatic 25, 3) := by decide +kernel
theorem dX1_answer_14 : decode cX1_answer 14 = .ok (.istore 4, 2) := by decide +kernel
theorem dX1_answer_16 : decode cX1_answer 16 = .ok (.iload_n 3, 1) := by decide +kernel
theorem dX1_answer_17 : decode cX1_answer 17 = .ok (.ifCond .ne 24, 3) := by decide +kernel
theorem dX1_answer_20 : decode cX1_answer 20 = .ok (.iload 4, 2) := by decide +kernel
theorem dX1_answer_22 : decode cX1_answer 22 = .ok (.ifCond .eq 12, 3) := by decide +kernel
theorem dX1_answer_25 : decode cX1_answer 25 = .ok (.aload_n 0, 1) := by decide +kernel
theorem dX1_answer_26 : decode cX1_answer 26 = .ok (.aload_n 1, 1) := by decide +kernel
theorem dX1_answer_27 : decode cX1_answer 27 = .ok (.iload_n 2, 1) := by decide +kernel
theorem dX1_answer_28 : decode cX1_answer 28 = .ok (.invokevirtual 29, 3) := by decide +kernel
theorem dX1_answer_31 : decode cX1_answer 31 = .ok (.goto 9, 3) := by decide +kernel
theorem dX1_answer_34 : decode cX1_answer 34 = .ok (.aload_n 0, 1) := by decide +kernel
theorem dX1_answer_35 : decode cX1_answer 35 = .ok (.aload_n 1, 1) := by decide +kernel
theorem dX1_answer_36 : decode cX1_answer 36 = .ok (.iload_n 2, 1) := by decide +kernel
theorem dX1_answer_37 : decode cX1_answer 37 = .ok (.invokevirtual 33, 3) := by decide +kernel
theorem dX1_answer_40 : decode cX1_answer 40 = .ok (.ireturn, 1) := by decide +kernel
theorem dX1_answer_41 : decode cX1_answer 41 = .ok (.iload 4, 2) := by decide +kernel
theorem dX1_answer_43 : decode cX1_answer 43 = .ok (.ifCond .eq 12, 3) := by decide +kernel
theorem dX1_answer_46 : decode cX1_answer 46 = .ok (.aload_n 0, 1) := by decide +kernel
theorem dX1_answer_47 : decode cX1_answer 47 = .ok (.aload_n 1, 1) := by decide +kernel
theorem dX1_answer_48 : decode cX1_answer 48 = .ok (.iload_n 2, 1) := by decide +kernel
theorem dX1_answer_49 : decode cX1_answer 49 = .ok (.invokevirtual 36, 3) := by decide +kernel
theorem dX1_answer_52 : decode cX1_answer 52 = .ok (.goto 9, 3) := by decide +kernel
theorem dX1_answer_55 : decode cX1_answer 55 = .ok (.aload_n 0, 1) := by decide +kernel
theorem dX1_answer_56 : decode cX1_answer 56 = .ok (.aload_n 1, 1) := by decide +kernel
theorem dX1_answer_57 : decode cX1_answer 57 = .ok (.iload_n 2, 1) := by decide +kernel
theorem dX1_answer_58 : decode cX1_answer 58 = .ok (.invokevirtual 39, 3) := by decide +kernel
theorem dX1_answer_61 : decode cX1_answer 61 = .ok (.ireturn, 1) := by decide +kernel
theorem dX1_traced_0 : decode cX1_traced 0 = .ok (.iload_n 1, 1) := by decide +kernel
theorem dX1_traced_1 : decode cX1_traced 1 = .ok (.ifCond .lt 22, 3) := by decide +kernel
theorem dX1_traced_4 : decode cX1_traced 4 = .ok (.iload_n 1, 1) := by decide +kernel
theorem dX1_traced_5 : decode cX1_traced 5 = .ok (.aload_n 0, 1) := by decide +kernel
theorem dX1_traced_6 : decode cX1_traced 6 = .ok (.getfield 15, 3) := by decide +kernel
theorem dX1_traced_9 : decode cX1_traced 9 = .ok (.if_icmp .ge 14, 3) := by decide +kernel
theorem dX1_traced_12 : decode cX1_traced 12 = .ok (.aload_n 0, 1) := by decide +kernel
theorem dX1_traced_13 : decode cX1_traced 13 = .ok (.getfield 9, 3) := by decide +kernel
theorem dX1_traced_16 : decode cX1_traced 16 = .ok (.iload_n 1, 1) := by decide +kernel
theorem dX1_traced_17 : decode cX1_traced 17 = .ok (.invokestatic 42, 3) := by decide +kernel
theorem dX1_traced_20 : decode cX1_traced 20 = .ok (.goto 5, 3) := by decide +kernel
theorem dX1_traced_23 : decode cX1_traced 23 = .ok (.ldc 46, 2) := by decide +kernel
theorem dX1_traced_25 : decode cX1_traced 25 = .ok (.ireturn, 1) := by decide +kernel
theorem dX1_sizeOfAny_0 : decode cX1_sizeOfAny 0 = .ok (.aload_n 0, 1) := by decide +kernel
theorem dX1_sizeOfAny_1 : decode cX1_sizeOfAny 1 = .ok (.bipush 10, 2) := by decide +kernel
theorem dX1_sizeOfAny_3 : decode cX1_sizeOfAny 3 = .ok (.invokevirtual 47, 3) := by decide +kernel
theorem dX1_sizeOfAny_6 : decode cX1_sizeOfAny 6 = .ok (.aload_n 1, 1) := by decide +kernel
theorem dX1_sizeOfAny_7 : decode cX1_sizeOfAny 7 = .ok (.iload_n 2, 1) := by decide +kernel
theorem dX1_sizeOfAny_8 : decode cX1_sizeOfAny 8 = .ok (.invokevirtual 51, 3) := by decide +kernel
theorem dX1_sizeOfAny_11 : decode cX1_sizeOfAny 11 = .ok (.invokestatic 54, 3) := by decide +kernel
theorem dX1_sizeOfAny_14 : decode cX1_sizeOfAny 14 = .ok (.ireturn, 1) := by decide +kernel
theorem dX1_sizeOfPlain_0 : decode cX1_sizeOfPlain 0 = .ok (.aload_n 1, 1) := by decide +kernel
theorem dX1_sizeOfPlain_1 : decode cX1_sizeOfPlain 1 = .ok (.iload_n 2, 1) := by decide +kernel
theorem dX1_sizeOfPlain_2 : decode cX1_sizeOfPlain 2 = .ok (.invokevirtual 19, 3) := by decide +kernel
theorem dX1_sizeOfPlain_5 : decode cX1_sizeOfPlain 5 = .ok (.iconst 2, 1) := by decide +kernel
theorem dX1_sizeOfPlain_6 : decode cX1_sizeOfPlain 6 = .ok (.if_icmp .ne 7, 3) := by decide +kernel
theorem dX1_sizeOfPlain_9 : decode cX1_sizeOfPlain 9 = .ok (.iconst 1, 1) := by decide +kernel
theorem dX1_sizeOfPlain_10 : decode cX1_sizeOfPlain 10 = .ok (.goto 4, 3) := by decide +kernel
theorem dX1_sizeOfPlain_13 : decode cX1_sizeOfPlain 13 = .ok (.iconst 0, 1) := by decide +kernel
theorem dX1_sizeOfPlain_14 : decode cX1_sizeOfPlain 14 = .ok (.istore_n 3, 1) := by decide +kernel
theorem dX1_sizeOfPlain_15 : decode cX1_sizeOfPlain 15 = .ok (.iload_n 3, 1) := by decide +kernel
theorem dX1_sizeOfPlain_16 : decode cX1_sizeOfPlain 16 = .ok (.ifCond .eq 9, 3) := by decide +kernel
theorem dX1_sizeOfPlain_19 : decode cX1_sizeOfPlain 19 = .ok (.aload_n 0, 1) := by decide +kernel
theorem dX1_sizeOfPlain_20 : decode cX1_sizeOfPlain 20 = .ok (.bipush 12, 2) := by decide +kernel
theorem dX1_sizeOfPlain_22 : decode cX1_sizeOfPlain 22 = .ok (.invokevirtual 47, 3) := by decide +kernel
theorem dX1_sizeOfPlain_25 : decode cX1_sizeOfPlain 25 = .ok (.aload_n 0, 1) := by decide +kernel
theorem dX1_sizeOfPlain_26 : decode cX1_sizeOfPlain 26 = .ok (.bipush 11, 2) := by decide +kernel
theorem dX1_sizeOfPlain_28 : decode cX1_sizeOfPlain 28 = .ok (.invokevirtual 47, 3) := by decide +kernel
theorem dX1_sizeOfPlain_31 : decode cX1_sizeOfPlain 31 = .ok (.aload_n 0, 1) := by decide +kernel
theorem dX1_sizeOfPlain_32 : decode cX1_sizeOfPlain 32 = .ok (.aload_n 1, 1) := by decide +kernel
theorem dX1_sizeOfPlain_33 : decode cX1_sizeOfPlain 33 = .ok (.iload_n 2, 1) := by decide +kernel
theorem dX1_sizeOfPlain_34 : decode cX1_sizeOfPlain 34 = .ok (.invokevirtual 59, 3) := by decide +kernel
theorem dX1_sizeOfPlain_37 : decode cX1_sizeOfPlain 37 = .ok (.aload_n 0, 1) := by decide +kernel
theorem dX1_sizeOfPlain_38 : decode cX1_sizeOfPlain 38 = .ok (.aload_n 1, 1) := by decide +kernel
theorem dX1_sizeOfPlain_39 : decode cX1_sizeOfPlain 39 = .ok (.iload_n 2, 1) := by decide +kernel
theorem dX1_sizeOfPlain_40 : decode cX1_sizeOfPlain 40 = .ok (.invokevirtual 39, 3) := by decide +kernel
theorem dX1_sizeOfPlain_43 : decode cX1_sizeOfPlain 43 = .ok (.iadd, 1) := by decide +kernel
theorem dX1_sizeOfPlain_44 : decode cX1_sizeOfPlain 44 = .ok (.istore 4, 2) := by decide +kernel
theorem dX1_sizeOfPlain_46 : decode cX1_sizeOfPlain 46 = .ok (.iload_n 3, 1) := by decide +kernel
theorem dX1_sizeOfPlain_47 : decode cX1_sizeOfPlain 47 = .ok (.ifCond .eq 10, 3) := by decide +kernel
theorem dX1_sizeOfPlain_50 : decode cX1_sizeOfPlain 50 = .ok (.iconst 0, 1) := by decide +kernel
theorem dX1_sizeOfPlain_51 : decode cX1_sizeOfPlain 51 = .ok (.iload 4, 2) := by decide +kernel
theorem dX1_sizeOfPlain_53 : decode cX1_sizeOfPlain 53 = .ok (.isub, 1) := by decide +kernel
theorem dX1_sizeOfPlain_54 : decode cX1_sizeOfPlain 54 = .ok (.goto 5, 3) := by decide +kernel
theorem dX1_sizeOfPlain_57 : decode cX1_sizeOfPlain 57 = .ok (.iload 4, 2) := by decide +kernel
theorem dX1_sizeOfPlain_59 : decode cX1_sizeOfPlain 59 = .ok (.ireturn, 1) := by decide +kernel
theorem dX1_sizeOfMark_0 : decode cX1_sizeOfMark 0 = .ok (.aload_n 1, 1) := by decide +kernel
theorem dX1_sizeOfMark_1 : decode cX1_sizeOfMark 1 = .ok (.iload_n 2, 1) := by decide +kernel
theorem dX1_sizeOfMark_2 : decode cX1_sizeOfMark 2 = .ok (.invokevirtual 19, 3) := by decide +kernel
theorem dX1_sizeOfMark_5 : decode cX1_sizeOfMark 5 = .ok (.iconst 5, 1) := by decide +kernel
theorem dX1_sizeOfMark_6 : decode cX1_sizeOfMark 6 = .ok (.if_icmp .ne 7, 3) := by decide +kernel
theorem dX1_sizeOfMark_9 : decode cX1_sizeOfMark 9 = .ok (.iconst 1, 1) := by decide +kernel
theorem dX1_sizeOfMark_10 : decode cX1_sizeOfMark 10 = .ok (.goto 4, 3) := by decide +kernel
theorem dX1_sizeOfMark_13 : decode cX1_sizeOfMark 13 = .ok (.iconst 0, 1) := by decide +kernel
theorem dX1_sizeOfMark_14 : decode cX1_sizeOfMark 14 = .ok (.istore_n 3, 1) := by decide +kernel
theorem dX1_sizeOfMark_15 : decode cX1_sizeOfMark 15 = .ok (.iload_n 3, 1) := by decide +kernel
theorem dX1_sizeOfMark_16 : decode cX1_sizeOfMark 16 = .ok (.ifCond .eq 9, 3) := by decide +kernel
theorem dX1_sizeOfMark_19 : decode cX1_sizeOfMark 19 = .ok (.aload_n 0, 1) := by decide +kernel
theorem dX1_sizeOfMark_20 : decode cX1_sizeOfMark 20 = .ok (.bipush 14, 2) := by decide +kernel
theorem dX1_sizeOfMark_22 : decode cX1_sizeOfMark 22 = .ok (.invokevirtual 47, 3) := by decide +kernel
theorem dX1_sizeOfMark_25 : decode cX1_sizeOfMark 25 = .ok (.aload_n 0, 1) := by decide +kernel
theorem dX1_sizeOfMark_26 : decode cX1_sizeOfMark 26 = .ok (.bipush 13, 2) := by decide +kernel
theorem dX1_sizeOfMark_28 : decode cX1_sizeOfMark 28 = .ok (.invokevirtual 47, 3) := by decide +kernel
theorem dX1_sizeOfMark_31 : decode cX1_sizeOfMark 31 = .ok (.aload_n 0, 1) := by decide +kernel
theorem dX1_sizeOfMark_32 : decode cX1_sizeOfMark 32 = .ok (.aload_n 1, 1) := by decide +kernel
theorem dX1_sizeOfMark_33 : decode cX1_sizeOfMark 33 = .ok (.iload_n 2, 1) := by decide +kernel
theorem dX1_sizeOfMark_34 : decode cX1_sizeOfMark 34 = .ok (.invokevirtual 59, 3) := by decide +kernel
theorem dX1_sizeOfMark_37 : decode cX1_sizeOfMark 37 = .ok (.bipush 100, 2) := by decide +kernel
theorem dX1_sizeOfMark_39 : decode cX1_sizeOfMark 39 = .ok (.isub, 1) := by decide +kernel
theorem dX1_sizeOfMark_40 : decode cX1_sizeOfMark 40 = .ok (.istore 4, 2) := by decide +kernel
theorem dX1_sizeOfMark_42 : decode cX1_sizeOfMark 42 = .ok (.iload_n 3, 1) := by decide +kernel
theorem dX1_sizeOfMark_43 : decode cX1_sizeOfMark 43 = .ok (.ifCond .eq 10, 3) := by decide +kernel
theorem dX1_sizeOfMark_46 : decode cX1_sizeOfMark 46 = .ok (.iconst 2, 1) := by decide +kernel
theorem dX1_sizeOfMark_47 : decode cX1_sizeOfMark 47 = .ok (.iload 4, 2) := by decide +kernel
theorem dX1_sizeOfMark_49 : decode cX1_sizeOfMark 49 = .ok (.imul, 1) := by decide +kernel
theorem dX1_sizeOfMark_50 : decode cX1_sizeOfMark 50 = .ok (.goto 5, 3) := by decide +kernel
theorem dX1_sizeOfMark_53 : decode cX1_sizeOfMark 53 = .ok (.iload 4, 2) := by decide +kernel
theorem dX1_sizeOfMark_55 : decode cX1_sizeOfMark 55 = .ok (.ireturn, 1) := by decide +kernel
theorem dX1_markOfAny_0 : decode cX1_markOfAny 0 = .ok (.aload_n 0, 1) := by decide +kernel
theorem dX1_markOfAny_1 : decode cX1_markOfAny 1 = .ok (.bipush 20, 2) := by decide +kernel
theorem dX1_markOfAny_3 : decode cX1_markOfAny 3 = .ok (.invokevirtual 47, 3) := by decide +kernel
theorem dX1_markOfAny_6 : decode cX1_markOfAny 6 = .ok (.iload_n 1, 1) := by decide +kernel
theorem dX1_markOfAny_7 : decode cX1_markOfAny 7 = .ok (.ireturn, 1) := by decide +kernel
theorem dX1_markOfPlain_0 : decode cX1_markOfPlain 0 = .ok (.aload_n 1, 1) := by decide +kernel
theorem dX1_markOfPlain_1 : decode cX1_markOfPlain 1 = .ok (.iload_n 2, 1) := by decide +kernel
theorem dX1_markOfPlain_2 : decode cX1_markOfPlain 2 = .ok (.invokevirtual 19, 3) := by decide +kernel
theorem dX1_markOfPlain_5 : decode cX1_markOfPlain 5 = .ok (.istore_n 3, 1) := by decide +kernel
theorem dX1_markOfPlain_6 : decode cX1_markOfPlain 6 = .ok (.iload_n 3, 1) := by decide +kernel
theorem dX1_markOfPlain_7 : decode cX1_markOfPlain 7 = .ok (.iconst 3, 1) := by decide +kernel
theorem dX1_markOfPlain_8 : decode cX1_markOfPlain 8 = .ok (.if_icmp .ne 12, 3) := by decide +kernel
theorem dX1_markOfPlain_11 : decode cX1_markOfPlain 11 = .ok (.aload_n 0, 1) := by decide +kernel
theorem dX1_markOfPlain_12 : decode cX1_markOfPlain 12 = .ok (.bipush 22, 2) := by decide +kernel
theorem dX1_markOfPlain_14 : decode cX1_markOfPlain 14 = .ok (.invokevirtual 47, 3) := by decide +kernel
theorem dX1_markOfPlain_17 : decode cX1_markOfPlain 17 = .ok (.goto 14, 3) := by decide +kernel
theorem dX1_markOfPlain_20 : decode cX1_markOfPlain 20 = .ok (.iload_n 3, 1) := by decide +kernel
theorem dX1_markOfPlain_21 : decode cX1_markOfPlain 21 = .ok (.iconst 2, 1) := by decide +kernel
theorem dX1_markOfPlain_22 : decode cX1_markOfPlain 22 = .ok (.if_icmp .ne 9, 3) := by decide +kernel
theorem dX1_markOfPlain_25 : decode cX1_markOfPlain 25 = .ok (.aload_n 0, 1) := by decide +kernel
theorem dX1_markOfPlain_26 : decode cX1_markOfPlain 26 = .ok (.bipush 24, 2) := by decide +kernel
theorem dX1_markOfPlain_28 : decode cX1_markOfPlain 28 = .ok (.invokevirtual 47, 3) := by decide +kernel
theorem dX1_markOfPlain_31 : decode cX1_markOfPlain 31 = .ok (.aload_n 0, 1) := by decide +kernel
theorem dX1_markOfPlain_32 : decode cX1_markOfPlain 32 = .ok (.bipush 21, 2) := by decide +kernel
theorem dX1_markOfPlain_34 : decode cX1_markOfPlain 34 = .ok (.invokevirtual 47, 3) := by decide +kernel
theorem dX1_markOfPlain_37 : decode cX1_markOfPlain 37 = .ok (.aload_n 0, 1) := by decide +kernel
theorem dX1_markOfPlain_38 : decode cX1_markOfPlain 38 = .ok (.iload_n 2, 1) := by decide +kernel
theorem dX1_markOfPlain_39 : decode cX1_markOfPlain 39 = .ok (.invokevirtual 62, 3) := by decide +kernel
theorem dX1_markOfPlain_42 : decode cX1_markOfPlain 42 = .ok (.aload_n 1, 1) := by decide +kernel
theorem dX1_markOfPlain_43 : decode cX1_markOfPlain 43 = .ok (.iload_n 2, 1) := by decide +kernel
theorem dX1_markOfPlain_44 : decode cX1_markOfPlain 44 = .ok (.invokevirtual 51, 3) := by decide +kernel
theorem dX1_markOfPlain_47 : decode cX1_markOfPlain 47 = .ok (.iadd, 1) := by decide +kernel
theorem dX1_markOfPlain_48 : decode cX1_markOfPlain 48 = .ok (.istore 4, 2) := by decide +kernel
theorem dX1_markOfPlain_50 : decode cX1_markOfPlain 50 = .ok (.iload_n 3, 1) := by decide +kernel
theorem dX1_markOfPlain_51 : decode cX1_markOfPlain 51 = .ok (.iconst 3, 1) := by decide +kernel
theorem dX1_markOfPlain_52 : decode cX1_markOfPlain 52 = .ok (.if_icmp .ne 12, 3) := by decide +kernel
theorem dX1_markOfPlain_55 : decode cX1_markOfPlain 55 = .ok (.iload 4, 2) := by decide +kernel
theorem dX1_markOfPlain_57 : decode cX1_markOfPlain 57 = .ok (.sipush 1000, 3) := by decide +kernel
theorem dX1_markOfPlain_60 : decode cX1_markOfPlain 60 = .ok (.isub, 1) := by decide +kernel
theorem dX1_markOfPlain_61 : decode cX1_markOfPlain 61 = .ok (.goto 17, 3) := by decide +kernel
theorem dX1_markOfPlain_64 : decode cX1_markOfPlain 64 = .ok (.iload_n 3, 1) := by decide +kernel
theorem dX1_markOfPlain_65 : decode cX1_markOfPlain 65 = .ok (.iconst 2, 1) := by decide +kernel
theorem dX1_markOfPlain_66 : decode cX1_markOfPlain 66 = .ok (.if_icmp .ne 10, 3) := by decide +kernel
theorem dX1_markOfPlain_69 : decode cX1_markOfPlain 69 = .ok (.iconst 2, 1) := by decide +kernel
theorem dX1_markOfPlain_70 : decode cX1_markOfPlain 70 = .ok (.iload 4, 2) := by decide +kernel
theorem dX1_markOfPlain_72 : decode cX1_markOfPlain 72 = .ok (.imul, 1) := by decide +kernel
theorem dX1_markOfPlain_73 : decode cX1_markOfPlain 73 = .ok (.goto 5, 3) := by decide +kernel
theorem dX1_markOfPlain_76 : decode cX1_markOfPlain 76 = .ok (.iload 4, 2) := by decide +kernel
theorem dX1_markOfPlain_78 : decode cX1_markOfPlain 78 = .ok (.ireturn, 1) := by decide +kernel
theorem dX1_markOfMark_0 : decode cX1_markOfMark 0 = .ok (.aload_n 0, 1) := by decide +kernel
theorem dX1_markOfMark_1 : decode cX1_markOfMark 1 = .ok (.bipush 23, 2) := by decide +kernel
theorem dX1_markOfMark_3 : decode cX1_markOfMark 3 = .ok (.invokevirtual 47, 3) := by decide +kernel
theorem dX1_markOfMark_6 : decode cX1_markOfMark 6 = .ok (.aload_n 0, 1) := by decide +kernel
theorem dX1_markOfMark_7 : decode cX1_markOfMark 7 = .ok (.iload_n 2, 1) := by decide +kernel
theorem dX1_markOfMark_8 : decode cX1_markOfMark 8 = .ok (.invokevirtual 62, 3) := by decide +kernel
theorem dX1_markOfMark_11 : decode cX1_markOfMark 11 = .ok (.aload_n 0, 1) := by decide +kernel
theorem dX1_markOfMark_12 : decode cX1_markOfMark 12 = .ok (.aload_n 1, 1) := by decide +kernel
theorem dX1_markOfMark_13 : decode cX1_markOfMark 13 = .ok (.iload_n 2, 1) := by decide +kernel
theorem dX1_markOfMark_14 : decode cX1_markOfMark 14 = .ok (.invokevirtual 29, 3) := by decide +kernel
theorem dX1_markOfMark_17 : decode cX1_markOfMark 17 = .ok (.isub, 1) := by decide +kernel
theorem dX1_markOfMark_18 : decode cX1_markOfMark 18 = .ok (.ireturn, 1) := by decide +kernel
theorem dX1_begin_0 : decode cX1_begin 0 = .ok (.aload_n 0, 1) := by decide +kernel
theorem dX1_begin_1 : decode cX1_begin 1 = .ok (.getfield 15, 3) := by decide +kernel
theorem dX1_begin_4 : decode cX1_begin 4 = .ok (.bipush 16, 2) := by decide +kernel
theorem dX1_begin_6 : decode cX1_begin 6 = .ok (.if_icmp .ge 25, 3) := by decide +kernel
theorem dX1_begin_9 : decode cX1_begin 9 = .ok (.aload_n 0, 1) := by decide +kernel
theorem dX1_begin_10 : decode cX1_begin 10 = .ok (.getfield 9, 3) := by decide +kernel
theorem dX1_begin_13 : decode cX1_begin 13 = .ok (.aload_n 0, 1) := by decide +kernel
theorem dX1_begin_14 : decode cX1_begin 14 = .ok (.getfield 15, 3) := by decide +kernel
theorem dX1_begin_17 : decode cX1_begin 17 = .ok (.iload_n 1, 1) := by decide +kernel
theorem dX1_begin_18 : decode cX1_begin 18 = .ok (.invokestatic 65, 3) := by decide +kernel
theorem dX1_begin_21 : decode cX1_begin 21 = .ok (.aload_n 0, 1) := by decide +kernel
theorem dX1_begin_22 : decode cX1_begin 22 = .ok (.dup, 1) := by decide +kernel
theorem dX1_begin_23 : decode cX1_begin 23 = .ok (.getfield 15, 3) := by decide +kernel
theorem dX1_begin_26 : decode cX1_begin 26 = .ok (.iconst 1, 1) := by decide +kernel
theorem dX1_begin_27 : decode cX1_begin 27 = .ok (.iadd, 1) := by decide +kernel
theorem dX1_begin_28 : decode cX1_begin 28 = .ok (.putfield 15, 3) := by decide +kernel
theorem dX1_begin_31 : decode cX1_begin 31 = .ok (.return_, 1) := by decide +kernel
theorem dX2_init_0 : decode cX2_init 0 = .ok (.aload_n 0, 1) := by decide +kernel
theorem dX2_init_1 : decode cX2_init 1 = .ok (.invokespecial 3, 3) := by decide +kernel
theorem dX2_init_4 : decode cX2_init 4 = .ok (.aload_n 0, 1) := by decide +kernel
theorem dX2_init_5 : decode cX2_init 5 = .ok (.bipush 8, 2) := by decide +kernel
theorem dX2_init_7 : decode cX2_init 7 = .ok (.newarray .int, 2) := by decide +kernel
theorem dX2_init_9 : decode cX2_init 9 = .ok (.putfield 9, 3) := by decide +kernel
theorem dX2_init_12 : decode cX2_init 12 = .ok (.aload_n 0, 1) := by decide +kernel
theorem dX2_init_13 : decode cX2_init 13 = .ok (.bipush 8, 2) := by decide +kernel
theorem dX2_init_15 : decode cX2_init 15 = .ok (.newarray .int, 2) := by decide +kernel
theorem dX2_init_17 : decode cX2_init 17 = .ok (.putfield 15, 3) := by decide +kernel
theorem dX2_init_20 : decode cX2_init 20 = .ok (.aload_n 0, 1) := by decide +kernel
theorem dX2_init_21 : decode cX2_init 21 = .ok (.bipush 8, 2) := by decide +kernel
theorem dX2_init_23 : decode cX2_init 23 = .ok (.newarray .int, 2) := by decide +kernel
theorem dX2_init_25 : decode cX2_init 25 = .ok (.putfield 18, 3) := by decide +kernel
theorem dX2_init_28 : decode cX2_init 28 = .ok (.aload_n 0, 1) := by decide +kernel
theorem dX2_init_29 : decode cX2_init 29 = .ok (.bipush 9, 2) := by decide +kernel
theorem dX2_init_31 : decode cX2_init 31 = .ok (.newarray .int, 2) := by decide +kernel
theorem dX2_init_33 : decode cX2_init 33 = .ok (.putfield 21, 3) := by decide +kernel
theorem dX2_init_36 : decode cX2_init 36 = .ok (.aload_n 0, 1) := by decide +kernel
theorem dX2_init_37 : decode cX2_init 37 = .ok (.bipush 9, 2) := by decide +kernel
theorem dX2_init_39 : decode cX2_init 39 = .ok (.newarray .int, 2) := by decide +kernel
theorem dX2_init_41 : decode cX2_init 41 = .ok (.putfield 24, 3) := by decide +kernel
theorem dX2_init_44 : decode cX2_init 44 = .ok (.return_, 1) := by decide +kernel
theorem dX2_isThere_0 : decode cX2_isThere 0 = .ok (.aload_n 0, 1) := by decide +kernel
theorem dX2_isThere_1 : decode cX2_isThere 1 = .ok (.getfield 27, 3) := by decide +kernel
theorem dX2_isThere_4 : decode cX2_isThere 4 = .ok (.ifCond .le 7, 3) := by decide +kernel
theorem dX2_isThere_7 : decode cX2_isThere 7 = .ok (.iconst 1, 1) := by decide +kernel
theorem dX2_isThere_8 : decode cX2_isThere 8 = .ok (.goto 4, 3) := by decide +kernel
theorem dX2_isThere_11 : decode cX2_isThere 11 = .ok (.iconst 0, 1) := by decide +kernel
theorem dX2_isThere_12 : decode cX2_isThere 12 = .ok (.ireturn, 1) := by decide +kernel
theorem dX2_hasLetter_0 : decode cX2_hasLetter 0 = .ok (.iload_n 1, 1) := by decide +kernel
theorem dX2_hasLetter_1 : decode cX2_hasLetter 1 = .ok (.ifCond .lt 15, 3) := by decide +kernel
theorem dX2_hasLetter_4 : decode cX2_hasLetter 4 = .ok (.iload_n 1, 1) := by decide +kernel
theorem dX2_hasLetter_5 : decode cX2_hasLetter 5 = .ok (.aload_n 0, 1) := by decide +kernel
theorem dX2_hasLetter_6 : decode cX2_hasLetter 6 = .ok (.getfield 27, 3) := by decide +kernel
theorem dX2_hasLetter_9 : decode cX2_hasLetter 9 = .ok (.if_icmp .ge 7, 3) := by decide +kernel
theorem dX2_hasLetter_12 : decode cX2_hasLetter 12 = .ok (.iconst 1, 1) := by decide +kernel
theorem dX2_hasLetter_13 : decode cX2_hasLetter 13 = .ok (.goto 4, 3) := by decide +kernel
theorem dX2_hasLetter_16 : decode cX2_hasLetter 16 = .ok (.iconst 0, 1) := by decide +kernel
theorem dX2_hasLetter_17 : decode cX2_hasLetter 17 = .ok (.ireturn, 1) := by decide +kernel
theorem dX2_hasPlace_0 : decode cX2_hasPlace 0 = .ok (.iload_n 1, 1) := by decide +kernel
theorem dX2_hasPlace_1 : decode cX2_hasPlace 1 = .ok (.ifCond .eq 8, 3) := by decide +kernel
theorem dX2_hasPlace_4 : decode cX2_hasPlace 4 = .ok (.iload_n 1, 1) := by decide +kernel
theorem dX2_hasPlace_5 : decode cX2_hasPlace 5 = .ok (.iconst 1, 1) := by decide +kernel
theorem dX2_hasPlace_6 : decode cX2_hasPlace 6 = .ok (.if_icmp .ne 19, 3) := by decide +kernel
theorem dX2_hasPlace_9 : decode cX2_hasPlace 9 = .ok (.iload_n 2, 1) := by decide +kernel
theorem dX2_hasPlace_10 : decode cX2_hasPlace 10 = .ok (.ifCond .lt 15, 3) := by decide +kernel
theorem dX2_hasPlace_13 : decode cX2_hasPlace 13 = .ok (.iload_n 2, 1) := by decide +kernel
theorem dX2_hasPlace_14 : decode cX2_hasPlace 14 = .ok (.aload_n 0, 1) := by decide +kernel
theorem dX2_hasPlace_15 : decode cX2_hasPlace 15 = .ok (.getfield 31, 3) := by decide +kernel
theorem dX2_hasPlace_18 : decode cX2_hasPlace 18 = .ok (.if_icmp .ge 7, 3) := by decide +kernel
theorem dX2_hasPlace_21 : decode cX2_hasPlace 21 = .ok (.iconst 1, 1) := by decide +kernel
theorem dX2_hasPlace_22 : decode cX2_hasPlace 22 = .ok (.goto 4, 3) := by decide +kernel
theorem dX2_hasPlace_25 : decode cX2_hasPlace 25 = .ok (.iconst 0, 1) := by decide +kernel
theorem dX2_hasPlace_26 : decode cX2_hasPlace 26 = .ok (.ireturn, 1) := by decide +kernel
theorem dX2_makeEmpty_0 : decode cX2_makeEmpty 0 = .ok (.aload_n 0, 1) := by decide +kernel
theorem dX2_makeEmpty_1 : decode cX2_makeEmpty 1 = .ok (.iconst 0, 1) := by decide +kernel
theorem dX2_makeEmpty_2 : decode cX2_makeEmpty 2 = .ok (.putfield 34, 3) := by decide +kernel
theorem dX2_makeEmpty_5 : decode cX2_makeEmpty 5 = .ok (.aload_n 0, 1) := by decide +kernel
theorem dX2_makeEmpty_6 : decode cX2_makeEmpty 6 = .ok (.iconst 0, 1) := by decide +kernel
theorem dX2_makeEmpty_7 : decode cX2_makeEmpty 7 = .ok (.putfield 27, 3) := by decide +kernel
theorem dX2_makeEmpty_10 : decode cX2_makeEmpty 10 = .ok (.aload_n 0, 1) := by decide +kernel
theorem dX2_makeEmpty_11 : decode cX2_makeEmpty 11 = .ok (.iconst 0, 1) := by decide +kernel
theorem dX2_makeEmpty_12 : decode cX2_makeEmpty 12 = .ok (.putfield 31, 3) := by decide +kernel
theorem dX2_makeEmpty_15 : decode cX2_makeEmpty 15 = .ok (.return_, 1) := by decide +kernel
theorem dX2_takeAll_0 : decode cX2_takeAll 0 = .ok (.aload_n 0, 1) := by decide +kernel
theorem dX2_takeAll_1 : decode cX2_takeAll 1 = .ok (.aload_n 1, 1) := by decide +kernel
theorem dX2_takeAll_2 : decode cX2_takeAll 2 = .ok (.getfield 34, 3) := by decide +kernel
theorem dX2_takeAll_5 : decode cX2_takeAll 5 = .ok (.putfield 34, 3) := by decide +kernel
theorem dX2_takeAll_8 : decode cX2_takeAll 8 = .ok (.aload_n 0, 1) := by decide +kernel
theorem dX2_takeAll_9 : decode cX2_takeAll 9 = .ok (.aload_n 1, 1) := by decide +kernel
theorem dX2_takeAll_10 : decode cX2_takeAll 10 = .ok (.getfield 27, 3) := by decide +kernel
theorem dX2_takeAll_13 : decode cX2_takeAll 13 = .ok (.putfield 27, 3) := by decide +kernel
theorem dX2_takeAll_16 : decode cX2_takeAll 16 = .ok (.aload_n 0, 1) := by decide +kernel
theorem dX2_takeAll_17 : decode cX2_takeAll 17 = .ok (.aload_n 1, 1) := by decide +kernel
theorem dX2_takeAll_18 : decode cX2_takeAll 18 = .ok (.getfield 31, 3) := by decide +kernel
theorem dX2_takeAll_21 : decode cX2_takeAll 21 = .ok (.putfield 31, 3) := by decide +kernel
theorem dX2_takeAll_24 : decode cX2_takeAll 24 = .ok (.aload_n 1, 1) := by decide +kernel
theorem dX2_takeAll_25 : decode cX2_takeAll 25 = .ok (.getfield 9, 3) := by decide +kernel
theorem dX2_takeAll_28 : decode cX2_takeAll 28 = .ok (.iconst 0, 1) := by decide +kernel
theorem dX2_takeAll_29 : decode cX2_takeAll 29 = .ok (.aload_n 0, 1) := by decide +kernel
theorem dX2_takeAll_30 : decode cX2_takeAll 30 = .ok (.getfield 9, 3) := by decide +kernel
theorem dX2_takeAll_33 : decode cX2_takeAll 33 = .ok (.iconst 0, 1) := by decide +kernel
theorem dX2_takeAll_34 : decode cX2_takeAll 34 = .ok (.bipush 8, 2) := by decide +kernel
theorem dX2_takeAll_36 : decode cX2_takeAll 36 = .ok (.invokestatic 37, 3) := by decide +kernel
theorem dX2_takeAll_39 : decode cX2_takeAll 39 = .ok (.aload_n 1, 1) := by decide +kernel
theorem dX2_takeAll_40 : decode cX2_takeAll 40 = .ok (.getfield 15, 3) := by decide +kernel
theorem dX2_takeAll_43 : decode cX2_takeAll 43 = .ok (.iconst 0, 1) := by decide +kernel
theorem dX2_takeAll_44 : decode cX2_takeAll 44 = .ok (.aload_n 0, 1) := by decide +kernel
theorem dX2_takeAll_45 : decode cX2_takeAll 45 = .ok (.getfield 15, 3) := by decide +kernel
theorem dX2_takeAll_48 : decode cX2_takeAll 48 = .ok (.iconst 0, 1) := by decide +kernel
theorem dX2_takeAll_49 : decode cX2_takeAll 49 = .ok (.bipush 8, 2) := by decide +kernel
theorem dX2_takeAll_51 : decode cX2_takeAll 51 = .ok (.invokestatic 37, 3) := by decide +kernel
theorem dX2_takeAll_54 : decode cX2_takeAll 54 = .ok (.aload_n 1, 1) := by decide +kernel
theorem dX2_takeAll_55 : decode cX2_takeAll 55 = .ok (.getfield 18, 3) := by decide +kernel
theorem dX2_takeAll_58 : decode cX2_takeAll 58 = .ok (.iconst 0, 1) := by decide +kernel
theorem dX2_takeAll_59 : decode cX2_takeAll 59 = .ok (.aload_n 0, 1) := by decide +kernel
theorem dX2_takeAll_60 : decode cX2_takeAll 60 = .ok (.getfield 18, 3) := by decide +kernel
theorem dX2_takeAll_63 : decode cX2_takeAll 63 = .ok (.iconst 0, 1) := by decide +kernel
theorem dX2_takeAll_64 : decode cX2_takeAll 64 = .ok (.bipush 8, 2) := by decide +kernel
theorem dX2_takeAll_66 : decode cX2_takeAll 66 = .ok (.invokestatic 37, 3) := by decide +kernel
theorem dX2_takeAll_69 : decode cX2_takeAll 69 = .ok (.aload_n 1, 1) := by decide +kernel
theorem dX2_takeAll_70 : decode cX2_takeAll 70 = .ok (.getfield 21, 3) := by decide +kernel
theorem dX2_takeAll_73 : decode cX2_takeAll 73 = .ok (.iconst 0, 1) := by decide +kernel
theorem dX2_takeAll_74 : decode cX2_takeAll 74 = .ok (.aload_n 0, 1) := by decide +kernel
theorem dX2_takeAll_75 : decode cX2_takeAll 75 = .ok (.getfield 21, 3) := by decide +kernel
theorem dX2_takeAll_78 : decode cX2_takeAll 78 = .ok (.iconst 0, 1) := by decide +kernel
theorem dX2_takeAll_79 : decode cX2_takeAll 79 = .ok (.bipush 9, 2) := by decide +kernel
theorem dX2_takeAll_81 : decode cX2_takeAll 81 = .ok (.invokestatic 37, 3) := by decide +kernel
theorem dX2_takeAll_84 : decode cX2_takeAll 84 = .ok (.aload_n 1, 1) := by decide +kernel
theorem dX2_takeAll_85 : decode cX2_takeAll 85 = .ok (.getfield 24, 3) := by decide +kernel
theorem dX2_takeAll_88 : decode cX2_takeAll 88 = .ok (.iconst 0, 1) := by decide +kernel
theorem dX2_takeAll_89 : decode cX2_takeAll 89 = .ok (.aload_n 0, 1) := by decide +kernel
theorem dX2_takeAll_90 : decode cX2_takeAll 90 = .ok (.getfield 24, 3) := by decide +kernel
theorem dX2_takeAll_93 : decode cX2_takeAll 93 = .ok (.iconst 0, 1) := by decide +kernel
theorem dX2_takeAll_94 : decode cX2_takeAll 94 = .ok (.bipush 9, 2) := by decide +kernel
theorem dX2_takeAll_96 : decode cX2_takeAll 96 = .ok (.invokestatic 37, 3) := by decide +kernel
theorem dX2_takeAll_99 : decode cX2_takeAll 99 = .ok (.return_, 1) := by decide +kernel
theorem dX2_addLetter_0 : decode cX2_addLetter 0 = .ok (.aload_n 0, 1) := by decide +kernel
theorem dX2_addLetter_1 : decode cX2_addLetter 1 = .ok (.getfield 15, 3) := by decide +kernel
theorem dX2_addLetter_4 : decode cX2_addLetter 4 = .ok (.aload_n 0, 1) := by decide +kernel
theorem dX2_addLetter_5 : decode cX2_addLetter 5 = .ok (.getfield 27, 3) := by decide +kernel
theorem dX2_addLetter_8 : decode cX2_addLetter 8 = .ok (.iload_n 1, 1) := by decide +kernel
theorem dX2_addLetter_9 : decode cX2_addLetter 9 = .ok (.invokestatic 41, 3) := by decide +kernel
theorem dX2_addLetter_12 : decode cX2_addLetter 12 = .ok (.aload_n 0, 1) := by decide +kernel
theorem dX2_addLetter_13 : decode cX2_addLetter 13 = .ok (.getfield 9, 3) := by decide +kernel
theorem dX2_addLetter_16 : decode cX2_addLetter 16 = .ok (.aload_n 0, 1) := by decide +kernel
theorem dX2_addLetter_17 : decode cX2_addLetter 17 = .ok (.getfield 27, 3) := by decide +kernel
theorem dX2_addLetter_20 : decode cX2_addLetter 20 = .ok (.iload_n 2, 1) := by decide +kernel
theorem dX2_addLetter_21 : decode cX2_addLetter 21 = .ok (.invokestatic 41, 3) := by decide +kernel
theorem dX2_addLetter_24 : decode cX2_addLetter 24 = .ok (.aload_n 0, 1) := by decide +kernel
theorem dX2_addLetter_25 : decode cX2_addLetter 25 = .ok (.getfield 18, 3) := by decide +kernel
theorem dX2_addLetter_28 : decode cX2_addLetter 28 = .ok (.aload_n 0, 1) := by decide +kernel
theorem dX2_addLetter_29 : decode cX2_addLetter 29 = .ok (.getfield 27, 3) := by decide +kernel
theorem dX2_addLetter_32 : decode cX2_addLetter 32 = .ok (.iload_n 1, 1) := by decide +kernel
theorem dX2_addLetter_33 : decode cX2_addLetter 33 = .ok (.iload_n 2, 1) := by decide +kernel
theorem dX2_addLetter_34 : decode cX2_addLetter 34 = .ok (.invokestatic 45, 3) := by decide +kernel
theorem dX2_addLetter_37 : decode cX2_addLetter 37 = .ok (.invokestatic 41, 3) := by decide +kernel
theorem dX2_addLetter_40 : decode cX2_addLetter 40 = .ok (.aload_n 0, 1) := by decide +kernel
theorem dX2_addLetter_41 : decode cX2_addLetter 41 = .ok (.dup, 1) := by decide +kernel
theorem dX2_addLetter_42 : decode cX2_addLetter 42 = .ok (.getfield 27, 3) := by decide +kernel
theorem dX2_addLetter_45 : decode cX2_addLetter 45 = .ok (.iconst 1, 1) := by decide +kernel
theorem dX2_addLetter_46 : decode cX2_addLetter 46 = .ok (.iadd, 1) := by decide +kernel
theorem dX2_addLetter_47 : decode cX2_addLetter 47 = .ok (.putfield 27, 3) := by decide +kernel
theorem dX2_addLetter_50 : decode cX2_addLetter 50 = .ok (.return_, 1) := by decide +kernel
theorem dX2_addPlace_0 : decode cX2_addPlace 0 = .ok (.aload_n 0, 1) := by decide +kernel
theorem dX2_addPlace_1 : decode cX2_addPlace 1 = .ok (.getfield 21, 3) := by decide +kernel
theorem dX2_addPlace_4 : decode cX2_addPlace 4 = .ok (.aload_n 0, 1) := by decide +kernel
theorem dX2_addPlace_5 : decode cX2_addPlace 5 = .ok (.getfield 31, 3) := by decide +kernel
theorem dX2_addPlace_8 : decode cX2_addPlace 8 = .ok (.iload_n 1, 1) := by decide +kernel
theorem dX2_addPlace_9 : decode cX2_addPlace 9 = .ok (.invokestatic 41, 3) := by decide +kernel
theorem dX2_addPlace_12 : decode cX2_addPlace 12 = .ok (.aload_n 0, 1) := by decide +kernel
theorem dX2_addPlace_13 : decode cX2_addPlace 13 = .ok (.dup, 1) := by decide +kernel
theorem dX2_addPlace_14 : decode cX2_addPlace 14 = .ok (.getfield 31, 3) := by decide +kernel
theorem dX2_addPlace_17 : decode cX2_addPlace 17 = .ok (.iconst 1, 1) := by decide +kernel
theorem dX2_addPlace_18 : decode cX2_addPlace 18 = .ok (.iadd, 1) := by decide +kernel
theorem dX2_addPlace_19 : decode cX2_addPlace 19 = .ok (.putfield 31, 3) := by decide +kernel
theorem dX2_addPlace_22 : decode cX2_addPlace 22 = .ok (.return_, 1) := by decide +kernel
theorem dX2_putLetter_0 : decode cX2_putLetter 0 = .ok (.iload_n 1, 1) := by decide +kernel
theorem dX2_putLetter_1 : decode cX2_putLetter 1 = .ok (.ifCond .ne 10, 3) := by decide +kernel
theorem dX2_putLetter_4 : decode cX2_putLetter 4 = .ok (.aload_n 0, 1) := by decide +kernel
theorem dX2_putLetter_5 : decode cX2_putLetter 5 = .ok (.getfield 21, 3) := by decide +kernel
theorem dX2_putLetter_8 : decode cX2_putLetter 8 = .ok (.goto 7, 3) := by decide +kernel
theorem dX2_putLetter_11 : decode cX2_putLetter 11 = .ok (.aload_n 0, 1) := by decide +kernel
theorem dX2_putLetter_12 : decode cX2_putLetter 12 = .ok (.getfield 24, 3) := by decide +kernel
theorem dX2_putLetter_15 : decode cX2_putLetter 15 = .ok (.iload_n 2, 1) := by decide +kernel
theorem dX2_putLetter_16 : decode cX2_putLetter 16 = .ok (.iload_n 3, 1) := by decide +kernel
theorem dX2_putLetter_17 : decode cX2_putLetter 17 = .ok (.invokestatic 41, 3) := by decide +kernel
theorem dX2_putLetter_20 : decode cX2_putLetter 20 = .ok (.return_, 1) := by decide +kernel
theorem dX2_turnOver_0 : decode cX2_turnOver 0 = .ok (.iconst 0, 1) := by decide +kernel
theorem dX2_turnOver_1 : decode cX2_turnOver 1 = .ok (.istore_n 1, 1) := by decide +kernel
theorem dX2_turnOver_2 : decode cX2_turnOver 2 = .ok (.iload_n 1, 1) := by decide +kernel
theorem dX2_turnOver_3 : decode cX2_turnOver 3 = .ok (.aload_n 0, 1) := by decide +kernel
theorem dX2_turnOver_4 : decode cX2_turnOver 4 = .ok (.getfield 31, 3) := by decide +kernel
theorem dX2_turnOver_7 : decode cX2_turnOver 7 = .ok (.if_icmp .ge 35, 3) := by decide +kernel
theorem dX2_turnOver_10 : decode cX2_turnOver 10 = .ok (.aload_n 0, 1) := by decide +kernel
theorem dX2_turnOver_11 : decode cX2_turnOver 11 = .ok (.iconst 0, 1) := by decide +kernel
theorem dX2_turnOver_12 : decode cX2_turnOver 12 = .ok (.iload_n 1, 1) := by decide +kernel
theorem dX2_turnOver_13 : decode cX2_turnOver 13 = .ok (.invokevirtual 49, 3) := by decide +kernel
theorem dX2_turnOver_16 : decode cX2_turnOver 16 = .ok (.istore_n 2, 1) := by decide +kernel
theorem dX2_turnOver_17 : decode cX2_turnOver 17 = .ok (.aload_n 0, 1) := by decide +kernel
theorem dX2_turnOver_18 : decode cX2_turnOver 18 = .ok (.iconst 0, 1) := by decide +kernel
theorem dX2_turnOver_19 : decode cX2_turnOver 19 = .ok (.iload_n 1, 1) := by decide +kernel
theorem dX2_turnOver_20 : decode cX2_turnOver 20 = .ok (.aload_n 0, 1) := by decide +kernel
theorem dX2_turnOver_21 : decode cX2_turnOver 21 = .ok (.iconst 1, 1) := by decide +kernel
theorem dX2_turnOver_22 : decode cX2_turnOver 22 = .ok (.iload_n 1, 1) := by decide +kernel
theorem dX2_turnOver_23 : decode cX2_turnOver 23 = .ok (.invokevirtual 49, 3) := by decide +kernel
theorem dX2_turnOver_26 : decode cX2_turnOver 26 = .ok (.invokevirtual 52, 3) := by decide +kernel
theorem dX2_turnOver_29 : decode cX2_turnOver 29 = .ok (.aload_n 0, 1) := by decide +kernel
theorem dX2_turnOver_30 : decode cX2_turnOver 30 = .ok (.iconst 1, 1) := by decide +kernel
theorem dX2_turnOver_31 : decode cX2_turnOver 31 = .ok (.iload_n 1, 1) := by decide +kernel
theorem dX2_turnOver_32 : decode cX2_turnOver 32 = .ok (.iload_n 2, 1) := by decide +kernel
theorem dX2_turnOver_33 : decode cX2_turnOver 33 = .ok (.invokevirtual 52, 3) := by decide +kernel
theorem dX2_turnOver_36 : decode cX2_turnOver 36 = .ok (.iinc 1 1, 3) := by decide +kernel
theorem dX2_turnOver_39 : decode cX2_turnOver 39 = .ok (.goto (-37), 3) := by decide +kernel
theorem dX2_turnOver_42 : decode cX2_turnOver 42 = .ok (.return_, 1) := by decide +kernel
theorem dX2_cellsOf_0 : decode cX2_cellsOf 0 = .ok (.aload_n 0, 1) := by decide +kernel
theorem dX2_cellsOf_1 : decode cX2_cellsOf 1 = .ok (.getfield 9, 3) := by decide +kernel
theorem dX2_cellsOf_4 : decode cX2_cellsOf 4 = .ok (.iload_n 1, 1) := by decide +kernel
theorem dX2_cellsOf_5 : decode cX2_cellsOf 5 = .ok (.invokestatic 56, 3) := by decide +kernel
theorem dX2_cellsOf_8 : decode cX2_cellsOf 8 = .ok (.ireturn, 1) := by decide +kernel
theorem dX2_kindOf_0 : decode cX2_kindOf 0 = .ok (.aload_n 0, 1) := by decide +kernel
theorem dX2_kindOf_1 : decode cX2_kindOf 1 = .ok (.getfield 15, 3) := by decide +kernel
theorem dX2_kindOf_4 : decode cX2_kindOf 4 = .ok (.iload_n 1, 1) := by decide +kernel
theorem dX2_kindOf_5 : decode cX2_kindOf 5 = .ok (.invokestatic 56, 3) := by decide +kernel
theorem dX2_kindOf_8 : decode cX2_kindOf 8 = .ok (.ireturn, 1) := by decide +kernel
theorem dX2_throughOf_0 : decode cX2_throughOf 0 = .ok (.aload_n 0, 1) := by decide +kernel
theorem dX2_throughOf_1 : decode cX2_throughOf 1 = .ok (.getfield 18, 3) := by decide +kernel
theorem dX2_throughOf_4 : decode cX2_throughOf 4 = .ok (.iload_n 1, 1) := by decide +kernel
theorem dX2_throughOf_5 : decode cX2_throughOf 5 = .ok (.invokestatic 56, 3) := by decide +kernel
theorem dX2_throughOf_8 : decode cX2_throughOf 8 = .ok (.ireturn, 1) := by decide +kernel
theorem dX2_letterAt_0 : decode cX2_letterAt 0 = .ok (.iload_n 1, 1) := by decide +kernel
theorem dX2_letterAt_1 : decode cX2_letterAt 1 = .ok (.ifCond .ne 10, 3) := by decide +kernel
theorem dX2_letterAt_4 : decode cX2_letterAt 4 = .ok (.aload_n 0, 1) := by decide +kernel
theorem dX2_letterAt_5 : decode cX2_letterAt 5 = .ok (.getfield 21, 3) := by decide +kernel
theorem dX2_letterAt_8 : decode cX2_letterAt 8 = .ok (.goto 7, 3) := by decide +kernel
theorem dX2_letterAt_11 : decode cX2_letterAt 11 = .ok (.aload_n 0, 1) := by decide +kernel
theorem dX2_letterAt_12 : decode cX2_letterAt 12 = .ok (.getfield 24, 3) := by decide +kernel
theorem dX2_letterAt_15 : decode cX2_letterAt 15 = .ok (.iload_n 2, 1) := by decide +kernel
theorem dX2_letterAt_16 : decode cX2_letterAt 16 = .ok (.invokestatic 56, 3) := by decide +kernel
theorem dX2_letterAt_19 : decode cX2_letterAt 19 = .ok (.ireturn, 1) := by decide +kernel
theorem dX2_letterBehind_0 : decode cX2_letterBehind 0 = .ok (.aload_n 0, 1) := by decide +kernel
theorem dX2_letterBehind_1 : decode cX2_letterBehind 1 = .ok (.iload_n 1, 1) := by decide +kernel
theorem dX2_letterBehind_2 : decode cX2_letterBehind 2 = .ok (.ifCond .ne 7, 3) := by decide +kernel
theorem dX2_letterBehind_5 : decode cX2_letterBehind 5 = .ok (.iconst 1, 1) := by decide +kernel
theorem dX2_letterBehind_6 : decode cX2_letterBehind 6 = .ok (.goto 4, 3) := by decide +kernel
theorem dX2_letterBehind_9 : decode cX2_letterBehind 9 = .ok (.iconst 0, 1) := by decide +kernel
theorem dX2_letterBehind_10 : decode cX2_letterBehind 10 = .ok (.aload_n 0, 1) := by decide +kernel
theorem dX2_letterBehind_11 : decode cX2_letterBehind 11 = .ok (.getfield 31, 3) := by decide +kernel
theorem dX2_letterBehind_14 : decode cX2_letterBehind 14 = .ok (.iconst 1, 1) := by decide +kernel
theorem dX2_letterBehind_15 : decode cX2_letterBehind 15 = .ok (.isub, 1) := by decide +kernel
theorem dX2_letterBehind_16 : decode cX2_letterBehind 16 = .ok (.iload_n 2, 1) := by decide +kernel
theorem dX2_letterBehind_17 : decode cX2_letterBehind 17 = .ok (.isub, 1) := by decide +kernel
theorem dX2_letterBehind_18 : decode cX2_letterBehind 18 = .ok (.invokevirtual 49, 3) := by decide +kernel
theorem dX2_letterBehind_21 : decode cX2_letterBehind 21 = .ok (.ireturn, 1) := by decide +kernel
theorem dX2_shownByLight_0 : decode cX2_shownByLight 0 = .ok (.aload_n 0, 1) := by decide +kernel
theorem dX2_shownByLight_1 : decode cX2_shownByLight 1 = .ok (.aload_n 0, 1) := by decide +kernel
theorem dX2_shownByLight_2 : decode cX2_shownByLight 2 = .ok (.iload_n 1, 1) := by decide +kernel
theorem dX2_shownByLight_3 : decode cX2_shownByLight 3 = .ok (.iload_n 2, 1) := by decide +kernel
theorem dX2_shownByLight_4 : decode cX2_shownByLight 4 = .ok (.invokevirtual 49, 3) := by decide +kernel
theorem dX2_shownByLight_7 : decode cX2_shownByLight 7 = .ok (.aload_n 0, 1) := by decide +kernel
theorem dX2_shownByLight_8 : decode cX2_shownByLight 8 = .ok (.iload_n 1, 1) := by decide +kernel
theorem dX2_shownByLight_9 : decode cX2_shownByLight 9 = .ok (.iload_n 2, 1) := by decide +kernel
theorem dX2_shownByLight_10 : decode cX2_shownByLight 10 = .ok (.invokevirtual 60, 3) := by decide +kernel
theorem dX2_shownByLight_13 : decode cX2_shownByLight 13 = .ok (.invokevirtual 63, 3) := by decide +kernel
theorem dX2_shownByLight_16 : decode cX2_shownByLight 16 = .ok (.ireturn, 1) := by decide +kernel
theorem dX2_shownByDamp_0 : decode cX2_shownByDamp 0 = .ok (.aload_n 0, 1) := by decide +kernel
theorem dX2_shownByDamp_1 : decode cX2_shownByDamp 1 = .ok (.iload_n 1, 1) := by decide +kernel
theorem dX2_shownByDamp_2 : decode cX2_shownByDamp 2 = .ok (.iload_n 2, 1) := by decide +kernel
theorem dX2_shownByDamp_3 : decode cX2_shownByDamp 3 = .ok (.invokevirtual 60, 3) := by decide +kernel
theorem dX2_shownByDamp_6 : decode cX2_shownByDamp 6 = .ok (.istore 4, 2) := by decide +kernel
theorem dX2_shownByDamp_8 : decode cX2_shownByDamp 8 = .ok (.aload_n 0, 1) := by decide +kernel
theorem dX2_shownByDamp_9 : decode cX2_shownByDamp 9 = .ok (.iload 4, 2) := by decide +kernel
theorem dX2_shownByDamp_11 : decode cX2_shownByDamp 11 = .ok (.invokevirtual 66, 3) := by decide +kernel
theorem dX2_shownByDamp_14 : decode cX2_shownByDamp 14 = .ok (.istore 5, 2) := by decide +kernel
theorem dX2_shownByDamp_16 : decode cX2_shownByDamp 16 = .ok (.iload 5, 2) := by decide +kernel
theorem dX2_shownByDamp_18 : decode cX2_shownByDamp 18 = .ok (.iconst 2, 1) := by decide +kernel
theorem dX2_shownByDamp_19 : decode cX2_shownByDamp 19 = .ok (.if_icmp .ne 7, 3) := by decide +kernel
theorem dX2_shownByDamp_22 : decode cX2_shownByDamp 22 = .ok (.iconst 0, 1) := by decide +kernel
theorem dX2_shownByDamp_23 : decode cX2_shownByDamp 23 = .ok (.goto 22, 3) := by decide +kernel
theorem dX2_shownByDamp_26 : decode cX2_shownByDamp 26 = .ok (.iload 5, 2) := by decide +kernel
theorem dX2_shownByDamp_28 : decode cX2_shownByDamp 28 = .ok (.iconst 3, 1) := by decide +kernel
theorem dX2_shownByDamp_29 : decode cX2_shownByDamp 29 = .ok (.if_icmp .ne 12, 3) := by decide +kernel
theorem dX2_shownByDamp_32 : decode cX2_shownByDamp 32 = .ok (.iconst 2, 1) := by decide +kernel
theorem dX2_shownByDamp_33 : decode cX2_shownByDamp 33 = .ok (.aload_n 0, 1) := by decide +kernel
theorem dX2_shownByDamp_34 : decode cX2_shownByDamp 34 = .ok (.getfield 34, 3) := by decide +kernel
theorem dX2_shownByDamp_37 : decode cX2_shownByDamp 37 = .ok (.imul, 1) := by decide +kernel
theorem dX2_shownByDamp_38 : decode cX2_shownByDamp 38 = .ok (.goto 7, 3) := by decide +kernel
theorem dX2_shownByDamp_41 : decode cX2_shownByDamp 41 = .ok (.aload_n 0, 1) := by decide +kernel
theorem dX2_shownByDamp_42 : decode cX2_shownByDamp 42 = .ok (.getfield 34, 3) := by decide +kernel
theorem dX2_shownByDamp_45 : decode cX2_shownByDamp 45 = .ok (.istore 6, 2) := by decide +kernel
theorem dX2_shownByDamp_47 : decode cX2_shownByDamp 47 = .ok (.aload_n 0, 1) := by decide +kernel
theorem dX2_shownByDamp_48 : decode cX2_shownByDamp 48 = .ok (.iload_n 1, 1) := by decide +kernel
theorem dX2_shownByDamp_49 : decode cX2_shownByDamp 49 = .ok (.iload_n 2, 1) := by decide +kernel
theorem dX2_shownByDamp_50 : decode cX2_shownByDamp 50 = .ok (.invokevirtual 49, 3) := by decide +kernel
theorem dX2_shownByDamp_53 : decode cX2_shownByDamp 53 = .ok (.istore 7, 2) := by decide +kernel
theorem dX2_shownByDamp_55 : decode cX2_shownByDamp 55 = .ok (.iload_n 3, 1) := by decide +kernel
theorem dX2_shownByDamp_56 : decode cX2_shownByDamp 56 = .ok (.iload 6, 2) := by decide +kernel
theorem dX2_shownByDamp_58 : decode cX2_shownByDamp 58 = .ok (.if_icmp .lt 14, 3) := by decide +kernel
theorem dX2_shownByDamp_61 : decode cX2_shownByDamp 61 = .ok (.aload_n 0, 1) := by decide +kernel
theorem dX2_shownByDamp_62 : decode cX2_shownByDamp 62 = .ok (.iload 7, 2) := by decide +kernel
theorem dX2_shownByDamp_64 : decode cX2_shownByDamp 64 = .ok (.iload 4, 2) := by decide +kernel
theorem dX2_shownByDamp_66 : decode cX2_shownByDamp 66 = .ok (.invokevirtual 63, 3) := by decide +kernel
theorem dX2_shownByDamp_69 : decode cX2_shownByDamp 69 = .ok (.goto 9, 3) := by decide +kernel
theorem dX2_shownByDamp_72 : decode cX2_shownByDamp 72 = .ok (.aload_n 0, 1) := by decide +kernel
theorem dX2_shownByDamp_73 : decode cX2_shownByDamp 73 = .ok (.iload 7, 2) := by decide +kernel
theorem dX2_shownByDamp_75 : decode cX2_shownByDamp 75 = .ok (.invokevirtual 70, 3) := by decide +kernel
theorem dX2_shownByDamp_78 : decode cX2_shownByDamp 78 = .ok (.ireturn, 1) := by decide +kernel
theorem dX2_nearest_0 : decode cX2_nearest 0 = .ok (.iconst 0, 1) := by decide +kernel
theorem dX2_nearest_1 : decode cX2_nearest 1 = .ok (.istore_n 2, 1) := by decide +kernel
theorem dX2_nearest_2 : decode cX2_nearest 2 = .ok (.iconst 1, 1) := by decide +kernel
theorem dX2_nearest_3 : decode cX2_nearest 3 = .ok (.istore_n 3, 1) := by decide +kernel
theorem dX2_nearest_4 : decode cX2_nearest 4 = .ok (.iload_n 3, 1) := by decide +kernel
theorem dX2_nearest_5 : decode cX2_nearest 5 = .ok (.aload_n 0, 1) := by decide +kernel
theorem dX2_nearest_6 : decode cX2_nearest 6 = .ok (.getfield 27, 3) := by decide +kernel
theorem dX2_nearest_9 : decode cX2_nearest 9 = .ok (.if_icmp .ge 26, 3) := by decide +kernel
theorem dX2_nearest_12 : decode cX2_nearest 12 = .ok (.aload_n 0, 1) := by decide +kernel
theorem dX2_nearest_13 : decode cX2_nearest 13 = .ok (.iload_n 3, 1) := by decide +kernel
theorem dX2_nearest_14 : decode cX2_nearest 14 = .ok (.iload_n 1, 1) := by decide +kernel
theorem dX2_nearest_15 : decode cX2_nearest 15 = .ok (.invokevirtual 73, 3) := by decide +kernel
theorem dX2_nearest_18 : decode cX2_nearest 18 = .ok (.aload_n 0, 1) := by decide +kernel
theorem dX2_nearest_19 : decode cX2_nearest 19 = .ok (.iload_n 2, 1) := by decide +kernel
theorem dX2_nearest_20 : decode cX2_nearest 20 = .ok (.iload_n 1, 1) := by decide +kernel
theorem dX2_nearest_21 : decode cX2_nearest 21 = .ok (.invokevirtual 73, 3) := by decide +kernel
theorem dX2_nearest_24 : decode cX2_nearest 24 = .ok (.if_icmp .ge 5, 3) := by decide +kernel
theorem dX2_nearest_27 : decode cX2_nearest 27 = .ok (.iload_n 3, 1) := by decide +kernel
theorem dX2_nearest_28 : decode cX2_nearest 28 = .ok (.istore_n 2, 1) := by decide +kernel
theorem dX2_nearest_29 : decode cX2_nearest 29 = .ok (.iinc 3 1, 3) := by decide +kernel
theorem dX2_nearest_32 : decode cX2_nearest 32 = .ok (.goto (-28), 3) := by decide +kernel
theorem dX2_nearest_35 : decode cX2_nearest 35 = .ok (.iload_n 2, 1) := by decide +kernel
theorem dX2_nearest_36 : decode cX2_nearest 36 = .ok (.ireturn, 1) := by decide +kernel
theorem dX2_leastOff_0 : decode cX2_leastOff 0 = .ok (.aload_n 0, 1) := by decide +kernel
theorem dX2_leastOff_1 : decode cX2_leastOff 1 = .ok (.aload_n 0, 1) := by decide +kernel
theorem dX2_leastOff_2 : decode cX2_leastOff 2 = .ok (.iload_n 1, 1) := by decide +kernel
theorem dX2_leastOff_3 : decode cX2_leastOff 3 = .ok (.invokevirtual 76, 3) := by decide +kernel
theorem dX2_leastOff_6 : decode cX2_leastOff 6 = .ok (.iload_n 1, 1) := by decide +kernel
theorem dX2_leastOff_7 : decode cX2_leastOff 7 = .ok (.invokevirtual 73, 3) := by decide +kernel
theorem dX2_leastOff_10 : decode cX2_leastOff 10 = .ok (.ireturn, 1) := by decide +kernel
theorem dX2_isDoubt_0 : decode cX2_isDoubt 0 = .ok (.aload_n 0, 1) := by decide +kernel
theorem dX2_isDoubt_1 : decode cX2_isDoubt 1 = .ok (.iload_n 1, 1) := by decide +kernel
theorem dX2_isDoubt_2 : decode cX2_isDoubt 2 = .ok (.invokevirtual 79, 3) := by decide +kernel
theorem dX2_isDoubt_5 : decode cX2_isDoubt 5 = .ok (.istore_n 2, 1) := by decide +kernel
theorem dX2_isDoubt_6 : decode cX2_isDoubt 6 = .ok (.iconst 0, 1) := by decide +kernel
theorem dX2_isDoubt_7 : decode cX2_isDoubt 7 = .ok (.istore_n 3, 1) := by decide +kernel
theorem dX2_isDoubt_8 : decode cX2_isDoubt 8 = .ok (.iconst 0, 1) := by decide +kernel
theorem dX2_isDoubt_9 : decode cX2_isDoubt 9 = .ok (.istore 4, 2) := by decide +kernel
theorem dX2_isDoubt_11 : decode cX2_isDoubt 11 = .ok (.iload 4, 2) := by decide +kernel
theorem dX2_isDoubt_13 : decode cX2_isDoubt 13 = .ok (.aload_n 0, 1) := by decide +kernel
theorem dX2_isDoubt_14 : decode cX2_isDoubt 14 = .ok (.getfield 27, 3) := by decide +kernel
theorem dX2_isDoubt_17 : decode cX2_isDoubt 17 = .ok (.if_icmp .ge 23, 3) := by decide +kernel
theorem dX2_isDoubt_20 : decode cX2_isDoubt 20 = .ok (.aload_n 0, 1) := by decide +kernel
theorem dX2_isDoubt_21 : decode cX2_isDoubt 21 = .ok (.iload 4, 2) := by decide +kernel
theorem dX2_isDoubt_23 : decode cX2_isDoubt 23 = .ok (.iload_n 1, 1) := by decide +kernel
theorem dX2_isDoubt_24 : decode cX2_isDoubt 24 = .ok (.invokevirtual 73, 3) := by decide +kernel
theorem dX2_isDoubt_27 : decode cX2_isDoubt 27 = .ok (.iload_n 2, 1) := by decide +kernel
theorem dX2_isDoubt_28 : decode cX2_isDoubt 28 = .ok (.if_icmp .ne 6, 3) := by decide +kernel
theorem dX2_isDoubt_31 : decode cX2_isDoubt 31 = .ok (.iinc 3 1, 3) := by decide +kernel
theorem dX2_isDoubt_34 : decode cX2_isDoubt 34 = .ok (.iinc 4 1, 3) := by decide +kernel
theorem dX2_isDoubt_37 : decode cX2_isDoubt 37 = .ok (.goto (-26), 3) := by decide +kernel
theorem dX2_isDoubt_40 : decode cX2_isDoubt 40 = .ok (.iload_n 3, 1) := by decide +kernel
theorem dX2_isDoubt_41 : decode cX2_isDoubt 41 = .ok (.iconst 1, 1) := by decide +kernel
theorem dX2_isDoubt_42 : decode cX2_isDoubt 42 = .ok (.if_icmp .le 7, 3) := by decide +kernel
theorem dX2_isDoubt_45 : decode cX2_isDoubt 45 = .ok (.iconst 1, 1) := by decide +kernel
theorem dX2_isDoubt_46 : decode cX2_isDoubt 46 = .ok (.goto 4, 3) := by decide +kernel
theorem dX2_isDoubt_49 : decode cX2_isDoubt 49 = .ok (.iconst 0, 1) := by decide +kernel
theorem dX2_isDoubt_50 : decode cX2_isDoubt 50 = .ok (.ireturn, 1) := by decide +kernel
theorem dX2_behindFor_0 : decode cX2_behindFor 0 = .ok (.aload_n 0, 1) := by decide +kernel
theorem dX2_behindFor_1 : decode cX2_behindFor 1 = .ok (.aload_n 0, 1) := by decide +kernel
theorem dX2_behindFor_2 : decode cX2_behindFor 2 = .ok (.iconst 0, 1) := by decide +kernel
theorem dX2_behindFor_3 : decode cX2_behindFor 3 = .ok (.iload_n 1, 1) := by decide +kernel
theorem dX2_behindFor_4 : decode cX2_behindFor 4 = .ok (.invokevirtual 49, 3) := by decide +kernel
theorem dX2_behindFor_7 : decode cX2_behindFor 7 = .ok (.iload_n 2, 1) := by decide +kernel
theorem dX2_behindFor_8 : decode cX2_behindFor 8 = .ok (.invokevirtual 82, 3) := by decide +kernel
theorem dX2_behindFor_11 : decode cX2_behindFor 11 = .ok (.ireturn, 1) := by decide +kernel
theorem dX2_behindToRead_0 : decode cX2_behindToRead 0 = .ok (.iconst 0, 1) := by decide +kernel
theorem dX2_behindToRead_1 : decode cX2_behindToRead 1 = .ok (.istore_n 3, 1) := by decide +kernel
theorem dX2_behindToRead_2 : decode cX2_behindToRead 2 = .ok (.iconst 0, 1) := by decide +kernel
theorem dX2_behindToRead_3 : decode cX2_behindToRead 3 = .ok (.istore 4, 2) := by decide +kernel
theorem dX2_behindToRead_5 : decode cX2_behindToRead 5 = .ok (.iload 4, 2) := by decide +kernel
theorem dX2_behindToRead_7 : decode cX2_behindToRead 7 = .ok (.aload_n 0, 1) := by decide +kernel
theorem dX2_behindToRead_8 : decode cX2_behindToRead 8 = .ok (.getfield 27, 3) := by decide +kernel
theorem dX2_behindToRead_11 : decode cX2_behindToRead 11 = .ok (.if_icmp .ge 27, 3) := by decide +kernel
theorem dX2_behindToRead_14 : decode cX2_behindToRead 14 = .ok (.aload_n 0, 1) := by decide +kernel
theorem dX2_behindToRead_15 : decode cX2_behindToRead 15 = .ok (.iload_n 1, 1) := by decide +kernel
theorem dX2_behindToRead_16 : decode cX2_behindToRead 16 = .ok (.iload 4, 2) := by decide +kernel
theorem dX2_behindToRead_18 : decode cX2_behindToRead 18 = .ok (.invokevirtual 85, 3) := by decide +kernel
theorem dX2_behindToRead_21 : decode cX2_behindToRead 21 = .ok (.iload_n 2, 1) := by decide +kernel
theorem dX2_behindToRead_22 : decode cX2_behindToRead 22 = .ok (.if_icmp .ne 10, 3) := by decide +kernel
theorem dX2_behindToRead_25 : decode cX2_behindToRead 25 = .ok (.iload_n 3, 1) := by decide +kernel
theorem dX2_behindToRead_26 : decode cX2_behindToRead 26 = .ok (.iconst 1, 1) := by decide +kernel
theorem dX2_behindToRead_27 : decode cX2_behindToRead 27 = .ok (.iload 4, 2) := by decide +kernel
theorem dX2_behindToRead_29 : decode cX2_behindToRead 29 = .ok (.ishl, 1) := by decide +kernel
theorem dX2_behindToRead_30 : decode cX2_behindToRead 30 = .ok (.ior, 1) := by decide +kernel
theorem dX2_behindToRead_31 : decode cX2_behindToRead 31 = .ok (.istore_n 3, 1) := by decide +kernel
theorem dX2_behindToRead_32 : decode cX2_behindToRead 32 = .ok (.iinc 4 1, 3) := by decide +kernel
theorem dX2_behindToRead_35 : decode cX2_behindToRead 35 = .ok (.goto (-30), 3) := by decide +kernel
theorem dX2_behindToRead_38 : decode cX2_behindToRead 38 = .ok (.iload_n 3, 1) := by decide +kernel
theorem dX2_behindToRead_39 : decode cX2_behindToRead 39 = .ok (.ireturn, 1) := by decide +kernel
theorem dX2_fitting_0 : decode cX2_fitting 0 = .ok (.iconst 0, 1) := by decide +kernel
theorem dX2_fitting_1 : decode cX2_fitting 1 = .ok (.istore_n 3, 1) := by decide +kernel
theorem dX2_fitting_2 : decode cX2_fitting 2 = .ok (.iconst 0, 1) := by decide +kernel
theorem dX2_fitting_3 : decode cX2_fitting 3 = .ok (.istore 4, 2) := by decide +kernel
theorem dX2_fitting_5 : decode cX2_fitting 5 = .ok (.iload 4, 2) := by decide +kernel
theorem dX2_fitting_7 : decode cX2_fitting 7 = .ok (.aload_n 0, 1) := by decide +kernel
theorem dX2_fitting_8 : decode cX2_fitting 8 = .ok (.getfield 27, 3) := by decide +kernel
theorem dX2_fitting_11 : decode cX2_fitting 11 = .ok (.if_icmp .ge 32, 3) := by decide +kernel
theorem dX2_fitting_14 : decode cX2_fitting 14 = .ok (.aload_n 0, 1) := by decide +kernel
theorem dX2_fitting_15 : decode cX2_fitting 15 = .ok (.aload_n 0, 1) := by decide +kernel
theorem dX2_fitting_16 : decode cX2_fitting 16 = .ok (.iconst 0, 1) := by decide +kernel
theorem dX2_fitting_17 : decode cX2_fitting 17 = .ok (.iload_n 1, 1) := by decide +kernel
theorem dX2_fitting_18 : decode cX2_fitting 18 = .ok (.invokevirtual 49, 3) := by decide +kernel
theorem dX2_fitting_21 : decode cX2_fitting 21 = .ok (.iload 4, 2) := by decide +kernel
theorem dX2_fitting_23 : decode cX2_fitting 23 = .ok (.invokevirtual 63, 3) := by decide +kernel
theorem dX2_fitting_26 : decode cX2_fitting 26 = .ok (.iload_n 2, 1) := by decide +kernel
theorem dX2_fitting_27 : decode cX2_fitting 27 = .ok (.if_icmp .ne 10, 3) := by decide +kernel
theorem dX2_fitting_30 : decode cX2_fitting 30 = .ok (.iload_n 3, 1) := by decide +kernel
theorem dX2_fitting_31 : decode cX2_fitting 31 = .ok (.iconst 1, 1) := by decide +kernel
theorem dX2_fitting_32 : decode cX2_fitting 32 = .ok (.iload 4, 2) := by decide +kernel
theorem dX2_fitting_34 : decode cX2_fitting 34 = .ok (.ishl, 1) := by decide +kernel
theorem dX2_fitting_35 : decode cX2_fitting 35 = .ok (.ior, 1) := by decide +kernel
theorem dX2_fitting_36 : decode cX2_fitting 36 = .ok (.istore_n 3, 1) := by decide +kernel
theorem dX2_fitting_37 : decode cX2_fitting 37 = .ok (.iinc 4 1, 3) := by decide +kernel
theorem dX2_fitting_40 : decode cX2_fitting 40 = .ok (.goto (-35), 3) := by decide +kernel
theorem dX2_fitting_43 : decode cX2_fitting 43 = .ok (.iload_n 3, 1) := by decide +kernel
theorem dX2_fitting_44 : decode cX2_fitting 44 = .ok (.ireturn, 1) := by decide +kernel
theorem dX2_fewestAnew_0 : decode cX2_fewestAnew 0 = .ok (.ldc 88, 2) := by decide +kernel
theorem dX2_fewestAnew_2 : decode cX2_fewestAnew 2 = .ok (.istore_n 3, 1) := by decide +kernel
theorem dX2_fewestAnew_3 : decode cX2_fewestAnew 3 = .ok (.iconst 0, 1) := by decide +kernel
theorem dX2_fewestAnew_4 : decode cX2_fewestAnew 4 = .ok (.istore 4, 2) := by decide +kernel
theorem dX2_fewestAnew_6 : decode cX2_fewestAnew 6 = .ok (.iload 4, 2) := by decide +kernel
theorem dX2_fewestAnew_8 : decode cX2_fewestAnew 8 = .ok (.aload_n 0, 1) := by decide +kernel
theorem dX2_fewestAnew_9 : decode cX2_fewestAnew 9 = .ok (.getfield 27, 3) := by decide +kernel
theorem dX2_fewestAnew_12 : decode cX2_fewestAnew 12 = .ok (.if_icmp .ge 89, 3) := by decide +kernel
theorem dX2_fewestAnew_15 : decode cX2_fewestAnew 15 = .ok (.aload_n 0, 1) := by decide +kernel
theorem dX2_fewestAnew_16 : decode cX2_fewestAnew 16 = .ok (.iload 4, 2) := by decide +kernel
theorem dX2_fewestAnew_18 : decode cX2_fewestAnew 18 = .ok (.iload_n 2, 1) := by decide +kernel
theorem dX2_fewestAnew_19 : decode cX2_fewestAnew 19 = .ok (.invokevirtual 82, 3) := by decide +kernel
theorem dX2_fewestAnew_22 : decode cX2_fewestAnew 22 = .ok (.istore 5, 2) := by decide +kernel
theorem dX2_fewestAnew_24 : decode cX2_fewestAnew 24 = .ok (.iload 5, 2) := by decide +kernel
theorem dX2_fewestAnew_26 : decode cX2_fewestAnew 26 = .ok (.ifCond .eq 69, 3) := by decide +kernel
theorem dX2_fewestAnew_29 : decode cX2_fewestAnew 29 = .ok (.iload 5, 2) := by decide +kernel
theorem dX2_fewestAnew_31 : decode cX2_fewestAnew 31 = .ok (.aload_n 0, 1) := by decide +kernel
theorem dX2_fewestAnew_32 : decode cX2_fewestAnew 32 = .ok (.iconst 0, 1) := by decide +kernel
theorem dX2_fewestAnew_33 : decode cX2_fewestAnew 33 = .ok (.iload_n 1, 1) := by decide +kernel
theorem dX2_fewestAnew_34 : decode cX2_fewestAnew 34 = .ok (.invokevirtual 60, 3) := by decide +kernel
theorem dX2_fewestAnew_37 : decode cX2_fewestAnew 37 = .ok (.invokestatic 89, 3) := by decide +kernel
theorem dX2_fewestAnew_40 : decode cX2_fewestAnew 40 = .ok (.ifCond .eq 7, 3) := by decide +kernel
theorem dX2_fewestAnew_43 : decode cX2_fewestAnew 43 = .ok (.iconst 1, 1) := by decide +kernel
theorem dX2_fewestAnew_44 : decode cX2_fewestAnew 44 = .ok (.goto 4, 3) := by decide +kernel
theorem dX2_fewestAnew_47 : decode cX2_fewestAnew 47 = .ok (.iconst 0, 1) := by decide +kernel
theorem dX2_fewestAnew_48 : decode cX2_fewestAnew 48 = .ok (.istore 6, 2) := by decide +kernel
theorem dX2_fewestAnew_50 : decode cX2_fewestAnew 50 = .ok (.iload 4, 2) := by decide +kernel
theorem dX2_fewestAnew_52 : decode cX2_fewestAnew 52 = .ok (.aload_n 0, 1) := by decide +kernel
theorem dX2_fewestAnew_53 : decode cX2_fewestAnew 53 = .ok (.iconst 0, 1) := by decide +kernel
theorem dX2_fewestAnew_54 : decode cX2_fewestAnew 54 = .ok (.iload_n 1, 1) := by decide +kernel
theorem dX2_fewestAnew_55 : decode cX2_fewestAnew 55 = .ok (.invokevirtual 49, 3) := by decide +kernel
theorem dX2_fewestAnew_58 : decode cX2_fewestAnew 58 = .ok (.if_icmp .ne 7, 3) := by decide +kernel
theorem dX2_fewestAnew_61 : decode cX2_fewestAnew 61 = .ok (.iconst 1, 1) := by decide +kernel
theorem dX2_fewestAnew_62 : decode cX2_fewestAnew 62 = .ok (.goto 4, 3) := by decide +kernel
theorem dX2_fewestAnew_65 : decode cX2_fewestAnew 65 = .ok (.iconst 0, 1) := by decide +kernel
theorem dX2_fewestAnew_66 : decode cX2_fewestAnew 66 = .ok (.istore 7, 2) := by decide +kernel
theorem dX2_fewestAnew_68 : decode cX2_fewestAnew 68 = .ok (.iconst 2, 1) := by decide +kernel
theorem dX2_fewestAnew_69 : decode cX2_fewestAnew 69 = .ok (.iload 6, 2) := by decide +kernel
theorem dX2_fewestAnew_71 : decode cX2_fewestAnew 71 = .ok (.isub, 1) := by decide +kernel
theorem dX2_fewestAnew_72 : decode cX2_fewestAnew 72 = .ok (.iload 7, 2) := by decide +kernel
theorem dX2_fewestAnew_74 : decode cX2_fewestAnew 74 = .ok (.isub, 1) := by decide +kernel
theorem dX2_fewestAnew_75 : decode cX2_fewestAnew 75 = .ok (.istore 8, 2) := by decide +kernel
theorem dX2_fewestAnew_77 : decode cX2_fewestAnew 77 = .ok (.iload_n 3, 1) := by decide +kernel
theorem dX2_fewestAnew_78 : decode cX2_fewestAnew 78 = .ok (.ldc 88, 2) := by decide +kernel
theorem dX2_fewestAnew_80 : decode cX2_fewestAnew 80 = .ok (.if_icmp .ne 8, 3) := by decide +kernel
theorem dX2_fewestAnew_83 : decode cX2_fewestAnew 83 = .ok (.iload 8, 2) := by decide +kernel
theorem dX2_fewestAnew_85 : decode cX2_fewestAnew 85 = .ok (.goto 9, 3) := by decide +kernel
theorem dX2_fewestAnew_88 : decode cX2_fewestAnew 88 = .ok (.iload_n 3, 1) := by decide +kernel
theorem dX2_fewestAnew_89 : decode cX2_fewestAnew 89 = .ok (.iload 8, 2) := by decide +kernel
theorem dX2_fewestAnew_91 : decode cX2_fewestAnew 91 = .ok (.invokestatic 93, 3) := by decide +kernel
theorem dX2_fewestAnew_94 : decode cX2_fewestAnew 94 = .ok (.istore_n 3, 1) := by decide +kernel
theorem dX2_fewestAnew_95 : decode cX2_fewestAnew 95 = .ok (.iinc 4 1, 3) := by decide +kernel
theorem dX2_fewestAnew_98 : decode cX2_fewestAnew 98 = .ok (.goto (-92), 3) := by decide +kernel
theorem dX2_fewestAnew_101 : decode cX2_fewestAnew 101 = .ok (.iload_n 3, 1) := by decide +kernel
theorem dX2_fewestAnew_102 : decode cX2_fewestAnew 102 = .ok (.ireturn, 1) := by decide +kernel
theorem dX2_canBeABack_0 : decode cX2_canBeABack 0 = .ok (.aload_n 1, 1) := by decide +kernel
theorem dX2_canBeABack_1 : decode cX2_canBeABack 1 = .ok (.invokevirtual 98, 3) := by decide +kernel
theorem dX2_canBeABack_4 : decode cX2_canBeABack 4 = .ok (.ifCond .ne 14, 3) := by decide +kernel
theorem dX2_canBeABack_7 : decode cX2_canBeABack 7 = .ok (.aload_n 1, 1) := by decide +kernel
theorem dX2_canBeABack_8 : decode cX2_canBeABack 8 = .ok (.getfield 104, 3) := by decide +kernel
theorem dX2_canBeABack_11 : decode cX2_canBeABack 11 = .ok (.aload_n 0, 1) := by decide +kernel
theorem dX2_canBeABack_12 : decode cX2_canBeABack 12 = .ok (.getfield 31, 3) := by decide +kernel
theorem dX2_canBeABack_15 : decode cX2_canBeABack 15 = .ok (.if_icmp .ge 5, 3) := by decide +kernel
theorem dX2_canBeABack_18 : decode cX2_canBeABack 18 = .ok (.iconst 0, 1) := by decide +kernel
theorem dX2_canBeABack_19 : decode cX2_canBeABack 19 = .ok (.ireturn, 1) := by decide +kernel
theorem dX2_canBeABack_20 : decode cX2_canBeABack 20 = .ok (.iconst 0, 1) := by decide +kernel
theorem dX2_canBeABack_21 : decode cX2_canBeABack 21 = .ok (.istore_n 2, 1) := by decide +kernel
theorem dX2_canBeABack_22 : decode cX2_canBeABack 22 = .ok (.iload_n 2, 1) := by decide +kernel
theorem dX2_canBeABack_23 : decode cX2_canBeABack 23 = .ok (.aload_n 0, 1) := by decide +kernel
theorem dX2_canBeABack_24 : decode cX2_canBeABack 24 = .ok (.getfield 31, 3) := by decide +kernel
theorem dX2_canBeABack_27 : decode cX2_canBeABack 27 = .ok (.if_icmp .ge 23, 3) := by decide +kernel
theorem dX2_canBeABack_30 : decode cX2_canBeABack 30 = .ok (.aload_n 0, 1) := by decide +kernel
theorem dX2_canBeABack_31 : decode cX2_canBeABack 31 = .ok (.aload_n 1, 1) := by decide +kernel
theorem dX2_canBeABack_32 : decode cX2_canBeABack 32 = .ok (.iload_n 2, 1) := by decide +kernel
theorem dX2_canBeABack_33 : decode cX2_canBeABack 33 = .ok (.invokevirtual 107, 3) := by decide +kernel
theorem dX2_canBeABack_36 : decode cX2_canBeABack 36 = .ok (.invokevirtual 110, 3) := by decide +kernel
theorem dX2_canBeABack_39 : decode cX2_canBeABack 39 = .ok (.ifCond .ne 5, 3) := by decide +kernel
theorem dX2_canBeABack_42 : decode cX2_canBeABack 42 = .ok (.iconst 0, 1) := by decide +kernel
theorem dX2_canBeABack_43 : decode cX2_canBeABack 43 = .ok (.ireturn, 1) := by decide +kernel
theorem dX2_canBeABack_44 : decode cX2_canBeABack 44 = .ok (.iinc 2 1, 3) := by decide +kernel
theorem dX2_canBeABack_47 : decode cX2_canBeABack 47 = .ok (.goto (-25), 3) := by decide +kernel
theorem dX2_canBeABack_50 : decode cX2_canBeABack 50 = .ok (.iconst 1, 1) := by decide +kernel
theorem dX2_canBeABack_51 : decode cX2_canBeABack 51 = .ok (.ireturn, 1) := by decide +kernel
theorem dX2_harmOf_0 : decode cX2_harmOf 0 = .ok (.iconst 0, 1) := by decide +kernel
theorem dX2_harmOf_1 : decode cX2_harmOf 1 = .ok (.istore_n 2, 1) := by decide +kernel
theorem dX2_harmOf_2 : decode cX2_harmOf 2 = .ok (.iconst 0, 1) := by decide +kernel
theorem dX2_harmOf_3 : decode cX2_harmOf 3 = .ok (.istore_n 3, 1) := by decide +kernel
theorem dX2_harmOf_4 : decode cX2_harmOf 4 = .ok (.iload_n 3, 1) := by decide +kernel
theorem dX2_harmOf_5 : decode cX2_harmOf 5 = .ok (.aload_n 0, 1) := by decide +kernel
theorem dX2_harmOf_6 : decode cX2_harmOf 6 = .ok (.getfield 31, 3) := by decide +kernel
theorem dX2_harmOf_9 : decode cX2_harmOf 9 = .ok (.if_icmp .ge 43, 3) := by decide +kernel
theorem dX2_harmOf_12 : decode cX2_harmOf 12 = .ok (.aload_n 0, 1) := by decide +kernel
theorem dX2_harmOf_13 : decode cX2_harmOf 13 = .ok (.iconst 0, 1) := by decide +kernel
theorem dX2_harmOf_14 : decode cX2_harmOf 14 = .ok (.iload_n 3, 1) := by decide +kernel
theorem dX2_harmOf_15 : decode cX2_harmOf 15 = .ok (.invokevirtual 49, 3) := by decide +kernel
theorem dX2_harmOf_18 : decode cX2_harmOf 18 = .ok (.istore 4, 2) := by decide +kernel
theorem dX2_harmOf_20 : decode cX2_harmOf 20 = .ok (.aload_n 0, 1) := by decide +kernel
theorem dX2_harmOf_21 : decode cX2_harmOf 21 = .ok (.iload 4, 2) := by decide +kernel
theorem dX2_harmOf_23 : decode cX2_harmOf 23 = .ok (.aload_n 1, 1) := by decide +kernel
theorem dX2_harmOf_24 : decode cX2_harmOf 24 = .ok (.aload_n 0, 1) := by decide +kernel
theorem dX2_harmOf_25 : decode cX2_harmOf 25 = .ok (.getfield 31, 3) := by decide +kernel
theorem dX2_harmOf_28 : decode cX2_harmOf 28 = .ok (.iconst 1, 1) := by decide +kernel
theorem dX2_harmOf_29 : decode cX2_harmOf 29 = .ok (.isub, 1) := by decide +kernel
theorem dX2_harmOf_30 : decode cX2_harmOf 30 = .ok (.iload_n 3, 1) := by decide +kernel
theorem dX2_harmOf_31 : decode cX2_harmOf 31 = .ok (.isub, 1) := by decide +kernel
theorem dX2_harmOf_32 : decode cX2_harmOf 32 = .ok (.invokevirtual 107, 3) := by decide +kernel
theorem dX2_harmOf_35 : decode cX2_harmOf 35 = .ok (.invokevirtual 85, 3) := by decide +kernel
theorem dX2_harmOf_38 : decode cX2_harmOf 38 = .ok (.iload 4, 2) := by decide +kernel
theorem dX2_harmOf_40 : decode cX2_harmOf 40 = .ok (.if_icmp .eq 6, 3) := by decide +kernel
theorem dX2_harmOf_43 : decode cX2_harmOf 43 = .ok (.iinc 2 1, 3) := by decide +kernel
theorem dX2_harmOf_46 : decode cX2_harmOf 46 = .ok (.iinc 3 1, 3) := by decide +kernel
theorem dX2_harmOf_49 : decode cX2_harmOf 49 = .ok (.goto (-45), 3) := by decide +kernel
theorem dX2_harmOf_52 : decode cX2_harmOf 52 = .ok (.iload_n 2, 1) := by decide +kernel
theorem dX2_harmOf_53 : decode cX2_harmOf 53 = .ok (.ireturn, 1) := by decide +kernel
theorem dX2_placesLeftAsTheyStand_0 : decode cX2_placesLeftAsTheyStand 0 = .ok (.iconst 0, 1) := by decide +kernel
theorem dX2_placesLeftAsTheyStand_1 : decode cX2_placesLeftAsTheyStand 1 = .ok (.istore_n 1, 1) := by decide +kernel
theorem dX2_placesLeftAsTheyStand_2 : decode cX2_placesLeftAsTheyStand 2 = .ok (.iconst 0, 1) := by decide +kernel
theorem dX2_placesLeftAsTheyStand_3 : decode cX2_placesLeftAsTheyStand 3 = .ok (.istore_n 2, 1) := by decide +kernel
theorem dX2_placesLeftAsTheyStand_4 : decode cX2_placesLeftAsTheyStand 4 = .ok (.iload_n 2, 1) := by decide +kernel
theorem dX2_placesLeftAsTheyStand_5 : decode cX2_placesLeftAsTheyStand 5 = .ok (.aload_n 0, 1) := by decide +kernel
theorem dX2_placesLeftAsTheyStand_6 : decode cX2_placesLeftAsTheyStand 6 = .ok (.getfield 31, 3) := by decide +kernel
theorem dX2_placesLeftAsTheyStand_9 : decode cX2_placesLeftAsTheyStand 9 = .ok (.if_icmp .ge 31, 3) := by decide +kernel
theorem dX2_placesLeftAsTheyStand_12 : decode cX2_placesLeftAsTheyStand 12 = .ok (.aload_n 0, 1) := by decide +kernel
theorem dX2_placesLeftAsTheyStand_13 : decode cX2_placesLeftAsTheyStand 13 = .ok (.aload_n 0, 1) := by decide +kernel
theorem dX2_placesLeftAsTheyStand_14 : decode cX2_placesLeftAsTheyStand 14 = .ok (.iconst 0, 1) := by decide +kernel
theorem dX2_placesLeftAsTheyStand_15 : decode cX2_placesLeftAsTheyStand 15 = .ok (.iload_n 2, 1) := by decide +kernel
theorem dX2_placesLeftAsTheyStand_16 : decode cX2_placesLeftAsTheyStand 16 = .ok (.invokevirtual 114, 3) := by decide +kernel
theorem dX2_placesLeftAsTheyStand_19 : decode cX2_placesLeftAsTheyStand 19 = .ok (.invokevirtual 76, 3) := by decide +kernel
theorem dX2_placesLeftAsTheyStand_22 : decode cX2_placesLeftAsTheyStand 22 = .ok (.aload_n 0, 1) := by decide +kernel
theorem dX2_placesLeftAsTheyStand_23 : decode cX2_placesLeftAsTheyStand 23 = .ok (.iconst 0, 1) := by decide +kernel
theorem dX2_placesLeftAsTheyStand_24 : decode cX2_placesLeftAsTheyStand 24 = .ok (.iload_n 2, 1) := by decide +kernel
theorem dX2_placesLeftAsTheyStand_25 : decode cX2_placesLeftAsTheyStand 25 = .ok (.invokevirtual 49, 3) := by decide +kernel
theorem dX2_placesLeftAsTheyStand_28 : decode cX2_placesLeftAsTheyStand 28 = .ok (.if_icmp .ne 6, 3) := by decide +kernel
theorem dX2_placesLeftAsTheyStand_31 : decode cX2_placesLeftAsTheyStand 31 = .ok (.iinc 1 1, 3) := by decide +kernel
theorem dX2_placesLeftAsTheyStand_34 : decode cX2_placesLeftAsTheyStand 34 = .ok (.iinc 2 1, 3) := by decide +kernel
theorem dX2_placesLeftAsTheyStand_37 : decode cX2_placesLeftAsTheyStand 37 = .ok (.goto (-33), 3) := by decide +kernel
theorem dX2_placesLeftAsTheyStand_40 : decode cX2_placesLeftAsTheyStand 40 = .ok (.iload_n 1, 1) := by decide +kernel
theorem dX2_placesLeftAsTheyStand_41 : decode cX2_placesLeftAsTheyStand 41 = .ok (.ireturn, 1) := by decide +kernel
theorem dX2_readOf_0 : decode cX2_readOf 0 = .ok (.aload_n 0, 1) := by decide +kernel
theorem dX2_readOf_1 : decode cX2_readOf 1 = .ok (.aload_n 0, 1) := by decide +kernel
theorem dX2_readOf_2 : decode cX2_readOf 2 = .ok (.iload_n 1, 1) := by decide +kernel
theorem dX2_readOf_3 : decode cX2_readOf 3 = .ok (.iload_n 2, 1) := by decide +kernel
theorem dX2_readOf_4 : decode cX2_readOf 4 = .ok (.invokevirtual 63, 3) := by decide +kernel
theorem dX2_readOf_7 : decode cX2_readOf 7 = .ok (.invokevirtual 76, 3) := by decide +kernel
theorem dX2_readOf_10 : decode cX2_readOf 10 = .ok (.ireturn, 1) := by decide +kernel
theorem dX2_shownOf_0 : decode cX2_shownOf 0 = .ok (.aload_n 0, 1) := by decide +kernel
theorem dX2_shownOf_1 : decode cX2_shownOf 1 = .ok (.getfield 9, 3) := by decide +kernel
theorem dX2_shownOf_4 : decode cX2_shownOf 4 = .ok (.iload_n 1, 1) := by decide +kernel
theorem dX2_shownOf_5 : decode cX2_shownOf 5 = .ok (.invokestatic 56, 3) := by decide +kernel
theorem dX2_shownOf_8 : decode cX2_shownOf 8 = .ok (.aload_n 0, 1) := by decide +kernel
theorem dX2_shownOf_9 : decode cX2_shownOf 9 = .ok (.getfield 18, 3) := by decide +kernel
theorem dX2_shownOf_12 : decode cX2_shownOf 12 = .ok (.iload_n 2, 1) := by decide +kernel
theorem dX2_shownOf_13 : decode cX2_shownOf 13 = .ok (.invokestatic 56, 3) := by decide +kernel
theorem dX2_shownOf_16 : decode cX2_shownOf 16 = .ok (.ior, 1) := by decide +kernel
theorem dX2_shownOf_17 : decode cX2_shownOf 17 = .ok (.ireturn, 1) := by decide +kernel
theorem dX2_offOf_0 : decode cX2_offOf 0 = .ok (.aload_n 0, 1) := by decide +kernel
theorem dX2_offOf_1 : decode cX2_offOf 1 = .ok (.getfield 9, 3) := by decide +kernel
theorem dX2_offOf_4 : decode cX2_offOf 4 = .ok (.iload_n 1, 1) := by decide +kernel
theorem dX2_offOf_5 : decode cX2_offOf 5 = .ok (.invokestatic 56, 3) := by decide +kernel
theorem dX2_offOf_8 : decode cX2_offOf 8 = .ok (.iload_n 2, 1) := by decide +kernel
theorem dX2_offOf_9 : decode cX2_offOf 9 = .ok (.ixor, 1) := by decide +kernel
theorem dX2_offOf_10 : decode cX2_offOf 10 = .ok (.invokestatic 117, 3) := by decide +kernel
theorem dX2_offOf_13 : decode cX2_offOf 13 = .ok (.ireturn, 1) := by decide +kernel
theorem dX2_throughFor_0 : decode cX2_throughFor 0 = .ok (.iload_n 0, 1) := by decide +kernel
theorem dX2_throughFor_1 : decode cX2_throughFor 1 = .ok (.tableswitch 40 3 5 #[27, 36, 38], 27) := by decide +kernel
theorem dX2_throughFor_28 : decode cX2_throughFor 28 = .ok (.iload_n 1, 1) := by decide +kernel
theorem dX2_throughFor_29 : decode cX2_throughFor 29 = .ok (.invokestatic 122, 3) := by decide +kernel
theorem dX2_throughFor_32 : decode cX2_throughFor 32 = .ok (.sipush (-449), 3) := by decide +kernel
theorem dX2_throughFor_35 : decode cX2_throughFor 35 = .ok (.iand, 1) := by decide +kernel
theorem dX2_throughFor_36 : decode cX2_throughFor 36 = .ok (.ireturn, 1) := by decide +kernel
theorem dX2_throughFor_37 : decode cX2_throughFor 37 = .ok (.iload_n 1, 1) := by decide +kernel
theorem dX2_throughFor_38 : decode cX2_throughFor 38 = .ok (.ireturn, 1) := by decide +kernel
theorem dX2_throughFor_39 : decode cX2_throughFor 39 = .ok (.iconst 0, 1) := by decide +kernel
theorem dX2_throughFor_40 : decode cX2_throughFor 40 = .ok (.ireturn, 1) := by decide +kernel
theorem dX2_throughFor_41 : decode cX2_throughFor 41 = .ok (.iload_n 1, 1) := by decide +kernel
theorem dX2_throughFor_42 : decode cX2_throughFor 42 = .ok (.invokestatic 122, 3) := by decide +kernel
theorem dX2_throughFor_45 : decode cX2_throughFor 45 = .ok (.ireturn, 1) := by decide +kernel
theorem dX3_init_0 : decode cX3_init 0 = .ok (.aload_n 0, 1) := by decide +kernel
theorem dX3_init_1 : decode cX3_init 1 = .ok (.invokespecial 3, 3) := by decide +kernel
theorem dX3_init_4 : decode cX3_init 4 = .ok (.aload_n 0, 1) := by decide +kernel
theorem dX3_init_5 : decode cX3_init 5 = .ok (.new 9, 3) := by decide +kernel
theorem dX3_init_8 : decode cX3_init 8 = .ok (.dup, 1) := by decide +kernel
theorem dX3_init_9 : decode cX3_init 9 = .ok (.invokespecial 11, 3) := by decide +kernel
theorem dX3_init_12 : decode cX3_init 12 = .ok (.putfield 12, 3) := by decide +kernel
theorem dX3_init_15 : decode cX3_init 15 = .ok (.aload_n 0, 1) := by decide +kernel
theorem dX3_init_16 : decode cX3_init 16 = .ok (.new 18, 3) := by decide +kernel
theorem dX3_init_19 : decode cX3_init 19 = .ok (.dup, 1) := by decide +kernel
theorem dX3_init_20 : decode cX3_init 20 = .ok (.invokespecial 20, 3) := by decide +kernel
theorem dX3_init_23 : decode cX3_init 23 = .ok (.putfield 21, 3) := by decide +kernel
theorem dX3_init_26 : decode cX3_init 26 = .ok (.return_, 1) := by decide +kernel
theorem dX3_readsPage_0 : decode cX3_readsPage 0 = .ok (.aload_n 0, 1) := by decide +kernel
theorem dX3_readsPage_1 : decode cX3_readsPage 1 = .ok (.getfield 21, 3) := by decide +kernel
theorem dX3_readsPage_4 : decode cX3_readsPage 4 = .ok (.invokevirtual 25, 3) := by decide +kernel
theorem dX3_readsPage_7 : decode cX3_readsPage 7 = .ok (.aload_n 0, 1) := by decide +kernel
theorem dX3_readsPage_8 : decode cX3_readsPage 8 = .ok (.getfield 12, 3) := by decide +kernel
theorem dX3_readsPage_11 : decode cX3_readsPage 11 = .ok (.invokevirtual 28, 3) := by decide +kernel
theorem dX3_readsPage_14 : decode cX3_readsPage 14 = .ok (.aload_n 0, 1) := by decide +kernel
theorem dX3_readsPage_15 : decode cX3_readsPage 15 = .ok (.invokevirtual 31, 3) := by decide +kernel
theorem dX3_readsPage_18 : decode cX3_readsPage 18 = .ok (.ifCond .eq 28, 3) := by decide +kernel
theorem dX3_readsPage_21 : decode cX3_readsPage 21 = .ok (.aload_n 0, 1) := by decide +kernel
theorem dX3_readsPage_22 : decode cX3_readsPage 22 = .ok (.invokevirtual 35, 3) := by decide +kernel
theorem dX3_readsPage_25 : decode cX3_readsPage 25 = .ok (.ifCond .eq 21, 3) := by decide +kernel
theorem dX3_readsPage_28 : decode cX3_readsPage 28 = .ok (.aload_n 0, 1) := by decide +kernel
theorem dX3_readsPage_29 : decode cX3_readsPage 29 = .ok (.invokevirtual 38, 3) := by decide +kernel
theorem dX3_readsPage_32 : decode cX3_readsPage 32 = .ok (.ifCond .eq 14, 3) := by decide +kernel
theorem dX3_readsPage_35 : decode cX3_readsPage 35 = .ok (.aload_n 0, 1) := by decide +kernel
theorem dX3_readsPage_36 : decode cX3_readsPage 36 = .ok (.invokevirtual 41, 3) := by decide +kernel
theorem dX3_readsPage_39 : decode cX3_readsPage 39 = .ok (.ifCond .eq 7, 3) := by decide +kernel
theorem dX3_readsPage_42 : decode cX3_readsPage 42 = .ok (.iconst 1, 1) := by decide +kernel
theorem dX3_readsPage_43 : decode cX3_readsPage 43 = .ok (.goto 4, 3) := by decide +kernel
theorem dX3_readsPage_46 : decode cX3_readsPage 46 = .ok (.iconst 0, 1) := by decide +kernel
theorem dX3_readsPage_47 : decode cX3_readsPage 47 = .ok (.istore_n 1, 1) := by decide +kernel
theorem dX3_readsPage_48 : decode cX3_readsPage 48 = .ok (.aload_n 0, 1) := by decide +kernel
theorem dX3_readsPage_49 : decode cX3_readsPage 49 = .ok (.getfield 12, 3) := by decide +kernel
theorem dX3_readsPage_52 : decode cX3_readsPage 52 = .ok (.invokevirtual 44, 3) := by decide +kernel
theorem dX3_readsPage_55 : decode cX3_readsPage 55 = .ok (.iload_n 1, 1) := by decide +kernel
theorem dX3_readsPage_56 : decode cX3_readsPage 56 = .ok (.ireturn, 1) := by decide +kernel
theorem dX3_readsLaw_0 : decode cX3_readsLaw 0 = .ok (.aload_n 0, 1) := by decide +kernel
theorem dX3_readsLaw_1 : decode cX3_readsLaw 1 = .ok (.ldc 45, 2) := by decide +kernel
theorem dX3_readsLaw_3 : decode cX3_readsLaw 3 = .ok (.invokevirtual 47, 3) := by decide +kernel
theorem dX3_readsLaw_6 : decode cX3_readsLaw 6 = .ok (.ifCond .eq 12, 3) := by decide +kernel
theorem dX3_readsLaw_9 : decode cX3_readsLaw 9 = .ok (.aload_n 0, 1) := by decide +kernel
theorem dX3_readsLaw_10 : decode cX3_readsLaw 10 = .ok (.bipush 9, 2) := by decide +kernel
theorem dX3_readsLaw_12 : decode cX3_readsLaw 12 = .ok (.invokevirtual 51, 3) := by decide +kernel
theorem dX3_readsLaw_15 : decode cX3_readsLaw 15 = .ok (.ifCond .ne 5, 3) := by decide +kernel
theorem dX3_readsLaw_18 : decode cX3_readsLaw 18 = .ok (.iconst 0, 1) := by decide +kernel
theorem dX3_readsLaw_19 : decode cX3_readsLaw 19 = .ok (.ireturn, 1) := by decide +kernel
theorem dX3_readsLaw_20 : decode cX3_readsLaw 20 = .ok (.aload_n 0, 1) := by decide +kernel
theorem dX3_readsLaw_21 : decode cX3_readsLaw 21 = .ok (.getfield 21, 3) := by decide +kernel
theorem dX3_readsLaw_24 : decode cX3_readsLaw 24 = .ok (.aload_n 0, 1) := by decide +kernel
theorem dX3_readsLaw_25 : decode cX3_readsLaw 25 = .ok (.getfield 55, 3) := by decide +kernel
theorem dX3_readsLaw_28 : decode cX3_readsLaw 28 = .ok (.putfield 59, 3) := by decide +kernel
theorem dX3_readsLaw_31 : decode cX3_readsLaw 31 = .ok (.aload_n 0, 1) := by decide +kernel
theorem dX3_readsLaw_32 : decode cX3_readsLaw 32 = .ok (.iconst 3, 1) := by decide +kernel
theorem dX3_readsLaw_33 : decode cX3_readsLaw 33 = .ok (.invokevirtual 62, 3) := by decide +kernel
theorem dX3_readsLaw_36 : decode cX3_readsLaw 36 = .ok (.ireturn, 1) := by decide +kernel
theorem dX3_readsLetters_0 : decode cX3_readsLetters 0 = .ok (.iconst 0, 1) := by decide +kernel
theorem dX3_readsLetters_1 : decode cX3_readsLetters 1 = .ok (.istore_n 1, 1) := by decide +kernel
theorem dX3_readsLetters_2 : decode cX3_readsLetters 2 = .ok (.iload_n 1, 1) := by decide +kernel
theorem dX3_readsLetters_3 : decode cX3_readsLetters 3 = .ok (.bipush 8, 2) := by decide +kernel
theorem dX3_readsLetters_5 : decode cX3_readsLetters 5 = .ok (.if_icmp .ge 34, 3) := by decide +kernel
theorem dX3_readsLetters_8 : decode cX3_readsLetters 8 = .ok (.iload_n 1, 1) := by decide +kernel
theorem dX3_readsLetters_9 : decode cX3_readsLetters 9 = .ok (.ifCond .eq 15, 3) := by decide +kernel
theorem dX3_readsLetters_12 : decode cX3_readsLetters 12 = .ok (.aload_n 0, 1) := by decide +kernel
theorem dX3_readsLetters_13 : decode cX3_readsLetters 13 = .ok (.getfield 12, 3) := by decide +kernel
theorem dX3_readsLetters_16 : decode cX3_readsLetters 16 = .ok (.ldc 65, 2) := by decide +kernel
theorem dX3_readsLetters_18 : decode cX3_readsLetters 18 = .ok (.invokevirtual 67, 3) := by decide +kernel
theorem dX3_readsLetters_21 : decode cX3_readsLetters 21 = .ok (.ifCond .eq 18, 3) := by decide +kernel
theorem dX3_readsLetters_24 : decode cX3_readsLetters 24 = .ok (.aload_n 0, 1) := by decide +kernel
theorem dX3_readsLetters_25 : decode cX3_readsLetters 25 = .ok (.invokevirtual 70, 3) := by decide +kernel
theorem dX3_readsLetters_28 : decode cX3_readsLetters 28 = .ok (.ifCond .ne 5, 3) := by decide +kernel
theorem dX3_readsLetters_31 : decode cX3_readsLetters 31 = .ok (.iconst 0, 1) := by decide +kernel
theorem dX3_readsLetters_32 : decode cX3_readsLetters 32 = .ok (.ireturn, 1) := by decide +kernel
theorem dX3_readsLetters_33 : decode cX3_readsLetters 33 = .ok (.iinc 1 1, 3) := by decide +kernel
theorem dX3_readsLetters_36 : decode cX3_readsLetters 36 = .ok (.goto (-34), 3) := by decide +kernel
theorem dX3_readsLetters_39 : decode cX3_readsLetters 39 = .ok (.aload_n 0, 1) := by decide +kernel
theorem dX3_readsLetters_40 : decode cX3_readsLetters 40 = .ok (.getfield 12, 3) := by decide +kernel
theorem dX3_readsLetters_43 : decode cX3_readsLetters 43 = .ok (.ldc 65, 2) := by decide +kernel
theorem dX3_readsLetters_45 : decode cX3_readsLetters 45 = .ok (.invokevirtual 67, 3) := by decide +kernel
theorem dX3_readsLetters_48 : decode cX3_readsLetters 48 = .ok (.ifCond .eq 11, 3) := by decide +kernel
theorem dX3_readsLetters_51 : decode cX3_readsLetters 51 = .ok (.aload_n 0, 1) := by decide +kernel
theorem dX3_readsLetters_52 : decode cX3_readsLetters 52 = .ok (.iconst 3, 1) := by decide +kernel
theorem dX3_readsLetters_53 : decode cX3_readsLetters 53 = .ok (.invokevirtual 73, 3) := by decide +kernel
theorem dX3_readsLetters_56 : decode cX3_readsLetters 56 = .ok (.ifCond .eq 7, 3) := by decide +kernel
theorem dX3_readsLetters_59 : decode cX3_readsLetters 59 = .ok (.iconst 1, 1) := by decide +kernel
theorem dX3_readsLetters_60 : decode cX3_readsLetters 60 = .ok (.goto 4, 3) := by decide +kernel
theorem dX3_readsLetters_63 : decode cX3_readsLetters 63 = .ok (.iconst 0, 1) := by decide +kernel
theorem dX3_readsLetters_64 : decode cX3_readsLetters 64 = .ok (.ireturn, 1) := by decide +kernel
theorem dX3_readsLetter_0 : decode cX3_readsLetter 0 = .ok (.aload_n 0, 1) := by decide +kernel
theorem dX3_readsLetter_1 : decode cX3_readsLetter 1 = .ok (.ldc 65, 2) := by decide +kernel
theorem dX3_readsLetter_3 : decode cX3_readsLetter 3 = .ok (.invokevirtual 47, 3) := by decide +kernel
theorem dX3_readsLetter_6 : decode cX3_readsLetter 6 = .ok (.ifCond .ne 5, 3) := by decide +kernel
theorem dX3_readsLetter_9 : decode cX3_readsLetter 9 = .ok (.iconst 0, 1) := by decide +kernel
theorem dX3_readsLetter_10 : decode cX3_readsLetter 10 = .ok (.ireturn, 1) := by decide +kernel
theorem dX3_readsLetter_11 : decode cX3_readsLetter 11 = .ok (.aload_n 0, 1) := by decide +kernel
theorem dX3_readsLetter_12 : decode cX3_readsLetter 12 = .ok (.invokevirtual 76, 3) := by decide +kernel
theorem dX3_readsLetter_15 : decode cX3_readsLetter 15 = .ok (.istore_n 1, 1) := by decide +kernel
theorem dX3_readsLetter_16 : decode cX3_readsLetter 16 = .ok (.iload_n 1, 1) := by decide +kernel
theorem dX3_readsLetter_17 : decode cX3_readsLetter 17 = .ok (.ifCond .ne 9, 3) := by decide +kernel
theorem dX3_readsLetter_20 : decode cX3_readsLetter 20 = .ok (.aload_n 0, 1) := by decide +kernel
theorem dX3_readsLetter_21 : decode cX3_readsLetter 21 = .ok (.iconst 1, 1) := by decide +kernel
theorem dX3_readsLetter_22 : decode cX3_readsLetter 22 = .ok (.invokevirtual 73, 3) := by decide +kernel
theorem dX3_readsLetter_25 : decode cX3_readsLetter 25 = .ok (.ireturn, 1) := by decide +kernel
theorem dX3_readsLetter_26 : decode cX3_readsLetter 26 = .ok (.aload_n 0, 1) := by decide +kernel
theorem dX3_readsLetter_27 : decode cX3_readsLetter 27 = .ok (.getfield 12, 3) := by decide +kernel
theorem dX3_readsLetter_30 : decode cX3_readsLetter 30 = .ok (.invokevirtual 80, 3) := by decide +kernel
theorem dX3_readsLetter_33 : decode cX3_readsLetter 33 = .ok (.aload_n 0, 1) := by decide +kernel
theorem dX3_readsLetter_34 : decode cX3_readsLetter 34 = .ok (.sipush 511, 3) := by decide +kernel
theorem dX3_readsLetter_37 : decode cX3_readsLetter 37 = .ok (.invokevirtual 51, 3) := by decide +kernel
theorem dX3_readsLetter_40 : decode cX3_readsLetter 40 = .ok (.ifCond .ne 5, 3) := by decide +kernel
theorem dX3_readsLetter_43 : decode cX3_readsLetter 43 = .ok (.iconst 0, 1) := by decide +kernel
theorem dX3_readsLetter_44 : decode cX3_readsLetter 44 = .ok (.ireturn, 1) := by decide +kernel
theorem dX3_readsLetter_45 : decode cX3_readsLetter 45 = .ok (.aload_n 0, 1) := by decide +kernel
theorem dX3_readsLetter_46 : decode cX3_readsLetter 46 = .ok (.getfield 21, 3) := by decide +kernel
theorem dX3_readsLetter_49 : decode cX3_readsLetter 49 = .ok (.iload_n 1, 1) := by decide +kernel
theorem dX3_readsLetter_50 : decode cX3_readsLetter 50 = .ok (.aload_n 0, 1) := by decide +kernel
theorem dX3_readsLetter_51 : decode cX3_readsLetter 51 = .ok (.getfield 55, 3) := by decide +kernel
theorem dX3_readsLetter_54 : decode cX3_readsLetter 54 = .ok (.invokevirtual 83, 3) := by decide +kernel
theorem dX3_readsLetter_57 : decode cX3_readsLetter 57 = .ok (.aload_n 0, 1) := by decide +kernel
theorem dX3_readsLetter_58 : decode cX3_readsLetter 58 = .ok (.iconst 3, 1) := by decide +kernel
theorem dX3_readsLetter_59 : decode cX3_readsLetter 59 = .ok (.invokevirtual 62, 3) := by decide +kernel
theorem dX3_readsLetter_62 : decode cX3_readsLetter 62 = .ok (.ireturn, 1) := by decide +kernel
theorem dX3_sortTold_0 : decode cX3_sortTold 0 = .ok (.aload_n 0, 1) := by decide +kernel
theorem dX3_sortTold_1 : decode cX3_sortTold 1 = .ok (.getfield 12, 3) := by decide +kernel
theorem dX3_sortTold_4 : decode cX3_sortTold 4 = .ok (.ldc 87, 2) := by decide +kernel
theorem dX3_sortTold_6 : decode cX3_sortTold 6 = .ok (.invokevirtual 67, 3) := by decide +kernel
theorem dX3_sortTold_9 : decode cX3_sortTold 9 = .ok (.ifCond .eq 7, 3) := by decide +kernel
theorem dX3_sortTold_12 : decode cX3_sortTold 12 = .ok (.iconst 1, 1) := by decide +kernel
theorem dX3_sortTold_13 : decode cX3_sortTold 13 = .ok (.goto 68, 3) := by decide +kernel
theorem dX3_sortTold_16 : decode cX3_sortTold 16 = .ok (.aload_n 0, 1) := by decide +kernel
theorem dX3_sortTold_17 : decode cX3_sortTold 17 = .ok (.getfield 12, 3) := by decide +kernel
theorem dX3_sortTold_20 : decode cX3_sortTold 20 = .ok (.ldc 89, 2) := by decide +kernel
theorem dX3_sortTold_22 : decode cX3_sortTold 22 = .ok (.invokevirtual 67, 3) := by decide +kernel
theorem dX3_sortTold_25 : decode cX3_sortTold 25 = .ok (.ifCond .eq 7, 3) := by decide +kernel
theorem dX3_sortTold_28 : decode cX3_sortTold 28 = .ok (.iconst 2, 1) := by decide +kernel
theorem dX3_sortTold_29 : decode cX3_sortTold 29 = .ok (.goto 52, 3) := by decide +kernel
theorem dX3_sortTold_32 : decode cX3_sortTold 32 = .ok (.aload_n 0, 1) := by decide +kernel
theorem dX3_sortTold_33 : decode cX3_sortTold 33 = .ok (.getfield 12, 3) := by decide +kernel
theorem dX3_sortTold_36 : decode cX3_sortTold 36 = .ok (.ldc 91, 2) := by decide +kernel
theorem dX3_sortTold_38 : decode cX3_sortTold 38 = .ok (.invokevirtual 67, 3) := by decide +kernel
theorem dX3_sortTold_41 : decode cX3_sortTold 41 = .ok (.ifCond .eq 7, 3) := by decide +kernel
theorem dX3_sortTold_44 : decode cX3_sortTold 44 = .ok (.iconst 3, 1) := by decide +kernel
theorem dX3_sortTold_45 : decode cX3_sortTold 45 = .ok (.goto 36, 3) := by decide +kernel
theorem dX3_sortTold_48 : decode cX3_sortTold 48 = .ok (.aload_n 0, 1) := by decide +kernel
theorem dX3_sortTold_49 : decode cX3_sortTold 49 = .ok (.getfield 12, 3) := by decide +kernel
theorem dX3_sortTold_52 : decode cX3_sortTold 52 = .ok (.ldc 93, 2) := by decide +kernel
theorem dX3_sortTold_54 : decode cX3_sortTold 54 = .ok (.invokevirtual 67, 3) := by decide +kernel
theorem dX3_sortTold_57 : decode cX3_sortTold 57 = .ok (.ifCond .eq 7, 3) := by decide +kernel
theorem dX3_sortTold_60 : decode cX3_sortTold 60 = .ok (.iconst 4, 1) := by decide +kernel
theorem dX3_sortTold_61 : decode cX3_sortTold 61 = .ok (.goto 20, 3) := by decide +kernel
theorem dX3_sortTold_64 : decode cX3_sortTold 64 = .ok (.aload_n 0, 1) := by decide +kernel
theorem dX3_sortTold_65 : decode cX3_sortTold 65 = .ok (.getfield 12, 3) := by decide +kernel
theorem dX3_sortTold_68 : decode cX3_sortTold 68 = .ok (.ldc 95, 2) := by decide +kernel
theorem dX3_sortTold_70 : decode cX3_sortTold 70 = .ok (.invokevirtual 67, 3) := by decide +kernel
theorem dX3_sortTold_73 : decode cX3_sortTold 73 = .ok (.ifCond .eq 7, 3) := by decide +kernel
theorem dX3_sortTold_76 : decode cX3_sortTold 76 = .ok (.iconst 5, 1) := by decide +kernel
theorem dX3_sortTold_77 : decode cX3_sortTold 77 = .ok (.goto 4, 3) := by decide +kernel
theorem dX3_sortTold_80 : decode cX3_sortTold 80 = .ok (.iconst 0, 1) := by decide +kernel
theorem dX3_sortTold_81 : decode cX3_sortTold 81 = .ok (.ireturn, 1) := by decide +kernel
theorem dX3_readsSheet_0 : decode cX3_readsSheet 0 = .ok (.aload_n 0, 1) := by decide +kernel
theorem dX3_readsSheet_1 : decode cX3_readsSheet 1 = .ok (.ldc 97, 2) := by decide +kernel
theorem dX3_readsSheet_3 : decode cX3_readsSheet 3 = .ok (.invokevirtual 47, 3) := by decide +kernel
theorem dX3_readsSheet_6 : decode cX3_readsSheet 6 = .ok (.ifCond .eq 37, 3) := by decide +kernel
theorem dX3_readsSheet_9 : decode cX3_readsSheet 9 = .ok (.aload_n 0, 1) := by decide +kernel
theorem dX3_readsSheet_10 : decode cX3_readsSheet 10 = .ok (.invokevirtual 99, 3) := by decide +kernel
theorem dX3_readsSheet_13 : decode cX3_readsSheet 13 = .ok (.ifCond .eq 30, 3) := by decide +kernel
theorem dX3_readsSheet_16 : decode cX3_readsSheet 16 = .ok (.aload_n 0, 1) := by decide +kernel
theorem dX3_readsSheet_17 : decode cX3_readsSheet 17 = .ok (.iconst 4, 1) := by decide +kernel
theorem dX3_readsSheet_18 : decode cX3_readsSheet 18 = .ok (.invokevirtual 62, 3) := by decide +kernel
theorem dX3_readsSheet_21 : decode cX3_readsSheet 21 = .ok (.ifCond .eq 22, 3) := by decide +kernel
theorem dX3_readsSheet_24 : decode cX3_readsSheet 24 = .ok (.aload_n 0, 1) := by decide +kernel
theorem dX3_readsSheet_25 : decode cX3_readsSheet 25 = .ok (.invokevirtual 102, 3) := by decide +kernel
theorem dX3_readsSheet_28 : decode cX3_readsSheet 28 = .ok (.ifCond .eq 15, 3) := by decide +kernel
theorem dX3_readsSheet_31 : decode cX3_readsSheet 31 = .ok (.aload_n 0, 1) := by decide +kernel
theorem dX3_readsSheet_32 : decode cX3_readsSheet 32 = .ok (.iconst 3, 1) := by decide +kernel
theorem dX3_readsSheet_33 : decode cX3_readsSheet 33 = .ok (.invokevirtual 62, 3) := by decide +kernel
theorem dX3_readsSheet_36 : decode cX3_readsSheet 36 = .ok (.ifCond .eq 7, 3) := by decide +kernel
theorem dX3_readsSheet_39 : decode cX3_readsSheet 39 = .ok (.iconst 1, 1) := by decide +kernel
theorem dX3_readsSheet_40 : decode cX3_readsSheet 40 = .ok (.goto 4, 3) := by decide +kernel
theorem dX3_readsSheet_43 : decode cX3_readsSheet 43 = .ok (.iconst 0, 1) := by decide +kernel
theorem dX3_readsSheet_44 : decode cX3_readsSheet 44 = .ok (.ireturn, 1) := by decide +kernel
theorem dX3_readsFront_0 : decode cX3_readsFront 0 = .ok (.iconst 0, 1) := by decide +kernel
theorem dX3_readsFront_1 : decode cX3_readsFront 1 = .ok (.istore_n 1, 1) := by decide +kernel
theorem dX3_readsFront_2 : decode cX3_readsFront 2 = .ok (.iload_n 1, 1) := by decide +kernel
theorem dX3_readsFront_3 : decode cX3_readsFront 3 = .ok (.bipush 9, 2) := by decide +kernel
theorem dX3_readsFront_5 : decode cX3_readsFront 5 = .ok (.if_icmp .ge 49, 3) := by decide +kernel
theorem dX3_readsFront_8 : decode cX3_readsFront 8 = .ok (.aload_n 0, 1) := by decide +kernel
theorem dX3_readsFront_9 : decode cX3_readsFront 9 = .ok (.getfield 12, 3) := by decide +kernel
theorem dX3_readsFront_12 : decode cX3_readsFront 12 = .ok (.getfield 105, 3) := by decide +kernel
theorem dX3_readsFront_15 : decode cX3_readsFront 15 = .ok (.iconst 2, 1) := by decide +kernel
theorem dX3_readsFront_16 : decode cX3_readsFront 16 = .ok (.if_icmp .ne 38, 3) := by decide +kernel
theorem dX3_readsFront_19 : decode cX3_readsFront 19 = .ok (.aload_n 0, 1) := by decide +kernel
theorem dX3_readsFront_20 : decode cX3_readsFront 20 = .ok (.aload_n 0, 1) := by decide +kernel
theorem dX3_readsFront_21 : decode cX3_readsFront 21 = .ok (.getfield 21, 3) := by decide +kernel
theorem dX3_readsFront_24 : decode cX3_readsFront 24 = .ok (.getfield 108, 3) := by decide +kernel
theorem dX3_readsFront_27 : decode cX3_readsFront 27 = .ok (.iconst 1, 1) := by decide +kernel
theorem dX3_readsFront_28 : decode cX3_readsFront 28 = .ok (.isub, 1) := by decide +kernel
theorem dX3_readsFront_29 : decode cX3_readsFront 29 = .ok (.invokevirtual 51, 3) := by decide +kernel
theorem dX3_readsFront_32 : decode cX3_readsFront 32 = .ok (.ifCond .ne 5, 3) := by decide +kernel
theorem dX3_readsFront_35 : decode cX3_readsFront 35 = .ok (.iconst 0, 1) := by decide +kernel
theorem dX3_readsFront_36 : decode cX3_readsFront 36 = .ok (.ireturn, 1) := by decide +kernel
theorem dX3_readsFront_37 : decode cX3_readsFront 37 = .ok (.aload_n 0, 1) := by decide +kernel
theorem dX3_readsFront_38 : decode cX3_readsFront 38 = .ok (.getfield 21, 3) := by decide +kernel
theorem dX3_readsFront_41 : decode cX3_readsFront 41 = .ok (.aload_n 0, 1) := by decide +kernel
theorem dX3_readsFront_42 : decode cX3_readsFront 42 = .ok (.getfield 55, 3) := by decide +kernel
theorem dX3_readsFront_45 : decode cX3_readsFront 45 = .ok (.invokevirtual 111, 3) := by decide +kernel
theorem dX3_readsFront_48 : decode cX3_readsFront 48 = .ok (.iinc 1 1, 3) := by decide +kernel
theorem dX3_readsFront_51 : decode cX3_readsFront 51 = .ok (.goto (-49), 3) := by decide +kernel
theorem dX3_readsFront_54 : decode cX3_readsFront 54 = .ok (.aload_n 0, 1) := by decide +kernel
theorem dX3_readsFront_55 : decode cX3_readsFront 55 = .ok (.getfield 12, 3) := by decide +kernel
theorem dX3_readsFront_58 : decode cX3_readsFront 58 = .ok (.getfield 105, 3) := by decide +kernel
theorem dX3_readsFront_61 : decode cX3_readsFront 61 = .ok (.iconst 2, 1) := by decide +kernel
theorem dX3_readsFront_62 : decode cX3_readsFront 62 = .ok (.if_icmp .eq 5, 3) := by decide +kernel
theorem dX3_readsFront_65 : decode cX3_readsFront 65 = .ok (.iconst 1, 1) := by decide +kernel
theorem dX3_readsFront_66 : decode cX3_readsFront 66 = .ok (.ireturn, 1) := by decide +kernel
theorem dX3_readsFront_67 : decode cX3_readsFront 67 = .ok (.aload_n 0, 1) := by decide +kernel
theorem dX3_readsFront_68 : decode cX3_readsFront 68 = .ok (.aload_n 0, 1) := by decide +kernel
theorem dX3_readsFront_69 : decode cX3_readsFront 69 = .ok (.getfield 12, 3) := by decide +kernel
theorem dX3_readsFront_72 : decode cX3_readsFront 72 = .ok (.invokevirtual 115, 3) := by decide +kernel
theorem dX3_readsFront_75 : decode cX3_readsFront 75 = .ok (.aload_n 0, 1) := by decide +kernel
theorem dX3_readsFront_76 : decode cX3_readsFront 76 = .ok (.getfield 21, 3) := by decide +kernel
theorem dX3_readsFront_79 : decode cX3_readsFront 79 = .ok (.getfield 108, 3) := by decide +kernel
theorem dX3_readsFront_82 : decode cX3_readsFront 82 = .ok (.if_icmp .ge 7, 3) := by decide +kernel
theorem dX3_readsFront_85 : decode cX3_readsFront 85 = .ok (.iconst 3, 1) := by decide +kernel
theorem dX3_readsFront_86 : decode cX3_readsFront 86 = .ok (.goto 4, 3) := by decide +kernel
theorem dX3_readsFront_89 : decode cX3_readsFront 89 = .ok (.iconst 2, 1) := by decide +kernel
theorem dX3_readsFront_90 : decode cX3_readsFront 90 = .ok (.invokevirtual 73, 3) := by decide +kernel
theorem dX3_readsFront_93 : decode cX3_readsFront 93 = .ok (.ireturn, 1) := by decide +kernel
theorem dX3_readsBack_0 : decode cX3_readsBack 0 = .ok (.iconst 0, 1) := by decide +kernel
theorem dX3_readsBack_1 : decode cX3_readsBack 1 = .ok (.istore_n 1, 1) := by decide +kernel
theorem dX3_readsBack_2 : decode cX3_readsBack 2 = .ok (.iload_n 1, 1) := by decide +kernel
theorem dX3_readsBack_3 : decode cX3_readsBack 3 = .ok (.aload_n 0, 1) := by decide +kernel
theorem dX3_readsBack_4 : decode cX3_readsBack 4 = .ok (.getfield 21, 3) := by decide +kernel
theorem dX3_readsBack_7 : decode cX3_readsBack 7 = .ok (.getfield 118, 3) := by decide +kernel
theorem dX3_readsBack_10 : decode cX3_readsBack 10 = .ok (.if_icmp .ge 40, 3) := by decide +kernel
theorem dX3_readsBack_13 : decode cX3_readsBack 13 = .ok (.aload_n 0, 1) := by decide +kernel
theorem dX3_readsBack_14 : decode cX3_readsBack 14 = .ok (.aload_n 0, 1) := by decide +kernel
theorem dX3_readsBack_15 : decode cX3_readsBack 15 = .ok (.getfield 21, 3) := by decide +kernel
theorem dX3_readsBack_18 : decode cX3_readsBack 18 = .ok (.getfield 108, 3) := by decide +kernel
theorem dX3_readsBack_21 : decode cX3_readsBack 21 = .ok (.iconst 1, 1) := by decide +kernel
theorem dX3_readsBack_22 : decode cX3_readsBack 22 = .ok (.isub, 1) := by decide +kernel
theorem dX3_readsBack_23 : decode cX3_readsBack 23 = .ok (.invokevirtual 51, 3) := by decide +kernel
theorem dX3_readsBack_26 : decode cX3_readsBack 26 = .ok (.ifCond .ne 5, 3) := by decide +kernel
theorem dX3_readsBack_29 : decode cX3_readsBack 29 = .ok (.iconst 0, 1) := by decide +kernel
theorem dX3_readsBack_30 : decode cX3_readsBack 30 = .ok (.ireturn, 1) := by decide +kernel
theorem dX3_readsBack_31 : decode cX3_readsBack 31 = .ok (.aload_n 0, 1) := by decide +kernel
theorem dX3_readsBack_32 : decode cX3_readsBack 32 = .ok (.getfield 21, 3) := by decide +kernel
theorem dX3_readsBack_35 : decode cX3_readsBack 35 = .ok (.iconst 1, 1) := by decide +kernel
theorem dX3_readsBack_36 : decode cX3_readsBack 36 = .ok (.iload_n 1, 1) := by decide +kernel
theorem dX3_readsBack_37 : decode cX3_readsBack 37 = .ok (.aload_n 0, 1) := by decide +kernel
theorem dX3_readsBack_38 : decode cX3_readsBack 38 = .ok (.getfield 55, 3) := by decide +kernel
theorem dX3_readsBack_41 : decode cX3_readsBack 41 = .ok (.invokevirtual 121, 3) := by decide +kernel
theorem dX3_readsBack_44 : decode cX3_readsBack 44 = .ok (.iinc 1 1, 3) := by decide +kernel
theorem dX3_readsBack_47 : decode cX3_readsBack 47 = .ok (.goto (-45), 3) := by decide +kernel
theorem dX3_readsBack_50 : decode cX3_readsBack 50 = .ok (.iconst 1, 1) := by decide +kernel
theorem dX3_readsBack_51 : decode cX3_readsBack 51 = .ok (.ireturn, 1) := by decide +kernel
theorem dX3_readsEnd_0 : decode cX3_readsEnd 0 = .ok (.aload_n 0, 1) := by decide +kernel
theorem dX3_readsEnd_1 : decode cX3_readsEnd 1 = .ok (.getfield 12, 3) := by decide +kernel
theorem dX3_readsEnd_4 : decode cX3_readsEnd 4 = .ok (.getfield 105, 3) := by decide +kernel
theorem dX3_readsEnd_7 : decode cX3_readsEnd 7 = .ok (.ifCond .eq 11, 3) := by decide +kernel
theorem dX3_readsEnd_10 : decode cX3_readsEnd 10 = .ok (.aload_n 0, 1) := by decide +kernel
theorem dX3_readsEnd_11 : decode cX3_readsEnd 11 = .ok (.iconst 1, 1) := by decide +kernel
theorem dX3_readsEnd_12 : decode cX3_readsEnd 12 = .ok (.invokevirtual 73, 3) := by decide +kernel
theorem dX3_readsEnd_15 : decode cX3_readsEnd 15 = .ok (.ifCond .eq 7, 3) := by decide +kernel
theorem dX3_readsEnd_18 : decode cX3_readsEnd 18 = .ok (.iconst 1, 1) := by decide +kernel
theorem dX3_readsEnd_19 : decode cX3_readsEnd 19 = .ok (.goto 4, 3) := by decide +kernel
theorem dX3_readsEnd_22 : decode cX3_readsEnd 22 = .ok (.iconst 0, 1) := by decide +kernel
theorem dX3_readsEnd_23 : decode cX3_readsEnd 23 = .ok (.ireturn, 1) := by decide +kernel
theorem dX3_takesWord_0 : decode cX3_takesWord 0 = .ok (.aload_n 0, 1) := by decide +kernel
theorem dX3_takesWord_1 : decode cX3_takesWord 1 = .ok (.getfield 12, 3) := by decide +kernel
theorem dX3_takesWord_4 : decode cX3_takesWord 4 = .ok (.aload_n 1, 1) := by decide +kernel
theorem dX3_takesWord_5 : decode cX3_takesWord 5 = .ok (.invokevirtual 67, 3) := by decide +kernel
theorem dX3_takesWord_8 : decode cX3_takesWord 8 = .ok (.ifCond .ne 9, 3) := by decide +kernel
theorem dX3_takesWord_11 : decode cX3_takesWord 11 = .ok (.aload_n 0, 1) := by decide +kernel
theorem dX3_takesWord_12 : decode cX3_takesWord 12 = .ok (.iconst 1, 1) := by decide +kernel
theorem dX3_takesWord_13 : decode cX3_takesWord 13 = .ok (.invokevirtual 73, 3) := by decide +kernel
theorem dX3_takesWord_16 : decode cX3_takesWord 16 = .ok (.ireturn, 1) := by decide +kernel
theorem dX3_takesWord_17 : decode cX3_takesWord 17 = .ok (.aload_n 0, 1) := by decide +kernel
theorem dX3_takesWord_18 : decode cX3_takesWord 18 = .ok (.getfield 12, 3) := by decide +kernel
theorem dX3_takesWord_21 : decode cX3_takesWord 21 = .ok (.invokevirtual 80, 3) := by decide +kernel
theorem dX3_takesWord_24 : decode cX3_takesWord 24 = .ok (.iconst 1, 1) := by decide +kernel
theorem dX3_takesWord_25 : decode cX3_takesWord 25 = .ok (.ireturn, 1) := by decide +kernel
theorem dX3_takesSign_0 : decode cX3_takesSign 0 = .ok (.aload_n 0, 1) := by decide +kernel
theorem dX3_takesSign_1 : decode cX3_takesSign 1 = .ok (.getfield 12, 3) := by decide +kernel
theorem dX3_takesSign_4 : decode cX3_takesSign 4 = .ok (.getfield 105, 3) := by decide +kernel
theorem dX3_takesSign_7 : decode cX3_takesSign 7 = .ok (.iload_n 1, 1) := by decide +kernel
theorem dX3_takesSign_8 : decode cX3_takesSign 8 = .ok (.if_icmp .eq 9, 3) := by decide +kernel
theorem dX3_takesSign_11 : decode cX3_takesSign 11 = .ok (.aload_n 0, 1) := by decide +kernel
theorem dX3_takesSign_12 : decode cX3_takesSign 12 = .ok (.iconst 1, 1) := by decide +kernel
theorem dX3_takesSign_13 : decode cX3_takesSign 13 = .ok (.invokevirtual 73, 3) := by decide +kernel
theorem dX3_takesSign_16 : decode cX3_takesSign 16 = .ok (.ireturn, 1) := by decide +kernel
theorem dX3_takesSign_17 : decode cX3_takesSign 17 = .ok (.aload_n 0, 1) := by decide +kernel
theorem dX3_takesSign_18 : decode cX3_takesSign 18 = .ok (.getfield 12, 3) := by decide +kernel
theorem dX3_takesSign_21 : decode cX3_takesSign 21 = .ok (.invokevirtual 80, 3) := by decide +kernel
theorem dX3_takesSign_24 : decode cX3_takesSign 24 = .ok (.iconst 1, 1) := by decide +kernel
theorem dX3_takesSign_25 : decode cX3_takesSign 25 = .ok (.ireturn, 1) := by decide +kernel
theorem dX3_takesNumber_0 : decode cX3_takesNumber 0 = .ok (.aload_n 0, 1) := by decide +kernel
theorem dX3_takesNumber_1 : decode cX3_takesNumber 1 = .ok (.getfield 12, 3) := by decide +kernel
theorem dX3_takesNumber_4 : decode cX3_takesNumber 4 = .ok (.getfield 105, 3) := by decide +kernel
theorem dX3_takesNumber_7 : decode cX3_takesNumber 7 = .ok (.iconst 2, 1) := by decide +kernel
theorem dX3_takesNumber_8 : decode cX3_takesNumber 8 = .ok (.if_icmp .eq 9, 3) := by decide +kernel
theorem dX3_takesNumber_11 : decode cX3_takesNumber 11 = .ok (.aload_n 0, 1) := by decide +kernel
theorem dX3_takesNumber_12 : decode cX3_takesNumber 12 = .ok (.iconst 1, 1) := by decide +kernel
theorem dX3_takesNumber_13 : decode cX3_takesNumber 13 = .ok (.invokevirtual 73, 3) := by decide +kernel
theorem dX3_takesNumber_16 : decode cX3_takesNumber 16 = .ok (.ireturn, 1) := by decide +kernel
theorem dX3_takesNumber_17 : decode cX3_takesNumber 17 = .ok (.aload_n 0, 1) := by decide +kernel
theorem dX3_takesNumber_18 : decode cX3_takesNumber 18 = .ok (.aload_n 0, 1) := by decide +kernel
theorem dX3_takesNumber_19 : decode cX3_takesNumber 19 = .ok (.getfield 12, 3) := by decide +kernel
theorem dX3_takesNumber_22 : decode cX3_takesNumber 22 = .ok (.invokevirtual 115, 3) := by decide +kernel
theorem dX3_takesNumber_25 : decode cX3_takesNumber 25 = .ok (.putfield 55, 3) := by decide +kernel
theorem dX3_takesNumber_28 : decode cX3_takesNumber 28 = .ok (.aload_n 0, 1) := by decide +kernel
theorem dX3_takesNumber_29 : decode cX3_takesNumber 29 = .ok (.getfield 55, 3) := by decide +kernel
theorem dX3_takesNumber_32 : decode cX3_takesNumber 32 = .ok (.iload_n 1, 1) := by decide +kernel
theorem dX3_takesNumber_33 : decode cX3_takesNumber 33 = .ok (.if_icmp .le 9, 3) := by decide +kernel
theorem dX3_takesNumber_36 : decode cX3_takesNumber 36 = .ok (.aload_n 0, 1) := by decide +kernel
theorem dX3_takesNumber_37 : decode cX3_takesNumber 37 = .ok (.iconst 2, 1) := by decide +kernel
theorem dX3_takesNumber_38 : decode cX3_takesNumber 38 = .ok (.invokevirtual 73, 3) := by decide +kernel
theorem dX3_takesNumber_41 : decode cX3_takesNumber 41 = .ok (.ireturn, 1) := by decide +kernel
theorem dX3_takesNumber_42 : decode cX3_takesNumber 42 = .ok (.aload_n 0, 1) := by decide +kernel
theorem dX3_takesNumber_43 : decode cX3_takesNumber 43 = .ok (.getfield 12, 3) := by decide +kernel
theorem dX3_takesNumber_46 : decode cX3_takesNumber 46 = .ok (.invokevirtual 80, 3) := by decide +kernel
theorem dX3_takesNumber_49 : decode cX3_takesNumber 49 = .ok (.iconst 1, 1) := by decide +kernel
theorem dX3_takesNumber_50 : decode cX3_takesNumber 50 = .ok (.ireturn, 1) := by decide +kernel
theorem dX3_fails_0 : decode cX3_fails 0 = .ok (.aload_n 0, 1) := by decide +kernel
theorem dX3_fails_1 : decode cX3_fails 1 = .ok (.iload_n 1, 1) := by decide +kernel
theorem dX3_fails_2 : decode cX3_fails 2 = .ok (.putfield 125, 3) := by decide +kernel
theorem dX3_fails_5 : decode cX3_fails 5 = .ok (.aload_n 0, 1) := by decide +kernel
theorem dX3_fails_6 : decode cX3_fails 6 = .ok (.aload_n 0, 1) := by decide +kernel
theorem dX3_fails_7 : decode cX3_fails 7 = .ok (.getfield 12, 3) := by decide +kernel
theorem dX3_fails_10 : decode cX3_fails 10 = .ok (.getfield 128, 3) := by decide +kernel
theorem dX3_fails_13 : decode cX3_fails 13 = .ok (.putfield 131, 3) := by decide +kernel
theorem dX3_fails_16 : decode cX3_fails 16 = .ok (.iconst 0, 1) := by decide +kernel
theorem dX3_fails_17 : decode cX3_fails 17 = .ok (.ireturn, 1) := by decide +kernel
theorem dX4_init_0 : decode cX4_init 0 = .ok (.aload_n 0, 1) := by decide +kernel
theorem dX4_init_1 : decode cX4_init 1 = .ok (.invokespecial 3, 3) := by decide +kernel
theorem dX4_init_4 : decode cX4_init 4 = .ok (.aload_n 0, 1) := by decide +kernel
theorem dX4_init_5 : decode cX4_init 5 = .ok (.bipush 40, 2) := by decide +kernel
theorem dX4_init_7 : decode cX4_init 7 = .ok (.newarray .int, 2) := by decide +kernel
theorem dX4_init_9 : decode cX4_init 9 = .ok (.putfield 9, 3) := by decide +kernel
theorem dX4_init_12 : decode cX4_init 12 = .ok (.aload_n 0, 1) := by decide +kernel
theorem dX4_init_13 : decode cX4_init 13 = .ok (.iconst (-1), 1) := by decide +kernel
theorem dX4_init_14 : decode cX4_init 14 = .ok (.putfield 15, 3) := by decide +kernel
theorem dX4_init_17 : decode cX4_init 17 = .ok (.return_, 1) := by decide +kernel
theorem dX4_isMissing_0 : decode cX4_isMissing 0 = .ok (.aload_n 0, 1) := by decide +kernel
theorem dX4_isMissing_1 : decode cX4_isMissing 1 = .ok (.getfield 15, 3) := by decide +kernel
theorem dX4_isMissing_4 : decode cX4_isMissing 4 = .ok (.iconst (-1), 1) := by decide +kernel
theorem dX4_isMissing_5 : decode cX4_isMissing 5 = .ok (.if_icmp .ne 7, 3) := by decide +kernel
theorem dX4_isMissing_8 : decode cX4_isMissing 8 = .ok (.iconst 1, 1) := by decide +kernel
theorem dX4_isMissing_9 : decode cX4_isMissing 9 = .ok (.goto 4, 3) := by decide +kernel
theorem dX4_isMissing_12 : decode cX4_isMissing 12 = .ok (.iconst 0, 1) := by decide +kernel
theorem dX4_isMissing_13 : decode cX4_isMissing 13 = .ok (.ireturn, 1) := by decide +kernel
theorem dX4_make_0 : decode cX4_make 0 = .ok (.aload_n 0, 1) := by decide +kernel
theorem dX4_make_1 : decode cX4_make 1 = .ok (.iload_n 1, 1) := by decide +kernel
theorem dX4_make_2 : decode cX4_make 2 = .ok (.putfield 15, 3) := by decide +kernel
theorem dX4_make_5 : decode cX4_make 5 = .ok (.aload_n 0, 1) := by decide +kernel
theorem dX4_make_6 : decode cX4_make 6 = .ok (.iload_n 2, 1) := by decide +kernel
theorem dX4_make_7 : decode cX4_make 7 = .ok (.putfield 19, 3) := by decide +kernel
theorem dX4_make_10 : decode cX4_make 10 = .ok (.iconst 0, 1) := by decide +kernel
theorem dX4_make_11 : decode cX4_make 11 = .ok (.istore_n 3, 1) := by decide +kernel
theorem dX4_make_12 : decode cX4_make 12 = .ok (.iload_n 3, 1) := by decide +kernel
theorem dX4_make_13 : decode cX4_make 13 = .ok (.aload_n 0, 1) := by decide +kernel
theorem dX4_make_14 : decode cX4_make 14 = .ok (.getfield 9, 3) := by decide +kernel
theorem dX4_make_17 : decode cX4_make 17 = .ok (.arraylength, 1) := by decide +kernel
theorem dX4_make_18 : decode cX4_make 18 = .ok (.if_icmp .ge 16, 3) := by decide +kernel
theorem dX4_make_21 : decode cX4_make 21 = .ok (.aload_n 0, 1) := by decide +kernel
theorem dX4_make_22 : decode cX4_make 22 = .ok (.getfield 9, 3) := by decide +kernel
theorem dX4_make_25 : decode cX4_make 25 = .ok (.iload_n 3, 1) := by decide +kernel
theorem dX4_make_26 : decode cX4_make 26 = .ok (.iconst 0, 1) := by decide +kernel
theorem dX4_make_27 : decode cX4_make 27 = .ok (.iastore, 1) := by decide +kernel
theorem dX4_make_28 : decode cX4_make 28 = .ok (.iinc 3 1, 3) := by decide +kernel
theorem dX4_make_31 : decode cX4_make 31 = .ok (.goto (-19), 3) := by decide +kernel
theorem dX4_make_34 : decode cX4_make 34 = .ok (.return_, 1) := by decide +kernel
theorem dX4_makeMissing_0 : decode cX4_makeMissing 0 = .ok (.aload_n 0, 1) := by decide +kernel
theorem dX4_makeMissing_1 : decode cX4_makeMissing 1 = .ok (.iconst (-1), 1) := by decide +kernel
theorem dX4_makeMissing_2 : decode cX4_makeMissing 2 = .ok (.putfield 15, 3) := by decide +kernel
theorem dX4_makeMissing_5 : decode cX4_makeMissing 5 = .ok (.aload_n 0, 1) := by decide +kernel
theorem dX4_makeMissing_6 : decode cX4_makeMissing 6 = .ok (.iconst 0, 1) := by decide +kernel
theorem dX4_makeMissing_7 : decode cX4_makeMissing 7 = .ok (.putfield 19, 3) := by decide +kernel
theorem dX4_makeMissing_10 : decode cX4_makeMissing 10 = .ok (.return_, 1) := by decide +kernel
theorem dX4_holds_0 : decode cX4_holds 0 = .ok (.iload_n 1, 1) := by decide +kernel
theorem dX4_holds_1 : decode cX4_holds 1 = .ok (.ifCond .lt 29, 3) := by decide +kernel
theorem dX4_holds_4 : decode cX4_holds 4 = .ok (.iload_n 2, 1) := by decide +kernel
theorem dX4_holds_5 : decode cX4_holds 5 = .ok (.ifCond .lt 25, 3) := by decide +kernel
theorem dX4_holds_8 : decode cX4_holds 8 = .ok (.iload_n 1, 1) := by decide +kernel
theorem dX4_holds_9 : decode cX4_holds 9 = .ok (.aload_n 0, 1) := by decide +kernel
theorem dX4_holds_10 : decode cX4_holds 10 = .ok (.getfield 19, 3) := by decide +kernel
theorem dX4_holds_13 : decode cX4_holds 13 = .ok (.if_icmp .gt 17, 3) := by decide +kernel
theorem dX4_holds_16 : decode cX4_holds 16 = .ok (.iload_n 2, 1) := by decide +kernel
theorem dX4_holds_17 : decode cX4_holds 17 = .ok (.aload_n 0, 1) := by decide +kernel
theorem dX4_holds_18 : decode cX4_holds 18 = .ok (.getfield 19, 3) := by decide +kernel
theorem dX4_holds_21 : decode cX4_holds 21 = .ok (.iload_n 1, 1) := by decide +kernel
theorem dX4_holds_22 : decode cX4_holds 22 = .ok (.isub, 1) := by decide +kernel
theorem dX4_holds_23 : decode cX4_holds 23 = .ok (.if_icmp .gt 7, 3) := by decide +kernel
theorem dX4_holds_26 : decode cX4_holds 26 = .ok (.iconst 1, 1) := by decide +kernel
theorem dX4_holds_27 : decode cX4_holds 27 = .ok (.goto 4, 3) := by decide +kernel
theorem dX4_holds_30 : decode cX4_holds 30 = .ok (.iconst 0, 1) := by decide +kernel
theorem dX4_holds_31 : decode cX4_holds 31 = .ok (.ireturn, 1) := by decide +kernel
theorem dX4_itemAt_0 : decode cX4_itemAt 0 = .ok (.aload_n 0, 1) := by decide +kernel
theorem dX4_itemAt_1 : decode cX4_itemAt 1 = .ok (.getfield 9, 3) := by decide +kernel
theorem dX4_itemAt_4 : decode cX4_itemAt 4 = .ok (.iload_n 1, 1) := by decide +kernel
theorem dX4_itemAt_5 : decode cX4_itemAt 5 = .ok (.invokestatic 22, 3) := by decide +kernel
theorem dX4_itemAt_8 : decode cX4_itemAt 8 = .ok (.ireturn, 1) := by decide +kernel
theorem dX4_store_0 : decode cX4_store 0 = .ok (.aload_n 0, 1) := by decide +kernel
theorem dX4_store_1 : decode cX4_store 1 = .ok (.getfield 9, 3) := by decide +kernel
theorem dX4_store_4 : decode cX4_store 4 = .ok (.iload_n 1, 1) := by decide +kernel
theorem dX4_store_5 : decode cX4_store 5 = .ok (.aload_n 0, 1) := by decide +kernel
theorem dX4_store_6 : decode cX4_store 6 = .ok (.getfield 15, 3) := by decide +kernel
theorem dX4_store_9 : decode cX4_store 9 = .ok (.ifCond .ne 8, 3) := by decide +kernel
theorem dX4_store_12 : decode cX4_store 12 = .ok (.iload_n 2, 1) := by decide +kernel
theorem dX4_store_13 : decode cX4_store 13 = .ok (.i2b, 1) := by decide +kernel
theorem dX4_store_14 : decode cX4_store 14 = .ok (.goto 17, 3) := by decide +kernel
theorem dX4_store_17 : decode cX4_store 17 = .ok (.aload_n 0, 1) := by decide +kernel
theorem dX4_store_18 : decode cX4_store 18 = .ok (.getfield 15, 3) := by decide +kernel
theorem dX4_store_21 : decode cX4_store 21 = .ok (.iconst 1, 1) := by decide +kernel
theorem dX4_store_22 : decode cX4_store 22 = .ok (.if_icmp .ne 8, 3) := by decide +kernel
theorem dX4_store_25 : decode cX4_store 25 = .ok (.iload_n 2, 1) := by decide +kernel
theorem dX4_store_26 : decode cX4_store 26 = .ok (.i2s, 1) := by decide +kernel
theorem dX4_store_27 : decode cX4_store 27 = .ok (.goto 4, 3) := by decide +kernel
theorem dX4_store_30 : decode cX4_store 30 = .ok (.iload_n 2, 1) := by decide +kernel
theorem dX4_store_31 : decode cX4_store 31 = .ok (.invokestatic 26, 3) := by decide +kernel
theorem dX4_store_34 : decode cX4_store 34 = .ok (.return_, 1) := by decide +kernel
theorem dX4_takeItems_0 : decode cX4_takeItems 0 = .ok (.aload_n 1, 1) := by decide +kernel
theorem dX4_takeItems_1 : decode cX4_takeItems 1 = .ok (.getfield 9, 3) := by decide +kernel
theorem dX4_takeItems_4 : decode cX4_takeItems 4 = .ok (.iload_n 2, 1) := by decide +kernel
theorem dX4_takeItems_5 : decode cX4_takeItems 5 = .ok (.aload_n 0, 1) := by decide +kernel
theorem dX4_takeItems_6 : decode cX4_takeItems 6 = .ok (.getfield 9, 3) := by decide +kernel
theorem dX4_takeItems_9 : decode cX4_takeItems 9 = .ok (.iload_n 3, 1) := by decide +kernel
theorem dX4_takeItems_10 : decode cX4_takeItems 10 = .ok (.iload 4, 2) := by decide +kernel
theorem dX4_takeItems_12 : decode cX4_takeItems 12 = .ok (.invokestatic 30, 3) := by decide +kernel
theorem dX4_takeItems_15 : decode cX4_takeItems 15 = .ok (.return_, 1) := by decide +kernel
theorem dX5_init_0 : decode cX5_init 0 = .ok (.aload_n 0, 1) := by decide +kernel
theorem dX5_init_1 : decode cX5_init 1 = .ok (.invokespecial 3, 3) := by decide +kernel
theorem dX5_init_4 : decode cX5_init 4 = .ok (.aload_n 0, 1) := by decide +kernel
theorem dX5_init_5 : decode cX5_init 5 = .ok (.sipush 400, 3) := by decide +kernel
theorem dX5_init_8 : decode cX5_init 8 = .ok (.newarray .int, 2) := by decide +kernel
theorem dX5_init_10 : decode cX5_init 10 = .ok (.putfield 9, 3) := by decide +kernel
theorem dX5_init_13 : decode cX5_init 13 = .ok (.return_, 1) := by decide +kernel
theorem dX5_append_0 : decode cX5_append 0 = .ok (.iload_n 3, 1) := by decide +kernel
theorem dX5_append_1 : decode cX5_append 1 = .ok (.sipush 400, 3) := by decide +kernel
theorem dX5_append_4 : decode cX5_append 4 = .ok (.aload_n 0, 1) := by decide +kernel
theorem dX5_append_5 : decode cX5_append 5 = .ok (.getfield 15, 3) := by decide +kernel
theorem dX5_append_8 : decode cX5_append 8 = .ok (.isub, 1) := by decide +kernel
theorem dX5_append_9 : decode cX5_append 9 = .ok (.if_icmp .le 5, 3) := by decide +kernel
theorem dX5_append_12 : decode cX5_append 12 = .ok (.iconst 0, 1) := by decide +kernel
theorem dX5_append_13 : decode cX5_append 13 = .ok (.ireturn, 1) := by decide +kernel
theorem dX5_append_14 : decode cX5_append 14 = .ok (.iload_n 3, 1) := by decide +kernel
theorem dX5_append_15 : decode cX5_append 15 = .ok (.iconst 1, 1) := by decide +kernel
theorem dX5_append_16 : decode cX5_append 16 = .ok (.isub, 1) := by decide +kernel
theorem dX5_append_17 : decode cX5_append 17 = .ok (.istore 4, 2) := by decide +kernel
theorem dX5_append_19 : decode cX5_append 19 = .ok (.iload 4, 2) := by decide +kernel
theorem dX5_append_21 : decode cX5_append 21 = .ok (.ifCond .lt 42, 3) := by decide +kernel
theorem dX5_append_24 : decode cX5_append 24 = .ok (.aload_n 0, 1) := by decide +kernel
theorem dX5_append_25 : decode cX5_append 25 = .ok (.getfield 9, 3) := by decide +kernel
theorem dX5_append_28 : decode cX5_append 28 = .ok (.aload_n 0, 1) := by decide +kernel
theorem dX5_append_29 : decode cX5_append 29 = .ok (.getfield 15, 3) := by decide +kernel
theorem dX5_append_32 : decode cX5_append 32 = .ok (.lload_n 1, 1) := by decide +kernel
theorem dX5_append_33 : decode cX5_append 33 = .ok (.bipush 8, 2) := by decide +kernel
theorem dX5_append_35 : decode cX5_append 35 = .ok (.iload 4, 2) := by decide +kernel
theorem dX5_append_37 : decode cX5_append 37 = .ok (.imul, 1) := by decide +kernel
theorem dX5_append_38 : decode cX5_append 38 = .ok (.lshr, 1) := by decide +kernel
theorem dX5_append_39 : decode cX5_append 39 = .ok (.ldc2_w 19, 3) := by decide +kernel
theorem dX5_append_42 : decode cX5_append 42 = .ok (.land, 1) := by decide +kernel
theorem dX5_append_43 : decode cX5_append 43 = .ok (.l2i, 1) := by decide +kernel
theorem dX5_append_44 : decode cX5_append 44 = .ok (.invokestatic 21, 3) := by decide +kernel
theorem dX5_append_47 : decode cX5_append 47 = .ok (.aload_n 0, 1) := by decide +kernel
theorem dX5_append_48 : decode cX5_append 48 = .ok (.dup, 1) := by decide +kernel
theorem dX5_append_49 : decode cX5_append 49 = .ok (.getfield 15, 3) := by decide +kernel
theorem dX5_append_52 : decode cX5_append 52 = .ok (.iconst 1, 1) := by decide +kernel
theorem dX5_append_53 : decode cX5_append 53 = .ok (.iadd, 1) := by decide +kernel
theorem dX5_append_54 : decode cX5_append 54 = .ok (.putfield 15, 3) := by decide +kernel
theorem dX5_append_57 : decode cX5_append 57 = .ok (.iinc 4 (-1), 3) := by decide +kernel
theorem dX5_append_60 : decode cX5_append 60 = .ok (.goto (-41), 3) := by decide +kernel
theorem dX5_append_63 : decode cX5_append 63 = .ok (.iconst 1, 1) := by decide +kernel
theorem dX5_append_64 : decode cX5_append 64 = .ok (.ireturn, 1) := by decide +kernel
theorem dX5_makeEmpty_0 : decode cX5_makeEmpty 0 = .ok (.aload_n 0, 1) := by decide +kernel
theorem dX5_makeEmpty_1 : decode cX5_makeEmpty 1 = .ok (.iconst 0, 1) := by decide +kernel
theorem dX5_makeEmpty_2 : decode cX5_makeEmpty 2 = .ok (.putfield 15, 3) := by decide +kernel
theorem dX5_makeEmpty_5 : decode cX5_makeEmpty 5 = .ok (.return_, 1) := by decide +kernel
theorem dX5_rewind_0 : decode cX5_rewind 0 = .ok (.aload_n 0, 1) := by decide +kernel
theorem dX5_rewind_1 : decode cX5_rewind 1 = .ok (.iconst 0, 1) := by decide +kernel
theorem dX5_rewind_2 : decode cX5_rewind 2 = .ok (.putfield 25, 3) := by decide +kernel
theorem dX5_rewind_5 : decode cX5_rewind 5 = .ok (.aload_n 0, 1) := by decide +kernel
theorem dX5_rewind_6 : decode cX5_rewind 6 = .ok (.invokevirtual 28, 3) := by decide +kernel
theorem dX5_rewind_9 : decode cX5_rewind 9 = .ok (.return_, 1) := by decide +kernel
theorem dX5_advance_0 : decode cX5_advance 0 = .ok (.aload_n 0, 1) := by decide +kernel
theorem dX5_advance_1 : decode cX5_advance 1 = .ok (.getfield 25, 3) := by decide +kernel
theorem dX5_advance_4 : decode cX5_advance 4 = .ok (.aload_n 0, 1) := by decide +kernel
theorem dX5_advance_5 : decode cX5_advance 5 = .ok (.getfield 15, 3) := by decide +kernel
theorem dX5_advance_8 : decode cX5_advance 8 = .ok (.if_icmp .ge 35, 3) := by decide +kernel
theorem dX5_advance_11 : decode cX5_advance 11 = .ok (.aload_n 0, 1) := by decide +kernel
theorem dX5_advance_12 : decode cX5_advance 12 = .ok (.getfield 9, 3) := by decide +kernel
theorem dX5_advance_15 : decode cX5_advance 15 = .ok (.aload_n 0, 1) := by decide +kernel
theorem dX5_advance_16 : decode cX5_advance 16 = .ok (.getfield 25, 3) := by decide +kernel
theorem dX5_advance_19 : decode cX5_advance 19 = .ok (.invokestatic 31, 3) := by decide +kernel
theorem dX5_advance_22 : decode cX5_advance 22 = .ok (.invokestatic 35, 3) := by decide +kernel
theorem dX5_advance_25 : decode cX5_advance 25 = .ok (.bipush 6, 2) := by decide +kernel
theorem dX5_advance_27 : decode cX5_advance 27 = .ok (.if_icmp .ne 16, 3) := by decide +kernel
theorem dX5_advance_30 : decode cX5_advance 30 = .ok (.aload_n 0, 1) := by decide +kernel
theorem dX5_advance_31 : decode cX5_advance 31 = .ok (.dup, 1) := by decide +kernel
theorem dX5_advance_32 : decode cX5_advance 32 = .ok (.getfield 25, 3) := by decide +kernel
theorem dX5_advance_35 : decode cX5_advance 35 = .ok (.iconst 1, 1) := by decide +kernel
theorem dX5_advance_36 : decode cX5_advance 36 = .ok (.iadd, 1) := by decide +kernel
theorem dX5_advance_37 : decode cX5_advance 37 = .ok (.putfield 25, 3) := by decide +kernel
theorem dX5_advance_40 : decode cX5_advance 40 = .ok (.goto (-40), 3) := by decide +kernel
theorem dX5_advance_43 : decode cX5_advance 43 = .ok (.aload_n 0, 1) := by decide +kernel
theorem dX5_advance_44 : decode cX5_advance 44 = .ok (.aload_n 0, 1) := by decide +kernel
theorem dX5_advance_45 : decode cX5_advance 45 = .ok (.getfield 25, 3) := by decide +kernel
theorem dX5_advance_48 : decode cX5_advance 48 = .ok (.putfield 39, 3) := by decide +kernel
theorem dX5_advance_51 : decode cX5_advance 51 = .ok (.aload_n 0, 1) := by decide +kernel
theorem dX5_advance_52 : decode cX5_advance 52 = .ok (.getfield 25, 3) := by decide +kernel
theorem dX5_advance_55 : decode cX5_advance 55 = .ok (.aload_n 0, 1) := by decide +kernel
theorem dX5_advance_56 : decode cX5_advance 56 = .ok (.getfield 15, 3) := by decide +kernel
theorem dX5_advance_59 : decode cX5_advance 59 = .ok (.if_icmp .lt 9, 3) := by decide +kernel
theorem dX5_advance_62 : decode cX5_advance 62 = .ok (.aload_n 0, 1) := by decide +kernel
theorem dX5_advance_63 : decode cX5_advance 63 = .ok (.iconst 0, 1) := by decide +kernel
theorem dX5_advance_64 : decode cX5_advance 64 = .ok (.putfield 42, 3) := by decide +kernel
theorem dX5_advance_67 : decode cX5_advance 67 = .ok (.return_, 1) := by decide +kernel
theorem dX5_advance_68 : decode cX5_advance 68 = .ok (.aload_n 0, 1) := by decide +kernel
theorem dX5_advance_69 : decode cX5_advance 69 = .ok (.aload_n 0, 1) := by decide +kernel
theorem dX5_advance_70 : decode cX5_advance 70 = .ok (.getfield 9, 3) := by decide +kernel
theorem dX5_advance_73 : decode cX5_advance 73 = .ok (.aload_n 0, 1) := by decide +kernel
theorem dX5_advance_74 : decode cX5_advance 74 = .ok (.getfield 25, 3) := by decide +kernel
theorem dX5_advance_77 : decode cX5_advance 77 = .ok (.invokestatic 31, 3) := by decide +kernel
theorem dX5_advance_80 : decode cX5_advance 80 = .ok (.invokestatic 35, 3) := by decide +kernel
theorem dX5_advance_83 : decode cX5_advance 83 = .ok (.putfield 42, 3) := by decide +kernel
theorem dX5_advance_86 : decode cX5_advance 86 = .ok (.aload_n 0, 1) := by decide +kernel
theorem dX5_advance_87 : decode cX5_advance 87 = .ok (.dup, 1) := by decide +kernel
theorem dX5_advance_88 : decode cX5_advance 88 = .ok (.getfield 25, 3) := by decide +kernel
theorem dX5_advance_91 : decode cX5_advance 91 = .ok (.iconst 1, 1) := by decide +kernel
theorem dX5_advance_92 : decode cX5_advance 92 = .ok (.iadd, 1) := by decide +kernel
theorem dX5_advance_93 : decode cX5_advance 93 = .ok (.putfield 25, 3) := by decide +kernel
theorem dX5_advance_96 : decode cX5_advance 96 = .ok (.aload_n 0, 1) := by decide +kernel
theorem dX5_advance_97 : decode cX5_advance 97 = .ok (.getfield 42, 3) := by decide +kernel
theorem dX5_advance_100 : decode cX5_advance 100 = .ok (.iconst 1, 1) := by decide +kernel
theorem dX5_advance_101 : decode cX5_advance 101 = .ok (.if_icmp .eq 11, 3) := by decide +kernel
theorem dX5_advance_104 : decode cX5_advance 104 = .ok (.aload_n 0, 1) := by decide +kernel
theorem dX5_advance_105 : decode cX5_advance 105 = .ok (.getfield 42, 3) := by decide +kernel
theorem dX5_advance_108 : decode cX5_advance 108 = .ok (.iconst 2, 1) := by decide +kernel
theorem dX5_advance_109 : decode cX5_advance 109 = .ok (.if_icmp .ne 7, 3) := by decide +kernel
theorem dX5_advance_112 : decode cX5_advance 112 = .ok (.iconst 1, 1) := by decide +kernel
theorem dX5_advance_113 : decode cX5_advance 113 = .ok (.goto 4, 3) := by decide +kernel
theorem dX5_advance_116 : decode cX5_advance 116 = .ok (.iconst 0, 1) := by decide +kernel
theorem dX5_advance_117 : decode cX5_advance 117 = .ok (.istore_n 1, 1) := by decide +kernel
theorem dX5_advance_118 : decode cX5_advance 118 = .ok (.iload_n 1, 1) := by decide +kernel
theorem dX5_advance_119 : decode cX5_advance 119 = .ok (.ifCond .eq 48, 3) := by decide +kernel
theorem dX5_advance_122 : decode cX5_advance 122 = .ok (.aload_n 0, 1) := by decide +kernel
theorem dX5_advance_123 : decode cX5_advance 123 = .ok (.getfield 25, 3) := by decide +kernel
theorem dX5_advance_126 : decode cX5_advance 126 = .ok (.aload_n 0, 1) := by decide +kernel
theorem dX5_advance_127 : decode cX5_advance 127 = .ok (.getfield 15, 3) := by decide +kernel
theorem dX5_advance_130 : decode cX5_advance 130 = .ok (.if_icmp .ge 37, 3) := by decide +kernel
theorem dX5_advance_133 : decode cX5_advance 133 = .ok (.aload_n 0, 1) := by decide +kernel
theorem dX5_advance_134 : decode cX5_advance 134 = .ok (.getfield 9, 3) := by decide +kernel
theorem dX5_advance_137 : decode cX5_advance 137 = .ok (.aload_n 0, 1) := by decide +kernel
theorem dX5_advance_138 : decode cX5_advance 138 = .ok (.getfield 25, 3) := by decide +kernel
theorem dX5_advance_141 : decode cX5_advance 141 = .ok (.invokestatic 31, 3) := by decide +kernel
theorem dX5_advance_144 : decode cX5_advance 144 = .ok (.invokestatic 35, 3) := by decide +kernel
theorem dX5_advance_147 : decode cX5_advance 147 = .ok (.aload_n 0, 1) := by decide +kernel
theorem dX5_advance_148 : decode cX5_advance 148 = .ok (.getfield 42, 3) := by decide +kernel
theorem dX5_advance_151 : decode cX5_advance 151 = .ok (.if_icmp .ne 16, 3) := by decide +kernel
theorem dX5_advance_154 : decode cX5_advance 154 = .ok (.aload_n 0, 1) := by decide +kernel
theorem dX5_advance_155 : decode cX5_advance 155 = .ok (.dup, 1) := by decide +kernel
theorem dX5_advance_156 : decode cX5_advance 156 = .ok (.getfield 25, 3) := by decide +kernel
theorem dX5_advance_159 : decode cX5_advance 159 = .ok (.iconst 1, 1) := by decide +kernel
theorem dX5_advance_160 : decode cX5_advance 160 = .ok (.iadd, 1) := by decide +kernel
theorem dX5_advance_161 : decode cX5_advance 161 = .ok (.putfield 25, 3) := by decide +kernel
theorem dX5_advance_164 : decode cX5_advance 164 = .ok (.goto (-46), 3) := by decide +kernel
theorem dX5_advance_167 : decode cX5_advance 167 = .ok (.aload_n 0, 1) := by decide +kernel
theorem dX5_advance_168 : decode cX5_advance 168 = .ok (.getfield 42, 3) := by decide +kernel
theorem dX5_advance_171 : decode cX5_advance 171 = .ok (.iconst 2, 1) := by decide +kernel
theorem dX5_advance_172 : decode cX5_advance 172 = .ok (.if_icmp .ne 21, 3) := by decide +kernel
theorem dX5_advance_175 : decode cX5_advance 175 = .ok (.aload_n 0, 1) := by decide +kernel
theorem dX5_advance_176 : decode cX5_advance 176 = .ok (.getfield 25, 3) := by decide +kernel
theorem dX5_advance_179 : decode cX5_advance 179 = .ok (.aload_n 0, 1) := by decide +kernel
theorem dX5_advance_180 : decode cX5_advance 180 = .ok (.getfield 39, 3) := by decide +kernel
theorem dX5_advance_183 : decode cX5_advance 183 = .ok (.isub, 1) := by decide +kernel
theorem dX5_advance_184 : decode cX5_advance 184 = .ok (.iconst 3, 1) := by decide +kernel
theorem dX5_advance_185 : decode cX5_advance 185 = .ok (.if_icmp .le 8, 3) := by decide +kernel
theorem dX5_advance_188 : decode cX5_advance 188 = .ok (.aload_n 0, 1) := by decide +kernel
theorem dX5_advance_189 : decode cX5_advance 189 = .ok (.iconst 5, 1) := by decide +kernel
theorem dX5_advance_190 : decode cX5_advance 190 = .ok (.putfield 42, 3) := by decide +kernel
theorem dX5_advance_193 : decode cX5_advance 193 = .ok (.return_, 1) := by decide +kernel
theorem dX5_isWord_0 : decode cX5_isWord 0 = .ok (.aload_n 0, 1) := by decide +kernel
theorem dX5_isWord_1 : decode cX5_isWord 1 = .ok (.getfield 42, 3) := by decide +kernel
theorem dX5_isWord_4 : decode cX5_isWord 4 = .ok (.iconst 1, 1) := by decide +kernel
theorem dX5_isWord_5 : decode cX5_isWord 5 = .ok (.if_icmp .ne 19, 3) := by decide +kernel
theorem dX5_isWord_8 : decode cX5_isWord 8 = .ok (.aload_n 1, 1) := by decide +kernel
theorem dX5_isWord_9 : decode cX5_isWord 9 = .ok (.invokevirtual 45, 3) := by decide +kernel
theorem dX5_isWord_12 : decode cX5_isWord 12 = .ok (.aload_n 0, 1) := by decide +kernel
theorem dX5_isWord_13 : decode cX5_isWord 13 = .ok (.getfield 25, 3) := by decide +kernel
theorem dX5_isWord_16 : decode cX5_isWord 16 = .ok (.aload_n 0, 1) := by decide +kernel
theorem dX5_isWord_17 : decode cX5_isWord 17 = .ok (.getfield 39, 3) := by decide +kernel
theorem dX5_isWord_20 : decode cX5_isWord 20 = .ok (.isub, 1) := by decide +kernel
theorem dX5_isWord_21 : decode cX5_isWord 21 = .ok (.if_icmp .eq 5, 3) := by decide +kernel
theorem dX5_isWord_24 : decode cX5_isWord 24 = .ok (.iconst 0, 1) := by decide +kernel
theorem dX5_isWord_25 : decode cX5_isWord 25 = .ok (.ireturn, 1) := by decide +kernel
theorem dX5_isWord_26 : decode cX5_isWord 26 = .ok (.iconst 0, 1) := by decide +kernel
theorem dX5_isWord_27 : decode cX5_isWord 27 = .ok (.istore_n 2, 1) := by decide +kernel
theorem dX5_isWord_28 : decode cX5_isWord 28 = .ok (.iload_n 2, 1) := by decide +kernel
theorem dX5_isWord_29 : decode cX5_isWord 29 = .ok (.aload_n 1, 1) := by decide +kernel
theorem dX5_isWord_30 : decode cX5_isWord 30 = .ok (.invokevirtual 45, 3) := by decide +kernel
theorem dX5_isWord_33 : decode cX5_isWord 33 = .ok (.if_icmp .ge 32, 3) := by decide +kernel
theorem dX5_isWord_36 : decode cX5_isWord 36 = .ok (.aload_n 1, 1) := by decide +kernel
theorem dX5_isWord_37 : decode cX5_isWord 37 = .ok (.iload_n 2, 1) := by decide +kernel
theorem dX5_isWord_38 : decode cX5_isWord 38 = .ok (.invokevirtual 50, 3) := by decide +kernel
theorem dX5_isWord_41 : decode cX5_isWord 41 = .ok (.aload_n 0, 1) := by decide +kernel
theorem dX5_isWord_42 : decode cX5_isWord 42 = .ok (.getfield 9, 3) := by decide +kernel
theorem dX5_isWord_45 : decode cX5_isWord 45 = .ok (.aload_n 0, 1) := by decide +kernel
theorem dX5_isWord_46 : decode cX5_isWord 46 = .ok (.getfield 39, 3) := by decide +kernel
theorem dX5_isWord_49 : decode cX5_isWord 49 = .ok (.iload_n 2, 1) := by decide +kernel
theorem dX5_isWord_50 : decode cX5_isWord 50 = .ok (.iadd, 1) := by decide +kernel
theorem dX5_isWord_51 : decode cX5_isWord 51 = .ok (.invokestatic 31, 3) := by decide +kernel
theorem dX5_isWord_54 : decode cX5_isWord 54 = .ok (.if_icmp .eq 5, 3) := by decide +kernel
theorem dX5_isWord_57 : decode cX5_isWord 57 = .ok (.iconst 0, 1) := by decide +kernel
theorem dX5_isWord_58 : decode cX5_isWord 58 = .ok (.ireturn, 1) := by decide +kernel
theorem dX5_isWord_59 : decode cX5_isWord 59 = .ok (.iinc 2 1, 3) := by decide +kernel
theorem dX5_isWord_62 : decode cX5_isWord 62 = .ok (.goto (-34), 3) := by decide +kernel
theorem dX5_isWord_65 : decode cX5_isWord 65 = .ok (.iconst 1, 1) := by decide +kernel
theorem dX5_isWord_66 : decode cX5_isWord 66 = .ok (.ireturn, 1) := by decide +kernel
theorem dX5_numberTold_0 : decode cX5_numberTold 0 = .ok (.iconst 0, 1) := by decide +kernel
theorem dX5_numberTold_1 : decode cX5_numberTold 1 = .ok (.istore_n 1, 1) := by decide +kernel
theorem dX5_numberTold_2 : decode cX5_numberTold 2 = .ok (.aload_n 0, 1) := by decide +kernel
theorem dX5_numberTold_3 : decode cX5_numberTold 3 = .ok (.getfield 39, 3) := by decide +kernel
theorem dX5_numberTold_6 : decode cX5_numberTold 6 = .ok (.istore_n 2, 1) := by decide +kernel
theorem dX5_numberTold_7 : decode cX5_numberTold 7 = .ok (.iload_n 2, 1) := by decide +kernel
theorem dX5_numberTold_8 : decode cX5_numberTold 8 = .ok (.aload_n 0, 1) := by decide +kernel
theorem dX5_numberTold_9 : decode cX5_numberTold 9 = .ok (.getfield 25, 3) := by decide +kernel
theorem dX5_numberTold_12 : decode cX5_numberTold 12 = .ok (.if_icmp .ge 26, 3) := by decide +kernel
theorem dX5_numberTold_15 : decode cX5_numberTold 15 = .ok (.bipush 10, 2) := by decide +kernel
theorem dX5_numberTold_17 : decode cX5_numberTold 17 = .ok (.iload_n 1, 1) := by decide +kernel
theorem dX5_numberTold_18 : decode cX5_numberTold 18 = .ok (.imul, 1) := by decide +kernel
theorem dX5_numberTold_19 : decode cX5_numberTold 19 = .ok (.aload_n 0, 1) := by decide +kernel
theorem dX5_numberTold_20 : decode cX5_numberTold 20 = .ok (.getfield 9, 3) := by decide +kernel
theorem dX5_numberTold_23 : decode cX5_numberTold 23 = .ok (.iload_n 2, 1) := by decide +kernel
theorem dX5_numberTold_24 : decode cX5_numberTold 24 = .ok (.invokestatic 31, 3) := by decide +kernel
theorem dX5_numberTold_27 : decode cX5_numberTold 27 = .ok (.iadd, 1) := by decide +kernel
theorem dX5_numberTold_28 : decode cX5_numberTold 28 = .ok (.bipush 48, 2) := by decide +kernel
theorem dX5_numberTold_30 : decode cX5_numberTold 30 = .ok (.isub, 1) := by decide +kernel
theorem dX5_numberTold_31 : decode cX5_numberTold 31 = .ok (.istore_n 1, 1) := by decide +kernel
theorem dX5_numberTold_32 : decode cX5_numberTold 32 = .ok (.iinc 2 1, 3) := by decide +kernel
theorem dX5_numberTold_35 : decode cX5_numberTold 35 = .ok (.goto (-28), 3) := by decide +kernel
theorem dX5_numberTold_38 : decode cX5_numberTold 38 = .ok (.iload_n 1, 1) := by decide +kernel
theorem dX5_numberTold_39 : decode cX5_numberTold 39 = .ok (.ireturn, 1) := by decide +kernel
theorem dX5_sortOf_0 : decode cX5_sortOf 0 = .ok (.iload_n 0, 1) := by decide +kernel
theorem dX5_sortOf_1 : decode cX5_sortOf 1 = .ok (.bipush 97, 2) := by decide +kernel
theorem dX5_sortOf_3 : decode cX5_sortOf 3 = .ok (.if_icmp .lt 11, 3) := by decide +kernel
theorem dX5_sortOf_6 : decode cX5_sortOf 6 = .ok (.iload_n 0, 1) := by decide +kernel
theorem dX5_sortOf_7 : decode cX5_sortOf 7 = .ok (.bipush 122, 2) := by decide +kernel
theorem dX5_sortOf_9 : decode cX5_sortOf 9 = .ok (.if_icmp .gt 5, 3) := by decide +kernel
theorem dX5_sortOf_12 : decode cX5_sortOf 12 = .ok (.iconst 1, 1) := by decide +kernel
theorem dX5_sortOf_13 : decode cX5_sortOf 13 = .ok (.ireturn, 1) := by decide +kernel
theorem dX5_sortOf_14 : decode cX5_sortOf 14 = .ok (.iload_n 0, 1) := by decide +kernel
theorem dX5_sortOf_15 : decode cX5_sortOf 15 = .ok (.bipush 48, 2) := by decide +kernel
theorem dX5_sortOf_17 : decode cX5_sortOf 17 = .ok (.if_icmp .lt 11, 3) := by decide +kernel
theorem dX5_sortOf_20 : decode cX5_sortOf 20 = .ok (.iload_n 0, 1) := by decide +kernel
theorem dX5_sortOf_21 : decode cX5_sortOf 21 = .ok (.bipush 57, 2) := by decide +kernel
theorem dX5_sortOf_23 : decode cX5_sortOf 23 = .ok (.if_icmp .gt 5, 3) := by decide +kernel
theorem dX5_sortOf_26 : decode cX5_sortOf 26 = .ok (.iconst 2, 1) := by decide +kernel
theorem dX5_sortOf_27 : decode cX5_sortOf 27 = .ok (.ireturn, 1) := by decide +kernel
theorem dX5_sortOf_28 : decode cX5_sortOf 28 = .ok (.iload_n 0, 1) := by decide +kernel
theorem dX5_sortOf_29 : decode cX5_sortOf 29 = .ok (.lookupswitch 50 #[(10, 47), (32, 47), (47, 45), (59, 43)], 43) := by decide +kernel
theorem dX5_sortOf_72 : decode cX5_sortOf 72 = .ok (.iconst 3, 1) := by decide +kernel
theorem dX5_sortOf_73 : decode cX5_sortOf 73 = .ok (.ireturn, 1) := by decide +kernel
theorem dX5_sortOf_74 : decode cX5_sortOf 74 = .ok (.iconst 4, 1) := by decide +kernel
theorem dX5_sortOf_75 : decode cX5_sortOf 75 = .ok (.ireturn, 1) := by decide +kernel
theorem dX5_sortOf_76 : decode cX5_sortOf 76 = .ok (.bipush 6, 2) := by decide +kernel
theorem dX5_sortOf_78 : decode cX5_sortOf 78 = .ok (.ireturn, 1) := by decide +kernel
theorem dX5_sortOf_79 : decode cX5_sortOf 79 = .ok (.iconst 5, 1) := by decide +kernel
theorem dX5_sortOf_80 : decode cX5_sortOf 80 = .ok (.ireturn, 1) := by decide +kernel
theorem dX6_init_0 : decode cX6_init 0 = .ok (.aload_n 0, 1) := by decide +kernel
theorem dX6_init_1 : decode cX6_init 1 = .ok (.invokespecial 1, 3) := by decide +kernel
theorem dX6_init_4 : decode cX6_init 4 = .ok (.aload_n 0, 1) := by decide +kernel
theorem dX6_init_5 : decode cX6_init 5 = .ok (.bipush 8, 2) := by decide +kernel
theorem dX6_init_7 : decode cX6_init 7 = .ok (.anewarray 9, 3) := by decide +kernel
theorem dX6_init_10 : decode cX6_init 10 = .ok (.putfield 11, 3) := by decide +kernel
theorem dX6_init_13 : decode cX6_init 13 = .ok (.aload_n 0, 1) := by decide +kernel
theorem dX6_init_14 : decode cX6_init 14 = .ok (.iconst 2, 1) := by decide +kernel
theorem dX6_init_15 : decode cX6_init 15 = .ok (.anewarray 15, 3) := by decide +kernel
theorem dX6_init_18 : decode cX6_init 18 = .ok (.putfield 17, 3) := by decide +kernel
theorem dX6_init_21 : decode cX6_init 21 = .ok (.aload_n 0, 1) := by decide +kernel
theorem dX6_init_22 : decode cX6_init 22 = .ok (.new 21, 3) := by decide +kernel
theorem dX6_init_25 : decode cX6_init 25 = .ok (.dup, 1) := by decide +kernel
theorem dX6_init_26 : decode cX6_init 26 = .ok (.invokespecial 23, 3) := by decide +kernel
theorem dX6_init_29 : decode cX6_init 29 = .ok (.putfield 24, 3) := by decide +kernel
theorem dX6_init_32 : decode cX6_init 32 = .ok (.aload_n 0, 1) := by decide +kernel
theorem dX6_init_33 : decode cX6_init 33 = .ok (.new 15, 3) := by decide +kernel
theorem dX6_init_36 : decode cX6_init 36 = .ok (.dup, 1) := by decide +kernel
theorem dX6_init_37 : decode cX6_init 37 = .ok (.invokespecial 28, 3) := by decide +kernel
theorem dX6_init_40 : decode cX6_init 40 = .ok (.putfield 29, 3) := by decide +kernel
theorem dX6_init_43 : decode cX6_init 43 = .ok (.aload_n 0, 1) := by decide +kernel
theorem dX6_init_44 : decode cX6_init 44 = .ok (.new 33, 3) := by decide +kernel
theorem dX6_init_47 : decode cX6_init 47 = .ok (.dup, 1) := by decide +kernel
theorem dX6_init_48 : decode cX6_init 48 = .ok (.invokespecial 35, 3) := by decide +kernel
theorem dX6_init_51 : decode cX6_init 51 = .ok (.putfield 36, 3) := by decide +kernel
theorem dX6_init_54 : decode cX6_init 54 = .ok (.aload_n 0, 1) := by decide +kernel
theorem dX6_init_55 : decode cX6_init 55 = .ok (.new 40, 3) := by decide +kernel
theorem dX6_init_58 : decode cX6_init 58 = .ok (.dup, 1) := by decide +kernel
theorem dX6_init_59 : decode cX6_init 59 = .ok (.invokespecial 42, 3) := by decide +kernel
theorem dX6_init_62 : decode cX6_init 62 = .ok (.putfield 43, 3) := by decide +kernel
theorem dX6_init_65 : decode cX6_init 65 = .ok (.iconst 0, 1) := by decide +kernel
theorem dX6_init_66 : decode cX6_init 66 = .ok (.istore_n 1, 1) := by decide +kernel
theorem dX6_init_67 : decode cX6_init 67 = .ok (.iload_n 1, 1) := by decide +kernel
theorem dX6_init_68 : decode cX6_init 68 = .ok (.aload_n 0, 1) := by decide +kernel
theorem dX6_init_69 : decode cX6_init 69 = .ok (.getfield 11, 3) := by decide +kernel
theorem dX6_init_72 : decode cX6_init 72 = .ok (.arraylength, 1) := by decide +kernel
theorem dX6_init_73 : decode cX6_init 73 = .ok (.if_icmp .ge 22, 3) := by decide +kernel
theorem dX6_init_76 : decode cX6_init 76 = .ok (.aload_n 0, 1) := by decide +kernel
theorem dX6_init_77 : decode cX6_init 77 = .ok (.getfield 11, 3) := by decide +kernel
theorem dX6_init_80 : decode cX6_init 80 = .ok (.iload_n 1, 1) := by decide +kernel
theorem dX6_init_81 : decode cX6_init 81 = .ok (.new 9, 3) := by decide +kernel
