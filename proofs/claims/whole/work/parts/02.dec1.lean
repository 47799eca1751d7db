theorem dX6_init_84 : decode cX6_init 84 = .ok (.dup, 1) := by decide +kernel
theorem dX6_init_85 : decode cX6_init 85 = .ok (.invokespecial 47, 3) := by decide +kernel
theorem dX6_init_88 : decode cX6_init 88 = .ok (.aastore, 1) := by decide +kernel
theorem dX6_init_89 : decode cX6_init 89 = .ok (.iinc 1 1, 3) := by decide +kernel
theorem dX6_init_92 : decode cX6_init 92 = .ok (.goto (-25), 3) := by decide +kernel
theorem dX6_init_95 : decode cX6_init 95 = .ok (.iconst 0, 1) := by decide +kernel
theorem dX6_init_96 : decode cX6_init 96 = .ok (.istore_n 1, 1) := by decide +kernel
theorem dX6_init_97 : decode cX6_init 97 = .ok (.iload_n 1, 1) := by decide +kernel
theorem dX6_init_98 : decode cX6_init 98 = .ok (.aload_n 0, 1) := by decide +kernel
theorem dX6_init_99 : decode cX6_init 99 = .ok (.getfield 17, 3) := by decide +kernel
theorem dX6_init_102 : decode cX6_init 102 = .ok (.arraylength, 1) := by decide +kernel
theorem dX6_init_103 : decode cX6_init 103 = .ok (.if_icmp .ge 22, 3) := by decide +kernel
theorem dX6_init_106 : decode cX6_init 106 = .ok (.aload_n 0, 1) := by decide +kernel
theorem dX6_init_107 : decode cX6_init 107 = .ok (.getfield 17, 3) := by decide +kernel
theorem dX6_init_110 : decode cX6_init 110 = .ok (.iload_n 1, 1) := by decide +kernel
theorem dX6_init_111 : decode cX6_init 111 = .ok (.new 15, 3) := by decide +kernel
theorem dX6_init_114 : decode cX6_init 114 = .ok (.dup, 1) := by decide +kernel
theorem dX6_init_115 : decode cX6_init 115 = .ok (.invokespecial 28, 3) := by decide +kernel
theorem dX6_init_118 : decode cX6_init 118 = .ok (.aastore, 1) := by decide +kernel
theorem dX6_init_119 : decode cX6_init 119 = .ok (.iinc 1 1, 3) := by decide +kernel
theorem dX6_init_122 : decode cX6_init 122 = .ok (.goto (-25), 3) := by decide +kernel
theorem dX6_init_125 : decode cX6_init 125 = .ok (.return_, 1) := by decide +kernel
theorem dX6_row_0 : decode cX6_row 0 = .ok (.aload_n 0, 1) := by decide +kernel
theorem dX6_row_1 : decode cX6_row 1 = .ok (.iload_n 1, 1) := by decide +kernel
theorem dX6_row_2 : decode cX6_row 2 = .ok (.invokevirtual 48, 3) := by decide +kernel
theorem dX6_row_5 : decode cX6_row 5 = .ok (.astore 4, 2) := by decide +kernel
theorem dX6_row_7 : decode cX6_row 7 = .ok (.aload 4, 2) := by decide +kernel
theorem dX6_row_9 : decode cX6_row 9 = .ok (.ifnull 18, 3) := by decide +kernel
theorem dX6_row_12 : decode cX6_row 12 = .ok (.iload_n 2, 1) := by decide +kernel
theorem dX6_row_13 : decode cX6_row 13 = .ok (.ifCond .lt 14, 3) := by decide +kernel
theorem dX6_row_16 : decode cX6_row 16 = .ok (.iload_n 2, 1) := by decide +kernel
theorem dX6_row_17 : decode cX6_row 17 = .ok (.iconst 2, 1) := by decide +kernel
theorem dX6_row_18 : decode cX6_row 18 = .ok (.if_icmp .gt 9, 3) := by decide +kernel
theorem dX6_row_21 : decode cX6_row 21 = .ok (.iload_n 3, 1) := by decide +kernel
theorem dX6_row_22 : decode cX6_row 22 = .ok (.bipush 40, 2) := by decide +kernel
theorem dX6_row_24 : decode cX6_row 24 = .ok (.if_icmp .le 6, 3) := by decide +kernel
theorem dX6_row_27 : decode cX6_row 27 = .ok (.ldc 52, 2) := by decide +kernel
theorem dX6_row_29 : decode cX6_row 29 = .ok (.ireturn, 1) := by decide +kernel
theorem dX6_row_30 : decode cX6_row 30 = .ok (.iload_n 3, 1) := by decide +kernel
theorem dX6_row_31 : decode cX6_row 31 = .ok (.ifCond .ge 9, 3) := by decide +kernel
theorem dX6_row_34 : decode cX6_row 34 = .ok (.aload_n 0, 1) := by decide +kernel
theorem dX6_row_35 : decode cX6_row 35 = .ok (.iconst 4, 1) := by decide +kernel
theorem dX6_row_36 : decode cX6_row 36 = .ok (.invokevirtual 53, 3) := by decide +kernel
theorem dX6_row_39 : decode cX6_row 39 = .ok (.ireturn, 1) := by decide +kernel
theorem dX6_row_40 : decode cX6_row 40 = .ok (.aload 4, 2) := by decide +kernel
theorem dX6_row_42 : decode cX6_row 42 = .ok (.iload_n 2, 1) := by decide +kernel
theorem dX6_row_43 : decode cX6_row 43 = .ok (.iload_n 3, 1) := by decide +kernel
theorem dX6_row_44 : decode cX6_row 44 = .ok (.invokevirtual 57, 3) := by decide +kernel
theorem dX6_row_47 : decode cX6_row 47 = .ok (.aload_n 0, 1) := by decide +kernel
theorem dX6_row_48 : decode cX6_row 48 = .ok (.iload_n 3, 1) := by decide +kernel
theorem dX6_row_49 : decode cX6_row 49 = .ok (.invokevirtual 61, 3) := by decide +kernel
theorem dX6_row_52 : decode cX6_row 52 = .ok (.ireturn, 1) := by decide +kernel
theorem dX6_set_0 : decode cX6_set 0 = .ok (.aload_n 0, 1) := by decide +kernel
theorem dX6_set_1 : decode cX6_set 1 = .ok (.iload_n 1, 1) := by decide +kernel
theorem dX6_set_2 : decode cX6_set 2 = .ok (.invokevirtual 48, 3) := by decide +kernel
theorem dX6_set_5 : decode cX6_set 5 = .ok (.astore 4, 2) := by decide +kernel
theorem dX6_set_7 : decode cX6_set 7 = .ok (.aload 4, 2) := by decide +kernel
theorem dX6_set_9 : decode cX6_set 9 = .ok (.ifnonnull 6, 3) := by decide +kernel
theorem dX6_set_12 : decode cX6_set 12 = .ok (.ldc 52, 2) := by decide +kernel
theorem dX6_set_14 : decode cX6_set 14 = .ok (.ireturn, 1) := by decide +kernel
theorem dX6_set_15 : decode cX6_set 15 = .ok (.aload 4, 2) := by decide +kernel
theorem dX6_set_17 : decode cX6_set 17 = .ok (.invokevirtual 64, 3) := by decide +kernel
theorem dX6_set_20 : decode cX6_set 20 = .ok (.ifCond .eq 9, 3) := by decide +kernel
theorem dX6_set_23 : decode cX6_set 23 = .ok (.aload_n 0, 1) := by decide +kernel
theorem dX6_set_24 : decode cX6_set 24 = .ok (.iconst 1, 1) := by decide +kernel
theorem dX6_set_25 : decode cX6_set 25 = .ok (.invokevirtual 53, 3) := by decide +kernel
theorem dX6_set_28 : decode cX6_set 28 = .ok (.ireturn, 1) := by decide +kernel
theorem dX6_set_29 : decode cX6_set 29 = .ok (.aload 4, 2) := by decide +kernel
theorem dX6_set_31 : decode cX6_set 31 = .ok (.iload_n 2, 1) := by decide +kernel
theorem dX6_set_32 : decode cX6_set 32 = .ok (.iconst 1, 1) := by decide +kernel
theorem dX6_set_33 : decode cX6_set 33 = .ok (.invokevirtual 68, 3) := by decide +kernel
theorem dX6_set_36 : decode cX6_set 36 = .ok (.ifCond .ne 9, 3) := by decide +kernel
theorem dX6_set_39 : decode cX6_set 39 = .ok (.aload_n 0, 1) := by decide +kernel
theorem dX6_set_40 : decode cX6_set 40 = .ok (.iconst 2, 1) := by decide +kernel
theorem dX6_set_41 : decode cX6_set 41 = .ok (.invokevirtual 53, 3) := by decide +kernel
theorem dX6_set_44 : decode cX6_set 44 = .ok (.ireturn, 1) := by decide +kernel
theorem dX6_set_45 : decode cX6_set 45 = .ok (.aload 4, 2) := by decide +kernel
theorem dX6_set_47 : decode cX6_set 47 = .ok (.iload_n 2, 1) := by decide +kernel
theorem dX6_set_48 : decode cX6_set 48 = .ok (.iload_n 3, 1) := by decide +kernel
theorem dX6_set_49 : decode cX6_set 49 = .ok (.invokevirtual 72, 3) := by decide +kernel
theorem dX6_set_52 : decode cX6_set 52 = .ok (.aload_n 0, 1) := by decide +kernel
theorem dX6_set_53 : decode cX6_set 53 = .ok (.aload 4, 2) := by decide +kernel
theorem dX6_set_55 : decode cX6_set 55 = .ok (.iload_n 2, 1) := by decide +kernel
theorem dX6_set_56 : decode cX6_set 56 = .ok (.invokevirtual 75, 3) := by decide +kernel
theorem dX6_set_59 : decode cX6_set 59 = .ok (.invokevirtual 61, 3) := by decide +kernel
theorem dX6_set_62 : decode cX6_set 62 = .ok (.ireturn, 1) := by decide +kernel
theorem dX6_copy_0 : decode cX6_copy 0 = .ok (.aload_n 0, 1) := by decide +kernel
theorem dX6_copy_1 : decode cX6_copy 1 = .ok (.iload_n 1, 1) := by decide +kernel
theorem dX6_copy_2 : decode cX6_copy 2 = .ok (.invokevirtual 48, 3) := by decide +kernel
theorem dX6_copy_5 : decode cX6_copy 5 = .ok (.astore 6, 2) := by decide +kernel
theorem dX6_copy_7 : decode cX6_copy 7 = .ok (.aload_n 0, 1) := by decide +kernel
theorem dX6_copy_8 : decode cX6_copy 8 = .ok (.iload_n 3, 1) := by decide +kernel
theorem dX6_copy_9 : decode cX6_copy 9 = .ok (.invokevirtual 48, 3) := by decide +kernel
theorem dX6_copy_12 : decode cX6_copy 12 = .ok (.astore 7, 2) := by decide +kernel
theorem dX6_copy_14 : decode cX6_copy 14 = .ok (.aload 6, 2) := by decide +kernel
theorem dX6_copy_16 : decode cX6_copy 16 = .ok (.ifnull 8, 3) := by decide +kernel
theorem dX6_copy_19 : decode cX6_copy 19 = .ok (.aload 7, 2) := by decide +kernel
theorem dX6_copy_21 : decode cX6_copy 21 = .ok (.ifnonnull 6, 3) := by decide +kernel
theorem dX6_copy_24 : decode cX6_copy 24 = .ok (.ldc 52, 2) := by decide +kernel
theorem dX6_copy_26 : decode cX6_copy 26 = .ok (.ireturn, 1) := by decide +kernel
theorem dX6_copy_27 : decode cX6_copy 27 = .ok (.aload 6, 2) := by decide +kernel
theorem dX6_copy_29 : decode cX6_copy 29 = .ok (.invokevirtual 64, 3) := by decide +kernel
theorem dX6_copy_32 : decode cX6_copy 32 = .ok (.ifCond .ne 11, 3) := by decide +kernel
theorem dX6_copy_35 : decode cX6_copy 35 = .ok (.aload 7, 2) := by decide +kernel
theorem dX6_copy_37 : decode cX6_copy 37 = .ok (.invokevirtual 64, 3) := by decide +kernel
theorem dX6_copy_40 : decode cX6_copy 40 = .ok (.ifCond .eq 9, 3) := by decide +kernel
theorem dX6_copy_43 : decode cX6_copy 43 = .ok (.aload_n 0, 1) := by decide +kernel
theorem dX6_copy_44 : decode cX6_copy 44 = .ok (.iconst 1, 1) := by decide +kernel
theorem dX6_copy_45 : decode cX6_copy 45 = .ok (.invokevirtual 53, 3) := by decide +kernel
theorem dX6_copy_48 : decode cX6_copy 48 = .ok (.ireturn, 1) := by decide +kernel
theorem dX6_copy_49 : decode cX6_copy 49 = .ok (.aload 6, 2) := by decide +kernel
theorem dX6_copy_51 : decode cX6_copy 51 = .ok (.getfield 78, 3) := by decide +kernel
theorem dX6_copy_54 : decode cX6_copy 54 = .ok (.aload 7, 2) := by decide +kernel
theorem dX6_copy_56 : decode cX6_copy 56 = .ok (.getfield 78, 3) := by decide +kernel
theorem dX6_copy_59 : decode cX6_copy 59 = .ok (.if_icmp .eq 9, 3) := by decide +kernel
theorem dX6_copy_62 : decode cX6_copy 62 = .ok (.aload_n 0, 1) := by decide +kernel
theorem dX6_copy_63 : decode cX6_copy 63 = .ok (.iconst 5, 1) := by decide +kernel
theorem dX6_copy_64 : decode cX6_copy 64 = .ok (.invokevirtual 53, 3) := by decide +kernel
theorem dX6_copy_67 : decode cX6_copy 67 = .ok (.ireturn, 1) := by decide +kernel
theorem dX6_copy_68 : decode cX6_copy 68 = .ok (.aload 6, 2) := by decide +kernel
theorem dX6_copy_70 : decode cX6_copy 70 = .ok (.iload_n 2, 1) := by decide +kernel
theorem dX6_copy_71 : decode cX6_copy 71 = .ok (.iload 5, 2) := by decide +kernel
theorem dX6_copy_73 : decode cX6_copy 73 = .ok (.invokevirtual 68, 3) := by decide +kernel
theorem dX6_copy_76 : decode cX6_copy 76 = .ok (.ifCond .eq 15, 3) := by decide +kernel
theorem dX6_copy_79 : decode cX6_copy 79 = .ok (.aload 7, 2) := by decide +kernel
theorem dX6_copy_81 : decode cX6_copy 81 = .ok (.iload 4, 2) := by decide +kernel
theorem dX6_copy_83 : decode cX6_copy 83 = .ok (.iload 5, 2) := by decide +kernel
theorem dX6_copy_85 : decode cX6_copy 85 = .ok (.invokevirtual 68, 3) := by decide +kernel
theorem dX6_copy_88 : decode cX6_copy 88 = .ok (.ifCond .ne 9, 3) := by decide +kernel
theorem dX6_copy_91 : decode cX6_copy 91 = .ok (.aload_n 0, 1) := by decide +kernel
theorem dX6_copy_92 : decode cX6_copy 92 = .ok (.iconst 2, 1) := by decide +kernel
theorem dX6_copy_93 : decode cX6_copy 93 = .ok (.invokevirtual 53, 3) := by decide +kernel
theorem dX6_copy_96 : decode cX6_copy 96 = .ok (.ireturn, 1) := by decide +kernel
theorem dX6_copy_97 : decode cX6_copy 97 = .ok (.aload 7, 2) := by decide +kernel
theorem dX6_copy_99 : decode cX6_copy 99 = .ok (.aload 6, 2) := by decide +kernel
theorem dX6_copy_101 : decode cX6_copy 101 = .ok (.iload_n 2, 1) := by decide +kernel
theorem dX6_copy_102 : decode cX6_copy 102 = .ok (.iload 4, 2) := by decide +kernel
theorem dX6_copy_104 : decode cX6_copy 104 = .ok (.iload 5, 2) := by decide +kernel
theorem dX6_copy_106 : decode cX6_copy 106 = .ok (.invokevirtual 82, 3) := by decide +kernel
theorem dX6_copy_109 : decode cX6_copy 109 = .ok (.aload_n 0, 1) := by decide +kernel
theorem dX6_copy_110 : decode cX6_copy 110 = .ok (.iload 5, 2) := by decide +kernel
theorem dX6_copy_112 : decode cX6_copy 112 = .ok (.invokevirtual 61, 3) := by decide +kernel
theorem dX6_copy_115 : decode cX6_copy 115 = .ok (.ireturn, 1) := by decide +kernel
theorem dX6_drop_0 : decode cX6_drop 0 = .ok (.aload_n 0, 1) := by decide +kernel
theorem dX6_drop_1 : decode cX6_drop 1 = .ok (.iload_n 1, 1) := by decide +kernel
theorem dX6_drop_2 : decode cX6_drop 2 = .ok (.invokevirtual 48, 3) := by decide +kernel
theorem dX6_drop_5 : decode cX6_drop 5 = .ok (.astore_n 2, 1) := by decide +kernel
theorem dX6_drop_6 : decode cX6_drop 6 = .ok (.aload_n 2, 1) := by decide +kernel
theorem dX6_drop_7 : decode cX6_drop 7 = .ok (.ifnonnull 6, 3) := by decide +kernel
theorem dX6_drop_10 : decode cX6_drop 10 = .ok (.ldc 52, 2) := by decide +kernel
theorem dX6_drop_12 : decode cX6_drop 12 = .ok (.ireturn, 1) := by decide +kernel
theorem dX6_drop_13 : decode cX6_drop 13 = .ok (.aload_n 2, 1) := by decide +kernel
theorem dX6_drop_14 : decode cX6_drop 14 = .ok (.invokevirtual 64, 3) := by decide +kernel
theorem dX6_drop_17 : decode cX6_drop 17 = .ok (.ifCond .eq 9, 3) := by decide +kernel
theorem dX6_drop_20 : decode cX6_drop 20 = .ok (.aload_n 0, 1) := by decide +kernel
theorem dX6_drop_21 : decode cX6_drop 21 = .ok (.iconst 1, 1) := by decide +kernel
theorem dX6_drop_22 : decode cX6_drop 22 = .ok (.invokevirtual 53, 3) := by decide +kernel
theorem dX6_drop_25 : decode cX6_drop 25 = .ok (.ireturn, 1) := by decide +kernel
theorem dX6_drop_26 : decode cX6_drop 26 = .ok (.aload_n 2, 1) := by decide +kernel
theorem dX6_drop_27 : decode cX6_drop 27 = .ok (.getfield 86, 3) := by decide +kernel
theorem dX6_drop_30 : decode cX6_drop 30 = .ok (.istore_n 3, 1) := by decide +kernel
theorem dX6_drop_31 : decode cX6_drop 31 = .ok (.aload_n 2, 1) := by decide +kernel
theorem dX6_drop_32 : decode cX6_drop 32 = .ok (.invokevirtual 89, 3) := by decide +kernel
theorem dX6_drop_35 : decode cX6_drop 35 = .ok (.aload_n 0, 1) := by decide +kernel
theorem dX6_drop_36 : decode cX6_drop 36 = .ok (.iload_n 3, 1) := by decide +kernel
theorem dX6_drop_37 : decode cX6_drop 37 = .ok (.invokevirtual 61, 3) := by decide +kernel
theorem dX6_drop_40 : decode cX6_drop 40 = .ok (.ireturn, 1) := by decide +kernel
theorem dX6_feed_0 : decode cX6_feed 0 = .ok (.iload_n 3, 1) := by decide +kernel
theorem dX6_feed_1 : decode cX6_feed 1 = .ok (.iconst 1, 1) := by decide +kernel
theorem dX6_feed_2 : decode cX6_feed 2 = .ok (.if_icmp .lt 9, 3) := by decide +kernel
theorem dX6_feed_5 : decode cX6_feed 5 = .ok (.iload_n 3, 1) := by decide +kernel
theorem dX6_feed_6 : decode cX6_feed 6 = .ok (.bipush 8, 2) := by decide +kernel
theorem dX6_feed_8 : decode cX6_feed 8 = .ok (.if_icmp .le 6, 3) := by decide +kernel
theorem dX6_feed_11 : decode cX6_feed 11 = .ok (.ldc 52, 2) := by decide +kernel
theorem dX6_feed_13 : decode cX6_feed 13 = .ok (.ireturn, 1) := by decide +kernel
theorem dX6_feed_14 : decode cX6_feed 14 = .ok (.aload_n 0, 1) := by decide +kernel
theorem dX6_feed_15 : decode cX6_feed 15 = .ok (.getfield 24, 3) := by decide +kernel
theorem dX6_feed_18 : decode cX6_feed 18 = .ok (.getfield 92, 3) := by decide +kernel
theorem dX6_feed_21 : decode cX6_feed 21 = .ok (.lload_n 1, 1) := by decide +kernel
theorem dX6_feed_22 : decode cX6_feed 22 = .ok (.iload_n 3, 1) := by decide +kernel
theorem dX6_feed_23 : decode cX6_feed 23 = .ok (.invokevirtual 96, 3) := by decide +kernel
theorem dX6_feed_26 : decode cX6_feed 26 = .ok (.ifCond .eq 16, 3) := by decide +kernel
theorem dX6_feed_29 : decode cX6_feed 29 = .ok (.aload_n 0, 1) := by decide +kernel
theorem dX6_feed_30 : decode cX6_feed 30 = .ok (.getfield 24, 3) := by decide +kernel
theorem dX6_feed_33 : decode cX6_feed 33 = .ok (.getfield 92, 3) := by decide +kernel
theorem dX6_feed_36 : decode cX6_feed 36 = .ok (.getfield 102, 3) := by decide +kernel
theorem dX6_feed_39 : decode cX6_feed 39 = .ok (.goto 5, 3) := by decide +kernel
theorem dX6_feed_42 : decode cX6_feed 42 = .ok (.ldc 103, 2) := by decide +kernel
theorem dX6_feed_44 : decode cX6_feed 44 = .ok (.ireturn, 1) := by decide +kernel
theorem dX6_page_0 : decode cX6_page 0 = .ok (.aload_n 0, 1) := by decide +kernel
theorem dX6_page_1 : decode cX6_page 1 = .ok (.getfield 24, 3) := by decide +kernel
theorem dX6_page_4 : decode cX6_page 4 = .ok (.invokevirtual 104, 3) := by decide +kernel
theorem dX6_page_7 : decode cX6_page 7 = .ok (.ifCond .ne 14, 3) := by decide +kernel
theorem dX6_page_10 : decode cX6_page 10 = .ok (.ldc 107, 2) := by decide +kernel
theorem dX6_page_12 : decode cX6_page 12 = .ok (.aload_n 0, 1) := by decide +kernel
theorem dX6_page_13 : decode cX6_page 13 = .ok (.getfield 24, 3) := by decide +kernel
theorem dX6_page_16 : decode cX6_page 16 = .ok (.getfield 108, 3) := by decide +kernel
theorem dX6_page_19 : decode cX6_page 19 = .ok (.isub, 1) := by decide +kernel
theorem dX6_page_20 : decode cX6_page 20 = .ok (.ireturn, 1) := by decide +kernel
theorem dX6_page_21 : decode cX6_page 21 = .ok (.aload_n 0, 1) := by decide +kernel
theorem dX6_page_22 : decode cX6_page 22 = .ok (.getfield 29, 3) := by decide +kernel
theorem dX6_page_25 : decode cX6_page 25 = .ok (.aload_n 0, 1) := by decide +kernel
theorem dX6_page_26 : decode cX6_page 26 = .ok (.getfield 24, 3) := by decide +kernel
theorem dX6_page_29 : decode cX6_page 29 = .ok (.getfield 111, 3) := by decide +kernel
theorem dX6_page_32 : decode cX6_page 32 = .ok (.invokevirtual 114, 3) := by decide +kernel
theorem dX6_page_35 : decode cX6_page 35 = .ok (.aload_n 0, 1) := by decide +kernel
theorem dX6_page_36 : decode cX6_page 36 = .ok (.getfield 36, 3) := by decide +kernel
theorem dX6_page_39 : decode cX6_page 39 = .ok (.invokevirtual 118, 3) := by decide +kernel
theorem dX6_page_42 : decode cX6_page 42 = .ok (.aload_n 0, 1) := by decide +kernel
theorem dX6_page_43 : decode cX6_page 43 = .ok (.getfield 29, 3) := by decide +kernel
theorem dX6_page_46 : decode cX6_page 46 = .ok (.getfield 121, 3) := by decide +kernel
theorem dX6_page_49 : decode cX6_page 49 = .ok (.ireturn, 1) := by decide +kernel
theorem dX6_fault_0 : decode cX6_fault 0 = .ok (.aload_n 0, 1) := by decide +kernel
theorem dX6_fault_1 : decode cX6_fault 1 = .ok (.getfield 24, 3) := by decide +kernel
theorem dX6_fault_4 : decode cX6_fault 4 = .ok (.getfield 124, 3) := by decide +kernel
theorem dX6_fault_7 : decode cX6_fault 7 = .ok (.ireturn, 1) := by decide +kernel
theorem dX6_write_0 : decode cX6_write 0 = .ok (.aload_n 0, 1) := by decide +kernel
theorem dX6_write_1 : decode cX6_write 1 = .ok (.getfield 29, 3) := by decide +kernel
theorem dX6_write_4 : decode cX6_write 4 = .ok (.iload_n 1, 1) := by decide +kernel
theorem dX6_write_5 : decode cX6_write 5 = .ok (.iload_n 2, 1) := by decide +kernel
theorem dX6_write_6 : decode cX6_write 6 = .ok (.invokevirtual 127, 3) := by decide +kernel
theorem dX6_write_9 : decode cX6_write 9 = .ok (.ifCond .eq 14, 3) := by decide +kernel
theorem dX6_write_12 : decode cX6_write 12 = .ok (.aload_n 0, 1) := by decide +kernel
theorem dX6_write_13 : decode cX6_write 13 = .ok (.getfield 29, 3) := by decide +kernel
theorem dX6_write_16 : decode cX6_write 16 = .ok (.iload_n 3, 1) := by decide +kernel
theorem dX6_write_17 : decode cX6_write 17 = .ok (.invokevirtual 130, 3) := by decide +kernel
theorem dX6_write_20 : decode cX6_write 20 = .ok (.ifCond .ne 6, 3) := by decide +kernel
theorem dX6_write_23 : decode cX6_write 23 = .ok (.ldc 52, 2) := by decide +kernel
theorem dX6_write_25 : decode cX6_write 25 = .ok (.ireturn, 1) := by decide +kernel
theorem dX6_write_26 : decode cX6_write 26 = .ok (.aload_n 0, 1) := by decide +kernel
theorem dX6_write_27 : decode cX6_write 27 = .ok (.getfield 29, 3) := by decide +kernel
theorem dX6_write_30 : decode cX6_write 30 = .ok (.iload_n 1, 1) := by decide +kernel
theorem dX6_write_31 : decode cX6_write 31 = .ok (.iload_n 2, 1) := by decide +kernel
theorem dX6_write_32 : decode cX6_write 32 = .ok (.invokevirtual 134, 3) := by decide +kernel
theorem dX6_write_35 : decode cX6_write 35 = .ok (.istore 4, 2) := by decide +kernel
theorem dX6_write_37 : decode cX6_write 37 = .ok (.aload_n 0, 1) := by decide +kernel
theorem dX6_write_38 : decode cX6_write 38 = .ok (.getfield 36, 3) := by decide +kernel
theorem dX6_write_41 : decode cX6_write 41 = .ok (.iload_n 1, 1) := by decide +kernel
theorem dX6_write_42 : decode cX6_write 42 = .ok (.iload_n 2, 1) := by decide +kernel
theorem dX6_write_43 : decode cX6_write 43 = .ok (.iload 4, 2) := by decide +kernel
theorem dX6_write_45 : decode cX6_write 45 = .ok (.invokevirtual 138, 3) := by decide +kernel
theorem dX6_write_48 : decode cX6_write 48 = .ok (.aload_n 0, 1) := by decide +kernel
theorem dX6_write_49 : decode cX6_write 49 = .ok (.getfield 29, 3) := by decide +kernel
theorem dX6_write_52 : decode cX6_write 52 = .ok (.iload_n 1, 1) := by decide +kernel
theorem dX6_write_53 : decode cX6_write 53 = .ok (.iload_n 2, 1) := by decide +kernel
theorem dX6_write_54 : decode cX6_write 54 = .ok (.iload_n 3, 1) := by decide +kernel
theorem dX6_write_55 : decode cX6_write 55 = .ok (.invokevirtual 142, 3) := by decide +kernel
theorem dX6_write_58 : decode cX6_write 58 = .ok (.iload 4, 2) := by decide +kernel
theorem dX6_write_60 : decode cX6_write 60 = .ok (.ireturn, 1) := by decide +kernel
theorem dX6_turn_0 : decode cX6_turn 0 = .ok (.aload_n 0, 1) := by decide +kernel
theorem dX6_turn_1 : decode cX6_turn 1 = .ok (.getfield 29, 3) := by decide +kernel
theorem dX6_turn_4 : decode cX6_turn 4 = .ok (.invokevirtual 145, 3) := by decide +kernel
theorem dX6_turn_7 : decode cX6_turn 7 = .ok (.ifCond .ne 6, 3) := by decide +kernel
theorem dX6_turn_10 : decode cX6_turn 10 = .ok (.ldc 148, 2) := by decide +kernel
theorem dX6_turn_12 : decode cX6_turn 12 = .ok (.ireturn, 1) := by decide +kernel
theorem dX6_turn_13 : decode cX6_turn 13 = .ok (.aload_n 0, 1) := by decide +kernel
theorem dX6_turn_14 : decode cX6_turn 14 = .ok (.getfield 36, 3) := by decide +kernel
theorem dX6_turn_17 : decode cX6_turn 17 = .ok (.iconst (-1), 1) := by decide +kernel
theorem dX6_turn_18 : decode cX6_turn 18 = .ok (.iconst 0, 1) := by decide +kernel
theorem dX6_turn_19 : decode cX6_turn 19 = .ok (.iconst 0, 1) := by decide +kernel
theorem dX6_turn_20 : decode cX6_turn 20 = .ok (.invokevirtual 138, 3) := by decide +kernel
theorem dX6_turn_23 : decode cX6_turn 23 = .ok (.aload_n 0, 1) := by decide +kernel
theorem dX6_turn_24 : decode cX6_turn 24 = .ok (.getfield 29, 3) := by decide +kernel
theorem dX6_turn_27 : decode cX6_turn 27 = .ok (.invokevirtual 149, 3) := by decide +kernel
theorem dX6_turn_30 : decode cX6_turn 30 = .ok (.aload_n 0, 1) := by decide +kernel
theorem dX6_turn_31 : decode cX6_turn 31 = .ok (.getfield 29, 3) := by decide +kernel
theorem dX6_turn_34 : decode cX6_turn 34 = .ok (.getfield 121, 3) := by decide +kernel
theorem dX6_turn_37 : decode cX6_turn 37 = .ok (.ireturn, 1) := by decide +kernel
theorem dX6_undo_0 : decode cX6_undo 0 = .ok (.aload_n 0, 1) := by decide +kernel
theorem dX6_undo_1 : decode cX6_undo 1 = .ok (.getfield 36, 3) := by decide +kernel
theorem dX6_undo_4 : decode cX6_undo 4 = .ok (.getfield 152, 3) := by decide +kernel
theorem dX6_undo_7 : decode cX6_undo 7 = .ok (.ifCond .ne 6, 3) := by decide +kernel
theorem dX6_undo_10 : decode cX6_undo 10 = .ok (.ldc 148, 2) := by decide +kernel
theorem dX6_undo_12 : decode cX6_undo 12 = .ok (.ireturn, 1) := by decide +kernel
theorem dX6_undo_13 : decode cX6_undo 13 = .ok (.aload_n 0, 1) := by decide +kernel
theorem dX6_undo_14 : decode cX6_undo 14 = .ok (.getfield 36, 3) := by decide +kernel
theorem dX6_undo_17 : decode cX6_undo 17 = .ok (.invokevirtual 155, 3) := by decide +kernel
theorem dX6_undo_20 : decode cX6_undo 20 = .ok (.iconst (-1), 1) := by decide +kernel
theorem dX6_undo_21 : decode cX6_undo 21 = .ok (.if_icmp .ne 13, 3) := by decide +kernel
theorem dX6_undo_24 : decode cX6_undo 24 = .ok (.aload_n 0, 1) := by decide +kernel
theorem dX6_undo_25 : decode cX6_undo 25 = .ok (.getfield 29, 3) := by decide +kernel
theorem dX6_undo_28 : decode cX6_undo 28 = .ok (.invokevirtual 149, 3) := by decide +kernel
theorem dX6_undo_31 : decode cX6_undo 31 = .ok (.goto 31, 3) := by decide +kernel
theorem dX6_undo_34 : decode cX6_undo 34 = .ok (.aload_n 0, 1) := by decide +kernel
theorem dX6_undo_35 : decode cX6_undo 35 = .ok (.getfield 29, 3) := by decide +kernel
theorem dX6_undo_38 : decode cX6_undo 38 = .ok (.aload_n 0, 1) := by decide +kernel
theorem dX6_undo_39 : decode cX6_undo 39 = .ok (.getfield 36, 3) := by decide +kernel
theorem dX6_undo_42 : decode cX6_undo 42 = .ok (.invokevirtual 155, 3) := by decide +kernel
theorem dX6_undo_45 : decode cX6_undo 45 = .ok (.aload_n 0, 1) := by decide +kernel
theorem dX6_undo_46 : decode cX6_undo 46 = .ok (.getfield 36, 3) := by decide +kernel
theorem dX6_undo_49 : decode cX6_undo 49 = .ok (.invokevirtual 159, 3) := by decide +kernel
theorem dX6_undo_52 : decode cX6_undo 52 = .ok (.aload_n 0, 1) := by decide +kernel
theorem dX6_undo_53 : decode cX6_undo 53 = .ok (.getfield 36, 3) := by decide +kernel
theorem dX6_undo_56 : decode cX6_undo 56 = .ok (.invokevirtual 162, 3) := by decide +kernel
theorem dX6_undo_59 : decode cX6_undo 59 = .ok (.invokevirtual 142, 3) := by decide +kernel
theorem dX6_undo_62 : decode cX6_undo 62 = .ok (.aload_n 0, 1) := by decide +kernel
theorem dX6_undo_63 : decode cX6_undo 63 = .ok (.getfield 36, 3) := by decide +kernel
theorem dX6_undo_66 : decode cX6_undo 66 = .ok (.invokevirtual 165, 3) := by decide +kernel
theorem dX6_undo_69 : decode cX6_undo 69 = .ok (.aload_n 0, 1) := by decide +kernel
theorem dX6_undo_70 : decode cX6_undo 70 = .ok (.getfield 36, 3) := by decide +kernel
theorem dX6_undo_73 : decode cX6_undo 73 = .ok (.getfield 152, 3) := by decide +kernel
theorem dX6_undo_76 : decode cX6_undo 76 = .ok (.ireturn, 1) := by decide +kernel
theorem dX6_at_0 : decode cX6_at 0 = .ok (.aload_n 0, 1) := by decide +kernel
theorem dX6_at_1 : decode cX6_at 1 = .ok (.getfield 29, 3) := by decide +kernel
theorem dX6_at_4 : decode cX6_at 4 = .ok (.iload_n 1, 1) := by decide +kernel
theorem dX6_at_5 : decode cX6_at 5 = .ok (.iload_n 2, 1) := by decide +kernel
theorem dX6_at_6 : decode cX6_at 6 = .ok (.invokevirtual 127, 3) := by decide +kernel
theorem dX6_at_9 : decode cX6_at 9 = .ok (.ifCond .eq 15, 3) := by decide +kernel
theorem dX6_at_12 : decode cX6_at 12 = .ok (.aload_n 0, 1) := by decide +kernel
theorem dX6_at_13 : decode cX6_at 13 = .ok (.getfield 29, 3) := by decide +kernel
theorem dX6_at_16 : decode cX6_at 16 = .ok (.iload_n 1, 1) := by decide +kernel
theorem dX6_at_17 : decode cX6_at 17 = .ok (.iload_n 2, 1) := by decide +kernel
theorem dX6_at_18 : decode cX6_at 18 = .ok (.invokevirtual 134, 3) := by decide +kernel
theorem dX6_at_21 : decode cX6_at 21 = .ok (.goto 5, 3) := by decide +kernel
theorem dX6_at_24 : decode cX6_at 24 = .ok (.ldc 52, 2) := by decide +kernel
theorem dX6_at_26 : decode cX6_at 26 = .ok (.ireturn, 1) := by decide +kernel
theorem dX6_letter_0 : decode cX6_letter 0 = .ok (.aload_n 0, 1) := by decide +kernel
theorem dX6_letter_1 : decode cX6_letter 1 = .ok (.getfield 29, 3) := by decide +kernel
theorem dX6_letter_4 : decode cX6_letter 4 = .ok (.iload_n 1, 1) := by decide +kernel
theorem dX6_letter_5 : decode cX6_letter 5 = .ok (.invokevirtual 130, 3) := by decide +kernel
theorem dX6_letter_8 : decode cX6_letter 8 = .ok (.ifCond .ne 6, 3) := by decide +kernel
theorem dX6_letter_11 : decode cX6_letter 11 = .ok (.ldc 52, 2) := by decide +kernel
theorem dX6_letter_13 : decode cX6_letter 13 = .ok (.ireturn, 1) := by decide +kernel
theorem dX6_letter_14 : decode cX6_letter 14 = .ok (.iload_n 2, 1) := by decide +kernel
theorem dX6_letter_15 : decode cX6_letter 15 = .ok (.tableswitch 55 0 2 #[25, 34, 46], 25) := by decide +kernel
theorem dX6_letter_40 : decode cX6_letter 40 = .ok (.aload_n 0, 1) := by decide +kernel
theorem dX6_letter_41 : decode cX6_letter 41 = .ok (.getfield 29, 3) := by decide +kernel
theorem dX6_letter_44 : decode cX6_letter 44 = .ok (.iload_n 1, 1) := by decide +kernel
theorem dX6_letter_45 : decode cX6_letter 45 = .ok (.invokevirtual 168, 3) := by decide +kernel
theorem dX6_letter_48 : decode cX6_letter 48 = .ok (.ireturn, 1) := by decide +kernel
theorem dX6_letter_49 : decode cX6_letter 49 = .ok (.aload_n 0, 1) := by decide +kernel
theorem dX6_letter_50 : decode cX6_letter 50 = .ok (.getfield 29, 3) := by decide +kernel
theorem dX6_letter_53 : decode cX6_letter 53 = .ok (.iload_n 1, 1) := by decide +kernel
theorem dX6_letter_54 : decode cX6_letter 54 = .ok (.invokevirtual 168, 3) := by decide +kernel
theorem dX6_letter_57 : decode cX6_letter 57 = .ok (.invokestatic 171, 3) := by decide +kernel
theorem dX6_letter_60 : decode cX6_letter 60 = .ok (.ireturn, 1) := by decide +kernel
theorem dX6_letter_61 : decode cX6_letter 61 = .ok (.aload_n 0, 1) := by decide +kernel
theorem dX6_letter_62 : decode cX6_letter 62 = .ok (.getfield 29, 3) := by decide +kernel
theorem dX6_letter_65 : decode cX6_letter 65 = .ok (.iload_n 1, 1) := by decide +kernel
theorem dX6_letter_66 : decode cX6_letter 66 = .ok (.invokevirtual 174, 3) := by decide +kernel
theorem dX6_letter_69 : decode cX6_letter 69 = .ok (.ireturn, 1) := by decide +kernel
theorem dX6_letter_70 : decode cX6_letter 70 = .ok (.ldc 52, 2) := by decide +kernel
theorem dX6_letter_72 : decode cX6_letter 72 = .ok (.ireturn, 1) := by decide +kernel
theorem dX6_light_0 : decode cX6_light 0 = .ok (.aload_n 0, 1) := by decide +kernel
theorem dX6_light_1 : decode cX6_light 1 = .ok (.getfield 29, 3) := by decide +kernel
theorem dX6_light_4 : decode cX6_light 4 = .ok (.iload_n 1, 1) := by decide +kernel
theorem dX6_light_5 : decode cX6_light 5 = .ok (.iload_n 2, 1) := by decide +kernel
theorem dX6_light_6 : decode cX6_light 6 = .ok (.invokevirtual 127, 3) := by decide +kernel
theorem dX6_light_9 : decode cX6_light 9 = .ok (.ifCond .ne 6, 3) := by decide +kernel
theorem dX6_light_12 : decode cX6_light 12 = .ok (.ldc 52, 2) := by decide +kernel
theorem dX6_light_14 : decode cX6_light 14 = .ok (.ireturn, 1) := by decide +kernel
theorem dX6_light_15 : decode cX6_light 15 = .ok (.aload_n 0, 1) := by decide +kernel
theorem dX6_light_16 : decode cX6_light 16 = .ok (.getfield 29, 3) := by decide +kernel
theorem dX6_light_19 : decode cX6_light 19 = .ok (.iload_n 1, 1) := by decide +kernel
theorem dX6_light_20 : decode cX6_light 20 = .ok (.iload_n 2, 1) := by decide +kernel
theorem dX6_light_21 : decode cX6_light 21 = .ok (.invokevirtual 177, 3) := by decide +kernel
theorem dX6_light_24 : decode cX6_light 24 = .ok (.istore 4, 2) := by decide +kernel
theorem dX6_light_26 : decode cX6_light 26 = .ok (.iload_n 3, 1) := by decide +kernel
theorem dX6_light_27 : decode cX6_light 27 = .ok (.ifCond .ne 8, 3) := by decide +kernel
theorem dX6_light_30 : decode cX6_light 30 = .ok (.iload 4, 2) := by decide +kernel
theorem dX6_light_32 : decode cX6_light 32 = .ok (.goto 12, 3) := by decide +kernel
theorem dX6_light_35 : decode cX6_light 35 = .ok (.aload_n 0, 1) := by decide +kernel
theorem dX6_light_36 : decode cX6_light 36 = .ok (.iload 4, 2) := by decide +kernel
theorem dX6_light_38 : decode cX6_light 38 = .ok (.iload_n 3, 1) := by decide +kernel
theorem dX6_light_39 : decode cX6_light 39 = .ok (.iconst 1, 1) := by decide +kernel
theorem dX6_light_40 : decode cX6_light 40 = .ok (.isub, 1) := by decide +kernel
theorem dX6_light_41 : decode cX6_light 41 = .ok (.invokevirtual 180, 3) := by decide +kernel
theorem dX6_light_44 : decode cX6_light 44 = .ok (.ireturn, 1) := by decide +kernel
theorem dX6_damp_0 : decode cX6_damp 0 = .ok (.aload_n 0, 1) := by decide +kernel
theorem dX6_damp_1 : decode cX6_damp 1 = .ok (.getfield 29, 3) := by decide +kernel
theorem dX6_damp_4 : decode cX6_damp 4 = .ok (.iload_n 1, 1) := by decide +kernel
theorem dX6_damp_5 : decode cX6_damp 5 = .ok (.iload_n 2, 1) := by decide +kernel
theorem dX6_damp_6 : decode cX6_damp 6 = .ok (.invokevirtual 127, 3) := by decide +kernel
theorem dX6_damp_9 : decode cX6_damp 9 = .ok (.ifCond .eq 13, 3) := by decide +kernel
theorem dX6_damp_12 : decode cX6_damp 12 = .ok (.iload_n 3, 1) := by decide +kernel
theorem dX6_damp_13 : decode cX6_damp 13 = .ok (.ifCond .lt 9, 3) := by decide +kernel
theorem dX6_damp_16 : decode cX6_damp 16 = .ok (.iload_n 3, 1) := by decide +kernel
theorem dX6_damp_17 : decode cX6_damp 17 = .ok (.bipush 30, 2) := by decide +kernel
theorem dX6_damp_19 : decode cX6_damp 19 = .ok (.if_icmp .le 6, 3) := by decide +kernel
theorem dX6_damp_22 : decode cX6_damp 22 = .ok (.ldc 52, 2) := by decide +kernel
theorem dX6_damp_24 : decode cX6_damp 24 = .ok (.ireturn, 1) := by decide +kernel
theorem dX6_damp_25 : decode cX6_damp 25 = .ok (.aload_n 0, 1) := by decide +kernel
theorem dX6_damp_26 : decode cX6_damp 26 = .ok (.aload_n 0, 1) := by decide +kernel
theorem dX6_damp_27 : decode cX6_damp 27 = .ok (.getfield 29, 3) := by decide +kernel
theorem dX6_damp_30 : decode cX6_damp 30 = .ok (.iload_n 1, 1) := by decide +kernel
theorem dX6_damp_31 : decode cX6_damp 31 = .ok (.iload_n 2, 1) := by decide +kernel
theorem dX6_damp_32 : decode cX6_damp 32 = .ok (.iload_n 3, 1) := by decide +kernel
theorem dX6_damp_33 : decode cX6_damp 33 = .ok (.invokevirtual 183, 3) := by decide +kernel
theorem dX6_damp_36 : decode cX6_damp 36 = .ok (.iload 4, 2) := by decide +kernel
theorem dX6_damp_38 : decode cX6_damp 38 = .ok (.invokevirtual 187, 3) := by decide +kernel
theorem dX6_damp_41 : decode cX6_damp 41 = .ok (.ireturn, 1) := by decide +kernel
theorem dX6_read_0 : decode cX6_read 0 = .ok (.aload_n 0, 1) := by decide +kernel
theorem dX6_read_1 : decode cX6_read 1 = .ok (.getfield 29, 3) := by decide +kernel
theorem dX6_read_4 : decode cX6_read 4 = .ok (.invokevirtual 145, 3) := by decide +kernel
theorem dX6_read_7 : decode cX6_read 7 = .ok (.ifCond .ne 6, 3) := by decide +kernel
theorem dX6_read_10 : decode cX6_read 10 = .ok (.ldc 148, 2) := by decide +kernel
theorem dX6_read_12 : decode cX6_read 12 = .ok (.ireturn, 1) := by decide +kernel
theorem dX6_read_13 : decode cX6_read 13 = .ok (.iload_n 1, 1) := by decide +kernel
theorem dX6_read_14 : decode cX6_read 14 = .ok (.invokestatic 190, 3) := by decide +kernel
theorem dX6_read_17 : decode cX6_read 17 = .ok (.ifCond .eq 12, 3) := by decide +kernel
theorem dX6_read_20 : decode cX6_read 20 = .ok (.aload_n 0, 1) := by decide +kernel
theorem dX6_read_21 : decode cX6_read 21 = .ok (.iload_n 1, 1) := by decide +kernel
theorem dX6_read_22 : decode cX6_read 22 = .ok (.iload_n 2, 1) := by decide +kernel
theorem dX6_read_23 : decode cX6_read 23 = .ok (.invokevirtual 180, 3) := by decide +kernel
theorem dX6_read_26 : decode cX6_read 26 = .ok (.goto 5, 3) := by decide +kernel
theorem dX6_read_29 : decode cX6_read 29 = .ok (.ldc 52, 2) := by decide +kernel
theorem dX6_read_31 : decode cX6_read 31 = .ok (.ireturn, 1) := by decide +kernel
theorem dX6_behind_0 : decode cX6_behind 0 = .ok (.aload_n 0, 1) := by decide +kernel
theorem dX6_behind_1 : decode cX6_behind 1 = .ok (.getfield 29, 3) := by decide +kernel
theorem dX6_behind_4 : decode cX6_behind 4 = .ok (.invokevirtual 145, 3) := by decide +kernel
theorem dX6_behind_7 : decode cX6_behind 7 = .ok (.ifCond .eq 18, 3) := by decide +kernel
theorem dX6_behind_10 : decode cX6_behind 10 = .ok (.aload_n 0, 1) := by decide +kernel
theorem dX6_behind_11 : decode cX6_behind 11 = .ok (.getfield 29, 3) := by decide +kernel
theorem dX6_behind_14 : decode cX6_behind 14 = .ok (.iconst 0, 1) := by decide +kernel
theorem dX6_behind_15 : decode cX6_behind 15 = .ok (.iload_n 2, 1) := by decide +kernel
theorem dX6_behind_16 : decode cX6_behind 16 = .ok (.invokevirtual 127, 3) := by decide +kernel
theorem dX6_behind_19 : decode cX6_behind 19 = .ok (.ifCond .ne 6, 3) := by decide +kernel
theorem dX6_behind_22 : decode cX6_behind 22 = .ok (.ldc 52, 2) := by decide +kernel
theorem dX6_behind_24 : decode cX6_behind 24 = .ok (.ireturn, 1) := by decide +kernel
theorem dX6_behind_25 : decode cX6_behind 25 = .ok (.aload_n 0, 1) := by decide +kernel
theorem dX6_behind_26 : decode cX6_behind 26 = .ok (.iload_n 1, 1) := by decide +kernel
theorem dX6_behind_27 : decode cX6_behind 27 = .ok (.invokevirtual 48, 3) := by decide +kernel
theorem dX6_behind_30 : decode cX6_behind 30 = .ok (.astore_n 3, 1) := by decide +kernel
theorem dX6_behind_31 : decode cX6_behind 31 = .ok (.aload_n 0, 1) := by decide +kernel
theorem dX6_behind_32 : decode cX6_behind 32 = .ok (.aload_n 3, 1) := by decide +kernel
theorem dX6_behind_33 : decode cX6_behind 33 = .ok (.invokevirtual 193, 3) := by decide +kernel
theorem dX6_behind_36 : decode cX6_behind 36 = .ok (.istore 4, 2) := by decide +kernel
theorem dX6_behind_38 : decode cX6_behind 38 = .ok (.aload_n 3, 1) := by decide +kernel
theorem dX6_behind_39 : decode cX6_behind 39 = .ok (.ifnull 8, 3) := by decide +kernel
theorem dX6_behind_42 : decode cX6_behind 42 = .ok (.iload 4, 2) := by decide +kernel
theorem dX6_behind_44 : decode cX6_behind 44 = .ok (.ifCond .eq 6, 3) := by decide +kernel
theorem dX6_behind_47 : decode cX6_behind 47 = .ok (.iload 4, 2) := by decide +kernel
theorem dX6_behind_49 : decode cX6_behind 49 = .ok (.ireturn, 1) := by decide +kernel
theorem dX6_behind_50 : decode cX6_behind 50 = .ok (.aload_n 0, 1) := by decide +kernel
theorem dX6_behind_51 : decode cX6_behind 51 = .ok (.aload_n 0, 1) := by decide +kernel
theorem dX6_behind_52 : decode cX6_behind 52 = .ok (.getfield 29, 3) := by decide +kernel
theorem dX6_behind_55 : decode cX6_behind 55 = .ok (.iload_n 2, 1) := by decide +kernel
theorem dX6_behind_56 : decode cX6_behind 56 = .ok (.aload_n 3, 1) := by decide +kernel
theorem dX6_behind_57 : decode cX6_behind 57 = .ok (.iload_n 2, 1) := by decide +kernel
theorem dX6_behind_58 : decode cX6_behind 58 = .ok (.invokevirtual 75, 3) := by decide +kernel
theorem dX6_behind_61 : decode cX6_behind 61 = .ok (.invokevirtual 197, 3) := by decide +kernel
theorem dX6_behind_64 : decode cX6_behind 64 = .ok (.invokevirtual 61, 3) := by decide +kernel
theorem dX6_behind_67 : decode cX6_behind 67 = .ok (.ireturn, 1) := by decide +kernel
theorem dX6_ways_0 : decode cX6_ways 0 = .ok (.aload_n 0, 1) := by decide +kernel
theorem dX6_ways_1 : decode cX6_ways 1 = .ok (.iload_n 1, 1) := by decide +kernel
theorem dX6_ways_2 : decode cX6_ways 2 = .ok (.invokevirtual 48, 3) := by decide +kernel
theorem dX6_ways_5 : decode cX6_ways 5 = .ok (.astore_n 2, 1) := by decide +kernel
theorem dX6_ways_6 : decode cX6_ways 6 = .ok (.aload_n 0, 1) := by decide +kernel
theorem dX6_ways_7 : decode cX6_ways 7 = .ok (.aload_n 2, 1) := by decide +kernel
theorem dX6_ways_8 : decode cX6_ways 8 = .ok (.invokevirtual 193, 3) := by decide +kernel
theorem dX6_ways_11 : decode cX6_ways 11 = .ok (.istore_n 3, 1) := by decide +kernel
theorem dX6_ways_12 : decode cX6_ways 12 = .ok (.aload_n 2, 1) := by decide +kernel
theorem dX6_ways_13 : decode cX6_ways 13 = .ok (.ifnull 7, 3) := by decide +kernel
theorem dX6_ways_16 : decode cX6_ways 16 = .ok (.iload_n 3, 1) := by decide +kernel
theorem dX6_ways_17 : decode cX6_ways 17 = .ok (.ifCond .eq 5, 3) := by decide +kernel
theorem dX6_ways_20 : decode cX6_ways 20 = .ok (.iload_n 3, 1) := by decide +kernel
theorem dX6_ways_21 : decode cX6_ways 21 = .ok (.ireturn, 1) := by decide +kernel
theorem dX6_ways_22 : decode cX6_ways 22 = .ok (.iconst 1, 1) := by decide +kernel
theorem dX6_ways_23 : decode cX6_ways 23 = .ok (.istore 4, 2) := by decide +kernel
theorem dX6_ways_25 : decode cX6_ways 25 = .ok (.iconst 0, 1) := by decide +kernel
theorem dX6_ways_26 : decode cX6_ways 26 = .ok (.istore 5, 2) := by decide +kernel
theorem dX6_ways_28 : decode cX6_ways 28 = .ok (.iload 5, 2) := by decide +kernel
theorem dX6_ways_30 : decode cX6_ways 30 = .ok (.aload_n 0, 1) := by decide +kernel
theorem dX6_ways_31 : decode cX6_ways 31 = .ok (.getfield 29, 3) := by decide +kernel
theorem dX6_ways_34 : decode cX6_ways 34 = .ok (.getfield 121, 3) := by decide +kernel
theorem dX6_ways_37 : decode cX6_ways 37 = .ok (.if_icmp .ge 32, 3) := by decide +kernel
theorem dX6_ways_40 : decode cX6_ways 40 = .ok (.iload 4, 2) := by decide +kernel
theorem dX6_ways_42 : decode cX6_ways 42 = .ok (.aload_n 0, 1) := by decide +kernel
theorem dX6_ways_43 : decode cX6_ways 43 = .ok (.getfield 29, 3) := by decide +kernel
theorem dX6_ways_46 : decode cX6_ways 46 = .ok (.iload 5, 2) := by decide +kernel
theorem dX6_ways_48 : decode cX6_ways 48 = .ok (.aload_n 2, 1) := by decide +kernel
theorem dX6_ways_49 : decode cX6_ways 49 = .ok (.iload 5, 2) := by decide +kernel
theorem dX6_ways_51 : decode cX6_ways 51 = .ok (.invokevirtual 75, 3) := by decide +kernel
theorem dX6_ways_54 : decode cX6_ways 54 = .ok (.invokevirtual 197, 3) := by decide +kernel
theorem dX6_ways_57 : decode cX6_ways 57 = .ok (.invokestatic 200, 3) := by decide +kernel
theorem dX6_ways_60 : decode cX6_ways 60 = .ok (.imul, 1) := by decide +kernel
theorem dX6_ways_61 : decode cX6_ways 61 = .ok (.istore 4, 2) := by decide +kernel
theorem dX6_ways_63 : decode cX6_ways 63 = .ok (.iinc 5 1, 3) := by decide +kernel
theorem dX6_ways_66 : decode cX6_ways 66 = .ok (.goto (-38), 3) := by decide +kernel
theorem dX6_ways_69 : decode cX6_ways 69 = .ok (.aload_n 0, 1) := by decide +kernel
theorem dX6_ways_70 : decode cX6_ways 70 = .ok (.iload 4, 2) := by decide +kernel
theorem dX6_ways_72 : decode cX6_ways 72 = .ok (.invokevirtual 61, 3) := by decide +kernel
theorem dX6_ways_75 : decode cX6_ways 75 = .ok (.ireturn, 1) := by decide +kernel
theorem dX6_anew_0 : decode cX6_anew 0 = .ok (.aload_n 0, 1) := by decide +kernel
theorem dX6_anew_1 : decode cX6_anew 1 = .ok (.iload_n 1, 1) := by decide +kernel
theorem dX6_anew_2 : decode cX6_anew 2 = .ok (.invokevirtual 48, 3) := by decide +kernel
theorem dX6_anew_5 : decode cX6_anew 5 = .ok (.astore_n 2, 1) := by decide +kernel
theorem dX6_anew_6 : decode cX6_anew 6 = .ok (.aload_n 0, 1) := by decide +kernel
theorem dX6_anew_7 : decode cX6_anew 7 = .ok (.aload_n 2, 1) := by decide +kernel
theorem dX6_anew_8 : decode cX6_anew 8 = .ok (.invokevirtual 193, 3) := by decide +kernel
theorem dX6_anew_11 : decode cX6_anew 11 = .ok (.istore_n 3, 1) := by decide +kernel
theorem dX6_anew_12 : decode cX6_anew 12 = .ok (.aload_n 2, 1) := by decide +kernel
theorem dX6_anew_13 : decode cX6_anew 13 = .ok (.ifnull 7, 3) := by decide +kernel
theorem dX6_anew_16 : decode cX6_anew 16 = .ok (.iload_n 3, 1) := by decide +kernel
theorem dX6_anew_17 : decode cX6_anew 17 = .ok (.ifCond .eq 5, 3) := by decide +kernel
theorem dX6_anew_20 : decode cX6_anew 20 = .ok (.iload_n 3, 1) := by decide +kernel
theorem dX6_anew_21 : decode cX6_anew 21 = .ok (.ireturn, 1) := by decide +kernel
theorem dX6_anew_22 : decode cX6_anew 22 = .ok (.iconst 0, 1) := by decide +kernel
theorem dX6_anew_23 : decode cX6_anew 23 = .ok (.istore 4, 2) := by decide +kernel
theorem dX6_anew_25 : decode cX6_anew 25 = .ok (.iconst 0, 1) := by decide +kernel
theorem dX6_anew_26 : decode cX6_anew 26 = .ok (.istore 5, 2) := by decide +kernel
theorem dX6_anew_28 : decode cX6_anew 28 = .ok (.iload 5, 2) := by decide +kernel
theorem dX6_anew_30 : decode cX6_anew 30 = .ok (.aload_n 0, 1) := by decide +kernel
theorem dX6_anew_31 : decode cX6_anew 31 = .ok (.getfield 29, 3) := by decide +kernel
theorem dX6_anew_34 : decode cX6_anew 34 = .ok (.getfield 121, 3) := by decide +kernel
theorem dX6_anew_37 : decode cX6_anew 37 = .ok (.if_icmp .ge 47, 3) := by decide +kernel
theorem dX6_anew_40 : decode cX6_anew 40 = .ok (.aload_n 0, 1) := by decide +kernel
theorem dX6_anew_41 : decode cX6_anew 41 = .ok (.getfield 29, 3) := by decide +kernel
theorem dX6_anew_44 : decode cX6_anew 44 = .ok (.iload 5, 2) := by decide +kernel
theorem dX6_anew_46 : decode cX6_anew 46 = .ok (.aload_n 2, 1) := by decide +kernel
theorem dX6_anew_47 : decode cX6_anew 47 = .ok (.iload 5, 2) := by decide +kernel
theorem dX6_anew_49 : decode cX6_anew 49 = .ok (.invokevirtual 75, 3) := by decide +kernel
theorem dX6_anew_52 : decode cX6_anew 52 = .ok (.invokevirtual 205, 3) := by decide +kernel
theorem dX6_anew_55 : decode cX6_anew 55 = .ok (.istore 6, 2) := by decide +kernel
theorem dX6_anew_57 : decode cX6_anew 57 = .ok (.iload 6, 2) := by decide +kernel
theorem dX6_anew_59 : decode cX6_anew 59 = .ok (.ldc 208, 2) := by decide +kernel
theorem dX6_anew_61 : decode cX6_anew 61 = .ok (.if_icmp .ne 10, 3) := by decide +kernel
theorem dX6_anew_64 : decode cX6_anew 64 = .ok (.aload_n 0, 1) := by decide +kernel
theorem dX6_anew_65 : decode cX6_anew 65 = .ok (.ldc 208, 2) := by decide +kernel
theorem dX6_anew_67 : decode cX6_anew 67 = .ok (.invokevirtual 61, 3) := by decide +kernel
theorem dX6_anew_70 : decode cX6_anew 70 = .ok (.ireturn, 1) := by decide +kernel
theorem dX6_anew_71 : decode cX6_anew 71 = .ok (.iload 4, 2) := by decide +kernel
theorem dX6_anew_73 : decode cX6_anew 73 = .ok (.iload 6, 2) := by decide +kernel
theorem dX6_anew_75 : decode cX6_anew 75 = .ok (.iadd, 1) := by decide +kernel
theorem dX6_anew_76 : decode cX6_anew 76 = .ok (.istore 4, 2) := by decide +kernel
theorem dX6_anew_78 : decode cX6_anew 78 = .ok (.iinc 5 1, 3) := by decide +kernel
theorem dX6_anew_81 : decode cX6_anew 81 = .ok (.goto (-53), 3) := by decide +kernel
theorem dX6_anew_84 : decode cX6_anew 84 = .ok (.aload_n 0, 1) := by decide +kernel
theorem dX6_anew_85 : decode cX6_anew 85 = .ok (.iload 4, 2) := by decide +kernel
theorem dX6_anew_87 : decode cX6_anew 87 = .ok (.invokevirtual 61, 3) := by decide +kernel
theorem dX6_anew_90 : decode cX6_anew 90 = .ok (.ireturn, 1) := by decide +kernel
theorem dX6_fits_0 : decode cX6_fits 0 = .ok (.aload_n 0, 1) := by decide +kernel
theorem dX6_fits_1 : decode cX6_fits 1 = .ok (.getfield 29, 3) := by decide +kernel
theorem dX6_fits_4 : decode cX6_fits 4 = .ok (.iconst 0, 1) := by decide +kernel
theorem dX6_fits_5 : decode cX6_fits 5 = .ok (.iload_n 1, 1) := by decide +kernel
theorem dX6_fits_6 : decode cX6_fits 6 = .ok (.invokevirtual 127, 3) := by decide +kernel
theorem dX6_fits_9 : decode cX6_fits 9 = .ok (.ifCond .eq 22, 3) := by decide +kernel
theorem dX6_fits_12 : decode cX6_fits 12 = .ok (.iload_n 2, 1) := by decide +kernel
theorem dX6_fits_13 : decode cX6_fits 13 = .ok (.invokestatic 190, 3) := by decide +kernel
theorem dX6_fits_16 : decode cX6_fits 16 = .ok (.ifCond .eq 15, 3) := by decide +kernel
theorem dX6_fits_19 : decode cX6_fits 19 = .ok (.aload_n 0, 1) := by decide +kernel
theorem dX6_fits_20 : decode cX6_fits 20 = .ok (.getfield 29, 3) := by decide +kernel
theorem dX6_fits_23 : decode cX6_fits 23 = .ok (.iload_n 1, 1) := by decide +kernel
theorem dX6_fits_24 : decode cX6_fits 24 = .ok (.iload_n 2, 1) := by decide +kernel
theorem dX6_fits_25 : decode cX6_fits 25 = .ok (.invokevirtual 209, 3) := by decide +kernel
theorem dX6_fits_28 : decode cX6_fits 28 = .ok (.goto 5, 3) := by decide +kernel
theorem dX6_fits_31 : decode cX6_fits 31 = .ok (.ldc 52, 2) := by decide +kernel
theorem dX6_fits_33 : decode cX6_fits 33 = .ok (.ireturn, 1) := by decide +kernel
theorem dX6_harm_0 : decode cX6_harm 0 = .ok (.aload_n 0, 1) := by decide +kernel
theorem dX6_harm_1 : decode cX6_harm 1 = .ok (.iload_n 1, 1) := by decide +kernel
theorem dX6_harm_2 : decode cX6_harm 2 = .ok (.invokevirtual 48, 3) := by decide +kernel
theorem dX6_harm_5 : decode cX6_harm 5 = .ok (.astore_n 2, 1) := by decide +kernel
theorem dX6_harm_6 : decode cX6_harm 6 = .ok (.aload_n 0, 1) := by decide +kernel
theorem dX6_harm_7 : decode cX6_harm 7 = .ok (.aload_n 2, 1) := by decide +kernel
theorem dX6_harm_8 : decode cX6_harm 8 = .ok (.invokevirtual 193, 3) := by decide +kernel
theorem dX6_harm_11 : decode cX6_harm 11 = .ok (.istore_n 3, 1) := by decide +kernel
theorem dX6_harm_12 : decode cX6_harm 12 = .ok (.aload_n 2, 1) := by decide +kernel
theorem dX6_harm_13 : decode cX6_harm 13 = .ok (.ifnull 7, 3) := by decide +kernel
theorem dX6_harm_16 : decode cX6_harm 16 = .ok (.iload_n 3, 1) := by decide +kernel
theorem dX6_harm_17 : decode cX6_harm 17 = .ok (.ifCond .eq 5, 3) := by decide +kernel
theorem dX6_harm_20 : decode cX6_harm 20 = .ok (.iload_n 3, 1) := by decide +kernel
theorem dX6_harm_21 : decode cX6_harm 21 = .ok (.ireturn, 1) := by decide +kernel
theorem dX6_harm_22 : decode cX6_harm 22 = .ok (.aload_n 0, 1) := by decide +kernel
theorem dX6_harm_23 : decode cX6_harm 23 = .ok (.aload_n 0, 1) := by decide +kernel
theorem dX6_harm_24 : decode cX6_harm 24 = .ok (.getfield 29, 3) := by decide +kernel
theorem dX6_harm_27 : decode cX6_harm 27 = .ok (.aload_n 2, 1) := by decide +kernel
theorem dX6_harm_28 : decode cX6_harm 28 = .ok (.invokevirtual 212, 3) := by decide +kernel
theorem dX6_harm_31 : decode cX6_harm 31 = .ok (.invokevirtual 61, 3) := by decide +kernel
theorem dX6_harm_34 : decode cX6_harm 34 = .ok (.ireturn, 1) := by decide +kernel
theorem dX6_leastHarm_0 : decode cX6_leastHarm 0 = .ok (.aload_n 0, 1) := by decide +kernel
theorem dX6_leastHarm_1 : decode cX6_leastHarm 1 = .ok (.getfield 29, 3) := by decide +kernel
theorem dX6_leastHarm_4 : decode cX6_leastHarm 4 = .ok (.invokevirtual 145, 3) := by decide +kernel
theorem dX6_leastHarm_7 : decode cX6_leastHarm 7 = .ok (.ifCond .ne 6, 3) := by decide +kernel
theorem dX6_leastHarm_10 : decode cX6_leastHarm 10 = .ok (.ldc 148, 2) := by decide +kernel
theorem dX6_leastHarm_12 : decode cX6_leastHarm 12 = .ok (.ireturn, 1) := by decide +kernel
theorem dX6_leastHarm_13 : decode cX6_leastHarm 13 = .ok (.iload_n 1, 1) := by decide +kernel
theorem dX6_leastHarm_14 : decode cX6_leastHarm 14 = .ok (.ifCond .lt 10, 3) := by decide +kernel
theorem dX6_leastHarm_17 : decode cX6_leastHarm 17 = .ok (.iload_n 1, 1) := by decide +kernel
theorem dX6_leastHarm_18 : decode cX6_leastHarm 18 = .ok (.sipush 255, 3) := by decide +kernel
theorem dX6_leastHarm_21 : decode cX6_leastHarm 21 = .ok (.if_icmp .le 6, 3) := by decide +kernel
theorem dX6_leastHarm_24 : decode cX6_leastHarm 24 = .ok (.ldc 52, 2) := by decide +kernel
theorem dX6_leastHarm_26 : decode cX6_leastHarm 26 = .ok (.ireturn, 1) := by decide +kernel
theorem dX6_leastHarm_27 : decode cX6_leastHarm 27 = .ok (.ldc 208, 2) := by decide +kernel
theorem dX6_leastHarm_29 : decode cX6_leastHarm 29 = .ok (.istore_n 2, 1) := by decide +kernel
theorem dX6_leastHarm_30 : decode cX6_leastHarm 30 = .ok (.bipush 10, 2) := by decide +kernel
theorem dX6_leastHarm_32 : decode cX6_leastHarm 32 = .ok (.istore_n 3, 1) := by decide +kernel
theorem dX6_leastHarm_33 : decode cX6_leastHarm 33 = .ok (.iconst 0, 1) := by decide +kernel
theorem dX6_leastHarm_34 : decode cX6_leastHarm 34 = .ok (.istore 4, 2) := by decide +kernel
theorem dX6_leastHarm_36 : decode cX6_leastHarm 36 = .ok (.iload 4, 2) := by decide +kernel
theorem dX6_leastHarm_38 : decode cX6_leastHarm 38 = .ok (.bipush 8, 2) := by decide +kernel
theorem dX6_leastHarm_40 : decode cX6_leastHarm 40 = .ok (.if_icmp .ge 69, 3) := by decide +kernel
theorem dX6_leastHarm_43 : decode cX6_leastHarm 43 = .ok (.aload_n 0, 1) := by decide +kernel
theorem dX6_leastHarm_44 : decode cX6_leastHarm 44 = .ok (.iload 4, 2) := by decide +kernel
theorem dX6_leastHarm_46 : decode cX6_leastHarm 46 = .ok (.invokevirtual 48, 3) := by decide +kernel
theorem dX6_leastHarm_49 : decode cX6_leastHarm 49 = .ok (.astore 5, 2) := by decide +kernel
theorem dX6_leastHarm_51 : decode cX6_leastHarm 51 = .ok (.iload_n 1, 1) := by decide +kernel
theorem dX6_leastHarm_52 : decode cX6_leastHarm 52 = .ok (.iload 4, 2) := by decide +kernel
theorem dX6_leastHarm_54 : decode cX6_leastHarm 54 = .ok (.invokestatic 215, 3) := by decide +kernel
theorem dX6_leastHarm_57 : decode cX6_leastHarm 57 = .ok (.ifCond .eq 46, 3) := by decide +kernel
theorem dX6_leastHarm_60 : decode cX6_leastHarm 60 = .ok (.aload 5, 2) := by decide +kernel
theorem dX6_leastHarm_62 : decode cX6_leastHarm 62 = .ok (.ifnull 41, 3) := by decide +kernel
theorem dX6_leastHarm_65 : decode cX6_leastHarm 65 = .ok (.aload_n 0, 1) := by decide +kernel
theorem dX6_leastHarm_66 : decode cX6_leastHarm 66 = .ok (.getfield 29, 3) := by decide +kernel
theorem dX6_leastHarm_69 : decode cX6_leastHarm 69 = .ok (.aload 5, 2) := by decide +kernel
theorem dX6_leastHarm_71 : decode cX6_leastHarm 71 = .ok (.invokevirtual 218, 3) := by decide +kernel
theorem dX6_leastHarm_74 : decode cX6_leastHarm 74 = .ok (.ifCond .eq 29, 3) := by decide +kernel
theorem dX6_leastHarm_77 : decode cX6_leastHarm 77 = .ok (.aload_n 0, 1) := by decide +kernel
theorem dX6_leastHarm_78 : decode cX6_leastHarm 78 = .ok (.getfield 29, 3) := by decide +kernel
theorem dX6_leastHarm_81 : decode cX6_leastHarm 81 = .ok (.aload 5, 2) := by decide +kernel
theorem dX6_leastHarm_83 : decode cX6_leastHarm 83 = .ok (.invokevirtual 212, 3) := by decide +kernel
theorem dX6_leastHarm_86 : decode cX6_leastHarm 86 = .ok (.iload_n 3, 1) := by decide +kernel
theorem dX6_leastHarm_87 : decode cX6_leastHarm 87 = .ok (.if_icmp .ge 16, 3) := by decide +kernel
theorem dX6_leastHarm_90 : decode cX6_leastHarm 90 = .ok (.iload 4, 2) := by decide +kernel
theorem dX6_leastHarm_92 : decode cX6_leastHarm 92 = .ok (.istore_n 2, 1) := by decide +kernel
theorem dX6_leastHarm_93 : decode cX6_leastHarm 93 = .ok (.aload_n 0, 1) := by decide +kernel
theorem dX6_leastHarm_94 : decode cX6_leastHarm 94 = .ok (.getfield 29, 3) := by decide +kernel
theorem dX6_leastHarm_97 : decode cX6_leastHarm 97 = .ok (.aload 5, 2) := by decide +kernel
theorem dX6_leastHarm_99 : decode cX6_leastHarm 99 = .ok (.invokevirtual 212, 3) := by decide +kernel
theorem dX6_leastHarm_102 : decode cX6_leastHarm 102 = .ok (.istore_n 3, 1) := by decide +kernel
theorem dX6_leastHarm_103 : decode cX6_leastHarm 103 = .ok (.iinc 4 1, 3) := by decide +kernel
theorem dX6_leastHarm_106 : decode cX6_leastHarm 106 = .ok (.goto (-70), 3) := by decide +kernel
theorem dX6_leastHarm_109 : decode cX6_leastHarm 109 = .ok (.iload_n 2, 1) := by decide +kernel
theorem dX6_leastHarm_110 : decode cX6_leastHarm 110 = .ok (.ireturn, 1) := by decide +kernel
theorem dX6_safe_0 : decode cX6_safe 0 = .ok (.aload_n 0, 1) := by decide +kernel
theorem dX6_safe_1 : decode cX6_safe 1 = .ok (.getfield 29, 3) := by decide +kernel
theorem dX6_safe_4 : decode cX6_safe 4 = .ok (.iload_n 1, 1) := by decide +kernel
theorem dX6_safe_5 : decode cX6_safe 5 = .ok (.invokevirtual 130, 3) := by decide +kernel
theorem dX6_safe_8 : decode cX6_safe 8 = .ok (.ifCond .eq 15, 3) := by decide +kernel
theorem dX6_safe_11 : decode cX6_safe 11 = .ok (.aload_n 0, 1) := by decide +kernel
theorem dX6_safe_12 : decode cX6_safe 12 = .ok (.getfield 29, 3) := by decide +kernel
theorem dX6_safe_15 : decode cX6_safe 15 = .ok (.iload_n 1, 1) := by decide +kernel
theorem dX6_safe_16 : decode cX6_safe 16 = .ok (.iload_n 1, 1) := by decide +kernel
theorem dX6_safe_17 : decode cX6_safe 17 = .ok (.invokevirtual 222, 3) := by decide +kernel
theorem dX6_safe_20 : decode cX6_safe 20 = .ok (.goto 5, 3) := by decide +kernel
theorem dX6_safe_23 : decode cX6_safe 23 = .ok (.ldc 52, 2) := by decide +kernel
theorem dX6_safe_25 : decode cX6_safe 25 = .ok (.ireturn, 1) := by decide +kernel
theorem dX6_over_0 : decode cX6_over 0 = .ok (.aload_n 0, 1) := by decide +kernel
theorem dX6_over_1 : decode cX6_over 1 = .ok (.getfield 29, 3) := by decide +kernel
theorem dX6_over_4 : decode cX6_over 4 = .ok (.iload_n 1, 1) := by decide +kernel
theorem dX6_over_5 : decode cX6_over 5 = .ok (.invokevirtual 130, 3) := by decide +kernel
theorem dX6_over_8 : decode cX6_over 8 = .ok (.ifCond .eq 14, 3) := by decide +kernel
theorem dX6_over_11 : decode cX6_over 11 = .ok (.aload_n 0, 1) := by decide +kernel
theorem dX6_over_12 : decode cX6_over 12 = .ok (.getfield 29, 3) := by decide +kernel
theorem dX6_over_15 : decode cX6_over 15 = .ok (.iload_n 2, 1) := by decide +kernel
theorem dX6_over_16 : decode cX6_over 16 = .ok (.invokevirtual 130, 3) := by decide +kernel
theorem dX6_over_19 : decode cX6_over 19 = .ok (.ifCond .ne 6, 3) := by decide +kernel
theorem dX6_over_22 : decode cX6_over 22 = .ok (.ldc 52, 2) := by decide +kernel
theorem dX6_over_24 : decode cX6_over 24 = .ok (.ireturn, 1) := by decide +kernel
theorem dX6_over_25 : decode cX6_over 25 = .ok (.aload_n 0, 1) := by decide +kernel
theorem dX6_over_26 : decode cX6_over 26 = .ok (.aload_n 0, 1) := by decide +kernel
theorem dX6_over_27 : decode cX6_over 27 = .ok (.getfield 29, 3) := by decide +kernel
theorem dX6_over_30 : decode cX6_over 30 = .ok (.iload_n 1, 1) := by decide +kernel
theorem dX6_over_31 : decode cX6_over 31 = .ok (.invokevirtual 168, 3) := by decide +kernel
theorem dX6_over_34 : decode cX6_over 34 = .ok (.aload_n 0, 1) := by decide +kernel
theorem dX6_over_35 : decode cX6_over 35 = .ok (.getfield 29, 3) := by decide +kernel
theorem dX6_over_38 : decode cX6_over 38 = .ok (.iload_n 2, 1) := by decide +kernel
theorem dX6_over_39 : decode cX6_over 39 = .ok (.invokevirtual 168, 3) := by decide +kernel
theorem dX6_over_42 : decode cX6_over 42 = .ok (.ior, 1) := by decide +kernel
theorem dX6_over_43 : decode cX6_over 43 = .ok (.iload_n 3, 1) := by decide +kernel
theorem dX6_over_44 : decode cX6_over 44 = .ok (.invokevirtual 187, 3) := by decide +kernel
theorem dX6_over_47 : decode cX6_over 47 = .ok (.ireturn, 1) := by decide +kernel
theorem dX6_image_0 : decode cX6_image 0 = .ok (.aload_n 0, 1) := by decide +kernel
theorem dX6_image_1 : decode cX6_image 1 = .ok (.iload_n 1, 1) := by decide +kernel
theorem dX6_image_2 : decode cX6_image 2 = .ok (.invokevirtual 225, 3) := by decide +kernel
theorem dX6_image_5 : decode cX6_image 5 = .ok (.astore_n 2, 1) := by decide +kernel
theorem dX6_image_6 : decode cX6_image 6 = .ok (.aload_n 2, 1) := by decide +kernel
theorem dX6_image_7 : decode cX6_image 7 = .ok (.ifnonnull 6, 3) := by decide +kernel
theorem dX6_image_10 : decode cX6_image 10 = .ok (.ldc 52, 2) := by decide +kernel
theorem dX6_image_12 : decode cX6_image 12 = .ok (.ireturn, 1) := by decide +kernel
theorem dX6_image_13 : decode cX6_image 13 = .ok (.aload_n 0, 1) := by decide +kernel
theorem dX6_image_14 : decode cX6_image 14 = .ok (.getfield 29, 3) := by decide +kernel
theorem dX6_image_17 : decode cX6_image 17 = .ok (.invokevirtual 145, 3) := by decide +kernel
theorem dX6_image_20 : decode cX6_image 20 = .ok (.ifCond .ne 6, 3) := by decide +kernel
theorem dX6_image_23 : decode cX6_image 23 = .ok (.ldc 148, 2) := by decide +kernel
theorem dX6_image_25 : decode cX6_image 25 = .ok (.ireturn, 1) := by decide +kernel
theorem dX6_image_26 : decode cX6_image 26 = .ok (.aload_n 2, 1) := by decide +kernel
theorem dX6_image_27 : decode cX6_image 27 = .ok (.aload_n 0, 1) := by decide +kernel
theorem dX6_image_28 : decode cX6_image 28 = .ok (.getfield 29, 3) := by decide +kernel
theorem dX6_image_31 : decode cX6_image 31 = .ok (.invokevirtual 114, 3) := by decide +kernel
theorem dX6_image_34 : decode cX6_image 34 = .ok (.iconst 1, 1) := by decide +kernel
theorem dX6_image_35 : decode cX6_image 35 = .ok (.ireturn, 1) := by decide +kernel
theorem dX6_restore_0 : decode cX6_restore 0 = .ok (.aload_n 0, 1) := by decide +kernel
theorem dX6_restore_1 : decode cX6_restore 1 = .ok (.iload_n 1, 1) := by decide +kernel
theorem dX6_restore_2 : decode cX6_restore 2 = .ok (.invokevirtual 225, 3) := by decide +kernel
theorem dX6_restore_5 : decode cX6_restore 5 = .ok (.astore_n 2, 1) := by decide +kernel
theorem dX6_restore_6 : decode cX6_restore 6 = .ok (.aload_n 2, 1) := by decide +kernel
theorem dX6_restore_7 : decode cX6_restore 7 = .ok (.ifnonnull 6, 3) := by decide +kernel
theorem dX6_restore_10 : decode cX6_restore 10 = .ok (.ldc 52, 2) := by decide +kernel
theorem dX6_restore_12 : decode cX6_restore 12 = .ok (.ireturn, 1) := by decide +kernel
theorem dX6_restore_13 : decode cX6_restore 13 = .ok (.aload_n 2, 1) := by decide +kernel
theorem dX6_restore_14 : decode cX6_restore 14 = .ok (.invokevirtual 145, 3) := by decide +kernel
theorem dX6_restore_17 : decode cX6_restore 17 = .ok (.ifCond .ne 6, 3) := by decide +kernel
theorem dX6_restore_20 : decode cX6_restore 20 = .ok (.ldc 148, 2) := by decide +kernel
theorem dX6_restore_22 : decode cX6_restore 22 = .ok (.ireturn, 1) := by decide +kernel
theorem dX6_restore_23 : decode cX6_restore 23 = .ok (.aload_n 0, 1) := by decide +kernel
theorem dX6_restore_24 : decode cX6_restore 24 = .ok (.getfield 29, 3) := by decide +kernel
theorem dX6_restore_27 : decode cX6_restore 27 = .ok (.aload_n 2, 1) := by decide +kernel
theorem dX6_restore_28 : decode cX6_restore 28 = .ok (.invokevirtual 114, 3) := by decide +kernel
theorem dX6_restore_31 : decode cX6_restore 31 = .ok (.aload_n 0, 1) := by decide +kernel
theorem dX6_restore_32 : decode cX6_restore 32 = .ok (.getfield 36, 3) := by decide +kernel
theorem dX6_restore_35 : decode cX6_restore 35 = .ok (.invokevirtual 118, 3) := by decide +kernel
theorem dX6_restore_38 : decode cX6_restore 38 = .ok (.iconst 1, 1) := by decide +kernel
theorem dX6_restore_39 : decode cX6_restore 39 = .ok (.ireturn, 1) := by decide +kernel
theorem dX6_kind_0 : decode cX6_kind 0 = .ok (.aload_n 0, 1) := by decide +kernel
theorem dX6_kind_1 : decode cX6_kind 1 = .ok (.getfield 29, 3) := by decide +kernel
theorem dX6_kind_4 : decode cX6_kind 4 = .ok (.iload_n 1, 1) := by decide +kernel
theorem dX6_kind_5 : decode cX6_kind 5 = .ok (.invokevirtual 130, 3) := by decide +kernel
theorem dX6_kind_8 : decode cX6_kind 8 = .ok (.ifCond .eq 14, 3) := by decide +kernel
theorem dX6_kind_11 : decode cX6_kind 11 = .ok (.aload_n 0, 1) := by decide +kernel
theorem dX6_kind_12 : decode cX6_kind 12 = .ok (.getfield 29, 3) := by decide +kernel
theorem dX6_kind_15 : decode cX6_kind 15 = .ok (.iload_n 1, 1) := by decide +kernel
theorem dX6_kind_16 : decode cX6_kind 16 = .ok (.invokevirtual 229, 3) := by decide +kernel
theorem dX6_kind_19 : decode cX6_kind 19 = .ok (.goto 5, 3) := by decide +kernel
theorem dX6_kind_22 : decode cX6_kind 22 = .ok (.ldc 52, 2) := by decide +kernel
theorem dX6_kind_24 : decode cX6_kind 24 = .ok (.ireturn, 1) := by decide +kernel
theorem dX6_as_0 : decode cX6_as 0 = .ok (.aload_n 0, 1) := by decide +kernel
theorem dX6_as_1 : decode cX6_as 1 = .ok (.getfield 29, 3) := by decide +kernel
theorem dX6_as_4 : decode cX6_as 4 = .ok (.iload_n 1, 1) := by decide +kernel
theorem dX6_as_5 : decode cX6_as 5 = .ok (.invokevirtual 130, 3) := by decide +kernel
theorem dX6_as_8 : decode cX6_as 8 = .ok (.ifCond .eq 12, 3) := by decide +kernel
theorem dX6_as_11 : decode cX6_as 11 = .ok (.iload_n 2, 1) := by decide +kernel
theorem dX6_as_12 : decode cX6_as 12 = .ok (.ifCond .lt 8, 3) := by decide +kernel
theorem dX6_as_15 : decode cX6_as 15 = .ok (.iload_n 2, 1) := by decide +kernel
theorem dX6_as_16 : decode cX6_as 16 = .ok (.iconst 5, 1) := by decide +kernel
theorem dX6_as_17 : decode cX6_as 17 = .ok (.if_icmp .le 6, 3) := by decide +kernel
theorem dX6_as_20 : decode cX6_as 20 = .ok (.ldc 52, 2) := by decide +kernel
theorem dX6_as_22 : decode cX6_as 22 = .ok (.ireturn, 1) := by decide +kernel
theorem dX6_as_23 : decode cX6_as 23 = .ok (.aload_n 0, 1) := by decide +kernel
theorem dX6_as_24 : decode cX6_as 24 = .ok (.getfield 29, 3) := by decide +kernel
theorem dX6_as_27 : decode cX6_as 27 = .ok (.iload_n 1, 1) := by decide +kernel
theorem dX6_as_28 : decode cX6_as 28 = .ok (.invokevirtual 229, 3) := by decide +kernel
theorem dX6_as_31 : decode cX6_as 31 = .ok (.iload_n 2, 1) := by decide +kernel
theorem dX6_as_32 : decode cX6_as 32 = .ok (.invokestatic 232, 3) := by decide +kernel
theorem dX6_as_35 : decode cX6_as 35 = .ok (.ifCond .eq 11, 3) := by decide +kernel
theorem dX6_as_38 : decode cX6_as 38 = .ok (.aload_n 0, 1) := by decide +kernel
theorem dX6_as_39 : decode cX6_as 39 = .ok (.iload_n 1, 1) := by decide +kernel
theorem dX6_as_40 : decode cX6_as 40 = .ok (.invokevirtual 61, 3) := by decide +kernel
theorem dX6_as_43 : decode cX6_as 43 = .ok (.goto 8, 3) := by decide +kernel
theorem dX6_as_46 : decode cX6_as 46 = .ok (.aload_n 0, 1) := by decide +kernel
theorem dX6_as_47 : decode cX6_as 47 = .ok (.iconst 3, 1) := by decide +kernel
theorem dX6_as_48 : decode cX6_as 48 = .ok (.invokevirtual 53, 3) := by decide +kernel
theorem dX6_as_51 : decode cX6_as 51 = .ok (.ireturn, 1) := by decide +kernel
theorem dX6_ask_0 : decode cX6_ask 0 = .ok (.aload_n 0, 1) := by decide +kernel
theorem dX6_ask_1 : decode cX6_ask 1 = .ok (.getfield 29, 3) := by decide +kernel
theorem dX6_ask_4 : decode cX6_ask 4 = .ok (.iload_n 1, 1) := by decide +kernel
theorem dX6_ask_5 : decode cX6_ask 5 = .ok (.invokevirtual 130, 3) := by decide +kernel
theorem dX6_ask_8 : decode cX6_ask 8 = .ok (.ifCond .eq 12, 3) := by decide +kernel
theorem dX6_ask_11 : decode cX6_ask 11 = .ok (.iload_n 2, 1) := by decide +kernel
theorem dX6_ask_12 : decode cX6_ask 12 = .ok (.ifCond .lt 8, 3) := by decide +kernel
theorem dX6_ask_15 : decode cX6_ask 15 = .ok (.iload_n 2, 1) := by decide +kernel
theorem dX6_ask_16 : decode cX6_ask 16 = .ok (.iconst 1, 1) := by decide +kernel
theorem dX6_ask_17 : decode cX6_ask 17 = .ok (.if_icmp .le 6, 3) := by decide +kernel
theorem dX6_ask_20 : decode cX6_ask 20 = .ok (.ldc 52, 2) := by decide +kernel
theorem dX6_ask_22 : decode cX6_ask 22 = .ok (.ireturn, 1) := by decide +kernel
theorem dX6_ask_23 : decode cX6_ask 23 = .ok (.aload_n 0, 1) := by decide +kernel
theorem dX6_ask_24 : decode cX6_ask 24 = .ok (.getfield 43, 3) := by decide +kernel
theorem dX6_ask_27 : decode cX6_ask 27 = .ok (.aload_n 0, 1) := by decide +kernel
theorem dX6_ask_28 : decode cX6_ask 28 = .ok (.getfield 29, 3) := by decide +kernel
theorem dX6_ask_31 : decode cX6_ask 31 = .ok (.iload_n 1, 1) := by decide +kernel
theorem dX6_ask_32 : decode cX6_ask 32 = .ok (.iload_n 2, 1) := by decide +kernel
theorem dX6_ask_33 : decode cX6_ask 33 = .ok (.invokevirtual 235, 3) := by decide +kernel
theorem dX6_ask_36 : decode cX6_ask 36 = .ok (.ireturn, 1) := by decide +kernel
theorem dX6_trace_0 : decode cX6_trace 0 = .ok (.aload_n 0, 1) := by decide +kernel
theorem dX6_trace_1 : decode cX6_trace 1 = .ok (.getfield 43, 3) := by decide +kernel
theorem dX6_trace_4 : decode cX6_trace 4 = .ok (.iload_n 1, 1) := by decide +kernel
theorem dX6_trace_5 : decode cX6_trace 5 = .ok (.invokevirtual 239, 3) := by decide +kernel
theorem dX6_trace_8 : decode cX6_trace 8 = .ok (.ireturn, 1) := by decide +kernel
theorem dX6_count_0 : decode cX6_count 0 = .ok (.iload_n 1, 1) := by decide +kernel
theorem dX6_count_1 : decode cX6_count 1 = .ok (.tableswitch 87 0 5 #[39, 44, 52, 60, 68, 76], 39) := by decide +kernel
theorem dX6_count_40 : decode cX6_count 40 = .ok (.aload_n 0, 1) := by decide +kernel
theorem dX6_count_41 : decode cX6_count 41 = .ok (.invokevirtual 242, 3) := by decide +kernel
theorem dX6_count_44 : decode cX6_count 44 = .ok (.ireturn, 1) := by decide +kernel
theorem dX6_count_45 : decode cX6_count 45 = .ok (.aload_n 0, 1) := by decide +kernel
theorem dX6_count_46 : decode cX6_count 46 = .ok (.getfield 29, 3) := by decide +kernel
theorem dX6_count_49 : decode cX6_count 49 = .ok (.getfield 245, 3) := by decide +kernel
theorem dX6_count_52 : decode cX6_count 52 = .ok (.ireturn, 1) := by decide +kernel
theorem dX6_count_53 : decode cX6_count 53 = .ok (.aload_n 0, 1) := by decide +kernel
theorem dX6_count_54 : decode cX6_count 54 = .ok (.getfield 29, 3) := by decide +kernel
theorem dX6_count_57 : decode cX6_count 57 = .ok (.getfield 121, 3) := by decide +kernel
theorem dX6_count_60 : decode cX6_count 60 = .ok (.ireturn, 1) := by decide +kernel
theorem dX6_count_61 : decode cX6_count 61 = .ok (.aload_n 0, 1) := by decide +kernel
theorem dX6_count_62 : decode cX6_count 62 = .ok (.getfield 29, 3) := by decide +kernel
theorem dX6_count_65 : decode cX6_count 65 = .ok (.invokevirtual 248, 3) := by decide +kernel
theorem dX6_count_68 : decode cX6_count 68 = .ok (.ireturn, 1) := by decide +kernel
theorem dX6_count_69 : decode cX6_count 69 = .ok (.aload_n 0, 1) := by decide +kernel
theorem dX6_count_70 : decode cX6_count 70 = .ok (.getfield 36, 3) := by decide +kernel
theorem dX6_count_73 : decode cX6_count 73 = .ok (.getfield 152, 3) := by decide +kernel
theorem dX6_count_76 : decode cX6_count 76 = .ok (.ireturn, 1) := by decide +kernel
theorem dX6_count_77 : decode cX6_count 77 = .ok (.aload_n 0, 1) := by decide +kernel
theorem dX6_count_78 : decode cX6_count 78 = .ok (.getfield 24, 3) := by decide +kernel
theorem dX6_count_81 : decode cX6_count 81 = .ok (.getfield 92, 3) := by decide +kernel
theorem dX6_count_84 : decode cX6_count 84 = .ok (.getfield 102, 3) := by decide +kernel
theorem dX6_count_87 : decode cX6_count 87 = .ok (.ireturn, 1) := by decide +kernel
theorem dX6_count_88 : decode cX6_count 88 = .ok (.ldc 52, 2) := by decide +kernel
theorem dX6_count_90 : decode cX6_count 90 = .ok (.ireturn, 1) := by decide +kernel
theorem dX6_status_0 : decode cX6_status 0 = .ok (.aload_n 0, 1) := by decide +kernel
theorem dX6_status_1 : decode cX6_status 1 = .ok (.getfield 251, 3) := by decide +kernel
theorem dX6_status_4 : decode cX6_status 4 = .ok (.ireturn, 1) := by decide +kernel
theorem dX6_rowOf_0 : decode cX6_rowOf 0 = .ok (.iload_n 1, 1) := by decide +kernel
theorem dX6_rowOf_1 : decode cX6_rowOf 1 = .ok (.ifCond .lt 21, 3) := by decide +kernel
theorem dX6_rowOf_4 : decode cX6_rowOf 4 = .ok (.iload_n 1, 1) := by decide +kernel
theorem dX6_rowOf_5 : decode cX6_rowOf 5 = .ok (.aload_n 0, 1) := by decide +kernel
theorem dX6_rowOf_6 : decode cX6_rowOf 6 = .ok (.getfield 11, 3) := by decide +kernel
theorem dX6_rowOf_9 : decode cX6_rowOf 9 = .ok (.arraylength, 1) := by decide +kernel
theorem dX6_rowOf_10 : decode cX6_rowOf 10 = .ok (.if_icmp .ge 12, 3) := by decide +kernel
theorem dX6_rowOf_13 : decode cX6_rowOf 13 = .ok (.aload_n 0, 1) := by decide +kernel
theorem dX6_rowOf_14 : decode cX6_rowOf 14 = .ok (.getfield 11, 3) := by decide +kernel
theorem dX6_rowOf_17 : decode cX6_rowOf 17 = .ok (.iload_n 1, 1) := by decide +kernel
theorem dX6_rowOf_18 : decode cX6_rowOf 18 = .ok (.aaload, 1) := by decide +kernel
theorem dX6_rowOf_19 : decode cX6_rowOf 19 = .ok (.goto 4, 3) := by decide +kernel
theorem dX6_rowOf_22 : decode cX6_rowOf 22 = .ok (.aconst_null, 1) := by decide +kernel
theorem dX6_rowOf_23 : decode cX6_rowOf 23 = .ok (.areturn, 1) := by decide +kernel
theorem dX6_imageOf_0 : decode cX6_imageOf 0 = .ok (.iload_n 1, 1) := by decide +kernel
theorem dX6_imageOf_1 : decode cX6_imageOf 1 = .ok (.ifCond .lt 21, 3) := by decide +kernel
theorem dX6_imageOf_4 : decode cX6_imageOf 4 = .ok (.iload_n 1, 1) := by decide +kernel
theorem dX6_imageOf_5 : decode cX6_imageOf 5 = .ok (.aload_n 0, 1) := by decide +kernel
theorem dX6_imageOf_6 : decode cX6_imageOf 6 = .ok (.getfield 17, 3) := by decide +kernel
theorem dX6_imageOf_9 : decode cX6_imageOf 9 = .ok (.arraylength, 1) := by decide +kernel
theorem dX6_imageOf_10 : decode cX6_imageOf 10 = .ok (.if_icmp .ge 12, 3) := by decide +kernel
theorem dX6_imageOf_13 : decode cX6_imageOf 13 = .ok (.aload_n 0, 1) := by decide +kernel
theorem dX6_imageOf_14 : decode cX6_imageOf 14 = .ok (.getfield 17, 3) := by decide +kernel
theorem dX6_imageOf_17 : decode cX6_imageOf 17 = .ok (.iload_n 1, 1) := by decide +kernel
theorem dX6_imageOf_18 : decode cX6_imageOf 18 = .ok (.aaload, 1) := by decide +kernel
theorem dX6_imageOf_19 : decode cX6_imageOf 19 = .ok (.goto 4, 3) := by decide +kernel
theorem dX6_imageOf_22 : decode cX6_imageOf 22 = .ok (.aconst_null, 1) := by decide +kernel
theorem dX6_imageOf_23 : decode cX6_imageOf 23 = .ok (.areturn, 1) := by decide +kernel
theorem dX6_rowsThere_0 : decode cX6_rowsThere 0 = .ok (.iconst 0, 1) := by decide +kernel
theorem dX6_rowsThere_1 : decode cX6_rowsThere 1 = .ok (.istore_n 1, 1) := by decide +kernel
theorem dX6_rowsThere_2 : decode cX6_rowsThere 2 = .ok (.iconst 0, 1) := by decide +kernel
theorem dX6_rowsThere_3 : decode cX6_rowsThere 3 = .ok (.istore_n 2, 1) := by decide +kernel
theorem dX6_rowsThere_4 : decode cX6_rowsThere 4 = .ok (.iload_n 2, 1) := by decide +kernel
theorem dX6_rowsThere_5 : decode cX6_rowsThere 5 = .ok (.bipush 8, 2) := by decide +kernel
theorem dX6_rowsThere_7 : decode cX6_rowsThere 7 = .ok (.if_icmp .ge 29, 3) := by decide +kernel
theorem dX6_rowsThere_10 : decode cX6_rowsThere 10 = .ok (.aload_n 0, 1) := by decide +kernel
theorem dX6_rowsThere_11 : decode cX6_rowsThere 11 = .ok (.iload_n 2, 1) := by decide +kernel
theorem dX6_rowsThere_12 : decode cX6_rowsThere 12 = .ok (.invokevirtual 48, 3) := by decide +kernel
theorem dX6_rowsThere_15 : decode cX6_rowsThere 15 = .ok (.astore_n 3, 1) := by decide +kernel
theorem dX6_rowsThere_16 : decode cX6_rowsThere 16 = .ok (.aload_n 3, 1) := by decide +kernel
theorem dX6_rowsThere_17 : decode cX6_rowsThere 17 = .ok (.ifnull 13, 3) := by decide +kernel
theorem dX6_rowsThere_20 : decode cX6_rowsThere 20 = .ok (.aload_n 3, 1) := by decide +kernel
theorem dX6_rowsThere_21 : decode cX6_rowsThere 21 = .ok (.invokevirtual 64, 3) := by decide +kernel
theorem dX6_rowsThere_24 : decode cX6_rowsThere 24 = .ok (.ifCond .ne 6, 3) := by decide +kernel
theorem dX6_rowsThere_27 : decode cX6_rowsThere 27 = .ok (.iinc 1 1, 3) := by decide +kernel
theorem dX6_rowsThere_30 : decode cX6_rowsThere 30 = .ok (.iinc 2 1, 3) := by decide +kernel
theorem dX6_rowsThere_33 : decode cX6_rowsThere 33 = .ok (.goto (-29), 3) := by decide +kernel
theorem dX6_rowsThere_36 : decode cX6_rowsThere 36 = .ok (.iload_n 1, 1) := by decide +kernel
theorem dX6_rowsThere_37 : decode cX6_rowsThere 37 = .ok (.ireturn, 1) := by decide +kernel
theorem dX6_found_0 : decode cX6_found 0 = .ok (.aload_n 0, 1) := by decide +kernel
theorem dX6_found_1 : decode cX6_found 1 = .ok (.iload_n 1, 1) := by decide +kernel
theorem dX6_found_2 : decode cX6_found 2 = .ok (.putfield 251, 3) := by decide +kernel
theorem dX6_found_5 : decode cX6_found 5 = .ok (.ldc 254, 2) := by decide +kernel
theorem dX6_found_7 : decode cX6_found 7 = .ok (.iload_n 1, 1) := by decide +kernel
theorem dX6_found_8 : decode cX6_found 8 = .ok (.isub, 1) := by decide +kernel
theorem dX6_found_9 : decode cX6_found 9 = .ok (.ireturn, 1) := by decide +kernel
theorem dX6_unfound_0 : decode cX6_unfound 0 = .ok (.aload_n 0, 1) := by decide +kernel
theorem dX6_unfound_1 : decode cX6_unfound 1 = .ok (.iconst 0, 1) := by decide +kernel
theorem dX6_unfound_2 : decode cX6_unfound 2 = .ok (.putfield 251, 3) := by decide +kernel
theorem dX6_unfound_5 : decode cX6_unfound 5 = .ok (.iload_n 1, 1) := by decide +kernel
theorem dX6_unfound_6 : decode cX6_unfound 6 = .ok (.ireturn, 1) := by decide +kernel
theorem dX6_refusalOfLetters_0 : decode cX6_refusalOfLetters 0 = .ok (.aload_n 0, 1) := by decide +kernel
theorem dX6_refusalOfLetters_1 : decode cX6_refusalOfLetters 1 = .ok (.getfield 29, 3) := by decide +kernel
theorem dX6_refusalOfLetters_4 : decode cX6_refusalOfLetters 4 = .ok (.invokevirtual 145, 3) := by decide +kernel
theorem dX6_refusalOfLetters_7 : decode cX6_refusalOfLetters 7 = .ok (.ifCond .ne 6, 3) := by decide +kernel
theorem dX6_refusalOfLetters_10 : decode cX6_refusalOfLetters 10 = .ok (.ldc 148, 2) := by decide +kernel
theorem dX6_refusalOfLetters_12 : decode cX6_refusalOfLetters 12 = .ok (.ireturn, 1) := by decide +kernel
theorem dX6_refusalOfLetters_13 : decode cX6_refusalOfLetters 13 = .ok (.aload_n 1, 1) := by decide +kernel
theorem dX6_refusalOfLetters_14 : decode cX6_refusalOfLetters 14 = .ok (.ifnonnull 6, 3) := by decide +kernel
theorem dX6_refusalOfLetters_17 : decode cX6_refusalOfLetters 17 = .ok (.ldc 52, 2) := by decide +kernel
theorem dX6_refusalOfLetters_19 : decode cX6_refusalOfLetters 19 = .ok (.ireturn, 1) := by decide +kernel
theorem dX6_refusalOfLetters_20 : decode cX6_refusalOfLetters 20 = .ok (.aload_n 1, 1) := by decide +kernel
theorem dX6_refusalOfLetters_21 : decode cX6_refusalOfLetters 21 = .ok (.invokevirtual 64, 3) := by decide +kernel
theorem dX6_refusalOfLetters_24 : decode cX6_refusalOfLetters 24 = .ok (.ifCond .eq 9, 3) := by decide +kernel
theorem dX6_refusalOfLetters_27 : decode cX6_refusalOfLetters 27 = .ok (.aload_n 0, 1) := by decide +kernel
theorem dX6_refusalOfLetters_28 : decode cX6_refusalOfLetters 28 = .ok (.iconst 1, 1) := by decide +kernel
theorem dX6_refusalOfLetters_29 : decode cX6_refusalOfLetters 29 = .ok (.invokevirtual 53, 3) := by decide +kernel
theorem dX6_refusalOfLetters_32 : decode cX6_refusalOfLetters 32 = .ok (.ireturn, 1) := by decide +kernel
theorem dX6_refusalOfLetters_33 : decode cX6_refusalOfLetters 33 = .ok (.aload_n 1, 1) := by decide +kernel
theorem dX6_refusalOfLetters_34 : decode cX6_refusalOfLetters 34 = .ok (.getfield 86, 3) := by decide +kernel
theorem dX6_refusalOfLetters_37 : decode cX6_refusalOfLetters 37 = .ok (.aload_n 0, 1) := by decide +kernel
theorem dX6_refusalOfLetters_38 : decode cX6_refusalOfLetters 38 = .ok (.getfield 29, 3) := by decide +kernel
theorem dX6_refusalOfLetters_41 : decode cX6_refusalOfLetters 41 = .ok (.getfield 121, 3) := by decide +kernel
theorem dX6_refusalOfLetters_44 : decode cX6_refusalOfLetters 44 = .ok (.if_icmp .ge 9, 3) := by decide +kernel
theorem dX6_refusalOfLetters_47 : decode cX6_refusalOfLetters 47 = .ok (.aload_n 0, 1) := by decide +kernel
theorem dX6_refusalOfLetters_48 : decode cX6_refusalOfLetters 48 = .ok (.iconst 2, 1) := by decide +kernel
theorem dX6_refusalOfLetters_49 : decode cX6_refusalOfLetters 49 = .ok (.invokevirtual 53, 3) := by decide +kernel
theorem dX6_refusalOfLetters_52 : decode cX6_refusalOfLetters 52 = .ok (.ireturn, 1) := by decide +kernel
theorem dX6_refusalOfLetters_53 : decode cX6_refusalOfLetters 53 = .ok (.aload_n 0, 1) := by decide +kernel
theorem dX6_refusalOfLetters_54 : decode cX6_refusalOfLetters 54 = .ok (.getfield 29, 3) := by decide +kernel
theorem dX6_refusalOfLetters_57 : decode cX6_refusalOfLetters 57 = .ok (.aload_n 1, 1) := by decide +kernel
theorem dX6_refusalOfLetters_58 : decode cX6_refusalOfLetters 58 = .ok (.invokevirtual 218, 3) := by decide +kernel
theorem dX6_refusalOfLetters_61 : decode cX6_refusalOfLetters 61 = .ok (.ifCond .eq 7, 3) := by decide +kernel
theorem dX6_refusalOfLetters_64 : decode cX6_refusalOfLetters 64 = .ok (.iconst 0, 1) := by decide +kernel
theorem dX6_refusalOfLetters_65 : decode cX6_refusalOfLetters 65 = .ok (.goto 5, 3) := by decide +kernel
theorem dX6_refusalOfLetters_68 : decode cX6_refusalOfLetters 68 = .ok (.ldc 52, 2) := by decide +kernel
theorem dX6_refusalOfLetters_70 : decode cX6_refusalOfLetters 70 = .ok (.ireturn, 1) := by decide +kernel
theorem dX6_cellsOrReading_0 : decode cX6_cellsOrReading 0 = .ok (.iload_n 2, 1) := by decide +kernel
theorem dX6_cellsOrReading_1 : decode cX6_cellsOrReading 1 = .ok (.lookupswitch 38 #[(0, 27), (1, 29)], 27) := by decide +kernel
theorem dX6_cellsOrReading_28 : decode cX6_cellsOrReading 28 = .ok (.iload_n 1, 1) := by decide +kernel
theorem dX6_cellsOrReading_29 : decode cX6_cellsOrReading 29 = .ok (.ireturn, 1) := by decide +kernel
theorem dX6_cellsOrReading_30 : decode cX6_cellsOrReading 30 = .ok (.aload_n 0, 1) := by decide +kernel
theorem dX6_cellsOrReading_31 : decode cX6_cellsOrReading 31 = .ok (.getfield 29, 3) := by decide +kernel
theorem dX6_cellsOrReading_34 : decode cX6_cellsOrReading 34 = .ok (.iload_n 1, 1) := by decide +kernel
theorem dX6_cellsOrReading_35 : decode cX6_cellsOrReading 35 = .ok (.invokevirtual 255, 3) := by decide +kernel
theorem dX6_cellsOrReading_38 : decode cX6_cellsOrReading 38 = .ok (.ireturn, 1) := by decide +kernel
theorem dX6_cellsOrReading_39 : decode cX6_cellsOrReading 39 = .ok (.ldc 52, 2) := by decide +kernel
theorem dX6_cellsOrReading_41 : decode cX6_cellsOrReading 41 = .ok (.ireturn, 1) := by decide +kernel
theorem dX6_answerOfReading_0 : decode cX6_answerOfReading 0 = .ok (.iload_n 2, 1) := by decide +kernel
theorem dX6_answerOfReading_1 : decode cX6_answerOfReading 1 = .ok (.tableswitch 62 0 2 #[27, 36, 45], 27) := by decide +kernel
theorem dX6_answerOfReading_28 : decode cX6_answerOfReading 28 = .ok (.aload_n 0, 1) := by decide +kernel
theorem dX6_answerOfReading_29 : decode cX6_answerOfReading 29 = .ok (.getfield 29, 3) := by decide +kernel
theorem dX6_answerOfReading_32 : decode cX6_answerOfReading 32 = .ok (.iload_n 1, 1) := by decide +kernel
theorem dX6_answerOfReading_33 : decode cX6_answerOfReading 33 = .ok (.invokevirtual 255, 3) := by decide +kernel
theorem dX6_answerOfReading_36 : decode cX6_answerOfReading 36 = .ok (.ireturn, 1) := by decide +kernel
theorem dX6_answerOfReading_37 : decode cX6_answerOfReading 37 = .ok (.aload_n 0, 1) := by decide +kernel
theorem dX6_answerOfReading_38 : decode cX6_answerOfReading 38 = .ok (.getfield 29, 3) := by decide +kernel
theorem dX6_answerOfReading_41 : decode cX6_answerOfReading 41 = .ok (.iload_n 1, 1) := by decide +kernel
theorem dX6_answerOfReading_42 : decode cX6_answerOfReading 42 = .ok (.invokevirtual 258, 3) := by decide +kernel
theorem dX6_answerOfReading_45 : decode cX6_answerOfReading 45 = .ok (.ireturn, 1) := by decide +kernel
theorem dX6_answerOfReading_46 : decode cX6_answerOfReading 46 = .ok (.aload_n 0, 1) := by decide +kernel
theorem dX6_answerOfReading_47 : decode cX6_answerOfReading 47 = .ok (.getfield 29, 3) := by decide +kernel
theorem dX6_answerOfReading_50 : decode cX6_answerOfReading 50 = .ok (.iload_n 1, 1) := by decide +kernel
theorem dX6_answerOfReading_51 : decode cX6_answerOfReading 51 = .ok (.invokevirtual 261, 3) := by decide +kernel
theorem dX6_answerOfReading_54 : decode cX6_answerOfReading 54 = .ok (.ifCond .eq 7, 3) := by decide +kernel
theorem dX6_answerOfReading_57 : decode cX6_answerOfReading 57 = .ok (.iconst 1, 1) := by decide +kernel
theorem dX6_answerOfReading_58 : decode cX6_answerOfReading 58 = .ok (.goto 4, 3) := by decide +kernel
theorem dX6_answerOfReading_61 : decode cX6_answerOfReading 61 = .ok (.iconst 0, 1) := by decide +kernel
theorem dX6_answerOfReading_62 : decode cX6_answerOfReading 62 = .ok (.ireturn, 1) := by decide +kernel
theorem dX6_answerOfReading_63 : decode cX6_answerOfReading 63 = .ok (.ldc 52, 2) := by decide +kernel
theorem dX6_answerOfReading_65 : decode cX6_answerOfReading 65 = .ok (.ireturn, 1) := by decide +kernel
theorem dX6_areCells_0 : decode cX6_areCells 0 = .ok (.iload_n 0, 1) := by decide +kernel
theorem dX6_areCells_1 : decode cX6_areCells 1 = .ok (.ifCond .lt 14, 3) := by decide +kernel
theorem dX6_areCells_4 : decode cX6_areCells 4 = .ok (.iload_n 0, 1) := by decide +kernel
theorem dX6_areCells_5 : decode cX6_areCells 5 = .ok (.sipush 511, 3) := by decide +kernel
theorem dX6_areCells_8 : decode cX6_areCells 8 = .ok (.if_icmp .gt 7, 3) := by decide +kernel
theorem dX6_areCells_11 : decode cX6_areCells 11 = .ok (.iconst 1, 1) := by decide +kernel
theorem dX6_areCells_12 : decode cX6_areCells 12 = .ok (.goto 4, 3) := by decide +kernel
theorem dX6_areCells_15 : decode cX6_areCells 15 = .ok (.iconst 0, 1) := by decide +kernel
theorem dX6_areCells_16 : decode cX6_areCells 16 = .ok (.ireturn, 1) := by decide +kernel
theorem dX6_hasBit_0 : decode cX6_hasBit 0 = .ok (.iload_n 0, 1) := by decide +kernel
theorem dX6_hasBit_1 : decode cX6_hasBit 1 = .ok (.iload_n 1, 1) := by decide +kernel
theorem dX6_hasBit_2 : decode cX6_hasBit 2 = .ok (.ishr, 1) := by decide +kernel
theorem dX6_hasBit_3 : decode cX6_hasBit 3 = .ok (.iconst 1, 1) := by decide +kernel
theorem dX6_hasBit_4 : decode cX6_hasBit 4 = .ok (.iand, 1) := by decide +kernel
theorem dX6_hasBit_5 : decode cX6_hasBit 5 = .ok (.iconst 1, 1) := by decide +kernel
theorem dX6_hasBit_6 : decode cX6_hasBit 6 = .ok (.if_icmp .ne 7, 3) := by decide +kernel
theorem dX6_hasBit_9 : decode cX6_hasBit 9 = .ok (.iconst 1, 1) := by decide +kernel
theorem dX6_hasBit_10 : decode cX6_hasBit 10 = .ok (.goto 4, 3) := by decide +kernel
theorem dX6_hasBit_13 : decode cX6_hasBit 13 = .ok (.iconst 0, 1) := by decide +kernel
theorem dX6_hasBit_14 : decode cX6_hasBit 14 = .ok (.ireturn, 1) := by decide +kernel
theorem dX6_turned_0 : decode cX6_turned 0 = .ok (.iload_n 0, 1) := by decide +kernel
theorem dX6_turned_1 : decode cX6_turned 1 = .ok (.bipush 73, 2) := by decide +kernel
theorem dX6_turned_3 : decode cX6_turned 3 = .ok (.iand, 1) := by decide +kernel
theorem dX6_turned_4 : decode cX6_turned 4 = .ok (.iconst 2, 1) := by decide +kernel
theorem dX6_turned_5 : decode cX6_turned 5 = .ok (.ishl, 1) := by decide +kernel
theorem dX6_turned_6 : decode cX6_turned 6 = .ok (.iload_n 0, 1) := by decide +kernel
theorem dX6_turned_7 : decode cX6_turned 7 = .ok (.sipush 146, 3) := by decide +kernel
theorem dX6_turned_10 : decode cX6_turned 10 = .ok (.iand, 1) := by decide +kernel
theorem dX6_turned_11 : decode cX6_turned 11 = .ok (.ior, 1) := by decide +kernel
theorem dX6_turned_12 : decode cX6_turned 12 = .ok (.iload_n 0, 1) := by decide +kernel
theorem dX6_turned_13 : decode cX6_turned 13 = .ok (.sipush 292, 3) := by decide +kernel
theorem dX6_turned_16 : decode cX6_turned 16 = .ok (.iand, 1) := by decide +kernel
theorem dX6_turned_17 : decode cX6_turned 17 = .ok (.iconst 2, 1) := by decide +kernel
theorem dX6_turned_18 : decode cX6_turned 18 = .ok (.ishr, 1) := by decide +kernel
theorem dX6_turned_19 : decode cX6_turned 19 = .ok (.ior, 1) := by decide +kernel
theorem dX6_turned_20 : decode cX6_turned 20 = .ok (.ireturn, 1) := by decide +kernel
theorem dX6_isOfKind_0 : decode cX6_isOfKind 0 = .ok (.iload_n 0, 1) := by decide +kernel
theorem dX6_isOfKind_1 : decode cX6_isOfKind 1 = .ok (.iconst 1, 1) := by decide +kernel
theorem dX6_isOfKind_2 : decode cX6_isOfKind 2 = .ok (.if_icmp .eq 13, 3) := by decide +kernel
theorem dX6_isOfKind_5 : decode cX6_isOfKind 5 = .ok (.iload_n 0, 1) := by decide +kernel
theorem dX6_isOfKind_6 : decode cX6_isOfKind 6 = .ok (.iconst 2, 1) := by decide +kernel
theorem dX6_isOfKind_7 : decode cX6_isOfKind 7 = .ok (.if_icmp .eq 8, 3) := by decide +kernel
theorem dX6_isOfKind_10 : decode cX6_isOfKind 10 = .ok (.iload_n 0, 1) := by decide +kernel
theorem dX6_isOfKind_11 : decode cX6_isOfKind 11 = .ok (.iconst 3, 1) := by decide +kernel
theorem dX6_isOfKind_12 : decode cX6_isOfKind 12 = .ok (.if_icmp .ne 7, 3) := by decide +kernel
theorem dX6_isOfKind_15 : decode cX6_isOfKind 15 = .ok (.iconst 1, 1) := by decide +kernel
theorem dX6_isOfKind_16 : decode cX6_isOfKind 16 = .ok (.goto 4, 3) := by decide +kernel
theorem dX6_isOfKind_19 : decode cX6_isOfKind 19 = .ok (.iconst 0, 1) := by decide +kernel
theorem dX6_isOfKind_20 : decode cX6_isOfKind 20 = .ok (.istore_n 2, 1) := by decide +kernel
theorem dX6_isOfKind_21 : decode cX6_isOfKind 21 = .ok (.iload_n 0, 1) := by decide +kernel
theorem dX6_isOfKind_22 : decode cX6_isOfKind 22 = .ok (.iconst 4, 1) := by decide +kernel
theorem dX6_isOfKind_23 : decode cX6_isOfKind 23 = .ok (.if_icmp .eq 8, 3) := by decide +kernel
theorem dX6_isOfKind_26 : decode cX6_isOfKind 26 = .ok (.iload_n 0, 1) := by decide +kernel
theorem dX6_isOfKind_27 : decode cX6_isOfKind 27 = .ok (.iconst 5, 1) := by decide +kernel
theorem dX6_isOfKind_28 : decode cX6_isOfKind 28 = .ok (.if_icmp .ne 7, 3) := by decide +kernel
theorem dX6_isOfKind_31 : decode cX6_isOfKind 31 = .ok (.iconst 1, 1) := by decide +kernel
theorem dX6_isOfKind_32 : decode cX6_isOfKind 32 = .ok (.goto 4, 3) := by decide +kernel
theorem dX6_isOfKind_35 : decode cX6_isOfKind 35 = .ok (.iconst 0, 1) := by decide +kernel
theorem dX6_isOfKind_36 : decode cX6_isOfKind 36 = .ok (.istore_n 3, 1) := by decide +kernel
theorem dX6_isOfKind_37 : decode cX6_isOfKind 37 = .ok (.iload_n 1, 1) := by decide +kernel
theorem dX6_isOfKind_38 : decode cX6_isOfKind 38 = .ok (.ifCond .eq 26, 3) := by decide +kernel
theorem dX6_isOfKind_41 : decode cX6_isOfKind 41 = .ok (.iload_n 1, 1) := by decide +kernel
theorem dX6_isOfKind_42 : decode cX6_isOfKind 42 = .ok (.iload_n 0, 1) := by decide +kernel
theorem dX6_isOfKind_43 : decode cX6_isOfKind 43 = .ok (.if_icmp .eq 21, 3) := by decide +kernel
theorem dX6_isOfKind_46 : decode cX6_isOfKind 46 = .ok (.iload_n 1, 1) := by decide +kernel
theorem dX6_isOfKind_47 : decode cX6_isOfKind 47 = .ok (.iconst 1, 1) := by decide +kernel
theorem dX6_isOfKind_48 : decode cX6_isOfKind 48 = .ok (.if_icmp .ne 7, 3) := by decide +kernel
theorem dX6_isOfKind_51 : decode cX6_isOfKind 51 = .ok (.iload_n 2, 1) := by decide +kernel
theorem dX6_isOfKind_52 : decode cX6_isOfKind 52 = .ok (.ifCond .ne 12, 3) := by decide +kernel
theorem dX6_isOfKind_55 : decode cX6_isOfKind 55 = .ok (.iload_n 1, 1) := by decide +kernel
theorem dX6_isOfKind_56 : decode cX6_isOfKind 56 = .ok (.iconst 4, 1) := by decide +kernel
theorem dX6_isOfKind_57 : decode cX6_isOfKind 57 = .ok (.if_icmp .ne 11, 3) := by decide +kernel
theorem dX6_isOfKind_60 : decode cX6_isOfKind 60 = .ok (.iload_n 3, 1) := by decide +kernel
theorem dX6_isOfKind_61 : decode cX6_isOfKind 61 = .ok (.ifCond .eq 7, 3) := by decide +kernel
theorem dX6_isOfKind_64 : decode cX6_isOfKind 64 = .ok (.iconst 1, 1) := by decide +kernel
theorem dX6_isOfKind_65 : decode cX6_isOfKind 65 = .ok (.goto 4, 3) := by decide +kernel
theorem dX6_isOfKind_68 : decode cX6_isOfKind 68 = .ok (.iconst 0, 1) := by decide +kernel
theorem dX6_isOfKind_69 : decode cX6_isOfKind 69 = .ok (.ireturn, 1) := by decide +kernel
theorem dX6_itemOf_0 : decode cX6_itemOf 0 = .ok (.aload_n 0, 1) := by decide +kernel
theorem dX6_itemOf_1 : decode cX6_itemOf 1 = .ok (.ifnull 19, 3) := by decide +kernel
theorem dX6_itemOf_4 : decode cX6_itemOf 4 = .ok (.iload_n 1, 1) := by decide +kernel
theorem dX6_itemOf_5 : decode cX6_itemOf 5 = .ok (.ifCond .lt 15, 3) := by decide +kernel
theorem dX6_itemOf_8 : decode cX6_itemOf 8 = .ok (.iload_n 1, 1) := by decide +kernel
theorem dX6_itemOf_9 : decode cX6_itemOf 9 = .ok (.aload_n 0, 1) := by decide +kernel
theorem dX6_itemOf_10 : decode cX6_itemOf 10 = .ok (.arraylength, 1) := by decide +kernel
theorem dX6_itemOf_11 : decode cX6_itemOf 11 = .ok (.if_icmp .ge 9, 3) := by decide +kernel
theorem dX6_itemOf_14 : decode cX6_itemOf 14 = .ok (.aload_n 0, 1) := by decide +kernel
theorem dX6_itemOf_15 : decode cX6_itemOf 15 = .ok (.iload_n 1, 1) := by decide +kernel
theorem dX6_itemOf_16 : decode cX6_itemOf 16 = .ok (.iaload, 1) := by decide +kernel
theorem dX6_itemOf_17 : decode cX6_itemOf 17 = .ok (.goto 4, 3) := by decide +kernel
theorem dX6_itemOf_20 : decode cX6_itemOf 20 = .ok (.iconst 0, 1) := by decide +kernel
theorem dX6_itemOf_21 : decode cX6_itemOf 21 = .ok (.ireturn, 1) := by decide +kernel
theorem dX6_putItem_0 : decode cX6_putItem 0 = .ok (.aload_n 0, 1) := by decide +kernel
theorem dX6_putItem_1 : decode cX6_putItem 1 = .ok (.ifnull 17, 3) := by decide +kernel
theorem dX6_putItem_4 : decode cX6_putItem 4 = .ok (.iload_n 1, 1) := by decide +kernel
theorem dX6_putItem_5 : decode cX6_putItem 5 = .ok (.ifCond .lt 13, 3) := by decide +kernel
theorem dX6_putItem_8 : decode cX6_putItem 8 = .ok (.iload_n 1, 1) := by decide +kernel
theorem dX6_putItem_9 : decode cX6_putItem 9 = .ok (.aload_n 0, 1) := by decide +kernel
theorem dX6_putItem_10 : decode cX6_putItem 10 = .ok (.arraylength, 1) := by decide +kernel
theorem dX6_putItem_11 : decode cX6_putItem 11 = .ok (.if_icmp .ge 7, 3) := by decide +kernel
theorem dX6_putItem_14 : decode cX6_putItem 14 = .ok (.aload_n 0, 1) := by decide +kernel
theorem dX6_putItem_15 : decode cX6_putItem 15 = .ok (.iload_n 1, 1) := by decide +kernel
theorem dX6_putItem_16 : decode cX6_putItem 16 = .ok (.iload_n 2, 1) := by decide +kernel
theorem dX6_putItem_17 : decode cX6_putItem 17 = .ok (.iastore, 1) := by decide +kernel
theorem dX6_putItem_18 : decode cX6_putItem 18 = .ok (.return_, 1) := by decide +kernel
theorem dX6_copyItems_0 : decode cX6_copyItems 0 = .ok (.aload_n 0, 1) := by decide +kernel
theorem dX6_copyItems_1 : decode cX6_copyItems 1 = .ok (.ifnull 20, 3) := by decide +kernel
theorem dX6_copyItems_4 : decode cX6_copyItems 4 = .ok (.aload_n 2, 1) := by decide +kernel
theorem dX6_copyItems_5 : decode cX6_copyItems 5 = .ok (.ifnull 16, 3) := by decide +kernel
theorem dX6_copyItems_8 : decode cX6_copyItems 8 = .ok (.iload_n 1, 1) := by decide +kernel
theorem dX6_copyItems_9 : decode cX6_copyItems 9 = .ok (.ifCond .lt 12, 3) := by decide +kernel
theorem dX6_copyItems_12 : decode cX6_copyItems 12 = .ok (.iload_n 3, 1) := by decide +kernel
theorem dX6_copyItems_13 : decode cX6_copyItems 13 = .ok (.ifCond .lt 8, 3) := by decide +kernel
theorem dX6_copyItems_16 : decode cX6_copyItems 16 = .ok (.iload 4, 2) := by decide +kernel
theorem dX6_copyItems_18 : decode cX6_copyItems 18 = .ok (.ifCond .ge 4, 3) := by decide +kernel
theorem dX6_copyItems_21 : decode cX6_copyItems 21 = .ok (.return_, 1) := by decide +kernel
theorem dX6_copyItems_22 : decode cX6_copyItems 22 = .ok (.iload 4, 2) := by decide +kernel
theorem dX6_copyItems_24 : decode cX6_copyItems 24 = .ok (.aload_n 0, 1) := by decide +kernel
theorem dX6_copyItems_25 : decode cX6_copyItems 25 = .ok (.arraylength, 1) := by decide +kernel
theorem dX6_copyItems_26 : decode cX6_copyItems 26 = .ok (.iload_n 1, 1) := by decide +kernel
theorem dX6_copyItems_27 : decode cX6_copyItems 27 = .ok (.isub, 1) := by decide +kernel
theorem dX6_copyItems_28 : decode cX6_copyItems 28 = .ok (.if_icmp .gt 21, 3) := by decide +kernel
theorem dX6_copyItems_31 : decode cX6_copyItems 31 = .ok (.iload 4, 2) := by decide +kernel
theorem dX6_copyItems_33 : decode cX6_copyItems 33 = .ok (.aload_n 2, 1) := by decide +kernel
theorem dX6_copyItems_34 : decode cX6_copyItems 34 = .ok (.arraylength, 1) := by decide +kernel
theorem dX6_copyItems_35 : decode cX6_copyItems 35 = .ok (.iload_n 3, 1) := by decide +kernel
theorem dX6_copyItems_36 : decode cX6_copyItems 36 = .ok (.isub, 1) := by decide +kernel
theorem dX6_copyItems_37 : decode cX6_copyItems 37 = .ok (.if_icmp .gt 12, 3) := by decide +kernel
theorem dX6_copyItems_40 : decode cX6_copyItems 40 = .ok (.aload_n 0, 1) := by decide +kernel
theorem dX6_copyItems_41 : decode cX6_copyItems 41 = .ok (.iload_n 1, 1) := by decide +kernel
theorem dX6_copyItems_42 : decode cX6_copyItems 42 = .ok (.aload_n 2, 1) := by decide +kernel
theorem dX6_copyItems_43 : decode cX6_copyItems 43 = .ok (.iload_n 3, 1) := by decide +kernel
theorem dX6_copyItems_44 : decode cX6_copyItems 44 = .ok (.iload 4, 2) := by decide +kernel
theorem dX6_copyItems_46 : decode cX6_copyItems 46 = .ok (.invokestatic 264, 3) := by decide +kernel
theorem dX6_copyItems_49 : decode cX6_copyItems 49 = .ok (.return_, 1) := by decide +kernel
theorem dX7_init_0 : decode cX7_init 0 = .ok (.aload_n 0, 1) := by decide +kernel
theorem dX7_init_1 : decode cX7_init 1 = .ok (.invokespecial 1, 3) := by decide +kernel
theorem dX7_init_4 : decode cX7_init 4 = .ok (.aload_n 0, 1) := by decide +kernel
theorem dX7_init_5 : decode cX7_init 5 = .ok (.bipush 8, 2) := by decide +kernel
theorem dX7_init_7 : decode cX7_init 7 = .ok (.newarray .int, 2) := by decide +kernel
theorem dX7_init_9 : decode cX7_init 9 = .ok (.dup, 1) := by decide +kernel
theorem dX7_init_10 : decode cX7_init 10 = .ok (.iconst 0, 1) := by decide +kernel
theorem dX7_init_11 : decode cX7_init 11 = .ok (.iconst (-1), 1) := by decide +kernel
theorem dX7_init_12 : decode cX7_init 12 = .ok (.iastore, 1) := by decide +kernel
theorem dX7_init_13 : decode cX7_init 13 = .ok (.dup, 1) := by decide +kernel
theorem dX7_init_14 : decode cX7_init 14 = .ok (.iconst 1, 1) := by decide +kernel
theorem dX7_init_15 : decode cX7_init 15 = .ok (.iconst (-1), 1) := by decide +kernel
theorem dX7_init_16 : decode cX7_init 16 = .ok (.iastore, 1) := by decide +kernel
theorem dX7_init_17 : decode cX7_init 17 = .ok (.dup, 1) := by decide +kernel
theorem dX7_init_18 : decode cX7_init 18 = .ok (.iconst 2, 1) := by decide +kernel
theorem dX7_init_19 : decode cX7_init 19 = .ok (.iconst (-1), 1) := by decide +kernel
theorem dX7_init_20 : decode cX7_init 20 = .ok (.iastore, 1) := by decide +kernel
theorem dX7_init_21 : decode cX7_init 21 = .ok (.dup, 1) := by decide +kernel
theorem dX7_init_22 : decode cX7_init 22 = .ok (.iconst 3, 1) := by decide +kernel
theorem dX7_init_23 : decode cX7_init 23 = .ok (.iconst (-1), 1) := by decide +kernel
theorem dX7_init_24 : decode cX7_init 24 = .ok (.iastore, 1) := by decide +kernel
theorem dX7_init_25 : decode cX7_init 25 = .ok (.dup, 1) := by decide +kernel
theorem dX7_init_26 : decode cX7_init 26 = .ok (.iconst 4, 1) := by decide +kernel
theorem dX7_init_27 : decode cX7_init 27 = .ok (.iconst (-1), 1) := by decide +kernel
theorem dX7_init_28 : decode cX7_init 28 = .ok (.iastore, 1) := by decide +kernel
theorem dX7_init_29 : decode cX7_init 29 = .ok (.dup, 1) := by decide +kernel
theorem dX7_init_30 : decode cX7_init 30 = .ok (.iconst 5, 1) := by decide +kernel
theorem dX7_init_31 : decode cX7_init 31 = .ok (.iconst (-1), 1) := by decide +kernel
theorem dX7_init_32 : decode cX7_init 32 = .ok (.iastore, 1) := by decide +kernel
theorem dX7_init_33 : decode cX7_init 33 = .ok (.dup, 1) := by decide +kernel
theorem dX7_init_34 : decode cX7_init 34 = .ok (.bipush 6, 2) := by decide +kernel
theorem dX7_init_36 : decode cX7_init 36 = .ok (.iconst (-1), 1) := by decide +kernel
theorem dX7_init_37 : decode cX7_init 37 = .ok (.iastore, 1) := by decide +kernel
theorem dX7_init_38 : decode cX7_init 38 = .ok (.dup, 1) := by decide +kernel
theorem dX7_init_39 : decode cX7_init 39 = .ok (.bipush 7, 2) := by decide +kernel
theorem dX7_init_41 : decode cX7_init 41 = .ok (.iconst (-1), 1) := by decide +kernel
theorem dX7_init_42 : decode cX7_init 42 = .ok (.iastore, 1) := by decide +kernel
theorem dX7_init_43 : decode cX7_init 43 = .ok (.putfield 7, 3) := by decide +kernel
theorem dX7_init_46 : decode cX7_init 46 = .ok (.aload_n 0, 1) := by decide +kernel
theorem dX7_init_47 : decode cX7_init 47 = .ok (.bipush 8, 2) := by decide +kernel
theorem dX7_init_49 : decode cX7_init 49 = .ok (.newarray .int, 2) := by decide +kernel
theorem dX7_init_51 : decode cX7_init 51 = .ok (.putfield 13, 3) := by decide +kernel
theorem dX7_init_54 : decode cX7_init 54 = .ok (.aload_n 0, 1) := by decide +kernel
theorem dX7_init_55 : decode cX7_init 55 = .ok (.sipush 320, 3) := by decide +kernel
theorem dX7_init_58 : decode cX7_init 58 = .ok (.newarray .int, 2) := by decide +kernel
theorem dX7_init_60 : decode cX7_init 60 = .ok (.putfield 16, 3) := by decide +kernel
theorem dX7_init_63 : decode cX7_init 63 = .ok (.aload_n 0, 1) := by decide +kernel
theorem dX7_init_64 : decode cX7_init 64 = .ok (.bipush 37, 2) := by decide +kernel
theorem dX7_init_66 : decode cX7_init 66 = .ok (.newarray .int, 2) := by decide +kernel
theorem dX7_init_68 : decode cX7_init 68 = .ok (.putfield 19, 3) := by decide +kernel
theorem dX7_init_71 : decode cX7_init 71 = .ok (.aload_n 0, 1) := by decide +kernel
theorem dX7_init_72 : decode cX7_init 72 = .ok (.bipush 37, 2) := by decide +kernel
theorem dX7_init_74 : decode cX7_init 74 = .ok (.newarray .int, 2) := by decide +kernel
theorem dX7_init_76 : decode cX7_init 76 = .ok (.putfield 22, 3) := by decide +kernel
theorem dX7_init_79 : decode cX7_init 79 = .ok (.aload_n 0, 1) := by decide +kernel
theorem dX7_init_80 : decode cX7_init 80 = .ok (.sipush 888, 3) := by decide +kernel
theorem dX7_init_83 : decode cX7_init 83 = .ok (.newarray .int, 2) := by decide +kernel
theorem dX7_init_85 : decode cX7_init 85 = .ok (.putfield 25, 3) := by decide +kernel
theorem dX7_init_88 : decode cX7_init 88 = .ok (.aload_n 0, 1) := by decide +kernel
theorem dX7_init_89 : decode cX7_init 89 = .ok (.sipush 400, 3) := by decide +kernel
theorem dX7_init_92 : decode cX7_init 92 = .ok (.newarray .int, 2) := by decide +kernel
theorem dX7_init_94 : decode cX7_init 94 = .ok (.putfield 28, 3) := by decide +kernel
theorem dX7_init_97 : decode cX7_init 97 = .ok (.aload_n 0, 1) := by decide +kernel
theorem dX7_init_98 : decode cX7_init 98 = .ok (.iconst 2, 1) := by decide +kernel
theorem dX7_init_99 : decode cX7_init 99 = .ok (.newarray .boolean, 2) := by decide +kernel
theorem dX7_init_101 : decode cX7_init 101 = .ok (.putfield 31, 3) := by decide +kernel
theorem dX7_init_104 : decode cX7_init 104 = .ok (.aload_n 0, 1) := by decide +kernel
theorem dX7_init_105 : decode cX7_init 105 = .ok (.bipush 74, 2) := by decide +kernel
theorem dX7_init_107 : decode cX7_init 107 = .ok (.newarray .int, 2) := by decide +kernel
theorem dX7_init_109 : decode cX7_init 109 = .ok (.putfield 35, 3) := by decide +kernel
theorem dX7_init_112 : decode cX7_init 112 = .ok (.aload_n 0, 1) := by decide +kernel
theorem dX7_init_113 : decode cX7_init 113 = .ok (.bipush 16, 2) := by decide +kernel
theorem dX7_init_115 : decode cX7_init 115 = .ok (.newarray .int, 2) := by decide +kernel
theorem dX7_init_117 : decode cX7_init 117 = .ok (.putfield 38, 3) := by decide +kernel
theorem dX7_init_120 : decode cX7_init 120 = .ok (.return_, 1) := by decide +kernel
theorem dX7_in_0 : decode cX7_in 0 = .ok (.lload_n 0, 1) := by decide +kernel
theorem dX7_in_1 : decode cX7_in 1 = .ok (.lload_n 2, 1) := by decide +kernel
theorem dX7_in_2 : decode cX7_in 2 = .ok (.lcmp, 1) := by decide +kernel
theorem dX7_in_3 : decode cX7_in 3 = .ok (.ifCond .lt 14, 3) := by decide +kernel
theorem dX7_in_6 : decode cX7_in 6 = .ok (.lload_n 0, 1) := by decide +kernel
theorem dX7_in_7 : decode cX7_in 7 = .ok (.lload 4, 2) := by decide +kernel
theorem dX7_in_9 : decode cX7_in 9 = .ok (.lcmp, 1) := by decide +kernel
theorem dX7_in_10 : decode cX7_in 10 = .ok (.ifCond .gt 7, 3) := by decide +kernel
theorem dX7_in_13 : decode cX7_in 13 = .ok (.iconst 1, 1) := by decide +kernel
theorem dX7_in_14 : decode cX7_in 14 = .ok (.goto 4, 3) := by decide +kernel
theorem dX7_in_17 : decode cX7_in 17 = .ok (.iconst 0, 1) := by decide +kernel
theorem dX7_in_18 : decode cX7_in 18 = .ok (.ireturn, 1) := by decide +kernel
theorem dX7_finding_0 : decode cX7_finding 0 = .ok (.aload_n 0, 1) := by decide +kernel
theorem dX7_finding_1 : decode cX7_finding 1 = .ok (.iload_n 1, 1) := by decide +kernel
theorem dX7_finding_2 : decode cX7_finding 2 = .ok (.putfield 45, 3) := by decide +kernel
theorem dX7_finding_5 : decode cX7_finding 5 = .ok (.ldc 48, 2) := by decide +kernel
theorem dX7_finding_7 : decode cX7_finding 7 = .ok (.iload_n 1, 1) := by decide +kernel
theorem dX7_finding_8 : decode cX7_finding 8 = .ok (.isub, 1) := by decide +kernel
theorem dX7_finding_9 : decode cX7_finding 9 = .ok (.ireturn, 1) := by decide +kernel
theorem dX7_isRow_0 : decode cX7_isRow 0 = .ok (.iload_n 0, 1) := by decide +kernel
theorem dX7_isRow_1 : decode cX7_isRow 1 = .ok (.i2l, 1) := by decide +kernel
theorem dX7_isRow_2 : decode cX7_isRow 2 = .ok (.lconst 0, 1) := by decide +kernel
theorem dX7_isRow_3 : decode cX7_isRow 3 = .ok (.ldc2_w 49, 3) := by decide +kernel
theorem dX7_isRow_6 : decode cX7_isRow 6 = .ok (.invokestatic 51, 3) := by decide +kernel
theorem dX7_isRow_9 : decode cX7_isRow 9 = .ok (.ireturn, 1) := by decide +kernel
theorem dX7_row_0 : decode cX7_row 0 = .ok (.aload_n 0, 1) := by decide +kernel
theorem dX7_row_1 : decode cX7_row 1 = .ok (.iconst 0, 1) := by decide +kernel
theorem dX7_row_2 : decode cX7_row 2 = .ok (.putfield 41, 3) := by decide +kernel
theorem dX7_row_5 : decode cX7_row 5 = .ok (.iload_n 1, 1) := by decide +kernel
theorem dX7_row_6 : decode cX7_row 6 = .ok (.invokestatic 55, 3) := by decide +kernel
theorem dX7_row_9 : decode cX7_row 9 = .ok (.ifCond .eq 21, 3) := by decide +kernel
theorem dX7_row_12 : decode cX7_row 12 = .ok (.iload_n 2, 1) := by decide +kernel
theorem dX7_row_13 : decode cX7_row 13 = .ok (.i2l, 1) := by decide +kernel
theorem dX7_row_14 : decode cX7_row 14 = .ok (.lconst 0, 1) := by decide +kernel
theorem dX7_row_15 : decode cX7_row 15 = .ok (.ldc2_w 59, 3) := by decide +kernel
theorem dX7_row_18 : decode cX7_row 18 = .ok (.invokestatic 51, 3) := by decide +kernel
theorem dX7_row_21 : decode cX7_row 21 = .ok (.ifCond .eq 9, 3) := by decide +kernel
theorem dX7_row_24 : decode cX7_row 24 = .ok (.iload_n 3, 1) := by decide +kernel
theorem dX7_row_25 : decode cX7_row 25 = .ok (.bipush 40, 2) := by decide +kernel
theorem dX7_row_27 : decode cX7_row 27 = .ok (.if_icmp .le 6, 3) := by decide +kernel
theorem dX7_row_30 : decode cX7_row 30 = .ok (.ldc 61, 2) := by decide +kernel
theorem dX7_row_32 : decode cX7_row 32 = .ok (.ireturn, 1) := by decide +kernel
theorem dX7_row_33 : decode cX7_row 33 = .ok (.aload_n 0, 1) := by decide +kernel
theorem dX7_row_34 : decode cX7_row 34 = .ok (.iconst 0, 1) := by decide +kernel
theorem dX7_row_35 : decode cX7_row 35 = .ok (.putfield 45, 3) := by decide +kernel
theorem dX7_row_38 : decode cX7_row 38 = .ok (.iload_n 3, 1) := by decide +kernel
theorem dX7_row_39 : decode cX7_row 39 = .ok (.ifCond .ge 9, 3) := by decide +kernel
theorem dX7_row_42 : decode cX7_row 42 = .ok (.aload_n 0, 1) := by decide +kernel
theorem dX7_row_43 : decode cX7_row 43 = .ok (.iconst 4, 1) := by decide +kernel
theorem dX7_row_44 : decode cX7_row 44 = .ok (.invokevirtual 62, 3) := by decide +kernel
theorem dX7_row_47 : decode cX7_row 47 = .ok (.ireturn, 1) := by decide +kernel
theorem dX7_row_48 : decode cX7_row 48 = .ok (.aload_n 0, 1) := by decide +kernel
theorem dX7_row_49 : decode cX7_row 49 = .ok (.getfield 7, 3) := by decide +kernel
theorem dX7_row_52 : decode cX7_row 52 = .ok (.iload_n 1, 1) := by decide +kernel
theorem dX7_row_53 : decode cX7_row 53 = .ok (.iload_n 2, 1) := by decide +kernel
theorem dX7_row_54 : decode cX7_row 54 = .ok (.iastore, 1) := by decide +kernel
theorem dX7_row_55 : decode cX7_row 55 = .ok (.aload_n 0, 1) := by decide +kernel
theorem dX7_row_56 : decode cX7_row 56 = .ok (.getfield 13, 3) := by decide +kernel
theorem dX7_row_59 : decode cX7_row 59 = .ok (.iload_n 1, 1) := by decide +kernel
theorem dX7_row_60 : decode cX7_row 60 = .ok (.iload_n 3, 1) := by decide +kernel
theorem dX7_row_61 : decode cX7_row 61 = .ok (.iastore, 1) := by decide +kernel
theorem dX7_row_62 : decode cX7_row 62 = .ok (.iconst 0, 1) := by decide +kernel
theorem dX7_row_63 : decode cX7_row 63 = .ok (.istore 4, 2) := by decide +kernel
theorem dX7_row_65 : decode cX7_row 65 = .ok (.iload 4, 2) := by decide +kernel
theorem dX7_row_67 : decode cX7_row 67 = .ok (.bipush 40, 2) := by decide +kernel
theorem dX7_row_69 : decode cX7_row 69 = .ok (.if_icmp .ge 22, 3) := by decide +kernel
theorem dX7_row_72 : decode cX7_row 72 = .ok (.aload_n 0, 1) := by decide +kernel
theorem dX7_row_73 : decode cX7_row 73 = .ok (.getfield 16, 3) := by decide +kernel
theorem dX7_row_76 : decode cX7_row 76 = .ok (.bipush 40, 2) := by decide +kernel
theorem dX7_row_78 : decode cX7_row 78 = .ok (.iload_n 1, 1) := by decide +kernel
theorem dX7_row_79 : decode cX7_row 79 = .ok (.imul, 1) := by decide +kernel
theorem dX7_row_80 : decode cX7_row 80 = .ok (.iload 4, 2) := by decide +kernel
theorem dX7_row_82 : decode cX7_row 82 = .ok (.iadd, 1) := by decide +kernel
theorem dX7_row_83 : decode cX7_row 83 = .ok (.iconst 0, 1) := by decide +kernel
theorem dX7_row_84 : decode cX7_row 84 = .ok (.iastore, 1) := by decide +kernel
theorem dX7_row_85 : decode cX7_row 85 = .ok (.iinc 4 1, 3) := by decide +kernel
theorem dX7_row_88 : decode cX7_row 88 = .ok (.goto (-23), 3) := by decide +kernel
theorem dX7_row_91 : decode cX7_row 91 = .ok (.iload_n 3, 1) := by decide +kernel
theorem dX7_row_92 : decode cX7_row 92 = .ok (.ireturn, 1) := by decide +kernel
theorem dX7_set_0 : decode cX7_set 0 = .ok (.aload_n 0, 1) := by decide +kernel
theorem dX7_set_1 : decode cX7_set 1 = .ok (.iconst 0, 1) := by decide +kernel
theorem dX7_set_2 : decode cX7_set 2 = .ok (.putfield 41, 3) := by decide +kernel
theorem dX7_set_5 : decode cX7_set 5 = .ok (.iload_n 1, 1) := by decide +kernel
theorem dX7_set_6 : decode cX7_set 6 = .ok (.invokestatic 55, 3) := by decide +kernel
theorem dX7_set_9 : decode cX7_set 9 = .ok (.ifCond .ne 6, 3) := by decide +kernel
theorem dX7_set_12 : decode cX7_set 12 = .ok (.ldc 61, 2) := by decide +kernel
theorem dX7_set_14 : decode cX7_set 14 = .ok (.ireturn, 1) := by decide +kernel
theorem dX7_set_15 : decode cX7_set 15 = .ok (.aload_n 0, 1) := by decide +kernel
theorem dX7_set_16 : decode cX7_set 16 = .ok (.iconst 0, 1) := by decide +kernel
theorem dX7_set_17 : decode cX7_set 17 = .ok (.putfield 45, 3) := by decide +kernel
theorem dX7_set_20 : decode cX7_set 20 = .ok (.aload_n 0, 1) := by decide +kernel
theorem dX7_set_21 : decode cX7_set 21 = .ok (.getfield 7, 3) := by decide +kernel
theorem dX7_set_24 : decode cX7_set 24 = .ok (.iload_n 1, 1) := by decide +kernel
theorem dX7_set_25 : decode cX7_set 25 = .ok (.iaload, 1) := by decide +kernel
theorem dX7_set_26 : decode cX7_set 26 = .ok (.ifCond .ge 9, 3) := by decide +kernel
theorem dX7_set_29 : decode cX7_set 29 = .ok (.aload_n 0, 1) := by decide +kernel
theorem dX7_set_30 : decode cX7_set 30 = .ok (.iconst 1, 1) := by decide +kernel
theorem dX7_set_31 : decode cX7_set 31 = .ok (.invokevirtual 62, 3) := by decide +kernel
theorem dX7_set_34 : decode cX7_set 34 = .ok (.ireturn, 1) := by decide +kernel
theorem dX7_set_35 : decode cX7_set 35 = .ok (.iload_n 2, 1) := by decide +kernel
theorem dX7_set_36 : decode cX7_set 36 = .ok (.i2l, 1) := by decide +kernel
theorem dX7_set_37 : decode cX7_set 37 = .ok (.lconst 0, 1) := by decide +kernel
theorem dX7_set_38 : decode cX7_set 38 = .ok (.aload_n 0, 1) := by decide +kernel
theorem dX7_set_39 : decode cX7_set 39 = .ok (.getfield 13, 3) := by decide +kernel
theorem dX7_set_42 : decode cX7_set 42 = .ok (.iload_n 1, 1) := by decide +kernel
theorem dX7_set_43 : decode cX7_set 43 = .ok (.iaload, 1) := by decide +kernel
theorem dX7_set_44 : decode cX7_set 44 = .ok (.iconst 1, 1) := by decide +kernel
theorem dX7_set_45 : decode cX7_set 45 = .ok (.isub, 1) := by decide +kernel
theorem dX7_set_46 : decode cX7_set 46 = .ok (.i2l, 1) := by decide +kernel
theorem dX7_set_47 : decode cX7_set 47 = .ok (.invokestatic 51, 3) := by decide +kernel
theorem dX7_set_50 : decode cX7_set 50 = .ok (.ifCond .ne 9, 3) := by decide +kernel
theorem dX7_set_53 : decode cX7_set 53 = .ok (.aload_n 0, 1) := by decide +kernel
theorem dX7_set_54 : decode cX7_set 54 = .ok (.iconst 2, 1) := by decide +kernel
theorem dX7_set_55 : decode cX7_set 55 = .ok (.invokevirtual 62, 3) := by decide +kernel
theorem dX7_set_58 : decode cX7_set 58 = .ok (.ireturn, 1) := by decide +kernel
theorem dX7_set_59 : decode cX7_set 59 = .ok (.aload_n 0, 1) := by decide +kernel
theorem dX7_set_60 : decode cX7_set 60 = .ok (.getfield 16, 3) := by decide +kernel
theorem dX7_set_63 : decode cX7_set 63 = .ok (.bipush 40, 2) := by decide +kernel
theorem dX7_set_65 : decode cX7_set 65 = .ok (.iload_n 1, 1) := by decide +kernel
theorem dX7_set_66 : decode cX7_set 66 = .ok (.imul, 1) := by decide +kernel
theorem dX7_set_67 : decode cX7_set 67 = .ok (.iload_n 2, 1) := by decide +kernel
theorem dX7_set_68 : decode cX7_set 68 = .ok (.iadd, 1) := by decide +kernel
theorem dX7_set_69 : decode cX7_set 69 = .ok (.aload_n 0, 1) := by decide +kernel
theorem dX7_set_70 : decode cX7_set 70 = .ok (.getfield 7, 3) := by decide +kernel
theorem dX7_set_73 : decode cX7_set 73 = .ok (.iload_n 1, 1) := by decide +kernel
theorem dX7_set_74 : decode cX7_set 74 = .ok (.iaload, 1) := by decide +kernel
theorem dX7_set_75 : decode cX7_set 75 = .ok (.ifCond .ne 8, 3) := by decide +kernel
theorem dX7_set_78 : decode cX7_set 78 = .ok (.iload_n 3, 1) := by decide +kernel
theorem dX7_set_79 : decode cX7_set 79 = .ok (.i2b, 1) := by decide +kernel
theorem dX7_set_80 : decode cX7_set 80 = .ok (.goto 19, 3) := by decide +kernel
theorem dX7_set_83 : decode cX7_set 83 = .ok (.aload_n 0, 1) := by decide +kernel
theorem dX7_set_84 : decode cX7_set 84 = .ok (.getfield 7, 3) := by decide +kernel
theorem dX7_set_87 : decode cX7_set 87 = .ok (.iload_n 1, 1) := by decide +kernel
theorem dX7_set_88 : decode cX7_set 88 = .ok (.iaload, 1) := by decide +kernel
theorem dX7_set_89 : decode cX7_set 89 = .ok (.iconst 1, 1) := by decide +kernel
theorem dX7_set_90 : decode cX7_set 90 = .ok (.if_icmp .ne 8, 3) := by decide +kernel
theorem dX7_set_93 : decode cX7_set 93 = .ok (.iload_n 3, 1) := by decide +kernel
theorem dX7_set_94 : decode cX7_set 94 = .ok (.i2s, 1) := by decide +kernel
theorem dX7_set_95 : decode cX7_set 95 = .ok (.goto 4, 3) := by decide +kernel
theorem dX7_set_98 : decode cX7_set 98 = .ok (.iload_n 3, 1) := by decide +kernel
theorem dX7_set_99 : decode cX7_set 99 = .ok (.iastore, 1) := by decide +kernel
theorem dX7_set_100 : decode cX7_set 100 = .ok (.aload_n 0, 1) := by decide +kernel
theorem dX7_set_101 : decode cX7_set 101 = .ok (.getfield 16, 3) := by decide +kernel
theorem dX7_set_104 : decode cX7_set 104 = .ok (.bipush 40, 2) := by decide +kernel
theorem dX7_set_106 : decode cX7_set 106 = .ok (.iload_n 1, 1) := by decide +kernel
theorem dX7_set_107 : decode cX7_set 107 = .ok (.imul, 1) := by decide +kernel
theorem dX7_set_108 : decode cX7_set 108 = .ok (.iload_n 2, 1) := by decide +kernel
theorem dX7_set_109 : decode cX7_set 109 = .ok (.iadd, 1) := by decide +kernel
theorem dX7_set_110 : decode cX7_set 110 = .ok (.iaload, 1) := by decide +kernel
theorem dX7_set_111 : decode cX7_set 111 = .ok (.ireturn, 1) := by decide +kernel
theorem dX7_copy_0 : decode cX7_copy 0 = .ok (.aload_n 0, 1) := by decide +kernel
theorem dX7_copy_1 : decode cX7_copy 1 = .ok (.iconst 0, 1) := by decide +kernel
theorem dX7_copy_2 : decode cX7_copy 2 = .ok (.putfield 41, 3) := by decide +kernel
theorem dX7_copy_5 : decode cX7_copy 5 = .ok (.iload_n 1, 1) := by decide +kernel
theorem dX7_copy_6 : decode cX7_copy 6 = .ok (.invokestatic 55, 3) := by decide +kernel
theorem dX7_copy_9 : decode cX7_copy 9 = .ok (.ifCond .eq 10, 3) := by decide +kernel
theorem dX7_copy_12 : decode cX7_copy 12 = .ok (.iload_n 3, 1) := by decide +kernel
theorem dX7_copy_13 : decode cX7_copy 13 = .ok (.invokestatic 55, 3) := by decide +kernel
theorem dX7_copy_16 : decode cX7_copy 16 = .ok (.ifCond .ne 6, 3) := by decide +kernel
theorem dX7_copy_19 : decode cX7_copy 19 = .ok (.ldc 61, 2) := by decide +kernel
theorem dX7_copy_21 : decode cX7_copy 21 = .ok (.ireturn, 1) := by decide +kernel
theorem dX7_copy_22 : decode cX7_copy 22 = .ok (.aload_n 0, 1) := by decide +kernel
theorem dX7_copy_23 : decode cX7_copy 23 = .ok (.iconst 0, 1) := by decide +kernel
theorem dX7_copy_24 : decode cX7_copy 24 = .ok (.putfield 45, 3) := by decide +kernel
theorem dX7_copy_27 : decode cX7_copy 27 = .ok (.aload_n 0, 1) := by decide +kernel
theorem dX7_copy_28 : decode cX7_copy 28 = .ok (.getfield 7, 3) := by decide +kernel
theorem dX7_copy_31 : decode cX7_copy 31 = .ok (.iload_n 1, 1) := by decide +kernel
theorem dX7_copy_32 : decode cX7_copy 32 = .ok (.iaload, 1) := by decide +kernel
theorem dX7_copy_33 : decode cX7_copy 33 = .ok (.ifCond .lt 12, 3) := by decide +kernel
theorem dX7_copy_36 : decode cX7_copy 36 = .ok (.aload_n 0, 1) := by decide +kernel
theorem dX7_copy_37 : decode cX7_copy 37 = .ok (.getfield 7, 3) := by decide +kernel
theorem dX7_copy_40 : decode cX7_copy 40 = .ok (.iload_n 3, 1) := by decide +kernel
theorem dX7_copy_41 : decode cX7_copy 41 = .ok (.iaload, 1) := by decide +kernel
theorem dX7_copy_42 : decode cX7_copy 42 = .ok (.ifCond .ge 9, 3) := by decide +kernel
theorem dX7_copy_45 : decode cX7_copy 45 = .ok (.aload_n 0, 1) := by decide +kernel
theorem dX7_copy_46 : decode cX7_copy 46 = .ok (.iconst 1, 1) := by decide +kernel
theorem dX7_copy_47 : decode cX7_copy 47 = .ok (.invokevirtual 62, 3) := by decide +kernel
theorem dX7_copy_50 : decode cX7_copy 50 = .ok (.ireturn, 1) := by decide +kernel
theorem dX7_copy_51 : decode cX7_copy 51 = .ok (.aload_n 0, 1) := by decide +kernel
theorem dX7_copy_52 : decode cX7_copy 52 = .ok (.getfield 7, 3) := by decide +kernel
theorem dX7_copy_55 : decode cX7_copy 55 = .ok (.iload_n 1, 1) := by decide +kernel
theorem dX7_copy_56 : decode cX7_copy 56 = .ok (.iaload, 1) := by decide +kernel
theorem dX7_copy_57 : decode cX7_copy 57 = .ok (.aload_n 0, 1) := by decide +kernel
theorem dX7_copy_58 : decode cX7_copy 58 = .ok (.getfield 7, 3) := by decide +kernel
theorem dX7_copy_61 : decode cX7_copy 61 = .ok (.iload_n 3, 1) := by decide +kernel
theorem dX7_copy_62 : decode cX7_copy 62 = .ok (.iaload, 1) := by decide +kernel
theorem dX7_copy_63 : decode cX7_copy 63 = .ok (.if_icmp .eq 9, 3) := by decide +kernel
theorem dX7_copy_66 : decode cX7_copy 66 = .ok (.aload_n 0, 1) := by decide +kernel
theorem dX7_copy_67 : decode cX7_copy 67 = .ok (.iconst 5, 1) := by decide +kernel
theorem dX7_copy_68 : decode cX7_copy 68 = .ok (.invokevirtual 62, 3) := by decide +kernel
theorem dX7_copy_71 : decode cX7_copy 71 = .ok (.ireturn, 1) := by decide +kernel
theorem dX7_copy_72 : decode cX7_copy 72 = .ok (.iload_n 2, 1) := by decide +kernel
theorem dX7_copy_73 : decode cX7_copy 73 = .ok (.ifCond .lt 48, 3) := by decide +kernel
theorem dX7_copy_76 : decode cX7_copy 76 = .ok (.iload 4, 2) := by decide +kernel
theorem dX7_copy_78 : decode cX7_copy 78 = .ok (.ifCond .lt 43, 3) := by decide +kernel
theorem dX7_copy_81 : decode cX7_copy 81 = .ok (.iload 5, 2) := by decide +kernel
theorem dX7_copy_83 : decode cX7_copy 83 = .ok (.ifCond .lt 38, 3) := by decide +kernel
theorem dX7_copy_86 : decode cX7_copy 86 = .ok (.iload_n 2, 1) := by decide +kernel
theorem dX7_copy_87 : decode cX7_copy 87 = .ok (.i2l, 1) := by decide +kernel
theorem dX7_copy_88 : decode cX7_copy 88 = .ok (.iload 5, 2) := by decide +kernel
theorem dX7_copy_90 : decode cX7_copy 90 = .ok (.i2l, 1) := by decide +kernel
theorem dX7_copy_91 : decode cX7_copy 91 = .ok (.ladd, 1) := by decide +kernel
theorem dX7_copy_92 : decode cX7_copy 92 = .ok (.aload_n 0, 1) := by decide +kernel
theorem dX7_copy_93 : decode cX7_copy 93 = .ok (.getfield 13, 3) := by decide +kernel
theorem dX7_copy_96 : decode cX7_copy 96 = .ok (.iload_n 1, 1) := by decide +kernel
theorem dX7_copy_97 : decode cX7_copy 97 = .ok (.iaload, 1) := by decide +kernel
theorem dX7_copy_98 : decode cX7_copy 98 = .ok (.i2l, 1) := by decide +kernel
theorem dX7_copy_99 : decode cX7_copy 99 = .ok (.lcmp, 1) := by decide +kernel
theorem dX7_copy_100 : decode cX7_copy 100 = .ok (.ifCond .gt 21, 3) := by decide +kernel
theorem dX7_copy_103 : decode cX7_copy 103 = .ok (.iload 4, 2) := by decide +kernel
theorem dX7_copy_105 : decode cX7_copy 105 = .ok (.i2l, 1) := by decide +kernel
theorem dX7_copy_106 : decode cX7_copy 106 = .ok (.iload 5, 2) := by decide +kernel
theorem dX7_copy_108 : decode cX7_copy 108 = .ok (.i2l, 1) := by decide +kernel
theorem dX7_copy_109 : decode cX7_copy 109 = .ok (.ladd, 1) := by decide +kernel
theorem dX7_copy_110 : decode cX7_copy 110 = .ok (.aload_n 0, 1) := by decide +kernel
theorem dX7_copy_111 : decode cX7_copy 111 = .ok (.getfield 13, 3) := by decide +kernel
theorem dX7_copy_114 : decode cX7_copy 114 = .ok (.iload_n 3, 1) := by decide +kernel
theorem dX7_copy_115 : decode cX7_copy 115 = .ok (.iaload, 1) := by decide +kernel
theorem dX7_copy_116 : decode cX7_copy 116 = .ok (.i2l, 1) := by decide +kernel
theorem dX7_copy_117 : decode cX7_copy 117 = .ok (.lcmp, 1) := by decide +kernel
theorem dX7_copy_118 : decode cX7_copy 118 = .ok (.ifCond .le 9, 3) := by decide +kernel
theorem dX7_copy_121 : decode cX7_copy 121 = .ok (.aload_n 0, 1) := by decide +kernel
theorem dX7_copy_122 : decode cX7_copy 122 = .ok (.iconst 2, 1) := by decide +kernel
theorem dX7_copy_123 : decode cX7_copy 123 = .ok (.invokevirtual 62, 3) := by decide +kernel
theorem dX7_copy_126 : decode cX7_copy 126 = .ok (.ireturn, 1) := by decide +kernel
theorem dX7_copy_127 : decode cX7_copy 127 = .ok (.iload_n 2, 1) := by decide +kernel
theorem dX7_copy_128 : decode cX7_copy 128 = .ok (.iload 4, 2) := by decide +kernel
theorem dX7_copy_130 : decode cX7_copy 130 = .ok (.if_icmp .lt 7, 3) := by decide +kernel
theorem dX7_copy_133 : decode cX7_copy 133 = .ok (.iconst 1, 1) := by decide +kernel
theorem dX7_copy_134 : decode cX7_copy 134 = .ok (.goto 4, 3) := by decide +kernel
theorem dX7_copy_137 : decode cX7_copy 137 = .ok (.iconst 0, 1) := by decide +kernel
theorem dX7_copy_138 : decode cX7_copy 138 = .ok (.istore 6, 2) := by decide +kernel
theorem dX7_copy_140 : decode cX7_copy 140 = .ok (.iconst 0, 1) := by decide +kernel
theorem dX7_copy_141 : decode cX7_copy 141 = .ok (.istore 7, 2) := by decide +kernel
theorem dX7_copy_143 : decode cX7_copy 143 = .ok (.iload 7, 2) := by decide +kernel
theorem dX7_copy_145 : decode cX7_copy 145 = .ok (.iload 5, 2) := by decide +kernel
theorem dX7_copy_147 : decode cX7_copy 147 = .ok (.if_icmp .ge 57, 3) := by decide +kernel
theorem dX7_copy_150 : decode cX7_copy 150 = .ok (.iload 6, 2) := by decide +kernel
theorem dX7_copy_152 : decode cX7_copy 152 = .ok (.ifCond .eq 8, 3) := by decide +kernel
theorem dX7_copy_155 : decode cX7_copy 155 = .ok (.iload 7, 2) := by decide +kernel
theorem dX7_copy_157 : decode cX7_copy 157 = .ok (.goto 10, 3) := by decide +kernel
theorem dX7_copy_160 : decode cX7_copy 160 = .ok (.iload 5, 2) := by decide +kernel
theorem dX7_copy_162 : decode cX7_copy 162 = .ok (.iconst 1, 1) := by decide +kernel
theorem dX7_copy_163 : decode cX7_copy 163 = .ok (.isub, 1) := by decide +kernel
theorem dX7_copy_164 : decode cX7_copy 164 = .ok (.iload 7, 2) := by decide +kernel
theorem dX7_copy_166 : decode cX7_copy 166 = .ok (.isub, 1) := by decide +kernel
theorem dX7_copy_167 : decode cX7_copy 167 = .ok (.istore 8, 2) := by decide +kernel
theorem dX7_copy_169 : decode cX7_copy 169 = .ok (.aload_n 0, 1) := by decide +kernel
theorem dX7_copy_170 : decode cX7_copy 170 = .ok (.getfield 16, 3) := by decide +kernel
theorem dX7_copy_173 : decode cX7_copy 173 = .ok (.bipush 40, 2) := by decide +kernel
theorem dX7_copy_175 : decode cX7_copy 175 = .ok (.iload_n 3, 1) := by decide +kernel
theorem dX7_copy_176 : decode cX7_copy 176 = .ok (.imul, 1) := by decide +kernel
theorem dX7_copy_177 : decode cX7_copy 177 = .ok (.iload 4, 2) := by decide +kernel
theorem dX7_copy_179 : decode cX7_copy 179 = .ok (.iadd, 1) := by decide +kernel
theorem dX7_copy_180 : decode cX7_copy 180 = .ok (.iload 8, 2) := by decide +kernel
theorem dX7_copy_182 : decode cX7_copy 182 = .ok (.iadd, 1) := by decide +kernel
theorem dX7_copy_183 : decode cX7_copy 183 = .ok (.aload_n 0, 1) := by decide +kernel
theorem dX7_copy_184 : decode cX7_copy 184 = .ok (.getfield 16, 3) := by decide +kernel
theorem dX7_copy_187 : decode cX7_copy 187 = .ok (.bipush 40, 2) := by decide +kernel
theorem dX7_copy_189 : decode cX7_copy 189 = .ok (.iload_n 1, 1) := by decide +kernel
theorem dX7_copy_190 : decode cX7_copy 190 = .ok (.imul, 1) := by decide +kernel
theorem dX7_copy_191 : decode cX7_copy 191 = .ok (.iload_n 2, 1) := by decide +kernel
theorem dX7_copy_192 : decode cX7_copy 192 = .ok (.iadd, 1) := by decide +kernel
theorem dX7_copy_193 : decode cX7_copy 193 = .ok (.iload 8, 2) := by decide +kernel
theorem dX7_copy_195 : decode cX7_copy 195 = .ok (.iadd, 1) := by decide +kernel
theorem dX7_copy_196 : decode cX7_copy 196 = .ok (.iaload, 1) := by decide +kernel
theorem dX7_copy_197 : decode cX7_copy 197 = .ok (.iastore, 1) := by decide +kernel
theorem dX7_copy_198 : decode cX7_copy 198 = .ok (.iinc 7 1, 3) := by decide +kernel
theorem dX7_copy_201 : decode cX7_copy 201 = .ok (.goto (-58), 3) := by decide +kernel
theorem dX7_copy_204 : decode cX7_copy 204 = .ok (.iload 5, 2) := by decide +kernel
theorem dX7_copy_206 : decode cX7_copy 206 = .ok (.ireturn, 1) := by decide +kernel
theorem dX7_drop_0 : decode cX7_drop 0 = .ok (.aload_n 0, 1) := by decide +kernel
theorem dX7_drop_1 : decode cX7_drop 1 = .ok (.iconst 0, 1) := by decide +kernel
theorem dX7_drop_2 : decode cX7_drop 2 = .ok (.putfield 41, 3) := by decide +kernel
theorem dX7_drop_5 : decode cX7_drop 5 = .ok (.iload_n 1, 1) := by decide +kernel
theorem dX7_drop_6 : decode cX7_drop 6 = .ok (.invokestatic 55, 3) := by decide +kernel
theorem dX7_drop_9 : decode cX7_drop 9 = .ok (.ifCond .ne 6, 3) := by decide +kernel
theorem dX7_drop_12 : decode cX7_drop 12 = .ok (.ldc 61, 2) := by decide +kernel
theorem dX7_drop_14 : decode cX7_drop 14 = .ok (.ireturn, 1) := by decide +kernel
theorem dX7_drop_15 : decode cX7_drop 15 = .ok (.aload_n 0, 1) := by decide +kernel
theorem dX7_drop_16 : decode cX7_drop 16 = .ok (.iconst 0, 1) := by decide +kernel
theorem dX7_drop_17 : decode cX7_drop 17 = .ok (.putfield 45, 3) := by decide +kernel
theorem dX7_drop_20 : decode cX7_drop 20 = .ok (.aload_n 0, 1) := by decide +kernel
theorem dX7_drop_21 : decode cX7_drop 21 = .ok (.getfield 7, 3) := by decide +kernel
theorem dX7_drop_24 : decode cX7_drop 24 = .ok (.iload_n 1, 1) := by decide +kernel
theorem dX7_drop_25 : decode cX7_drop 25 = .ok (.iaload, 1) := by decide +kernel
theorem dX7_drop_26 : decode cX7_drop 26 = .ok (.ifCond .ge 9, 3) := by decide +kernel
theorem dX7_drop_29 : decode cX7_drop 29 = .ok (.aload_n 0, 1) := by decide +kernel
theorem dX7_drop_30 : decode cX7_drop 30 = .ok (.iconst 1, 1) := by decide +kernel
theorem dX7_drop_31 : decode cX7_drop 31 = .ok (.invokevirtual 62, 3) := by decide +kernel
theorem dX7_drop_34 : decode cX7_drop 34 = .ok (.ireturn, 1) := by decide +kernel
theorem dX7_drop_35 : decode cX7_drop 35 = .ok (.aload_n 0, 1) := by decide +kernel
theorem dX7_drop_36 : decode cX7_drop 36 = .ok (.getfield 7, 3) := by decide +kernel
theorem dX7_drop_39 : decode cX7_drop 39 = .ok (.iload_n 1, 1) := by decide +kernel
theorem dX7_drop_40 : decode cX7_drop 40 = .ok (.iconst (-1), 1) := by decide +kernel
theorem dX7_drop_41 : decode cX7_drop 41 = .ok (.iastore, 1) := by decide +kernel
theorem dX7_drop_42 : decode cX7_drop 42 = .ok (.aload_n 0, 1) := by decide +kernel
theorem dX7_drop_43 : decode cX7_drop 43 = .ok (.getfield 13, 3) := by decide +kernel
theorem dX7_drop_46 : decode cX7_drop 46 = .ok (.iload_n 1, 1) := by decide +kernel
theorem dX7_drop_47 : decode cX7_drop 47 = .ok (.iaload, 1) := by decide +kernel
theorem dX7_drop_48 : decode cX7_drop 48 = .ok (.ireturn, 1) := by decide +kernel
theorem dX7_feed_0 : decode cX7_feed 0 = .ok (.aload_n 0, 1) := by decide +kernel
theorem dX7_feed_1 : decode cX7_feed 1 = .ok (.iconst 0, 1) := by decide +kernel
theorem dX7_feed_2 : decode cX7_feed 2 = .ok (.putfield 41, 3) := by decide +kernel
theorem dX7_feed_5 : decode cX7_feed 5 = .ok (.iload_n 3, 1) := by decide +kernel
theorem dX7_feed_6 : decode cX7_feed 6 = .ok (.i2l, 1) := by decide +kernel
theorem dX7_feed_7 : decode cX7_feed 7 = .ok (.lconst 1, 1) := by decide +kernel
theorem dX7_feed_8 : decode cX7_feed 8 = .ok (.ldc2_w 66, 3) := by decide +kernel
theorem dX7_feed_11 : decode cX7_feed 11 = .ok (.invokestatic 51, 3) := by decide +kernel
theorem dX7_feed_14 : decode cX7_feed 14 = .ok (.ifCond .ne 6, 3) := by decide +kernel
theorem dX7_feed_17 : decode cX7_feed 17 = .ok (.ldc 61, 2) := by decide +kernel
theorem dX7_feed_19 : decode cX7_feed 19 = .ok (.ireturn, 1) := by decide +kernel
theorem dX7_feed_20 : decode cX7_feed 20 = .ok (.aload_n 0, 1) := by decide +kernel
theorem dX7_feed_21 : decode cX7_feed 21 = .ok (.getfield 68, 3) := by decide +kernel
theorem dX7_feed_24 : decode cX7_feed 24 = .ok (.iload_n 3, 1) := by decide +kernel
theorem dX7_feed_25 : decode cX7_feed 25 = .ok (.iadd, 1) := by decide +kernel
theorem dX7_feed_26 : decode cX7_feed 26 = .ok (.sipush 400, 3) := by decide +kernel
theorem dX7_feed_29 : decode cX7_feed 29 = .ok (.if_icmp .le 6, 3) := by decide +kernel
theorem dX7_feed_32 : decode cX7_feed 32 = .ok (.ldc 71, 2) := by decide +kernel
theorem dX7_feed_34 : decode cX7_feed 34 = .ok (.ireturn, 1) := by decide +kernel
theorem dX7_feed_35 : decode cX7_feed 35 = .ok (.iload_n 3, 1) := by decide +kernel
theorem dX7_feed_36 : decode cX7_feed 36 = .ok (.iconst 1, 1) := by decide +kernel
theorem dX7_feed_37 : decode cX7_feed 37 = .ok (.isub, 1) := by decide +kernel
theorem dX7_feed_38 : decode cX7_feed 38 = .ok (.istore 4, 2) := by decide +kernel
theorem dX7_feed_40 : decode cX7_feed 40 = .ok (.iload 4, 2) := by decide +kernel
theorem dX7_feed_42 : decode cX7_feed 42 = .ok (.ifCond .lt 40, 3) := by decide +kernel
theorem dX7_feed_45 : decode cX7_feed 45 = .ok (.aload_n 0, 1) := by decide +kernel
theorem dX7_feed_46 : decode cX7_feed 46 = .ok (.getfield 28, 3) := by decide +kernel
theorem dX7_feed_49 : decode cX7_feed 49 = .ok (.aload_n 0, 1) := by decide +kernel
theorem dX7_feed_50 : decode cX7_feed 50 = .ok (.getfield 68, 3) := by decide +kernel
theorem dX7_feed_53 : decode cX7_feed 53 = .ok (.lload_n 1, 1) := by decide +kernel
theorem dX7_feed_54 : decode cX7_feed 54 = .ok (.bipush 8, 2) := by decide +kernel
theorem dX7_feed_56 : decode cX7_feed 56 = .ok (.iload 4, 2) := by decide +kernel
theorem dX7_feed_58 : decode cX7_feed 58 = .ok (.imul, 1) := by decide +kernel
theorem dX7_feed_59 : decode cX7_feed 59 = .ok (.lshr, 1) := by decide +kernel
theorem dX7_feed_60 : decode cX7_feed 60 = .ok (.ldc2_w 72, 3) := by decide +kernel
theorem dX7_feed_63 : decode cX7_feed 63 = .ok (.land, 1) := by decide +kernel
theorem dX7_feed_64 : decode cX7_feed 64 = .ok (.l2i, 1) := by decide +kernel
theorem dX7_feed_65 : decode cX7_feed 65 = .ok (.iastore, 1) := by decide +kernel
theorem dX7_feed_66 : decode cX7_feed 66 = .ok (.aload_n 0, 1) := by decide +kernel
theorem dX7_feed_67 : decode cX7_feed 67 = .ok (.dup, 1) := by decide +kernel
theorem dX7_feed_68 : decode cX7_feed 68 = .ok (.getfield 68, 3) := by decide +kernel
theorem dX7_feed_71 : decode cX7_feed 71 = .ok (.iconst 1, 1) := by decide +kernel
theorem dX7_feed_72 : decode cX7_feed 72 = .ok (.iadd, 1) := by decide +kernel
theorem dX7_feed_73 : decode cX7_feed 73 = .ok (.putfield 68, 3) := by decide +kernel
theorem dX7_feed_76 : decode cX7_feed 76 = .ok (.iinc 4 (-1), 3) := by decide +kernel
theorem dX7_feed_79 : decode cX7_feed 79 = .ok (.goto (-39), 3) := by decide +kernel
theorem dX7_feed_82 : decode cX7_feed 82 = .ok (.aload_n 0, 1) := by decide +kernel
theorem dX7_feed_83 : decode cX7_feed 83 = .ok (.getfield 68, 3) := by decide +kernel
theorem dX7_feed_86 : decode cX7_feed 86 = .ok (.ireturn, 1) := by decide +kernel
theorem dX7_byteAt_0 : decode cX7_byteAt 0 = .ok (.iload_n 1, 1) := by decide +kernel
theorem dX7_byteAt_1 : decode cX7_byteAt 1 = .ok (.aload_n 0, 1) := by decide +kernel
theorem dX7_byteAt_2 : decode cX7_byteAt 2 = .ok (.getfield 74, 3) := by decide +kernel
theorem dX7_byteAt_5 : decode cX7_byteAt 5 = .ok (.if_icmp .ge 12, 3) := by decide +kernel
theorem dX7_byteAt_8 : decode cX7_byteAt 8 = .ok (.aload_n 0, 1) := by decide +kernel
theorem dX7_byteAt_9 : decode cX7_byteAt 9 = .ok (.getfield 28, 3) := by decide +kernel
theorem dX7_byteAt_12 : decode cX7_byteAt 12 = .ok (.iload_n 1, 1) := by decide +kernel
theorem dX7_byteAt_13 : decode cX7_byteAt 13 = .ok (.iaload, 1) := by decide +kernel
theorem dX7_byteAt_14 : decode cX7_byteAt 14 = .ok (.goto 5, 3) := by decide +kernel
theorem dX7_byteAt_17 : decode cX7_byteAt 17 = .ok (.ldc 77, 2) := by decide +kernel
theorem dX7_byteAt_19 : decode cX7_byteAt 19 = .ok (.ireturn, 1) := by decide +kernel
theorem dX7_isLetter_0 : decode cX7_isLetter 0 = .ok (.iload_n 0, 1) := by decide +kernel
theorem dX7_isLetter_1 : decode cX7_isLetter 1 = .ok (.bipush 97, 2) := by decide +kernel
theorem dX7_isLetter_3 : decode cX7_isLetter 3 = .ok (.if_icmp .lt 13, 3) := by decide +kernel
theorem dX7_isLetter_6 : decode cX7_isLetter 6 = .ok (.iload_n 0, 1) := by decide +kernel
theorem dX7_isLetter_7 : decode cX7_isLetter 7 = .ok (.bipush 122, 2) := by decide +kernel
theorem dX7_isLetter_9 : decode cX7_isLetter 9 = .ok (.if_icmp .gt 7, 3) := by decide +kernel
theorem dX7_isLetter_12 : decode cX7_isLetter 12 = .ok (.iconst 1, 1) := by decide +kernel
theorem dX7_isLetter_13 : decode cX7_isLetter 13 = .ok (.goto 4, 3) := by decide +kernel
theorem dX7_isLetter_16 : decode cX7_isLetter 16 = .ok (.iconst 0, 1) := by decide +kernel
theorem dX7_isLetter_17 : decode cX7_isLetter 17 = .ok (.ireturn, 1) := by decide +kernel
theorem dX7_isFigure_0 : decode cX7_isFigure 0 = .ok (.iload_n 0, 1) := by decide +kernel
theorem dX7_isFigure_1 : decode cX7_isFigure 1 = .ok (.bipush 48, 2) := by decide +kernel
theorem dX7_isFigure_3 : decode cX7_isFigure 3 = .ok (.if_icmp .lt 13, 3) := by decide +kernel
theorem dX7_isFigure_6 : decode cX7_isFigure 6 = .ok (.iload_n 0, 1) := by decide +kernel
theorem dX7_isFigure_7 : decode cX7_isFigure 7 = .ok (.bipush 57, 2) := by decide +kernel
theorem dX7_isFigure_9 : decode cX7_isFigure 9 = .ok (.if_icmp .gt 7, 3) := by decide +kernel
theorem dX7_isFigure_12 : decode cX7_isFigure 12 = .ok (.iconst 1, 1) := by decide +kernel
theorem dX7_isFigure_13 : decode cX7_isFigure 13 = .ok (.goto 4, 3) := by decide +kernel
theorem dX7_isFigure_16 : decode cX7_isFigure 16 = .ok (.iconst 0, 1) := by decide +kernel
theorem dX7_isFigure_17 : decode cX7_isFigure 17 = .ok (.ireturn, 1) := by decide +kernel
theorem dX7_next_0 : decode cX7_next 0 = .ok (.aload_n 0, 1) := by decide +kernel
theorem dX7_next_1 : decode cX7_next 1 = .ok (.aload_n 0, 1) := by decide +kernel
theorem dX7_next_2 : decode cX7_next 2 = .ok (.getfield 78, 3) := by decide +kernel
theorem dX7_next_5 : decode cX7_next 5 = .ok (.invokevirtual 81, 3) := by decide +kernel
theorem dX7_next_8 : decode cX7_next 8 = .ok (.bipush 32, 2) := by decide +kernel
theorem dX7_next_10 : decode cX7_next 10 = .ok (.if_icmp .eq 16, 3) := by decide +kernel
theorem dX7_next_13 : decode cX7_next 13 = .ok (.aload_n 0, 1) := by decide +kernel
theorem dX7_next_14 : decode cX7_next 14 = .ok (.aload_n 0, 1) := by decide +kernel
theorem dX7_next_15 : decode cX7_next 15 = .ok (.getfield 78, 3) := by decide +kernel
theorem dX7_next_18 : decode cX7_next 18 = .ok (.invokevirtual 81, 3) := by decide +kernel
theorem dX7_next_21 : decode cX7_next 21 = .ok (.bipush 10, 2) := by decide +kernel
theorem dX7_next_23 : decode cX7_next 23 = .ok (.if_icmp .ne 16, 3) := by decide +kernel
theorem dX7_next_26 : decode cX7_next 26 = .ok (.aload_n 0, 1) := by decide +kernel
theorem dX7_next_27 : decode cX7_next 27 = .ok (.dup, 1) := by decide +kernel
theorem dX7_next_28 : decode cX7_next 28 = .ok (.getfield 78, 3) := by decide +kernel
theorem dX7_next_31 : decode cX7_next 31 = .ok (.iconst 1, 1) := by decide +kernel
theorem dX7_next_32 : decode cX7_next 32 = .ok (.iadd, 1) := by decide +kernel
theorem dX7_next_33 : decode cX7_next 33 = .ok (.putfield 78, 3) := by decide +kernel
theorem dX7_next_36 : decode cX7_next 36 = .ok (.goto (-36), 3) := by decide +kernel
theorem dX7_next_39 : decode cX7_next 39 = .ok (.aload_n 0, 1) := by decide +kernel
theorem dX7_next_40 : decode cX7_next 40 = .ok (.aload_n 0, 1) := by decide +kernel
theorem dX7_next_41 : decode cX7_next 41 = .ok (.getfield 78, 3) := by decide +kernel
theorem dX7_next_44 : decode cX7_next 44 = .ok (.putfield 84, 3) := by decide +kernel
theorem dX7_next_47 : decode cX7_next 47 = .ok (.aload_n 0, 1) := by decide +kernel
theorem dX7_next_48 : decode cX7_next 48 = .ok (.aload_n 0, 1) := by decide +kernel
theorem dX7_next_49 : decode cX7_next 49 = .ok (.getfield 78, 3) := by decide +kernel
theorem dX7_next_52 : decode cX7_next 52 = .ok (.invokevirtual 81, 3) := by decide +kernel
theorem dX7_next_55 : decode cX7_next 55 = .ok (.istore_n 1, 1) := by decide +kernel
theorem dX7_next_56 : decode cX7_next 56 = .ok (.iload_n 1, 1) := by decide +kernel
theorem dX7_next_57 : decode cX7_next 57 = .ok (.ldc 77, 2) := by decide +kernel
theorem dX7_next_59 : decode cX7_next 59 = .ok (.if_icmp .ne 11, 3) := by decide +kernel
theorem dX7_next_62 : decode cX7_next 62 = .ok (.aload_n 0, 1) := by decide +kernel
theorem dX7_next_63 : decode cX7_next 63 = .ok (.iconst 1, 1) := by decide +kernel
theorem dX7_next_64 : decode cX7_next 64 = .ok (.putfield 87, 3) := by decide +kernel
theorem dX7_next_67 : decode cX7_next 67 = .ok (.goto 139, 3) := by decide +kernel
theorem dX7_next_70 : decode cX7_next 70 = .ok (.iload_n 1, 1) := by decide +kernel
theorem dX7_next_71 : decode cX7_next 71 = .ok (.invokestatic 90, 3) := by decide +kernel
theorem dX7_next_74 : decode cX7_next 74 = .ok (.ifCond .eq 38, 3) := by decide +kernel
theorem dX7_next_77 : decode cX7_next 77 = .ok (.aload_n 0, 1) := by decide +kernel
theorem dX7_next_78 : decode cX7_next 78 = .ok (.aload_n 0, 1) := by decide +kernel
theorem dX7_next_79 : decode cX7_next 79 = .ok (.getfield 78, 3) := by decide +kernel
theorem dX7_next_82 : decode cX7_next 82 = .ok (.invokevirtual 81, 3) := by decide +kernel
theorem dX7_next_85 : decode cX7_next 85 = .ok (.invokestatic 90, 3) := by decide +kernel
theorem dX7_next_88 : decode cX7_next 88 = .ok (.ifCond .eq 16, 3) := by decide +kernel
theorem dX7_next_91 : decode cX7_next 91 = .ok (.aload_n 0, 1) := by decide +kernel
theorem dX7_next_92 : decode cX7_next 92 = .ok (.dup, 1) := by decide +kernel
theorem dX7_next_93 : decode cX7_next 93 = .ok (.getfield 78, 3) := by decide +kernel
theorem dX7_next_96 : decode cX7_next 96 = .ok (.iconst 1, 1) := by decide +kernel
theorem dX7_next_97 : decode cX7_next 97 = .ok (.iadd, 1) := by decide +kernel
theorem dX7_next_98 : decode cX7_next 98 = .ok (.putfield 78, 3) := by decide +kernel
theorem dX7_next_101 : decode cX7_next 101 = .ok (.goto (-24), 3) := by decide +kernel
theorem dX7_next_104 : decode cX7_next 104 = .ok (.aload_n 0, 1) := by decide +kernel
theorem dX7_next_105 : decode cX7_next 105 = .ok (.iconst 2, 1) := by decide +kernel
theorem dX7_next_106 : decode cX7_next 106 = .ok (.putfield 87, 3) := by decide +kernel
theorem dX7_next_109 : decode cX7_next 109 = .ok (.goto 97, 3) := by decide +kernel
theorem dX7_next_112 : decode cX7_next 112 = .ok (.iload_n 1, 1) := by decide +kernel
theorem dX7_next_113 : decode cX7_next 113 = .ok (.invokestatic 93, 3) := by decide +kernel
theorem dX7_next_116 : decode cX7_next 116 = .ok (.ifCond .eq 55, 3) := by decide +kernel
theorem dX7_next_119 : decode cX7_next 119 = .ok (.aload_n 0, 1) := by decide +kernel
theorem dX7_next_120 : decode cX7_next 120 = .ok (.aload_n 0, 1) := by decide +kernel
theorem dX7_next_121 : decode cX7_next 121 = .ok (.getfield 78, 3) := by decide +kernel
theorem dX7_next_124 : decode cX7_next 124 = .ok (.invokevirtual 81, 3) := by decide +kernel
theorem dX7_next_127 : decode cX7_next 127 = .ok (.invokestatic 93, 3) := by decide +kernel
theorem dX7_next_130 : decode cX7_next 130 = .ok (.ifCond .eq 16, 3) := by decide +kernel
theorem dX7_next_133 : decode cX7_next 133 = .ok (.aload_n 0, 1) := by decide +kernel
theorem dX7_next_134 : decode cX7_next 134 = .ok (.dup, 1) := by decide +kernel
theorem dX7_next_135 : decode cX7_next 135 = .ok (.getfield 78, 3) := by decide +kernel
theorem dX7_next_138 : decode cX7_next 138 = .ok (.iconst 1, 1) := by decide +kernel
theorem dX7_next_139 : decode cX7_next 139 = .ok (.iadd, 1) := by decide +kernel
theorem dX7_next_140 : decode cX7_next 140 = .ok (.putfield 78, 3) := by decide +kernel
theorem dX7_next_143 : decode cX7_next 143 = .ok (.goto (-24), 3) := by decide +kernel
theorem dX7_next_146 : decode cX7_next 146 = .ok (.aload_n 0, 1) := by decide +kernel
theorem dX7_next_147 : decode cX7_next 147 = .ok (.aload_n 0, 1) := by decide +kernel
theorem dX7_next_148 : decode cX7_next 148 = .ok (.getfield 78, 3) := by decide +kernel
theorem dX7_next_151 : decode cX7_next 151 = .ok (.aload_n 0, 1) := by decide +kernel
theorem dX7_next_152 : decode cX7_next 152 = .ok (.getfield 84, 3) := by decide +kernel
theorem dX7_next_155 : decode cX7_next 155 = .ok (.isub, 1) := by decide +kernel
theorem dX7_next_156 : decode cX7_next 156 = .ok (.iconst 3, 1) := by decide +kernel
theorem dX7_next_157 : decode cX7_next 157 = .ok (.if_icmp .le 7, 3) := by decide +kernel
theorem dX7_next_160 : decode cX7_next 160 = .ok (.iconst 0, 1) := by decide +kernel
