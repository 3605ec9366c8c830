theorem dX0_init_0 : decode cX0_init 0 = .ok (.aload_n 0, 1) := by decide +kernel
theorem dX0_init_1 : decode cX0_init 1 = .ok (.invokespecial 3, 3) := by decide +kernel
theorem dX0_init_4 : decode cX0_init 4 = .ok (.aload_n 0, 1) := by decide +kernel
theorem dX0_init_5 : decode cX0_init 5 = .ok (.bipush 48, 2) := by decide +kernel
theorem dX0_init_7 : decode cX0_init 7 = .ok (.newarray .int, 2) := by decide +kernel
theorem dX0_init_9 : decode cX0_init 9 = .ok (.putfield 9, 3) := by decide +kernel
theorem dX0_init_12 : decode cX0_init 12 = .ok (.aload_n 0, 1) := by decide +kernel
theorem dX0_init_13 : decode cX0_init 13 = .ok (.aload_n 1, 1) := by decide +kernel
theorem dX0_init_14 : decode cX0_init 14 = .ok (.putfield 15, 3) := by decide +kernel
theorem dX0_init_17 : decode cX0_init 17 = .ok (.aload_n 0, 1) := by decide +kernel
theorem dX0_init_18 : decode cX0_init 18 = .ok (.aload_n 2, 1) := by decide +kernel
theorem dX0_init_19 : decode cX0_init 19 = .ok (.putfield 19, 3) := by decide +kernel
theorem dX0_init_22 : decode cX0_init 22 = .ok (.return_, 1) := by decide +kernel
theorem dX0_markAt_0 : decode cX0_markAt 0 = .ok (.iload_n 1, 1) := by decide +kernel
theorem dX0_markAt_1 : decode cX0_markAt 1 = .ok (.ifCond .lt 20, 3) := by decide +kernel
theorem dX0_markAt_4 : decode cX0_markAt 4 = .ok (.iload_n 1, 1) := by decide +kernel
theorem dX0_markAt_5 : decode cX0_markAt 5 = .ok (.aload_n 0, 1) := by decide +kernel
theorem dX0_markAt_6 : decode cX0_markAt 6 = .ok (.getfield 23, 3) := by decide +kernel
theorem dX0_markAt_9 : decode cX0_markAt 9 = .ok (.if_icmp .ge 12, 3) := by decide +kernel
theorem dX0_markAt_12 : decode cX0_markAt 12 = .ok (.aload_n 0, 1) := by decide +kernel
theorem dX0_markAt_13 : decode cX0_markAt 13 = .ok (.getfield 9, 3) := by decide +kernel
theorem dX0_markAt_16 : decode cX0_markAt 16 = .ok (.iload_n 1, 1) := by decide +kernel
theorem dX0_markAt_17 : decode cX0_markAt 17 = .ok (.iaload, 1) := by decide +kernel
theorem dX0_markAt_18 : decode cX0_markAt 18 = .ok (.goto 4, 3) := by decide +kernel
theorem dX0_markAt_21 : decode cX0_markAt 21 = .ok (.iconst 0, 1) := by decide +kernel
theorem dX0_markAt_22 : decode cX0_markAt 22 = .ok (.ireturn, 1) := by decide +kernel
theorem dX0_perform_0 : decode cX0_perform 0 = .ok (.aload_n 0, 1) := by decide +kernel
theorem dX0_perform_1 : decode cX0_perform 1 = .ok (.iload_n 1, 1) := by decide +kernel
theorem dX0_perform_2 : decode cX0_perform 2 = .ok (.putfield 27, 3) := by decide +kernel
theorem dX0_perform_5 : decode cX0_perform 5 = .ok (.aload_n 0, 1) := by decide +kernel
theorem dX0_perform_6 : decode cX0_perform 6 = .ok (.iconst 0, 1) := by decide +kernel
theorem dX0_perform_7 : decode cX0_perform 7 = .ok (.putfield 30, 3) := by decide +kernel
theorem dX0_perform_10 : decode cX0_perform 10 = .ok (.aload_n 0, 1) := by decide +kernel
theorem dX0_perform_11 : decode cX0_perform 11 = .ok (.iconst 0, 1) := by decide +kernel
theorem dX0_perform_12 : decode cX0_perform 12 = .ok (.putfield 23, 3) := by decide +kernel
theorem dX0_perform_15 : decode cX0_perform 15 = .ok (.iconst 0, 1) := by decide +kernel
theorem dX0_perform_16 : decode cX0_perform 16 = .ok (.istore_n 2, 1) := by decide +kernel
theorem dX0_perform_17 : decode cX0_perform 17 = .ok (.iload_n 2, 1) := by decide +kernel
theorem dX0_perform_18 : decode cX0_perform 18 = .ok (.aload_n 0, 1) := by decide +kernel
theorem dX0_perform_19 : decode cX0_perform 19 = .ok (.getfield 15, 3) := by decide +kernel
theorem dX0_perform_22 : decode cX0_perform 22 = .ok (.getfield 33, 3) := by decide +kernel
theorem dX0_perform_25 : decode cX0_perform 25 = .ok (.if_icmp .ge 66, 3) := by decide +kernel
theorem dX0_perform_28 : decode cX0_perform 28 = .ok (.aload_n 0, 1) := by decide +kernel
theorem dX0_perform_29 : decode cX0_perform 29 = .ok (.getfield 30, 3) := by decide +kernel
theorem dX0_perform_32 : decode cX0_perform 32 = .ok (.ifCond .ne 59, 3) := by decide +kernel
theorem dX0_perform_35 : decode cX0_perform 35 = .ok (.aload_n 0, 1) := by decide +kernel
theorem dX0_perform_36 : decode cX0_perform 36 = .ok (.getfield 15, 3) := by decide +kernel
theorem dX0_perform_39 : decode cX0_perform 39 = .ok (.aload_n 0, 1) := by decide +kernel
theorem dX0_perform_40 : decode cX0_perform 40 = .ok (.getfield 15, 3) := by decide +kernel
theorem dX0_perform_43 : decode cX0_perform 43 = .ok (.iload_n 2, 1) := by decide +kernel
theorem dX0_perform_44 : decode cX0_perform 44 = .ok (.invokevirtual 38, 3) := by decide +kernel
theorem dX0_perform_47 : decode cX0_perform 47 = .ok (.invokevirtual 42, 3) := by decide +kernel
theorem dX0_perform_50 : decode cX0_perform 50 = .ok (.astore_n 3, 1) := by decide +kernel
theorem dX0_perform_51 : decode cX0_perform 51 = .ok (.aload_n 3, 1) := by decide +kernel
theorem dX0_perform_52 : decode cX0_perform 52 = .ok (.ifnull 33, 3) := by decide +kernel
theorem dX0_perform_55 : decode cX0_perform 55 = .ok (.aload_n 0, 1) := by decide +kernel
theorem dX0_perform_56 : decode cX0_perform 56 = .ok (.aload_n 3, 1) := by decide +kernel
theorem dX0_perform_57 : decode cX0_perform 57 = .ok (.getfield 46, 3) := by decide +kernel
theorem dX0_perform_60 : decode cX0_perform 60 = .ok (.iconst 1, 1) := by decide +kernel
theorem dX0_perform_61 : decode cX0_perform 61 = .ok (.iadd, 1) := by decide +kernel
theorem dX0_perform_62 : decode cX0_perform 62 = .ok (.invokevirtual 51, 3) := by decide +kernel
theorem dX0_perform_65 : decode cX0_perform 65 = .ok (.aload_n 0, 1) := by decide +kernel
theorem dX0_perform_66 : decode cX0_perform 66 = .ok (.aload_n 3, 1) := by decide +kernel
theorem dX0_perform_67 : decode cX0_perform 67 = .ok (.getfield 46, 3) := by decide +kernel
theorem dX0_perform_70 : decode cX0_perform 70 = .ok (.putfield 55, 3) := by decide +kernel
theorem dX0_perform_73 : decode cX0_perform 73 = .ok (.aload_n 3, 1) := by decide +kernel
theorem dX0_perform_74 : decode cX0_perform 74 = .ok (.getfield 58, 3) := by decide +kernel
theorem dX0_perform_77 : decode cX0_perform 77 = .ok (.aload_n 0, 1) := by decide +kernel
theorem dX0_perform_78 : decode cX0_perform 78 = .ok (.aload_n 3, 1) := by decide +kernel
theorem dX0_perform_79 : decode cX0_perform 79 = .ok (.invokevirtual 62, 3) := by decide +kernel
theorem dX0_perform_82 : decode cX0_perform 82 = .ok (.putfield 66, 3) := by decide +kernel
theorem dX0_perform_85 : decode cX0_perform 85 = .ok (.iinc 2 1, 3) := by decide +kernel
theorem dX0_perform_88 : decode cX0_perform 88 = .ok (.goto (-71), 3) := by decide +kernel
theorem dX0_perform_91 : decode cX0_perform 91 = .ok (.aload_n 0, 1) := by decide +kernel
theorem dX0_perform_92 : decode cX0_perform 92 = .ok (.invokevirtual 72, 3) := by decide +kernel
theorem dX0_perform_95 : decode cX0_perform 95 = .ok (.aload_n 0, 1) := by decide +kernel
theorem dX0_perform_96 : decode cX0_perform 96 = .ok (.getfield 30, 3) := by decide +kernel
theorem dX0_perform_99 : decode cX0_perform 99 = .ok (.ifCond .ne 7, 3) := by decide +kernel
theorem dX0_perform_102 : decode cX0_perform 102 = .ok (.aload_n 0, 1) := by decide +kernel
theorem dX0_perform_103 : decode cX0_perform 103 = .ok (.invokevirtual 75, 3) := by decide +kernel
theorem dX0_perform_106 : decode cX0_perform 106 = .ok (.aload_n 0, 1) := by decide +kernel
theorem dX0_perform_107 : decode cX0_perform 107 = .ok (.getfield 30, 3) := by decide +kernel
theorem dX0_perform_110 : decode cX0_perform 110 = .ok (.ireturn, 1) := by decide +kernel
theorem dX0_mark_0 : decode cX0_mark 0 = .ok (.aload_n 0, 1) := by decide +kernel
theorem dX0_mark_1 : decode cX0_mark 1 = .ok (.getfield 23, 3) := by decide +kernel
theorem dX0_mark_4 : decode cX0_mark 4 = .ok (.aload_n 0, 1) := by decide +kernel
theorem dX0_mark_5 : decode cX0_mark 5 = .ok (.getfield 9, 3) := by decide +kernel
theorem dX0_mark_8 : decode cX0_mark 8 = .ok (.arraylength, 1) := by decide +kernel
theorem dX0_mark_9 : decode cX0_mark 9 = .ok (.if_icmp .ge 23, 3) := by decide +kernel
theorem dX0_mark_12 : decode cX0_mark 12 = .ok (.aload_n 0, 1) := by decide +kernel
theorem dX0_mark_13 : decode cX0_mark 13 = .ok (.getfield 9, 3) := by decide +kernel
theorem dX0_mark_16 : decode cX0_mark 16 = .ok (.aload_n 0, 1) := by decide +kernel
theorem dX0_mark_17 : decode cX0_mark 17 = .ok (.getfield 23, 3) := by decide +kernel
theorem dX0_mark_20 : decode cX0_mark 20 = .ok (.iload_n 1, 1) := by decide +kernel
theorem dX0_mark_21 : decode cX0_mark 21 = .ok (.iastore, 1) := by decide +kernel
theorem dX0_mark_22 : decode cX0_mark 22 = .ok (.aload_n 0, 1) := by decide +kernel
theorem dX0_mark_23 : decode cX0_mark 23 = .ok (.dup, 1) := by decide +kernel
theorem dX0_mark_24 : decode cX0_mark 24 = .ok (.getfield 23, 3) := by decide +kernel
theorem dX0_mark_27 : decode cX0_mark 27 = .ok (.iconst 1, 1) := by decide +kernel
theorem dX0_mark_28 : decode cX0_mark 28 = .ok (.iadd, 1) := by decide +kernel
theorem dX0_mark_29 : decode cX0_mark 29 = .ok (.putfield 23, 3) := by decide +kernel
theorem dX0_mark_32 : decode cX0_mark 32 = .ok (.return_, 1) := by decide +kernel
theorem dX0_closeAll_0 : decode cX0_closeAll 0 = .ok (.aload_n 0, 1) := by decide +kernel
theorem dX0_closeAll_1 : decode cX0_closeAll 1 = .ok (.getfield 23, 3) := by decide +kernel
theorem dX0_closeAll_4 : decode cX0_closeAll 4 = .ok (.iconst 1, 1) := by decide +kernel
theorem dX0_closeAll_5 : decode cX0_closeAll 5 = .ok (.isub, 1) := by decide +kernel
theorem dX0_closeAll_6 : decode cX0_closeAll 6 = .ok (.istore_n 1, 1) := by decide +kernel
theorem dX0_closeAll_7 : decode cX0_closeAll 7 = .ok (.iload_n 1, 1) := by decide +kernel
theorem dX0_closeAll_8 : decode cX0_closeAll 8 = .ok (.ifCond .lt 20, 3) := by decide +kernel
theorem dX0_closeAll_11 : decode cX0_closeAll 11 = .ok (.aload_n 0, 1) := by decide +kernel
theorem dX0_closeAll_12 : decode cX0_closeAll 12 = .ok (.aload_n 0, 1) := by decide +kernel
theorem dX0_closeAll_13 : decode cX0_closeAll 13 = .ok (.getfield 9, 3) := by decide +kernel
theorem dX0_closeAll_16 : decode cX0_closeAll 16 = .ok (.iload_n 1, 1) := by decide +kernel
theorem dX0_closeAll_17 : decode cX0_closeAll 17 = .ok (.iaload, 1) := by decide +kernel
theorem dX0_closeAll_18 : decode cX0_closeAll 18 = .ok (.ineg, 1) := by decide +kernel
theorem dX0_closeAll_19 : decode cX0_closeAll 19 = .ok (.invokevirtual 51, 3) := by decide +kernel
theorem dX0_closeAll_22 : decode cX0_closeAll 22 = .ok (.iinc 1 (-1), 3) := by decide +kernel
theorem dX0_closeAll_25 : decode cX0_closeAll 25 = .ok (.goto (-18), 3) := by decide +kernel
theorem dX0_closeAll_28 : decode cX0_closeAll 28 = .ok (.return_, 1) := by decide +kernel
theorem dX0_finish_0 : decode cX0_finish 0 = .ok (.iconst 0, 1) := by decide +kernel
theorem dX0_finish_1 : decode cX0_finish 1 = .ok (.istore_n 1, 1) := by decide +kernel
theorem dX0_finish_2 : decode cX0_finish 2 = .ok (.iload_n 1, 1) := by decide +kernel
theorem dX0_finish_3 : decode cX0_finish 3 = .ok (.aload_n 0, 1) := by decide +kernel
theorem dX0_finish_4 : decode cX0_finish 4 = .ok (.getfield 15, 3) := by decide +kernel
theorem dX0_finish_7 : decode cX0_finish 7 = .ok (.getfield 33, 3) := by decide +kernel
theorem dX0_finish_10 : decode cX0_finish 10 = .ok (.if_icmp .ge 57, 3) := by decide +kernel
theorem dX0_finish_13 : decode cX0_finish 13 = .ok (.aload_n 0, 1) := by decide +kernel
theorem dX0_finish_14 : decode cX0_finish 14 = .ok (.getfield 15, 3) := by decide +kernel
theorem dX0_finish_17 : decode cX0_finish 17 = .ok (.iload_n 1, 1) := by decide +kernel
theorem dX0_finish_18 : decode cX0_finish 18 = .ok (.invokevirtual 42, 3) := by decide +kernel
theorem dX0_finish_21 : decode cX0_finish 21 = .ok (.astore_n 2, 1) := by decide +kernel
theorem dX0_finish_22 : decode cX0_finish 22 = .ok (.aload_n 2, 1) := by decide +kernel
theorem dX0_finish_23 : decode cX0_finish 23 = .ok (.ifnull 38, 3) := by decide +kernel
theorem dX0_finish_26 : decode cX0_finish 26 = .ok (.aload_n 2, 1) := by decide +kernel
theorem dX0_finish_27 : decode cX0_finish 27 = .ok (.getfield 58, 3) := by decide +kernel
theorem dX0_finish_30 : decode cX0_finish 30 = .ok (.aload_n 2, 1) := by decide +kernel
theorem dX0_finish_31 : decode cX0_finish 31 = .ok (.getfield 78, 3) := by decide +kernel
theorem dX0_finish_34 : decode cX0_finish 34 = .ok (.iconst 0, 1) := by decide +kernel
theorem dX0_finish_35 : decode cX0_finish 35 = .ok (.iaload, 1) := by decide +kernel
theorem dX0_finish_36 : decode cX0_finish 36 = .ok (.putfield 81, 3) := by decide +kernel
theorem dX0_finish_39 : decode cX0_finish 39 = .ok (.aload_n 2, 1) := by decide +kernel
theorem dX0_finish_40 : decode cX0_finish 40 = .ok (.getfield 84, 3) := by decide +kernel
theorem dX0_finish_43 : decode cX0_finish 43 = .ok (.bipush 6, 2) := by decide +kernel
theorem dX0_finish_45 : decode cX0_finish 45 = .ok (.if_icmp .ne 16, 3) := by decide +kernel
theorem dX0_finish_48 : decode cX0_finish 48 = .ok (.aload_n 2, 1) := by decide +kernel
theorem dX0_finish_49 : decode cX0_finish 49 = .ok (.getfield 58, 3) := by decide +kernel
theorem dX0_finish_52 : decode cX0_finish 52 = .ok (.aload_n 0, 1) := by decide +kernel
theorem dX0_finish_53 : decode cX0_finish 53 = .ok (.aload_n 2, 1) := by decide +kernel
theorem dX0_finish_54 : decode cX0_finish 54 = .ok (.iconst 0, 1) := by decide +kernel
theorem dX0_finish_55 : decode cX0_finish 55 = .ok (.invokevirtual 87, 3) := by decide +kernel
theorem dX0_finish_58 : decode cX0_finish 58 = .ok (.invokevirtual 91, 3) := by decide +kernel
theorem dX0_finish_61 : decode cX0_finish 61 = .ok (.iinc 1 1, 3) := by decide +kernel
theorem dX0_finish_64 : decode cX0_finish 64 = .ok (.goto (-62), 3) := by decide +kernel
theorem dX0_finish_67 : decode cX0_finish 67 = .ok (.return_, 1) := by decide +kernel
theorem dX0_newRowOf_0 : decode cX0_newRowOf 0 = .ok (.aload_n 1, 1) := by decide +kernel
theorem dX0_newRowOf_1 : decode cX0_newRowOf 1 = .ok (.getfield 84, 3) := by decide +kernel
theorem dX0_newRowOf_4 : decode cX0_newRowOf 4 = .ok (.tableswitch 106 0 9 #[56, 62, 62, 62, 62, 68, 74, 88, 94, 100], 56) := by decide +kernel
theorem dX0_newRowOf_60 : decode cX0_newRowOf 60 = .ok (.aload_n 0, 1) := by decide +kernel
theorem dX0_newRowOf_61 : decode cX0_newRowOf 61 = .ok (.aload_n 1, 1) := by decide +kernel
theorem dX0_newRowOf_62 : decode cX0_newRowOf 62 = .ok (.invokevirtual 95, 3) := by decide +kernel
theorem dX0_newRowOf_65 : decode cX0_newRowOf 65 = .ok (.areturn, 1) := by decide +kernel
theorem dX0_newRowOf_66 : decode cX0_newRowOf 66 = .ok (.aload_n 0, 1) := by decide +kernel
theorem dX0_newRowOf_67 : decode cX0_newRowOf 67 = .ok (.aload_n 1, 1) := by decide +kernel
theorem dX0_newRowOf_68 : decode cX0_newRowOf 68 = .ok (.invokevirtual 98, 3) := by decide +kernel
theorem dX0_newRowOf_71 : decode cX0_newRowOf 71 = .ok (.areturn, 1) := by decide +kernel
theorem dX0_newRowOf_72 : decode cX0_newRowOf 72 = .ok (.aload_n 0, 1) := by decide +kernel
theorem dX0_newRowOf_73 : decode cX0_newRowOf 73 = .ok (.aload_n 1, 1) := by decide +kernel
theorem dX0_newRowOf_74 : decode cX0_newRowOf 74 = .ok (.invokevirtual 101, 3) := by decide +kernel
theorem dX0_newRowOf_77 : decode cX0_newRowOf 77 = .ok (.areturn, 1) := by decide +kernel
theorem dX0_newRowOf_78 : decode cX0_newRowOf 78 = .ok (.aload_n 1, 1) := by decide +kernel
theorem dX0_newRowOf_79 : decode cX0_newRowOf 79 = .ok (.getfield 58, 3) := by decide +kernel
theorem dX0_newRowOf_82 : decode cX0_newRowOf 82 = .ok (.aload_n 1, 1) := by decide +kernel
theorem dX0_newRowOf_83 : decode cX0_newRowOf 83 = .ok (.getfield 78, 3) := by decide +kernel
theorem dX0_newRowOf_86 : decode cX0_newRowOf 86 = .ok (.iconst 0, 1) := by decide +kernel
theorem dX0_newRowOf_87 : decode cX0_newRowOf 87 = .ok (.iaload, 1) := by decide +kernel
theorem dX0_newRowOf_88 : decode cX0_newRowOf 88 = .ok (.invokevirtual 104, 3) := by decide +kernel
theorem dX0_newRowOf_91 : decode cX0_newRowOf 91 = .ok (.areturn, 1) := by decide +kernel
theorem dX0_newRowOf_92 : decode cX0_newRowOf 92 = .ok (.aload_n 0, 1) := by decide +kernel
theorem dX0_newRowOf_93 : decode cX0_newRowOf 93 = .ok (.aload_n 1, 1) := by decide +kernel
theorem dX0_newRowOf_94 : decode cX0_newRowOf 94 = .ok (.invokevirtual 108, 3) := by decide +kernel
theorem dX0_newRowOf_97 : decode cX0_newRowOf 97 = .ok (.areturn, 1) := by decide +kernel
theorem dX0_newRowOf_98 : decode cX0_newRowOf 98 = .ok (.aload_n 0, 1) := by decide +kernel
theorem dX0_newRowOf_99 : decode cX0_newRowOf 99 = .ok (.aload_n 1, 1) := by decide +kernel
theorem dX0_newRowOf_100 : decode cX0_newRowOf 100 = .ok (.invokevirtual 111, 3) := by decide +kernel
theorem dX0_newRowOf_103 : decode cX0_newRowOf 103 = .ok (.areturn, 1) := by decide +kernel
theorem dX0_newRowOf_104 : decode cX0_newRowOf 104 = .ok (.aload_n 0, 1) := by decide +kernel
theorem dX0_newRowOf_105 : decode cX0_newRowOf 105 = .ok (.aload_n 1, 1) := by decide +kernel
theorem dX0_newRowOf_106 : decode cX0_newRowOf 106 = .ok (.invokevirtual 114, 3) := by decide +kernel
theorem dX0_newRowOf_109 : decode cX0_newRowOf 109 = .ok (.areturn, 1) := by decide +kernel
theorem dX0_newRowOf_110 : decode cX0_newRowOf 110 = .ok (.aload_n 0, 1) := by decide +kernel
theorem dX0_newRowOf_111 : decode cX0_newRowOf 111 = .ok (.aload_n 1, 1) := by decide +kernel
theorem dX0_newRowOf_112 : decode cX0_newRowOf 112 = .ok (.invokevirtual 117, 3) := by decide +kernel
theorem dX0_newRowOf_115 : decode cX0_newRowOf 115 = .ok (.areturn, 1) := by decide +kernel
theorem dX0_fail_0 : decode cX0_fail 0 = .ok (.aload_n 0, 1) := by decide +kernel
theorem dX0_fail_1 : decode cX0_fail 1 = .ok (.iload_n 1, 1) := by decide +kernel
theorem dX0_fail_2 : decode cX0_fail 2 = .ok (.putfield 30, 3) := by decide +kernel
theorem dX0_fail_5 : decode cX0_fail 5 = .ok (.aload_n 0, 1) := by decide +kernel
theorem dX0_fail_6 : decode cX0_fail 6 = .ok (.iload_n 2, 1) := by decide +kernel
theorem dX0_fail_7 : decode cX0_fail 7 = .ok (.putfield 120, 3) := by decide +kernel
theorem dX0_fail_10 : decode cX0_fail 10 = .ok (.aconst_null, 1) := by decide +kernel
theorem dX0_fail_11 : decode cX0_fail 11 = .ok (.areturn, 1) := by decide +kernel
theorem dX0_rowAt_0 : decode cX0_rowAt 0 = .ok (.aload_n 0, 1) := by decide +kernel
theorem dX0_rowAt_1 : decode cX0_rowAt 1 = .ok (.getfield 15, 3) := by decide +kernel
theorem dX0_rowAt_4 : decode cX0_rowAt 4 = .ok (.aload_n 1, 1) := by decide +kernel
theorem dX0_rowAt_5 : decode cX0_rowAt 5 = .ok (.iload_n 2, 1) := by decide +kernel
theorem dX0_rowAt_6 : decode cX0_rowAt 6 = .ok (.invokevirtual 123, 3) := by decide +kernel
theorem dX0_rowAt_9 : decode cX0_rowAt 9 = .ok (.invokevirtual 126, 3) := by decide +kernel
theorem dX0_rowAt_12 : decode cX0_rowAt 12 = .ok (.areturn, 1) := by decide +kernel
theorem dX0_wantedRow_0 : decode cX0_wantedRow 0 = .ok (.aload_n 1, 1) := by decide +kernel
theorem dX0_wantedRow_1 : decode cX0_wantedRow 1 = .ok (.iload_n 2, 1) := by decide +kernel
theorem dX0_wantedRow_2 : decode cX0_wantedRow 2 = .ok (.invokevirtual 123, 3) := by decide +kernel
theorem dX0_wantedRow_5 : decode cX0_wantedRow 5 = .ok (.iconst (-1), 1) := by decide +kernel
theorem dX0_wantedRow_6 : decode cX0_wantedRow 6 = .ok (.if_icmp .ne 10, 3) := by decide +kernel
theorem dX0_wantedRow_9 : decode cX0_wantedRow 9 = .ok (.aload_n 0, 1) := by decide +kernel
theorem dX0_wantedRow_10 : decode cX0_wantedRow 10 = .ok (.iconst 1, 1) := by decide +kernel
theorem dX0_wantedRow_11 : decode cX0_wantedRow 11 = .ok (.iconst (-1), 1) := by decide +kernel
theorem dX0_wantedRow_12 : decode cX0_wantedRow 12 = .ok (.invokevirtual 129, 3) := by decide +kernel
theorem dX0_wantedRow_15 : decode cX0_wantedRow 15 = .ok (.areturn, 1) := by decide +kernel
theorem dX0_wantedRow_16 : decode cX0_wantedRow 16 = .ok (.aload_n 0, 1) := by decide +kernel
theorem dX0_wantedRow_17 : decode cX0_wantedRow 17 = .ok (.aload_n 1, 1) := by decide +kernel
theorem dX0_wantedRow_18 : decode cX0_wantedRow 18 = .ok (.iload_n 2, 1) := by decide +kernel
theorem dX0_wantedRow_19 : decode cX0_wantedRow 19 = .ok (.invokevirtual 87, 3) := by decide +kernel
theorem dX0_wantedRow_22 : decode cX0_wantedRow 22 = .ok (.astore 4, 2) := by decide +kernel
theorem dX0_wantedRow_24 : decode cX0_wantedRow 24 = .ok (.aload 4, 2) := by decide +kernel
theorem dX0_wantedRow_26 : decode cX0_wantedRow 26 = .ok (.ifnonnull 10, 3) := by decide +kernel
theorem dX0_wantedRow_29 : decode cX0_wantedRow 29 = .ok (.aload_n 0, 1) := by decide +kernel
theorem dX0_wantedRow_30 : decode cX0_wantedRow 30 = .ok (.iconst 2, 1) := by decide +kernel
theorem dX0_wantedRow_31 : decode cX0_wantedRow 31 = .ok (.iconst (-1), 1) := by decide +kernel
theorem dX0_wantedRow_32 : decode cX0_wantedRow 32 = .ok (.invokevirtual 129, 3) := by decide +kernel
theorem dX0_wantedRow_35 : decode cX0_wantedRow 35 = .ok (.areturn, 1) := by decide +kernel
theorem dX0_wantedRow_36 : decode cX0_wantedRow 36 = .ok (.iload_n 3, 1) := by decide +kernel
theorem dX0_wantedRow_37 : decode cX0_wantedRow 37 = .ok (.iconst (-1), 1) := by decide +kernel
theorem dX0_wantedRow_38 : decode cX0_wantedRow 38 = .ok (.if_icmp .eq 19, 3) := by decide +kernel
theorem dX0_wantedRow_41 : decode cX0_wantedRow 41 = .ok (.aload 4, 2) := by decide +kernel
theorem dX0_wantedRow_43 : decode cX0_wantedRow 43 = .ok (.getfield 133, 3) := by decide +kernel
theorem dX0_wantedRow_46 : decode cX0_wantedRow 46 = .ok (.iload_n 3, 1) := by decide +kernel
theorem dX0_wantedRow_47 : decode cX0_wantedRow 47 = .ok (.if_icmp .eq 10, 3) := by decide +kernel
theorem dX0_wantedRow_50 : decode cX0_wantedRow 50 = .ok (.aload_n 0, 1) := by decide +kernel
theorem dX0_wantedRow_51 : decode cX0_wantedRow 51 = .ok (.iconst 4, 1) := by decide +kernel
theorem dX0_wantedRow_52 : decode cX0_wantedRow 52 = .ok (.iconst (-1), 1) := by decide +kernel
theorem dX0_wantedRow_53 : decode cX0_wantedRow 53 = .ok (.invokevirtual 129, 3) := by decide +kernel
theorem dX0_wantedRow_56 : decode cX0_wantedRow 56 = .ok (.areturn, 1) := by decide +kernel
theorem dX0_wantedRow_57 : decode cX0_wantedRow 57 = .ok (.aload 4, 2) := by decide +kernel
theorem dX0_wantedRow_59 : decode cX0_wantedRow 59 = .ok (.areturn, 1) := by decide +kernel
theorem dX0_endsAhead_0 : decode cX0_endsAhead 0 = .ok (.aload_n 1, 1) := by decide +kernel
theorem dX0_endsAhead_1 : decode cX0_endsAhead 1 = .ok (.iload_n 2, 1) := by decide +kernel
theorem dX0_endsAhead_2 : decode cX0_endsAhead 2 = .ok (.invokevirtual 136, 3) := by decide +kernel
theorem dX0_endsAhead_5 : decode cX0_endsAhead 5 = .ok (.ifCond .eq 5, 3) := by decide +kernel
theorem dX0_endsAhead_8 : decode cX0_endsAhead 8 = .ok (.iconst 0, 1) := by decide +kernel
theorem dX0_endsAhead_9 : decode cX0_endsAhead 9 = .ok (.ireturn, 1) := by decide +kernel
theorem dX0_endsAhead_10 : decode cX0_endsAhead 10 = .ok (.aload_n 0, 1) := by decide +kernel
theorem dX0_endsAhead_11 : decode cX0_endsAhead 11 = .ok (.iconst 3, 1) := by decide +kernel
theorem dX0_endsAhead_12 : decode cX0_endsAhead 12 = .ok (.iload_n 2, 1) := by decide +kernel
theorem dX0_endsAhead_13 : decode cX0_endsAhead 13 = .ok (.invokevirtual 129, 3) := by decide +kernel
theorem dX0_endsAhead_16 : decode cX0_endsAhead 16 = .ok (.pop, 1) := by decide +kernel
theorem dX0_endsAhead_17 : decode cX0_endsAhead 17 = .ok (.iconst 1, 1) := by decide +kernel
theorem dX0_endsAhead_18 : decode cX0_endsAhead 18 = .ok (.ireturn, 1) := by decide +kernel
theorem dX0_playTable_0 : decode cX0_playTable 0 = .ok (.aload_n 1, 1) := by decide +kernel
theorem dX0_playTable_1 : decode cX0_playTable 1 = .ok (.getfield 78, 3) := by decide +kernel
theorem dX0_playTable_4 : decode cX0_playTable 4 = .ok (.iconst 0, 1) := by decide +kernel
theorem dX0_playTable_5 : decode cX0_playTable 5 = .ok (.iaload, 1) := by decide +kernel
theorem dX0_playTable_6 : decode cX0_playTable 6 = .ok (.istore_n 2, 1) := by decide +kernel
theorem dX0_playTable_7 : decode cX0_playTable 7 = .ok (.aload_n 0, 1) := by decide +kernel
theorem dX0_playTable_8 : decode cX0_playTable 8 = .ok (.getfield 19, 3) := by decide +kernel
theorem dX0_playTable_11 : decode cX0_playTable 11 = .ok (.iload_n 2, 1) := by decide +kernel
theorem dX0_playTable_12 : decode cX0_playTable 12 = .ok (.invokevirtual 140, 3) := by decide +kernel
theorem dX0_playTable_15 : decode cX0_playTable 15 = .ok (.ifCond .eq 10, 3) := by decide +kernel
theorem dX0_playTable_18 : decode cX0_playTable 18 = .ok (.aload_n 0, 1) := by decide +kernel
theorem dX0_playTable_19 : decode cX0_playTable 19 = .ok (.iconst 2, 1) := by decide +kernel
theorem dX0_playTable_20 : decode cX0_playTable 20 = .ok (.iconst (-1), 1) := by decide +kernel
theorem dX0_playTable_21 : decode cX0_playTable 21 = .ok (.invokevirtual 129, 3) := by decide +kernel
theorem dX0_playTable_24 : decode cX0_playTable 24 = .ok (.areturn, 1) := by decide +kernel
theorem dX0_playTable_25 : decode cX0_playTable 25 = .ok (.aload_n 0, 1) := by decide +kernel
theorem dX0_playTable_26 : decode cX0_playTable 26 = .ok (.getfield 19, 3) := by decide +kernel
theorem dX0_playTable_29 : decode cX0_playTable 29 = .ok (.iload_n 2, 1) := by decide +kernel
theorem dX0_playTable_30 : decode cX0_playTable 30 = .ok (.invokevirtual 145, 3) := by decide +kernel
theorem dX0_playTable_33 : decode cX0_playTable 33 = .ok (.istore_n 3, 1) := by decide +kernel
theorem dX0_playTable_34 : decode cX0_playTable 34 = .ok (.new 134, 3) := by decide +kernel
theorem dX0_playTable_37 : decode cX0_playTable 37 = .ok (.dup, 1) := by decide +kernel
theorem dX0_playTable_38 : decode cX0_playTable 38 = .ok (.aload_n 1, 1) := by decide +kernel
theorem dX0_playTable_39 : decode cX0_playTable 39 = .ok (.getfield 148, 3) := by decide +kernel
theorem dX0_playTable_42 : decode cX0_playTable 42 = .ok (.aload_n 0, 1) := by decide +kernel
theorem dX0_playTable_43 : decode cX0_playTable 43 = .ok (.getfield 27, 3) := by decide +kernel
theorem dX0_playTable_46 : decode cX0_playTable 46 = .ok (.invokespecial 151, 3) := by decide +kernel
theorem dX0_playTable_49 : decode cX0_playTable 49 = .ok (.astore 4, 2) := by decide +kernel
theorem dX0_playTable_51 : decode cX0_playTable 51 = .ok (.iconst 0, 1) := by decide +kernel
theorem dX0_playTable_52 : decode cX0_playTable 52 = .ok (.istore 5, 2) := by decide +kernel
theorem dX0_playTable_54 : decode cX0_playTable 54 = .ok (.iload 5, 2) := by decide +kernel
theorem dX0_playTable_56 : decode cX0_playTable 56 = .ok (.aload_n 0, 1) := by decide +kernel
theorem dX0_playTable_57 : decode cX0_playTable 57 = .ok (.getfield 27, 3) := by decide +kernel
theorem dX0_playTable_60 : decode cX0_playTable 60 = .ok (.if_icmp .ge 96, 3) := by decide +kernel
theorem dX0_playTable_63 : decode cX0_playTable 63 = .ok (.iload_n 3, 1) := by decide +kernel
theorem dX0_playTable_64 : decode cX0_playTable 64 = .ok (.ifCond .gt 11, 3) := by decide +kernel
theorem dX0_playTable_67 : decode cX0_playTable 67 = .ok (.aload_n 0, 1) := by decide +kernel
theorem dX0_playTable_68 : decode cX0_playTable 68 = .ok (.iconst 5, 1) := by decide +kernel
theorem dX0_playTable_69 : decode cX0_playTable 69 = .ok (.iload 5, 2) := by decide +kernel
theorem dX0_playTable_71 : decode cX0_playTable 71 = .ok (.invokevirtual 129, 3) := by decide +kernel
theorem dX0_playTable_74 : decode cX0_playTable 74 = .ok (.areturn, 1) := by decide +kernel
theorem dX0_playTable_75 : decode cX0_playTable 75 = .ok (.aload_n 0, 1) := by decide +kernel
theorem dX0_playTable_76 : decode cX0_playTable 76 = .ok (.getfield 19, 3) := by decide +kernel
theorem dX0_playTable_79 : decode cX0_playTable 79 = .ok (.iload_n 2, 1) := by decide +kernel
theorem dX0_playTable_80 : decode cX0_playTable 80 = .ok (.aload_n 1, 1) := by decide +kernel
theorem dX0_playTable_81 : decode cX0_playTable 81 = .ok (.getfield 58, 3) := by decide +kernel
theorem dX0_playTable_84 : decode cX0_playTable 84 = .ok (.getfield 154, 3) := by decide +kernel
theorem dX0_playTable_87 : decode cX0_playTable 87 = .ok (.invokevirtual 157, 3) := by decide +kernel
theorem dX0_playTable_90 : decode cX0_playTable 90 = .ok (.ifCond .ne 11, 3) := by decide +kernel
theorem dX0_playTable_93 : decode cX0_playTable 93 = .ok (.aload_n 0, 1) := by decide +kernel
theorem dX0_playTable_94 : decode cX0_playTable 94 = .ok (.iconst 3, 1) := by decide +kernel
theorem dX0_playTable_95 : decode cX0_playTable 95 = .ok (.iload 5, 2) := by decide +kernel
theorem dX0_playTable_97 : decode cX0_playTable 97 = .ok (.invokevirtual 129, 3) := by decide +kernel
theorem dX0_playTable_100 : decode cX0_playTable 100 = .ok (.areturn, 1) := by decide +kernel
theorem dX0_playTable_101 : decode cX0_playTable 101 = .ok (.aload_n 0, 1) := by decide +kernel
theorem dX0_playTable_102 : decode cX0_playTable 102 = .ok (.aload_n 1, 1) := by decide +kernel
theorem dX0_playTable_103 : decode cX0_playTable 103 = .ok (.aload 4, 2) := by decide +kernel
theorem dX0_playTable_105 : decode cX0_playTable 105 = .ok (.iload 5, 2) := by decide +kernel
theorem dX0_playTable_107 : decode cX0_playTable 107 = .ok (.aload_n 0, 1) := by decide +kernel
theorem dX0_playTable_108 : decode cX0_playTable 108 = .ok (.getfield 19, 3) := by decide +kernel
theorem dX0_playTable_111 : decode cX0_playTable 111 = .ok (.iload_n 2, 1) := by decide +kernel
theorem dX0_playTable_112 : decode cX0_playTable 112 = .ok (.aload_n 1, 1) := by decide +kernel
theorem dX0_playTable_113 : decode cX0_playTable 113 = .ok (.getfield 58, 3) := by decide +kernel
theorem dX0_playTable_116 : decode cX0_playTable 116 = .ok (.getfield 154, 3) := by decide +kernel
theorem dX0_playTable_119 : decode cX0_playTable 119 = .ok (.invokevirtual 161, 3) := by decide +kernel
theorem dX0_playTable_122 : decode cX0_playTable 122 = .ok (.invokevirtual 164, 3) := by decide +kernel
theorem dX0_playTable_125 : decode cX0_playTable 125 = .ok (.aload_n 1, 1) := by decide +kernel
theorem dX0_playTable_126 : decode cX0_playTable 126 = .ok (.getfield 58, 3) := by decide +kernel
theorem dX0_playTable_129 : decode cX0_playTable 129 = .ok (.aload_n 1, 1) := by decide +kernel
theorem dX0_playTable_130 : decode cX0_playTable 130 = .ok (.getfield 58, 3) := by decide +kernel
theorem dX0_playTable_133 : decode cX0_playTable 133 = .ok (.getfield 154, 3) := by decide +kernel
theorem dX0_playTable_136 : decode cX0_playTable 136 = .ok (.aload_n 1, 1) := by decide +kernel
theorem dX0_playTable_137 : decode cX0_playTable 137 = .ok (.getfield 78, 3) := by decide +kernel
theorem dX0_playTable_140 : decode cX0_playTable 140 = .ok (.iconst 1, 1) := by decide +kernel
theorem dX0_playTable_141 : decode cX0_playTable 141 = .ok (.iaload, 1) := by decide +kernel
theorem dX0_playTable_142 : decode cX0_playTable 142 = .ok (.iadd, 1) := by decide +kernel
theorem dX0_playTable_143 : decode cX0_playTable 143 = .ok (.iload_n 3, 1) := by decide +kernel
theorem dX0_playTable_144 : decode cX0_playTable 144 = .ok (.invokestatic 168, 3) := by decide +kernel
theorem dX0_playTable_147 : decode cX0_playTable 147 = .ok (.putfield 154, 3) := by decide +kernel
theorem dX0_playTable_150 : decode cX0_playTable 150 = .ok (.iinc 5 1, 3) := by decide +kernel
theorem dX0_playTable_153 : decode cX0_playTable 153 = .ok (.goto (-99), 3) := by decide +kernel
theorem dX0_playTable_156 : decode cX0_playTable 156 = .ok (.aload 4, 2) := by decide +kernel
theorem dX0_playTable_158 : decode cX0_playTable 158 = .ok (.areturn, 1) := by decide +kernel
theorem dX0_putFromTable_0 : decode cX0_putFromTable 0 = .ok (.aload_n 2, 1) := by decide +kernel
theorem dX0_putFromTable_1 : decode cX0_putFromTable 1 = .ok (.invokevirtual 173, 3) := by decide +kernel
theorem dX0_putFromTable_4 : decode cX0_putFromTable 4 = .ok (.ifCond .eq 18, 3) := by decide +kernel
theorem dX0_putFromTable_7 : decode cX0_putFromTable 7 = .ok (.iload 4, 2) := by decide +kernel
theorem dX0_putFromTable_9 : decode cX0_putFromTable 9 = .ok (.ldc 177, 2) := by decide +kernel
theorem dX0_putFromTable_11 : decode cX0_putFromTable 11 = .ok (.if_icmp .ne 11, 3) := by decide +kernel
theorem dX0_putFromTable_14 : decode cX0_putFromTable 14 = .ok (.aload_n 2, 1) := by decide +kernel
theorem dX0_putFromTable_15 : decode cX0_putFromTable 15 = .ok (.iload_n 3, 1) := by decide +kernel
theorem dX0_putFromTable_16 : decode cX0_putFromTable 16 = .ok (.invokevirtual 178, 3) := by decide +kernel
theorem dX0_putFromTable_19 : decode cX0_putFromTable 19 = .ok (.goto 12, 3) := by decide +kernel
theorem dX0_putFromTable_22 : decode cX0_putFromTable 22 = .ok (.aload_n 0, 1) := by decide +kernel
theorem dX0_putFromTable_23 : decode cX0_putFromTable 23 = .ok (.aload_n 1, 1) := by decide +kernel
theorem dX0_putFromTable_24 : decode cX0_putFromTable 24 = .ok (.aload_n 2, 1) := by decide +kernel
theorem dX0_putFromTable_25 : decode cX0_putFromTable 25 = .ok (.iload_n 3, 1) := by decide +kernel
theorem dX0_putFromTable_26 : decode cX0_putFromTable 26 = .ok (.iload 4, 2) := by decide +kernel
theorem dX0_putFromTable_28 : decode cX0_putFromTable 28 = .ok (.invokevirtual 181, 3) := by decide +kernel
theorem dX0_putFromTable_31 : decode cX0_putFromTable 31 = .ok (.return_, 1) := by decide +kernel
theorem dX0_putWhole_0 : decode cX0_putWhole 0 = .ok (.aload_n 2, 1) := by decide +kernel
theorem dX0_putWhole_1 : decode cX0_putWhole 1 = .ok (.getfield 133, 3) := by decide +kernel
theorem dX0_putWhole_4 : decode cX0_putWhole 4 = .ok (.tableswitch 82 0 2 #[28, 46, 71], 28) := by decide +kernel
theorem dX0_putWhole_32 : decode cX0_putWhole 32 = .ok (.aload_n 2, 1) := by decide +kernel
theorem dX0_putWhole_33 : decode cX0_putWhole 33 = .ok (.iload_n 3, 1) := by decide +kernel
theorem dX0_putWhole_34 : decode cX0_putWhole 34 = .ok (.iload 4, 2) := by decide +kernel
theorem dX0_putWhole_36 : decode cX0_putWhole 36 = .ok (.ifCond .le 7, 3) := by decide +kernel
theorem dX0_putWhole_39 : decode cX0_putWhole 39 = .ok (.dconst 1, 1) := by decide +kernel
theorem dX0_putWhole_40 : decode cX0_putWhole 40 = .ok (.goto 4, 3) := by decide +kernel
theorem dX0_putWhole_43 : decode cX0_putWhole 43 = .ok (.dconst 0, 1) := by decide +kernel
theorem dX0_putWhole_44 : decode cX0_putWhole 44 = .ok (.invokevirtual 184, 3) := by decide +kernel
theorem dX0_putWhole_47 : decode cX0_putWhole 47 = .ok (.goto 54, 3) := by decide +kernel
theorem dX0_putWhole_50 : decode cX0_putWhole 50 = .ok (.aload_n 2, 1) := by decide +kernel
theorem dX0_putWhole_51 : decode cX0_putWhole 51 = .ok (.iload_n 3, 1) := by decide +kernel
theorem dX0_putWhole_52 : decode cX0_putWhole 52 = .ok (.aload_n 1, 1) := by decide +kernel
theorem dX0_putWhole_53 : decode cX0_putWhole 53 = .ok (.getfield 58, 3) := by decide +kernel
theorem dX0_putWhole_56 : decode cX0_putWhole 56 = .ok (.sipush (-32768), 3) := by decide +kernel
theorem dX0_putWhole_59 : decode cX0_putWhole 59 = .ok (.sipush 32767, 3) := by decide +kernel
theorem dX0_putWhole_62 : decode cX0_putWhole 62 = .ok (.iload 4, 2) := by decide +kernel
theorem dX0_putWhole_64 : decode cX0_putWhole 64 = .ok (.i2l, 1) := by decide +kernel
theorem dX0_putWhole_65 : decode cX0_putWhole 65 = .ok (.invokevirtual 188, 3) := by decide +kernel
theorem dX0_putWhole_68 : decode cX0_putWhole 68 = .ok (.i2d, 1) := by decide +kernel
theorem dX0_putWhole_69 : decode cX0_putWhole 69 = .ok (.invokevirtual 184, 3) := by decide +kernel
theorem dX0_putWhole_72 : decode cX0_putWhole 72 = .ok (.goto 29, 3) := by decide +kernel
theorem dX0_putWhole_75 : decode cX0_putWhole 75 = .ok (.aload_n 2, 1) := by decide +kernel
theorem dX0_putWhole_76 : decode cX0_putWhole 76 = .ok (.iload_n 3, 1) := by decide +kernel
theorem dX0_putWhole_77 : decode cX0_putWhole 77 = .ok (.iload 4, 2) := by decide +kernel
theorem dX0_putWhole_79 : decode cX0_putWhole 79 = .ok (.i2d, 1) := by decide +kernel
theorem dX0_putWhole_80 : decode cX0_putWhole 80 = .ok (.invokevirtual 184, 3) := by decide +kernel
theorem dX0_putWhole_83 : decode cX0_putWhole 83 = .ok (.goto 18, 3) := by decide +kernel
theorem dX0_putWhole_86 : decode cX0_putWhole 86 = .ok (.aload_n 2, 1) := by decide +kernel
theorem dX0_putWhole_87 : decode cX0_putWhole 87 = .ok (.iload_n 3, 1) := by decide +kernel
theorem dX0_putWhole_88 : decode cX0_putWhole 88 = .ok (.iload 4, 2) := by decide +kernel
theorem dX0_putWhole_90 : decode cX0_putWhole 90 = .ok (.i2d, 1) := by decide +kernel
theorem dX0_putWhole_91 : decode cX0_putWhole 91 = .ok (.ldc2_w 192, 3) := by decide +kernel
theorem dX0_putWhole_94 : decode cX0_putWhole 94 = .ok (.ddiv, 1) := by decide +kernel
theorem dX0_putWhole_95 : decode cX0_putWhole 95 = .ok (.invokestatic 194, 3) := by decide +kernel
theorem dX0_putWhole_98 : decode cX0_putWhole 98 = .ok (.invokevirtual 184, 3) := by decide +kernel
theorem dX0_putWhole_101 : decode cX0_putWhole 101 = .ok (.return_, 1) := by decide +kernel
theorem dX0_shape_0 : decode cX0_shape 0 = .ok (.aload_n 0, 1) := by decide +kernel
theorem dX0_shape_1 : decode cX0_shape 1 = .ok (.aload_n 1, 1) := by decide +kernel
theorem dX0_shape_2 : decode cX0_shape 2 = .ok (.iconst 0, 1) := by decide +kernel
theorem dX0_shape_3 : decode cX0_shape 3 = .ok (.iconst 4, 1) := by decide +kernel
theorem dX0_shape_4 : decode cX0_shape 4 = .ok (.invokevirtual 198, 3) := by decide +kernel
theorem dX0_shape_7 : decode cX0_shape 7 = .ok (.astore_n 2, 1) := by decide +kernel
theorem dX0_shape_8 : decode cX0_shape 8 = .ok (.aload_n 2, 1) := by decide +kernel
theorem dX0_shape_9 : decode cX0_shape 9 = .ok (.ifnonnull 5, 3) := by decide +kernel
theorem dX0_shape_12 : decode cX0_shape 12 = .ok (.aconst_null, 1) := by decide +kernel
theorem dX0_shape_13 : decode cX0_shape 13 = .ok (.areturn, 1) := by decide +kernel
theorem dX0_shape_14 : decode cX0_shape 14 = .ok (.new 134, 3) := by decide +kernel
theorem dX0_shape_17 : decode cX0_shape 17 = .ok (.dup, 1) := by decide +kernel
theorem dX0_shape_18 : decode cX0_shape 18 = .ok (.iconst 4, 1) := by decide +kernel
theorem dX0_shape_19 : decode cX0_shape 19 = .ok (.aload_n 0, 1) := by decide +kernel
theorem dX0_shape_20 : decode cX0_shape 20 = .ok (.getfield 27, 3) := by decide +kernel
theorem dX0_shape_23 : decode cX0_shape 23 = .ok (.invokespecial 151, 3) := by decide +kernel
theorem dX0_shape_26 : decode cX0_shape 26 = .ok (.astore_n 3, 1) := by decide +kernel
theorem dX0_shape_27 : decode cX0_shape 27 = .ok (.iconst 0, 1) := by decide +kernel
theorem dX0_shape_28 : decode cX0_shape 28 = .ok (.istore 4, 2) := by decide +kernel
theorem dX0_shape_30 : decode cX0_shape 30 = .ok (.iload 4, 2) := by decide +kernel
theorem dX0_shape_32 : decode cX0_shape 32 = .ok (.aload_n 0, 1) := by decide +kernel
theorem dX0_shape_33 : decode cX0_shape 33 = .ok (.getfield 27, 3) := by decide +kernel
theorem dX0_shape_36 : decode cX0_shape 36 = .ok (.if_icmp .ge 58, 3) := by decide +kernel
theorem dX0_shape_39 : decode cX0_shape 39 = .ok (.aload_n 0, 1) := by decide +kernel
theorem dX0_shape_40 : decode cX0_shape 40 = .ok (.aload_n 2, 1) := by decide +kernel
theorem dX0_shape_41 : decode cX0_shape 41 = .ok (.iload 4, 2) := by decide +kernel
theorem dX0_shape_43 : decode cX0_shape 43 = .ok (.invokevirtual 202, 3) := by decide +kernel
theorem dX0_shape_46 : decode cX0_shape 46 = .ok (.ifCond .eq 5, 3) := by decide +kernel
theorem dX0_shape_49 : decode cX0_shape 49 = .ok (.aconst_null, 1) := by decide +kernel
theorem dX0_shape_50 : decode cX0_shape 50 = .ok (.areturn, 1) := by decide +kernel
theorem dX0_shape_51 : decode cX0_shape 51 = .ok (.aload_n 2, 1) := by decide +kernel
theorem dX0_shape_52 : decode cX0_shape 52 = .ok (.iload 4, 2) := by decide +kernel
theorem dX0_shape_54 : decode cX0_shape 54 = .ok (.invokevirtual 206, 3) := by decide +kernel
theorem dX0_shape_57 : decode cX0_shape 57 = .ok (.ifCond .eq 12, 3) := by decide +kernel
theorem dX0_shape_60 : decode cX0_shape 60 = .ok (.aload_n 3, 1) := by decide +kernel
theorem dX0_shape_61 : decode cX0_shape 61 = .ok (.iload 4, 2) := by decide +kernel
theorem dX0_shape_63 : decode cX0_shape 63 = .ok (.invokevirtual 178, 3) := by decide +kernel
theorem dX0_shape_66 : decode cX0_shape 66 = .ok (.goto 22, 3) := by decide +kernel
theorem dX0_shape_69 : decode cX0_shape 69 = .ok (.aload_n 3, 1) := by decide +kernel
theorem dX0_shape_70 : decode cX0_shape 70 = .ok (.iload 4, 2) := by decide +kernel
theorem dX0_shape_72 : decode cX0_shape 72 = .ok (.aload_n 0, 1) := by decide +kernel
theorem dX0_shape_73 : decode cX0_shape 73 = .ok (.aload_n 1, 1) := by decide +kernel
theorem dX0_shape_74 : decode cX0_shape 74 = .ok (.iload 4, 2) := by decide +kernel
theorem dX0_shape_76 : decode cX0_shape 76 = .ok (.aload_n 2, 1) := by decide +kernel
theorem dX0_shape_77 : decode cX0_shape 77 = .ok (.iload 4, 2) := by decide +kernel
theorem dX0_shape_79 : decode cX0_shape 79 = .ok (.invokevirtual 209, 3) := by decide +kernel
theorem dX0_shape_82 : decode cX0_shape 82 = .ok (.invokevirtual 213, 3) := by decide +kernel
theorem dX0_shape_85 : decode cX0_shape 85 = .ok (.invokevirtual 184, 3) := by decide +kernel
theorem dX0_shape_88 : decode cX0_shape 88 = .ok (.iinc 4 1, 3) := by decide +kernel
theorem dX0_shape_91 : decode cX0_shape 91 = .ok (.goto (-61), 3) := by decide +kernel
theorem dX0_shape_94 : decode cX0_shape 94 = .ok (.aload_n 3, 1) := by decide +kernel
theorem dX0_shape_95 : decode cX0_shape 95 = .ok (.areturn, 1) := by decide +kernel
theorem dX0_shapedSample_0 : decode cX0_shapedSample 0 = .ok (.aload_n 1, 1) := by decide +kernel
theorem dX0_shapedSample_1 : decode cX0_shapedSample 1 = .ok (.getfield 58, 3) := by decide +kernel
theorem dX0_shapedSample_4 : decode cX0_shapedSample 4 = .ok (.astore 5, 2) := by decide +kernel
theorem dX0_shapedSample_6 : decode cX0_shapedSample 6 = .ok (.aload_n 0, 1) := by decide +kernel
theorem dX0_shapedSample_7 : decode cX0_shapedSample 7 = .ok (.aload_n 1, 1) := by decide +kernel
theorem dX0_shapedSample_8 : decode cX0_shapedSample 8 = .ok (.iload_n 2, 1) := by decide +kernel
theorem dX0_shapedSample_9 : decode cX0_shapedSample 9 = .ok (.invokevirtual 217, 3) := by decide +kernel
theorem dX0_shapedSample_12 : decode cX0_shapedSample 12 = .ok (.dload_n 3, 1) := by decide +kernel
theorem dX0_shapedSample_13 : decode cX0_shapedSample 13 = .ok (.dmul, 1) := by decide +kernel
theorem dX0_shapedSample_14 : decode cX0_shapedSample 14 = .ok (.invokestatic 194, 3) := by decide +kernel
theorem dX0_shapedSample_17 : decode cX0_shapedSample 17 = .ok (.dstore 6, 2) := by decide +kernel
theorem dX0_shapedSample_19 : decode cX0_shapedSample 19 = .ok (.aload_n 1, 1) := by decide +kernel
theorem dX0_shapedSample_20 : decode cX0_shapedSample 20 = .ok (.getfield 84, 3) := by decide +kernel
theorem dX0_shapedSample_23 : decode cX0_shapedSample 23 = .ok (.iconst 1, 1) := by decide +kernel
theorem dX0_shapedSample_24 : decode cX0_shapedSample 24 = .ok (.if_icmp .ne 6, 3) := by decide +kernel
theorem dX0_shapedSample_27 : decode cX0_shapedSample 27 = .ok (.dload 6, 2) := by decide +kernel
theorem dX0_shapedSample_29 : decode cX0_shapedSample 29 = .ok (.dreturn, 1) := by decide +kernel
theorem dX0_shapedSample_30 : decode cX0_shapedSample 30 = .ok (.dload 6, 2) := by decide +kernel
theorem dX0_shapedSample_32 : decode cX0_shapedSample 32 = .ok (.aload 5, 2) := by decide +kernel
theorem dX0_shapedSample_34 : decode cX0_shapedSample 34 = .ok (.getfield 221, 3) := by decide +kernel
theorem dX0_shapedSample_37 : decode cX0_shapedSample 37 = .ok (.aload_n 1, 1) := by decide +kernel
theorem dX0_shapedSample_38 : decode cX0_shapedSample 38 = .ok (.getfield 78, 3) := by decide +kernel
theorem dX0_shapedSample_41 : decode cX0_shapedSample 41 = .ok (.iconst 1, 1) := by decide +kernel
theorem dX0_shapedSample_42 : decode cX0_shapedSample 42 = .ok (.iaload, 1) := by decide +kernel
theorem dX0_shapedSample_43 : decode cX0_shapedSample 43 = .ok (.i2d, 1) := by decide +kernel
theorem dX0_shapedSample_44 : decode cX0_shapedSample 44 = .ok (.ldc2_w 225, 3) := by decide +kernel
theorem dX0_shapedSample_47 : decode cX0_shapedSample 47 = .ok (.ddiv, 1) := by decide +kernel
theorem dX0_shapedSample_48 : decode cX0_shapedSample 48 = .ok (.dmul, 1) := by decide +kernel
theorem dX0_shapedSample_49 : decode cX0_shapedSample 49 = .ok (.dadd, 1) := by decide +kernel
theorem dX0_shapedSample_50 : decode cX0_shapedSample 50 = .ok (.invokestatic 194, 3) := by decide +kernel
theorem dX0_shapedSample_53 : decode cX0_shapedSample 53 = .ok (.dstore 8, 2) := by decide +kernel
theorem dX0_shapedSample_55 : decode cX0_shapedSample 55 = .ok (.aload 5, 2) := by decide +kernel
theorem dX0_shapedSample_57 : decode cX0_shapedSample 57 = .ok (.dload 8, 2) := by decide +kernel
theorem dX0_shapedSample_59 : decode cX0_shapedSample 59 = .ok (.putfield 221, 3) := by decide +kernel
theorem dX0_shapedSample_62 : decode cX0_shapedSample 62 = .ok (.aload_n 1, 1) := by decide +kernel
theorem dX0_shapedSample_63 : decode cX0_shapedSample 63 = .ok (.getfield 84, 3) := by decide +kernel
theorem dX0_shapedSample_66 : decode cX0_shapedSample 66 = .ok (.iconst 4, 1) := by decide +kernel
theorem dX0_shapedSample_67 : decode cX0_shapedSample 67 = .ok (.if_icmp .eq 6, 3) := by decide +kernel
theorem dX0_shapedSample_70 : decode cX0_shapedSample 70 = .ok (.dload 8, 2) := by decide +kernel
theorem dX0_shapedSample_72 : decode cX0_shapedSample 72 = .ok (.dreturn, 1) := by decide +kernel
theorem dX0_shapedSample_73 : decode cX0_shapedSample 73 = .ok (.dload 8, 2) := by decide +kernel
theorem dX0_shapedSample_75 : decode cX0_shapedSample 75 = .ok (.aload 5, 2) := by decide +kernel
theorem dX0_shapedSample_77 : decode cX0_shapedSample 77 = .ok (.getfield 227, 3) := by decide +kernel
theorem dX0_shapedSample_80 : decode cX0_shapedSample 80 = .ok (.dadd, 1) := by decide +kernel
theorem dX0_shapedSample_81 : decode cX0_shapedSample 81 = .ok (.invokestatic 194, 3) := by decide +kernel
theorem dX0_shapedSample_84 : decode cX0_shapedSample 84 = .ok (.dstore 10, 2) := by decide +kernel
theorem dX0_shapedSample_86 : decode cX0_shapedSample 86 = .ok (.aload 5, 2) := by decide +kernel
theorem dX0_shapedSample_88 : decode cX0_shapedSample 88 = .ok (.dload 8, 2) := by decide +kernel
theorem dX0_shapedSample_90 : decode cX0_shapedSample 90 = .ok (.aload_n 1, 1) := by decide +kernel
theorem dX0_shapedSample_91 : decode cX0_shapedSample 91 = .ok (.getfield 78, 3) := by decide +kernel
theorem dX0_shapedSample_94 : decode cX0_shapedSample 94 = .ok (.iconst 2, 1) := by decide +kernel
theorem dX0_shapedSample_95 : decode cX0_shapedSample 95 = .ok (.iaload, 1) := by decide +kernel
theorem dX0_shapedSample_96 : decode cX0_shapedSample 96 = .ok (.i2d, 1) := by decide +kernel
theorem dX0_shapedSample_97 : decode cX0_shapedSample 97 = .ok (.ldc2_w 225, 3) := by decide +kernel
theorem dX0_shapedSample_100 : decode cX0_shapedSample 100 = .ok (.ddiv, 1) := by decide +kernel
theorem dX0_shapedSample_101 : decode cX0_shapedSample 101 = .ok (.dmul, 1) := by decide +kernel
theorem dX0_shapedSample_102 : decode cX0_shapedSample 102 = .ok (.invokestatic 194, 3) := by decide +kernel
theorem dX0_shapedSample_105 : decode cX0_shapedSample 105 = .ok (.putfield 227, 3) := by decide +kernel
theorem dX0_shapedSample_108 : decode cX0_shapedSample 108 = .ok (.dload 10, 2) := by decide +kernel
theorem dX0_shapedSample_110 : decode cX0_shapedSample 110 = .ok (.dreturn, 1) := by decide +kernel
theorem dX0_gainAt_0 : decode cX0_gainAt 0 = .ok (.aload_n 1, 1) := by decide +kernel
theorem dX0_gainAt_1 : decode cX0_gainAt 1 = .ok (.getfield 58, 3) := by decide +kernel
theorem dX0_gainAt_4 : decode cX0_gainAt 4 = .ok (.getfield 81, 3) := by decide +kernel
theorem dX0_gainAt_7 : decode cX0_gainAt 7 = .ok (.istore_n 3, 1) := by decide +kernel
theorem dX0_gainAt_8 : decode cX0_gainAt 8 = .ok (.aload_n 1, 1) := by decide +kernel
theorem dX0_gainAt_9 : decode cX0_gainAt 9 = .ok (.getfield 78, 3) := by decide +kernel
theorem dX0_gainAt_12 : decode cX0_gainAt 12 = .ok (.iconst 0, 1) := by decide +kernel
theorem dX0_gainAt_13 : decode cX0_gainAt 13 = .ok (.iaload, 1) := by decide +kernel
theorem dX0_gainAt_14 : decode cX0_gainAt 14 = .ok (.iload_n 3, 1) := by decide +kernel
theorem dX0_gainAt_15 : decode cX0_gainAt 15 = .ok (.isub, 1) := by decide +kernel
theorem dX0_gainAt_16 : decode cX0_gainAt 16 = .ok (.iload_n 2, 1) := by decide +kernel
theorem dX0_gainAt_17 : decode cX0_gainAt 17 = .ok (.iconst 1, 1) := by decide +kernel
theorem dX0_gainAt_18 : decode cX0_gainAt 18 = .ok (.iadd, 1) := by decide +kernel
theorem dX0_gainAt_19 : decode cX0_gainAt 19 = .ok (.imul, 1) := by decide +kernel
theorem dX0_gainAt_20 : decode cX0_gainAt 20 = .ok (.i2d, 1) := by decide +kernel
theorem dX0_gainAt_21 : decode cX0_gainAt 21 = .ok (.dstore 4, 2) := by decide +kernel
theorem dX0_gainAt_23 : decode cX0_gainAt 23 = .ok (.iload_n 3, 1) := by decide +kernel
theorem dX0_gainAt_24 : decode cX0_gainAt 24 = .ok (.i2d, 1) := by decide +kernel
theorem dX0_gainAt_25 : decode cX0_gainAt 25 = .ok (.dload 4, 2) := by decide +kernel
theorem dX0_gainAt_27 : decode cX0_gainAt 27 = .ok (.aload_n 0, 1) := by decide +kernel
theorem dX0_gainAt_28 : decode cX0_gainAt 28 = .ok (.getfield 27, 3) := by decide +kernel
theorem dX0_gainAt_31 : decode cX0_gainAt 31 = .ok (.i2d, 1) := by decide +kernel
theorem dX0_gainAt_32 : decode cX0_gainAt 32 = .ok (.ddiv, 1) := by decide +kernel
theorem dX0_gainAt_33 : decode cX0_gainAt 33 = .ok (.dadd, 1) := by decide +kernel
theorem dX0_gainAt_34 : decode cX0_gainAt 34 = .ok (.ldc2_w 225, 3) := by decide +kernel
theorem dX0_gainAt_37 : decode cX0_gainAt 37 = .ok (.ddiv, 1) := by decide +kernel
theorem dX0_gainAt_38 : decode cX0_gainAt 38 = .ok (.dreturn, 1) := by decide +kernel
theorem dX0_mix_0 : decode cX0_mix 0 = .ok (.iconst 0, 1) := by decide +kernel
theorem dX0_mix_1 : decode cX0_mix 1 = .ok (.istore_n 2, 1) := by decide +kernel
theorem dX0_mix_2 : decode cX0_mix 2 = .ok (.iconst 0, 1) := by decide +kernel
theorem dX0_mix_3 : decode cX0_mix 3 = .ok (.istore_n 3, 1) := by decide +kernel
theorem dX0_mix_4 : decode cX0_mix 4 = .ok (.iload_n 3, 1) := by decide +kernel
theorem dX0_mix_5 : decode cX0_mix 5 = .ok (.aload_n 1, 1) := by decide +kernel
theorem dX0_mix_6 : decode cX0_mix 6 = .ok (.invokevirtual 230, 3) := by decide +kernel
theorem dX0_mix_9 : decode cX0_mix 9 = .ok (.if_icmp .ge 53, 3) := by decide +kernel
theorem dX0_mix_12 : decode cX0_mix 12 = .ok (.aload_n 0, 1) := by decide +kernel
theorem dX0_mix_13 : decode cX0_mix 13 = .ok (.aload_n 1, 1) := by decide +kernel
theorem dX0_mix_14 : decode cX0_mix 14 = .ok (.iload_n 3, 1) := by decide +kernel
theorem dX0_mix_15 : decode cX0_mix 15 = .ok (.invokevirtual 87, 3) := by decide +kernel
theorem dX0_mix_18 : decode cX0_mix 18 = .ok (.astore 4, 2) := by decide +kernel
theorem dX0_mix_20 : decode cX0_mix 20 = .ok (.aload 4, 2) := by decide +kernel
theorem dX0_mix_22 : decode cX0_mix 22 = .ok (.ifnull 19, 3) := by decide +kernel
theorem dX0_mix_25 : decode cX0_mix 25 = .ok (.aload 4, 2) := by decide +kernel
theorem dX0_mix_27 : decode cX0_mix 27 = .ok (.getfield 133, 3) := by decide +kernel
theorem dX0_mix_30 : decode cX0_mix 30 = .ok (.iconst 2, 1) := by decide +kernel
theorem dX0_mix_31 : decode cX0_mix 31 = .ok (.if_icmp .eq 10, 3) := by decide +kernel
theorem dX0_mix_34 : decode cX0_mix 34 = .ok (.aload_n 0, 1) := by decide +kernel
theorem dX0_mix_35 : decode cX0_mix 35 = .ok (.iconst 4, 1) := by decide +kernel
theorem dX0_mix_36 : decode cX0_mix 36 = .ok (.iconst (-1), 1) := by decide +kernel
theorem dX0_mix_37 : decode cX0_mix 37 = .ok (.invokevirtual 129, 3) := by decide +kernel
theorem dX0_mix_40 : decode cX0_mix 40 = .ok (.areturn, 1) := by decide +kernel
theorem dX0_mix_41 : decode cX0_mix 41 = .ok (.iload_n 2, 1) := by decide +kernel
theorem dX0_mix_42 : decode cX0_mix 42 = .ok (.ifCond .ne 8, 3) := by decide +kernel
theorem dX0_mix_45 : decode cX0_mix 45 = .ok (.aload 4, 2) := by decide +kernel
theorem dX0_mix_47 : decode cX0_mix 47 = .ok (.ifnull 7, 3) := by decide +kernel
theorem dX0_mix_50 : decode cX0_mix 50 = .ok (.iconst 1, 1) := by decide +kernel
theorem dX0_mix_51 : decode cX0_mix 51 = .ok (.goto 4, 3) := by decide +kernel
theorem dX0_mix_54 : decode cX0_mix 54 = .ok (.iconst 0, 1) := by decide +kernel
theorem dX0_mix_55 : decode cX0_mix 55 = .ok (.istore_n 2, 1) := by decide +kernel
theorem dX0_mix_56 : decode cX0_mix 56 = .ok (.iinc 3 1, 3) := by decide +kernel
theorem dX0_mix_59 : decode cX0_mix 59 = .ok (.goto (-55), 3) := by decide +kernel
theorem dX0_mix_62 : decode cX0_mix 62 = .ok (.iload_n 2, 1) := by decide +kernel
theorem dX0_mix_63 : decode cX0_mix 63 = .ok (.ifCond .ne 5, 3) := by decide +kernel
theorem dX0_mix_66 : decode cX0_mix 66 = .ok (.aconst_null, 1) := by decide +kernel
theorem dX0_mix_67 : decode cX0_mix 67 = .ok (.areturn, 1) := by decide +kernel
theorem dX0_mix_68 : decode cX0_mix 68 = .ok (.new 134, 3) := by decide +kernel
theorem dX0_mix_71 : decode cX0_mix 71 = .ok (.dup, 1) := by decide +kernel
theorem dX0_mix_72 : decode cX0_mix 72 = .ok (.iconst 2, 1) := by decide +kernel
theorem dX0_mix_73 : decode cX0_mix 73 = .ok (.aload_n 0, 1) := by decide +kernel
theorem dX0_mix_74 : decode cX0_mix 74 = .ok (.getfield 27, 3) := by decide +kernel
theorem dX0_mix_77 : decode cX0_mix 77 = .ok (.invokespecial 151, 3) := by decide +kernel
theorem dX0_mix_80 : decode cX0_mix 80 = .ok (.astore_n 3, 1) := by decide +kernel
theorem dX0_mix_81 : decode cX0_mix 81 = .ok (.iconst 0, 1) := by decide +kernel
theorem dX0_mix_82 : decode cX0_mix 82 = .ok (.istore 4, 2) := by decide +kernel
theorem dX0_mix_84 : decode cX0_mix 84 = .ok (.iload 4, 2) := by decide +kernel
theorem dX0_mix_86 : decode cX0_mix 86 = .ok (.aload_n 0, 1) := by decide +kernel
theorem dX0_mix_87 : decode cX0_mix 87 = .ok (.getfield 27, 3) := by decide +kernel
theorem dX0_mix_90 : decode cX0_mix 90 = .ok (.if_icmp .ge 41, 3) := by decide +kernel
theorem dX0_mix_93 : decode cX0_mix 93 = .ok (.aload_n 0, 1) := by decide +kernel
theorem dX0_mix_94 : decode cX0_mix 94 = .ok (.getfield 30, 3) := by decide +kernel
theorem dX0_mix_97 : decode cX0_mix 97 = .ok (.ifCond .ne 34, 3) := by decide +kernel
theorem dX0_mix_100 : decode cX0_mix 100 = .ok (.aload_n 3, 1) := by decide +kernel
theorem dX0_mix_101 : decode cX0_mix 101 = .ok (.iload 4, 2) := by decide +kernel
theorem dX0_mix_103 : decode cX0_mix 103 = .ok (.aload_n 1, 1) := by decide +kernel
theorem dX0_mix_104 : decode cX0_mix 104 = .ok (.getfield 58, 3) := by decide +kernel
theorem dX0_mix_107 : decode cX0_mix 107 = .ok (.ldc 177, 2) := by decide +kernel
theorem dX0_mix_109 : decode cX0_mix 109 = .ok (.ldc 234, 2) := by decide +kernel
theorem dX0_mix_111 : decode cX0_mix 111 = .ok (.aload_n 0, 1) := by decide +kernel
theorem dX0_mix_112 : decode cX0_mix 112 = .ok (.aload_n 1, 1) := by decide +kernel
theorem dX0_mix_113 : decode cX0_mix 113 = .ok (.iload 4, 2) := by decide +kernel
theorem dX0_mix_115 : decode cX0_mix 115 = .ok (.invokevirtual 235, 3) := by decide +kernel
theorem dX0_mix_118 : decode cX0_mix 118 = .ok (.invokevirtual 188, 3) := by decide +kernel
theorem dX0_mix_121 : decode cX0_mix 121 = .ok (.i2d, 1) := by decide +kernel
theorem dX0_mix_122 : decode cX0_mix 122 = .ok (.invokevirtual 184, 3) := by decide +kernel
theorem dX0_mix_125 : decode cX0_mix 125 = .ok (.iinc 4 1, 3) := by decide +kernel
theorem dX0_mix_128 : decode cX0_mix 128 = .ok (.goto (-44), 3) := by decide +kernel
theorem dX0_mix_131 : decode cX0_mix 131 = .ok (.aload_n 3, 1) := by decide +kernel
theorem dX0_mix_132 : decode cX0_mix 132 = .ok (.areturn, 1) := by decide +kernel
theorem dX0_sumAt_0 : decode cX0_sumAt 0 = .ok (.lconst 0, 1) := by decide +kernel
theorem dX0_sumAt_1 : decode cX0_sumAt 1 = .ok (.lstore_n 3, 1) := by decide +kernel
theorem dX0_sumAt_2 : decode cX0_sumAt 2 = .ok (.iconst 0, 1) := by decide +kernel
theorem dX0_sumAt_3 : decode cX0_sumAt 3 = .ok (.istore 5, 2) := by decide +kernel
theorem dX0_sumAt_5 : decode cX0_sumAt 5 = .ok (.iload 5, 2) := by decide +kernel
theorem dX0_sumAt_7 : decode cX0_sumAt 7 = .ok (.aload_n 1, 1) := by decide +kernel
theorem dX0_sumAt_8 : decode cX0_sumAt 8 = .ok (.invokevirtual 230, 3) := by decide +kernel
theorem dX0_sumAt_11 : decode cX0_sumAt 11 = .ok (.if_icmp .ge 43, 3) := by decide +kernel
theorem dX0_sumAt_14 : decode cX0_sumAt 14 = .ok (.aload_n 0, 1) := by decide +kernel
theorem dX0_sumAt_15 : decode cX0_sumAt 15 = .ok (.aload_n 1, 1) := by decide +kernel
theorem dX0_sumAt_16 : decode cX0_sumAt 16 = .ok (.iload 5, 2) := by decide +kernel
theorem dX0_sumAt_18 : decode cX0_sumAt 18 = .ok (.invokevirtual 87, 3) := by decide +kernel
theorem dX0_sumAt_21 : decode cX0_sumAt 21 = .ok (.astore 6, 2) := by decide +kernel
theorem dX0_sumAt_23 : decode cX0_sumAt 23 = .ok (.aload 6, 2) := by decide +kernel
theorem dX0_sumAt_25 : decode cX0_sumAt 25 = .ok (.ifnull 23, 3) := by decide +kernel
theorem dX0_sumAt_28 : decode cX0_sumAt 28 = .ok (.aload_n 0, 1) := by decide +kernel
theorem dX0_sumAt_29 : decode cX0_sumAt 29 = .ok (.aload 6, 2) := by decide +kernel
theorem dX0_sumAt_31 : decode cX0_sumAt 31 = .ok (.iload_n 2, 1) := by decide +kernel
theorem dX0_sumAt_32 : decode cX0_sumAt 32 = .ok (.invokevirtual 202, 3) := by decide +kernel
theorem dX0_sumAt_35 : decode cX0_sumAt 35 = .ok (.ifCond .ne 13, 3) := by decide +kernel
theorem dX0_sumAt_38 : decode cX0_sumAt 38 = .ok (.lload_n 3, 1) := by decide +kernel
theorem dX0_sumAt_39 : decode cX0_sumAt 39 = .ok (.aload 6, 2) := by decide +kernel
theorem dX0_sumAt_41 : decode cX0_sumAt 41 = .ok (.iload_n 2, 1) := by decide +kernel
theorem dX0_sumAt_42 : decode cX0_sumAt 42 = .ok (.invokevirtual 209, 3) := by decide +kernel
theorem dX0_sumAt_45 : decode cX0_sumAt 45 = .ok (.d2l, 1) := by decide +kernel
theorem dX0_sumAt_46 : decode cX0_sumAt 46 = .ok (.ladd, 1) := by decide +kernel
theorem dX0_sumAt_47 : decode cX0_sumAt 47 = .ok (.lstore_n 3, 1) := by decide +kernel
theorem dX0_sumAt_48 : decode cX0_sumAt 48 = .ok (.iinc 5 1, 3) := by decide +kernel
theorem dX0_sumAt_51 : decode cX0_sumAt 51 = .ok (.goto (-46), 3) := by decide +kernel
theorem dX0_sumAt_54 : decode cX0_sumAt 54 = .ok (.lload_n 3, 1) := by decide +kernel
theorem dX0_sumAt_55 : decode cX0_sumAt 55 = .ok (.lreturn, 1) := by decide +kernel
theorem dX0_openGate_0 : decode cX0_openGate 0 = .ok (.aload_n 0, 1) := by decide +kernel
theorem dX0_openGate_1 : decode cX0_openGate 1 = .ok (.aload_n 1, 1) := by decide +kernel
theorem dX0_openGate_2 : decode cX0_openGate 2 = .ok (.iconst 0, 1) := by decide +kernel
theorem dX0_openGate_3 : decode cX0_openGate 3 = .ok (.iconst 4, 1) := by decide +kernel
theorem dX0_openGate_4 : decode cX0_openGate 4 = .ok (.invokevirtual 198, 3) := by decide +kernel
theorem dX0_openGate_7 : decode cX0_openGate 7 = .ok (.astore_n 2, 1) := by decide +kernel
theorem dX0_openGate_8 : decode cX0_openGate 8 = .ok (.aload_n 2, 1) := by decide +kernel
theorem dX0_openGate_9 : decode cX0_openGate 9 = .ok (.ifnonnull 5, 3) := by decide +kernel
theorem dX0_openGate_12 : decode cX0_openGate 12 = .ok (.aconst_null, 1) := by decide +kernel
theorem dX0_openGate_13 : decode cX0_openGate 13 = .ok (.areturn, 1) := by decide +kernel
theorem dX0_openGate_14 : decode cX0_openGate 14 = .ok (.new 134, 3) := by decide +kernel
theorem dX0_openGate_17 : decode cX0_openGate 17 = .ok (.dup, 1) := by decide +kernel
theorem dX0_openGate_18 : decode cX0_openGate 18 = .ok (.iconst 0, 1) := by decide +kernel
theorem dX0_openGate_19 : decode cX0_openGate 19 = .ok (.aload_n 0, 1) := by decide +kernel
theorem dX0_openGate_20 : decode cX0_openGate 20 = .ok (.getfield 27, 3) := by decide +kernel
theorem dX0_openGate_23 : decode cX0_openGate 23 = .ok (.invokespecial 151, 3) := by decide +kernel
theorem dX0_openGate_26 : decode cX0_openGate 26 = .ok (.astore_n 3, 1) := by decide +kernel
theorem dX0_openGate_27 : decode cX0_openGate 27 = .ok (.iconst 0, 1) := by decide +kernel
theorem dX0_openGate_28 : decode cX0_openGate 28 = .ok (.istore 4, 2) := by decide +kernel
theorem dX0_openGate_30 : decode cX0_openGate 30 = .ok (.iload 4, 2) := by decide +kernel
theorem dX0_openGate_32 : decode cX0_openGate 32 = .ok (.aload_n 0, 1) := by decide +kernel
theorem dX0_openGate_33 : decode cX0_openGate 33 = .ok (.getfield 27, 3) := by decide +kernel
theorem dX0_openGate_36 : decode cX0_openGate 36 = .ok (.if_icmp .ge 62, 3) := by decide +kernel
theorem dX0_openGate_39 : decode cX0_openGate 39 = .ok (.aload_n 0, 1) := by decide +kernel
theorem dX0_openGate_40 : decode cX0_openGate 40 = .ok (.aload_n 2, 1) := by decide +kernel
theorem dX0_openGate_41 : decode cX0_openGate 41 = .ok (.iload 4, 2) := by decide +kernel
theorem dX0_openGate_43 : decode cX0_openGate 43 = .ok (.invokevirtual 202, 3) := by decide +kernel
theorem dX0_openGate_46 : decode cX0_openGate 46 = .ok (.ifCond .eq 5, 3) := by decide +kernel
theorem dX0_openGate_49 : decode cX0_openGate 49 = .ok (.aconst_null, 1) := by decide +kernel
theorem dX0_openGate_50 : decode cX0_openGate 50 = .ok (.areturn, 1) := by decide +kernel
theorem dX0_openGate_51 : decode cX0_openGate 51 = .ok (.aload_n 2, 1) := by decide +kernel
theorem dX0_openGate_52 : decode cX0_openGate 52 = .ok (.iload 4, 2) := by decide +kernel
theorem dX0_openGate_54 : decode cX0_openGate 54 = .ok (.invokevirtual 206, 3) := by decide +kernel
theorem dX0_openGate_57 : decode cX0_openGate 57 = .ok (.ifCond .ne 21, 3) := by decide +kernel
theorem dX0_openGate_60 : decode cX0_openGate 60 = .ok (.aload_n 1, 1) := by decide +kernel
theorem dX0_openGate_61 : decode cX0_openGate 61 = .ok (.getfield 58, 3) := by decide +kernel
theorem dX0_openGate_64 : decode cX0_openGate 64 = .ok (.aload_n 0, 1) := by decide +kernel
theorem dX0_openGate_65 : decode cX0_openGate 65 = .ok (.aload_n 1, 1) := by decide +kernel
theorem dX0_openGate_66 : decode cX0_openGate 66 = .ok (.aload_n 2, 1) := by decide +kernel
theorem dX0_openGate_67 : decode cX0_openGate 67 = .ok (.iload 4, 2) := by decide +kernel
theorem dX0_openGate_69 : decode cX0_openGate 69 = .ok (.invokevirtual 209, 3) := by decide +kernel
theorem dX0_openGate_72 : decode cX0_openGate 72 = .ok (.invokevirtual 239, 3) := by decide +kernel
theorem dX0_openGate_75 : decode cX0_openGate 75 = .ok (.putfield 243, 3) := by decide +kernel
theorem dX0_openGate_78 : decode cX0_openGate 78 = .ok (.aload_n 3, 1) := by decide +kernel
theorem dX0_openGate_79 : decode cX0_openGate 79 = .ok (.iload 4, 2) := by decide +kernel
theorem dX0_openGate_81 : decode cX0_openGate 81 = .ok (.aload_n 1, 1) := by decide +kernel
theorem dX0_openGate_82 : decode cX0_openGate 82 = .ok (.getfield 58, 3) := by decide +kernel
theorem dX0_openGate_85 : decode cX0_openGate 85 = .ok (.getfield 243, 3) := by decide +kernel
theorem dX0_openGate_88 : decode cX0_openGate 88 = .ok (.i2d, 1) := by decide +kernel
theorem dX0_openGate_89 : decode cX0_openGate 89 = .ok (.invokevirtual 184, 3) := by decide +kernel
theorem dX0_openGate_92 : decode cX0_openGate 92 = .ok (.iinc 4 1, 3) := by decide +kernel
theorem dX0_openGate_95 : decode cX0_openGate 95 = .ok (.goto (-65), 3) := by decide +kernel
theorem dX0_openGate_98 : decode cX0_openGate 98 = .ok (.aload_n 3, 1) := by decide +kernel
theorem dX0_openGate_99 : decode cX0_openGate 99 = .ok (.areturn, 1) := by decide +kernel
theorem dX0_upAfter_0 : decode cX0_upAfter 0 = .ok (.dload_n 2, 1) := by decide +kernel
theorem dX0_upAfter_1 : decode cX0_upAfter 1 = .ok (.aload_n 1, 1) := by decide +kernel
theorem dX0_upAfter_2 : decode cX0_upAfter 2 = .ok (.getfield 78, 3) := by decide +kernel
theorem dX0_upAfter_5 : decode cX0_upAfter 5 = .ok (.iconst 0, 1) := by decide +kernel
theorem dX0_upAfter_6 : decode cX0_upAfter 6 = .ok (.iaload, 1) := by decide +kernel
theorem dX0_upAfter_7 : decode cX0_upAfter 7 = .ok (.i2d, 1) := by decide +kernel
theorem dX0_upAfter_8 : decode cX0_upAfter 8 = .ok (.ldc2_w 225, 3) := by decide +kernel
theorem dX0_upAfter_11 : decode cX0_upAfter 11 = .ok (.ddiv, 1) := by decide +kernel
theorem dX0_upAfter_12 : decode cX0_upAfter 12 = .ok (.dcmp .l, 1) := by decide +kernel
theorem dX0_upAfter_13 : decode cX0_upAfter 13 = .ok (.ifCond .lt 5, 3) := by decide +kernel
theorem dX0_upAfter_16 : decode cX0_upAfter 16 = .ok (.iconst 1, 1) := by decide +kernel
theorem dX0_upAfter_17 : decode cX0_upAfter 17 = .ok (.ireturn, 1) := by decide +kernel
theorem dX0_upAfter_18 : decode cX0_upAfter 18 = .ok (.dload_n 2, 1) := by decide +kernel
theorem dX0_upAfter_19 : decode cX0_upAfter 19 = .ok (.aload_n 1, 1) := by decide +kernel
theorem dX0_upAfter_20 : decode cX0_upAfter 20 = .ok (.getfield 78, 3) := by decide +kernel
theorem dX0_upAfter_23 : decode cX0_upAfter 23 = .ok (.iconst 1, 1) := by decide +kernel
theorem dX0_upAfter_24 : decode cX0_upAfter 24 = .ok (.iaload, 1) := by decide +kernel
theorem dX0_upAfter_25 : decode cX0_upAfter 25 = .ok (.i2d, 1) := by decide +kernel
theorem dX0_upAfter_26 : decode cX0_upAfter 26 = .ok (.ldc2_w 225, 3) := by decide +kernel
theorem dX0_upAfter_29 : decode cX0_upAfter 29 = .ok (.ddiv, 1) := by decide +kernel
theorem dX0_upAfter_30 : decode cX0_upAfter 30 = .ok (.dcmp .g, 1) := by decide +kernel
theorem dX0_upAfter_31 : decode cX0_upAfter 31 = .ok (.ifCond .gt 7, 3) := by decide +kernel
theorem dX0_upAfter_34 : decode cX0_upAfter 34 = .ok (.iconst 0, 1) := by decide +kernel
theorem dX0_upAfter_35 : decode cX0_upAfter 35 = .ok (.goto 10, 3) := by decide +kernel
theorem dX0_upAfter_38 : decode cX0_upAfter 38 = .ok (.aload_n 1, 1) := by decide +kernel
theorem dX0_upAfter_39 : decode cX0_upAfter 39 = .ok (.getfield 58, 3) := by decide +kernel
theorem dX0_upAfter_42 : decode cX0_upAfter 42 = .ok (.getfield 243, 3) := by decide +kernel
theorem dX0_upAfter_45 : decode cX0_upAfter 45 = .ok (.ireturn, 1) := by decide +kernel
theorem dX0_turn_0 : decode cX0_turn 0 = .ok (.aload_n 0, 1) := by decide +kernel
theorem dX0_turn_1 : decode cX0_turn 1 = .ok (.aload_n 1, 1) := by decide +kernel
theorem dX0_turn_2 : decode cX0_turn 2 = .ok (.iconst 0, 1) := by decide +kernel
theorem dX0_turn_3 : decode cX0_turn 3 = .ok (.iconst (-1), 1) := by decide +kernel
theorem dX0_turn_4 : decode cX0_turn 4 = .ok (.invokevirtual 198, 3) := by decide +kernel
theorem dX0_turn_7 : decode cX0_turn 7 = .ok (.astore_n 2, 1) := by decide +kernel
theorem dX0_turn_8 : decode cX0_turn 8 = .ok (.aload_n 2, 1) := by decide +kernel
theorem dX0_turn_9 : decode cX0_turn 9 = .ok (.ifnonnull 5, 3) := by decide +kernel
theorem dX0_turn_12 : decode cX0_turn 12 = .ok (.aconst_null, 1) := by decide +kernel
theorem dX0_turn_13 : decode cX0_turn 13 = .ok (.areturn, 1) := by decide +kernel
theorem dX0_turn_14 : decode cX0_turn 14 = .ok (.new 134, 3) := by decide +kernel
theorem dX0_turn_17 : decode cX0_turn 17 = .ok (.dup, 1) := by decide +kernel
theorem dX0_turn_18 : decode cX0_turn 18 = .ok (.aload_n 1, 1) := by decide +kernel
theorem dX0_turn_19 : decode cX0_turn 19 = .ok (.getfield 148, 3) := by decide +kernel
theorem dX0_turn_22 : decode cX0_turn 22 = .ok (.aload_n 0, 1) := by decide +kernel
theorem dX0_turn_23 : decode cX0_turn 23 = .ok (.getfield 27, 3) := by decide +kernel
theorem dX0_turn_26 : decode cX0_turn 26 = .ok (.invokespecial 151, 3) := by decide +kernel
theorem dX0_turn_29 : decode cX0_turn 29 = .ok (.astore_n 3, 1) := by decide +kernel
theorem dX0_turn_30 : decode cX0_turn 30 = .ok (.iconst 0, 1) := by decide +kernel
theorem dX0_turn_31 : decode cX0_turn 31 = .ok (.istore 4, 2) := by decide +kernel
theorem dX0_turn_33 : decode cX0_turn 33 = .ok (.iload 4, 2) := by decide +kernel
theorem dX0_turn_35 : decode cX0_turn 35 = .ok (.aload_n 0, 1) := by decide +kernel
theorem dX0_turn_36 : decode cX0_turn 36 = .ok (.getfield 27, 3) := by decide +kernel
theorem dX0_turn_39 : decode cX0_turn 39 = .ok (.if_icmp .ge 55, 3) := by decide +kernel
theorem dX0_turn_42 : decode cX0_turn 42 = .ok (.aload_n 0, 1) := by decide +kernel
theorem dX0_turn_43 : decode cX0_turn 43 = .ok (.aload_n 2, 1) := by decide +kernel
theorem dX0_turn_44 : decode cX0_turn 44 = .ok (.iload 4, 2) := by decide +kernel
theorem dX0_turn_46 : decode cX0_turn 46 = .ok (.invokevirtual 202, 3) := by decide +kernel
theorem dX0_turn_49 : decode cX0_turn 49 = .ok (.ifCond .eq 5, 3) := by decide +kernel
theorem dX0_turn_52 : decode cX0_turn 52 = .ok (.aconst_null, 1) := by decide +kernel
theorem dX0_turn_53 : decode cX0_turn 53 = .ok (.areturn, 1) := by decide +kernel
theorem dX0_turn_54 : decode cX0_turn 54 = .ok (.aload_n 2, 1) := by decide +kernel
theorem dX0_turn_55 : decode cX0_turn 55 = .ok (.invokevirtual 173, 3) := by decide +kernel
theorem dX0_turn_58 : decode cX0_turn 58 = .ok (.ifCond .eq 15, 3) := by decide +kernel
theorem dX0_turn_61 : decode cX0_turn 61 = .ok (.aload_n 0, 1) := by decide +kernel
theorem dX0_turn_62 : decode cX0_turn 62 = .ok (.aload_n 1, 1) := by decide +kernel
theorem dX0_turn_63 : decode cX0_turn 63 = .ok (.aload_n 3, 1) := by decide +kernel
theorem dX0_turn_64 : decode cX0_turn 64 = .ok (.iload 4, 2) := by decide +kernel
theorem dX0_turn_66 : decode cX0_turn 66 = .ok (.aload_n 2, 1) := by decide +kernel
theorem dX0_turn_67 : decode cX0_turn 67 = .ok (.invokevirtual 246, 3) := by decide +kernel
theorem dX0_turn_70 : decode cX0_turn 70 = .ok (.goto 18, 3) := by decide +kernel
theorem dX0_turn_73 : decode cX0_turn 73 = .ok (.aload_n 0, 1) := by decide +kernel
theorem dX0_turn_74 : decode cX0_turn 74 = .ok (.aload_n 1, 1) := by decide +kernel
theorem dX0_turn_75 : decode cX0_turn 75 = .ok (.aload_n 3, 1) := by decide +kernel
theorem dX0_turn_76 : decode cX0_turn 76 = .ok (.iload 4, 2) := by decide +kernel
theorem dX0_turn_78 : decode cX0_turn 78 = .ok (.aload_n 2, 1) := by decide +kernel
theorem dX0_turn_79 : decode cX0_turn 79 = .ok (.iload 4, 2) := by decide +kernel
theorem dX0_turn_81 : decode cX0_turn 81 = .ok (.invokevirtual 209, 3) := by decide +kernel
theorem dX0_turn_84 : decode cX0_turn 84 = .ok (.d2i, 1) := by decide +kernel
theorem dX0_turn_85 : decode cX0_turn 85 = .ok (.invokevirtual 181, 3) := by decide +kernel
theorem dX0_turn_88 : decode cX0_turn 88 = .ok (.iinc 4 1, 3) := by decide +kernel
theorem dX0_turn_91 : decode cX0_turn 91 = .ok (.goto (-58), 3) := by decide +kernel
theorem dX0_turn_94 : decode cX0_turn 94 = .ok (.aload_n 3, 1) := by decide +kernel
theorem dX0_turn_95 : decode cX0_turn 95 = .ok (.areturn, 1) := by decide +kernel
theorem dX0_putFloating_0 : decode cX0_putFloating 0 = .ok (.aload 4, 2) := by decide +kernel
theorem dX0_putFloating_2 : decode cX0_putFloating 2 = .ok (.iload_n 3, 1) := by decide +kernel
theorem dX0_putFloating_3 : decode cX0_putFloating 3 = .ok (.invokevirtual 209, 3) := by decide +kernel
theorem dX0_putFloating_6 : decode cX0_putFloating 6 = .ok (.dstore 5, 2) := by decide +kernel
theorem dX0_putFloating_8 : decode cX0_putFloating 8 = .ok (.aload_n 2, 1) := by decide +kernel
theorem dX0_putFloating_9 : decode cX0_putFloating 9 = .ok (.invokevirtual 173, 3) := by decide +kernel
theorem dX0_putFloating_12 : decode cX0_putFloating 12 = .ok (.ifCond .eq 20, 3) := by decide +kernel
theorem dX0_putFloating_15 : decode cX0_putFloating 15 = .ok (.aload 4, 2) := by decide +kernel
theorem dX0_putFloating_17 : decode cX0_putFloating 17 = .ok (.iload_n 3, 1) := by decide +kernel
theorem dX0_putFloating_18 : decode cX0_putFloating 18 = .ok (.invokevirtual 206, 3) := by decide +kernel
theorem dX0_putFloating_21 : decode cX0_putFloating 21 = .ok (.ifCond .eq 11, 3) := by decide +kernel
theorem dX0_putFloating_24 : decode cX0_putFloating 24 = .ok (.aload_n 2, 1) := by decide +kernel
theorem dX0_putFloating_25 : decode cX0_putFloating 25 = .ok (.iload_n 3, 1) := by decide +kernel
theorem dX0_putFloating_26 : decode cX0_putFloating 26 = .ok (.invokevirtual 178, 3) := by decide +kernel
theorem dX0_putFloating_29 : decode cX0_putFloating 29 = .ok (.goto 61, 3) := by decide +kernel
theorem dX0_putFloating_32 : decode cX0_putFloating 32 = .ok (.aload_n 2, 1) := by decide +kernel
theorem dX0_putFloating_33 : decode cX0_putFloating 33 = .ok (.invokevirtual 173, 3) := by decide +kernel
theorem dX0_putFloating_36 : decode cX0_putFloating 36 = .ok (.ifCond .eq 13, 3) := by decide +kernel
theorem dX0_putFloating_39 : decode cX0_putFloating 39 = .ok (.aload_n 2, 1) := by decide +kernel
theorem dX0_putFloating_40 : decode cX0_putFloating 40 = .ok (.iload_n 3, 1) := by decide +kernel
theorem dX0_putFloating_41 : decode cX0_putFloating 41 = .ok (.dload 5, 2) := by decide +kernel
theorem dX0_putFloating_43 : decode cX0_putFloating 43 = .ok (.invokevirtual 184, 3) := by decide +kernel
theorem dX0_putFloating_46 : decode cX0_putFloating 46 = .ok (.goto 44, 3) := by decide +kernel
theorem dX0_putFloating_49 : decode cX0_putFloating 49 = .ok (.aload_n 2, 1) := by decide +kernel
theorem dX0_putFloating_50 : decode cX0_putFloating 50 = .ok (.getfield 133, 3) := by decide +kernel
theorem dX0_putFloating_53 : decode cX0_putFloating 53 = .ok (.ifCond .ne 23, 3) := by decide +kernel
theorem dX0_putFloating_56 : decode cX0_putFloating 56 = .ok (.aload_n 2, 1) := by decide +kernel
theorem dX0_putFloating_57 : decode cX0_putFloating 57 = .ok (.iload_n 3, 1) := by decide +kernel
theorem dX0_putFloating_58 : decode cX0_putFloating 58 = .ok (.dload 5, 2) := by decide +kernel
theorem dX0_putFloating_60 : decode cX0_putFloating 60 = .ok (.dconst 0, 1) := by decide +kernel
theorem dX0_putFloating_61 : decode cX0_putFloating 61 = .ok (.dcmp .l, 1) := by decide +kernel
theorem dX0_putFloating_62 : decode cX0_putFloating 62 = .ok (.ifCond .le 7, 3) := by decide +kernel
theorem dX0_putFloating_65 : decode cX0_putFloating 65 = .ok (.dconst 1, 1) := by decide +kernel
theorem dX0_putFloating_66 : decode cX0_putFloating 66 = .ok (.goto 4, 3) := by decide +kernel
theorem dX0_putFloating_69 : decode cX0_putFloating 69 = .ok (.dconst 0, 1) := by decide +kernel
theorem dX0_putFloating_70 : decode cX0_putFloating 70 = .ok (.invokevirtual 184, 3) := by decide +kernel
theorem dX0_putFloating_73 : decode cX0_putFloating 73 = .ok (.goto 17, 3) := by decide +kernel
theorem dX0_putFloating_76 : decode cX0_putFloating 76 = .ok (.aload_n 0, 1) := by decide +kernel
theorem dX0_putFloating_77 : decode cX0_putFloating 77 = .ok (.aload_n 1, 1) := by decide +kernel
theorem dX0_putFloating_78 : decode cX0_putFloating 78 = .ok (.aload_n 2, 1) := by decide +kernel
theorem dX0_putFloating_79 : decode cX0_putFloating 79 = .ok (.iload_n 3, 1) := by decide +kernel
theorem dX0_putFloating_80 : decode cX0_putFloating 80 = .ok (.dload 5, 2) := by decide +kernel
theorem dX0_putFloating_82 : decode cX0_putFloating 82 = .ok (.ldc2_w 192, 3) := by decide +kernel
theorem dX0_putFloating_85 : decode cX0_putFloating 85 = .ok (.dmul, 1) := by decide +kernel
theorem dX0_putFloating_86 : decode cX0_putFloating 86 = .ok (.d2i, 1) := by decide +kernel
theorem dX0_putFloating_87 : decode cX0_putFloating 87 = .ok (.invokevirtual 181, 3) := by decide +kernel
theorem dX0_putFloating_90 : decode cX0_putFloating 90 = .ok (.return_, 1) := by decide +kernel
theorem dX0_passOn_0 : decode cX0_passOn 0 = .ok (.aload_n 0, 1) := by decide +kernel
theorem dX0_passOn_1 : decode cX0_passOn 1 = .ok (.aload_n 1, 1) := by decide +kernel
theorem dX0_passOn_2 : decode cX0_passOn 2 = .ok (.iconst 0, 1) := by decide +kernel
theorem dX0_passOn_3 : decode cX0_passOn 3 = .ok (.iconst (-1), 1) := by decide +kernel
theorem dX0_passOn_4 : decode cX0_passOn 4 = .ok (.invokevirtual 198, 3) := by decide +kernel
theorem dX0_passOn_7 : decode cX0_passOn 7 = .ok (.astore_n 2, 1) := by decide +kernel
theorem dX0_passOn_8 : decode cX0_passOn 8 = .ok (.aload_n 2, 1) := by decide +kernel
theorem dX0_passOn_9 : decode cX0_passOn 9 = .ok (.ifnonnull 5, 3) := by decide +kernel
theorem dX0_passOn_12 : decode cX0_passOn 12 = .ok (.aconst_null, 1) := by decide +kernel
theorem dX0_passOn_13 : decode cX0_passOn 13 = .ok (.areturn, 1) := by decide +kernel
theorem dX0_passOn_14 : decode cX0_passOn 14 = .ok (.aload_n 0, 1) := by decide +kernel
theorem dX0_passOn_15 : decode cX0_passOn 15 = .ok (.aload_n 1, 1) := by decide +kernel
theorem dX0_passOn_16 : decode cX0_passOn 16 = .ok (.iconst 1, 1) := by decide +kernel
theorem dX0_passOn_17 : decode cX0_passOn 17 = .ok (.iconst 0, 1) := by decide +kernel
theorem dX0_passOn_18 : decode cX0_passOn 18 = .ok (.invokevirtual 198, 3) := by decide +kernel
theorem dX0_passOn_21 : decode cX0_passOn 21 = .ok (.astore_n 3, 1) := by decide +kernel
theorem dX0_passOn_22 : decode cX0_passOn 22 = .ok (.aload_n 3, 1) := by decide +kernel
theorem dX0_passOn_23 : decode cX0_passOn 23 = .ok (.ifnull 17, 3) := by decide +kernel
theorem dX0_passOn_26 : decode cX0_passOn 26 = .ok (.aload_n 0, 1) := by decide +kernel
theorem dX0_passOn_27 : decode cX0_passOn 27 = .ok (.aload_n 3, 1) := by decide +kernel
theorem dX0_passOn_28 : decode cX0_passOn 28 = .ok (.aload_n 0, 1) := by decide +kernel
theorem dX0_passOn_29 : decode cX0_passOn 29 = .ok (.getfield 27, 3) := by decide +kernel
theorem dX0_passOn_32 : decode cX0_passOn 32 = .ok (.iconst 1, 1) := by decide +kernel
theorem dX0_passOn_33 : decode cX0_passOn 33 = .ok (.isub, 1) := by decide +kernel
theorem dX0_passOn_34 : decode cX0_passOn 34 = .ok (.invokevirtual 202, 3) := by decide +kernel
theorem dX0_passOn_37 : decode cX0_passOn 37 = .ok (.ifCond .eq 5, 3) := by decide +kernel
theorem dX0_passOn_40 : decode cX0_passOn 40 = .ok (.aconst_null, 1) := by decide +kernel
theorem dX0_passOn_41 : decode cX0_passOn 41 = .ok (.areturn, 1) := by decide +kernel
theorem dX0_passOn_42 : decode cX0_passOn 42 = .ok (.aload_n 3, 1) := by decide +kernel
theorem dX0_passOn_43 : decode cX0_passOn 43 = .ok (.aload_n 0, 1) := by decide +kernel
theorem dX0_passOn_44 : decode cX0_passOn 44 = .ok (.getfield 27, 3) := by decide +kernel
theorem dX0_passOn_47 : decode cX0_passOn 47 = .ok (.iconst 1, 1) := by decide +kernel
theorem dX0_passOn_48 : decode cX0_passOn 48 = .ok (.isub, 1) := by decide +kernel
theorem dX0_passOn_49 : decode cX0_passOn 49 = .ok (.invokevirtual 209, 3) := by decide +kernel
theorem dX0_passOn_52 : decode cX0_passOn 52 = .ok (.dconst 1, 1) := by decide +kernel
theorem dX0_passOn_53 : decode cX0_passOn 53 = .ok (.dcmp .l, 1) := by decide +kernel
theorem dX0_passOn_54 : decode cX0_passOn 54 = .ok (.ifCond .ne 7, 3) := by decide +kernel
theorem dX0_passOn_57 : decode cX0_passOn 57 = .ok (.aload_n 2, 1) := by decide +kernel
theorem dX0_passOn_58 : decode cX0_passOn 58 = .ok (.goto 4, 3) := by decide +kernel
theorem dX0_passOn_61 : decode cX0_passOn 61 = .ok (.aconst_null, 1) := by decide +kernel
theorem dX0_passOn_62 : decode cX0_passOn 62 = .ok (.areturn, 1) := by decide +kernel
theorem dX0_average_0 : decode cX0_average 0 = .ok (.aload_n 0, 1) := by decide +kernel
theorem dX0_average_1 : decode cX0_average 1 = .ok (.aload_n 1, 1) := by decide +kernel
theorem dX0_average_2 : decode cX0_average 2 = .ok (.iconst 0, 1) := by decide +kernel
theorem dX0_average_3 : decode cX0_average 3 = .ok (.iconst 2, 1) := by decide +kernel
theorem dX0_average_4 : decode cX0_average 4 = .ok (.invokevirtual 198, 3) := by decide +kernel
theorem dX0_average_7 : decode cX0_average 7 = .ok (.astore_n 2, 1) := by decide +kernel
theorem dX0_average_8 : decode cX0_average 8 = .ok (.aload_n 2, 1) := by decide +kernel
theorem dX0_average_9 : decode cX0_average 9 = .ok (.ifnonnull 5, 3) := by decide +kernel
theorem dX0_average_12 : decode cX0_average 12 = .ok (.aconst_null, 1) := by decide +kernel
theorem dX0_average_13 : decode cX0_average 13 = .ok (.areturn, 1) := by decide +kernel
theorem dX0_average_14 : decode cX0_average 14 = .ok (.new 134, 3) := by decide +kernel
theorem dX0_average_17 : decode cX0_average 17 = .ok (.dup, 1) := by decide +kernel
theorem dX0_average_18 : decode cX0_average 18 = .ok (.iconst 2, 1) := by decide +kernel
theorem dX0_average_19 : decode cX0_average 19 = .ok (.aload_n 0, 1) := by decide +kernel
theorem dX0_average_20 : decode cX0_average 20 = .ok (.getfield 27, 3) := by decide +kernel
theorem dX0_average_23 : decode cX0_average 23 = .ok (.invokespecial 151, 3) := by decide +kernel
theorem dX0_average_26 : decode cX0_average 26 = .ok (.astore_n 3, 1) := by decide +kernel
theorem dX0_average_27 : decode cX0_average 27 = .ok (.lconst 0, 1) := by decide +kernel
theorem dX0_average_28 : decode cX0_average 28 = .ok (.lstore 4, 2) := by decide +kernel
theorem dX0_average_30 : decode cX0_average 30 = .ok (.iconst 0, 1) := by decide +kernel
theorem dX0_average_31 : decode cX0_average 31 = .ok (.istore 6, 2) := by decide +kernel
theorem dX0_average_33 : decode cX0_average 33 = .ok (.iload 6, 2) := by decide +kernel
theorem dX0_average_35 : decode cX0_average 35 = .ok (.aload_n 0, 1) := by decide +kernel
theorem dX0_average_36 : decode cX0_average 36 = .ok (.getfield 27, 3) := by decide +kernel
theorem dX0_average_39 : decode cX0_average 39 = .ok (.if_icmp .ge 81, 3) := by decide +kernel
theorem dX0_average_42 : decode cX0_average 42 = .ok (.aload_n 0, 1) := by decide +kernel
theorem dX0_average_43 : decode cX0_average 43 = .ok (.aload_n 2, 1) := by decide +kernel
theorem dX0_average_44 : decode cX0_average 44 = .ok (.iload 6, 2) := by decide +kernel
theorem dX0_average_46 : decode cX0_average 46 = .ok (.invokevirtual 202, 3) := by decide +kernel
theorem dX0_average_49 : decode cX0_average 49 = .ok (.ifCond .eq 5, 3) := by decide +kernel
theorem dX0_average_52 : decode cX0_average 52 = .ok (.aconst_null, 1) := by decide +kernel
theorem dX0_average_53 : decode cX0_average 53 = .ok (.areturn, 1) := by decide +kernel
theorem dX0_average_54 : decode cX0_average 54 = .ok (.lload 4, 2) := by decide +kernel
theorem dX0_average_56 : decode cX0_average 56 = .ok (.aload_n 2, 1) := by decide +kernel
theorem dX0_average_57 : decode cX0_average 57 = .ok (.iload 6, 2) := by decide +kernel
theorem dX0_average_59 : decode cX0_average 59 = .ok (.invokevirtual 209, 3) := by decide +kernel
theorem dX0_average_62 : decode cX0_average 62 = .ok (.d2l, 1) := by decide +kernel
theorem dX0_average_63 : decode cX0_average 63 = .ok (.ladd, 1) := by decide +kernel
theorem dX0_average_64 : decode cX0_average 64 = .ok (.lstore 4, 2) := by decide +kernel
theorem dX0_average_66 : decode cX0_average 66 = .ok (.iload 6, 2) := by decide +kernel
theorem dX0_average_68 : decode cX0_average 68 = .ok (.aload_n 1, 1) := by decide +kernel
theorem dX0_average_69 : decode cX0_average 69 = .ok (.getfield 78, 3) := by decide +kernel
theorem dX0_average_72 : decode cX0_average 72 = .ok (.iconst 0, 1) := by decide +kernel
theorem dX0_average_73 : decode cX0_average 73 = .ok (.iaload, 1) := by decide +kernel
theorem dX0_average_74 : decode cX0_average 74 = .ok (.iadd, 1) := by decide +kernel
theorem dX0_average_75 : decode cX0_average 75 = .ok (.istore 7, 2) := by decide +kernel
theorem dX0_average_77 : decode cX0_average 77 = .ok (.iload 7, 2) := by decide +kernel
theorem dX0_average_79 : decode cX0_average 79 = .ok (.ifCond .ne 11, 3) := by decide +kernel
theorem dX0_average_82 : decode cX0_average 82 = .ok (.aload_n 0, 1) := by decide +kernel
theorem dX0_average_83 : decode cX0_average 83 = .ok (.iconst 5, 1) := by decide +kernel
theorem dX0_average_84 : decode cX0_average 84 = .ok (.iload 6, 2) := by decide +kernel
theorem dX0_average_86 : decode cX0_average 86 = .ok (.invokevirtual 129, 3) := by decide +kernel
theorem dX0_average_89 : decode cX0_average 89 = .ok (.areturn, 1) := by decide +kernel
theorem dX0_average_90 : decode cX0_average 90 = .ok (.aload_n 3, 1) := by decide +kernel
theorem dX0_average_91 : decode cX0_average 91 = .ok (.iload 6, 2) := by decide +kernel
theorem dX0_average_93 : decode cX0_average 93 = .ok (.aload_n 1, 1) := by decide +kernel
theorem dX0_average_94 : decode cX0_average 94 = .ok (.getfield 58, 3) := by decide +kernel
theorem dX0_average_97 : decode cX0_average 97 = .ok (.ldc 177, 2) := by decide +kernel
theorem dX0_average_99 : decode cX0_average 99 = .ok (.ldc 234, 2) := by decide +kernel
theorem dX0_average_101 : decode cX0_average 101 = .ok (.lload 4, 2) := by decide +kernel
theorem dX0_average_103 : decode cX0_average 103 = .ok (.iload 7, 2) := by decide +kernel
theorem dX0_average_105 : decode cX0_average 105 = .ok (.i2l, 1) := by decide +kernel
theorem dX0_average_106 : decode cX0_average 106 = .ok (.ldiv, 1) := by decide +kernel
theorem dX0_average_107 : decode cX0_average 107 = .ok (.invokevirtual 188, 3) := by decide +kernel
theorem dX0_average_110 : decode cX0_average 110 = .ok (.i2d, 1) := by decide +kernel
theorem dX0_average_111 : decode cX0_average 111 = .ok (.invokevirtual 184, 3) := by decide +kernel
theorem dX0_average_114 : decode cX0_average 114 = .ok (.iinc 6 1, 3) := by decide +kernel
theorem dX0_average_117 : decode cX0_average 117 = .ok (.goto (-84), 3) := by decide +kernel
theorem dX0_average_120 : decode cX0_average 120 = .ok (.aload_n 3, 1) := by decide +kernel
theorem dX0_average_121 : decode cX0_average 121 = .ok (.areturn, 1) := by decide +kernel
theorem dX1_init_0 : decode cX1_init 0 = .ok (.aload_n 0, 1) := by decide +kernel
theorem dX1_init_1 : decode cX1_init 1 = .ok (.invokespecial 3, 3) := by decide +kernel
theorem dX1_init_4 : decode cX1_init 4 = .ok (.aload_n 0, 1) := by decide +kernel
theorem dX1_init_5 : decode cX1_init 5 = .ok (.aload_n 1, 1) := by decide +kernel
theorem dX1_init_6 : decode cX1_init 6 = .ok (.putfield 9, 3) := by decide +kernel
theorem dX1_init_9 : decode cX1_init 9 = .ok (.return_, 1) := by decide +kernel
theorem dX1_remember_0 : decode cX1_remember 0 = .ok (.iconst 0, 1) := by decide +kernel
theorem dX1_remember_1 : decode cX1_remember 1 = .ok (.istore_n 1, 1) := by decide +kernel
theorem dX1_remember_2 : decode cX1_remember 2 = .ok (.iload_n 1, 1) := by decide +kernel
theorem dX1_remember_3 : decode cX1_remember 3 = .ok (.aload_n 0, 1) := by decide +kernel
theorem dX1_remember_4 : decode cX1_remember 4 = .ok (.getfield 9, 3) := by decide +kernel
theorem dX1_remember_7 : decode cX1_remember 7 = .ok (.getfield 15, 3) := by decide +kernel
theorem dX1_remember_10 : decode cX1_remember 10 = .ok (.if_icmp .ge 30, 3) := by decide +kernel
theorem dX1_remember_13 : decode cX1_remember 13 = .ok (.aload_n 0, 1) := by decide +kernel
theorem dX1_remember_14 : decode cX1_remember 14 = .ok (.getfield 9, 3) := by decide +kernel
theorem dX1_remember_17 : decode cX1_remember 17 = .ok (.iload_n 1, 1) := by decide +kernel
theorem dX1_remember_18 : decode cX1_remember 18 = .ok (.invokevirtual 21, 3) := by decide +kernel
theorem dX1_remember_21 : decode cX1_remember 21 = .ok (.astore_n 2, 1) := by decide +kernel
theorem dX1_remember_22 : decode cX1_remember 22 = .ok (.aload_n 2, 1) := by decide +kernel
theorem dX1_remember_23 : decode cX1_remember 23 = .ok (.ifnull 11, 3) := by decide +kernel
theorem dX1_remember_26 : decode cX1_remember 26 = .ok (.aload_n 2, 1) := by decide +kernel
theorem dX1_remember_27 : decode cX1_remember 27 = .ok (.aload_n 0, 1) := by decide +kernel
theorem dX1_remember_28 : decode cX1_remember 28 = .ok (.getfield 25, 3) := by decide +kernel
theorem dX1_remember_31 : decode cX1_remember 31 = .ok (.invokevirtual 28, 3) := by decide +kernel
theorem dX1_remember_34 : decode cX1_remember 34 = .ok (.iinc 1 1, 3) := by decide +kernel
theorem dX1_remember_37 : decode cX1_remember 37 = .ok (.goto (-35), 3) := by decide +kernel
theorem dX1_remember_40 : decode cX1_remember 40 = .ok (.return_, 1) := by decide +kernel
theorem dX1_advance_0 : decode cX1_advance 0 = .ok (.aload_n 0, 1) := by decide +kernel
theorem dX1_advance_1 : decode cX1_advance 1 = .ok (.aload_n 0, 1) := by decide +kernel
theorem dX1_advance_2 : decode cX1_advance 2 = .ok (.getfield 25, 3) := by decide +kernel
theorem dX1_advance_5 : decode cX1_advance 5 = .ok (.iconst 1, 1) := by decide +kernel
theorem dX1_advance_6 : decode cX1_advance 6 = .ok (.iadd, 1) := by decide +kernel
theorem dX1_advance_7 : decode cX1_advance 7 = .ok (.bipush 9, 2) := by decide +kernel
theorem dX1_advance_9 : decode cX1_advance 9 = .ok (.irem, 1) := by decide +kernel
theorem dX1_advance_10 : decode cX1_advance 10 = .ok (.putfield 25, 3) := by decide +kernel
theorem dX1_advance_13 : decode cX1_advance 13 = .ok (.aload_n 0, 1) := by decide +kernel
theorem dX1_advance_14 : decode cX1_advance 14 = .ok (.bipush 8, 2) := by decide +kernel
theorem dX1_advance_16 : decode cX1_advance 16 = .ok (.aload_n 0, 1) := by decide +kernel
theorem dX1_advance_17 : decode cX1_advance 17 = .ok (.getfield 34, 3) := by decide +kernel
theorem dX1_advance_20 : decode cX1_advance 20 = .ok (.iconst 1, 1) := by decide +kernel
theorem dX1_advance_21 : decode cX1_advance 21 = .ok (.iadd, 1) := by decide +kernel
theorem dX1_advance_22 : decode cX1_advance 22 = .ok (.invokestatic 37, 3) := by decide +kernel
theorem dX1_advance_25 : decode cX1_advance 25 = .ok (.putfield 34, 3) := by decide +kernel
theorem dX1_advance_28 : decode cX1_advance 28 = .ok (.aload_n 0, 1) := by decide +kernel
theorem dX1_advance_29 : decode cX1_advance 29 = .ok (.dup, 1) := by decide +kernel
theorem dX1_advance_30 : decode cX1_advance 30 = .ok (.getfield 43, 3) := by decide +kernel
theorem dX1_advance_33 : decode cX1_advance 33 = .ok (.iconst 1, 1) := by decide +kernel
theorem dX1_advance_34 : decode cX1_advance 34 = .ok (.iadd, 1) := by decide +kernel
theorem dX1_advance_35 : decode cX1_advance 35 = .ok (.putfield 43, 3) := by decide +kernel
theorem dX1_advance_38 : decode cX1_advance 38 = .ok (.return_, 1) := by decide +kernel
theorem dX1_undo_0 : decode cX1_undo 0 = .ok (.iconst 0, 1) := by decide +kernel
theorem dX1_undo_1 : decode cX1_undo 1 = .ok (.istore_n 1, 1) := by decide +kernel
theorem dX1_undo_2 : decode cX1_undo 2 = .ok (.iload_n 1, 1) := by decide +kernel
theorem dX1_undo_3 : decode cX1_undo 3 = .ok (.aload_n 0, 1) := by decide +kernel
theorem dX1_undo_4 : decode cX1_undo 4 = .ok (.getfield 9, 3) := by decide +kernel
theorem dX1_undo_7 : decode cX1_undo 7 = .ok (.getfield 15, 3) := by decide +kernel
theorem dX1_undo_10 : decode cX1_undo 10 = .ok (.if_icmp .ge 30, 3) := by decide +kernel
theorem dX1_undo_13 : decode cX1_undo 13 = .ok (.aload_n 0, 1) := by decide +kernel
theorem dX1_undo_14 : decode cX1_undo 14 = .ok (.getfield 9, 3) := by decide +kernel
theorem dX1_undo_17 : decode cX1_undo 17 = .ok (.iload_n 1, 1) := by decide +kernel
theorem dX1_undo_18 : decode cX1_undo 18 = .ok (.invokevirtual 21, 3) := by decide +kernel
theorem dX1_undo_21 : decode cX1_undo 21 = .ok (.astore_n 2, 1) := by decide +kernel
theorem dX1_undo_22 : decode cX1_undo 22 = .ok (.aload_n 2, 1) := by decide +kernel
theorem dX1_undo_23 : decode cX1_undo 23 = .ok (.ifnull 11, 3) := by decide +kernel
theorem dX1_undo_26 : decode cX1_undo 26 = .ok (.aload_n 2, 1) := by decide +kernel
theorem dX1_undo_27 : decode cX1_undo 27 = .ok (.aload_n 0, 1) := by decide +kernel
theorem dX1_undo_28 : decode cX1_undo 28 = .ok (.getfield 25, 3) := by decide +kernel
theorem dX1_undo_31 : decode cX1_undo 31 = .ok (.invokevirtual 46, 3) := by decide +kernel
theorem dX1_undo_34 : decode cX1_undo 34 = .ok (.iinc 1 1, 3) := by decide +kernel
theorem dX1_undo_37 : decode cX1_undo 37 = .ok (.goto (-35), 3) := by decide +kernel
theorem dX1_undo_40 : decode cX1_undo 40 = .ok (.return_, 1) := by decide +kernel
theorem dX1_goBack_0 : decode cX1_goBack 0 = .ok (.aload_n 0, 1) := by decide +kernel
theorem dX1_goBack_1 : decode cX1_goBack 1 = .ok (.aload_n 0, 1) := by decide +kernel
theorem dX1_goBack_2 : decode cX1_goBack 2 = .ok (.getfield 25, 3) := by decide +kernel
theorem dX1_goBack_5 : decode cX1_goBack 5 = .ok (.iload_n 1, 1) := by decide +kernel
theorem dX1_goBack_6 : decode cX1_goBack 6 = .ok (.isub, 1) := by decide +kernel
theorem dX1_goBack_7 : decode cX1_goBack 7 = .ok (.bipush 9, 2) := by decide +kernel
theorem dX1_goBack_9 : decode cX1_goBack 9 = .ok (.invokestatic 49, 3) := by decide +kernel
theorem dX1_goBack_12 : decode cX1_goBack 12 = .ok (.putfield 25, 3) := by decide +kernel
theorem dX1_goBack_15 : decode cX1_goBack 15 = .ok (.aload_n 0, 1) := by decide +kernel
theorem dX1_goBack_16 : decode cX1_goBack 16 = .ok (.dup, 1) := by decide +kernel
theorem dX1_goBack_17 : decode cX1_goBack 17 = .ok (.getfield 34, 3) := by decide +kernel
theorem dX1_goBack_20 : decode cX1_goBack 20 = .ok (.iload_n 1, 1) := by decide +kernel
theorem dX1_goBack_21 : decode cX1_goBack 21 = .ok (.isub, 1) := by decide +kernel
theorem dX1_goBack_22 : decode cX1_goBack 22 = .ok (.putfield 34, 3) := by decide +kernel
theorem dX1_goBack_25 : decode cX1_goBack 25 = .ok (.aload_n 0, 1) := by decide +kernel
theorem dX1_goBack_26 : decode cX1_goBack 26 = .ok (.dup, 1) := by decide +kernel
theorem dX1_goBack_27 : decode cX1_goBack 27 = .ok (.getfield 43, 3) := by decide +kernel
theorem dX1_goBack_30 : decode cX1_goBack 30 = .ok (.iload_n 1, 1) := by decide +kernel
theorem dX1_goBack_31 : decode cX1_goBack 31 = .ok (.isub, 1) := by decide +kernel
theorem dX1_goBack_32 : decode cX1_goBack 32 = .ok (.putfield 43, 3) := by decide +kernel
theorem dX1_goBack_35 : decode cX1_goBack 35 = .ok (.aload_n 0, 1) := by decide +kernel
theorem dX1_goBack_36 : decode cX1_goBack 36 = .ok (.invokevirtual 52, 3) := by decide +kernel
theorem dX1_goBack_39 : decode cX1_goBack 39 = .ok (.return_, 1) := by decide +kernel
theorem dX2_init_0 : decode cX2_init 0 = .ok (.aload_n 0, 1) := by decide +kernel
theorem dX2_init_1 : decode cX2_init 1 = .ok (.invokespecial 3, 3) := by decide +kernel
theorem dX2_init_4 : decode cX2_init 4 = .ok (.aload_n 0, 1) := by decide +kernel
theorem dX2_init_5 : decode cX2_init 5 = .ok (.bipush 8, 2) := by decide +kernel
theorem dX2_init_7 : decode cX2_init 7 = .ok (.bipush 72, 2) := by decide +kernel
theorem dX2_init_9 : decode cX2_init 9 = .ok (.multianewarray 9 2, 4) := by decide +kernel
theorem dX2_init_13 : decode cX2_init 13 = .ok (.putfield 11, 3) := by decide +kernel
theorem dX2_init_16 : decode cX2_init 16 = .ok (.aload_n 0, 1) := by decide +kernel
theorem dX2_init_17 : decode cX2_init 17 = .ok (.bipush 8, 2) := by decide +kernel
theorem dX2_init_19 : decode cX2_init 19 = .ok (.newarray .int, 2) := by decide +kernel
theorem dX2_init_21 : decode cX2_init 21 = .ok (.putfield 16, 3) := by decide +kernel
theorem dX2_init_24 : decode cX2_init 24 = .ok (.iconst 0, 1) := by decide +kernel
theorem dX2_init_25 : decode cX2_init 25 = .ok (.istore_n 1, 1) := by decide +kernel
theorem dX2_init_26 : decode cX2_init 26 = .ok (.iload_n 1, 1) := by decide +kernel
theorem dX2_init_27 : decode cX2_init 27 = .ok (.bipush 8, 2) := by decide +kernel
theorem dX2_init_29 : decode cX2_init 29 = .ok (.if_icmp .ge 16, 3) := by decide +kernel
theorem dX2_init_32 : decode cX2_init 32 = .ok (.aload_n 0, 1) := by decide +kernel
theorem dX2_init_33 : decode cX2_init 33 = .ok (.getfield 16, 3) := by decide +kernel
theorem dX2_init_36 : decode cX2_init 36 = .ok (.iload_n 1, 1) := by decide +kernel
theorem dX2_init_37 : decode cX2_init 37 = .ok (.iconst (-1), 1) := by decide +kernel
theorem dX2_init_38 : decode cX2_init 38 = .ok (.iastore, 1) := by decide +kernel
theorem dX2_init_39 : decode cX2_init 39 = .ok (.iinc 1 1, 3) := by decide +kernel
theorem dX2_init_42 : decode cX2_init 42 = .ok (.goto (-16), 3) := by decide +kernel
theorem dX2_init_45 : decode cX2_init 45 = .ok (.return_, 1) := by decide +kernel
theorem dX2_has_0 : decode cX2_has 0 = .ok (.iload_n 1, 1) := by decide +kernel
theorem dX2_has_1 : decode cX2_has 1 = .ok (.ifCond .lt 13, 3) := by decide +kernel
theorem dX2_has_4 : decode cX2_has 4 = .ok (.iload_n 1, 1) := by decide +kernel
theorem dX2_has_5 : decode cX2_has 5 = .ok (.bipush 8, 2) := by decide +kernel
theorem dX2_has_7 : decode cX2_has 7 = .ok (.if_icmp .ge 7, 3) := by decide +kernel
theorem dX2_has_10 : decode cX2_has 10 = .ok (.iconst 1, 1) := by decide +kernel
theorem dX2_has_11 : decode cX2_has 11 = .ok (.goto 4, 3) := by decide +kernel
theorem dX2_has_14 : decode cX2_has 14 = .ok (.iconst 0, 1) := by decide +kernel
theorem dX2_has_15 : decode cX2_has 15 = .ok (.ireturn, 1) := by decide +kernel
theorem dX2_isUnused_0 : decode cX2_isUnused 0 = .ok (.aload_n 0, 1) := by decide +kernel
theorem dX2_isUnused_1 : decode cX2_isUnused 1 = .ok (.iload_n 1, 1) := by decide +kernel
theorem dX2_isUnused_2 : decode cX2_isUnused 2 = .ok (.invokevirtual 20, 3) := by decide +kernel
theorem dX2_isUnused_5 : decode cX2_isUnused 5 = .ok (.ifCond .eq 13, 3) := by decide +kernel
theorem dX2_isUnused_8 : decode cX2_isUnused 8 = .ok (.aload_n 0, 1) := by decide +kernel
theorem dX2_isUnused_9 : decode cX2_isUnused 9 = .ok (.getfield 16, 3) := by decide +kernel
theorem dX2_isUnused_12 : decode cX2_isUnused 12 = .ok (.iload_n 1, 1) := by decide +kernel
theorem dX2_isUnused_13 : decode cX2_isUnused 13 = .ok (.iaload, 1) := by decide +kernel
theorem dX2_isUnused_14 : decode cX2_isUnused 14 = .ok (.iconst (-1), 1) := by decide +kernel
theorem dX2_isUnused_15 : decode cX2_isUnused 15 = .ok (.if_icmp .ne 7, 3) := by decide +kernel
theorem dX2_isUnused_18 : decode cX2_isUnused 18 = .ok (.iconst 1, 1) := by decide +kernel
theorem dX2_isUnused_19 : decode cX2_isUnused 19 = .ok (.goto 4, 3) := by decide +kernel
theorem dX2_isUnused_22 : decode cX2_isUnused 22 = .ok (.iconst 0, 1) := by decide +kernel
theorem dX2_isUnused_23 : decode cX2_isUnused 23 = .ok (.ireturn, 1) := by decide +kernel
theorem dX2_store_0 : decode cX2_store 0 = .ok (.aload_n 0, 1) := by decide +kernel
theorem dX2_store_1 : decode cX2_store 1 = .ok (.iload_n 1, 1) := by decide +kernel
theorem dX2_store_2 : decode cX2_store 2 = .ok (.invokevirtual 20, 3) := by decide +kernel
theorem dX2_store_5 : decode cX2_store 5 = .ok (.ifCond .ne 5, 3) := by decide +kernel
theorem dX2_store_8 : decode cX2_store 8 = .ok (.iconst (-1), 1) := by decide +kernel
theorem dX2_store_9 : decode cX2_store 9 = .ok (.ireturn, 1) := by decide +kernel
theorem dX2_store_10 : decode cX2_store 10 = .ok (.iconst 0, 1) := by decide +kernel
theorem dX2_store_11 : decode cX2_store 11 = .ok (.istore_n 3, 1) := by decide +kernel
theorem dX2_store_12 : decode cX2_store 12 = .ok (.iload_n 3, 1) := by decide +kernel
theorem dX2_store_13 : decode cX2_store 13 = .ok (.aload_n 2, 1) := by decide +kernel
theorem dX2_store_14 : decode cX2_store 14 = .ok (.getfield 24, 3) := by decide +kernel
theorem dX2_store_17 : decode cX2_store 17 = .ok (.if_icmp .ge 40, 3) := by decide +kernel
theorem dX2_store_20 : decode cX2_store 20 = .ok (.aload_n 2, 1) := by decide +kernel
theorem dX2_store_21 : decode cX2_store 21 = .ok (.iload_n 3, 1) := by decide +kernel
theorem dX2_store_22 : decode cX2_store 22 = .ok (.invokevirtual 30, 3) := by decide +kernel
theorem dX2_store_25 : decode cX2_store 25 = .ok (.astore 4, 2) := by decide +kernel
theorem dX2_store_27 : decode cX2_store 27 = .ok (.aload 4, 2) := by decide +kernel
theorem dX2_store_29 : decode cX2_store 29 = .ok (.ifnull 22, 3) := by decide +kernel
theorem dX2_store_32 : decode cX2_store 32 = .ok (.aload 4, 2) := by decide +kernel
theorem dX2_store_34 : decode cX2_store 34 = .ok (.getfield 34, 3) := by decide +kernel
theorem dX2_store_37 : decode cX2_store 37 = .ok (.iconst 0, 1) := by decide +kernel
theorem dX2_store_38 : decode cX2_store 38 = .ok (.aload_n 0, 1) := by decide +kernel
theorem dX2_store_39 : decode cX2_store 39 = .ok (.getfield 11, 3) := by decide +kernel
theorem dX2_store_42 : decode cX2_store 42 = .ok (.iload_n 1, 1) := by decide +kernel
theorem dX2_store_43 : decode cX2_store 43 = .ok (.aaload, 1) := by decide +kernel
theorem dX2_store_44 : decode cX2_store 44 = .ok (.iload_n 3, 1) := by decide +kernel
theorem dX2_store_45 : decode cX2_store 45 = .ok (.iconst 3, 1) := by decide +kernel
theorem dX2_store_46 : decode cX2_store 46 = .ok (.imul, 1) := by decide +kernel
theorem dX2_store_47 : decode cX2_store 47 = .ok (.iconst 3, 1) := by decide +kernel
theorem dX2_store_48 : decode cX2_store 48 = .ok (.invokestatic 38, 3) := by decide +kernel
theorem dX2_store_51 : decode cX2_store 51 = .ok (.iinc 3 1, 3) := by decide +kernel
theorem dX2_store_54 : decode cX2_store 54 = .ok (.goto (-42), 3) := by decide +kernel
theorem dX2_store_57 : decode cX2_store 57 = .ok (.aload_n 0, 1) := by decide +kernel
theorem dX2_store_58 : decode cX2_store 58 = .ok (.getfield 16, 3) := by decide +kernel
theorem dX2_store_61 : decode cX2_store 61 = .ok (.iload_n 1, 1) := by decide +kernel
theorem dX2_store_62 : decode cX2_store 62 = .ok (.aload_n 2, 1) := by decide +kernel
theorem dX2_store_63 : decode cX2_store 63 = .ok (.getfield 24, 3) := by decide +kernel
theorem dX2_store_66 : decode cX2_store 66 = .ok (.iastore, 1) := by decide +kernel
theorem dX2_store_67 : decode cX2_store 67 = .ok (.aload_n 2, 1) := by decide +kernel
theorem dX2_store_68 : decode cX2_store 68 = .ok (.getfield 24, 3) := by decide +kernel
theorem dX2_store_71 : decode cX2_store 71 = .ok (.ireturn, 1) := by decide +kernel
theorem dX2_restore_0 : decode cX2_restore 0 = .ok (.aload_n 0, 1) := by decide +kernel
theorem dX2_restore_1 : decode cX2_restore 1 = .ok (.iload_n 1, 1) := by decide +kernel
theorem dX2_restore_2 : decode cX2_restore 2 = .ok (.invokevirtual 44, 3) := by decide +kernel
theorem dX2_restore_5 : decode cX2_restore 5 = .ok (.ifCond .eq 6, 3) := by decide +kernel
theorem dX2_restore_8 : decode cX2_restore 8 = .ok (.bipush (-2), 2) := by decide +kernel
theorem dX2_restore_10 : decode cX2_restore 10 = .ok (.ireturn, 1) := by decide +kernel
theorem dX2_restore_11 : decode cX2_restore 11 = .ok (.iconst 0, 1) := by decide +kernel
theorem dX2_restore_12 : decode cX2_restore 12 = .ok (.istore_n 3, 1) := by decide +kernel
theorem dX2_restore_13 : decode cX2_restore 13 = .ok (.iload_n 3, 1) := by decide +kernel
theorem dX2_restore_14 : decode cX2_restore 14 = .ok (.aload_n 0, 1) := by decide +kernel
theorem dX2_restore_15 : decode cX2_restore 15 = .ok (.getfield 16, 3) := by decide +kernel
theorem dX2_restore_18 : decode cX2_restore 18 = .ok (.iload_n 1, 1) := by decide +kernel
theorem dX2_restore_19 : decode cX2_restore 19 = .ok (.iaload, 1) := by decide +kernel
theorem dX2_restore_20 : decode cX2_restore 20 = .ok (.if_icmp .ge 40, 3) := by decide +kernel
theorem dX2_restore_23 : decode cX2_restore 23 = .ok (.aload_n 2, 1) := by decide +kernel
theorem dX2_restore_24 : decode cX2_restore 24 = .ok (.iload_n 3, 1) := by decide +kernel
theorem dX2_restore_25 : decode cX2_restore 25 = .ok (.invokevirtual 30, 3) := by decide +kernel
theorem dX2_restore_28 : decode cX2_restore 28 = .ok (.astore 4, 2) := by decide +kernel
theorem dX2_restore_30 : decode cX2_restore 30 = .ok (.aload 4, 2) := by decide +kernel
theorem dX2_restore_32 : decode cX2_restore 32 = .ok (.ifnull 22, 3) := by decide +kernel
theorem dX2_restore_35 : decode cX2_restore 35 = .ok (.aload_n 0, 1) := by decide +kernel
theorem dX2_restore_36 : decode cX2_restore 36 = .ok (.getfield 11, 3) := by decide +kernel
theorem dX2_restore_39 : decode cX2_restore 39 = .ok (.iload_n 1, 1) := by decide +kernel
theorem dX2_restore_40 : decode cX2_restore 40 = .ok (.aaload, 1) := by decide +kernel
theorem dX2_restore_41 : decode cX2_restore 41 = .ok (.iload_n 3, 1) := by decide +kernel
theorem dX2_restore_42 : decode cX2_restore 42 = .ok (.iconst 3, 1) := by decide +kernel
theorem dX2_restore_43 : decode cX2_restore 43 = .ok (.imul, 1) := by decide +kernel
theorem dX2_restore_44 : decode cX2_restore 44 = .ok (.aload 4, 2) := by decide +kernel
theorem dX2_restore_46 : decode cX2_restore 46 = .ok (.getfield 34, 3) := by decide +kernel
theorem dX2_restore_49 : decode cX2_restore 49 = .ok (.iconst 0, 1) := by decide +kernel
theorem dX2_restore_50 : decode cX2_restore 50 = .ok (.iconst 3, 1) := by decide +kernel
theorem dX2_restore_51 : decode cX2_restore 51 = .ok (.invokestatic 38, 3) := by decide +kernel
theorem dX2_restore_54 : decode cX2_restore 54 = .ok (.iinc 3 1, 3) := by decide +kernel
theorem dX2_restore_57 : decode cX2_restore 57 = .ok (.goto (-44), 3) := by decide +kernel
theorem dX2_restore_60 : decode cX2_restore 60 = .ok (.aload_n 0, 1) := by decide +kernel
theorem dX2_restore_61 : decode cX2_restore 61 = .ok (.getfield 16, 3) := by decide +kernel
theorem dX2_restore_64 : decode cX2_restore 64 = .ok (.iload_n 1, 1) := by decide +kernel
theorem dX2_restore_65 : decode cX2_restore 65 = .ok (.iaload, 1) := by decide +kernel
theorem dX2_restore_66 : decode cX2_restore 66 = .ok (.ireturn, 1) := by decide +kernel
theorem dX3_init_0 : decode cX3_init 0 = .ok (.aload_n 0, 1) := by decide +kernel
theorem dX3_init_1 : decode cX3_init 1 = .ok (.invokespecial 3, 3) := by decide +kernel
theorem dX3_init_4 : decode cX3_init 4 = .ok (.aload_n 0, 1) := by decide +kernel
theorem dX3_init_5 : decode cX3_init 5 = .ok (.bipush 24, 2) := by decide +kernel
theorem dX3_init_7 : decode cX3_init 7 = .ok (.anewarray 9, 3) := by decide +kernel
theorem dX3_init_10 : decode cX3_init 10 = .ok (.putfield 11, 3) := by decide +kernel
theorem dX3_init_13 : decode cX3_init 13 = .ok (.aload_n 0, 1) := by decide +kernel
theorem dX3_init_14 : decode cX3_init 14 = .ok (.bipush 24, 2) := by decide +kernel
theorem dX3_init_16 : decode cX3_init 16 = .ok (.newarray .int, 2) := by decide +kernel
theorem dX3_init_18 : decode cX3_init 18 = .ok (.putfield 17, 3) := by decide +kernel
theorem dX3_init_21 : decode cX3_init 21 = .ok (.aload_n 0, 1) := by decide +kernel
theorem dX3_init_22 : decode cX3_init 22 = .ok (.bipush 24, 2) := by decide +kernel
theorem dX3_init_24 : decode cX3_init 24 = .ok (.newarray .boolean, 2) := by decide +kernel
theorem dX3_init_26 : decode cX3_init 26 = .ok (.putfield 21, 3) := by decide +kernel
theorem dX3_init_29 : decode cX3_init 29 = .ok (.aload_n 0, 1) := by decide +kernel
theorem dX3_init_30 : decode cX3_init 30 = .ok (.bipush 24, 2) := by decide +kernel
theorem dX3_init_32 : decode cX3_init 32 = .ok (.newarray .int, 2) := by decide +kernel
theorem dX3_init_34 : decode cX3_init 34 = .ok (.putfield 25, 3) := by decide +kernel
theorem dX3_init_37 : decode cX3_init 37 = .ok (.return_, 1) := by decide +kernel
theorem dX3_isFull_0 : decode cX3_isFull 0 = .ok (.aload_n 0, 1) := by decide +kernel
theorem dX3_isFull_1 : decode cX3_isFull 1 = .ok (.getfield 28, 3) := by decide +kernel
theorem dX3_isFull_4 : decode cX3_isFull 4 = .ok (.bipush 24, 2) := by decide +kernel
theorem dX3_isFull_6 : decode cX3_isFull 6 = .ok (.if_icmp .lt 7, 3) := by decide +kernel
theorem dX3_isFull_9 : decode cX3_isFull 9 = .ok (.iconst 1, 1) := by decide +kernel
theorem dX3_isFull_10 : decode cX3_isFull 10 = .ok (.goto 4, 3) := by decide +kernel
theorem dX3_isFull_13 : decode cX3_isFull 13 = .ok (.iconst 0, 1) := by decide +kernel
theorem dX3_isFull_14 : decode cX3_isFull 14 = .ok (.ireturn, 1) := by decide +kernel
theorem dX3_at_0 : decode cX3_at 0 = .ok (.iload_n 1, 1) := by decide +kernel
theorem dX3_at_1 : decode cX3_at 1 = .ok (.ifCond .lt 20, 3) := by decide +kernel
theorem dX3_at_4 : decode cX3_at 4 = .ok (.iload_n 1, 1) := by decide +kernel
theorem dX3_at_5 : decode cX3_at 5 = .ok (.aload_n 0, 1) := by decide +kernel
theorem dX3_at_6 : decode cX3_at 6 = .ok (.getfield 28, 3) := by decide +kernel
theorem dX3_at_9 : decode cX3_at 9 = .ok (.if_icmp .ge 12, 3) := by decide +kernel
theorem dX3_at_12 : decode cX3_at 12 = .ok (.aload_n 0, 1) := by decide +kernel
theorem dX3_at_13 : decode cX3_at 13 = .ok (.getfield 11, 3) := by decide +kernel
theorem dX3_at_16 : decode cX3_at 16 = .ok (.iload_n 1, 1) := by decide +kernel
theorem dX3_at_17 : decode cX3_at 17 = .ok (.aaload, 1) := by decide +kernel
theorem dX3_at_18 : decode cX3_at 18 = .ok (.goto 4, 3) := by decide +kernel
theorem dX3_at_21 : decode cX3_at 21 = .ok (.aconst_null, 1) := by decide +kernel
theorem dX3_at_22 : decode cX3_at 22 = .ok (.areturn, 1) := by decide +kernel
theorem dX3_givenBy_0 : decode cX3_givenBy 0 = .ok (.iload_n 1, 1) := by decide +kernel
theorem dX3_givenBy_1 : decode cX3_givenBy 1 = .ok (.ifCond .lt 26, 3) := by decide +kernel
theorem dX3_givenBy_4 : decode cX3_givenBy 4 = .ok (.iload_n 1, 1) := by decide +kernel
theorem dX3_givenBy_5 : decode cX3_givenBy 5 = .ok (.aload_n 0, 1) := by decide +kernel
theorem dX3_givenBy_6 : decode cX3_givenBy 6 = .ok (.getfield 28, 3) := by decide +kernel
theorem dX3_givenBy_9 : decode cX3_givenBy 9 = .ok (.if_icmp .ge 18, 3) := by decide +kernel
theorem dX3_givenBy_12 : decode cX3_givenBy 12 = .ok (.aload_n 0, 1) := by decide +kernel
theorem dX3_givenBy_13 : decode cX3_givenBy 13 = .ok (.getfield 11, 3) := by decide +kernel
theorem dX3_givenBy_16 : decode cX3_givenBy 16 = .ok (.iload_n 1, 1) := by decide +kernel
theorem dX3_givenBy_17 : decode cX3_givenBy 17 = .ok (.aaload, 1) := by decide +kernel
theorem dX3_givenBy_18 : decode cX3_givenBy 18 = .ok (.getfield 32, 3) := by decide +kernel
theorem dX3_givenBy_21 : decode cX3_givenBy 21 = .ok (.getfield 36, 3) := by decide +kernel
theorem dX3_givenBy_24 : decode cX3_givenBy 24 = .ok (.goto 4, 3) := by decide +kernel
theorem dX3_givenBy_27 : decode cX3_givenBy 27 = .ok (.aconst_null, 1) := by decide +kernel
theorem dX3_givenBy_28 : decode cX3_givenBy 28 = .ok (.areturn, 1) := by decide +kernel
theorem dX3_inLine_0 : decode cX3_inLine 0 = .ok (.iload_n 1, 1) := by decide +kernel
theorem dX3_inLine_1 : decode cX3_inLine 1 = .ok (.ifCond .lt 20, 3) := by decide +kernel
theorem dX3_inLine_4 : decode cX3_inLine 4 = .ok (.iload_n 1, 1) := by decide +kernel
theorem dX3_inLine_5 : decode cX3_inLine 5 = .ok (.aload_n 0, 1) := by decide +kernel
theorem dX3_inLine_6 : decode cX3_inLine 6 = .ok (.getfield 28, 3) := by decide +kernel
theorem dX3_inLine_9 : decode cX3_inLine 9 = .ok (.if_icmp .ge 12, 3) := by decide +kernel
theorem dX3_inLine_12 : decode cX3_inLine 12 = .ok (.aload_n 0, 1) := by decide +kernel
theorem dX3_inLine_13 : decode cX3_inLine 13 = .ok (.getfield 17, 3) := by decide +kernel
theorem dX3_inLine_16 : decode cX3_inLine 16 = .ok (.iload_n 1, 1) := by decide +kernel
theorem dX3_inLine_17 : decode cX3_inLine 17 = .ok (.iaload, 1) := by decide +kernel
theorem dX3_inLine_18 : decode cX3_inLine 18 = .ok (.goto 4, 3) := by decide +kernel
theorem dX3_inLine_21 : decode cX3_inLine 21 = .ok (.iconst (-1), 1) := by decide +kernel
theorem dX3_inLine_22 : decode cX3_inLine 22 = .ok (.ireturn, 1) := by decide +kernel
theorem dX3_add_0 : decode cX3_add 0 = .ok (.aload_n 0, 1) := by decide +kernel
theorem dX3_add_1 : decode cX3_add 1 = .ok (.getfield 28, 3) := by decide +kernel
theorem dX3_add_4 : decode cX3_add 4 = .ok (.istore_n 3, 1) := by decide +kernel
theorem dX3_add_5 : decode cX3_add 5 = .ok (.aload_n 0, 1) := by decide +kernel
theorem dX3_add_6 : decode cX3_add 6 = .ok (.getfield 11, 3) := by decide +kernel
theorem dX3_add_9 : decode cX3_add 9 = .ok (.iload_n 3, 1) := by decide +kernel
theorem dX3_add_10 : decode cX3_add 10 = .ok (.new 9, 3) := by decide +kernel
theorem dX3_add_13 : decode cX3_add 13 = .ok (.dup, 1) := by decide +kernel
theorem dX3_add_14 : decode cX3_add 14 = .ok (.iload_n 3, 1) := by decide +kernel
theorem dX3_add_15 : decode cX3_add 15 = .ok (.iload_n 1, 1) := by decide +kernel
theorem dX3_add_16 : decode cX3_add 16 = .ok (.iload_n 2, 1) := by decide +kernel
theorem dX3_add_17 : decode cX3_add 17 = .ok (.invokespecial 42, 3) := by decide +kernel
theorem dX3_add_20 : decode cX3_add 20 = .ok (.aastore, 1) := by decide +kernel
theorem dX3_add_21 : decode cX3_add 21 = .ok (.aload_n 0, 1) := by decide +kernel
theorem dX3_add_22 : decode cX3_add 22 = .ok (.iload_n 3, 1) := by decide +kernel
theorem dX3_add_23 : decode cX3_add 23 = .ok (.iconst 1, 1) := by decide +kernel
theorem dX3_add_24 : decode cX3_add 24 = .ok (.iadd, 1) := by decide +kernel
theorem dX3_add_25 : decode cX3_add 25 = .ok (.putfield 28, 3) := by decide +kernel
theorem dX3_add_28 : decode cX3_add 28 = .ok (.aload_n 0, 1) := by decide +kernel
theorem dX3_add_29 : decode cX3_add 29 = .ok (.invokevirtual 45, 3) := by decide +kernel
theorem dX3_add_32 : decode cX3_add 32 = .ok (.iload_n 3, 1) := by decide +kernel
theorem dX3_add_33 : decode cX3_add 33 = .ok (.ireturn, 1) := by decide +kernel
theorem dX3_join_0 : decode cX3_join 0 = .ok (.aload_n 2, 1) := by decide +kernel
theorem dX3_join_1 : decode cX3_join 1 = .ok (.iload_n 3, 1) := by decide +kernel
theorem dX3_join_2 : decode cX3_join 2 = .ok (.iload_n 1, 1) := by decide +kernel
theorem dX3_join_3 : decode cX3_join 3 = .ok (.invokevirtual 48, 3) := by decide +kernel
theorem dX3_join_6 : decode cX3_join 6 = .ok (.aload_n 0, 1) := by decide +kernel
theorem dX3_join_7 : decode cX3_join 7 = .ok (.invokevirtual 45, 3) := by decide +kernel
theorem dX3_join_10 : decode cX3_join 10 = .ok (.return_, 1) := by decide +kernel
theorem dX3_cordCount_0 : decode cX3_cordCount 0 = .ok (.iconst 0, 1) := by decide +kernel
theorem dX3_cordCount_1 : decode cX3_cordCount 1 = .ok (.istore_n 1, 1) := by decide +kernel
theorem dX3_cordCount_2 : decode cX3_cordCount 2 = .ok (.iconst 0, 1) := by decide +kernel
theorem dX3_cordCount_3 : decode cX3_cordCount 3 = .ok (.istore_n 2, 1) := by decide +kernel
theorem dX3_cordCount_4 : decode cX3_cordCount 4 = .ok (.iload_n 2, 1) := by decide +kernel
theorem dX3_cordCount_5 : decode cX3_cordCount 5 = .ok (.aload_n 0, 1) := by decide +kernel
theorem dX3_cordCount_6 : decode cX3_cordCount 6 = .ok (.getfield 28, 3) := by decide +kernel
theorem dX3_cordCount_9 : decode cX3_cordCount 9 = .ok (.if_icmp .ge 52, 3) := by decide +kernel
theorem dX3_cordCount_12 : decode cX3_cordCount 12 = .ok (.aload_n 0, 1) := by decide +kernel
theorem dX3_cordCount_13 : decode cX3_cordCount 13 = .ok (.getfield 11, 3) := by decide +kernel
theorem dX3_cordCount_16 : decode cX3_cordCount 16 = .ok (.iload_n 2, 1) := by decide +kernel
theorem dX3_cordCount_17 : decode cX3_cordCount 17 = .ok (.aaload, 1) := by decide +kernel
theorem dX3_cordCount_18 : decode cX3_cordCount 18 = .ok (.astore_n 3, 1) := by decide +kernel
theorem dX3_cordCount_19 : decode cX3_cordCount 19 = .ok (.iconst 0, 1) := by decide +kernel
theorem dX3_cordCount_20 : decode cX3_cordCount 20 = .ok (.istore 4, 2) := by decide +kernel
theorem dX3_cordCount_22 : decode cX3_cordCount 22 = .ok (.iload 4, 2) := by decide +kernel
theorem dX3_cordCount_24 : decode cX3_cordCount 24 = .ok (.aload_n 3, 1) := by decide +kernel
theorem dX3_cordCount_25 : decode cX3_cordCount 25 = .ok (.invokevirtual 52, 3) := by decide +kernel
theorem dX3_cordCount_28 : decode cX3_cordCount 28 = .ok (.if_icmp .ge 27, 3) := by decide +kernel
theorem dX3_cordCount_31 : decode cX3_cordCount 31 = .ok (.iload_n 1, 1) := by decide +kernel
theorem dX3_cordCount_32 : decode cX3_cordCount 32 = .ok (.aload_n 3, 1) := by decide +kernel
theorem dX3_cordCount_33 : decode cX3_cordCount 33 = .ok (.iload 4, 2) := by decide +kernel
theorem dX3_cordCount_35 : decode cX3_cordCount 35 = .ok (.invokevirtual 56, 3) := by decide +kernel
theorem dX3_cordCount_38 : decode cX3_cordCount 38 = .ok (.iconst (-1), 1) := by decide +kernel
theorem dX3_cordCount_39 : decode cX3_cordCount 39 = .ok (.if_icmp .ne 7, 3) := by decide +kernel
theorem dX3_cordCount_42 : decode cX3_cordCount 42 = .ok (.iconst 0, 1) := by decide +kernel
theorem dX3_cordCount_43 : decode cX3_cordCount 43 = .ok (.goto 4, 3) := by decide +kernel
theorem dX3_cordCount_46 : decode cX3_cordCount 46 = .ok (.iconst 1, 1) := by decide +kernel
theorem dX3_cordCount_47 : decode cX3_cordCount 47 = .ok (.iadd, 1) := by decide +kernel
theorem dX3_cordCount_48 : decode cX3_cordCount 48 = .ok (.istore_n 1, 1) := by decide +kernel
theorem dX3_cordCount_49 : decode cX3_cordCount 49 = .ok (.iinc 4 1, 3) := by decide +kernel
theorem dX3_cordCount_52 : decode cX3_cordCount 52 = .ok (.goto (-30), 3) := by decide +kernel
theorem dX3_cordCount_55 : decode cX3_cordCount 55 = .ok (.iinc 2 1, 3) := by decide +kernel
theorem dX3_cordCount_58 : decode cX3_cordCount 58 = .ok (.goto (-54), 3) := by decide +kernel
theorem dX3_cordCount_61 : decode cX3_cordCount 61 = .ok (.iload_n 1, 1) := by decide +kernel
theorem dX3_cordCount_62 : decode cX3_cordCount 62 = .ok (.ireturn, 1) := by decide +kernel
theorem dX3_shortestLoop_0 : decode cX3_shortestLoop 0 = .ok (.aload_n 0, 1) := by decide +kernel
theorem dX3_shortestLoop_1 : decode cX3_shortestLoop 1 = .ok (.iload_n 2, 1) := by decide +kernel
theorem dX3_shortestLoop_2 : decode cX3_shortestLoop 2 = .ok (.invokevirtual 60, 3) := by decide +kernel
theorem dX3_shortestLoop_5 : decode cX3_shortestLoop 5 = .ok (.astore_n 3, 1) := by decide +kernel
theorem dX3_shortestLoop_6 : decode cX3_shortestLoop 6 = .ok (.aload_n 0, 1) := by decide +kernel
theorem dX3_shortestLoop_7 : decode cX3_shortestLoop 7 = .ok (.iload_n 1, 1) := by decide +kernel
theorem dX3_shortestLoop_8 : decode cX3_shortestLoop 8 = .ok (.invokevirtual 60, 3) := by decide +kernel
theorem dX3_shortestLoop_11 : decode cX3_shortestLoop 11 = .ok (.astore 4, 2) := by decide +kernel
theorem dX3_shortestLoop_13 : decode cX3_shortestLoop 13 = .ok (.aload_n 3, 1) := by decide +kernel
theorem dX3_shortestLoop_14 : decode cX3_shortestLoop 14 = .ok (.ifnull 27, 3) := by decide +kernel
theorem dX3_shortestLoop_17 : decode cX3_shortestLoop 17 = .ok (.aload 4, 2) := by decide +kernel
theorem dX3_shortestLoop_19 : decode cX3_shortestLoop 19 = .ok (.ifnull 22, 3) := by decide +kernel
theorem dX3_shortestLoop_22 : decode cX3_shortestLoop 22 = .ok (.aload_n 3, 1) := by decide +kernel
theorem dX3_shortestLoop_23 : decode cX3_shortestLoop 23 = .ok (.getfield 64, 3) := by decide +kernel
theorem dX3_shortestLoop_26 : decode cX3_shortestLoop 26 = .ok (.bipush 6, 2) := by decide +kernel
theorem dX3_shortestLoop_28 : decode cX3_shortestLoop 28 = .ok (.if_icmp .eq 13, 3) := by decide +kernel
theorem dX3_shortestLoop_31 : decode cX3_shortestLoop 31 = .ok (.aload 4, 2) := by decide +kernel
theorem dX3_shortestLoop_33 : decode cX3_shortestLoop 33 = .ok (.getfield 64, 3) := by decide +kernel
theorem dX3_shortestLoop_36 : decode cX3_shortestLoop 36 = .ok (.bipush 6, 2) := by decide +kernel
theorem dX3_shortestLoop_38 : decode cX3_shortestLoop 38 = .ok (.if_icmp .ne 5, 3) := by decide +kernel
theorem dX3_shortestLoop_41 : decode cX3_shortestLoop 41 = .ok (.iconst 0, 1) := by decide +kernel
theorem dX3_shortestLoop_42 : decode cX3_shortestLoop 42 = .ok (.ireturn, 1) := by decide +kernel
theorem dX3_shortestLoop_43 : decode cX3_shortestLoop 43 = .ok (.iconst 0, 1) := by decide +kernel
theorem dX3_shortestLoop_44 : decode cX3_shortestLoop 44 = .ok (.istore 5, 2) := by decide +kernel
theorem dX3_shortestLoop_46 : decode cX3_shortestLoop 46 = .ok (.iload 5, 2) := by decide +kernel
theorem dX3_shortestLoop_48 : decode cX3_shortestLoop 48 = .ok (.aload_n 0, 1) := by decide +kernel
theorem dX3_shortestLoop_49 : decode cX3_shortestLoop 49 = .ok (.getfield 28, 3) := by decide +kernel
theorem dX3_shortestLoop_52 : decode cX3_shortestLoop 52 = .ok (.if_icmp .ge 27, 3) := by decide +kernel
theorem dX3_shortestLoop_55 : decode cX3_shortestLoop 55 = .ok (.aload_n 0, 1) := by decide +kernel
theorem dX3_shortestLoop_56 : decode cX3_shortestLoop 56 = .ok (.getfield 25, 3) := by decide +kernel
theorem dX3_shortestLoop_59 : decode cX3_shortestLoop 59 = .ok (.iload 5, 2) := by decide +kernel
theorem dX3_shortestLoop_61 : decode cX3_shortestLoop 61 = .ok (.iload 5, 2) := by decide +kernel
theorem dX3_shortestLoop_63 : decode cX3_shortestLoop 63 = .ok (.iload_n 2, 1) := by decide +kernel
theorem dX3_shortestLoop_64 : decode cX3_shortestLoop 64 = .ok (.if_icmp .ne 7, 3) := by decide +kernel
theorem dX3_shortestLoop_67 : decode cX3_shortestLoop 67 = .ok (.iconst 1, 1) := by decide +kernel
theorem dX3_shortestLoop_68 : decode cX3_shortestLoop 68 = .ok (.goto 4, 3) := by decide +kernel
theorem dX3_shortestLoop_71 : decode cX3_shortestLoop 71 = .ok (.iconst 0, 1) := by decide +kernel
theorem dX3_shortestLoop_72 : decode cX3_shortestLoop 72 = .ok (.iastore, 1) := by decide +kernel
theorem dX3_shortestLoop_73 : decode cX3_shortestLoop 73 = .ok (.iinc 5 1, 3) := by decide +kernel
theorem dX3_shortestLoop_76 : decode cX3_shortestLoop 76 = .ok (.goto (-30), 3) := by decide +kernel
theorem dX3_shortestLoop_79 : decode cX3_shortestLoop 79 = .ok (.iconst 1, 1) := by decide +kernel
theorem dX3_shortestLoop_80 : decode cX3_shortestLoop 80 = .ok (.istore 5, 2) := by decide +kernel
theorem dX3_shortestLoop_82 : decode cX3_shortestLoop 82 = .ok (.iload 5, 2) := by decide +kernel
theorem dX3_shortestLoop_84 : decode cX3_shortestLoop 84 = .ok (.aload_n 0, 1) := by decide +kernel
theorem dX3_shortestLoop_85 : decode cX3_shortestLoop 85 = .ok (.getfield 28, 3) := by decide +kernel
theorem dX3_shortestLoop_88 : decode cX3_shortestLoop 88 = .ok (.if_icmp .ge 24, 3) := by decide +kernel
theorem dX3_shortestLoop_91 : decode cX3_shortestLoop 91 = .ok (.aload_n 0, 1) := by decide +kernel
theorem dX3_shortestLoop_92 : decode cX3_shortestLoop 92 = .ok (.getfield 25, 3) := by decide +kernel
theorem dX3_shortestLoop_95 : decode cX3_shortestLoop 95 = .ok (.iload_n 1, 1) := by decide +kernel
theorem dX3_shortestLoop_96 : decode cX3_shortestLoop 96 = .ok (.iaload, 1) := by decide +kernel
theorem dX3_shortestLoop_97 : decode cX3_shortestLoop 97 = .ok (.ifCond .ne 15, 3) := by decide +kernel
theorem dX3_shortestLoop_100 : decode cX3_shortestLoop 100 = .ok (.aload_n 0, 1) := by decide +kernel
theorem dX3_shortestLoop_101 : decode cX3_shortestLoop 101 = .ok (.iload 5, 2) := by decide +kernel
theorem dX3_shortestLoop_103 : decode cX3_shortestLoop 103 = .ok (.invokevirtual 67, 3) := by decide +kernel
theorem dX3_shortestLoop_106 : decode cX3_shortestLoop 106 = .ok (.iinc 5 1, 3) := by decide +kernel
theorem dX3_shortestLoop_109 : decode cX3_shortestLoop 109 = .ok (.goto (-27), 3) := by decide +kernel
theorem dX3_shortestLoop_112 : decode cX3_shortestLoop 112 = .ok (.aload_n 0, 1) := by decide +kernel
theorem dX3_shortestLoop_113 : decode cX3_shortestLoop 113 = .ok (.getfield 25, 3) := by decide +kernel
theorem dX3_shortestLoop_116 : decode cX3_shortestLoop 116 = .ok (.iload_n 1, 1) := by decide +kernel
theorem dX3_shortestLoop_117 : decode cX3_shortestLoop 117 = .ok (.iaload, 1) := by decide +kernel
theorem dX3_shortestLoop_118 : decode cX3_shortestLoop 118 = .ok (.ireturn, 1) := by decide +kernel
theorem dX3_stepOn_0 : decode cX3_stepOn 0 = .ok (.iconst 0, 1) := by decide +kernel
theorem dX3_stepOn_1 : decode cX3_stepOn 1 = .ok (.istore_n 2, 1) := by decide +kernel
theorem dX3_stepOn_2 : decode cX3_stepOn 2 = .ok (.iload_n 2, 1) := by decide +kernel
theorem dX3_stepOn_3 : decode cX3_stepOn 3 = .ok (.aload_n 0, 1) := by decide +kernel
theorem dX3_stepOn_4 : decode cX3_stepOn 4 = .ok (.getfield 28, 3) := by decide +kernel
theorem dX3_stepOn_7 : decode cX3_stepOn 7 = .ok (.if_icmp .ge 55, 3) := by decide +kernel
theorem dX3_stepOn_10 : decode cX3_stepOn 10 = .ok (.aload_n 0, 1) := by decide +kernel
theorem dX3_stepOn_11 : decode cX3_stepOn 11 = .ok (.getfield 25, 3) := by decide +kernel
theorem dX3_stepOn_14 : decode cX3_stepOn 14 = .ok (.iload_n 2, 1) := by decide +kernel
theorem dX3_stepOn_15 : decode cX3_stepOn 15 = .ok (.iaload, 1) := by decide +kernel
theorem dX3_stepOn_16 : decode cX3_stepOn 16 = .ok (.ifCond .ne 40, 3) := by decide +kernel
theorem dX3_stepOn_19 : decode cX3_stepOn 19 = .ok (.aload_n 0, 1) := by decide +kernel
theorem dX3_stepOn_20 : decode cX3_stepOn 20 = .ok (.getfield 11, 3) := by decide +kernel
theorem dX3_stepOn_23 : decode cX3_stepOn 23 = .ok (.iload_n 2, 1) := by decide +kernel
theorem dX3_stepOn_24 : decode cX3_stepOn 24 = .ok (.aaload, 1) := by decide +kernel
theorem dX3_stepOn_25 : decode cX3_stepOn 25 = .ok (.getfield 64, 3) := by decide +kernel
theorem dX3_stepOn_28 : decode cX3_stepOn 28 = .ok (.bipush 6, 2) := by decide +kernel
theorem dX3_stepOn_30 : decode cX3_stepOn 30 = .ok (.if_icmp .eq 26, 3) := by decide +kernel
theorem dX3_stepOn_33 : decode cX3_stepOn 33 = .ok (.aload_n 0, 1) := by decide +kernel
theorem dX3_stepOn_34 : decode cX3_stepOn 34 = .ok (.aload_n 0, 1) := by decide +kernel
theorem dX3_stepOn_35 : decode cX3_stepOn 35 = .ok (.getfield 11, 3) := by decide +kernel
theorem dX3_stepOn_38 : decode cX3_stepOn 38 = .ok (.iload_n 2, 1) := by decide +kernel
theorem dX3_stepOn_39 : decode cX3_stepOn 39 = .ok (.aaload, 1) := by decide +kernel
theorem dX3_stepOn_40 : decode cX3_stepOn 40 = .ok (.iload_n 1, 1) := by decide +kernel
theorem dX3_stepOn_41 : decode cX3_stepOn 41 = .ok (.invokevirtual 71, 3) := by decide +kernel
theorem dX3_stepOn_44 : decode cX3_stepOn 44 = .ok (.ifCond .eq 12, 3) := by decide +kernel
theorem dX3_stepOn_47 : decode cX3_stepOn 47 = .ok (.aload_n 0, 1) := by decide +kernel
theorem dX3_stepOn_48 : decode cX3_stepOn 48 = .ok (.getfield 25, 3) := by decide +kernel
theorem dX3_stepOn_51 : decode cX3_stepOn 51 = .ok (.iload_n 2, 1) := by decide +kernel
theorem dX3_stepOn_52 : decode cX3_stepOn 52 = .ok (.iload_n 1, 1) := by decide +kernel
theorem dX3_stepOn_53 : decode cX3_stepOn 53 = .ok (.iconst 1, 1) := by decide +kernel
theorem dX3_stepOn_54 : decode cX3_stepOn 54 = .ok (.iadd, 1) := by decide +kernel
theorem dX3_stepOn_55 : decode cX3_stepOn 55 = .ok (.iastore, 1) := by decide +kernel
theorem dX3_stepOn_56 : decode cX3_stepOn 56 = .ok (.iinc 2 1, 3) := by decide +kernel
theorem dX3_stepOn_59 : decode cX3_stepOn 59 = .ok (.goto (-57), 3) := by decide +kernel
theorem dX3_stepOn_62 : decode cX3_stepOn 62 = .ok (.return_, 1) := by decide +kernel
theorem dX3_isFedAtStep_0 : decode cX3_isFedAtStep 0 = .ok (.iconst 0, 1) := by decide +kernel
theorem dX3_isFedAtStep_1 : decode cX3_isFedAtStep 1 = .ok (.istore_n 3, 1) := by decide +kernel
theorem dX3_isFedAtStep_2 : decode cX3_isFedAtStep 2 = .ok (.iload_n 3, 1) := by decide +kernel
theorem dX3_isFedAtStep_3 : decode cX3_isFedAtStep 3 = .ok (.aload_n 1, 1) := by decide +kernel
theorem dX3_isFedAtStep_4 : decode cX3_isFedAtStep 4 = .ok (.invokevirtual 52, 3) := by decide +kernel
theorem dX3_isFedAtStep_7 : decode cX3_isFedAtStep 7 = .ok (.if_icmp .ge 43, 3) := by decide +kernel
theorem dX3_isFedAtStep_10 : decode cX3_isFedAtStep 10 = .ok (.aload_n 1, 1) := by decide +kernel
theorem dX3_isFedAtStep_11 : decode cX3_isFedAtStep 11 = .ok (.iload_n 3, 1) := by decide +kernel
theorem dX3_isFedAtStep_12 : decode cX3_isFedAtStep 12 = .ok (.invokevirtual 56, 3) := by decide +kernel
theorem dX3_isFedAtStep_15 : decode cX3_isFedAtStep 15 = .ok (.istore 4, 2) := by decide +kernel
theorem dX3_isFedAtStep_17 : decode cX3_isFedAtStep 17 = .ok (.iload 4, 2) := by decide +kernel
theorem dX3_isFedAtStep_19 : decode cX3_isFedAtStep 19 = .ok (.ifCond .lt 25, 3) := by decide +kernel
theorem dX3_isFedAtStep_22 : decode cX3_isFedAtStep 22 = .ok (.iload 4, 2) := by decide +kernel
theorem dX3_isFedAtStep_24 : decode cX3_isFedAtStep 24 = .ok (.aload_n 0, 1) := by decide +kernel
theorem dX3_isFedAtStep_25 : decode cX3_isFedAtStep 25 = .ok (.getfield 28, 3) := by decide +kernel
theorem dX3_isFedAtStep_28 : decode cX3_isFedAtStep 28 = .ok (.if_icmp .ge 16, 3) := by decide +kernel
theorem dX3_isFedAtStep_31 : decode cX3_isFedAtStep 31 = .ok (.aload_n 0, 1) := by decide +kernel
theorem dX3_isFedAtStep_32 : decode cX3_isFedAtStep 32 = .ok (.getfield 25, 3) := by decide +kernel
theorem dX3_isFedAtStep_35 : decode cX3_isFedAtStep 35 = .ok (.iload 4, 2) := by decide +kernel
theorem dX3_isFedAtStep_37 : decode cX3_isFedAtStep 37 = .ok (.iaload, 1) := by decide +kernel
theorem dX3_isFedAtStep_38 : decode cX3_isFedAtStep 38 = .ok (.iload_n 2, 1) := by decide +kernel
theorem dX3_isFedAtStep_39 : decode cX3_isFedAtStep 39 = .ok (.if_icmp .ne 5, 3) := by decide +kernel
theorem dX3_isFedAtStep_42 : decode cX3_isFedAtStep 42 = .ok (.iconst 1, 1) := by decide +kernel
theorem dX3_isFedAtStep_43 : decode cX3_isFedAtStep 43 = .ok (.ireturn, 1) := by decide +kernel
theorem dX3_isFedAtStep_44 : decode cX3_isFedAtStep 44 = .ok (.iinc 3 1, 3) := by decide +kernel
theorem dX3_isFedAtStep_47 : decode cX3_isFedAtStep 47 = .ok (.goto (-45), 3) := by decide +kernel
theorem dX3_isFedAtStep_50 : decode cX3_isFedAtStep 50 = .ok (.iconst 0, 1) := by decide +kernel
theorem dX3_isFedAtStep_51 : decode cX3_isFedAtStep 51 = .ok (.ireturn, 1) := by decide +kernel
theorem dX3_lineUp_0 : decode cX3_lineUp 0 = .ok (.iconst 0, 1) := by decide +kernel
theorem dX3_lineUp_1 : decode cX3_lineUp 1 = .ok (.istore_n 1, 1) := by decide +kernel
theorem dX3_lineUp_2 : decode cX3_lineUp 2 = .ok (.iconst 0, 1) := by decide +kernel
theorem dX3_lineUp_3 : decode cX3_lineUp 3 = .ok (.istore_n 2, 1) := by decide +kernel
theorem dX3_lineUp_4 : decode cX3_lineUp 4 = .ok (.iload_n 2, 1) := by decide +kernel
theorem dX3_lineUp_5 : decode cX3_lineUp 5 = .ok (.aload_n 0, 1) := by decide +kernel
theorem dX3_lineUp_6 : decode cX3_lineUp 6 = .ok (.getfield 28, 3) := by decide +kernel
theorem dX3_lineUp_9 : decode cX3_lineUp 9 = .ok (.if_icmp .ge 53, 3) := by decide +kernel
theorem dX3_lineUp_12 : decode cX3_lineUp 12 = .ok (.aload_n 0, 1) := by decide +kernel
theorem dX3_lineUp_13 : decode cX3_lineUp 13 = .ok (.getfield 21, 3) := by decide +kernel
theorem dX3_lineUp_16 : decode cX3_lineUp 16 = .ok (.iload_n 2, 1) := by decide +kernel
theorem dX3_lineUp_17 : decode cX3_lineUp 17 = .ok (.aload_n 0, 1) := by decide +kernel
theorem dX3_lineUp_18 : decode cX3_lineUp 18 = .ok (.getfield 11, 3) := by decide +kernel
theorem dX3_lineUp_21 : decode cX3_lineUp 21 = .ok (.iload_n 2, 1) := by decide +kernel
theorem dX3_lineUp_22 : decode cX3_lineUp 22 = .ok (.aaload, 1) := by decide +kernel
theorem dX3_lineUp_23 : decode cX3_lineUp 23 = .ok (.getfield 64, 3) := by decide +kernel
theorem dX3_lineUp_26 : decode cX3_lineUp 26 = .ok (.bipush 6, 2) := by decide +kernel
theorem dX3_lineUp_28 : decode cX3_lineUp 28 = .ok (.if_icmp .ne 7, 3) := by decide +kernel
theorem dX3_lineUp_31 : decode cX3_lineUp 31 = .ok (.iconst 1, 1) := by decide +kernel
theorem dX3_lineUp_32 : decode cX3_lineUp 32 = .ok (.goto 4, 3) := by decide +kernel
theorem dX3_lineUp_35 : decode cX3_lineUp 35 = .ok (.iconst 0, 1) := by decide +kernel
theorem dX3_lineUp_36 : decode cX3_lineUp 36 = .ok (.bastore, 1) := by decide +kernel
theorem dX3_lineUp_37 : decode cX3_lineUp 37 = .ok (.aload_n 0, 1) := by decide +kernel
theorem dX3_lineUp_38 : decode cX3_lineUp 38 = .ok (.getfield 21, 3) := by decide +kernel
theorem dX3_lineUp_41 : decode cX3_lineUp 41 = .ok (.iload_n 2, 1) := by decide +kernel
theorem dX3_lineUp_42 : decode cX3_lineUp 42 = .ok (.baload, 1) := by decide +kernel
theorem dX3_lineUp_43 : decode cX3_lineUp 43 = .ok (.ifCond .eq 13, 3) := by decide +kernel
theorem dX3_lineUp_46 : decode cX3_lineUp 46 = .ok (.aload_n 0, 1) := by decide +kernel
theorem dX3_lineUp_47 : decode cX3_lineUp 47 = .ok (.getfield 17, 3) := by decide +kernel
theorem dX3_lineUp_50 : decode cX3_lineUp 50 = .ok (.iload_n 1, 1) := by decide +kernel
theorem dX3_lineUp_51 : decode cX3_lineUp 51 = .ok (.iload_n 2, 1) := by decide +kernel
theorem dX3_lineUp_52 : decode cX3_lineUp 52 = .ok (.iastore, 1) := by decide +kernel
theorem dX3_lineUp_53 : decode cX3_lineUp 53 = .ok (.iinc 1 1, 3) := by decide +kernel
theorem dX3_lineUp_56 : decode cX3_lineUp 56 = .ok (.iinc 2 1, 3) := by decide +kernel
theorem dX3_lineUp_59 : decode cX3_lineUp 59 = .ok (.goto (-55), 3) := by decide +kernel
theorem dX3_lineUp_62 : decode cX3_lineUp 62 = .ok (.iload_n 1, 1) := by decide +kernel
theorem dX3_lineUp_63 : decode cX3_lineUp 63 = .ok (.istore_n 2, 1) := by decide +kernel
theorem dX3_lineUp_64 : decode cX3_lineUp 64 = .ok (.iload_n 2, 1) := by decide +kernel
theorem dX3_lineUp_65 : decode cX3_lineUp 65 = .ok (.aload_n 0, 1) := by decide +kernel
theorem dX3_lineUp_66 : decode cX3_lineUp 66 = .ok (.getfield 28, 3) := by decide +kernel
theorem dX3_lineUp_69 : decode cX3_lineUp 69 = .ok (.if_icmp .ge 14, 3) := by decide +kernel
theorem dX3_lineUp_72 : decode cX3_lineUp 72 = .ok (.aload_n 0, 1) := by decide +kernel
theorem dX3_lineUp_73 : decode cX3_lineUp 73 = .ok (.iload_n 2, 1) := by decide +kernel
theorem dX3_lineUp_74 : decode cX3_lineUp 74 = .ok (.invokevirtual 75, 3) := by decide +kernel
theorem dX3_lineUp_77 : decode cX3_lineUp 77 = .ok (.iinc 2 1, 3) := by decide +kernel
theorem dX3_lineUp_80 : decode cX3_lineUp 80 = .ok (.goto (-16), 3) := by decide +kernel
theorem dX3_lineUp_83 : decode cX3_lineUp 83 = .ok (.return_, 1) := by decide +kernel
theorem dX3_placeNext_0 : decode cX3_placeNext 0 = .ok (.aload_n 0, 1) := by decide +kernel
theorem dX3_placeNext_1 : decode cX3_placeNext 1 = .ok (.invokevirtual 78, 3) := by decide +kernel
theorem dX3_placeNext_4 : decode cX3_placeNext 4 = .ok (.istore_n 2, 1) := by decide +kernel
theorem dX3_placeNext_5 : decode cX3_placeNext 5 = .ok (.iload_n 2, 1) := by decide +kernel
theorem dX3_placeNext_6 : decode cX3_placeNext 6 = .ok (.ifCond .lt 17, 3) := by decide +kernel
theorem dX3_placeNext_9 : decode cX3_placeNext 9 = .ok (.aload_n 0, 1) := by decide +kernel
theorem dX3_placeNext_10 : decode cX3_placeNext 10 = .ok (.getfield 21, 3) := by decide +kernel
theorem dX3_placeNext_13 : decode cX3_placeNext 13 = .ok (.iload_n 2, 1) := by decide +kernel
theorem dX3_placeNext_14 : decode cX3_placeNext 14 = .ok (.iconst 1, 1) := by decide +kernel
theorem dX3_placeNext_15 : decode cX3_placeNext 15 = .ok (.bastore, 1) := by decide +kernel
theorem dX3_placeNext_16 : decode cX3_placeNext 16 = .ok (.aload_n 0, 1) := by decide +kernel
theorem dX3_placeNext_17 : decode cX3_placeNext 17 = .ok (.getfield 17, 3) := by decide +kernel
theorem dX3_placeNext_20 : decode cX3_placeNext 20 = .ok (.iload_n 1, 1) := by decide +kernel
theorem dX3_placeNext_21 : decode cX3_placeNext 21 = .ok (.iload_n 2, 1) := by decide +kernel
theorem dX3_placeNext_22 : decode cX3_placeNext 22 = .ok (.iastore, 1) := by decide +kernel
theorem dX3_placeNext_23 : decode cX3_placeNext 23 = .ok (.return_, 1) := by decide +kernel
theorem dX3_leastReady_0 : decode cX3_leastReady 0 = .ok (.iconst 0, 1) := by decide +kernel
theorem dX3_leastReady_1 : decode cX3_leastReady 1 = .ok (.istore_n 1, 1) := by decide +kernel
theorem dX3_leastReady_2 : decode cX3_leastReady 2 = .ok (.iload_n 1, 1) := by decide +kernel
theorem dX3_leastReady_3 : decode cX3_leastReady 3 = .ok (.aload_n 0, 1) := by decide +kernel
theorem dX3_leastReady_4 : decode cX3_leastReady 4 = .ok (.getfield 28, 3) := by decide +kernel
theorem dX3_leastReady_7 : decode cX3_leastReady 7 = .ok (.if_icmp .ge 33, 3) := by decide +kernel
theorem dX3_leastReady_10 : decode cX3_leastReady 10 = .ok (.aload_n 0, 1) := by decide +kernel
theorem dX3_leastReady_11 : decode cX3_leastReady 11 = .ok (.getfield 21, 3) := by decide +kernel
theorem dX3_leastReady_14 : decode cX3_leastReady 14 = .ok (.iload_n 1, 1) := by decide +kernel
theorem dX3_leastReady_15 : decode cX3_leastReady 15 = .ok (.baload, 1) := by decide +kernel
theorem dX3_leastReady_16 : decode cX3_leastReady 16 = .ok (.ifCond .ne 18, 3) := by decide +kernel
theorem dX3_leastReady_19 : decode cX3_leastReady 19 = .ok (.aload_n 0, 1) := by decide +kernel
theorem dX3_leastReady_20 : decode cX3_leastReady 20 = .ok (.aload_n 0, 1) := by decide +kernel
theorem dX3_leastReady_21 : decode cX3_leastReady 21 = .ok (.getfield 11, 3) := by decide +kernel
theorem dX3_leastReady_24 : decode cX3_leastReady 24 = .ok (.iload_n 1, 1) := by decide +kernel
theorem dX3_leastReady_25 : decode cX3_leastReady 25 = .ok (.aaload, 1) := by decide +kernel
theorem dX3_leastReady_26 : decode cX3_leastReady 26 = .ok (.invokevirtual 81, 3) := by decide +kernel
theorem dX3_leastReady_29 : decode cX3_leastReady 29 = .ok (.ifCond .eq 5, 3) := by decide +kernel
theorem dX3_leastReady_32 : decode cX3_leastReady 32 = .ok (.iload_n 1, 1) := by decide +kernel
theorem dX3_leastReady_33 : decode cX3_leastReady 33 = .ok (.ireturn, 1) := by decide +kernel
theorem dX3_leastReady_34 : decode cX3_leastReady 34 = .ok (.iinc 1 1, 3) := by decide +kernel
theorem dX3_leastReady_37 : decode cX3_leastReady 37 = .ok (.goto (-35), 3) := by decide +kernel
theorem dX3_leastReady_40 : decode cX3_leastReady 40 = .ok (.iconst (-1), 1) := by decide +kernel
theorem dX3_leastReady_41 : decode cX3_leastReady 41 = .ok (.ireturn, 1) := by decide +kernel
theorem dX3_isReady_0 : decode cX3_isReady 0 = .ok (.iconst 0, 1) := by decide +kernel
theorem dX3_isReady_1 : decode cX3_isReady 1 = .ok (.istore_n 2, 1) := by decide +kernel
theorem dX3_isReady_2 : decode cX3_isReady 2 = .ok (.iload_n 2, 1) := by decide +kernel
