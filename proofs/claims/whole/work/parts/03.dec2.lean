theorem dX10_knob_51 : decode cX10_knob 51 = .ok (.iload_n 1, 1) := by decide +kernel
theorem dX10_knob_52 : decode cX10_knob 52 = .ok (.imul, 1) := by decide +kernel
theorem dX10_knob_53 : decode cX10_knob 53 = .ok (.iload_n 2, 1) := by decide +kernel
theorem dX10_knob_54 : decode cX10_knob 54 = .ok (.iadd, 1) := by decide +kernel
theorem dX10_knob_55 : decode cX10_knob 55 = .ok (.iload_n 3, 1) := by decide +kernel
theorem dX10_knob_56 : decode cX10_knob 56 = .ok (.iastore, 1) := by decide +kernel
theorem dX10_knob_57 : decode cX10_knob 57 = .ok (.iload 4, 2) := by decide +kernel
theorem dX10_knob_59 : decode cX10_knob 59 = .ok (.ireturn, 1) := by decide +kernel
theorem dX10_table_0 : decode cX10_table 0 = .ok (.iload_n 1, 1) := by decide +kernel
theorem dX10_table_1 : decode cX10_table 1 = .ok (.iconst 0, 1) := by decide +kernel
theorem dX10_table_2 : decode cX10_table 2 = .ok (.bipush 7, 2) := by decide +kernel
theorem dX10_table_4 : decode cX10_table 4 = .ok (.invokestatic 72, 3) := by decide +kernel
theorem dX10_table_7 : decode cX10_table 7 = .ok (.ifCond .eq 13, 3) := by decide +kernel
theorem dX10_table_10 : decode cX10_table 10 = .ok (.iload_n 2, 1) := by decide +kernel
theorem dX10_table_11 : decode cX10_table 11 = .ok (.iconst (-1), 1) := by decide +kernel
theorem dX10_table_12 : decode cX10_table 12 = .ok (.bipush 16, 2) := by decide +kernel
theorem dX10_table_14 : decode cX10_table 14 = .ok (.invokestatic 72, 3) := by decide +kernel
theorem dX10_table_17 : decode cX10_table 17 = .ok (.ifCond .ne 5, 3) := by decide +kernel
theorem dX10_table_20 : decode cX10_table 20 = .ok (.iconst (-1), 1) := by decide +kernel
theorem dX10_table_21 : decode cX10_table 21 = .ok (.ireturn, 1) := by decide +kernel
theorem dX10_table_22 : decode cX10_table 22 = .ok (.aload_n 0, 1) := by decide +kernel
theorem dX10_table_23 : decode cX10_table 23 = .ok (.getfield 32, 3) := by decide +kernel
theorem dX10_table_26 : decode cX10_table 26 = .ok (.iload_n 1, 1) := by decide +kernel
theorem dX10_table_27 : decode cX10_table 27 = .ok (.iload_n 2, 1) := by decide +kernel
theorem dX10_table_28 : decode cX10_table 28 = .ok (.iconst 1, 1) := by decide +kernel
theorem dX10_table_29 : decode cX10_table 29 = .ok (.iadd, 1) := by decide +kernel
theorem dX10_table_30 : decode cX10_table 30 = .ok (.iastore, 1) := by decide +kernel
theorem dX10_table_31 : decode cX10_table 31 = .ok (.iconst 0, 1) := by decide +kernel
theorem dX10_table_32 : decode cX10_table 32 = .ok (.istore_n 3, 1) := by decide +kernel
theorem dX10_table_33 : decode cX10_table 33 = .ok (.iload_n 3, 1) := by decide +kernel
theorem dX10_table_34 : decode cX10_table 34 = .ok (.bipush 16, 2) := by decide +kernel
theorem dX10_table_36 : decode cX10_table 36 = .ok (.if_icmp .ge 21, 3) := by decide +kernel
theorem dX10_table_39 : decode cX10_table 39 = .ok (.aload_n 0, 1) := by decide +kernel
theorem dX10_table_40 : decode cX10_table 40 = .ok (.getfield 29, 3) := by decide +kernel
theorem dX10_table_43 : decode cX10_table 43 = .ok (.bipush 16, 2) := by decide +kernel
theorem dX10_table_45 : decode cX10_table 45 = .ok (.iload_n 1, 1) := by decide +kernel
theorem dX10_table_46 : decode cX10_table 46 = .ok (.imul, 1) := by decide +kernel
theorem dX10_table_47 : decode cX10_table 47 = .ok (.iload_n 3, 1) := by decide +kernel
theorem dX10_table_48 : decode cX10_table 48 = .ok (.iadd, 1) := by decide +kernel
theorem dX10_table_49 : decode cX10_table 49 = .ok (.iconst 0, 1) := by decide +kernel
theorem dX10_table_50 : decode cX10_table 50 = .ok (.iastore, 1) := by decide +kernel
theorem dX10_table_51 : decode cX10_table 51 = .ok (.iinc 3 1, 3) := by decide +kernel
theorem dX10_table_54 : decode cX10_table 54 = .ok (.goto (-21), 3) := by decide +kernel
theorem dX10_table_57 : decode cX10_table 57 = .ok (.iconst 1, 1) := by decide +kernel
theorem dX10_table_58 : decode cX10_table 58 = .ok (.ireturn, 1) := by decide +kernel
theorem dX10_write_0 : decode cX10_write 0 = .ok (.iload_n 1, 1) := by decide +kernel
theorem dX10_write_1 : decode cX10_write 1 = .ok (.iconst 0, 1) := by decide +kernel
theorem dX10_write_2 : decode cX10_write 2 = .ok (.bipush 7, 2) := by decide +kernel
theorem dX10_write_4 : decode cX10_write 4 = .ok (.invokestatic 72, 3) := by decide +kernel
theorem dX10_write_7 : decode cX10_write 7 = .ok (.ifCond .ne 5, 3) := by decide +kernel
theorem dX10_write_10 : decode cX10_write 10 = .ok (.iconst (-1), 1) := by decide +kernel
theorem dX10_write_11 : decode cX10_write 11 = .ok (.ireturn, 1) := by decide +kernel
theorem dX10_write_12 : decode cX10_write 12 = .ok (.aload_n 0, 1) := by decide +kernel
theorem dX10_write_13 : decode cX10_write 13 = .ok (.getfield 32, 3) := by decide +kernel
theorem dX10_write_16 : decode cX10_write 16 = .ok (.iload_n 1, 1) := by decide +kernel
theorem dX10_write_17 : decode cX10_write 17 = .ok (.iaload, 1) := by decide +kernel
theorem dX10_write_18 : decode cX10_write 18 = .ok (.ifCond .ne 6, 3) := by decide +kernel
theorem dX10_write_21 : decode cX10_write 21 = .ok (.bipush (-2), 2) := by decide +kernel
theorem dX10_write_23 : decode cX10_write 23 = .ok (.ireturn, 1) := by decide +kernel
theorem dX10_write_24 : decode cX10_write 24 = .ok (.iload_n 2, 1) := by decide +kernel
theorem dX10_write_25 : decode cX10_write 25 = .ok (.iconst 0, 1) := by decide +kernel
theorem dX10_write_26 : decode cX10_write 26 = .ok (.aload_n 0, 1) := by decide +kernel
theorem dX10_write_27 : decode cX10_write 27 = .ok (.getfield 32, 3) := by decide +kernel
theorem dX10_write_30 : decode cX10_write 30 = .ok (.iload_n 1, 1) := by decide +kernel
theorem dX10_write_31 : decode cX10_write 31 = .ok (.iaload, 1) := by decide +kernel
theorem dX10_write_32 : decode cX10_write 32 = .ok (.iconst 2, 1) := by decide +kernel
theorem dX10_write_33 : decode cX10_write 33 = .ok (.isub, 1) := by decide +kernel
theorem dX10_write_34 : decode cX10_write 34 = .ok (.invokestatic 72, 3) := by decide +kernel
theorem dX10_write_37 : decode cX10_write 37 = .ok (.ifCond .ne 6, 3) := by decide +kernel
theorem dX10_write_40 : decode cX10_write 40 = .ok (.bipush (-3), 2) := by decide +kernel
theorem dX10_write_42 : decode cX10_write 42 = .ok (.ireturn, 1) := by decide +kernel
theorem dX10_write_43 : decode cX10_write 43 = .ok (.aload_n 0, 1) := by decide +kernel
theorem dX10_write_44 : decode cX10_write 44 = .ok (.getfield 29, 3) := by decide +kernel
theorem dX10_write_47 : decode cX10_write 47 = .ok (.bipush 16, 2) := by decide +kernel
theorem dX10_write_49 : decode cX10_write 49 = .ok (.iload_n 1, 1) := by decide +kernel
theorem dX10_write_50 : decode cX10_write 50 = .ok (.imul, 1) := by decide +kernel
theorem dX10_write_51 : decode cX10_write 51 = .ok (.iload_n 2, 1) := by decide +kernel
theorem dX10_write_52 : decode cX10_write 52 = .ok (.iadd, 1) := by decide +kernel
theorem dX10_write_53 : decode cX10_write 53 = .ok (.iload_n 3, 1) := by decide +kernel
theorem dX10_write_54 : decode cX10_write 54 = .ok (.iastore, 1) := by decide +kernel
theorem dX10_write_55 : decode cX10_write 55 = .ok (.iconst 1, 1) := by decide +kernel
theorem dX10_write_56 : decode cX10_write 56 = .ok (.ireturn, 1) := by decide +kernel
theorem dX10_rowAt_0 : decode cX10_rowAt 0 = .ok (.bipush 20, 2) := by decide +kernel
theorem dX10_rowAt_2 : decode cX10_rowAt 2 = .ok (.iload_n 1, 1) := by decide +kernel
theorem dX10_rowAt_3 : decode cX10_rowAt 3 = .ok (.imul, 1) := by decide +kernel
theorem dX10_rowAt_4 : decode cX10_rowAt 4 = .ok (.iconst 3, 1) := by decide +kernel
theorem dX10_rowAt_5 : decode cX10_rowAt 5 = .ok (.iload_n 2, 1) := by decide +kernel
theorem dX10_rowAt_6 : decode cX10_rowAt 6 = .ok (.imul, 1) := by decide +kernel
theorem dX10_rowAt_7 : decode cX10_rowAt 7 = .ok (.iadd, 1) := by decide +kernel
theorem dX10_rowAt_8 : decode cX10_rowAt 8 = .ok (.ireturn, 1) := by decide +kernel
theorem dX10_kindOf_0 : decode cX10_kindOf 0 = .ok (.aload_n 0, 1) := by decide +kernel
theorem dX10_kindOf_1 : decode cX10_kindOf 1 = .ok (.getfield 13, 3) := by decide +kernel
theorem dX10_kindOf_4 : decode cX10_kindOf 4 = .ok (.aload_n 0, 1) := by decide +kernel
theorem dX10_kindOf_5 : decode cX10_kindOf 5 = .ok (.iload_n 1, 1) := by decide +kernel
theorem dX10_kindOf_6 : decode cX10_kindOf 6 = .ok (.iconst 0, 1) := by decide +kernel
theorem dX10_kindOf_7 : decode cX10_kindOf 7 = .ok (.invokevirtual 91, 3) := by decide +kernel
theorem dX10_kindOf_10 : decode cX10_kindOf 10 = .ok (.iaload, 1) := by decide +kernel
theorem dX10_kindOf_11 : decode cX10_kindOf 11 = .ok (.iconst 1, 1) := by decide +kernel
theorem dX10_kindOf_12 : decode cX10_kindOf 12 = .ok (.isub, 1) := by decide +kernel
theorem dX10_kindOf_13 : decode cX10_kindOf 13 = .ok (.ireturn, 1) := by decide +kernel
theorem dX10_copyRow_0 : decode cX10_copyRow 0 = .ok (.iconst 0, 1) := by decide +kernel
theorem dX10_copyRow_1 : decode cX10_copyRow 1 = .ok (.istore 5, 2) := by decide +kernel
theorem dX10_copyRow_3 : decode cX10_copyRow 3 = .ok (.iload 5, 2) := by decide +kernel
theorem dX10_copyRow_5 : decode cX10_copyRow 5 = .ok (.iconst 3, 1) := by decide +kernel
theorem dX10_copyRow_6 : decode cX10_copyRow 6 = .ok (.if_icmp .ge 38, 3) := by decide +kernel
theorem dX10_copyRow_9 : decode cX10_copyRow 9 = .ok (.aload_n 0, 1) := by decide +kernel
theorem dX10_copyRow_10 : decode cX10_copyRow 10 = .ok (.getfield 13, 3) := by decide +kernel
theorem dX10_copyRow_13 : decode cX10_copyRow 13 = .ok (.aload_n 0, 1) := by decide +kernel
theorem dX10_copyRow_14 : decode cX10_copyRow 14 = .ok (.iload_n 3, 1) := by decide +kernel
theorem dX10_copyRow_15 : decode cX10_copyRow 15 = .ok (.iload 4, 2) := by decide +kernel
theorem dX10_copyRow_17 : decode cX10_copyRow 17 = .ok (.invokevirtual 91, 3) := by decide +kernel
theorem dX10_copyRow_20 : decode cX10_copyRow 20 = .ok (.iload 5, 2) := by decide +kernel
theorem dX10_copyRow_22 : decode cX10_copyRow 22 = .ok (.iadd, 1) := by decide +kernel
theorem dX10_copyRow_23 : decode cX10_copyRow 23 = .ok (.aload_n 0, 1) := by decide +kernel
theorem dX10_copyRow_24 : decode cX10_copyRow 24 = .ok (.getfield 13, 3) := by decide +kernel
theorem dX10_copyRow_27 : decode cX10_copyRow 27 = .ok (.aload_n 0, 1) := by decide +kernel
theorem dX10_copyRow_28 : decode cX10_copyRow 28 = .ok (.iload_n 1, 1) := by decide +kernel
theorem dX10_copyRow_29 : decode cX10_copyRow 29 = .ok (.iload_n 2, 1) := by decide +kernel
theorem dX10_copyRow_30 : decode cX10_copyRow 30 = .ok (.invokevirtual 91, 3) := by decide +kernel
theorem dX10_copyRow_33 : decode cX10_copyRow 33 = .ok (.iload 5, 2) := by decide +kernel
theorem dX10_copyRow_35 : decode cX10_copyRow 35 = .ok (.iadd, 1) := by decide +kernel
theorem dX10_copyRow_36 : decode cX10_copyRow 36 = .ok (.iaload, 1) := by decide +kernel
theorem dX10_copyRow_37 : decode cX10_copyRow 37 = .ok (.iastore, 1) := by decide +kernel
theorem dX10_copyRow_38 : decode cX10_copyRow 38 = .ok (.iinc 5 1, 3) := by decide +kernel
theorem dX10_copyRow_41 : decode cX10_copyRow 41 = .ok (.goto (-38), 3) := by decide +kernel
theorem dX10_copyRow_44 : decode cX10_copyRow 44 = .ok (.iconst 0, 1) := by decide +kernel
theorem dX10_copyRow_45 : decode cX10_copyRow 45 = .ok (.istore 5, 2) := by decide +kernel
theorem dX10_copyRow_47 : decode cX10_copyRow 47 = .ok (.iload 5, 2) := by decide +kernel
theorem dX10_copyRow_49 : decode cX10_copyRow 49 = .ok (.bipush 16, 2) := by decide +kernel
theorem dX10_copyRow_51 : decode cX10_copyRow 51 = .ok (.if_icmp .ge 44, 3) := by decide +kernel
theorem dX10_copyRow_54 : decode cX10_copyRow 54 = .ok (.aload_n 0, 1) := by decide +kernel
theorem dX10_copyRow_55 : decode cX10_copyRow 55 = .ok (.getfield 7, 3) := by decide +kernel
theorem dX10_copyRow_58 : decode cX10_copyRow 58 = .ok (.bipush 82, 2) := by decide +kernel
theorem dX10_copyRow_60 : decode cX10_copyRow 60 = .ok (.iload_n 3, 1) := by decide +kernel
theorem dX10_copyRow_61 : decode cX10_copyRow 61 = .ok (.imul, 1) := by decide +kernel
theorem dX10_copyRow_62 : decode cX10_copyRow 62 = .ok (.bipush 16, 2) := by decide +kernel
theorem dX10_copyRow_64 : decode cX10_copyRow 64 = .ok (.iload 4, 2) := by decide +kernel
theorem dX10_copyRow_66 : decode cX10_copyRow 66 = .ok (.imul, 1) := by decide +kernel
theorem dX10_copyRow_67 : decode cX10_copyRow 67 = .ok (.iadd, 1) := by decide +kernel
theorem dX10_copyRow_68 : decode cX10_copyRow 68 = .ok (.iload 5, 2) := by decide +kernel
theorem dX10_copyRow_70 : decode cX10_copyRow 70 = .ok (.iadd, 1) := by decide +kernel
theorem dX10_copyRow_71 : decode cX10_copyRow 71 = .ok (.aload_n 0, 1) := by decide +kernel
theorem dX10_copyRow_72 : decode cX10_copyRow 72 = .ok (.getfield 7, 3) := by decide +kernel
theorem dX10_copyRow_75 : decode cX10_copyRow 75 = .ok (.bipush 82, 2) := by decide +kernel
theorem dX10_copyRow_77 : decode cX10_copyRow 77 = .ok (.iload_n 1, 1) := by decide +kernel
theorem dX10_copyRow_78 : decode cX10_copyRow 78 = .ok (.imul, 1) := by decide +kernel
theorem dX10_copyRow_79 : decode cX10_copyRow 79 = .ok (.bipush 16, 2) := by decide +kernel
theorem dX10_copyRow_81 : decode cX10_copyRow 81 = .ok (.iload_n 2, 1) := by decide +kernel
theorem dX10_copyRow_82 : decode cX10_copyRow 82 = .ok (.imul, 1) := by decide +kernel
theorem dX10_copyRow_83 : decode cX10_copyRow 83 = .ok (.iadd, 1) := by decide +kernel
theorem dX10_copyRow_84 : decode cX10_copyRow 84 = .ok (.iload 5, 2) := by decide +kernel
theorem dX10_copyRow_86 : decode cX10_copyRow 86 = .ok (.iadd, 1) := by decide +kernel
theorem dX10_copyRow_87 : decode cX10_copyRow 87 = .ok (.daload, 1) := by decide +kernel
theorem dX10_copyRow_88 : decode cX10_copyRow 88 = .ok (.dastore, 1) := by decide +kernel
theorem dX10_copyRow_89 : decode cX10_copyRow 89 = .ok (.iinc 5 1, 3) := by decide +kernel
theorem dX10_copyRow_92 : decode cX10_copyRow 92 = .ok (.goto (-45), 3) := by decide +kernel
theorem dX10_copyRow_95 : decode cX10_copyRow 95 = .ok (.return_, 1) := by decide +kernel
theorem dX10_noRow_0 : decode cX10_noRow 0 = .ok (.aload_n 0, 1) := by decide +kernel
theorem dX10_noRow_1 : decode cX10_noRow 1 = .ok (.getfield 13, 3) := by decide +kernel
theorem dX10_noRow_4 : decode cX10_noRow 4 = .ok (.aload_n 0, 1) := by decide +kernel
theorem dX10_noRow_5 : decode cX10_noRow 5 = .ok (.iload_n 1, 1) := by decide +kernel
theorem dX10_noRow_6 : decode cX10_noRow 6 = .ok (.iload_n 2, 1) := by decide +kernel
theorem dX10_noRow_7 : decode cX10_noRow 7 = .ok (.invokevirtual 91, 3) := by decide +kernel
theorem dX10_noRow_10 : decode cX10_noRow 10 = .ok (.iconst 0, 1) := by decide +kernel
theorem dX10_noRow_11 : decode cX10_noRow 11 = .ok (.iastore, 1) := by decide +kernel
theorem dX10_noRow_12 : decode cX10_noRow 12 = .ok (.return_, 1) := by decide +kernel
theorem dX10_copyState_0 : decode cX10_copyState 0 = .ok (.iconst 0, 1) := by decide +kernel
theorem dX10_copyState_1 : decode cX10_copyState 1 = .ok (.istore_n 3, 1) := by decide +kernel
theorem dX10_copyState_2 : decode cX10_copyState 2 = .ok (.iload_n 3, 1) := by decide +kernel
theorem dX10_copyState_3 : decode cX10_copyState 3 = .ok (.sipush 1968, 3) := by decide +kernel
theorem dX10_copyState_6 : decode cX10_copyState 6 = .ok (.if_icmp .ge 33, 3) := by decide +kernel
theorem dX10_copyState_9 : decode cX10_copyState 9 = .ok (.aload_n 0, 1) := by decide +kernel
theorem dX10_copyState_10 : decode cX10_copyState 10 = .ok (.getfield 7, 3) := by decide +kernel
theorem dX10_copyState_13 : decode cX10_copyState 13 = .ok (.sipush 1968, 3) := by decide +kernel
theorem dX10_copyState_16 : decode cX10_copyState 16 = .ok (.iload_n 2, 1) := by decide +kernel
theorem dX10_copyState_17 : decode cX10_copyState 17 = .ok (.imul, 1) := by decide +kernel
theorem dX10_copyState_18 : decode cX10_copyState 18 = .ok (.iload_n 3, 1) := by decide +kernel
theorem dX10_copyState_19 : decode cX10_copyState 19 = .ok (.iadd, 1) := by decide +kernel
theorem dX10_copyState_20 : decode cX10_copyState 20 = .ok (.aload_n 0, 1) := by decide +kernel
theorem dX10_copyState_21 : decode cX10_copyState 21 = .ok (.getfield 7, 3) := by decide +kernel
theorem dX10_copyState_24 : decode cX10_copyState 24 = .ok (.sipush 1968, 3) := by decide +kernel
theorem dX10_copyState_27 : decode cX10_copyState 27 = .ok (.iload_n 1, 1) := by decide +kernel
theorem dX10_copyState_28 : decode cX10_copyState 28 = .ok (.imul, 1) := by decide +kernel
theorem dX10_copyState_29 : decode cX10_copyState 29 = .ok (.iload_n 3, 1) := by decide +kernel
theorem dX10_copyState_30 : decode cX10_copyState 30 = .ok (.iadd, 1) := by decide +kernel
theorem dX10_copyState_31 : decode cX10_copyState 31 = .ok (.daload, 1) := by decide +kernel
theorem dX10_copyState_32 : decode cX10_copyState 32 = .ok (.dastore, 1) := by decide +kernel
theorem dX10_copyState_33 : decode cX10_copyState 33 = .ok (.iinc 3 1, 3) := by decide +kernel
theorem dX10_copyState_36 : decode cX10_copyState 36 = .ok (.goto (-34), 3) := by decide +kernel
theorem dX10_copyState_39 : decode cX10_copyState 39 = .ok (.iconst 0, 1) := by decide +kernel
theorem dX10_copyState_40 : decode cX10_copyState 40 = .ok (.istore_n 3, 1) := by decide +kernel
theorem dX10_copyState_41 : decode cX10_copyState 41 = .ok (.iload_n 3, 1) := by decide +kernel
theorem dX10_copyState_42 : decode cX10_copyState 42 = .ok (.sipush 480, 3) := by decide +kernel
theorem dX10_copyState_45 : decode cX10_copyState 45 = .ok (.if_icmp .ge 33, 3) := by decide +kernel
theorem dX10_copyState_48 : decode cX10_copyState 48 = .ok (.aload_n 0, 1) := by decide +kernel
theorem dX10_copyState_49 : decode cX10_copyState 49 = .ok (.getfield 13, 3) := by decide +kernel
theorem dX10_copyState_52 : decode cX10_copyState 52 = .ok (.sipush 480, 3) := by decide +kernel
theorem dX10_copyState_55 : decode cX10_copyState 55 = .ok (.iload_n 2, 1) := by decide +kernel
theorem dX10_copyState_56 : decode cX10_copyState 56 = .ok (.imul, 1) := by decide +kernel
theorem dX10_copyState_57 : decode cX10_copyState 57 = .ok (.iload_n 3, 1) := by decide +kernel
theorem dX10_copyState_58 : decode cX10_copyState 58 = .ok (.iadd, 1) := by decide +kernel
theorem dX10_copyState_59 : decode cX10_copyState 59 = .ok (.aload_n 0, 1) := by decide +kernel
theorem dX10_copyState_60 : decode cX10_copyState 60 = .ok (.getfield 13, 3) := by decide +kernel
theorem dX10_copyState_63 : decode cX10_copyState 63 = .ok (.sipush 480, 3) := by decide +kernel
theorem dX10_copyState_66 : decode cX10_copyState 66 = .ok (.iload_n 1, 1) := by decide +kernel
theorem dX10_copyState_67 : decode cX10_copyState 67 = .ok (.imul, 1) := by decide +kernel
theorem dX10_copyState_68 : decode cX10_copyState 68 = .ok (.iload_n 3, 1) := by decide +kernel
theorem dX10_copyState_69 : decode cX10_copyState 69 = .ok (.iadd, 1) := by decide +kernel
theorem dX10_copyState_70 : decode cX10_copyState 70 = .ok (.iaload, 1) := by decide +kernel
theorem dX10_copyState_71 : decode cX10_copyState 71 = .ok (.iastore, 1) := by decide +kernel
theorem dX10_copyState_72 : decode cX10_copyState 72 = .ok (.iinc 3 1, 3) := by decide +kernel
theorem dX10_copyState_75 : decode cX10_copyState 75 = .ok (.goto (-34), 3) := by decide +kernel
theorem dX10_copyState_78 : decode cX10_copyState 78 = .ok (.return_, 1) := by decide +kernel
theorem dX10_fails_0 : decode cX10_fails 0 = .ok (.aload_n 0, 1) := by decide +kernel
theorem dX10_fails_1 : decode cX10_fails 1 = .ok (.iload_n 1, 1) := by decide +kernel
theorem dX10_fails_2 : decode cX10_fails 2 = .ok (.putfield 94, 3) := by decide +kernel
theorem dX10_fails_5 : decode cX10_fails 5 = .ok (.aload_n 0, 1) := by decide +kernel
theorem dX10_fails_6 : decode cX10_fails 6 = .ok (.iload_n 2, 1) := by decide +kernel
theorem dX10_fails_7 : decode cX10_fails 7 = .ok (.putfield 97, 3) := by decide +kernel
theorem dX10_fails_10 : decode cX10_fails 10 = .ok (.aload_n 0, 1) := by decide +kernel
theorem dX10_fails_11 : decode cX10_fails 11 = .ok (.iload_n 3, 1) := by decide +kernel
theorem dX10_fails_12 : decode cX10_fails 12 = .ok (.putfield 100, 3) := by decide +kernel
theorem dX10_fails_15 : decode cX10_fails 15 = .ok (.iconst 0, 1) := by decide +kernel
theorem dX10_fails_16 : decode cX10_fails 16 = .ok (.ireturn, 1) := by decide +kernel
theorem dX10_hasRow_0 : decode cX10_hasRow 0 = .ok (.aload_n 0, 1) := by decide +kernel
theorem dX10_hasRow_1 : decode cX10_hasRow 1 = .ok (.getfield 26, 3) := by decide +kernel
theorem dX10_hasRow_4 : decode cX10_hasRow 4 = .ok (.iconst 3, 1) := by decide +kernel
theorem dX10_hasRow_5 : decode cX10_hasRow 5 = .ok (.iload_n 1, 1) := by decide +kernel
theorem dX10_hasRow_6 : decode cX10_hasRow 6 = .ok (.imul, 1) := by decide +kernel
theorem dX10_hasRow_7 : decode cX10_hasRow 7 = .ok (.iload_n 2, 1) := by decide +kernel
theorem dX10_hasRow_8 : decode cX10_hasRow 8 = .ok (.iadd, 1) := by decide +kernel
theorem dX10_hasRow_9 : decode cX10_hasRow 9 = .ok (.iaload, 1) := by decide +kernel
theorem dX10_hasRow_10 : decode cX10_hasRow 10 = .ok (.iconst 1, 1) := by decide +kernel
theorem dX10_hasRow_11 : decode cX10_hasRow 11 = .ok (.isub, 1) := by decide +kernel
theorem dX10_hasRow_12 : decode cX10_hasRow 12 = .ok (.istore 4, 2) := by decide +kernel
theorem dX10_hasRow_14 : decode cX10_hasRow 14 = .ok (.iload 4, 2) := by decide +kernel
theorem dX10_hasRow_16 : decode cX10_hasRow 16 = .ok (.ifCond .ge 11, 3) := by decide +kernel
theorem dX10_hasRow_19 : decode cX10_hasRow 19 = .ok (.aload_n 0, 1) := by decide +kernel
theorem dX10_hasRow_20 : decode cX10_hasRow 20 = .ok (.iconst 1, 1) := by decide +kernel
theorem dX10_hasRow_21 : decode cX10_hasRow 21 = .ok (.iload_n 1, 1) := by decide +kernel
theorem dX10_hasRow_22 : decode cX10_hasRow 22 = .ok (.iconst (-1), 1) := by decide +kernel
theorem dX10_hasRow_23 : decode cX10_hasRow 23 = .ok (.invokevirtual 103, 3) := by decide +kernel
theorem dX10_hasRow_26 : decode cX10_hasRow 26 = .ok (.ireturn, 1) := by decide +kernel
theorem dX10_hasRow_27 : decode cX10_hasRow 27 = .ok (.aload_n 0, 1) := by decide +kernel
theorem dX10_hasRow_28 : decode cX10_hasRow 28 = .ok (.iload 4, 2) := by decide +kernel
theorem dX10_hasRow_30 : decode cX10_hasRow 30 = .ok (.invokevirtual 106, 3) := by decide +kernel
theorem dX10_hasRow_33 : decode cX10_hasRow 33 = .ok (.ifCond .ge 11, 3) := by decide +kernel
theorem dX10_hasRow_36 : decode cX10_hasRow 36 = .ok (.aload_n 0, 1) := by decide +kernel
theorem dX10_hasRow_37 : decode cX10_hasRow 37 = .ok (.iconst 2, 1) := by decide +kernel
theorem dX10_hasRow_38 : decode cX10_hasRow 38 = .ok (.iload_n 1, 1) := by decide +kernel
theorem dX10_hasRow_39 : decode cX10_hasRow 39 = .ok (.iconst (-1), 1) := by decide +kernel
theorem dX10_hasRow_40 : decode cX10_hasRow 40 = .ok (.invokevirtual 103, 3) := by decide +kernel
theorem dX10_hasRow_43 : decode cX10_hasRow 43 = .ok (.ireturn, 1) := by decide +kernel
theorem dX10_hasRow_44 : decode cX10_hasRow 44 = .ok (.iload_n 3, 1) := by decide +kernel
theorem dX10_hasRow_45 : decode cX10_hasRow 45 = .ok (.ifCond .lt 23, 3) := by decide +kernel
theorem dX10_hasRow_48 : decode cX10_hasRow 48 = .ok (.aload_n 0, 1) := by decide +kernel
theorem dX10_hasRow_49 : decode cX10_hasRow 49 = .ok (.iload 4, 2) := by decide +kernel
theorem dX10_hasRow_51 : decode cX10_hasRow 51 = .ok (.invokevirtual 106, 3) := by decide +kernel
theorem dX10_hasRow_54 : decode cX10_hasRow 54 = .ok (.iload_n 3, 1) := by decide +kernel
theorem dX10_hasRow_55 : decode cX10_hasRow 55 = .ok (.if_icmp .eq 13, 3) := by decide +kernel
theorem dX10_hasRow_58 : decode cX10_hasRow 58 = .ok (.aload_n 0, 1) := by decide +kernel
theorem dX10_hasRow_59 : decode cX10_hasRow 59 = .ok (.iconst 4, 1) := by decide +kernel
theorem dX10_hasRow_60 : decode cX10_hasRow 60 = .ok (.iload_n 1, 1) := by decide +kernel
theorem dX10_hasRow_61 : decode cX10_hasRow 61 = .ok (.iconst (-1), 1) := by decide +kernel
theorem dX10_hasRow_62 : decode cX10_hasRow 62 = .ok (.invokevirtual 103, 3) := by decide +kernel
theorem dX10_hasRow_65 : decode cX10_hasRow 65 = .ok (.ifCond .eq 7, 3) := by decide +kernel
theorem dX10_hasRow_68 : decode cX10_hasRow 68 = .ok (.iconst 1, 1) := by decide +kernel
theorem dX10_hasRow_69 : decode cX10_hasRow 69 = .ok (.goto 4, 3) := by decide +kernel
theorem dX10_hasRow_72 : decode cX10_hasRow 72 = .ok (.iconst 0, 1) := by decide +kernel
theorem dX10_hasRow_73 : decode cX10_hasRow 73 = .ok (.ireturn, 1) := by decide +kernel
theorem dX10_hasSample_0 : decode cX10_hasSample 0 = .ok (.aload_n 0, 1) := by decide +kernel
theorem dX10_hasSample_1 : decode cX10_hasSample 1 = .ok (.getfield 26, 3) := by decide +kernel
theorem dX10_hasSample_4 : decode cX10_hasSample 4 = .ok (.iconst 3, 1) := by decide +kernel
theorem dX10_hasSample_5 : decode cX10_hasSample 5 = .ok (.iload_n 1, 1) := by decide +kernel
theorem dX10_hasSample_6 : decode cX10_hasSample 6 = .ok (.imul, 1) := by decide +kernel
theorem dX10_hasSample_7 : decode cX10_hasSample 7 = .ok (.iload_n 2, 1) := by decide +kernel
theorem dX10_hasSample_8 : decode cX10_hasSample 8 = .ok (.iadd, 1) := by decide +kernel
theorem dX10_hasSample_9 : decode cX10_hasSample 9 = .ok (.iaload, 1) := by decide +kernel
theorem dX10_hasSample_10 : decode cX10_hasSample 10 = .ok (.iconst 1, 1) := by decide +kernel
theorem dX10_hasSample_11 : decode cX10_hasSample 11 = .ok (.isub, 1) := by decide +kernel
theorem dX10_hasSample_12 : decode cX10_hasSample 12 = .ok (.istore 4, 2) := by decide +kernel
theorem dX10_hasSample_14 : decode cX10_hasSample 14 = .ok (.iload_n 3, 1) := by decide +kernel
theorem dX10_hasSample_15 : decode cX10_hasSample 15 = .ok (.aload_n 0, 1) := by decide +kernel
theorem dX10_hasSample_16 : decode cX10_hasSample 16 = .ok (.getfield 13, 3) := by decide +kernel
theorem dX10_hasSample_19 : decode cX10_hasSample 19 = .ok (.aload_n 0, 1) := by decide +kernel
theorem dX10_hasSample_20 : decode cX10_hasSample 20 = .ok (.iload 4, 2) := by decide +kernel
theorem dX10_hasSample_22 : decode cX10_hasSample 22 = .ok (.iconst 0, 1) := by decide +kernel
theorem dX10_hasSample_23 : decode cX10_hasSample 23 = .ok (.invokevirtual 91, 3) := by decide +kernel
theorem dX10_hasSample_26 : decode cX10_hasSample 26 = .ok (.iconst 1, 1) := by decide +kernel
theorem dX10_hasSample_27 : decode cX10_hasSample 27 = .ok (.iadd, 1) := by decide +kernel
theorem dX10_hasSample_28 : decode cX10_hasSample 28 = .ok (.iaload, 1) := by decide +kernel
theorem dX10_hasSample_29 : decode cX10_hasSample 29 = .ok (.if_icmp .lt 13, 3) := by decide +kernel
theorem dX10_hasSample_32 : decode cX10_hasSample 32 = .ok (.aload_n 0, 1) := by decide +kernel
theorem dX10_hasSample_33 : decode cX10_hasSample 33 = .ok (.iconst 3, 1) := by decide +kernel
theorem dX10_hasSample_34 : decode cX10_hasSample 34 = .ok (.iload_n 1, 1) := by decide +kernel
theorem dX10_hasSample_35 : decode cX10_hasSample 35 = .ok (.iload_n 3, 1) := by decide +kernel
theorem dX10_hasSample_36 : decode cX10_hasSample 36 = .ok (.invokevirtual 103, 3) := by decide +kernel
theorem dX10_hasSample_39 : decode cX10_hasSample 39 = .ok (.ifCond .eq 7, 3) := by decide +kernel
theorem dX10_hasSample_42 : decode cX10_hasSample 42 = .ok (.iconst 1, 1) := by decide +kernel
theorem dX10_hasSample_43 : decode cX10_hasSample 43 = .ok (.goto 4, 3) := by decide +kernel
theorem dX10_hasSample_46 : decode cX10_hasSample 46 = .ok (.iconst 0, 1) := by decide +kernel
theorem dX10_hasSample_47 : decode cX10_hasSample 47 = .ok (.ireturn, 1) := by decide +kernel
theorem dX10_sampleOf_0 : decode cX10_sampleOf 0 = .ok (.aload_n 0, 1) := by decide +kernel
theorem dX10_sampleOf_1 : decode cX10_sampleOf 1 = .ok (.getfield 7, 3) := by decide +kernel
theorem dX10_sampleOf_4 : decode cX10_sampleOf 4 = .ok (.bipush 82, 2) := by decide +kernel
theorem dX10_sampleOf_6 : decode cX10_sampleOf 6 = .ok (.aload_n 0, 1) := by decide +kernel
theorem dX10_sampleOf_7 : decode cX10_sampleOf 7 = .ok (.getfield 26, 3) := by decide +kernel
theorem dX10_sampleOf_10 : decode cX10_sampleOf 10 = .ok (.iconst 3, 1) := by decide +kernel
theorem dX10_sampleOf_11 : decode cX10_sampleOf 11 = .ok (.iload_n 1, 1) := by decide +kernel
theorem dX10_sampleOf_12 : decode cX10_sampleOf 12 = .ok (.imul, 1) := by decide +kernel
theorem dX10_sampleOf_13 : decode cX10_sampleOf 13 = .ok (.iload_n 2, 1) := by decide +kernel
theorem dX10_sampleOf_14 : decode cX10_sampleOf 14 = .ok (.iadd, 1) := by decide +kernel
theorem dX10_sampleOf_15 : decode cX10_sampleOf 15 = .ok (.iaload, 1) := by decide +kernel
theorem dX10_sampleOf_16 : decode cX10_sampleOf 16 = .ok (.iconst 1, 1) := by decide +kernel
theorem dX10_sampleOf_17 : decode cX10_sampleOf 17 = .ok (.isub, 1) := by decide +kernel
theorem dX10_sampleOf_18 : decode cX10_sampleOf 18 = .ok (.imul, 1) := by decide +kernel
theorem dX10_sampleOf_19 : decode cX10_sampleOf 19 = .ok (.iload_n 3, 1) := by decide +kernel
theorem dX10_sampleOf_20 : decode cX10_sampleOf 20 = .ok (.iadd, 1) := by decide +kernel
theorem dX10_sampleOf_21 : decode cX10_sampleOf 21 = .ok (.daload, 1) := by decide +kernel
theorem dX10_sampleOf_22 : decode cX10_sampleOf 22 = .ok (.dreturn, 1) := by decide +kernel
theorem dX10_isNoneOf_0 : decode cX10_isNoneOf 0 = .ok (.aload_n 0, 1) := by decide +kernel
theorem dX10_isNoneOf_1 : decode cX10_isNoneOf 1 = .ok (.getfield 13, 3) := by decide +kernel
theorem dX10_isNoneOf_4 : decode cX10_isNoneOf 4 = .ok (.aload_n 0, 1) := by decide +kernel
theorem dX10_isNoneOf_5 : decode cX10_isNoneOf 5 = .ok (.aload_n 0, 1) := by decide +kernel
theorem dX10_isNoneOf_6 : decode cX10_isNoneOf 6 = .ok (.getfield 26, 3) := by decide +kernel
theorem dX10_isNoneOf_9 : decode cX10_isNoneOf 9 = .ok (.iconst 3, 1) := by decide +kernel
theorem dX10_isNoneOf_10 : decode cX10_isNoneOf 10 = .ok (.iload_n 1, 1) := by decide +kernel
theorem dX10_isNoneOf_11 : decode cX10_isNoneOf 11 = .ok (.imul, 1) := by decide +kernel
theorem dX10_isNoneOf_12 : decode cX10_isNoneOf 12 = .ok (.iload_n 2, 1) := by decide +kernel
theorem dX10_isNoneOf_13 : decode cX10_isNoneOf 13 = .ok (.iadd, 1) := by decide +kernel
theorem dX10_isNoneOf_14 : decode cX10_isNoneOf 14 = .ok (.iaload, 1) := by decide +kernel
theorem dX10_isNoneOf_15 : decode cX10_isNoneOf 15 = .ok (.iconst 1, 1) := by decide +kernel
theorem dX10_isNoneOf_16 : decode cX10_isNoneOf 16 = .ok (.isub, 1) := by decide +kernel
theorem dX10_isNoneOf_17 : decode cX10_isNoneOf 17 = .ok (.iconst 0, 1) := by decide +kernel
theorem dX10_isNoneOf_18 : decode cX10_isNoneOf 18 = .ok (.invokevirtual 91, 3) := by decide +kernel
theorem dX10_isNoneOf_21 : decode cX10_isNoneOf 21 = .ok (.iconst 2, 1) := by decide +kernel
theorem dX10_isNoneOf_22 : decode cX10_isNoneOf 22 = .ok (.iadd, 1) := by decide +kernel
theorem dX10_isNoneOf_23 : decode cX10_isNoneOf 23 = .ok (.iaload, 1) := by decide +kernel
theorem dX10_isNoneOf_24 : decode cX10_isNoneOf 24 = .ok (.iload_n 3, 1) := by decide +kernel
theorem dX10_isNoneOf_25 : decode cX10_isNoneOf 25 = .ok (.ishr, 1) := by decide +kernel
theorem dX10_isNoneOf_26 : decode cX10_isNoneOf 26 = .ok (.iconst 1, 1) := by decide +kernel
theorem dX10_isNoneOf_27 : decode cX10_isNoneOf 27 = .ok (.iand, 1) := by decide +kernel
theorem dX10_isNoneOf_28 : decode cX10_isNoneOf 28 = .ok (.iconst 1, 1) := by decide +kernel
theorem dX10_isNoneOf_29 : decode cX10_isNoneOf 29 = .ok (.if_icmp .ne 7, 3) := by decide +kernel
theorem dX10_isNoneOf_32 : decode cX10_isNoneOf 32 = .ok (.iconst 1, 1) := by decide +kernel
theorem dX10_isNoneOf_33 : decode cX10_isNoneOf 33 = .ok (.goto 4, 3) := by decide +kernel
theorem dX10_isNoneOf_36 : decode cX10_isNoneOf 36 = .ok (.iconst 0, 1) := by decide +kernel
theorem dX10_isNoneOf_37 : decode cX10_isNoneOf 37 = .ok (.ireturn, 1) := by decide +kernel
theorem dX10_held_0 : decode cX10_held 0 = .ok (.dload_n 0, 1) := by decide +kernel
theorem dX10_held_1 : decode cX10_held 1 = .ok (.ldc2_w 110, 3) := by decide +kernel
theorem dX10_held_4 : decode cX10_held 4 = .ok (.dcmp .l, 1) := by decide +kernel
theorem dX10_held_5 : decode cX10_held 5 = .ok (.ifCond .le 9, 3) := by decide +kernel
theorem dX10_held_8 : decode cX10_held 8 = .ok (.ldc2_w 110, 3) := by decide +kernel
theorem dX10_held_11 : decode cX10_held 11 = .ok (.goto 18, 3) := by decide +kernel
theorem dX10_held_14 : decode cX10_held 14 = .ok (.dload_n 0, 1) := by decide +kernel
theorem dX10_held_15 : decode cX10_held 15 = .ok (.ldc2_w 112, 3) := by decide +kernel
theorem dX10_held_18 : decode cX10_held 18 = .ok (.dcmp .g, 1) := by decide +kernel
theorem dX10_held_19 : decode cX10_held 19 = .ok (.ifCond .ge 9, 3) := by decide +kernel
theorem dX10_held_22 : decode cX10_held 22 = .ok (.ldc2_w 112, 3) := by decide +kernel
theorem dX10_held_25 : decode cX10_held 25 = .ok (.goto 4, 3) := by decide +kernel
theorem dX10_held_28 : decode cX10_held 28 = .ok (.dload_n 0, 1) := by decide +kernel
theorem dX10_held_29 : decode cX10_held 29 = .ok (.dreturn, 1) := by decide +kernel
theorem dX10_heldTo_0 : decode cX10_heldTo 0 = .ok (.iload 4, 2) := by decide +kernel
theorem dX10_heldTo_2 : decode cX10_heldTo 2 = .ok (.bipush 16, 2) := by decide +kernel
theorem dX10_heldTo_4 : decode cX10_heldTo 4 = .ok (.if_icmp .ne 9, 3) := by decide +kernel
theorem dX10_heldTo_7 : decode cX10_heldTo 7 = .ok (.ldc2_w 114, 3) := by decide +kernel
theorem dX10_heldTo_10 : decode cX10_heldTo 10 = .ok (.goto 6, 3) := by decide +kernel
theorem dX10_heldTo_13 : decode cX10_heldTo 13 = .ok (.ldc2_w 116, 3) := by decide +kernel
theorem dX10_heldTo_16 : decode cX10_heldTo 16 = .ok (.lstore 5, 2) := by decide +kernel
theorem dX10_heldTo_18 : decode cX10_heldTo 18 = .ok (.lload_n 2, 1) := by decide +kernel
theorem dX10_heldTo_19 : decode cX10_heldTo 19 = .ok (.lload 5, 2) := by decide +kernel
theorem dX10_heldTo_21 : decode cX10_heldTo 21 = .ok (.lcmp, 1) := by decide +kernel
theorem dX10_heldTo_22 : decode cX10_heldTo 22 = .ok (.ifCond .le 8, 3) := by decide +kernel
theorem dX10_heldTo_25 : decode cX10_heldTo 25 = .ok (.lload 5, 2) := by decide +kernel
theorem dX10_heldTo_27 : decode cX10_heldTo 27 = .ok (.goto 22, 3) := by decide +kernel
theorem dX10_heldTo_30 : decode cX10_heldTo 30 = .ok (.lload_n 2, 1) := by decide +kernel
theorem dX10_heldTo_31 : decode cX10_heldTo 31 = .ok (.lload 5, 2) := by decide +kernel
theorem dX10_heldTo_33 : decode cX10_heldTo 33 = .ok (.lneg, 1) := by decide +kernel
theorem dX10_heldTo_34 : decode cX10_heldTo 34 = .ok (.lconst 1, 1) := by decide +kernel
theorem dX10_heldTo_35 : decode cX10_heldTo 35 = .ok (.lsub, 1) := by decide +kernel
theorem dX10_heldTo_36 : decode cX10_heldTo 36 = .ok (.lcmp, 1) := by decide +kernel
theorem dX10_heldTo_37 : decode cX10_heldTo 37 = .ok (.ifCond .ge 11, 3) := by decide +kernel
theorem dX10_heldTo_40 : decode cX10_heldTo 40 = .ok (.lload 5, 2) := by decide +kernel
theorem dX10_heldTo_42 : decode cX10_heldTo 42 = .ok (.lneg, 1) := by decide +kernel
theorem dX10_heldTo_43 : decode cX10_heldTo 43 = .ok (.lconst 1, 1) := by decide +kernel
theorem dX10_heldTo_44 : decode cX10_heldTo 44 = .ok (.lsub, 1) := by decide +kernel
theorem dX10_heldTo_45 : decode cX10_heldTo 45 = .ok (.goto 4, 3) := by decide +kernel
theorem dX10_heldTo_48 : decode cX10_heldTo 48 = .ok (.lload_n 2, 1) := by decide +kernel
theorem dX10_heldTo_49 : decode cX10_heldTo 49 = .ok (.lstore 7, 2) := by decide +kernel
theorem dX10_heldTo_51 : decode cX10_heldTo 51 = .ok (.aload_n 0, 1) := by decide +kernel
theorem dX10_heldTo_52 : decode cX10_heldTo 52 = .ok (.getfield 13, 3) := by decide +kernel
theorem dX10_heldTo_55 : decode cX10_heldTo 55 = .ok (.bipush 20, 2) := by decide +kernel
theorem dX10_heldTo_57 : decode cX10_heldTo 57 = .ok (.iload_n 1, 1) := by decide +kernel
theorem dX10_heldTo_58 : decode cX10_heldTo 58 = .ok (.imul, 1) := by decide +kernel
theorem dX10_heldTo_59 : decode cX10_heldTo 59 = .ok (.bipush 17, 2) := by decide +kernel
theorem dX10_heldTo_61 : decode cX10_heldTo 61 = .ok (.iadd, 1) := by decide +kernel
theorem dX10_heldTo_62 : decode cX10_heldTo 62 = .ok (.dup2, 1) := by decide +kernel
theorem dX10_heldTo_63 : decode cX10_heldTo 63 = .ok (.iaload, 1) := by decide +kernel
theorem dX10_heldTo_64 : decode cX10_heldTo 64 = .ok (.lload 7, 2) := by decide +kernel
theorem dX10_heldTo_66 : decode cX10_heldTo 66 = .ok (.lload_n 2, 1) := by decide +kernel
theorem dX10_heldTo_67 : decode cX10_heldTo 67 = .ok (.lcmp, 1) := by decide +kernel
theorem dX10_heldTo_68 : decode cX10_heldTo 68 = .ok (.ifCond .eq 7, 3) := by decide +kernel
theorem dX10_heldTo_71 : decode cX10_heldTo 71 = .ok (.iconst 1, 1) := by decide +kernel
theorem dX10_heldTo_72 : decode cX10_heldTo 72 = .ok (.goto 4, 3) := by decide +kernel
theorem dX10_heldTo_75 : decode cX10_heldTo 75 = .ok (.iconst 0, 1) := by decide +kernel
theorem dX10_heldTo_76 : decode cX10_heldTo 76 = .ok (.iadd, 1) := by decide +kernel
theorem dX10_heldTo_77 : decode cX10_heldTo 77 = .ok (.iastore, 1) := by decide +kernel
theorem dX10_heldTo_78 : decode cX10_heldTo 78 = .ok (.lload 7, 2) := by decide +kernel
theorem dX10_heldTo_80 : decode cX10_heldTo 80 = .ok (.l2d, 1) := by decide +kernel
theorem dX10_heldTo_81 : decode cX10_heldTo 81 = .ok (.dreturn, 1) := by decide +kernel
theorem dX10_wholeInto_0 : decode cX10_wholeInto 0 = .ok (.iload 4, 2) := by decide +kernel
theorem dX10_wholeInto_2 : decode cX10_wholeInto 2 = .ok (.tableswitch 66 0 3 #[30, 42, 51, 54], 30) := by decide +kernel
theorem dX10_wholeInto_32 : decode cX10_wholeInto 32 = .ok (.lload_n 2, 1) := by decide +kernel
theorem dX10_wholeInto_33 : decode cX10_wholeInto 33 = .ok (.lconst 0, 1) := by decide +kernel
theorem dX10_wholeInto_34 : decode cX10_wholeInto 34 = .ok (.lcmp, 1) := by decide +kernel
theorem dX10_wholeInto_35 : decode cX10_wholeInto 35 = .ok (.ifCond .le 7, 3) := by decide +kernel
theorem dX10_wholeInto_38 : decode cX10_wholeInto 38 = .ok (.dconst 1, 1) := by decide +kernel
theorem dX10_wholeInto_39 : decode cX10_wholeInto 39 = .ok (.goto 4, 3) := by decide +kernel
theorem dX10_wholeInto_42 : decode cX10_wholeInto 42 = .ok (.dconst 0, 1) := by decide +kernel
theorem dX10_wholeInto_43 : decode cX10_wholeInto 43 = .ok (.dreturn, 1) := by decide +kernel
theorem dX10_wholeInto_44 : decode cX10_wholeInto 44 = .ok (.aload_n 0, 1) := by decide +kernel
theorem dX10_wholeInto_45 : decode cX10_wholeInto 45 = .ok (.iload_n 1, 1) := by decide +kernel
theorem dX10_wholeInto_46 : decode cX10_wholeInto 46 = .ok (.lload_n 2, 1) := by decide +kernel
theorem dX10_wholeInto_47 : decode cX10_wholeInto 47 = .ok (.bipush 16, 2) := by decide +kernel
theorem dX10_wholeInto_49 : decode cX10_wholeInto 49 = .ok (.invokevirtual 118, 3) := by decide +kernel
theorem dX10_wholeInto_52 : decode cX10_wholeInto 52 = .ok (.dreturn, 1) := by decide +kernel
theorem dX10_wholeInto_53 : decode cX10_wholeInto 53 = .ok (.lload_n 2, 1) := by decide +kernel
theorem dX10_wholeInto_54 : decode cX10_wholeInto 54 = .ok (.l2d, 1) := by decide +kernel
theorem dX10_wholeInto_55 : decode cX10_wholeInto 55 = .ok (.dreturn, 1) := by decide +kernel
theorem dX10_wholeInto_56 : decode cX10_wholeInto 56 = .ok (.lload_n 2, 1) := by decide +kernel
theorem dX10_wholeInto_57 : decode cX10_wholeInto 57 = .ok (.l2d, 1) := by decide +kernel
theorem dX10_wholeInto_58 : decode cX10_wholeInto 58 = .ok (.ldc2_w 122, 3) := by decide +kernel
theorem dX10_wholeInto_61 : decode cX10_wholeInto 61 = .ok (.ddiv, 1) := by decide +kernel
theorem dX10_wholeInto_62 : decode cX10_wholeInto 62 = .ok (.invokestatic 124, 3) := by decide +kernel
theorem dX10_wholeInto_65 : decode cX10_wholeInto 65 = .ok (.d2f, 1) := by decide +kernel
theorem dX10_wholeInto_66 : decode cX10_wholeInto 66 = .ok (.f2d, 1) := by decide +kernel
theorem dX10_wholeInto_67 : decode cX10_wholeInto 67 = .ok (.dreturn, 1) := by decide +kernel
theorem dX10_wholeInto_68 : decode cX10_wholeInto 68 = .ok (.lload_n 2, 1) := by decide +kernel
theorem dX10_wholeInto_69 : decode cX10_wholeInto 69 = .ok (.l2d, 1) := by decide +kernel
theorem dX10_wholeInto_70 : decode cX10_wholeInto 70 = .ok (.ldc2_w 122, 3) := by decide +kernel
theorem dX10_wholeInto_73 : decode cX10_wholeInto 73 = .ok (.ddiv, 1) := by decide +kernel
theorem dX10_wholeInto_74 : decode cX10_wholeInto 74 = .ok (.invokestatic 124, 3) := by decide +kernel
theorem dX10_wholeInto_77 : decode cX10_wholeInto 77 = .ok (.dreturn, 1) := by decide +kernel
theorem dX10_floatingInto_0 : decode cX10_floatingInto 0 = .ok (.iload 4, 2) := by decide +kernel
theorem dX10_floatingInto_2 : decode cX10_floatingInto 2 = .ok (.tableswitch 74 0 3 #[30, 42, 56, 70], 30) := by decide +kernel
theorem dX10_floatingInto_32 : decode cX10_floatingInto 32 = .ok (.dload_n 2, 1) := by decide +kernel
theorem dX10_floatingInto_33 : decode cX10_floatingInto 33 = .ok (.dconst 0, 1) := by decide +kernel
theorem dX10_floatingInto_34 : decode cX10_floatingInto 34 = .ok (.dcmp .l, 1) := by decide +kernel
theorem dX10_floatingInto_35 : decode cX10_floatingInto 35 = .ok (.ifCond .le 7, 3) := by decide +kernel
theorem dX10_floatingInto_38 : decode cX10_floatingInto 38 = .ok (.dconst 1, 1) := by decide +kernel
theorem dX10_floatingInto_39 : decode cX10_floatingInto 39 = .ok (.goto 4, 3) := by decide +kernel
theorem dX10_floatingInto_42 : decode cX10_floatingInto 42 = .ok (.dconst 0, 1) := by decide +kernel
theorem dX10_floatingInto_43 : decode cX10_floatingInto 43 = .ok (.dreturn, 1) := by decide +kernel
theorem dX10_floatingInto_44 : decode cX10_floatingInto 44 = .ok (.aload_n 0, 1) := by decide +kernel
theorem dX10_floatingInto_45 : decode cX10_floatingInto 45 = .ok (.iload_n 1, 1) := by decide +kernel
theorem dX10_floatingInto_46 : decode cX10_floatingInto 46 = .ok (.dload_n 2, 1) := by decide +kernel
theorem dX10_floatingInto_47 : decode cX10_floatingInto 47 = .ok (.ldc2_w 122, 3) := by decide +kernel
theorem dX10_floatingInto_50 : decode cX10_floatingInto 50 = .ok (.dmul, 1) := by decide +kernel
theorem dX10_floatingInto_51 : decode cX10_floatingInto 51 = .ok (.d2l, 1) := by decide +kernel
theorem dX10_floatingInto_52 : decode cX10_floatingInto 52 = .ok (.bipush 16, 2) := by decide +kernel
theorem dX10_floatingInto_54 : decode cX10_floatingInto 54 = .ok (.invokevirtual 118, 3) := by decide +kernel
theorem dX10_floatingInto_57 : decode cX10_floatingInto 57 = .ok (.dreturn, 1) := by decide +kernel
theorem dX10_floatingInto_58 : decode cX10_floatingInto 58 = .ok (.aload_n 0, 1) := by decide +kernel
theorem dX10_floatingInto_59 : decode cX10_floatingInto 59 = .ok (.iload_n 1, 1) := by decide +kernel
theorem dX10_floatingInto_60 : decode cX10_floatingInto 60 = .ok (.dload_n 2, 1) := by decide +kernel
theorem dX10_floatingInto_61 : decode cX10_floatingInto 61 = .ok (.ldc2_w 122, 3) := by decide +kernel
theorem dX10_floatingInto_64 : decode cX10_floatingInto 64 = .ok (.dmul, 1) := by decide +kernel
theorem dX10_floatingInto_65 : decode cX10_floatingInto 65 = .ok (.d2l, 1) := by decide +kernel
theorem dX10_floatingInto_66 : decode cX10_floatingInto 66 = .ok (.bipush 32, 2) := by decide +kernel
theorem dX10_floatingInto_68 : decode cX10_floatingInto 68 = .ok (.invokevirtual 118, 3) := by decide +kernel
theorem dX10_floatingInto_71 : decode cX10_floatingInto 71 = .ok (.dreturn, 1) := by decide +kernel
theorem dX10_floatingInto_72 : decode cX10_floatingInto 72 = .ok (.dload_n 2, 1) := by decide +kernel
theorem dX10_floatingInto_73 : decode cX10_floatingInto 73 = .ok (.d2f, 1) := by decide +kernel
theorem dX10_floatingInto_74 : decode cX10_floatingInto 74 = .ok (.f2d, 1) := by decide +kernel
theorem dX10_floatingInto_75 : decode cX10_floatingInto 75 = .ok (.dreturn, 1) := by decide +kernel
theorem dX10_floatingInto_76 : decode cX10_floatingInto 76 = .ok (.dload_n 2, 1) := by decide +kernel
theorem dX10_floatingInto_77 : decode cX10_floatingInto 77 = .ok (.dreturn, 1) := by decide +kernel
theorem dX10_source_0 : decode cX10_source 0 = .ok (.aload_n 0, 1) := by decide +kernel
theorem dX10_source_1 : decode cX10_source 1 = .ok (.getfield 23, 3) := by decide +kernel
theorem dX10_source_4 : decode cX10_source 4 = .ok (.iconst 3, 1) := by decide +kernel
theorem dX10_source_5 : decode cX10_source 5 = .ok (.iload_n 1, 1) := by decide +kernel
theorem dX10_source_6 : decode cX10_source 6 = .ok (.imul, 1) := by decide +kernel
theorem dX10_source_7 : decode cX10_source 7 = .ok (.iaload, 1) := by decide +kernel
theorem dX10_source_8 : decode cX10_source 8 = .ok (.istore_n 2, 1) := by decide +kernel
theorem dX10_source_9 : decode cX10_source 9 = .ok (.iload_n 2, 1) := by decide +kernel
theorem dX10_source_10 : decode cX10_source 10 = .ok (.iconst 0, 1) := by decide +kernel
theorem dX10_source_11 : decode cX10_source 11 = .ok (.bipush 7, 2) := by decide +kernel
theorem dX10_source_13 : decode cX10_source 13 = .ok (.invokestatic 72, 3) := by decide +kernel
theorem dX10_source_16 : decode cX10_source 16 = .ok (.ifCond .eq 12, 3) := by decide +kernel
theorem dX10_source_19 : decode cX10_source 19 = .ok (.aload_n 0, 1) := by decide +kernel
theorem dX10_source_20 : decode cX10_source 20 = .ok (.getfield 32, 3) := by decide +kernel
theorem dX10_source_23 : decode cX10_source 23 = .ok (.iload_n 2, 1) := by decide +kernel
theorem dX10_source_24 : decode cX10_source 24 = .ok (.iaload, 1) := by decide +kernel
theorem dX10_source_25 : decode cX10_source 25 = .ok (.ifCond .ne 11, 3) := by decide +kernel
theorem dX10_source_28 : decode cX10_source 28 = .ok (.aload_n 0, 1) := by decide +kernel
theorem dX10_source_29 : decode cX10_source 29 = .ok (.iconst 2, 1) := by decide +kernel
theorem dX10_source_30 : decode cX10_source 30 = .ok (.iload_n 1, 1) := by decide +kernel
theorem dX10_source_31 : decode cX10_source 31 = .ok (.iconst (-1), 1) := by decide +kernel
theorem dX10_source_32 : decode cX10_source 32 = .ok (.invokevirtual 103, 3) := by decide +kernel
theorem dX10_source_35 : decode cX10_source 35 = .ok (.ireturn, 1) := by decide +kernel
theorem dX10_source_36 : decode cX10_source 36 = .ok (.aload_n 0, 1) := by decide +kernel
theorem dX10_source_37 : decode cX10_source 37 = .ok (.getfield 32, 3) := by decide +kernel
theorem dX10_source_40 : decode cX10_source 40 = .ok (.iload_n 2, 1) := by decide +kernel
theorem dX10_source_41 : decode cX10_source 41 = .ok (.iaload, 1) := by decide +kernel
theorem dX10_source_42 : decode cX10_source 42 = .ok (.iconst 1, 1) := by decide +kernel
theorem dX10_source_43 : decode cX10_source 43 = .ok (.isub, 1) := by decide +kernel
theorem dX10_source_44 : decode cX10_source 44 = .ok (.istore_n 3, 1) := by decide +kernel
theorem dX10_source_45 : decode cX10_source 45 = .ok (.bipush 20, 2) := by decide +kernel
theorem dX10_source_47 : decode cX10_source 47 = .ok (.iload_n 1, 1) := by decide +kernel
theorem dX10_source_48 : decode cX10_source 48 = .ok (.imul, 1) := by decide +kernel
theorem dX10_source_49 : decode cX10_source 49 = .ok (.bipush 15, 2) := by decide +kernel
theorem dX10_source_51 : decode cX10_source 51 = .ok (.iadd, 1) := by decide +kernel
theorem dX10_source_52 : decode cX10_source 52 = .ok (.istore 4, 2) := by decide +kernel
theorem dX10_source_54 : decode cX10_source 54 = .ok (.iconst 0, 1) := by decide +kernel
theorem dX10_source_55 : decode cX10_source 55 = .ok (.istore 5, 2) := by decide +kernel
theorem dX10_source_57 : decode cX10_source 57 = .ok (.iload 5, 2) := by decide +kernel
theorem dX10_source_59 : decode cX10_source 59 = .ok (.aload_n 0, 1) := by decide +kernel
theorem dX10_source_60 : decode cX10_source 60 = .ok (.getfield 128, 3) := by decide +kernel
theorem dX10_source_63 : decode cX10_source 63 = .ok (.if_icmp .ge 180, 3) := by decide +kernel
theorem dX10_source_66 : decode cX10_source 66 = .ok (.iload_n 3, 1) := by decide +kernel
theorem dX10_source_67 : decode cX10_source 67 = .ok (.ifCond .ne 12, 3) := by decide +kernel
theorem dX10_source_70 : decode cX10_source 70 = .ok (.aload_n 0, 1) := by decide +kernel
theorem dX10_source_71 : decode cX10_source 71 = .ok (.iconst 5, 1) := by decide +kernel
theorem dX10_source_72 : decode cX10_source 72 = .ok (.iload_n 1, 1) := by decide +kernel
theorem dX10_source_73 : decode cX10_source 73 = .ok (.iload 5, 2) := by decide +kernel
theorem dX10_source_75 : decode cX10_source 75 = .ok (.invokevirtual 103, 3) := by decide +kernel
theorem dX10_source_78 : decode cX10_source 78 = .ok (.ireturn, 1) := by decide +kernel
theorem dX10_source_79 : decode cX10_source 79 = .ok (.aload_n 0, 1) := by decide +kernel
theorem dX10_source_80 : decode cX10_source 80 = .ok (.getfield 13, 3) := by decide +kernel
theorem dX10_source_83 : decode cX10_source 83 = .ok (.iload 4, 2) := by decide +kernel
theorem dX10_source_85 : decode cX10_source 85 = .ok (.iaload, 1) := by decide +kernel
theorem dX10_source_86 : decode cX10_source 86 = .ok (.iload_n 3, 1) := by decide +kernel
theorem dX10_source_87 : decode cX10_source 87 = .ok (.if_icmp .lt 12, 3) := by decide +kernel
theorem dX10_source_90 : decode cX10_source 90 = .ok (.aload_n 0, 1) := by decide +kernel
theorem dX10_source_91 : decode cX10_source 91 = .ok (.iconst 3, 1) := by decide +kernel
theorem dX10_source_92 : decode cX10_source 92 = .ok (.iload_n 1, 1) := by decide +kernel
theorem dX10_source_93 : decode cX10_source 93 = .ok (.iload 5, 2) := by decide +kernel
theorem dX10_source_95 : decode cX10_source 95 = .ok (.invokevirtual 103, 3) := by decide +kernel
theorem dX10_source_98 : decode cX10_source 98 = .ok (.ireturn, 1) := by decide +kernel
theorem dX10_source_99 : decode cX10_source 99 = .ok (.aload_n 0, 1) := by decide +kernel
theorem dX10_source_100 : decode cX10_source 100 = .ok (.getfield 29, 3) := by decide +kernel
theorem dX10_source_103 : decode cX10_source 103 = .ok (.bipush 16, 2) := by decide +kernel
theorem dX10_source_105 : decode cX10_source 105 = .ok (.iload_n 2, 1) := by decide +kernel
theorem dX10_source_106 : decode cX10_source 106 = .ok (.imul, 1) := by decide +kernel
theorem dX10_source_107 : decode cX10_source 107 = .ok (.aload_n 0, 1) := by decide +kernel
theorem dX10_source_108 : decode cX10_source 108 = .ok (.getfield 13, 3) := by decide +kernel
theorem dX10_source_111 : decode cX10_source 111 = .ok (.iload 4, 2) := by decide +kernel
theorem dX10_source_113 : decode cX10_source 113 = .ok (.iaload, 1) := by decide +kernel
theorem dX10_source_114 : decode cX10_source 114 = .ok (.iadd, 1) := by decide +kernel
theorem dX10_source_115 : decode cX10_source 115 = .ok (.iaload, 1) := by decide +kernel
theorem dX10_source_116 : decode cX10_source 116 = .ok (.istore 6, 2) := by decide +kernel
theorem dX10_source_118 : decode cX10_source 118 = .ok (.aload_n 0, 1) := by decide +kernel
theorem dX10_source_119 : decode cX10_source 119 = .ok (.getfield 13, 3) := by decide +kernel
theorem dX10_source_122 : decode cX10_source 122 = .ok (.iload 4, 2) := by decide +kernel
theorem dX10_source_124 : decode cX10_source 124 = .ok (.iaload, 1) := by decide +kernel
theorem dX10_source_125 : decode cX10_source 125 = .ok (.aload_n 0, 1) := by decide +kernel
theorem dX10_source_126 : decode cX10_source 126 = .ok (.getfield 23, 3) := by decide +kernel
theorem dX10_source_129 : decode cX10_source 129 = .ok (.iconst 3, 1) := by decide +kernel
theorem dX10_source_130 : decode cX10_source 130 = .ok (.iload_n 1, 1) := by decide +kernel
theorem dX10_source_131 : decode cX10_source 131 = .ok (.imul, 1) := by decide +kernel
theorem dX10_source_132 : decode cX10_source 132 = .ok (.iconst 1, 1) := by decide +kernel
theorem dX10_source_133 : decode cX10_source 133 = .ok (.iadd, 1) := by decide +kernel
theorem dX10_source_134 : decode cX10_source 134 = .ok (.iaload, 1) := by decide +kernel
theorem dX10_source_135 : decode cX10_source 135 = .ok (.iadd, 1) := by decide +kernel
theorem dX10_source_136 : decode cX10_source 136 = .ok (.iload_n 3, 1) := by decide +kernel
theorem dX10_source_137 : decode cX10_source 137 = .ok (.irem, 1) := by decide +kernel
theorem dX10_source_138 : decode cX10_source 138 = .ok (.istore 7, 2) := by decide +kernel
theorem dX10_source_140 : decode cX10_source 140 = .ok (.aload_n 0, 1) := by decide +kernel
theorem dX10_source_141 : decode cX10_source 141 = .ok (.getfield 13, 3) := by decide +kernel
theorem dX10_source_144 : decode cX10_source 144 = .ok (.iload 4, 2) := by decide +kernel
theorem dX10_source_146 : decode cX10_source 146 = .ok (.iload 7, 2) := by decide +kernel
theorem dX10_source_148 : decode cX10_source 148 = .ok (.ifCond .ge 10, 3) := by decide +kernel
theorem dX10_source_151 : decode cX10_source 151 = .ok (.iload 7, 2) := by decide +kernel
theorem dX10_source_153 : decode cX10_source 153 = .ok (.iload_n 3, 1) := by decide +kernel
theorem dX10_source_154 : decode cX10_source 154 = .ok (.iadd, 1) := by decide +kernel
theorem dX10_source_155 : decode cX10_source 155 = .ok (.goto 5, 3) := by decide +kernel
theorem dX10_source_158 : decode cX10_source 158 = .ok (.iload 7, 2) := by decide +kernel
theorem dX10_source_160 : decode cX10_source 160 = .ok (.iastore, 1) := by decide +kernel
theorem dX10_source_161 : decode cX10_source 161 = .ok (.aload_n 0, 1) := by decide +kernel
theorem dX10_source_162 : decode cX10_source 162 = .ok (.getfield 20, 3) := by decide +kernel
theorem dX10_source_165 : decode cX10_source 165 = .ok (.iload_n 1, 1) := by decide +kernel
theorem dX10_source_166 : decode cX10_source 166 = .ok (.iaload, 1) := by decide +kernel
theorem dX10_source_167 : decode cX10_source 167 = .ok (.iconst 3, 1) := by decide +kernel
theorem dX10_source_168 : decode cX10_source 168 = .ok (.if_icmp .lt 14, 3) := by decide +kernel
theorem dX10_source_171 : decode cX10_source 171 = .ok (.iload 6, 2) := by decide +kernel
theorem dX10_source_173 : decode cX10_source 173 = .ok (.ldc 131, 2) := by decide +kernel
theorem dX10_source_175 : decode cX10_source 175 = .ok (.if_icmp .ne 7, 3) := by decide +kernel
theorem dX10_source_178 : decode cX10_source 178 = .ok (.iconst 1, 1) := by decide +kernel
theorem dX10_source_179 : decode cX10_source 179 = .ok (.goto 4, 3) := by decide +kernel
theorem dX10_source_182 : decode cX10_source 182 = .ok (.iconst 0, 1) := by decide +kernel
theorem dX10_source_183 : decode cX10_source 183 = .ok (.istore 8, 2) := by decide +kernel
theorem dX10_source_185 : decode cX10_source 185 = .ok (.aload_n 0, 1) := by decide +kernel
theorem dX10_source_186 : decode cX10_source 186 = .ok (.dup, 1) := by decide +kernel
theorem dX10_source_187 : decode cX10_source 187 = .ok (.getfield 132, 3) := by decide +kernel
theorem dX10_source_190 : decode cX10_source 190 = .ok (.iload 8, 2) := by decide +kernel
theorem dX10_source_192 : decode cX10_source 192 = .ok (.ifCond .eq 10, 3) := by decide +kernel
theorem dX10_source_195 : decode cX10_source 195 = .ok (.iconst 1, 1) := by decide +kernel
theorem dX10_source_196 : decode cX10_source 196 = .ok (.iload 5, 2) := by decide +kernel
theorem dX10_source_198 : decode cX10_source 198 = .ok (.ishl, 1) := by decide +kernel
theorem dX10_source_199 : decode cX10_source 199 = .ok (.goto 4, 3) := by decide +kernel
theorem dX10_source_202 : decode cX10_source 202 = .ok (.iconst 0, 1) := by decide +kernel
theorem dX10_source_203 : decode cX10_source 203 = .ok (.iadd, 1) := by decide +kernel
theorem dX10_source_204 : decode cX10_source 204 = .ok (.putfield 132, 3) := by decide +kernel
theorem dX10_source_207 : decode cX10_source 207 = .ok (.aload_n 0, 1) := by decide +kernel
theorem dX10_source_208 : decode cX10_source 208 = .ok (.getfield 62, 3) := by decide +kernel
theorem dX10_source_211 : decode cX10_source 211 = .ok (.iload 5, 2) := by decide +kernel
theorem dX10_source_213 : decode cX10_source 213 = .ok (.iload 8, 2) := by decide +kernel
theorem dX10_source_215 : decode cX10_source 215 = .ok (.ifCond .eq 7, 3) := by decide +kernel
theorem dX10_source_218 : decode cX10_source 218 = .ok (.dconst 0, 1) := by decide +kernel
theorem dX10_source_219 : decode cX10_source 219 = .ok (.goto 17, 3) := by decide +kernel
theorem dX10_source_222 : decode cX10_source 222 = .ok (.aload_n 0, 1) := by decide +kernel
theorem dX10_source_223 : decode cX10_source 223 = .ok (.iload_n 1, 1) := by decide +kernel
theorem dX10_source_224 : decode cX10_source 224 = .ok (.iload 6, 2) := by decide +kernel
theorem dX10_source_226 : decode cX10_source 226 = .ok (.i2l, 1) := by decide +kernel
theorem dX10_source_227 : decode cX10_source 227 = .ok (.aload_n 0, 1) := by decide +kernel
theorem dX10_source_228 : decode cX10_source 228 = .ok (.getfield 20, 3) := by decide +kernel
theorem dX10_source_231 : decode cX10_source 231 = .ok (.iload_n 1, 1) := by decide +kernel
theorem dX10_source_232 : decode cX10_source 232 = .ok (.iaload, 1) := by decide +kernel
theorem dX10_source_233 : decode cX10_source 233 = .ok (.invokevirtual 135, 3) := by decide +kernel
theorem dX10_source_236 : decode cX10_source 236 = .ok (.dastore, 1) := by decide +kernel
theorem dX10_source_237 : decode cX10_source 237 = .ok (.iinc 5 1, 3) := by decide +kernel
theorem dX10_source_240 : decode cX10_source 240 = .ok (.goto (-183), 3) := by decide +kernel
theorem dX10_source_243 : decode cX10_source 243 = .ok (.iconst 1, 1) := by decide +kernel
theorem dX10_source_244 : decode cX10_source 244 = .ok (.ireturn, 1) := by decide +kernel
theorem dX10_shaped_0 : decode cX10_shaped 0 = .ok (.aload_n 0, 1) := by decide +kernel
theorem dX10_shaped_1 : decode cX10_shaped 1 = .ok (.getfield 13, 3) := by decide +kernel
theorem dX10_shaped_4 : decode cX10_shaped 4 = .ok (.bipush 20, 2) := by decide +kernel
theorem dX10_shaped_6 : decode cX10_shaped 6 = .ok (.iload_n 1, 1) := by decide +kernel
theorem dX10_shaped_7 : decode cX10_shaped 7 = .ok (.imul, 1) := by decide +kernel
theorem dX10_shaped_8 : decode cX10_shaped 8 = .ok (.bipush 18, 2) := by decide +kernel
theorem dX10_shaped_10 : decode cX10_shaped 10 = .ok (.iadd, 1) := by decide +kernel
theorem dX10_shaped_11 : decode cX10_shaped 11 = .ok (.iaload, 1) := by decide +kernel
theorem dX10_shaped_12 : decode cX10_shaped 12 = .ok (.istore 5, 2) := by decide +kernel
theorem dX10_shaped_14 : decode cX10_shaped 14 = .ok (.aload_n 0, 1) := by decide +kernel
theorem dX10_shaped_15 : decode cX10_shaped 15 = .ok (.getfield 23, 3) := by decide +kernel
theorem dX10_shaped_18 : decode cX10_shaped 18 = .ok (.iconst 3, 1) := by decide +kernel
theorem dX10_shaped_19 : decode cX10_shaped 19 = .ok (.iload_n 1, 1) := by decide +kernel
theorem dX10_shaped_20 : decode cX10_shaped 20 = .ok (.imul, 1) := by decide +kernel
theorem dX10_shaped_21 : decode cX10_shaped 21 = .ok (.iaload, 1) := by decide +kernel
theorem dX10_shaped_22 : decode cX10_shaped 22 = .ok (.iload 5, 2) := by decide +kernel
theorem dX10_shaped_24 : decode cX10_shaped 24 = .ok (.isub, 1) := by decide +kernel
theorem dX10_shaped_25 : decode cX10_shaped 25 = .ok (.iload_n 2, 1) := by decide +kernel
theorem dX10_shaped_26 : decode cX10_shaped 26 = .ok (.iconst 1, 1) := by decide +kernel
theorem dX10_shaped_27 : decode cX10_shaped 27 = .ok (.iadd, 1) := by decide +kernel
theorem dX10_shaped_28 : decode cX10_shaped 28 = .ok (.imul, 1) := by decide +kernel
theorem dX10_shaped_29 : decode cX10_shaped 29 = .ok (.i2d, 1) := by decide +kernel
theorem dX10_shaped_30 : decode cX10_shaped 30 = .ok (.dstore 6, 2) := by decide +kernel
theorem dX10_shaped_32 : decode cX10_shaped 32 = .ok (.iload 5, 2) := by decide +kernel
theorem dX10_shaped_34 : decode cX10_shaped 34 = .ok (.i2d, 1) := by decide +kernel
theorem dX10_shaped_35 : decode cX10_shaped 35 = .ok (.dload 6, 2) := by decide +kernel
theorem dX10_shaped_37 : decode cX10_shaped 37 = .ok (.aload_n 0, 1) := by decide +kernel
theorem dX10_shaped_38 : decode cX10_shaped 38 = .ok (.getfield 128, 3) := by decide +kernel
theorem dX10_shaped_41 : decode cX10_shaped 41 = .ok (.i2d, 1) := by decide +kernel
theorem dX10_shaped_42 : decode cX10_shaped 42 = .ok (.ddiv, 1) := by decide +kernel
theorem dX10_shaped_43 : decode cX10_shaped 43 = .ok (.dadd, 1) := by decide +kernel
theorem dX10_shaped_44 : decode cX10_shaped 44 = .ok (.ldc2_w 138, 3) := by decide +kernel
theorem dX10_shaped_47 : decode cX10_shaped 47 = .ok (.ddiv, 1) := by decide +kernel
theorem dX10_shaped_48 : decode cX10_shaped 48 = .ok (.dstore 8, 2) := by decide +kernel
theorem dX10_shaped_50 : decode cX10_shaped 50 = .ok (.dload 8, 2) := by decide +kernel
theorem dX10_shaped_52 : decode cX10_shaped 52 = .ok (.dload_n 3, 1) := by decide +kernel
theorem dX10_shaped_53 : decode cX10_shaped 53 = .ok (.dmul, 1) := by decide +kernel
theorem dX10_shaped_54 : decode cX10_shaped 54 = .ok (.invokestatic 124, 3) := by decide +kernel
theorem dX10_shaped_57 : decode cX10_shaped 57 = .ok (.dreturn, 1) := by decide +kernel
theorem dX10_filtered_0 : decode cX10_filtered 0 = .ok (.bipush 82, 2) := by decide +kernel
theorem dX10_filtered_2 : decode cX10_filtered 2 = .ok (.iload_n 1, 1) := by decide +kernel
theorem dX10_filtered_3 : decode cX10_filtered 3 = .ok (.imul, 1) := by decide +kernel
theorem dX10_filtered_4 : decode cX10_filtered 4 = .ok (.bipush 80, 2) := by decide +kernel
theorem dX10_filtered_6 : decode cX10_filtered 6 = .ok (.iadd, 1) := by decide +kernel
theorem dX10_filtered_7 : decode cX10_filtered 7 = .ok (.istore 4, 2) := by decide +kernel
theorem dX10_filtered_9 : decode cX10_filtered 9 = .ok (.dload_n 2, 1) := by decide +kernel
theorem dX10_filtered_10 : decode cX10_filtered 10 = .ok (.aload_n 0, 1) := by decide +kernel
theorem dX10_filtered_11 : decode cX10_filtered 11 = .ok (.getfield 7, 3) := by decide +kernel
theorem dX10_filtered_14 : decode cX10_filtered 14 = .ok (.iload 4, 2) := by decide +kernel
theorem dX10_filtered_16 : decode cX10_filtered 16 = .ok (.daload, 1) := by decide +kernel
theorem dX10_filtered_17 : decode cX10_filtered 17 = .ok (.aload_n 0, 1) := by decide +kernel
theorem dX10_filtered_18 : decode cX10_filtered 18 = .ok (.getfield 23, 3) := by decide +kernel
theorem dX10_filtered_21 : decode cX10_filtered 21 = .ok (.iconst 3, 1) := by decide +kernel
theorem dX10_filtered_22 : decode cX10_filtered 22 = .ok (.iload_n 1, 1) := by decide +kernel
theorem dX10_filtered_23 : decode cX10_filtered 23 = .ok (.imul, 1) := by decide +kernel
theorem dX10_filtered_24 : decode cX10_filtered 24 = .ok (.iconst 1, 1) := by decide +kernel
theorem dX10_filtered_25 : decode cX10_filtered 25 = .ok (.iadd, 1) := by decide +kernel
theorem dX10_filtered_26 : decode cX10_filtered 26 = .ok (.iaload, 1) := by decide +kernel
theorem dX10_filtered_27 : decode cX10_filtered 27 = .ok (.i2d, 1) := by decide +kernel
theorem dX10_filtered_28 : decode cX10_filtered 28 = .ok (.ldc2_w 138, 3) := by decide +kernel
theorem dX10_filtered_31 : decode cX10_filtered 31 = .ok (.ddiv, 1) := by decide +kernel
theorem dX10_filtered_32 : decode cX10_filtered 32 = .ok (.dmul, 1) := by decide +kernel
theorem dX10_filtered_33 : decode cX10_filtered 33 = .ok (.dadd, 1) := by decide +kernel
theorem dX10_filtered_34 : decode cX10_filtered 34 = .ok (.invokestatic 124, 3) := by decide +kernel
theorem dX10_filtered_37 : decode cX10_filtered 37 = .ok (.dstore 5, 2) := by decide +kernel
theorem dX10_filtered_39 : decode cX10_filtered 39 = .ok (.aload_n 0, 1) := by decide +kernel
theorem dX10_filtered_40 : decode cX10_filtered 40 = .ok (.getfield 7, 3) := by decide +kernel
theorem dX10_filtered_43 : decode cX10_filtered 43 = .ok (.iload 4, 2) := by decide +kernel
theorem dX10_filtered_45 : decode cX10_filtered 45 = .ok (.dload 5, 2) := by decide +kernel
theorem dX10_filtered_47 : decode cX10_filtered 47 = .ok (.dastore, 1) := by decide +kernel
theorem dX10_filtered_48 : decode cX10_filtered 48 = .ok (.dload 5, 2) := by decide +kernel
theorem dX10_filtered_50 : decode cX10_filtered 50 = .ok (.dreturn, 1) := by decide +kernel
theorem dX10_late_0 : decode cX10_late 0 = .ok (.bipush 82, 2) := by decide +kernel
theorem dX10_late_2 : decode cX10_late 2 = .ok (.iload_n 1, 1) := by decide +kernel
theorem dX10_late_3 : decode cX10_late 3 = .ok (.imul, 1) := by decide +kernel
theorem dX10_late_4 : decode cX10_late 4 = .ok (.bipush 81, 2) := by decide +kernel
theorem dX10_late_6 : decode cX10_late 6 = .ok (.iadd, 1) := by decide +kernel
theorem dX10_late_7 : decode cX10_late 7 = .ok (.istore 4, 2) := by decide +kernel
theorem dX10_late_9 : decode cX10_late 9 = .ok (.dload_n 2, 1) := by decide +kernel
theorem dX10_late_10 : decode cX10_late 10 = .ok (.aload_n 0, 1) := by decide +kernel
theorem dX10_late_11 : decode cX10_late 11 = .ok (.getfield 7, 3) := by decide +kernel
theorem dX10_late_14 : decode cX10_late 14 = .ok (.iload 4, 2) := by decide +kernel
theorem dX10_late_16 : decode cX10_late 16 = .ok (.daload, 1) := by decide +kernel
theorem dX10_late_17 : decode cX10_late 17 = .ok (.dadd, 1) := by decide +kernel
theorem dX10_late_18 : decode cX10_late 18 = .ok (.invokestatic 124, 3) := by decide +kernel
theorem dX10_late_21 : decode cX10_late 21 = .ok (.dstore 5, 2) := by decide +kernel
theorem dX10_late_23 : decode cX10_late 23 = .ok (.aload_n 0, 1) := by decide +kernel
theorem dX10_late_24 : decode cX10_late 24 = .ok (.getfield 7, 3) := by decide +kernel
theorem dX10_late_27 : decode cX10_late 27 = .ok (.iload 4, 2) := by decide +kernel
theorem dX10_late_29 : decode cX10_late 29 = .ok (.dload_n 2, 1) := by decide +kernel
theorem dX10_late_30 : decode cX10_late 30 = .ok (.aload_n 0, 1) := by decide +kernel
theorem dX10_late_31 : decode cX10_late 31 = .ok (.getfield 23, 3) := by decide +kernel
theorem dX10_late_34 : decode cX10_late 34 = .ok (.iconst 3, 1) := by decide +kernel
theorem dX10_late_35 : decode cX10_late 35 = .ok (.iload_n 1, 1) := by decide +kernel
theorem dX10_late_36 : decode cX10_late 36 = .ok (.imul, 1) := by decide +kernel
theorem dX10_late_37 : decode cX10_late 37 = .ok (.iconst 2, 1) := by decide +kernel
theorem dX10_late_38 : decode cX10_late 38 = .ok (.iadd, 1) := by decide +kernel
theorem dX10_late_39 : decode cX10_late 39 = .ok (.iaload, 1) := by decide +kernel
theorem dX10_late_40 : decode cX10_late 40 = .ok (.i2d, 1) := by decide +kernel
theorem dX10_late_41 : decode cX10_late 41 = .ok (.ldc2_w 138, 3) := by decide +kernel
theorem dX10_late_44 : decode cX10_late 44 = .ok (.ddiv, 1) := by decide +kernel
theorem dX10_late_45 : decode cX10_late 45 = .ok (.dmul, 1) := by decide +kernel
theorem dX10_late_46 : decode cX10_late 46 = .ok (.invokestatic 124, 3) := by decide +kernel
theorem dX10_late_49 : decode cX10_late 49 = .ok (.dastore, 1) := by decide +kernel
theorem dX10_late_50 : decode cX10_late 50 = .ok (.dload 5, 2) := by decide +kernel
theorem dX10_late_52 : decode cX10_late 52 = .ok (.dreturn, 1) := by decide +kernel
theorem dX10_shape_0 : decode cX10_shape 0 = .ok (.aload_n 0, 1) := by decide +kernel
theorem dX10_shape_1 : decode cX10_shape 1 = .ok (.iload_n 1, 1) := by decide +kernel
theorem dX10_shape_2 : decode cX10_shape 2 = .ok (.iconst 0, 1) := by decide +kernel
theorem dX10_shape_3 : decode cX10_shape 3 = .ok (.iconst 4, 1) := by decide +kernel
theorem dX10_shape_4 : decode cX10_shape 4 = .ok (.invokevirtual 140, 3) := by decide +kernel
theorem dX10_shape_7 : decode cX10_shape 7 = .ok (.ifCond .ne 5, 3) := by decide +kernel
theorem dX10_shape_10 : decode cX10_shape 10 = .ok (.iconst 0, 1) := by decide +kernel
theorem dX10_shape_11 : decode cX10_shape 11 = .ok (.ireturn, 1) := by decide +kernel
theorem dX10_shape_12 : decode cX10_shape 12 = .ok (.iconst 0, 1) := by decide +kernel
theorem dX10_shape_13 : decode cX10_shape 13 = .ok (.istore_n 2, 1) := by decide +kernel
theorem dX10_shape_14 : decode cX10_shape 14 = .ok (.iload_n 2, 1) := by decide +kernel
theorem dX10_shape_15 : decode cX10_shape 15 = .ok (.aload_n 0, 1) := by decide +kernel
theorem dX10_shape_16 : decode cX10_shape 16 = .ok (.getfield 128, 3) := by decide +kernel
theorem dX10_shape_19 : decode cX10_shape 19 = .ok (.if_icmp .ge 114, 3) := by decide +kernel
theorem dX10_shape_22 : decode cX10_shape 22 = .ok (.aload_n 0, 1) := by decide +kernel
theorem dX10_shape_23 : decode cX10_shape 23 = .ok (.iload_n 1, 1) := by decide +kernel
theorem dX10_shape_24 : decode cX10_shape 24 = .ok (.iconst 0, 1) := by decide +kernel
theorem dX10_shape_25 : decode cX10_shape 25 = .ok (.iload_n 2, 1) := by decide +kernel
theorem dX10_shape_26 : decode cX10_shape 26 = .ok (.invokevirtual 143, 3) := by decide +kernel
theorem dX10_shape_29 : decode cX10_shape 29 = .ok (.ifCond .ne 5, 3) := by decide +kernel
theorem dX10_shape_32 : decode cX10_shape 32 = .ok (.iconst 0, 1) := by decide +kernel
theorem dX10_shape_33 : decode cX10_shape 33 = .ok (.ireturn, 1) := by decide +kernel
theorem dX10_shape_34 : decode cX10_shape 34 = .ok (.aload_n 0, 1) := by decide +kernel
theorem dX10_shape_35 : decode cX10_shape 35 = .ok (.iload_n 1, 1) := by decide +kernel
theorem dX10_shape_36 : decode cX10_shape 36 = .ok (.iconst 0, 1) := by decide +kernel
theorem dX10_shape_37 : decode cX10_shape 37 = .ok (.iload_n 2, 1) := by decide +kernel
theorem dX10_shape_38 : decode cX10_shape 38 = .ok (.invokevirtual 146, 3) := by decide +kernel
theorem dX10_shape_41 : decode cX10_shape 41 = .ok (.ifCond .eq 25, 3) := by decide +kernel
theorem dX10_shape_44 : decode cX10_shape 44 = .ok (.aload_n 0, 1) := by decide +kernel
theorem dX10_shape_45 : decode cX10_shape 45 = .ok (.dup, 1) := by decide +kernel
theorem dX10_shape_46 : decode cX10_shape 46 = .ok (.getfield 132, 3) := by decide +kernel
theorem dX10_shape_49 : decode cX10_shape 49 = .ok (.iconst 1, 1) := by decide +kernel
theorem dX10_shape_50 : decode cX10_shape 50 = .ok (.iload_n 2, 1) := by decide +kernel
theorem dX10_shape_51 : decode cX10_shape 51 = .ok (.ishl, 1) := by decide +kernel
theorem dX10_shape_52 : decode cX10_shape 52 = .ok (.iadd, 1) := by decide +kernel
theorem dX10_shape_53 : decode cX10_shape 53 = .ok (.putfield 132, 3) := by decide +kernel
theorem dX10_shape_56 : decode cX10_shape 56 = .ok (.aload_n 0, 1) := by decide +kernel
theorem dX10_shape_57 : decode cX10_shape 57 = .ok (.getfield 62, 3) := by decide +kernel
theorem dX10_shape_60 : decode cX10_shape 60 = .ok (.iload_n 2, 1) := by decide +kernel
theorem dX10_shape_61 : decode cX10_shape 61 = .ok (.dconst 0, 1) := by decide +kernel
theorem dX10_shape_62 : decode cX10_shape 62 = .ok (.dastore, 1) := by decide +kernel
theorem dX10_shape_63 : decode cX10_shape 63 = .ok (.goto 64, 3) := by decide +kernel
theorem dX10_shape_66 : decode cX10_shape 66 = .ok (.aload_n 0, 1) := by decide +kernel
theorem dX10_shape_67 : decode cX10_shape 67 = .ok (.iload_n 1, 1) := by decide +kernel
theorem dX10_shape_68 : decode cX10_shape 68 = .ok (.iload_n 2, 1) := by decide +kernel
theorem dX10_shape_69 : decode cX10_shape 69 = .ok (.aload_n 0, 1) := by decide +kernel
theorem dX10_shape_70 : decode cX10_shape 70 = .ok (.iload_n 1, 1) := by decide +kernel
theorem dX10_shape_71 : decode cX10_shape 71 = .ok (.iconst 0, 1) := by decide +kernel
theorem dX10_shape_72 : decode cX10_shape 72 = .ok (.iload_n 2, 1) := by decide +kernel
theorem dX10_shape_73 : decode cX10_shape 73 = .ok (.invokevirtual 149, 3) := by decide +kernel
theorem dX10_shape_76 : decode cX10_shape 76 = .ok (.invokevirtual 153, 3) := by decide +kernel
theorem dX10_shape_79 : decode cX10_shape 79 = .ok (.dstore_n 3, 1) := by decide +kernel
theorem dX10_shape_80 : decode cX10_shape 80 = .ok (.aload_n 0, 1) := by decide +kernel
theorem dX10_shape_81 : decode cX10_shape 81 = .ok (.getfield 17, 3) := by decide +kernel
theorem dX10_shape_84 : decode cX10_shape 84 = .ok (.iload_n 1, 1) := by decide +kernel
theorem dX10_shape_85 : decode cX10_shape 85 = .ok (.iaload, 1) := by decide +kernel
theorem dX10_shape_86 : decode cX10_shape 86 = .ok (.iconst 1, 1) := by decide +kernel
theorem dX10_shape_87 : decode cX10_shape 87 = .ok (.if_icmp .ne 7, 3) := by decide +kernel
theorem dX10_shape_90 : decode cX10_shape 90 = .ok (.dload_n 3, 1) := by decide +kernel
theorem dX10_shape_91 : decode cX10_shape 91 = .ok (.goto 9, 3) := by decide +kernel
theorem dX10_shape_94 : decode cX10_shape 94 = .ok (.aload_n 0, 1) := by decide +kernel
theorem dX10_shape_95 : decode cX10_shape 95 = .ok (.iload_n 1, 1) := by decide +kernel
theorem dX10_shape_96 : decode cX10_shape 96 = .ok (.dload_n 3, 1) := by decide +kernel
theorem dX10_shape_97 : decode cX10_shape 97 = .ok (.invokevirtual 157, 3) := by decide +kernel
theorem dX10_shape_100 : decode cX10_shape 100 = .ok (.dstore_n 3, 1) := by decide +kernel
theorem dX10_shape_101 : decode cX10_shape 101 = .ok (.aload_n 0, 1) := by decide +kernel
theorem dX10_shape_102 : decode cX10_shape 102 = .ok (.getfield 62, 3) := by decide +kernel
theorem dX10_shape_105 : decode cX10_shape 105 = .ok (.iload_n 2, 1) := by decide +kernel
theorem dX10_shape_106 : decode cX10_shape 106 = .ok (.aload_n 0, 1) := by decide +kernel
theorem dX10_shape_107 : decode cX10_shape 107 = .ok (.getfield 17, 3) := by decide +kernel
theorem dX10_shape_110 : decode cX10_shape 110 = .ok (.iload_n 1, 1) := by decide +kernel
theorem dX10_shape_111 : decode cX10_shape 111 = .ok (.iaload, 1) := by decide +kernel
theorem dX10_shape_112 : decode cX10_shape 112 = .ok (.iconst 4, 1) := by decide +kernel
theorem dX10_shape_113 : decode cX10_shape 113 = .ok (.if_icmp .ne 12, 3) := by decide +kernel
theorem dX10_shape_116 : decode cX10_shape 116 = .ok (.aload_n 0, 1) := by decide +kernel
theorem dX10_shape_117 : decode cX10_shape 117 = .ok (.iload_n 1, 1) := by decide +kernel
theorem dX10_shape_118 : decode cX10_shape 118 = .ok (.dload_n 3, 1) := by decide +kernel
theorem dX10_shape_119 : decode cX10_shape 119 = .ok (.invokevirtual 161, 3) := by decide +kernel
theorem dX10_shape_122 : decode cX10_shape 122 = .ok (.goto 4, 3) := by decide +kernel
theorem dX10_shape_125 : decode cX10_shape 125 = .ok (.dload_n 3, 1) := by decide +kernel
theorem dX10_shape_126 : decode cX10_shape 126 = .ok (.dastore, 1) := by decide +kernel
theorem dX10_shape_127 : decode cX10_shape 127 = .ok (.iinc 2 1, 3) := by decide +kernel
theorem dX10_shape_130 : decode cX10_shape 130 = .ok (.goto (-116), 3) := by decide +kernel
theorem dX10_shape_133 : decode cX10_shape 133 = .ok (.iconst 1, 1) := by decide +kernel
theorem dX10_shape_134 : decode cX10_shape 134 = .ok (.ireturn, 1) := by decide +kernel
theorem dX10_counts_0 : decode cX10_counts 0 = .ok (.aload_n 0, 1) := by decide +kernel
theorem dX10_counts_1 : decode cX10_counts 1 = .ok (.getfield 26, 3) := by decide +kernel
theorem dX10_counts_4 : decode cX10_counts 4 = .ok (.iconst 3, 1) := by decide +kernel
theorem dX10_counts_5 : decode cX10_counts 5 = .ok (.iload_n 1, 1) := by decide +kernel
theorem dX10_counts_6 : decode cX10_counts 6 = .ok (.imul, 1) := by decide +kernel
theorem dX10_counts_7 : decode cX10_counts 7 = .ok (.iload_n 2, 1) := by decide +kernel
theorem dX10_counts_8 : decode cX10_counts 8 = .ok (.iadd, 1) := by decide +kernel
theorem dX10_counts_9 : decode cX10_counts 9 = .ok (.iaload, 1) := by decide +kernel
theorem dX10_counts_10 : decode cX10_counts 10 = .ok (.ifCond .le 26, 3) := by decide +kernel
theorem dX10_counts_13 : decode cX10_counts 13 = .ok (.aload_n 0, 1) := by decide +kernel
theorem dX10_counts_14 : decode cX10_counts 14 = .ok (.aload_n 0, 1) := by decide +kernel
theorem dX10_counts_15 : decode cX10_counts 15 = .ok (.getfield 26, 3) := by decide +kernel
theorem dX10_counts_18 : decode cX10_counts 18 = .ok (.iconst 3, 1) := by decide +kernel
theorem dX10_counts_19 : decode cX10_counts 19 = .ok (.iload_n 1, 1) := by decide +kernel
theorem dX10_counts_20 : decode cX10_counts 20 = .ok (.imul, 1) := by decide +kernel
theorem dX10_counts_21 : decode cX10_counts 21 = .ok (.iload_n 2, 1) := by decide +kernel
theorem dX10_counts_22 : decode cX10_counts 22 = .ok (.iadd, 1) := by decide +kernel
theorem dX10_counts_23 : decode cX10_counts 23 = .ok (.iaload, 1) := by decide +kernel
theorem dX10_counts_24 : decode cX10_counts 24 = .ok (.iconst 1, 1) := by decide +kernel
theorem dX10_counts_25 : decode cX10_counts 25 = .ok (.isub, 1) := by decide +kernel
theorem dX10_counts_26 : decode cX10_counts 26 = .ok (.invokevirtual 106, 3) := by decide +kernel
theorem dX10_counts_29 : decode cX10_counts 29 = .ok (.ifCond .lt 7, 3) := by decide +kernel
theorem dX10_counts_32 : decode cX10_counts 32 = .ok (.iconst 1, 1) := by decide +kernel
theorem dX10_counts_33 : decode cX10_counts 33 = .ok (.goto 4, 3) := by decide +kernel
theorem dX10_counts_36 : decode cX10_counts 36 = .ok (.iconst 0, 1) := by decide +kernel
theorem dX10_counts_37 : decode cX10_counts 37 = .ok (.ireturn, 1) := by decide +kernel
theorem dX10_mix_0 : decode cX10_mix 0 = .ok (.iconst 0, 1) := by decide +kernel
theorem dX10_mix_1 : decode cX10_mix 1 = .ok (.istore_n 2, 1) := by decide +kernel
theorem dX10_mix_2 : decode cX10_mix 2 = .ok (.iload_n 2, 1) := by decide +kernel
theorem dX10_mix_3 : decode cX10_mix 3 = .ok (.iconst 3, 1) := by decide +kernel
theorem dX10_mix_4 : decode cX10_mix 4 = .ok (.if_icmp .ge 46, 3) := by decide +kernel
theorem dX10_mix_7 : decode cX10_mix 7 = .ok (.aload_n 0, 1) := by decide +kernel
theorem dX10_mix_8 : decode cX10_mix 8 = .ok (.iload_n 1, 1) := by decide +kernel
theorem dX10_mix_9 : decode cX10_mix 9 = .ok (.iload_n 2, 1) := by decide +kernel
theorem dX10_mix_10 : decode cX10_mix 10 = .ok (.invokevirtual 164, 3) := by decide +kernel
theorem dX10_mix_13 : decode cX10_mix 13 = .ok (.ifCond .eq 31, 3) := by decide +kernel
theorem dX10_mix_16 : decode cX10_mix 16 = .ok (.aload_n 0, 1) := by decide +kernel
theorem dX10_mix_17 : decode cX10_mix 17 = .ok (.aload_n 0, 1) := by decide +kernel
theorem dX10_mix_18 : decode cX10_mix 18 = .ok (.getfield 26, 3) := by decide +kernel
theorem dX10_mix_21 : decode cX10_mix 21 = .ok (.iconst 3, 1) := by decide +kernel
theorem dX10_mix_22 : decode cX10_mix 22 = .ok (.iload_n 1, 1) := by decide +kernel
theorem dX10_mix_23 : decode cX10_mix 23 = .ok (.imul, 1) := by decide +kernel
theorem dX10_mix_24 : decode cX10_mix 24 = .ok (.iload_n 2, 1) := by decide +kernel
theorem dX10_mix_25 : decode cX10_mix 25 = .ok (.iadd, 1) := by decide +kernel
theorem dX10_mix_26 : decode cX10_mix 26 = .ok (.iaload, 1) := by decide +kernel
theorem dX10_mix_27 : decode cX10_mix 27 = .ok (.iconst 1, 1) := by decide +kernel
theorem dX10_mix_28 : decode cX10_mix 28 = .ok (.isub, 1) := by decide +kernel
theorem dX10_mix_29 : decode cX10_mix 29 = .ok (.invokevirtual 106, 3) := by decide +kernel
theorem dX10_mix_32 : decode cX10_mix 32 = .ok (.iconst 2, 1) := by decide +kernel
theorem dX10_mix_33 : decode cX10_mix 33 = .ok (.if_icmp .eq 11, 3) := by decide +kernel
theorem dX10_mix_36 : decode cX10_mix 36 = .ok (.aload_n 0, 1) := by decide +kernel
theorem dX10_mix_37 : decode cX10_mix 37 = .ok (.iconst 4, 1) := by decide +kernel
theorem dX10_mix_38 : decode cX10_mix 38 = .ok (.iload_n 1, 1) := by decide +kernel
theorem dX10_mix_39 : decode cX10_mix 39 = .ok (.iconst (-1), 1) := by decide +kernel
theorem dX10_mix_40 : decode cX10_mix 40 = .ok (.invokevirtual 103, 3) := by decide +kernel
theorem dX10_mix_43 : decode cX10_mix 43 = .ok (.ireturn, 1) := by decide +kernel
theorem dX10_mix_44 : decode cX10_mix 44 = .ok (.iinc 2 1, 3) := by decide +kernel
theorem dX10_mix_47 : decode cX10_mix 47 = .ok (.goto (-45), 3) := by decide +kernel
theorem dX10_mix_50 : decode cX10_mix 50 = .ok (.iconst 0, 1) := by decide +kernel
theorem dX10_mix_51 : decode cX10_mix 51 = .ok (.istore_n 2, 1) := by decide +kernel
theorem dX10_mix_52 : decode cX10_mix 52 = .ok (.iload_n 2, 1) := by decide +kernel
theorem dX10_mix_53 : decode cX10_mix 53 = .ok (.aload_n 0, 1) := by decide +kernel
theorem dX10_mix_54 : decode cX10_mix 54 = .ok (.getfield 128, 3) := by decide +kernel
theorem dX10_mix_57 : decode cX10_mix 57 = .ok (.if_icmp .ge 75, 3) := by decide +kernel
theorem dX10_mix_60 : decode cX10_mix 60 = .ok (.lconst 0, 1) := by decide +kernel
theorem dX10_mix_61 : decode cX10_mix 61 = .ok (.lstore_n 3, 1) := by decide +kernel
theorem dX10_mix_62 : decode cX10_mix 62 = .ok (.iconst 0, 1) := by decide +kernel
theorem dX10_mix_63 : decode cX10_mix 63 = .ok (.istore 5, 2) := by decide +kernel
theorem dX10_mix_65 : decode cX10_mix 65 = .ok (.iload 5, 2) := by decide +kernel
theorem dX10_mix_67 : decode cX10_mix 67 = .ok (.iconst 3, 1) := by decide +kernel
theorem dX10_mix_68 : decode cX10_mix 68 = .ok (.if_icmp .ge 44, 3) := by decide +kernel
theorem dX10_mix_71 : decode cX10_mix 71 = .ok (.aload_n 0, 1) := by decide +kernel
theorem dX10_mix_72 : decode cX10_mix 72 = .ok (.iload_n 1, 1) := by decide +kernel
theorem dX10_mix_73 : decode cX10_mix 73 = .ok (.iload 5, 2) := by decide +kernel
theorem dX10_mix_75 : decode cX10_mix 75 = .ok (.invokevirtual 164, 3) := by decide +kernel
theorem dX10_mix_78 : decode cX10_mix 78 = .ok (.ifCond .eq 28, 3) := by decide +kernel
theorem dX10_mix_81 : decode cX10_mix 81 = .ok (.aload_n 0, 1) := by decide +kernel
theorem dX10_mix_82 : decode cX10_mix 82 = .ok (.iload_n 1, 1) := by decide +kernel
theorem dX10_mix_83 : decode cX10_mix 83 = .ok (.iload 5, 2) := by decide +kernel
theorem dX10_mix_85 : decode cX10_mix 85 = .ok (.iload_n 2, 1) := by decide +kernel
theorem dX10_mix_86 : decode cX10_mix 86 = .ok (.invokevirtual 143, 3) := by decide +kernel
theorem dX10_mix_89 : decode cX10_mix 89 = .ok (.ifCond .ne 5, 3) := by decide +kernel
theorem dX10_mix_92 : decode cX10_mix 92 = .ok (.iconst 0, 1) := by decide +kernel
theorem dX10_mix_93 : decode cX10_mix 93 = .ok (.ireturn, 1) := by decide +kernel
theorem dX10_mix_94 : decode cX10_mix 94 = .ok (.lload_n 3, 1) := by decide +kernel
theorem dX10_mix_95 : decode cX10_mix 95 = .ok (.aload_n 0, 1) := by decide +kernel
theorem dX10_mix_96 : decode cX10_mix 96 = .ok (.iload_n 1, 1) := by decide +kernel
theorem dX10_mix_97 : decode cX10_mix 97 = .ok (.iload 5, 2) := by decide +kernel
theorem dX10_mix_99 : decode cX10_mix 99 = .ok (.iload_n 2, 1) := by decide +kernel
theorem dX10_mix_100 : decode cX10_mix 100 = .ok (.invokevirtual 149, 3) := by decide +kernel
theorem dX10_mix_103 : decode cX10_mix 103 = .ok (.d2l, 1) := by decide +kernel
theorem dX10_mix_104 : decode cX10_mix 104 = .ok (.ladd, 1) := by decide +kernel
theorem dX10_mix_105 : decode cX10_mix 105 = .ok (.lstore_n 3, 1) := by decide +kernel
theorem dX10_mix_106 : decode cX10_mix 106 = .ok (.iinc 5 1, 3) := by decide +kernel
theorem dX10_mix_109 : decode cX10_mix 109 = .ok (.goto (-44), 3) := by decide +kernel
theorem dX10_mix_112 : decode cX10_mix 112 = .ok (.aload_n 0, 1) := by decide +kernel
theorem dX10_mix_113 : decode cX10_mix 113 = .ok (.getfield 62, 3) := by decide +kernel
theorem dX10_mix_116 : decode cX10_mix 116 = .ok (.iload_n 2, 1) := by decide +kernel
theorem dX10_mix_117 : decode cX10_mix 117 = .ok (.aload_n 0, 1) := by decide +kernel
theorem dX10_mix_118 : decode cX10_mix 118 = .ok (.iload_n 1, 1) := by decide +kernel
theorem dX10_mix_119 : decode cX10_mix 119 = .ok (.lload_n 3, 1) := by decide +kernel
theorem dX10_mix_120 : decode cX10_mix 120 = .ok (.bipush 32, 2) := by decide +kernel
theorem dX10_mix_122 : decode cX10_mix 122 = .ok (.invokevirtual 118, 3) := by decide +kernel
theorem dX10_mix_125 : decode cX10_mix 125 = .ok (.dastore, 1) := by decide +kernel
theorem dX10_mix_126 : decode cX10_mix 126 = .ok (.iinc 2 1, 3) := by decide +kernel
theorem dX10_mix_129 : decode cX10_mix 129 = .ok (.goto (-77), 3) := by decide +kernel
theorem dX10_mix_132 : decode cX10_mix 132 = .ok (.iconst 1, 1) := by decide +kernel
theorem dX10_mix_133 : decode cX10_mix 133 = .ok (.ireturn, 1) := by decide +kernel
theorem dX10_gate_0 : decode cX10_gate 0 = .ok (.aload_n 0, 1) := by decide +kernel
theorem dX10_gate_1 : decode cX10_gate 1 = .ok (.iload_n 1, 1) := by decide +kernel
theorem dX10_gate_2 : decode cX10_gate 2 = .ok (.iconst 0, 1) := by decide +kernel
theorem dX10_gate_3 : decode cX10_gate 3 = .ok (.iconst 4, 1) := by decide +kernel
theorem dX10_gate_4 : decode cX10_gate 4 = .ok (.invokevirtual 140, 3) := by decide +kernel
theorem dX10_gate_7 : decode cX10_gate 7 = .ok (.ifCond .ne 5, 3) := by decide +kernel
theorem dX10_gate_10 : decode cX10_gate 10 = .ok (.iconst 0, 1) := by decide +kernel
theorem dX10_gate_11 : decode cX10_gate 11 = .ok (.ireturn, 1) := by decide +kernel
theorem dX10_gate_12 : decode cX10_gate 12 = .ok (.bipush 20, 2) := by decide +kernel
theorem dX10_gate_14 : decode cX10_gate 14 = .ok (.iload_n 1, 1) := by decide +kernel
theorem dX10_gate_15 : decode cX10_gate 15 = .ok (.imul, 1) := by decide +kernel
theorem dX10_gate_16 : decode cX10_gate 16 = .ok (.bipush 16, 2) := by decide +kernel
theorem dX10_gate_18 : decode cX10_gate 18 = .ok (.iadd, 1) := by decide +kernel
theorem dX10_gate_19 : decode cX10_gate 19 = .ok (.istore_n 2, 1) := by decide +kernel
theorem dX10_gate_20 : decode cX10_gate 20 = .ok (.iconst 0, 1) := by decide +kernel
theorem dX10_gate_21 : decode cX10_gate 21 = .ok (.istore_n 3, 1) := by decide +kernel
theorem dX10_gate_22 : decode cX10_gate 22 = .ok (.iload_n 3, 1) := by decide +kernel
theorem dX10_gate_23 : decode cX10_gate 23 = .ok (.aload_n 0, 1) := by decide +kernel
theorem dX10_gate_24 : decode cX10_gate 24 = .ok (.getfield 128, 3) := by decide +kernel
theorem dX10_gate_27 : decode cX10_gate 27 = .ok (.if_icmp .ge 113, 3) := by decide +kernel
theorem dX10_gate_30 : decode cX10_gate 30 = .ok (.aload_n 0, 1) := by decide +kernel
theorem dX10_gate_31 : decode cX10_gate 31 = .ok (.iload_n 1, 1) := by decide +kernel
theorem dX10_gate_32 : decode cX10_gate 32 = .ok (.iconst 0, 1) := by decide +kernel
theorem dX10_gate_33 : decode cX10_gate 33 = .ok (.iload_n 3, 1) := by decide +kernel
theorem dX10_gate_34 : decode cX10_gate 34 = .ok (.invokevirtual 143, 3) := by decide +kernel
theorem dX10_gate_37 : decode cX10_gate 37 = .ok (.ifCond .ne 5, 3) := by decide +kernel
theorem dX10_gate_40 : decode cX10_gate 40 = .ok (.iconst 0, 1) := by decide +kernel
theorem dX10_gate_41 : decode cX10_gate 41 = .ok (.ireturn, 1) := by decide +kernel
theorem dX10_gate_42 : decode cX10_gate 42 = .ok (.aload_n 0, 1) := by decide +kernel
theorem dX10_gate_43 : decode cX10_gate 43 = .ok (.iload_n 1, 1) := by decide +kernel
theorem dX10_gate_44 : decode cX10_gate 44 = .ok (.iconst 0, 1) := by decide +kernel
theorem dX10_gate_45 : decode cX10_gate 45 = .ok (.iload_n 3, 1) := by decide +kernel
theorem dX10_gate_46 : decode cX10_gate 46 = .ok (.invokevirtual 146, 3) := by decide +kernel
theorem dX10_gate_49 : decode cX10_gate 49 = .ok (.ifCond .ne 72, 3) := by decide +kernel
theorem dX10_gate_52 : decode cX10_gate 52 = .ok (.aload_n 0, 1) := by decide +kernel
theorem dX10_gate_53 : decode cX10_gate 53 = .ok (.iload_n 1, 1) := by decide +kernel
theorem dX10_gate_54 : decode cX10_gate 54 = .ok (.iconst 0, 1) := by decide +kernel
theorem dX10_gate_55 : decode cX10_gate 55 = .ok (.iload_n 3, 1) := by decide +kernel
theorem dX10_gate_56 : decode cX10_gate 56 = .ok (.invokevirtual 149, 3) := by decide +kernel
theorem dX10_gate_59 : decode cX10_gate 59 = .ok (.dstore 4, 2) := by decide +kernel
theorem dX10_gate_61 : decode cX10_gate 61 = .ok (.aload_n 0, 1) := by decide +kernel
theorem dX10_gate_62 : decode cX10_gate 62 = .ok (.getfield 13, 3) := by decide +kernel
theorem dX10_gate_65 : decode cX10_gate 65 = .ok (.iload_n 2, 1) := by decide +kernel
theorem dX10_gate_66 : decode cX10_gate 66 = .ok (.dload 4, 2) := by decide +kernel
theorem dX10_gate_68 : decode cX10_gate 68 = .ok (.aload_n 0, 1) := by decide +kernel
theorem dX10_gate_69 : decode cX10_gate 69 = .ok (.getfield 23, 3) := by decide +kernel
theorem dX10_gate_72 : decode cX10_gate 72 = .ok (.iconst 3, 1) := by decide +kernel
theorem dX10_gate_73 : decode cX10_gate 73 = .ok (.iload_n 1, 1) := by decide +kernel
theorem dX10_gate_74 : decode cX10_gate 74 = .ok (.imul, 1) := by decide +kernel
theorem dX10_gate_75 : decode cX10_gate 75 = .ok (.iaload, 1) := by decide +kernel
theorem dX10_gate_76 : decode cX10_gate 76 = .ok (.i2d, 1) := by decide +kernel
theorem dX10_gate_77 : decode cX10_gate 77 = .ok (.ldc2_w 138, 3) := by decide +kernel
theorem dX10_gate_80 : decode cX10_gate 80 = .ok (.ddiv, 1) := by decide +kernel
theorem dX10_gate_81 : decode cX10_gate 81 = .ok (.dcmp .l, 1) := by decide +kernel
theorem dX10_gate_82 : decode cX10_gate 82 = .ok (.ifCond .lt 7, 3) := by decide +kernel
theorem dX10_gate_85 : decode cX10_gate 85 = .ok (.iconst 1, 1) := by decide +kernel
theorem dX10_gate_86 : decode cX10_gate 86 = .ok (.goto 34, 3) := by decide +kernel
theorem dX10_gate_89 : decode cX10_gate 89 = .ok (.dload 4, 2) := by decide +kernel
theorem dX10_gate_91 : decode cX10_gate 91 = .ok (.aload_n 0, 1) := by decide +kernel
theorem dX10_gate_92 : decode cX10_gate 92 = .ok (.getfield 23, 3) := by decide +kernel
theorem dX10_gate_95 : decode cX10_gate 95 = .ok (.iconst 3, 1) := by decide +kernel
theorem dX10_gate_96 : decode cX10_gate 96 = .ok (.iload_n 1, 1) := by decide +kernel
theorem dX10_gate_97 : decode cX10_gate 97 = .ok (.imul, 1) := by decide +kernel
theorem dX10_gate_98 : decode cX10_gate 98 = .ok (.iconst 1, 1) := by decide +kernel
theorem dX10_gate_99 : decode cX10_gate 99 = .ok (.iadd, 1) := by decide +kernel
theorem dX10_gate_100 : decode cX10_gate 100 = .ok (.iaload, 1) := by decide +kernel
theorem dX10_gate_101 : decode cX10_gate 101 = .ok (.i2d, 1) := by decide +kernel
theorem dX10_gate_102 : decode cX10_gate 102 = .ok (.ldc2_w 138, 3) := by decide +kernel
theorem dX10_gate_105 : decode cX10_gate 105 = .ok (.ddiv, 1) := by decide +kernel
theorem dX10_gate_106 : decode cX10_gate 106 = .ok (.dcmp .g, 1) := by decide +kernel
theorem dX10_gate_107 : decode cX10_gate 107 = .ok (.ifCond .gt 7, 3) := by decide +kernel
theorem dX10_gate_110 : decode cX10_gate 110 = .ok (.iconst 0, 1) := by decide +kernel
theorem dX10_gate_111 : decode cX10_gate 111 = .ok (.goto 9, 3) := by decide +kernel
theorem dX10_gate_114 : decode cX10_gate 114 = .ok (.aload_n 0, 1) := by decide +kernel
theorem dX10_gate_115 : decode cX10_gate 115 = .ok (.getfield 13, 3) := by decide +kernel
theorem dX10_gate_118 : decode cX10_gate 118 = .ok (.iload_n 2, 1) := by decide +kernel
theorem dX10_gate_119 : decode cX10_gate 119 = .ok (.iaload, 1) := by decide +kernel
theorem dX10_gate_120 : decode cX10_gate 120 = .ok (.iastore, 1) := by decide +kernel
theorem dX10_gate_121 : decode cX10_gate 121 = .ok (.aload_n 0, 1) := by decide +kernel
theorem dX10_gate_122 : decode cX10_gate 122 = .ok (.getfield 62, 3) := by decide +kernel
theorem dX10_gate_125 : decode cX10_gate 125 = .ok (.iload_n 3, 1) := by decide +kernel
theorem dX10_gate_126 : decode cX10_gate 126 = .ok (.aload_n 0, 1) := by decide +kernel
theorem dX10_gate_127 : decode cX10_gate 127 = .ok (.getfield 13, 3) := by decide +kernel
theorem dX10_gate_130 : decode cX10_gate 130 = .ok (.iload_n 2, 1) := by decide +kernel
theorem dX10_gate_131 : decode cX10_gate 131 = .ok (.iaload, 1) := by decide +kernel
theorem dX10_gate_132 : decode cX10_gate 132 = .ok (.i2d, 1) := by decide +kernel
theorem dX10_gate_133 : decode cX10_gate 133 = .ok (.dastore, 1) := by decide +kernel
theorem dX10_gate_134 : decode cX10_gate 134 = .ok (.iinc 3 1, 3) := by decide +kernel
theorem dX10_gate_137 : decode cX10_gate 137 = .ok (.goto (-115), 3) := by decide +kernel
theorem dX10_gate_140 : decode cX10_gate 140 = .ok (.iconst 1, 1) := by decide +kernel
theorem dX10_gate_141 : decode cX10_gate 141 = .ok (.ireturn, 1) := by decide +kernel
theorem dX10_turn_0 : decode cX10_turn 0 = .ok (.aload_n 0, 1) := by decide +kernel
theorem dX10_turn_1 : decode cX10_turn 1 = .ok (.iload_n 1, 1) := by decide +kernel
theorem dX10_turn_2 : decode cX10_turn 2 = .ok (.iconst 0, 1) := by decide +kernel
theorem dX10_turn_3 : decode cX10_turn 3 = .ok (.iconst (-1), 1) := by decide +kernel
theorem dX10_turn_4 : decode cX10_turn 4 = .ok (.invokevirtual 140, 3) := by decide +kernel
theorem dX10_turn_7 : decode cX10_turn 7 = .ok (.ifCond .ne 5, 3) := by decide +kernel
theorem dX10_turn_10 : decode cX10_turn 10 = .ok (.iconst 0, 1) := by decide +kernel
theorem dX10_turn_11 : decode cX10_turn 11 = .ok (.ireturn, 1) := by decide +kernel
theorem dX10_turn_12 : decode cX10_turn 12 = .ok (.aload_n 0, 1) := by decide +kernel
theorem dX10_turn_13 : decode cX10_turn 13 = .ok (.aload_n 0, 1) := by decide +kernel
theorem dX10_turn_14 : decode cX10_turn 14 = .ok (.getfield 26, 3) := by decide +kernel
theorem dX10_turn_17 : decode cX10_turn 17 = .ok (.iconst 3, 1) := by decide +kernel
theorem dX10_turn_18 : decode cX10_turn 18 = .ok (.iload_n 1, 1) := by decide +kernel
theorem dX10_turn_19 : decode cX10_turn 19 = .ok (.imul, 1) := by decide +kernel
theorem dX10_turn_20 : decode cX10_turn 20 = .ok (.iaload, 1) := by decide +kernel
theorem dX10_turn_21 : decode cX10_turn 21 = .ok (.iconst 1, 1) := by decide +kernel
theorem dX10_turn_22 : decode cX10_turn 22 = .ok (.isub, 1) := by decide +kernel
theorem dX10_turn_23 : decode cX10_turn 23 = .ok (.invokevirtual 106, 3) := by decide +kernel
theorem dX10_turn_26 : decode cX10_turn 26 = .ok (.iconst 3, 1) := by decide +kernel
theorem dX10_turn_27 : decode cX10_turn 27 = .ok (.if_icmp .lt 7, 3) := by decide +kernel
theorem dX10_turn_30 : decode cX10_turn 30 = .ok (.iconst 1, 1) := by decide +kernel
theorem dX10_turn_31 : decode cX10_turn 31 = .ok (.goto 4, 3) := by decide +kernel
theorem dX10_turn_34 : decode cX10_turn 34 = .ok (.iconst 0, 1) := by decide +kernel
theorem dX10_turn_35 : decode cX10_turn 35 = .ok (.istore_n 2, 1) := by decide +kernel
theorem dX10_turn_36 : decode cX10_turn 36 = .ok (.aload_n 0, 1) := by decide +kernel
theorem dX10_turn_37 : decode cX10_turn 37 = .ok (.getfield 20, 3) := by decide +kernel
theorem dX10_turn_40 : decode cX10_turn 40 = .ok (.iload_n 1, 1) := by decide +kernel
theorem dX10_turn_41 : decode cX10_turn 41 = .ok (.iaload, 1) := by decide +kernel
theorem dX10_turn_42 : decode cX10_turn 42 = .ok (.istore_n 3, 1) := by decide +kernel
theorem dX10_turn_43 : decode cX10_turn 43 = .ok (.iconst 0, 1) := by decide +kernel
theorem dX10_turn_44 : decode cX10_turn 44 = .ok (.istore 4, 2) := by decide +kernel
theorem dX10_turn_46 : decode cX10_turn 46 = .ok (.iload 4, 2) := by decide +kernel
theorem dX10_turn_48 : decode cX10_turn 48 = .ok (.aload_n 0, 1) := by decide +kernel
theorem dX10_turn_49 : decode cX10_turn 49 = .ok (.getfield 128, 3) := by decide +kernel
theorem dX10_turn_52 : decode cX10_turn 52 = .ok (.if_icmp .ge 107, 3) := by decide +kernel
theorem dX10_turn_55 : decode cX10_turn 55 = .ok (.aload_n 0, 1) := by decide +kernel
theorem dX10_turn_56 : decode cX10_turn 56 = .ok (.iload_n 1, 1) := by decide +kernel
theorem dX10_turn_57 : decode cX10_turn 57 = .ok (.iconst 0, 1) := by decide +kernel
theorem dX10_turn_58 : decode cX10_turn 58 = .ok (.iload 4, 2) := by decide +kernel
theorem dX10_turn_60 : decode cX10_turn 60 = .ok (.invokevirtual 143, 3) := by decide +kernel
theorem dX10_turn_63 : decode cX10_turn 63 = .ok (.ifCond .ne 5, 3) := by decide +kernel
theorem dX10_turn_66 : decode cX10_turn 66 = .ok (.iconst 0, 1) := by decide +kernel
theorem dX10_turn_67 : decode cX10_turn 67 = .ok (.ireturn, 1) := by decide +kernel
theorem dX10_turn_68 : decode cX10_turn 68 = .ok (.aload_n 0, 1) := by decide +kernel
theorem dX10_turn_69 : decode cX10_turn 69 = .ok (.iload_n 1, 1) := by decide +kernel
theorem dX10_turn_70 : decode cX10_turn 70 = .ok (.iconst 0, 1) := by decide +kernel
theorem dX10_turn_71 : decode cX10_turn 71 = .ok (.iload 4, 2) := by decide +kernel
theorem dX10_turn_73 : decode cX10_turn 73 = .ok (.invokevirtual 149, 3) := by decide +kernel
theorem dX10_turn_76 : decode cX10_turn 76 = .ok (.dstore 5, 2) := by decide +kernel
theorem dX10_turn_78 : decode cX10_turn 78 = .ok (.aload_n 0, 1) := by decide +kernel
theorem dX10_turn_79 : decode cX10_turn 79 = .ok (.iload_n 1, 1) := by decide +kernel
theorem dX10_turn_80 : decode cX10_turn 80 = .ok (.iconst 0, 1) := by decide +kernel
theorem dX10_turn_81 : decode cX10_turn 81 = .ok (.iload 4, 2) := by decide +kernel
theorem dX10_turn_83 : decode cX10_turn 83 = .ok (.invokevirtual 146, 3) := by decide +kernel
theorem dX10_turn_86 : decode cX10_turn 86 = .ok (.ifCond .eq 36, 3) := by decide +kernel
theorem dX10_turn_89 : decode cX10_turn 89 = .ok (.aload_n 0, 1) := by decide +kernel
theorem dX10_turn_90 : decode cX10_turn 90 = .ok (.dup, 1) := by decide +kernel
theorem dX10_turn_91 : decode cX10_turn 91 = .ok (.getfield 132, 3) := by decide +kernel
theorem dX10_turn_94 : decode cX10_turn 94 = .ok (.iload_n 3, 1) := by decide +kernel
theorem dX10_turn_95 : decode cX10_turn 95 = .ok (.iconst 3, 1) := by decide +kernel
theorem dX10_turn_96 : decode cX10_turn 96 = .ok (.if_icmp .lt 10, 3) := by decide +kernel
theorem dX10_turn_99 : decode cX10_turn 99 = .ok (.iconst 1, 1) := by decide +kernel
theorem dX10_turn_100 : decode cX10_turn 100 = .ok (.iload 4, 2) := by decide +kernel
theorem dX10_turn_102 : decode cX10_turn 102 = .ok (.ishl, 1) := by decide +kernel
theorem dX10_turn_103 : decode cX10_turn 103 = .ok (.goto 4, 3) := by decide +kernel
theorem dX10_turn_106 : decode cX10_turn 106 = .ok (.iconst 0, 1) := by decide +kernel
theorem dX10_turn_107 : decode cX10_turn 107 = .ok (.iadd, 1) := by decide +kernel
theorem dX10_turn_108 : decode cX10_turn 108 = .ok (.putfield 132, 3) := by decide +kernel
theorem dX10_turn_111 : decode cX10_turn 111 = .ok (.aload_n 0, 1) := by decide +kernel
theorem dX10_turn_112 : decode cX10_turn 112 = .ok (.getfield 62, 3) := by decide +kernel
theorem dX10_turn_115 : decode cX10_turn 115 = .ok (.iload 4, 2) := by decide +kernel
theorem dX10_turn_117 : decode cX10_turn 117 = .ok (.dconst 0, 1) := by decide +kernel
theorem dX10_turn_118 : decode cX10_turn 118 = .ok (.dastore, 1) := by decide +kernel
theorem dX10_turn_119 : decode cX10_turn 119 = .ok (.goto 34, 3) := by decide +kernel
theorem dX10_turn_122 : decode cX10_turn 122 = .ok (.aload_n 0, 1) := by decide +kernel
theorem dX10_turn_123 : decode cX10_turn 123 = .ok (.getfield 62, 3) := by decide +kernel
theorem dX10_turn_126 : decode cX10_turn 126 = .ok (.iload 4, 2) := by decide +kernel
theorem dX10_turn_128 : decode cX10_turn 128 = .ok (.iload_n 2, 1) := by decide +kernel
theorem dX10_turn_129 : decode cX10_turn 129 = .ok (.ifCond .eq 14, 3) := by decide +kernel
theorem dX10_turn_132 : decode cX10_turn 132 = .ok (.aload_n 0, 1) := by decide +kernel
theorem dX10_turn_133 : decode cX10_turn 133 = .ok (.iload_n 1, 1) := by decide +kernel
theorem dX10_turn_134 : decode cX10_turn 134 = .ok (.dload 5, 2) := by decide +kernel
theorem dX10_turn_136 : decode cX10_turn 136 = .ok (.iload_n 3, 1) := by decide +kernel
theorem dX10_turn_137 : decode cX10_turn 137 = .ok (.invokevirtual 167, 3) := by decide +kernel
theorem dX10_turn_140 : decode cX10_turn 140 = .ok (.goto 12, 3) := by decide +kernel
theorem dX10_turn_143 : decode cX10_turn 143 = .ok (.aload_n 0, 1) := by decide +kernel
theorem dX10_turn_144 : decode cX10_turn 144 = .ok (.iload_n 1, 1) := by decide +kernel
theorem dX10_turn_145 : decode cX10_turn 145 = .ok (.dload 5, 2) := by decide +kernel
theorem dX10_turn_147 : decode cX10_turn 147 = .ok (.d2l, 1) := by decide +kernel
theorem dX10_turn_148 : decode cX10_turn 148 = .ok (.iload_n 3, 1) := by decide +kernel
theorem dX10_turn_149 : decode cX10_turn 149 = .ok (.invokevirtual 135, 3) := by decide +kernel
theorem dX10_turn_152 : decode cX10_turn 152 = .ok (.dastore, 1) := by decide +kernel
theorem dX10_turn_153 : decode cX10_turn 153 = .ok (.iinc 4 1, 3) := by decide +kernel
theorem dX10_turn_156 : decode cX10_turn 156 = .ok (.goto (-110), 3) := by decide +kernel
theorem dX10_turn_159 : decode cX10_turn 159 = .ok (.iconst 1, 1) := by decide +kernel
theorem dX10_turn_160 : decode cX10_turn 160 = .ok (.ireturn, 1) := by decide +kernel
theorem dX10_mean_0 : decode cX10_mean 0 = .ok (.aload_n 0, 1) := by decide +kernel
theorem dX10_mean_1 : decode cX10_mean 1 = .ok (.iload_n 1, 1) := by decide +kernel
theorem dX10_mean_2 : decode cX10_mean 2 = .ok (.iconst 0, 1) := by decide +kernel
theorem dX10_mean_3 : decode cX10_mean 3 = .ok (.iconst 2, 1) := by decide +kernel
theorem dX10_mean_4 : decode cX10_mean 4 = .ok (.invokevirtual 140, 3) := by decide +kernel
theorem dX10_mean_7 : decode cX10_mean 7 = .ok (.ifCond .ne 5, 3) := by decide +kernel
theorem dX10_mean_10 : decode cX10_mean 10 = .ok (.iconst 0, 1) := by decide +kernel
theorem dX10_mean_11 : decode cX10_mean 11 = .ok (.ireturn, 1) := by decide +kernel
theorem dX10_mean_12 : decode cX10_mean 12 = .ok (.lconst 0, 1) := by decide +kernel
theorem dX10_mean_13 : decode cX10_mean 13 = .ok (.lstore_n 2, 1) := by decide +kernel
theorem dX10_mean_14 : decode cX10_mean 14 = .ok (.iconst 0, 1) := by decide +kernel
theorem dX10_mean_15 : decode cX10_mean 15 = .ok (.istore 4, 2) := by decide +kernel
theorem dX10_mean_17 : decode cX10_mean 17 = .ok (.iload 4, 2) := by decide +kernel
theorem dX10_mean_19 : decode cX10_mean 19 = .ok (.aload_n 0, 1) := by decide +kernel
theorem dX10_mean_20 : decode cX10_mean 20 = .ok (.getfield 128, 3) := by decide +kernel
theorem dX10_mean_23 : decode cX10_mean 23 = .ok (.if_icmp .ge 82, 3) := by decide +kernel
theorem dX10_mean_26 : decode cX10_mean 26 = .ok (.aload_n 0, 1) := by decide +kernel
theorem dX10_mean_27 : decode cX10_mean 27 = .ok (.iload_n 1, 1) := by decide +kernel
theorem dX10_mean_28 : decode cX10_mean 28 = .ok (.iconst 0, 1) := by decide +kernel
theorem dX10_mean_29 : decode cX10_mean 29 = .ok (.iload 4, 2) := by decide +kernel
theorem dX10_mean_31 : decode cX10_mean 31 = .ok (.invokevirtual 143, 3) := by decide +kernel
theorem dX10_mean_34 : decode cX10_mean 34 = .ok (.ifCond .ne 5, 3) := by decide +kernel
theorem dX10_mean_37 : decode cX10_mean 37 = .ok (.iconst 0, 1) := by decide +kernel
theorem dX10_mean_38 : decode cX10_mean 38 = .ok (.ireturn, 1) := by decide +kernel
theorem dX10_mean_39 : decode cX10_mean 39 = .ok (.lload_n 2, 1) := by decide +kernel
theorem dX10_mean_40 : decode cX10_mean 40 = .ok (.aload_n 0, 1) := by decide +kernel
theorem dX10_mean_41 : decode cX10_mean 41 = .ok (.iload_n 1, 1) := by decide +kernel
theorem dX10_mean_42 : decode cX10_mean 42 = .ok (.iconst 0, 1) := by decide +kernel
theorem dX10_mean_43 : decode cX10_mean 43 = .ok (.iload 4, 2) := by decide +kernel
theorem dX10_mean_45 : decode cX10_mean 45 = .ok (.invokevirtual 149, 3) := by decide +kernel
theorem dX10_mean_48 : decode cX10_mean 48 = .ok (.d2l, 1) := by decide +kernel
theorem dX10_mean_49 : decode cX10_mean 49 = .ok (.ladd, 1) := by decide +kernel
theorem dX10_mean_50 : decode cX10_mean 50 = .ok (.lstore_n 2, 1) := by decide +kernel
theorem dX10_mean_51 : decode cX10_mean 51 = .ok (.iload 4, 2) := by decide +kernel
theorem dX10_mean_53 : decode cX10_mean 53 = .ok (.aload_n 0, 1) := by decide +kernel
theorem dX10_mean_54 : decode cX10_mean 54 = .ok (.getfield 23, 3) := by decide +kernel
theorem dX10_mean_57 : decode cX10_mean 57 = .ok (.iconst 3, 1) := by decide +kernel
theorem dX10_mean_58 : decode cX10_mean 58 = .ok (.iload_n 1, 1) := by decide +kernel
theorem dX10_mean_59 : decode cX10_mean 59 = .ok (.imul, 1) := by decide +kernel
theorem dX10_mean_60 : decode cX10_mean 60 = .ok (.iaload, 1) := by decide +kernel
theorem dX10_mean_61 : decode cX10_mean 61 = .ok (.iadd, 1) := by decide +kernel
theorem dX10_mean_62 : decode cX10_mean 62 = .ok (.i2l, 1) := by decide +kernel
theorem dX10_mean_63 : decode cX10_mean 63 = .ok (.lstore 5, 2) := by decide +kernel
theorem dX10_mean_65 : decode cX10_mean 65 = .ok (.lload 5, 2) := by decide +kernel
theorem dX10_mean_67 : decode cX10_mean 67 = .ok (.lconst 0, 1) := by decide +kernel
theorem dX10_mean_68 : decode cX10_mean 68 = .ok (.lcmp, 1) := by decide +kernel
theorem dX10_mean_69 : decode cX10_mean 69 = .ok (.ifCond .ne 12, 3) := by decide +kernel
theorem dX10_mean_72 : decode cX10_mean 72 = .ok (.aload_n 0, 1) := by decide +kernel
theorem dX10_mean_73 : decode cX10_mean 73 = .ok (.iconst 5, 1) := by decide +kernel
theorem dX10_mean_74 : decode cX10_mean 74 = .ok (.iload_n 1, 1) := by decide +kernel
theorem dX10_mean_75 : decode cX10_mean 75 = .ok (.iload 4, 2) := by decide +kernel
theorem dX10_mean_77 : decode cX10_mean 77 = .ok (.invokevirtual 103, 3) := by decide +kernel
theorem dX10_mean_80 : decode cX10_mean 80 = .ok (.ireturn, 1) := by decide +kernel
theorem dX10_mean_81 : decode cX10_mean 81 = .ok (.aload_n 0, 1) := by decide +kernel
theorem dX10_mean_82 : decode cX10_mean 82 = .ok (.getfield 62, 3) := by decide +kernel
theorem dX10_mean_85 : decode cX10_mean 85 = .ok (.iload 4, 2) := by decide +kernel
theorem dX10_mean_87 : decode cX10_mean 87 = .ok (.aload_n 0, 1) := by decide +kernel
theorem dX10_mean_88 : decode cX10_mean 88 = .ok (.iload_n 1, 1) := by decide +kernel
theorem dX10_mean_89 : decode cX10_mean 89 = .ok (.lload_n 2, 1) := by decide +kernel
theorem dX10_mean_90 : decode cX10_mean 90 = .ok (.lload 5, 2) := by decide +kernel
theorem dX10_mean_92 : decode cX10_mean 92 = .ok (.ldiv, 1) := by decide +kernel
theorem dX10_mean_93 : decode cX10_mean 93 = .ok (.bipush 32, 2) := by decide +kernel
theorem dX10_mean_95 : decode cX10_mean 95 = .ok (.invokevirtual 118, 3) := by decide +kernel
theorem dX10_mean_98 : decode cX10_mean 98 = .ok (.dastore, 1) := by decide +kernel
theorem dX10_mean_99 : decode cX10_mean 99 = .ok (.iinc 4 1, 3) := by decide +kernel
theorem dX10_mean_102 : decode cX10_mean 102 = .ok (.goto (-85), 3) := by decide +kernel
theorem dX10_mean_105 : decode cX10_mean 105 = .ok (.iconst 1, 1) := by decide +kernel
theorem dX10_mean_106 : decode cX10_mean 106 = .ok (.ireturn, 1) := by decide +kernel
theorem dX10_give_0 : decode cX10_give 0 = .ok (.aload_n 0, 1) := by decide +kernel
theorem dX10_give_1 : decode cX10_give 1 = .ok (.iload_n 1, 1) := by decide +kernel
theorem dX10_give_2 : decode cX10_give 2 = .ok (.iconst 0, 1) := by decide +kernel
theorem dX10_give_3 : decode cX10_give 3 = .ok (.invokevirtual 91, 3) := by decide +kernel
theorem dX10_give_6 : decode cX10_give 6 = .ok (.istore_n 3, 1) := by decide +kernel
theorem dX10_give_7 : decode cX10_give 7 = .ok (.aload_n 0, 1) := by decide +kernel
theorem dX10_give_8 : decode cX10_give 8 = .ok (.getfield 13, 3) := by decide +kernel
theorem dX10_give_11 : decode cX10_give 11 = .ok (.iload_n 3, 1) := by decide +kernel
theorem dX10_give_12 : decode cX10_give 12 = .ok (.iload_n 2, 1) := by decide +kernel
theorem dX10_give_13 : decode cX10_give 13 = .ok (.iconst 1, 1) := by decide +kernel
theorem dX10_give_14 : decode cX10_give 14 = .ok (.iadd, 1) := by decide +kernel
theorem dX10_give_15 : decode cX10_give 15 = .ok (.iastore, 1) := by decide +kernel
theorem dX10_give_16 : decode cX10_give 16 = .ok (.aload_n 0, 1) := by decide +kernel
theorem dX10_give_17 : decode cX10_give 17 = .ok (.getfield 13, 3) := by decide +kernel
theorem dX10_give_20 : decode cX10_give 20 = .ok (.iload_n 3, 1) := by decide +kernel
theorem dX10_give_21 : decode cX10_give 21 = .ok (.iconst 1, 1) := by decide +kernel
theorem dX10_give_22 : decode cX10_give 22 = .ok (.iadd, 1) := by decide +kernel
theorem dX10_give_23 : decode cX10_give 23 = .ok (.aload_n 0, 1) := by decide +kernel
theorem dX10_give_24 : decode cX10_give 24 = .ok (.getfield 128, 3) := by decide +kernel
theorem dX10_give_27 : decode cX10_give 27 = .ok (.iastore, 1) := by decide +kernel
theorem dX10_give_28 : decode cX10_give 28 = .ok (.aload_n 0, 1) := by decide +kernel
theorem dX10_give_29 : decode cX10_give 29 = .ok (.getfield 13, 3) := by decide +kernel
theorem dX10_give_32 : decode cX10_give 32 = .ok (.iload_n 3, 1) := by decide +kernel
theorem dX10_give_33 : decode cX10_give 33 = .ok (.iconst 2, 1) := by decide +kernel
theorem dX10_give_34 : decode cX10_give 34 = .ok (.iadd, 1) := by decide +kernel
theorem dX10_give_35 : decode cX10_give 35 = .ok (.aload_n 0, 1) := by decide +kernel
theorem dX10_give_36 : decode cX10_give 36 = .ok (.getfield 132, 3) := by decide +kernel
theorem dX10_give_39 : decode cX10_give 39 = .ok (.iastore, 1) := by decide +kernel
theorem dX10_give_40 : decode cX10_give 40 = .ok (.iconst 0, 1) := by decide +kernel
theorem dX10_give_41 : decode cX10_give 41 = .ok (.istore 4, 2) := by decide +kernel
theorem dX10_give_43 : decode cX10_give 43 = .ok (.iload 4, 2) := by decide +kernel
theorem dX10_give_45 : decode cX10_give 45 = .ok (.bipush 16, 2) := by decide +kernel
theorem dX10_give_47 : decode cX10_give 47 = .ok (.if_icmp .ge 41, 3) := by decide +kernel
theorem dX10_give_50 : decode cX10_give 50 = .ok (.aload_n 0, 1) := by decide +kernel
theorem dX10_give_51 : decode cX10_give 51 = .ok (.getfield 7, 3) := by decide +kernel
theorem dX10_give_54 : decode cX10_give 54 = .ok (.bipush 82, 2) := by decide +kernel
theorem dX10_give_56 : decode cX10_give 56 = .ok (.iload_n 1, 1) := by decide +kernel
theorem dX10_give_57 : decode cX10_give 57 = .ok (.imul, 1) := by decide +kernel
theorem dX10_give_58 : decode cX10_give 58 = .ok (.iload 4, 2) := by decide +kernel
theorem dX10_give_60 : decode cX10_give 60 = .ok (.iadd, 1) := by decide +kernel
theorem dX10_give_61 : decode cX10_give 61 = .ok (.iload 4, 2) := by decide +kernel
theorem dX10_give_63 : decode cX10_give 63 = .ok (.aload_n 0, 1) := by decide +kernel
theorem dX10_give_64 : decode cX10_give 64 = .ok (.getfield 128, 3) := by decide +kernel
theorem dX10_give_67 : decode cX10_give 67 = .ok (.if_icmp .ge 13, 3) := by decide +kernel
theorem dX10_give_70 : decode cX10_give 70 = .ok (.aload_n 0, 1) := by decide +kernel
theorem dX10_give_71 : decode cX10_give 71 = .ok (.getfield 62, 3) := by decide +kernel
theorem dX10_give_74 : decode cX10_give 74 = .ok (.iload 4, 2) := by decide +kernel
theorem dX10_give_76 : decode cX10_give 76 = .ok (.daload, 1) := by decide +kernel
theorem dX10_give_77 : decode cX10_give 77 = .ok (.goto 4, 3) := by decide +kernel
theorem dX10_give_80 : decode cX10_give 80 = .ok (.dconst 0, 1) := by decide +kernel
theorem dX10_give_81 : decode cX10_give 81 = .ok (.dastore, 1) := by decide +kernel
theorem dX10_give_82 : decode cX10_give 82 = .ok (.iinc 4 1, 3) := by decide +kernel
theorem dX10_give_85 : decode cX10_give 85 = .ok (.goto (-42), 3) := by decide +kernel
theorem dX10_give_88 : decode cX10_give 88 = .ok (.return_, 1) := by decide +kernel
theorem dX10_doesSwitch_0 : decode cX10_doesSwitch 0 = .ok (.aload_n 0, 1) := by decide +kernel
theorem dX10_doesSwitch_1 : decode cX10_doesSwitch 1 = .ok (.iload_n 1, 1) := by decide +kernel
theorem dX10_doesSwitch_2 : decode cX10_doesSwitch 2 = .ok (.iconst 0, 1) := by decide +kernel
theorem dX10_doesSwitch_3 : decode cX10_doesSwitch 3 = .ok (.iconst (-1), 1) := by decide +kernel
theorem dX10_doesSwitch_4 : decode cX10_doesSwitch 4 = .ok (.invokevirtual 140, 3) := by decide +kernel
theorem dX10_doesSwitch_7 : decode cX10_doesSwitch 7 = .ok (.ifCond .eq 28, 3) := by decide +kernel
theorem dX10_doesSwitch_10 : decode cX10_doesSwitch 10 = .ok (.aload_n 0, 1) := by decide +kernel
theorem dX10_doesSwitch_11 : decode cX10_doesSwitch 11 = .ok (.iload_n 1, 1) := by decide +kernel
theorem dX10_doesSwitch_12 : decode cX10_doesSwitch 12 = .ok (.iconst 1, 1) := by decide +kernel
theorem dX10_doesSwitch_13 : decode cX10_doesSwitch 13 = .ok (.iconst 0, 1) := by decide +kernel
theorem dX10_doesSwitch_14 : decode cX10_doesSwitch 14 = .ok (.invokevirtual 140, 3) := by decide +kernel
theorem dX10_doesSwitch_17 : decode cX10_doesSwitch 17 = .ok (.ifCond .eq 18, 3) := by decide +kernel
theorem dX10_doesSwitch_20 : decode cX10_doesSwitch 20 = .ok (.aload_n 0, 1) := by decide +kernel
theorem dX10_doesSwitch_21 : decode cX10_doesSwitch 21 = .ok (.iload_n 1, 1) := by decide +kernel
theorem dX10_doesSwitch_22 : decode cX10_doesSwitch 22 = .ok (.iconst 1, 1) := by decide +kernel
theorem dX10_doesSwitch_23 : decode cX10_doesSwitch 23 = .ok (.aload_n 0, 1) := by decide +kernel
theorem dX10_doesSwitch_24 : decode cX10_doesSwitch 24 = .ok (.getfield 128, 3) := by decide +kernel
theorem dX10_doesSwitch_27 : decode cX10_doesSwitch 27 = .ok (.iconst 1, 1) := by decide +kernel
theorem dX10_doesSwitch_28 : decode cX10_doesSwitch 28 = .ok (.isub, 1) := by decide +kernel
theorem dX10_doesSwitch_29 : decode cX10_doesSwitch 29 = .ok (.invokevirtual 143, 3) := by decide +kernel
theorem dX10_doesSwitch_32 : decode cX10_doesSwitch 32 = .ok (.ifCond .ne 5, 3) := by decide +kernel
theorem dX10_doesSwitch_35 : decode cX10_doesSwitch 35 = .ok (.iconst 0, 1) := by decide +kernel
theorem dX10_doesSwitch_36 : decode cX10_doesSwitch 36 = .ok (.ireturn, 1) := by decide +kernel
theorem dX10_doesSwitch_37 : decode cX10_doesSwitch 37 = .ok (.aload_n 0, 1) := by decide +kernel
theorem dX10_doesSwitch_38 : decode cX10_doesSwitch 38 = .ok (.iload_n 1, 1) := by decide +kernel
theorem dX10_doesSwitch_39 : decode cX10_doesSwitch 39 = .ok (.iconst 1, 1) := by decide +kernel
theorem dX10_doesSwitch_40 : decode cX10_doesSwitch 40 = .ok (.aload_n 0, 1) := by decide +kernel
theorem dX10_doesSwitch_41 : decode cX10_doesSwitch 41 = .ok (.getfield 128, 3) := by decide +kernel
theorem dX10_doesSwitch_44 : decode cX10_doesSwitch 44 = .ok (.iconst 1, 1) := by decide +kernel
theorem dX10_doesSwitch_45 : decode cX10_doesSwitch 45 = .ok (.isub, 1) := by decide +kernel
theorem dX10_doesSwitch_46 : decode cX10_doesSwitch 46 = .ok (.invokevirtual 149, 3) := by decide +kernel
theorem dX10_doesSwitch_49 : decode cX10_doesSwitch 49 = .ok (.dconst 1, 1) := by decide +kernel
theorem dX10_doesSwitch_50 : decode cX10_doesSwitch 50 = .ok (.dcmp .l, 1) := by decide +kernel
theorem dX10_doesSwitch_51 : decode cX10_doesSwitch 51 = .ok (.ifCond .ne 23, 3) := by decide +kernel
theorem dX10_doesSwitch_54 : decode cX10_doesSwitch 54 = .ok (.aload_n 0, 1) := by decide +kernel
theorem dX10_doesSwitch_55 : decode cX10_doesSwitch 55 = .ok (.aload_n 0, 1) := by decide +kernel
theorem dX10_doesSwitch_56 : decode cX10_doesSwitch 56 = .ok (.getfield 26, 3) := by decide +kernel
theorem dX10_doesSwitch_59 : decode cX10_doesSwitch 59 = .ok (.iconst 3, 1) := by decide +kernel
theorem dX10_doesSwitch_60 : decode cX10_doesSwitch 60 = .ok (.iload_n 1, 1) := by decide +kernel
theorem dX10_doesSwitch_61 : decode cX10_doesSwitch 61 = .ok (.imul, 1) := by decide +kernel
theorem dX10_doesSwitch_62 : decode cX10_doesSwitch 62 = .ok (.iaload, 1) := by decide +kernel
theorem dX10_doesSwitch_63 : decode cX10_doesSwitch 63 = .ok (.iconst 1, 1) := by decide +kernel
theorem dX10_doesSwitch_64 : decode cX10_doesSwitch 64 = .ok (.isub, 1) := by decide +kernel
theorem dX10_doesSwitch_65 : decode cX10_doesSwitch 65 = .ok (.iconst 0, 1) := by decide +kernel
theorem dX10_doesSwitch_66 : decode cX10_doesSwitch 66 = .ok (.iload_n 1, 1) := by decide +kernel
theorem dX10_doesSwitch_67 : decode cX10_doesSwitch 67 = .ok (.iconst 0, 1) := by decide +kernel
theorem dX10_doesSwitch_68 : decode cX10_doesSwitch 68 = .ok (.invokevirtual 171, 3) := by decide +kernel
theorem dX10_doesSwitch_71 : decode cX10_doesSwitch 71 = .ok (.goto 9, 3) := by decide +kernel
theorem dX10_doesSwitch_74 : decode cX10_doesSwitch 74 = .ok (.aload_n 0, 1) := by decide +kernel
theorem dX10_doesSwitch_75 : decode cX10_doesSwitch 75 = .ok (.iload_n 1, 1) := by decide +kernel
theorem dX10_doesSwitch_76 : decode cX10_doesSwitch 76 = .ok (.iconst 0, 1) := by decide +kernel
theorem dX10_doesSwitch_77 : decode cX10_doesSwitch 77 = .ok (.invokevirtual 175, 3) := by decide +kernel
theorem dX10_doesSwitch_80 : decode cX10_doesSwitch 80 = .ok (.iconst 1, 1) := by decide +kernel
theorem dX10_doesSwitch_81 : decode cX10_doesSwitch 81 = .ok (.ireturn, 1) := by decide +kernel
theorem dX10_delay_0 : decode cX10_delay 0 = .ok (.aload_n 0, 1) := by decide +kernel
theorem dX10_delay_1 : decode cX10_delay 1 = .ok (.getfield 23, 3) := by decide +kernel
theorem dX10_delay_4 : decode cX10_delay 4 = .ok (.iconst 3, 1) := by decide +kernel
theorem dX10_delay_5 : decode cX10_delay 5 = .ok (.iload_n 1, 1) := by decide +kernel
theorem dX10_delay_6 : decode cX10_delay 6 = .ok (.imul, 1) := by decide +kernel
theorem dX10_delay_7 : decode cX10_delay 7 = .ok (.iaload, 1) := by decide +kernel
theorem dX10_delay_8 : decode cX10_delay 8 = .ok (.iconst 1, 1) := by decide +kernel
theorem dX10_delay_9 : decode cX10_delay 9 = .ok (.if_icmp .ge 7, 3) := by decide +kernel
theorem dX10_delay_12 : decode cX10_delay 12 = .ok (.iconst 1, 1) := by decide +kernel
theorem dX10_delay_13 : decode cX10_delay 13 = .ok (.goto 27, 3) := by decide +kernel
theorem dX10_delay_16 : decode cX10_delay 16 = .ok (.aload_n 0, 1) := by decide +kernel
theorem dX10_delay_17 : decode cX10_delay 17 = .ok (.getfield 23, 3) := by decide +kernel
theorem dX10_delay_20 : decode cX10_delay 20 = .ok (.iconst 3, 1) := by decide +kernel
theorem dX10_delay_21 : decode cX10_delay 21 = .ok (.iload_n 1, 1) := by decide +kernel
theorem dX10_delay_22 : decode cX10_delay 22 = .ok (.imul, 1) := by decide +kernel
theorem dX10_delay_23 : decode cX10_delay 23 = .ok (.iaload, 1) := by decide +kernel
theorem dX10_delay_24 : decode cX10_delay 24 = .ok (.iconst 4, 1) := by decide +kernel
theorem dX10_delay_25 : decode cX10_delay 25 = .ok (.if_icmp .le 7, 3) := by decide +kernel
theorem dX10_delay_28 : decode cX10_delay 28 = .ok (.iconst 4, 1) := by decide +kernel
theorem dX10_delay_29 : decode cX10_delay 29 = .ok (.goto 11, 3) := by decide +kernel
theorem dX10_delay_32 : decode cX10_delay 32 = .ok (.aload_n 0, 1) := by decide +kernel
theorem dX10_delay_33 : decode cX10_delay 33 = .ok (.getfield 23, 3) := by decide +kernel
theorem dX10_delay_36 : decode cX10_delay 36 = .ok (.iconst 3, 1) := by decide +kernel
theorem dX10_delay_37 : decode cX10_delay 37 = .ok (.iload_n 1, 1) := by decide +kernel
theorem dX10_delay_38 : decode cX10_delay 38 = .ok (.imul, 1) := by decide +kernel
theorem dX10_delay_39 : decode cX10_delay 39 = .ok (.iaload, 1) := by decide +kernel
theorem dX10_delay_40 : decode cX10_delay 40 = .ok (.istore_n 2, 1) := by decide +kernel
theorem dX10_delay_41 : decode cX10_delay 41 = .ok (.aload_n 0, 1) := by decide +kernel
theorem dX10_delay_42 : decode cX10_delay 42 = .ok (.iload_n 1, 1) := by decide +kernel
theorem dX10_delay_43 : decode cX10_delay 43 = .ok (.iload_n 2, 1) := by decide +kernel
theorem dX10_delay_44 : decode cX10_delay 44 = .ok (.iload_n 1, 1) := by decide +kernel
theorem dX10_delay_45 : decode cX10_delay 45 = .ok (.iconst 0, 1) := by decide +kernel
theorem dX10_delay_46 : decode cX10_delay 46 = .ok (.invokevirtual 171, 3) := by decide +kernel
theorem dX10_delay_49 : decode cX10_delay 49 = .ok (.return_, 1) := by decide +kernel
theorem dX10_acts_0 : decode cX10_acts 0 = .ok (.aload_n 0, 1) := by decide +kernel
theorem dX10_acts_1 : decode cX10_acts 1 = .ok (.iconst 0, 1) := by decide +kernel
theorem dX10_acts_2 : decode cX10_acts 2 = .ok (.putfield 132, 3) := by decide +kernel
theorem dX10_acts_5 : decode cX10_acts 5 = .ok (.iconst 1, 1) := by decide +kernel
theorem dX10_acts_6 : decode cX10_acts 6 = .ok (.istore_n 2, 1) := by decide +kernel
theorem dX10_acts_7 : decode cX10_acts 7 = .ok (.aload_n 0, 1) := by decide +kernel
theorem dX10_acts_8 : decode cX10_acts 8 = .ok (.getfield 17, 3) := by decide +kernel
theorem dX10_acts_11 : decode cX10_acts 11 = .ok (.iload_n 1, 1) := by decide +kernel
theorem dX10_acts_12 : decode cX10_acts 12 = .ok (.iaload, 1) := by decide +kernel
theorem dX10_acts_13 : decode cX10_acts 13 = .ok (.tableswitch 231 0 10 #[59, 231, 231, 231, 231, 83, 152, 160, 179, 203, 212], 59) := by decide +kernel
theorem dX10_acts_72 : decode cX10_acts 72 = .ok (.aload_n 0, 1) := by decide +kernel
theorem dX10_acts_73 : decode cX10_acts 73 = .ok (.iload_n 1, 1) := by decide +kernel
theorem dX10_acts_74 : decode cX10_acts 74 = .ok (.invokevirtual 179, 3) := by decide +kernel
theorem dX10_acts_77 : decode cX10_acts 77 = .ok (.istore_n 2, 1) := by decide +kernel
theorem dX10_acts_78 : decode cX10_acts 78 = .ok (.iload_n 2, 1) := by decide +kernel
theorem dX10_acts_79 : decode cX10_acts 79 = .ok (.ifCond .eq 181, 3) := by decide +kernel
theorem dX10_acts_82 : decode cX10_acts 82 = .ok (.aload_n 0, 1) := by decide +kernel
theorem dX10_acts_83 : decode cX10_acts 83 = .ok (.iload_n 1, 1) := by decide +kernel
theorem dX10_acts_84 : decode cX10_acts 84 = .ok (.aload_n 0, 1) := by decide +kernel
theorem dX10_acts_85 : decode cX10_acts 85 = .ok (.getfield 20, 3) := by decide +kernel
theorem dX10_acts_88 : decode cX10_acts 88 = .ok (.iload_n 1, 1) := by decide +kernel
theorem dX10_acts_89 : decode cX10_acts 89 = .ok (.iaload, 1) := by decide +kernel
theorem dX10_acts_90 : decode cX10_acts 90 = .ok (.invokevirtual 182, 3) := by decide +kernel
theorem dX10_acts_93 : decode cX10_acts 93 = .ok (.goto 167, 3) := by decide +kernel
theorem dX10_acts_96 : decode cX10_acts 96 = .ok (.aload_n 0, 1) := by decide +kernel
theorem dX10_acts_97 : decode cX10_acts 97 = .ok (.iload_n 1, 1) := by decide +kernel
theorem dX10_acts_98 : decode cX10_acts 98 = .ok (.iconst 0, 1) := by decide +kernel
theorem dX10_acts_99 : decode cX10_acts 99 = .ok (.invokevirtual 164, 3) := by decide +kernel
theorem dX10_acts_102 : decode cX10_acts 102 = .ok (.ifCond .ne 21, 3) := by decide +kernel
theorem dX10_acts_105 : decode cX10_acts 105 = .ok (.aload_n 0, 1) := by decide +kernel
theorem dX10_acts_106 : decode cX10_acts 106 = .ok (.iload_n 1, 1) := by decide +kernel
theorem dX10_acts_107 : decode cX10_acts 107 = .ok (.iconst 1, 1) := by decide +kernel
theorem dX10_acts_108 : decode cX10_acts 108 = .ok (.invokevirtual 164, 3) := by decide +kernel
theorem dX10_acts_111 : decode cX10_acts 111 = .ok (.ifCond .ne 12, 3) := by decide +kernel
theorem dX10_acts_114 : decode cX10_acts 114 = .ok (.aload_n 0, 1) := by decide +kernel
theorem dX10_acts_115 : decode cX10_acts 115 = .ok (.iload_n 1, 1) := by decide +kernel
theorem dX10_acts_116 : decode cX10_acts 116 = .ok (.iconst 2, 1) := by decide +kernel
theorem dX10_acts_117 : decode cX10_acts 117 = .ok (.invokevirtual 164, 3) := by decide +kernel
theorem dX10_acts_120 : decode cX10_acts 120 = .ok (.ifCond .eq 7, 3) := by decide +kernel
theorem dX10_acts_123 : decode cX10_acts 123 = .ok (.iconst 1, 1) := by decide +kernel
theorem dX10_acts_124 : decode cX10_acts 124 = .ok (.goto 4, 3) := by decide +kernel
theorem dX10_acts_127 : decode cX10_acts 127 = .ok (.iconst 0, 1) := by decide +kernel
theorem dX10_acts_128 : decode cX10_acts 128 = .ok (.istore_n 3, 1) := by decide +kernel
theorem dX10_acts_129 : decode cX10_acts 129 = .ok (.aload_n 0, 1) := by decide +kernel
theorem dX10_acts_130 : decode cX10_acts 130 = .ok (.iload_n 1, 1) := by decide +kernel
theorem dX10_acts_131 : decode cX10_acts 131 = .ok (.invokevirtual 185, 3) := by decide +kernel
theorem dX10_acts_134 : decode cX10_acts 134 = .ok (.istore_n 2, 1) := by decide +kernel
theorem dX10_acts_135 : decode cX10_acts 135 = .ok (.iload_n 2, 1) := by decide +kernel
theorem dX10_acts_136 : decode cX10_acts 136 = .ok (.ifCond .eq 16, 3) := by decide +kernel
theorem dX10_acts_139 : decode cX10_acts 139 = .ok (.iload_n 3, 1) := by decide +kernel
theorem dX10_acts_140 : decode cX10_acts 140 = .ok (.ifCond .eq 12, 3) := by decide +kernel
theorem dX10_acts_143 : decode cX10_acts 143 = .ok (.aload_n 0, 1) := by decide +kernel
theorem dX10_acts_144 : decode cX10_acts 144 = .ok (.iload_n 1, 1) := by decide +kernel
theorem dX10_acts_145 : decode cX10_acts 145 = .ok (.iconst 2, 1) := by decide +kernel
theorem dX10_acts_146 : decode cX10_acts 146 = .ok (.invokevirtual 182, 3) := by decide +kernel
theorem dX10_acts_149 : decode cX10_acts 149 = .ok (.goto 111, 3) := by decide +kernel
theorem dX10_acts_152 : decode cX10_acts 152 = .ok (.iload_n 2, 1) := by decide +kernel
theorem dX10_acts_153 : decode cX10_acts 153 = .ok (.ifCond .eq 107, 3) := by decide +kernel
theorem dX10_acts_156 : decode cX10_acts 156 = .ok (.aload_n 0, 1) := by decide +kernel
theorem dX10_acts_157 : decode cX10_acts 157 = .ok (.iload_n 1, 1) := by decide +kernel
theorem dX10_acts_158 : decode cX10_acts 158 = .ok (.iconst 0, 1) := by decide +kernel
theorem dX10_acts_159 : decode cX10_acts 159 = .ok (.invokevirtual 175, 3) := by decide +kernel
theorem dX10_acts_162 : decode cX10_acts 162 = .ok (.goto 98, 3) := by decide +kernel
theorem dX10_acts_165 : decode cX10_acts 165 = .ok (.aload_n 0, 1) := by decide +kernel
theorem dX10_acts_166 : decode cX10_acts 166 = .ok (.iload_n 1, 1) := by decide +kernel
theorem dX10_acts_167 : decode cX10_acts 167 = .ok (.invokevirtual 188, 3) := by decide +kernel
theorem dX10_acts_170 : decode cX10_acts 170 = .ok (.goto 90, 3) := by decide +kernel
theorem dX10_acts_173 : decode cX10_acts 173 = .ok (.aload_n 0, 1) := by decide +kernel
theorem dX10_acts_174 : decode cX10_acts 174 = .ok (.iload_n 1, 1) := by decide +kernel
theorem dX10_acts_175 : decode cX10_acts 175 = .ok (.invokevirtual 192, 3) := by decide +kernel
theorem dX10_acts_178 : decode cX10_acts 178 = .ok (.istore_n 2, 1) := by decide +kernel
theorem dX10_acts_179 : decode cX10_acts 179 = .ok (.iload_n 2, 1) := by decide +kernel
theorem dX10_acts_180 : decode cX10_acts 180 = .ok (.ifCond .eq 80, 3) := by decide +kernel
theorem dX10_acts_183 : decode cX10_acts 183 = .ok (.aload_n 0, 1) := by decide +kernel
theorem dX10_acts_184 : decode cX10_acts 184 = .ok (.iload_n 1, 1) := by decide +kernel
theorem dX10_acts_185 : decode cX10_acts 185 = .ok (.iconst 0, 1) := by decide +kernel
theorem dX10_acts_186 : decode cX10_acts 186 = .ok (.invokevirtual 182, 3) := by decide +kernel
theorem dX10_acts_189 : decode cX10_acts 189 = .ok (.goto 71, 3) := by decide +kernel
theorem dX10_acts_192 : decode cX10_acts 192 = .ok (.aload_n 0, 1) := by decide +kernel
theorem dX10_acts_193 : decode cX10_acts 193 = .ok (.iload_n 1, 1) := by decide +kernel
theorem dX10_acts_194 : decode cX10_acts 194 = .ok (.invokevirtual 195, 3) := by decide +kernel
theorem dX10_acts_197 : decode cX10_acts 197 = .ok (.istore_n 2, 1) := by decide +kernel
theorem dX10_acts_198 : decode cX10_acts 198 = .ok (.iload_n 2, 1) := by decide +kernel
theorem dX10_acts_199 : decode cX10_acts 199 = .ok (.ifCond .eq 61, 3) := by decide +kernel
theorem dX10_acts_202 : decode cX10_acts 202 = .ok (.aload_n 0, 1) := by decide +kernel
theorem dX10_acts_203 : decode cX10_acts 203 = .ok (.iload_n 1, 1) := by decide +kernel
theorem dX10_acts_204 : decode cX10_acts 204 = .ok (.aload_n 0, 1) := by decide +kernel
theorem dX10_acts_205 : decode cX10_acts 205 = .ok (.getfield 20, 3) := by decide +kernel
theorem dX10_acts_208 : decode cX10_acts 208 = .ok (.iload_n 1, 1) := by decide +kernel
theorem dX10_acts_209 : decode cX10_acts 209 = .ok (.iaload, 1) := by decide +kernel
theorem dX10_acts_210 : decode cX10_acts 210 = .ok (.invokevirtual 182, 3) := by decide +kernel
theorem dX10_acts_213 : decode cX10_acts 213 = .ok (.goto 47, 3) := by decide +kernel
theorem dX10_acts_216 : decode cX10_acts 216 = .ok (.aload_n 0, 1) := by decide +kernel
theorem dX10_acts_217 : decode cX10_acts 217 = .ok (.iload_n 1, 1) := by decide +kernel
theorem dX10_acts_218 : decode cX10_acts 218 = .ok (.invokevirtual 198, 3) := by decide +kernel
theorem dX10_acts_221 : decode cX10_acts 221 = .ok (.istore_n 2, 1) := by decide +kernel
theorem dX10_acts_222 : decode cX10_acts 222 = .ok (.goto 38, 3) := by decide +kernel
theorem dX10_acts_225 : decode cX10_acts 225 = .ok (.aload_n 0, 1) := by decide +kernel
theorem dX10_acts_226 : decode cX10_acts 226 = .ok (.iload_n 1, 1) := by decide +kernel
theorem dX10_acts_227 : decode cX10_acts 227 = .ok (.invokevirtual 201, 3) := by decide +kernel
theorem dX10_acts_230 : decode cX10_acts 230 = .ok (.istore_n 2, 1) := by decide +kernel
theorem dX10_acts_231 : decode cX10_acts 231 = .ok (.iload_n 2, 1) := by decide +kernel
theorem dX10_acts_232 : decode cX10_acts 232 = .ok (.ifCond .eq 28, 3) := by decide +kernel
theorem dX10_acts_235 : decode cX10_acts 235 = .ok (.aload_n 0, 1) := by decide +kernel
theorem dX10_acts_236 : decode cX10_acts 236 = .ok (.iload_n 1, 1) := by decide +kernel
theorem dX10_acts_237 : decode cX10_acts 237 = .ok (.iconst 2, 1) := by decide +kernel
theorem dX10_acts_238 : decode cX10_acts 238 = .ok (.invokevirtual 182, 3) := by decide +kernel
theorem dX10_acts_241 : decode cX10_acts 241 = .ok (.goto 19, 3) := by decide +kernel
theorem dX10_acts_244 : decode cX10_acts 244 = .ok (.aload_n 0, 1) := by decide +kernel
theorem dX10_acts_245 : decode cX10_acts 245 = .ok (.iload_n 1, 1) := by decide +kernel
theorem dX10_acts_246 : decode cX10_acts 246 = .ok (.invokevirtual 204, 3) := by decide +kernel
theorem dX10_acts_249 : decode cX10_acts 249 = .ok (.istore_n 2, 1) := by decide +kernel
theorem dX10_acts_250 : decode cX10_acts 250 = .ok (.iload_n 2, 1) := by decide +kernel
theorem dX10_acts_251 : decode cX10_acts 251 = .ok (.ifCond .eq 9, 3) := by decide +kernel
theorem dX10_acts_254 : decode cX10_acts 254 = .ok (.aload_n 0, 1) := by decide +kernel
theorem dX10_acts_255 : decode cX10_acts 255 = .ok (.iload_n 1, 1) := by decide +kernel
theorem dX10_acts_256 : decode cX10_acts 256 = .ok (.iconst 4, 1) := by decide +kernel
theorem dX10_acts_257 : decode cX10_acts 257 = .ok (.invokevirtual 182, 3) := by decide +kernel
theorem dX10_acts_260 : decode cX10_acts 260 = .ok (.iload_n 2, 1) := by decide +kernel
theorem dX10_acts_261 : decode cX10_acts 261 = .ok (.ireturn, 1) := by decide +kernel
theorem dX10_feed_0 : decode cX10_feed 0 = .ok (.iconst 0, 1) := by decide +kernel
theorem dX10_feed_1 : decode cX10_feed 1 = .ok (.istore_n 1, 1) := by decide +kernel
theorem dX10_feed_2 : decode cX10_feed 2 = .ok (.iload_n 1, 1) := by decide +kernel
theorem dX10_feed_3 : decode cX10_feed 3 = .ok (.aload_n 0, 1) := by decide +kernel
theorem dX10_feed_4 : decode cX10_feed 4 = .ok (.getfield 68, 3) := by decide +kernel
theorem dX10_feed_7 : decode cX10_feed 7 = .ok (.if_icmp .ge 75, 3) := by decide +kernel
theorem dX10_feed_10 : decode cX10_feed 10 = .ok (.aload_n 0, 1) := by decide +kernel
theorem dX10_feed_11 : decode cX10_feed 11 = .ok (.getfield 17, 3) := by decide +kernel
theorem dX10_feed_14 : decode cX10_feed 14 = .ok (.iload_n 1, 1) := by decide +kernel
theorem dX10_feed_15 : decode cX10_feed 15 = .ok (.iaload, 1) := by decide +kernel
theorem dX10_feed_16 : decode cX10_feed 16 = .ok (.bipush 6, 2) := by decide +kernel
theorem dX10_feed_18 : decode cX10_feed 18 = .ok (.if_icmp .ne 58, 3) := by decide +kernel
theorem dX10_feed_21 : decode cX10_feed 21 = .ok (.iconst 4, 1) := by decide +kernel
theorem dX10_feed_22 : decode cX10_feed 22 = .ok (.istore_n 2, 1) := by decide +kernel
theorem dX10_feed_23 : decode cX10_feed 23 = .ok (.iload_n 2, 1) := by decide +kernel
theorem dX10_feed_24 : decode cX10_feed 24 = .ok (.iconst 1, 1) := by decide +kernel
theorem dX10_feed_25 : decode cX10_feed 25 = .ok (.if_icmp .le 19, 3) := by decide +kernel
theorem dX10_feed_28 : decode cX10_feed 28 = .ok (.aload_n 0, 1) := by decide +kernel
theorem dX10_feed_29 : decode cX10_feed 29 = .ok (.iload_n 1, 1) := by decide +kernel
theorem dX10_feed_30 : decode cX10_feed 30 = .ok (.iload_n 2, 1) := by decide +kernel
theorem dX10_feed_31 : decode cX10_feed 31 = .ok (.iconst 1, 1) := by decide +kernel
theorem dX10_feed_32 : decode cX10_feed 32 = .ok (.isub, 1) := by decide +kernel
theorem dX10_feed_33 : decode cX10_feed 33 = .ok (.iload_n 1, 1) := by decide +kernel
theorem dX10_feed_34 : decode cX10_feed 34 = .ok (.iload_n 2, 1) := by decide +kernel
theorem dX10_feed_35 : decode cX10_feed 35 = .ok (.invokevirtual 171, 3) := by decide +kernel
theorem dX10_feed_38 : decode cX10_feed 38 = .ok (.iinc 2 (-1), 3) := by decide +kernel
theorem dX10_feed_41 : decode cX10_feed 41 = .ok (.goto (-18), 3) := by decide +kernel
theorem dX10_feed_44 : decode cX10_feed 44 = .ok (.aload_n 0, 1) := by decide +kernel
theorem dX10_feed_45 : decode cX10_feed 45 = .ok (.getfield 26, 3) := by decide +kernel
theorem dX10_feed_48 : decode cX10_feed 48 = .ok (.iconst 3, 1) := by decide +kernel
theorem dX10_feed_49 : decode cX10_feed 49 = .ok (.iload_n 1, 1) := by decide +kernel
theorem dX10_feed_50 : decode cX10_feed 50 = .ok (.imul, 1) := by decide +kernel
theorem dX10_feed_51 : decode cX10_feed 51 = .ok (.iaload, 1) := by decide +kernel
theorem dX10_feed_52 : decode cX10_feed 52 = .ok (.iconst 1, 1) := by decide +kernel
theorem dX10_feed_53 : decode cX10_feed 53 = .ok (.isub, 1) := by decide +kernel
theorem dX10_feed_54 : decode cX10_feed 54 = .ok (.istore_n 2, 1) := by decide +kernel
theorem dX10_feed_55 : decode cX10_feed 55 = .ok (.iload_n 2, 1) := by decide +kernel
theorem dX10_feed_56 : decode cX10_feed 56 = .ok (.ifCond .ge 12, 3) := by decide +kernel
theorem dX10_feed_59 : decode cX10_feed 59 = .ok (.aload_n 0, 1) := by decide +kernel
theorem dX10_feed_60 : decode cX10_feed 60 = .ok (.iload_n 1, 1) := by decide +kernel
theorem dX10_feed_61 : decode cX10_feed 61 = .ok (.iconst 1, 1) := by decide +kernel
theorem dX10_feed_62 : decode cX10_feed 62 = .ok (.invokevirtual 175, 3) := by decide +kernel
theorem dX10_feed_65 : decode cX10_feed 65 = .ok (.goto 11, 3) := by decide +kernel
theorem dX10_feed_68 : decode cX10_feed 68 = .ok (.aload_n 0, 1) := by decide +kernel
theorem dX10_feed_69 : decode cX10_feed 69 = .ok (.iload_n 2, 1) := by decide +kernel
theorem dX10_feed_70 : decode cX10_feed 70 = .ok (.iconst 0, 1) := by decide +kernel
theorem dX10_feed_71 : decode cX10_feed 71 = .ok (.iload_n 1, 1) := by decide +kernel
theorem dX10_feed_72 : decode cX10_feed 72 = .ok (.iconst 1, 1) := by decide +kernel
theorem dX10_feed_73 : decode cX10_feed 73 = .ok (.invokevirtual 171, 3) := by decide +kernel
theorem dX10_feed_76 : decode cX10_feed 76 = .ok (.iinc 1 1, 3) := by decide +kernel
theorem dX10_feed_79 : decode cX10_feed 79 = .ok (.goto (-77), 3) := by decide +kernel
theorem dX10_feed_82 : decode cX10_feed 82 = .ok (.return_, 1) := by decide +kernel
theorem dX10_hasActed_0 : decode cX10_hasActed 0 = .ok (.iload_n 1, 1) := by decide +kernel
theorem dX10_hasActed_1 : decode cX10_hasActed 1 = .ok (.ifCond .ge 7, 3) := by decide +kernel
theorem dX10_hasActed_4 : decode cX10_hasActed 4 = .ok (.iconst 1, 1) := by decide +kernel
theorem dX10_hasActed_5 : decode cX10_hasActed 5 = .ok (.goto 4, 3) := by decide +kernel
theorem dX10_hasActed_8 : decode cX10_hasActed 8 = .ok (.iconst 0, 1) := by decide +kernel
theorem dX10_hasActed_9 : decode cX10_hasActed 9 = .ok (.istore_n 3, 1) := by decide +kernel
theorem dX10_hasActed_10 : decode cX10_hasActed 10 = .ok (.iconst 0, 1) := by decide +kernel
theorem dX10_hasActed_11 : decode cX10_hasActed 11 = .ok (.istore 4, 2) := by decide +kernel
