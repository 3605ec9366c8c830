theorem dX3_isReady_3 : decode cX3_isReady 3 = .ok (.aload_n 1, 1) := by decide +kernel
theorem dX3_isReady_4 : decode cX3_isReady 4 = .ok (.invokevirtual 52, 3) := by decide +kernel
theorem dX3_isReady_7 : decode cX3_isReady 7 = .ok (.if_icmp .ge 38, 3) := by decide +kernel
theorem dX3_isReady_10 : decode cX3_isReady 10 = .ok (.aload_n 1, 1) := by decide +kernel
theorem dX3_isReady_11 : decode cX3_isReady 11 = .ok (.iload_n 2, 1) := by decide +kernel
theorem dX3_isReady_12 : decode cX3_isReady 12 = .ok (.invokevirtual 56, 3) := by decide +kernel
theorem dX3_isReady_15 : decode cX3_isReady 15 = .ok (.istore_n 3, 1) := by decide +kernel
theorem dX3_isReady_16 : decode cX3_isReady 16 = .ok (.iload_n 3, 1) := by decide +kernel
theorem dX3_isReady_17 : decode cX3_isReady 17 = .ok (.ifCond .lt 22, 3) := by decide +kernel
theorem dX3_isReady_20 : decode cX3_isReady 20 = .ok (.iload_n 3, 1) := by decide +kernel
theorem dX3_isReady_21 : decode cX3_isReady 21 = .ok (.aload_n 0, 1) := by decide +kernel
theorem dX3_isReady_22 : decode cX3_isReady 22 = .ok (.getfield 28, 3) := by decide +kernel
theorem dX3_isReady_25 : decode cX3_isReady 25 = .ok (.if_icmp .ge 14, 3) := by decide +kernel
theorem dX3_isReady_28 : decode cX3_isReady 28 = .ok (.aload_n 0, 1) := by decide +kernel
theorem dX3_isReady_29 : decode cX3_isReady 29 = .ok (.getfield 21, 3) := by decide +kernel
theorem dX3_isReady_32 : decode cX3_isReady 32 = .ok (.iload_n 3, 1) := by decide +kernel
theorem dX3_isReady_33 : decode cX3_isReady 33 = .ok (.baload, 1) := by decide +kernel
theorem dX3_isReady_34 : decode cX3_isReady 34 = .ok (.ifCond .ne 5, 3) := by decide +kernel
theorem dX3_isReady_37 : decode cX3_isReady 37 = .ok (.iconst 0, 1) := by decide +kernel
theorem dX3_isReady_38 : decode cX3_isReady 38 = .ok (.ireturn, 1) := by decide +kernel
theorem dX3_isReady_39 : decode cX3_isReady 39 = .ok (.iinc 2 1, 3) := by decide +kernel
theorem dX3_isReady_42 : decode cX3_isReady 42 = .ok (.goto (-40), 3) := by decide +kernel
theorem dX3_isReady_45 : decode cX3_isReady 45 = .ok (.iconst 1, 1) := by decide +kernel
theorem dX3_isReady_46 : decode cX3_isReady 46 = .ok (.ireturn, 1) := by decide +kernel
theorem dX4_init_0 : decode cX4_init 0 = .ok (.aload_n 0, 1) := by decide +kernel
theorem dX4_init_1 : decode cX4_init 1 = .ok (.invokespecial 3, 3) := by decide +kernel
theorem dX4_init_4 : decode cX4_init 4 = .ok (.aload_n 0, 1) := by decide +kernel
theorem dX4_init_5 : decode cX4_init 5 = .ok (.iload_n 1, 1) := by decide +kernel
theorem dX4_init_6 : decode cX4_init 6 = .ok (.putfield 9, 3) := by decide +kernel
theorem dX4_init_9 : decode cX4_init 9 = .ok (.aload_n 0, 1) := by decide +kernel
theorem dX4_init_10 : decode cX4_init 10 = .ok (.iload_n 2, 1) := by decide +kernel
theorem dX4_init_11 : decode cX4_init 11 = .ok (.putfield 15, 3) := by decide +kernel
theorem dX4_init_14 : decode cX4_init 14 = .ok (.aload_n 0, 1) := by decide +kernel
theorem dX4_init_15 : decode cX4_init 15 = .ok (.iload_n 2, 1) := by decide +kernel
theorem dX4_init_16 : decode cX4_init 16 = .ok (.newarray .double, 2) := by decide +kernel
theorem dX4_init_18 : decode cX4_init 18 = .ok (.putfield 18, 3) := by decide +kernel
theorem dX4_init_21 : decode cX4_init 21 = .ok (.return_, 1) := by decide +kernel
theorem dX4_isFloating_0 : decode cX4_isFloating 0 = .ok (.aload_n 0, 1) := by decide +kernel
theorem dX4_isFloating_1 : decode cX4_isFloating 1 = .ok (.getfield 9, 3) := by decide +kernel
theorem dX4_isFloating_4 : decode cX4_isFloating 4 = .ok (.iconst 3, 1) := by decide +kernel
theorem dX4_isFloating_5 : decode cX4_isFloating 5 = .ok (.if_icmp .lt 7, 3) := by decide +kernel
theorem dX4_isFloating_8 : decode cX4_isFloating 8 = .ok (.iconst 1, 1) := by decide +kernel
theorem dX4_isFloating_9 : decode cX4_isFloating 9 = .ok (.goto 4, 3) := by decide +kernel
theorem dX4_isFloating_12 : decode cX4_isFloating 12 = .ok (.iconst 0, 1) := by decide +kernel
theorem dX4_isFloating_13 : decode cX4_isFloating 13 = .ok (.ireturn, 1) := by decide +kernel
theorem dX4_has_0 : decode cX4_has 0 = .ok (.iload_n 1, 1) := by decide +kernel
theorem dX4_has_1 : decode cX4_has 1 = .ok (.ifCond .lt 15, 3) := by decide +kernel
theorem dX4_has_4 : decode cX4_has 4 = .ok (.iload_n 1, 1) := by decide +kernel
theorem dX4_has_5 : decode cX4_has 5 = .ok (.aload_n 0, 1) := by decide +kernel
theorem dX4_has_6 : decode cX4_has 6 = .ok (.getfield 15, 3) := by decide +kernel
theorem dX4_has_9 : decode cX4_has 9 = .ok (.if_icmp .ge 7, 3) := by decide +kernel
theorem dX4_has_12 : decode cX4_has 12 = .ok (.iconst 1, 1) := by decide +kernel
theorem dX4_has_13 : decode cX4_has 13 = .ok (.goto 4, 3) := by decide +kernel
theorem dX4_has_16 : decode cX4_has 16 = .ok (.iconst 0, 1) := by decide +kernel
theorem dX4_has_17 : decode cX4_has 17 = .ok (.ireturn, 1) := by decide +kernel
theorem dX4_valueAt_0 : decode cX4_valueAt 0 = .ok (.aload_n 0, 1) := by decide +kernel
theorem dX4_valueAt_1 : decode cX4_valueAt 1 = .ok (.iload_n 1, 1) := by decide +kernel
theorem dX4_valueAt_2 : decode cX4_valueAt 2 = .ok (.invokevirtual 22, 3) := by decide +kernel
theorem dX4_valueAt_5 : decode cX4_valueAt 5 = .ok (.ifCond .eq 12, 3) := by decide +kernel
theorem dX4_valueAt_8 : decode cX4_valueAt 8 = .ok (.aload_n 0, 1) := by decide +kernel
theorem dX4_valueAt_9 : decode cX4_valueAt 9 = .ok (.getfield 18, 3) := by decide +kernel
theorem dX4_valueAt_12 : decode cX4_valueAt 12 = .ok (.iload_n 1, 1) := by decide +kernel
theorem dX4_valueAt_13 : decode cX4_valueAt 13 = .ok (.daload, 1) := by decide +kernel
theorem dX4_valueAt_14 : decode cX4_valueAt 14 = .ok (.goto 4, 3) := by decide +kernel
theorem dX4_valueAt_17 : decode cX4_valueAt 17 = .ok (.dconst 0, 1) := by decide +kernel
theorem dX4_valueAt_18 : decode cX4_valueAt 18 = .ok (.dreturn, 1) := by decide +kernel
theorem dX4_lacksNumberAt_0 : decode cX4_lacksNumberAt 0 = .ok (.aload_n 0, 1) := by decide +kernel
theorem dX4_lacksNumberAt_1 : decode cX4_lacksNumberAt 1 = .ok (.iload_n 1, 1) := by decide +kernel
theorem dX4_lacksNumberAt_2 : decode cX4_lacksNumberAt 2 = .ok (.invokevirtual 22, 3) := by decide +kernel
theorem dX4_lacksNumberAt_5 : decode cX4_lacksNumberAt 5 = .ok (.ifCond .eq 18, 3) := by decide +kernel
theorem dX4_lacksNumberAt_8 : decode cX4_lacksNumberAt 8 = .ok (.aload_n 0, 1) := by decide +kernel
theorem dX4_lacksNumberAt_9 : decode cX4_lacksNumberAt 9 = .ok (.getfield 26, 3) := by decide +kernel
theorem dX4_lacksNumberAt_12 : decode cX4_lacksNumberAt 12 = .ok (.iload_n 1, 1) := by decide +kernel
theorem dX4_lacksNumberAt_13 : decode cX4_lacksNumberAt 13 = .ok (.ishr, 1) := by decide +kernel
theorem dX4_lacksNumberAt_14 : decode cX4_lacksNumberAt 14 = .ok (.iconst 1, 1) := by decide +kernel
theorem dX4_lacksNumberAt_15 : decode cX4_lacksNumberAt 15 = .ok (.iand, 1) := by decide +kernel
theorem dX4_lacksNumberAt_16 : decode cX4_lacksNumberAt 16 = .ok (.ifCond .eq 7, 3) := by decide +kernel
theorem dX4_lacksNumberAt_19 : decode cX4_lacksNumberAt 19 = .ok (.iconst 1, 1) := by decide +kernel
theorem dX4_lacksNumberAt_20 : decode cX4_lacksNumberAt 20 = .ok (.goto 4, 3) := by decide +kernel
theorem dX4_lacksNumberAt_23 : decode cX4_lacksNumberAt 23 = .ok (.iconst 0, 1) := by decide +kernel
theorem dX4_lacksNumberAt_24 : decode cX4_lacksNumberAt 24 = .ok (.ireturn, 1) := by decide +kernel
theorem dX4_put_0 : decode cX4_put 0 = .ok (.iload_n 1, 1) := by decide +kernel
theorem dX4_put_1 : decode cX4_put 1 = .ok (.ifCond .lt 32, 3) := by decide +kernel
theorem dX4_put_4 : decode cX4_put 4 = .ok (.iload_n 1, 1) := by decide +kernel
theorem dX4_put_5 : decode cX4_put 5 = .ok (.aload_n 0, 1) := by decide +kernel
theorem dX4_put_6 : decode cX4_put 6 = .ok (.getfield 15, 3) := by decide +kernel
theorem dX4_put_9 : decode cX4_put 9 = .ok (.if_icmp .ge 24, 3) := by decide +kernel
theorem dX4_put_12 : decode cX4_put 12 = .ok (.aload_n 0, 1) := by decide +kernel
theorem dX4_put_13 : decode cX4_put 13 = .ok (.getfield 18, 3) := by decide +kernel
theorem dX4_put_16 : decode cX4_put 16 = .ok (.iload_n 1, 1) := by decide +kernel
theorem dX4_put_17 : decode cX4_put 17 = .ok (.aload_n 0, 1) := by decide +kernel
theorem dX4_put_18 : decode cX4_put 18 = .ok (.getfield 9, 3) := by decide +kernel
theorem dX4_put_21 : decode cX4_put 21 = .ok (.iconst 3, 1) := by decide +kernel
theorem dX4_put_22 : decode cX4_put 22 = .ok (.if_icmp .ne 9, 3) := by decide +kernel
theorem dX4_put_25 : decode cX4_put 25 = .ok (.dload_n 2, 1) := by decide +kernel
theorem dX4_put_26 : decode cX4_put 26 = .ok (.d2f, 1) := by decide +kernel
theorem dX4_put_27 : decode cX4_put 27 = .ok (.f2d, 1) := by decide +kernel
theorem dX4_put_28 : decode cX4_put 28 = .ok (.goto 4, 3) := by decide +kernel
theorem dX4_put_31 : decode cX4_put 31 = .ok (.dload_n 2, 1) := by decide +kernel
theorem dX4_put_32 : decode cX4_put 32 = .ok (.dastore, 1) := by decide +kernel
theorem dX4_put_33 : decode cX4_put 33 = .ok (.return_, 1) := by decide +kernel
theorem dX4_putNoNumber_0 : decode cX4_putNoNumber 0 = .ok (.aload_n 0, 1) := by decide +kernel
theorem dX4_putNoNumber_1 : decode cX4_putNoNumber 1 = .ok (.iload_n 1, 1) := by decide +kernel
theorem dX4_putNoNumber_2 : decode cX4_putNoNumber 2 = .ok (.invokevirtual 22, 3) := by decide +kernel
theorem dX4_putNoNumber_5 : decode cX4_putNoNumber 5 = .ok (.ifCond .eq 15, 3) := by decide +kernel
theorem dX4_putNoNumber_8 : decode cX4_putNoNumber 8 = .ok (.aload_n 0, 1) := by decide +kernel
theorem dX4_putNoNumber_9 : decode cX4_putNoNumber 9 = .ok (.dup, 1) := by decide +kernel
theorem dX4_putNoNumber_10 : decode cX4_putNoNumber 10 = .ok (.getfield 26, 3) := by decide +kernel
theorem dX4_putNoNumber_13 : decode cX4_putNoNumber 13 = .ok (.iconst 1, 1) := by decide +kernel
theorem dX4_putNoNumber_14 : decode cX4_putNoNumber 14 = .ok (.iload_n 1, 1) := by decide +kernel
theorem dX4_putNoNumber_15 : decode cX4_putNoNumber 15 = .ok (.ishl, 1) := by decide +kernel
theorem dX4_putNoNumber_16 : decode cX4_putNoNumber 16 = .ok (.ior, 1) := by decide +kernel
theorem dX4_putNoNumber_17 : decode cX4_putNoNumber 17 = .ok (.putfield 26, 3) := by decide +kernel
theorem dX4_putNoNumber_20 : decode cX4_putNoNumber 20 = .ok (.return_, 1) := by decide +kernel
theorem dX4_noneCount_0 : decode cX4_noneCount 0 = .ok (.aload_n 0, 1) := by decide +kernel
theorem dX4_noneCount_1 : decode cX4_noneCount 1 = .ok (.getfield 26, 3) := by decide +kernel
theorem dX4_noneCount_4 : decode cX4_noneCount 4 = .ok (.invokestatic 29, 3) := by decide +kernel
theorem dX4_noneCount_7 : decode cX4_noneCount 7 = .ok (.ireturn, 1) := by decide +kernel
theorem dX4_isSilent_0 : decode cX4_isSilent 0 = .ok (.aload_n 0, 1) := by decide +kernel
theorem dX4_isSilent_1 : decode cX4_isSilent 1 = .ok (.getfield 26, 3) := by decide +kernel
theorem dX4_isSilent_4 : decode cX4_isSilent 4 = .ok (.ifCond .eq 5, 3) := by decide +kernel
theorem dX4_isSilent_7 : decode cX4_isSilent 7 = .ok (.iconst 0, 1) := by decide +kernel
theorem dX4_isSilent_8 : decode cX4_isSilent 8 = .ok (.ireturn, 1) := by decide +kernel
theorem dX4_isSilent_9 : decode cX4_isSilent 9 = .ok (.iconst 0, 1) := by decide +kernel
theorem dX4_isSilent_10 : decode cX4_isSilent 10 = .ok (.istore_n 1, 1) := by decide +kernel
theorem dX4_isSilent_11 : decode cX4_isSilent 11 = .ok (.iload_n 1, 1) := by decide +kernel
theorem dX4_isSilent_12 : decode cX4_isSilent 12 = .ok (.aload_n 0, 1) := by decide +kernel
theorem dX4_isSilent_13 : decode cX4_isSilent 13 = .ok (.getfield 15, 3) := by decide +kernel
theorem dX4_isSilent_16 : decode cX4_isSilent 16 = .ok (.if_icmp .ge 22, 3) := by decide +kernel
theorem dX4_isSilent_19 : decode cX4_isSilent 19 = .ok (.aload_n 0, 1) := by decide +kernel
theorem dX4_isSilent_20 : decode cX4_isSilent 20 = .ok (.getfield 18, 3) := by decide +kernel
theorem dX4_isSilent_23 : decode cX4_isSilent 23 = .ok (.iload_n 1, 1) := by decide +kernel
theorem dX4_isSilent_24 : decode cX4_isSilent 24 = .ok (.daload, 1) := by decide +kernel
theorem dX4_isSilent_25 : decode cX4_isSilent 25 = .ok (.dconst 0, 1) := by decide +kernel
theorem dX4_isSilent_26 : decode cX4_isSilent 26 = .ok (.dcmp .l, 1) := by decide +kernel
theorem dX4_isSilent_27 : decode cX4_isSilent 27 = .ok (.ifCond .eq 5, 3) := by decide +kernel
theorem dX4_isSilent_30 : decode cX4_isSilent 30 = .ok (.iconst 0, 1) := by decide +kernel
theorem dX4_isSilent_31 : decode cX4_isSilent 31 = .ok (.ireturn, 1) := by decide +kernel
theorem dX4_isSilent_32 : decode cX4_isSilent 32 = .ok (.iinc 1 1, 3) := by decide +kernel
theorem dX4_isSilent_35 : decode cX4_isSilent 35 = .ok (.goto (-24), 3) := by decide +kernel
theorem dX4_isSilent_38 : decode cX4_isSilent 38 = .ok (.iconst 1, 1) := by decide +kernel
theorem dX4_isSilent_39 : decode cX4_isSilent 39 = .ok (.ireturn, 1) := by decide +kernel
theorem dX4_isSameAs_0 : decode cX4_isSameAs 0 = .ok (.aload_n 0, 1) := by decide +kernel
theorem dX4_isSameAs_1 : decode cX4_isSameAs 1 = .ok (.getfield 9, 3) := by decide +kernel
theorem dX4_isSameAs_4 : decode cX4_isSameAs 4 = .ok (.aload_n 1, 1) := by decide +kernel
theorem dX4_isSameAs_5 : decode cX4_isSameAs 5 = .ok (.getfield 9, 3) := by decide +kernel
theorem dX4_isSameAs_8 : decode cX4_isSameAs 8 = .ok (.if_icmp .ne 25, 3) := by decide +kernel
theorem dX4_isSameAs_11 : decode cX4_isSameAs 11 = .ok (.aload_n 0, 1) := by decide +kernel
theorem dX4_isSameAs_12 : decode cX4_isSameAs 12 = .ok (.getfield 15, 3) := by decide +kernel
theorem dX4_isSameAs_15 : decode cX4_isSameAs 15 = .ok (.aload_n 1, 1) := by decide +kernel
theorem dX4_isSameAs_16 : decode cX4_isSameAs 16 = .ok (.getfield 15, 3) := by decide +kernel
theorem dX4_isSameAs_19 : decode cX4_isSameAs 19 = .ok (.if_icmp .ne 14, 3) := by decide +kernel
theorem dX4_isSameAs_22 : decode cX4_isSameAs 22 = .ok (.aload_n 0, 1) := by decide +kernel
theorem dX4_isSameAs_23 : decode cX4_isSameAs 23 = .ok (.getfield 26, 3) := by decide +kernel
theorem dX4_isSameAs_26 : decode cX4_isSameAs 26 = .ok (.aload_n 1, 1) := by decide +kernel
theorem dX4_isSameAs_27 : decode cX4_isSameAs 27 = .ok (.getfield 26, 3) := by decide +kernel
theorem dX4_isSameAs_30 : decode cX4_isSameAs 30 = .ok (.if_icmp .eq 5, 3) := by decide +kernel
theorem dX4_isSameAs_33 : decode cX4_isSameAs 33 = .ok (.iconst 0, 1) := by decide +kernel
theorem dX4_isSameAs_34 : decode cX4_isSameAs 34 = .ok (.ireturn, 1) := by decide +kernel
theorem dX4_isSameAs_35 : decode cX4_isSameAs 35 = .ok (.iconst 0, 1) := by decide +kernel
theorem dX4_isSameAs_36 : decode cX4_isSameAs 36 = .ok (.istore_n 2, 1) := by decide +kernel
theorem dX4_isSameAs_37 : decode cX4_isSameAs 37 = .ok (.iload_n 2, 1) := by decide +kernel
theorem dX4_isSameAs_38 : decode cX4_isSameAs 38 = .ok (.aload_n 0, 1) := by decide +kernel
theorem dX4_isSameAs_39 : decode cX4_isSameAs 39 = .ok (.getfield 15, 3) := by decide +kernel
theorem dX4_isSameAs_42 : decode cX4_isSameAs 42 = .ok (.if_icmp .ge 28, 3) := by decide +kernel
theorem dX4_isSameAs_45 : decode cX4_isSameAs 45 = .ok (.aload_n 0, 1) := by decide +kernel
theorem dX4_isSameAs_46 : decode cX4_isSameAs 46 = .ok (.getfield 18, 3) := by decide +kernel
theorem dX4_isSameAs_49 : decode cX4_isSameAs 49 = .ok (.iload_n 2, 1) := by decide +kernel
theorem dX4_isSameAs_50 : decode cX4_isSameAs 50 = .ok (.daload, 1) := by decide +kernel
theorem dX4_isSameAs_51 : decode cX4_isSameAs 51 = .ok (.aload_n 1, 1) := by decide +kernel
theorem dX4_isSameAs_52 : decode cX4_isSameAs 52 = .ok (.iload_n 2, 1) := by decide +kernel
theorem dX4_isSameAs_53 : decode cX4_isSameAs 53 = .ok (.invokevirtual 35, 3) := by decide +kernel
theorem dX4_isSameAs_56 : decode cX4_isSameAs 56 = .ok (.invokestatic 39, 3) := by decide +kernel
theorem dX4_isSameAs_59 : decode cX4_isSameAs 59 = .ok (.ifCond .ne 5, 3) := by decide +kernel
theorem dX4_isSameAs_62 : decode cX4_isSameAs 62 = .ok (.iconst 0, 1) := by decide +kernel
theorem dX4_isSameAs_63 : decode cX4_isSameAs 63 = .ok (.ireturn, 1) := by decide +kernel
theorem dX4_isSameAs_64 : decode cX4_isSameAs 64 = .ok (.iinc 2 1, 3) := by decide +kernel
theorem dX4_isSameAs_67 : decode cX4_isSameAs 67 = .ok (.goto (-30), 3) := by decide +kernel
theorem dX4_isSameAs_70 : decode cX4_isSameAs 70 = .ok (.iconst 1, 1) := by decide +kernel
theorem dX4_isSameAs_71 : decode cX4_isSameAs 71 = .ok (.ireturn, 1) := by decide +kernel
theorem dX4_haveSameBits_0 : decode cX4_haveSameBits 0 = .ok (.dload_n 0, 1) := by decide +kernel
theorem dX4_haveSameBits_1 : decode cX4_haveSameBits 1 = .ok (.dload_n 2, 1) := by decide +kernel
theorem dX4_haveSameBits_2 : decode cX4_haveSameBits 2 = .ok (.dcmp .l, 1) := by decide +kernel
theorem dX4_haveSameBits_3 : decode cX4_haveSameBits 3 = .ok (.ifCond .eq 5, 3) := by decide +kernel
theorem dX4_haveSameBits_6 : decode cX4_haveSameBits 6 = .ok (.iconst 0, 1) := by decide +kernel
theorem dX4_haveSameBits_7 : decode cX4_haveSameBits 7 = .ok (.ireturn, 1) := by decide +kernel
theorem dX4_haveSameBits_8 : decode cX4_haveSameBits 8 = .ok (.dload_n 0, 1) := by decide +kernel
theorem dX4_haveSameBits_9 : decode cX4_haveSameBits 9 = .ok (.dconst 0, 1) := by decide +kernel
theorem dX4_haveSameBits_10 : decode cX4_haveSameBits 10 = .ok (.dcmp .l, 1) := by decide +kernel
theorem dX4_haveSameBits_11 : decode cX4_haveSameBits 11 = .ok (.ifCond .ne 13, 3) := by decide +kernel
theorem dX4_haveSameBits_14 : decode cX4_haveSameBits 14 = .ok (.dconst 1, 1) := by decide +kernel
theorem dX4_haveSameBits_15 : decode cX4_haveSameBits 15 = .ok (.dload_n 0, 1) := by decide +kernel
theorem dX4_haveSameBits_16 : decode cX4_haveSameBits 16 = .ok (.ddiv, 1) := by decide +kernel
theorem dX4_haveSameBits_17 : decode cX4_haveSameBits 17 = .ok (.dconst 1, 1) := by decide +kernel
theorem dX4_haveSameBits_18 : decode cX4_haveSameBits 18 = .ok (.dload_n 2, 1) := by decide +kernel
theorem dX4_haveSameBits_19 : decode cX4_haveSameBits 19 = .ok (.ddiv, 1) := by decide +kernel
theorem dX4_haveSameBits_20 : decode cX4_haveSameBits 20 = .ok (.dcmp .l, 1) := by decide +kernel
theorem dX4_haveSameBits_21 : decode cX4_haveSameBits 21 = .ok (.ifCond .ne 7, 3) := by decide +kernel
theorem dX4_haveSameBits_24 : decode cX4_haveSameBits 24 = .ok (.iconst 1, 1) := by decide +kernel
theorem dX4_haveSameBits_25 : decode cX4_haveSameBits 25 = .ok (.goto 4, 3) := by decide +kernel
theorem dX4_haveSameBits_28 : decode cX4_haveSameBits 28 = .ok (.iconst 0, 1) := by decide +kernel
theorem dX4_haveSameBits_29 : decode cX4_haveSameBits 29 = .ok (.ireturn, 1) := by decide +kernel
theorem dX5_init_0 : decode cX5_init 0 = .ok (.aload_n 0, 1) := by decide +kernel
theorem dX5_init_1 : decode cX5_init 1 = .ok (.invokespecial 3, 3) := by decide +kernel
theorem dX5_init_4 : decode cX5_init 4 = .ok (.aload_n 0, 1) := by decide +kernel
theorem dX5_init_5 : decode cX5_init 5 = .ok (.iconst 4, 1) := by decide +kernel
theorem dX5_init_6 : decode cX5_init 6 = .ok (.anewarray 9, 3) := by decide +kernel
theorem dX5_init_9 : decode cX5_init 9 = .ok (.putfield 11, 3) := by decide +kernel
theorem dX5_init_12 : decode cX5_init 12 = .ok (.return_, 1) := by decide +kernel
theorem dX5_copyFrom_0 : decode cX5_copyFrom 0 = .ok (.aload_n 0, 1) := by decide +kernel
theorem dX5_copyFrom_1 : decode cX5_copyFrom 1 = .ok (.aload_n 1, 1) := by decide +kernel
theorem dX5_copyFrom_2 : decode cX5_copyFrom 2 = .ok (.getfield 17, 3) := by decide +kernel
theorem dX5_copyFrom_5 : decode cX5_copyFrom 5 = .ok (.putfield 17, 3) := by decide +kernel
theorem dX5_copyFrom_8 : decode cX5_copyFrom 8 = .ok (.aload_n 0, 1) := by decide +kernel
theorem dX5_copyFrom_9 : decode cX5_copyFrom 9 = .ok (.aload_n 1, 1) := by decide +kernel
theorem dX5_copyFrom_10 : decode cX5_copyFrom 10 = .ok (.getfield 21, 3) := by decide +kernel
theorem dX5_copyFrom_13 : decode cX5_copyFrom 13 = .ok (.putfield 21, 3) := by decide +kernel
theorem dX5_copyFrom_16 : decode cX5_copyFrom 16 = .ok (.aload_n 0, 1) := by decide +kernel
theorem dX5_copyFrom_17 : decode cX5_copyFrom 17 = .ok (.aload_n 1, 1) := by decide +kernel
theorem dX5_copyFrom_18 : decode cX5_copyFrom 18 = .ok (.getfield 25, 3) := by decide +kernel
theorem dX5_copyFrom_21 : decode cX5_copyFrom 21 = .ok (.putfield 25, 3) := by decide +kernel
theorem dX5_copyFrom_24 : decode cX5_copyFrom 24 = .ok (.aload_n 0, 1) := by decide +kernel
theorem dX5_copyFrom_25 : decode cX5_copyFrom 25 = .ok (.aload_n 1, 1) := by decide +kernel
theorem dX5_copyFrom_26 : decode cX5_copyFrom 26 = .ok (.getfield 29, 3) := by decide +kernel
theorem dX5_copyFrom_29 : decode cX5_copyFrom 29 = .ok (.putfield 29, 3) := by decide +kernel
theorem dX5_copyFrom_32 : decode cX5_copyFrom 32 = .ok (.aload_n 0, 1) := by decide +kernel
theorem dX5_copyFrom_33 : decode cX5_copyFrom 33 = .ok (.aload_n 1, 1) := by decide +kernel
theorem dX5_copyFrom_34 : decode cX5_copyFrom 34 = .ok (.getfield 32, 3) := by decide +kernel
theorem dX5_copyFrom_37 : decode cX5_copyFrom 37 = .ok (.putfield 32, 3) := by decide +kernel
theorem dX5_copyFrom_40 : decode cX5_copyFrom 40 = .ok (.aload_n 0, 1) := by decide +kernel
theorem dX5_copyFrom_41 : decode cX5_copyFrom 41 = .ok (.aload_n 1, 1) := by decide +kernel
theorem dX5_copyFrom_42 : decode cX5_copyFrom 42 = .ok (.getfield 35, 3) := by decide +kernel
theorem dX5_copyFrom_45 : decode cX5_copyFrom 45 = .ok (.putfield 35, 3) := by decide +kernel
theorem dX5_copyFrom_48 : decode cX5_copyFrom 48 = .ok (.aload_n 0, 1) := by decide +kernel
theorem dX5_copyFrom_49 : decode cX5_copyFrom 49 = .ok (.aload_n 1, 1) := by decide +kernel
theorem dX5_copyFrom_50 : decode cX5_copyFrom 50 = .ok (.getfield 38, 3) := by decide +kernel
theorem dX5_copyFrom_53 : decode cX5_copyFrom 53 = .ok (.putfield 38, 3) := by decide +kernel
theorem dX5_copyFrom_56 : decode cX5_copyFrom 56 = .ok (.iconst 0, 1) := by decide +kernel
theorem dX5_copyFrom_57 : decode cX5_copyFrom 57 = .ok (.istore_n 2, 1) := by decide +kernel
theorem dX5_copyFrom_58 : decode cX5_copyFrom 58 = .ok (.iload_n 2, 1) := by decide +kernel
theorem dX5_copyFrom_59 : decode cX5_copyFrom 59 = .ok (.iconst 4, 1) := by decide +kernel
theorem dX5_copyFrom_60 : decode cX5_copyFrom 60 = .ok (.if_icmp .ge 21, 3) := by decide +kernel
theorem dX5_copyFrom_63 : decode cX5_copyFrom 63 = .ok (.aload_n 0, 1) := by decide +kernel
theorem dX5_copyFrom_64 : decode cX5_copyFrom 64 = .ok (.getfield 11, 3) := by decide +kernel
theorem dX5_copyFrom_67 : decode cX5_copyFrom 67 = .ok (.iload_n 2, 1) := by decide +kernel
theorem dX5_copyFrom_68 : decode cX5_copyFrom 68 = .ok (.aload_n 1, 1) := by decide +kernel
theorem dX5_copyFrom_69 : decode cX5_copyFrom 69 = .ok (.getfield 11, 3) := by decide +kernel
theorem dX5_copyFrom_72 : decode cX5_copyFrom 72 = .ok (.iload_n 2, 1) := by decide +kernel
theorem dX5_copyFrom_73 : decode cX5_copyFrom 73 = .ok (.aaload, 1) := by decide +kernel
theorem dX5_copyFrom_74 : decode cX5_copyFrom 74 = .ok (.aastore, 1) := by decide +kernel
theorem dX5_copyFrom_75 : decode cX5_copyFrom 75 = .ok (.iinc 2 1, 3) := by decide +kernel
theorem dX5_copyFrom_78 : decode cX5_copyFrom 78 = .ok (.goto (-20), 3) := by decide +kernel
theorem dX5_copyFrom_81 : decode cX5_copyFrom 81 = .ok (.return_, 1) := by decide +kernel
theorem dX5_feed_0 : decode cX5_feed 0 = .ok (.iconst 3, 1) := by decide +kernel
theorem dX5_feed_1 : decode cX5_feed 1 = .ok (.istore_n 2, 1) := by decide +kernel
theorem dX5_feed_2 : decode cX5_feed 2 = .ok (.iload_n 2, 1) := by decide +kernel
theorem dX5_feed_3 : decode cX5_feed 3 = .ok (.ifCond .le 23, 3) := by decide +kernel
theorem dX5_feed_6 : decode cX5_feed 6 = .ok (.aload_n 0, 1) := by decide +kernel
theorem dX5_feed_7 : decode cX5_feed 7 = .ok (.getfield 11, 3) := by decide +kernel
theorem dX5_feed_10 : decode cX5_feed 10 = .ok (.iload_n 2, 1) := by decide +kernel
theorem dX5_feed_11 : decode cX5_feed 11 = .ok (.aload_n 0, 1) := by decide +kernel
theorem dX5_feed_12 : decode cX5_feed 12 = .ok (.getfield 11, 3) := by decide +kernel
theorem dX5_feed_15 : decode cX5_feed 15 = .ok (.iload_n 2, 1) := by decide +kernel
theorem dX5_feed_16 : decode cX5_feed 16 = .ok (.iconst 1, 1) := by decide +kernel
theorem dX5_feed_17 : decode cX5_feed 17 = .ok (.isub, 1) := by decide +kernel
theorem dX5_feed_18 : decode cX5_feed 18 = .ok (.aaload, 1) := by decide +kernel
theorem dX5_feed_19 : decode cX5_feed 19 = .ok (.aastore, 1) := by decide +kernel
theorem dX5_feed_20 : decode cX5_feed 20 = .ok (.iinc 2 (-1), 3) := by decide +kernel
theorem dX5_feed_23 : decode cX5_feed 23 = .ok (.goto (-21), 3) := by decide +kernel
theorem dX5_feed_26 : decode cX5_feed 26 = .ok (.aload_n 0, 1) := by decide +kernel
theorem dX5_feed_27 : decode cX5_feed 27 = .ok (.getfield 11, 3) := by decide +kernel
theorem dX5_feed_30 : decode cX5_feed 30 = .ok (.iconst 0, 1) := by decide +kernel
theorem dX5_feed_31 : decode cX5_feed 31 = .ok (.aload_n 1, 1) := by decide +kernel
theorem dX5_feed_32 : decode cX5_feed 32 = .ok (.aastore, 1) := by decide +kernel
theorem dX5_feed_33 : decode cX5_feed 33 = .ok (.return_, 1) := by decide +kernel
theorem dX5_fedAgo_0 : decode cX5_fedAgo 0 = .ok (.aload_n 0, 1) := by decide +kernel
theorem dX5_fedAgo_1 : decode cX5_fedAgo 1 = .ok (.getfield 11, 3) := by decide +kernel
theorem dX5_fedAgo_4 : decode cX5_fedAgo 4 = .ok (.iconst 1, 1) := by decide +kernel
theorem dX5_fedAgo_5 : decode cX5_fedAgo 5 = .ok (.iconst 4, 1) := by decide +kernel
theorem dX5_fedAgo_6 : decode cX5_fedAgo 6 = .ok (.iload_n 1, 1) := by decide +kernel
theorem dX5_fedAgo_7 : decode cX5_fedAgo 7 = .ok (.invokestatic 41, 3) := by decide +kernel
theorem dX5_fedAgo_10 : decode cX5_fedAgo 10 = .ok (.invokestatic 47, 3) := by decide +kernel
theorem dX5_fedAgo_13 : decode cX5_fedAgo 13 = .ok (.iconst 1, 1) := by decide +kernel
theorem dX5_fedAgo_14 : decode cX5_fedAgo 14 = .ok (.isub, 1) := by decide +kernel
theorem dX5_fedAgo_15 : decode cX5_fedAgo 15 = .ok (.aaload, 1) := by decide +kernel
theorem dX5_fedAgo_16 : decode cX5_fedAgo 16 = .ok (.areturn, 1) := by decide +kernel
theorem dX5_heldWithin_0 : decode cX5_heldWithin 0 = .ok (.lload_n 3, 1) := by decide +kernel
theorem dX5_heldWithin_1 : decode cX5_heldWithin 1 = .ok (.iload_n 1, 1) := by decide +kernel
theorem dX5_heldWithin_2 : decode cX5_heldWithin 2 = .ok (.i2l, 1) := by decide +kernel
theorem dX5_heldWithin_3 : decode cX5_heldWithin 3 = .ok (.lcmp, 1) := by decide +kernel
theorem dX5_heldWithin_4 : decode cX5_heldWithin 4 = .ok (.ifCond .lt 13, 3) := by decide +kernel
theorem dX5_heldWithin_7 : decode cX5_heldWithin 7 = .ok (.lload_n 3, 1) := by decide +kernel
theorem dX5_heldWithin_8 : decode cX5_heldWithin 8 = .ok (.iload_n 2, 1) := by decide +kernel
theorem dX5_heldWithin_9 : decode cX5_heldWithin 9 = .ok (.i2l, 1) := by decide +kernel
theorem dX5_heldWithin_10 : decode cX5_heldWithin 10 = .ok (.lcmp, 1) := by decide +kernel
theorem dX5_heldWithin_11 : decode cX5_heldWithin 11 = .ok (.ifCond .gt 6, 3) := by decide +kernel
theorem dX5_heldWithin_14 : decode cX5_heldWithin 14 = .ok (.lload_n 3, 1) := by decide +kernel
theorem dX5_heldWithin_15 : decode cX5_heldWithin 15 = .ok (.l2i, 1) := by decide +kernel
theorem dX5_heldWithin_16 : decode cX5_heldWithin 16 = .ok (.ireturn, 1) := by decide +kernel
theorem dX5_heldWithin_17 : decode cX5_heldWithin 17 = .ok (.aload_n 0, 1) := by decide +kernel
theorem dX5_heldWithin_18 : decode cX5_heldWithin 18 = .ok (.dup, 1) := by decide +kernel
theorem dX5_heldWithin_19 : decode cX5_heldWithin 19 = .ok (.getfield 35, 3) := by decide +kernel
theorem dX5_heldWithin_22 : decode cX5_heldWithin 22 = .ok (.iconst 1, 1) := by decide +kernel
theorem dX5_heldWithin_23 : decode cX5_heldWithin 23 = .ok (.iadd, 1) := by decide +kernel
theorem dX5_heldWithin_24 : decode cX5_heldWithin 24 = .ok (.putfield 35, 3) := by decide +kernel
theorem dX5_heldWithin_27 : decode cX5_heldWithin 27 = .ok (.lload_n 3, 1) := by decide +kernel
theorem dX5_heldWithin_28 : decode cX5_heldWithin 28 = .ok (.iload_n 1, 1) := by decide +kernel
theorem dX5_heldWithin_29 : decode cX5_heldWithin 29 = .ok (.i2l, 1) := by decide +kernel
theorem dX5_heldWithin_30 : decode cX5_heldWithin 30 = .ok (.lcmp, 1) := by decide +kernel
theorem dX5_heldWithin_31 : decode cX5_heldWithin 31 = .ok (.ifCond .ge 7, 3) := by decide +kernel
theorem dX5_heldWithin_34 : decode cX5_heldWithin 34 = .ok (.iload_n 1, 1) := by decide +kernel
theorem dX5_heldWithin_35 : decode cX5_heldWithin 35 = .ok (.goto 4, 3) := by decide +kernel
theorem dX5_heldWithin_38 : decode cX5_heldWithin 38 = .ok (.iload_n 2, 1) := by decide +kernel
theorem dX5_heldWithin_39 : decode cX5_heldWithin 39 = .ok (.ireturn, 1) := by decide +kernel
theorem dX6_init_0 : decode cX6_init 0 = .ok (.aload_n 0, 1) := by decide +kernel
theorem dX6_init_1 : decode cX6_init 1 = .ok (.invokespecial 3, 3) := by decide +kernel
theorem dX6_init_4 : decode cX6_init 4 = .ok (.aload_n 0, 1) := by decide +kernel
theorem dX6_init_5 : decode cX6_init 5 = .ok (.bipush 8, 2) := by decide +kernel
theorem dX6_init_7 : decode cX6_init 7 = .ok (.bipush 16, 2) := by decide +kernel
theorem dX6_init_9 : decode cX6_init 9 = .ok (.multianewarray 9 2, 4) := by decide +kernel
theorem dX6_init_13 : decode cX6_init 13 = .ok (.putfield 11, 3) := by decide +kernel
theorem dX6_init_16 : decode cX6_init 16 = .ok (.aload_n 0, 1) := by decide +kernel
theorem dX6_init_17 : decode cX6_init 17 = .ok (.bipush 8, 2) := by decide +kernel
theorem dX6_init_19 : decode cX6_init 19 = .ok (.newarray .int, 2) := by decide +kernel
theorem dX6_init_21 : decode cX6_init 21 = .ok (.putfield 16, 3) := by decide +kernel
theorem dX6_init_24 : decode cX6_init 24 = .ok (.iconst 0, 1) := by decide +kernel
theorem dX6_init_25 : decode cX6_init 25 = .ok (.istore_n 1, 1) := by decide +kernel
theorem dX6_init_26 : decode cX6_init 26 = .ok (.iload_n 1, 1) := by decide +kernel
theorem dX6_init_27 : decode cX6_init 27 = .ok (.bipush 8, 2) := by decide +kernel
theorem dX6_init_29 : decode cX6_init 29 = .ok (.if_icmp .ge 16, 3) := by decide +kernel
theorem dX6_init_32 : decode cX6_init 32 = .ok (.aload_n 0, 1) := by decide +kernel
theorem dX6_init_33 : decode cX6_init 33 = .ok (.getfield 16, 3) := by decide +kernel
theorem dX6_init_36 : decode cX6_init 36 = .ok (.iload_n 1, 1) := by decide +kernel
theorem dX6_init_37 : decode cX6_init 37 = .ok (.iconst (-1), 1) := by decide +kernel
theorem dX6_init_38 : decode cX6_init 38 = .ok (.iastore, 1) := by decide +kernel
theorem dX6_init_39 : decode cX6_init 39 = .ok (.iinc 1 1, 3) := by decide +kernel
theorem dX6_init_42 : decode cX6_init 42 = .ok (.goto (-16), 3) := by decide +kernel
theorem dX6_init_45 : decode cX6_init 45 = .ok (.return_, 1) := by decide +kernel
theorem dX6_has_0 : decode cX6_has 0 = .ok (.iload_n 1, 1) := by decide +kernel
theorem dX6_has_1 : decode cX6_has 1 = .ok (.ifCond .lt 13, 3) := by decide +kernel
theorem dX6_has_4 : decode cX6_has 4 = .ok (.iload_n 1, 1) := by decide +kernel
theorem dX6_has_5 : decode cX6_has 5 = .ok (.bipush 8, 2) := by decide +kernel
theorem dX6_has_7 : decode cX6_has 7 = .ok (.if_icmp .ge 7, 3) := by decide +kernel
theorem dX6_has_10 : decode cX6_has 10 = .ok (.iconst 1, 1) := by decide +kernel
theorem dX6_has_11 : decode cX6_has 11 = .ok (.goto 4, 3) := by decide +kernel
theorem dX6_has_14 : decode cX6_has 14 = .ok (.iconst 0, 1) := by decide +kernel
theorem dX6_has_15 : decode cX6_has 15 = .ok (.ireturn, 1) := by decide +kernel
theorem dX6_lengthOf_0 : decode cX6_lengthOf 0 = .ok (.aload_n 0, 1) := by decide +kernel
theorem dX6_lengthOf_1 : decode cX6_lengthOf 1 = .ok (.iload_n 1, 1) := by decide +kernel
theorem dX6_lengthOf_2 : decode cX6_lengthOf 2 = .ok (.invokevirtual 20, 3) := by decide +kernel
theorem dX6_lengthOf_5 : decode cX6_lengthOf 5 = .ok (.ifCond .eq 12, 3) := by decide +kernel
theorem dX6_lengthOf_8 : decode cX6_lengthOf 8 = .ok (.aload_n 0, 1) := by decide +kernel
theorem dX6_lengthOf_9 : decode cX6_lengthOf 9 = .ok (.getfield 16, 3) := by decide +kernel
theorem dX6_lengthOf_12 : decode cX6_lengthOf 12 = .ok (.iload_n 1, 1) := by decide +kernel
theorem dX6_lengthOf_13 : decode cX6_lengthOf 13 = .ok (.iaload, 1) := by decide +kernel
theorem dX6_lengthOf_14 : decode cX6_lengthOf 14 = .ok (.goto 4, 3) := by decide +kernel
theorem dX6_lengthOf_17 : decode cX6_lengthOf 17 = .ok (.iconst (-1), 1) := by decide +kernel
theorem dX6_lengthOf_18 : decode cX6_lengthOf 18 = .ok (.ireturn, 1) := by decide +kernel
theorem dX6_isMissing_0 : decode cX6_isMissing 0 = .ok (.aload_n 0, 1) := by decide +kernel
theorem dX6_isMissing_1 : decode cX6_isMissing 1 = .ok (.iload_n 1, 1) := by decide +kernel
theorem dX6_isMissing_2 : decode cX6_isMissing 2 = .ok (.invokevirtual 24, 3) := by decide +kernel
theorem dX6_isMissing_5 : decode cX6_isMissing 5 = .ok (.iconst (-1), 1) := by decide +kernel
theorem dX6_isMissing_6 : decode cX6_isMissing 6 = .ok (.if_icmp .ne 7, 3) := by decide +kernel
theorem dX6_isMissing_9 : decode cX6_isMissing 9 = .ok (.iconst 1, 1) := by decide +kernel
theorem dX6_isMissing_10 : decode cX6_isMissing 10 = .ok (.goto 4, 3) := by decide +kernel
theorem dX6_isMissing_13 : decode cX6_isMissing 13 = .ok (.iconst 0, 1) := by decide +kernel
theorem dX6_isMissing_14 : decode cX6_isMissing 14 = .ok (.ireturn, 1) := by decide +kernel
theorem dX6_hasPlace_0 : decode cX6_hasPlace 0 = .ok (.iload_n 2, 1) := by decide +kernel
theorem dX6_hasPlace_1 : decode cX6_hasPlace 1 = .ok (.ifCond .lt 16, 3) := by decide +kernel
theorem dX6_hasPlace_4 : decode cX6_hasPlace 4 = .ok (.iload_n 2, 1) := by decide +kernel
theorem dX6_hasPlace_5 : decode cX6_hasPlace 5 = .ok (.aload_n 0, 1) := by decide +kernel
theorem dX6_hasPlace_6 : decode cX6_hasPlace 6 = .ok (.iload_n 1, 1) := by decide +kernel
theorem dX6_hasPlace_7 : decode cX6_hasPlace 7 = .ok (.invokevirtual 24, 3) := by decide +kernel
theorem dX6_hasPlace_10 : decode cX6_hasPlace 10 = .ok (.if_icmp .ge 7, 3) := by decide +kernel
theorem dX6_hasPlace_13 : decode cX6_hasPlace 13 = .ok (.iconst 1, 1) := by decide +kernel
theorem dX6_hasPlace_14 : decode cX6_hasPlace 14 = .ok (.goto 4, 3) := by decide +kernel
theorem dX6_hasPlace_17 : decode cX6_hasPlace 17 = .ok (.iconst 0, 1) := by decide +kernel
theorem dX6_hasPlace_18 : decode cX6_hasPlace 18 = .ok (.ireturn, 1) := by decide +kernel
theorem dX6_renew_0 : decode cX6_renew 0 = .ok (.aload_n 0, 1) := by decide +kernel
theorem dX6_renew_1 : decode cX6_renew 1 = .ok (.iload_n 1, 1) := by decide +kernel
theorem dX6_renew_2 : decode cX6_renew 2 = .ok (.invokevirtual 20, 3) := by decide +kernel
theorem dX6_renew_5 : decode cX6_renew 5 = .ok (.ifCond .eq 33, 3) := by decide +kernel
theorem dX6_renew_8 : decode cX6_renew 8 = .ok (.aload_n 0, 1) := by decide +kernel
theorem dX6_renew_9 : decode cX6_renew 9 = .ok (.getfield 16, 3) := by decide +kernel
theorem dX6_renew_12 : decode cX6_renew 12 = .ok (.iload_n 1, 1) := by decide +kernel
theorem dX6_renew_13 : decode cX6_renew 13 = .ok (.iload_n 2, 1) := by decide +kernel
theorem dX6_renew_14 : decode cX6_renew 14 = .ok (.iastore, 1) := by decide +kernel
theorem dX6_renew_15 : decode cX6_renew 15 = .ok (.iconst 0, 1) := by decide +kernel
theorem dX6_renew_16 : decode cX6_renew 16 = .ok (.istore_n 3, 1) := by decide +kernel
theorem dX6_renew_17 : decode cX6_renew 17 = .ok (.iload_n 3, 1) := by decide +kernel
theorem dX6_renew_18 : decode cX6_renew 18 = .ok (.bipush 16, 2) := by decide +kernel
theorem dX6_renew_20 : decode cX6_renew 20 = .ok (.if_icmp .ge 18, 3) := by decide +kernel
theorem dX6_renew_23 : decode cX6_renew 23 = .ok (.aload_n 0, 1) := by decide +kernel
theorem dX6_renew_24 : decode cX6_renew 24 = .ok (.getfield 11, 3) := by decide +kernel
theorem dX6_renew_27 : decode cX6_renew 27 = .ok (.iload_n 1, 1) := by decide +kernel
theorem dX6_renew_28 : decode cX6_renew 28 = .ok (.aaload, 1) := by decide +kernel
theorem dX6_renew_29 : decode cX6_renew 29 = .ok (.iload_n 3, 1) := by decide +kernel
theorem dX6_renew_30 : decode cX6_renew 30 = .ok (.iconst 0, 1) := by decide +kernel
theorem dX6_renew_31 : decode cX6_renew 31 = .ok (.iastore, 1) := by decide +kernel
theorem dX6_renew_32 : decode cX6_renew 32 = .ok (.iinc 3 1, 3) := by decide +kernel
theorem dX6_renew_35 : decode cX6_renew 35 = .ok (.goto (-18), 3) := by decide +kernel
theorem dX6_renew_38 : decode cX6_renew 38 = .ok (.return_, 1) := by decide +kernel
theorem dX6_put_0 : decode cX6_put 0 = .ok (.aload_n 0, 1) := by decide +kernel
theorem dX6_put_1 : decode cX6_put 1 = .ok (.iload_n 1, 1) := by decide +kernel
theorem dX6_put_2 : decode cX6_put 2 = .ok (.iload_n 2, 1) := by decide +kernel
theorem dX6_put_3 : decode cX6_put 3 = .ok (.invokevirtual 28, 3) := by decide +kernel
theorem dX6_put_6 : decode cX6_put 6 = .ok (.ifCond .eq 12, 3) := by decide +kernel
theorem dX6_put_9 : decode cX6_put 9 = .ok (.aload_n 0, 1) := by decide +kernel
theorem dX6_put_10 : decode cX6_put 10 = .ok (.getfield 11, 3) := by decide +kernel
theorem dX6_put_13 : decode cX6_put 13 = .ok (.iload_n 1, 1) := by decide +kernel
theorem dX6_put_14 : decode cX6_put 14 = .ok (.aaload, 1) := by decide +kernel
theorem dX6_put_15 : decode cX6_put 15 = .ok (.iload_n 2, 1) := by decide +kernel
theorem dX6_put_16 : decode cX6_put 16 = .ok (.iload_n 3, 1) := by decide +kernel
theorem dX6_put_17 : decode cX6_put 17 = .ok (.iastore, 1) := by decide +kernel
theorem dX6_put_18 : decode cX6_put 18 = .ok (.return_, 1) := by decide +kernel
theorem dX6_at_0 : decode cX6_at 0 = .ok (.aload_n 0, 1) := by decide +kernel
theorem dX6_at_1 : decode cX6_at 1 = .ok (.iload_n 1, 1) := by decide +kernel
theorem dX6_at_2 : decode cX6_at 2 = .ok (.iload_n 2, 1) := by decide +kernel
theorem dX6_at_3 : decode cX6_at 3 = .ok (.invokevirtual 28, 3) := by decide +kernel
theorem dX6_at_6 : decode cX6_at 6 = .ok (.ifCond .eq 14, 3) := by decide +kernel
theorem dX6_at_9 : decode cX6_at 9 = .ok (.aload_n 0, 1) := by decide +kernel
theorem dX6_at_10 : decode cX6_at 10 = .ok (.getfield 11, 3) := by decide +kernel
theorem dX6_at_13 : decode cX6_at 13 = .ok (.iload_n 1, 1) := by decide +kernel
theorem dX6_at_14 : decode cX6_at 14 = .ok (.aaload, 1) := by decide +kernel
theorem dX6_at_15 : decode cX6_at 15 = .ok (.iload_n 2, 1) := by decide +kernel
theorem dX6_at_16 : decode cX6_at 16 = .ok (.iaload, 1) := by decide +kernel
theorem dX6_at_17 : decode cX6_at 17 = .ok (.goto 4, 3) := by decide +kernel
theorem dX6_at_20 : decode cX6_at 20 = .ok (.iconst 0, 1) := by decide +kernel
theorem dX6_at_21 : decode cX6_at 21 = .ok (.ireturn, 1) := by decide +kernel
theorem dX7_init_0 : decode cX7_init 0 = .ok (.aload_n 0, 1) := by decide +kernel
theorem dX7_init_1 : decode cX7_init 1 = .ok (.invokespecial 3, 3) := by decide +kernel
theorem dX7_init_4 : decode cX7_init 4 = .ok (.aload_n 0, 1) := by decide +kernel
theorem dX7_init_5 : decode cX7_init 5 = .ok (.bipush 40, 2) := by decide +kernel
theorem dX7_init_7 : decode cX7_init 7 = .ok (.anewarray 9, 3) := by decide +kernel
theorem dX7_init_10 : decode cX7_init 10 = .ok (.putfield 11, 3) := by decide +kernel
theorem dX7_init_13 : decode cX7_init 13 = .ok (.return_, 1) := by decide +kernel
theorem dX7_isFull_0 : decode cX7_isFull 0 = .ok (.aload_n 0, 1) := by decide +kernel
theorem dX7_isFull_1 : decode cX7_isFull 1 = .ok (.getfield 17, 3) := by decide +kernel
theorem dX7_isFull_4 : decode cX7_isFull 4 = .ok (.bipush 40, 2) := by decide +kernel
theorem dX7_isFull_6 : decode cX7_isFull 6 = .ok (.if_icmp .lt 7, 3) := by decide +kernel
theorem dX7_isFull_9 : decode cX7_isFull 9 = .ok (.iconst 1, 1) := by decide +kernel
theorem dX7_isFull_10 : decode cX7_isFull 10 = .ok (.goto 4, 3) := by decide +kernel
theorem dX7_isFull_13 : decode cX7_isFull 13 = .ok (.iconst 0, 1) := by decide +kernel
theorem dX7_isFull_14 : decode cX7_isFull 14 = .ok (.ireturn, 1) := by decide +kernel
theorem dX7_add_0 : decode cX7_add 0 = .ok (.aload_n 0, 1) := by decide +kernel
theorem dX7_add_1 : decode cX7_add 1 = .ok (.getfield 11, 3) := by decide +kernel
theorem dX7_add_4 : decode cX7_add 4 = .ok (.aload_n 0, 1) := by decide +kernel
theorem dX7_add_5 : decode cX7_add 5 = .ok (.getfield 17, 3) := by decide +kernel
theorem dX7_add_8 : decode cX7_add 8 = .ok (.aload_n 1, 1) := by decide +kernel
theorem dX7_add_9 : decode cX7_add 9 = .ok (.aastore, 1) := by decide +kernel
theorem dX7_add_10 : decode cX7_add 10 = .ok (.aload_n 0, 1) := by decide +kernel
theorem dX7_add_11 : decode cX7_add 11 = .ok (.dup, 1) := by decide +kernel
theorem dX7_add_12 : decode cX7_add 12 = .ok (.getfield 17, 3) := by decide +kernel
theorem dX7_add_15 : decode cX7_add 15 = .ok (.iconst 1, 1) := by decide +kernel
theorem dX7_add_16 : decode cX7_add 16 = .ok (.iadd, 1) := by decide +kernel
theorem dX7_add_17 : decode cX7_add 17 = .ok (.putfield 17, 3) := by decide +kernel
theorem dX7_add_20 : decode cX7_add 20 = .ok (.aload_n 0, 1) := by decide +kernel
theorem dX7_add_21 : decode cX7_add 21 = .ok (.getfield 17, 3) := by decide +kernel
theorem dX7_add_24 : decode cX7_add 24 = .ok (.ireturn, 1) := by decide +kernel
theorem dX7_at_0 : decode cX7_at 0 = .ok (.iload_n 1, 1) := by decide +kernel
theorem dX7_at_1 : decode cX7_at 1 = .ok (.iconst 1, 1) := by decide +kernel
theorem dX7_at_2 : decode cX7_at 2 = .ok (.if_icmp .lt 22, 3) := by decide +kernel
theorem dX7_at_5 : decode cX7_at 5 = .ok (.iload_n 1, 1) := by decide +kernel
theorem dX7_at_6 : decode cX7_at 6 = .ok (.aload_n 0, 1) := by decide +kernel
theorem dX7_at_7 : decode cX7_at 7 = .ok (.getfield 17, 3) := by decide +kernel
theorem dX7_at_10 : decode cX7_at 10 = .ok (.if_icmp .gt 14, 3) := by decide +kernel
theorem dX7_at_13 : decode cX7_at 13 = .ok (.aload_n 0, 1) := by decide +kernel
theorem dX7_at_14 : decode cX7_at 14 = .ok (.getfield 11, 3) := by decide +kernel
theorem dX7_at_17 : decode cX7_at 17 = .ok (.iload_n 1, 1) := by decide +kernel
theorem dX7_at_18 : decode cX7_at 18 = .ok (.iconst 1, 1) := by decide +kernel
theorem dX7_at_19 : decode cX7_at 19 = .ok (.isub, 1) := by decide +kernel
theorem dX7_at_20 : decode cX7_at 20 = .ok (.aaload, 1) := by decide +kernel
theorem dX7_at_21 : decode cX7_at 21 = .ok (.goto 4, 3) := by decide +kernel
theorem dX7_at_24 : decode cX7_at 24 = .ok (.aconst_null, 1) := by decide +kernel
theorem dX7_at_25 : decode cX7_at 25 = .ok (.areturn, 1) := by decide +kernel
theorem dX8_init_0 : decode cX8_init 0 = .ok (.aload_n 0, 1) := by decide +kernel
theorem dX8_init_1 : decode cX8_init 1 = .ok (.invokespecial 3, 3) := by decide +kernel
theorem dX8_init_4 : decode cX8_init 4 = .ok (.aload_n 0, 1) := by decide +kernel
theorem dX8_init_5 : decode cX8_init 5 = .ok (.iconst 3, 1) := by decide +kernel
theorem dX8_init_6 : decode cX8_init 6 = .ok (.newarray .int, 2) := by decide +kernel
theorem dX8_init_8 : decode cX8_init 8 = .ok (.putfield 9, 3) := by decide +kernel
theorem dX8_init_11 : decode cX8_init 11 = .ok (.aload_n 0, 1) := by decide +kernel
theorem dX8_init_12 : decode cX8_init 12 = .ok (.new 15, 3) := by decide +kernel
theorem dX8_init_15 : decode cX8_init 15 = .ok (.dup, 1) := by decide +kernel
theorem dX8_init_16 : decode cX8_init 16 = .ok (.invokespecial 17, 3) := by decide +kernel
theorem dX8_init_19 : decode cX8_init 19 = .ok (.putfield 18, 3) := by decide +kernel
theorem dX8_init_22 : decode cX8_init 22 = .ok (.aload_n 0, 1) := by decide +kernel
theorem dX8_init_23 : decode cX8_init 23 = .ok (.bipush 9, 2) := by decide +kernel
theorem dX8_init_25 : decode cX8_init 25 = .ok (.anewarray 15, 3) := by decide +kernel
theorem dX8_init_28 : decode cX8_init 28 = .ok (.putfield 22, 3) := by decide +kernel
theorem dX8_init_31 : decode cX8_init 31 = .ok (.aload_n 0, 1) := by decide +kernel
theorem dX8_init_32 : decode cX8_init 32 = .ok (.iload_n 1, 1) := by decide +kernel
theorem dX8_init_33 : decode cX8_init 33 = .ok (.putfield 26, 3) := by decide +kernel
theorem dX8_init_36 : decode cX8_init 36 = .ok (.aload_n 0, 1) := by decide +kernel
theorem dX8_init_37 : decode cX8_init 37 = .ok (.iload_n 2, 1) := by decide +kernel
theorem dX8_init_38 : decode cX8_init 38 = .ok (.putfield 30, 3) := by decide +kernel
theorem dX8_init_41 : decode cX8_init 41 = .ok (.aload_n 0, 1) := by decide +kernel
theorem dX8_init_42 : decode cX8_init 42 = .ok (.iload_n 3, 1) := by decide +kernel
theorem dX8_init_43 : decode cX8_init 43 = .ok (.putfield 33, 3) := by decide +kernel
theorem dX8_init_46 : decode cX8_init 46 = .ok (.aload_n 0, 1) := by decide +kernel
theorem dX8_init_47 : decode cX8_init 47 = .ok (.iload_n 2, 1) := by decide +kernel
theorem dX8_init_48 : decode cX8_init 48 = .ok (.iconst 5, 1) := by decide +kernel
theorem dX8_init_49 : decode cX8_init 49 = .ok (.if_icmp .ne 7, 3) := by decide +kernel
theorem dX8_init_52 : decode cX8_init 52 = .ok (.iconst 3, 1) := by decide +kernel
theorem dX8_init_53 : decode cX8_init 53 = .ok (.goto 4, 3) := by decide +kernel
theorem dX8_init_56 : decode cX8_init 56 = .ok (.iconst 2, 1) := by decide +kernel
theorem dX8_init_57 : decode cX8_init 57 = .ok (.newarray .int, 2) := by decide +kernel
theorem dX8_init_59 : decode cX8_init 59 = .ok (.putfield 36, 3) := by decide +kernel
theorem dX8_init_62 : decode cX8_init 62 = .ok (.iconst 0, 1) := by decide +kernel
theorem dX8_init_63 : decode cX8_init 63 = .ok (.istore 4, 2) := by decide +kernel
theorem dX8_init_65 : decode cX8_init 65 = .ok (.iload 4, 2) := by decide +kernel
theorem dX8_init_67 : decode cX8_init 67 = .ok (.aload_n 0, 1) := by decide +kernel
theorem dX8_init_68 : decode cX8_init 68 = .ok (.getfield 36, 3) := by decide +kernel
theorem dX8_init_71 : decode cX8_init 71 = .ok (.arraylength, 1) := by decide +kernel
theorem dX8_init_72 : decode cX8_init 72 = .ok (.if_icmp .ge 17, 3) := by decide +kernel
theorem dX8_init_75 : decode cX8_init 75 = .ok (.aload_n 0, 1) := by decide +kernel
theorem dX8_init_76 : decode cX8_init 76 = .ok (.getfield 36, 3) := by decide +kernel
theorem dX8_init_79 : decode cX8_init 79 = .ok (.iload 4, 2) := by decide +kernel
theorem dX8_init_81 : decode cX8_init 81 = .ok (.iconst (-1), 1) := by decide +kernel
theorem dX8_init_82 : decode cX8_init 82 = .ok (.iastore, 1) := by decide +kernel
theorem dX8_init_83 : decode cX8_init 83 = .ok (.iinc 4 1, 3) := by decide +kernel
theorem dX8_init_86 : decode cX8_init 86 = .ok (.goto (-21), 3) := by decide +kernel
theorem dX8_init_89 : decode cX8_init 89 = .ok (.iconst 0, 1) := by decide +kernel
theorem dX8_init_90 : decode cX8_init 90 = .ok (.istore 4, 2) := by decide +kernel
theorem dX8_init_92 : decode cX8_init 92 = .ok (.iload 4, 2) := by decide +kernel
theorem dX8_init_94 : decode cX8_init 94 = .ok (.bipush 9, 2) := by decide +kernel
theorem dX8_init_96 : decode cX8_init 96 = .ok (.if_icmp .ge 23, 3) := by decide +kernel
theorem dX8_init_99 : decode cX8_init 99 = .ok (.aload_n 0, 1) := by decide +kernel
theorem dX8_init_100 : decode cX8_init 100 = .ok (.getfield 22, 3) := by decide +kernel
theorem dX8_init_103 : decode cX8_init 103 = .ok (.iload 4, 2) := by decide +kernel
theorem dX8_init_105 : decode cX8_init 105 = .ok (.new 15, 3) := by decide +kernel
theorem dX8_init_108 : decode cX8_init 108 = .ok (.dup, 1) := by decide +kernel
theorem dX8_init_109 : decode cX8_init 109 = .ok (.invokespecial 17, 3) := by decide +kernel
theorem dX8_init_112 : decode cX8_init 112 = .ok (.aastore, 1) := by decide +kernel
theorem dX8_init_113 : decode cX8_init 113 = .ok (.iinc 4 1, 3) := by decide +kernel
theorem dX8_init_116 : decode cX8_init 116 = .ok (.goto (-24), 3) := by decide +kernel
theorem dX8_init_119 : decode cX8_init 119 = .ok (.return_, 1) := by decide +kernel
theorem dX8_hasIn_0 : decode cX8_hasIn 0 = .ok (.iload_n 1, 1) := by decide +kernel
theorem dX8_hasIn_1 : decode cX8_hasIn 1 = .ok (.ifCond .lt 16, 3) := by decide +kernel
theorem dX8_hasIn_4 : decode cX8_hasIn 4 = .ok (.iload_n 1, 1) := by decide +kernel
theorem dX8_hasIn_5 : decode cX8_hasIn 5 = .ok (.aload_n 0, 1) := by decide +kernel
theorem dX8_hasIn_6 : decode cX8_hasIn 6 = .ok (.getfield 36, 3) := by decide +kernel
theorem dX8_hasIn_9 : decode cX8_hasIn 9 = .ok (.arraylength, 1) := by decide +kernel
theorem dX8_hasIn_10 : decode cX8_hasIn 10 = .ok (.if_icmp .ge 7, 3) := by decide +kernel
theorem dX8_hasIn_13 : decode cX8_hasIn 13 = .ok (.iconst 1, 1) := by decide +kernel
theorem dX8_hasIn_14 : decode cX8_hasIn 14 = .ok (.goto 4, 3) := by decide +kernel
theorem dX8_hasIn_17 : decode cX8_hasIn 17 = .ok (.iconst 0, 1) := by decide +kernel
theorem dX8_hasIn_18 : decode cX8_hasIn 18 = .ok (.ireturn, 1) := by decide +kernel
theorem dX8_inCount_0 : decode cX8_inCount 0 = .ok (.aload_n 0, 1) := by decide +kernel
theorem dX8_inCount_1 : decode cX8_inCount 1 = .ok (.getfield 36, 3) := by decide +kernel
theorem dX8_inCount_4 : decode cX8_inCount 4 = .ok (.arraylength, 1) := by decide +kernel
theorem dX8_inCount_5 : decode cX8_inCount 5 = .ok (.ireturn, 1) := by decide +kernel
theorem dX8_cordOf_0 : decode cX8_cordOf 0 = .ok (.aload_n 0, 1) := by decide +kernel
theorem dX8_cordOf_1 : decode cX8_cordOf 1 = .ok (.iload_n 1, 1) := by decide +kernel
theorem dX8_cordOf_2 : decode cX8_cordOf 2 = .ok (.invokevirtual 39, 3) := by decide +kernel
theorem dX8_cordOf_5 : decode cX8_cordOf 5 = .ok (.ifCond .eq 12, 3) := by decide +kernel
theorem dX8_cordOf_8 : decode cX8_cordOf 8 = .ok (.aload_n 0, 1) := by decide +kernel
theorem dX8_cordOf_9 : decode cX8_cordOf 9 = .ok (.getfield 36, 3) := by decide +kernel
theorem dX8_cordOf_12 : decode cX8_cordOf 12 = .ok (.iload_n 1, 1) := by decide +kernel
theorem dX8_cordOf_13 : decode cX8_cordOf 13 = .ok (.iaload, 1) := by decide +kernel
theorem dX8_cordOf_14 : decode cX8_cordOf 14 = .ok (.goto 4, 3) := by decide +kernel
theorem dX8_cordOf_17 : decode cX8_cordOf 17 = .ok (.iconst (-1), 1) := by decide +kernel
theorem dX8_cordOf_18 : decode cX8_cordOf 18 = .ok (.ireturn, 1) := by decide +kernel
theorem dX8_setCord_0 : decode cX8_setCord 0 = .ok (.aload_n 0, 1) := by decide +kernel
theorem dX8_setCord_1 : decode cX8_setCord 1 = .ok (.iload_n 1, 1) := by decide +kernel
theorem dX8_setCord_2 : decode cX8_setCord 2 = .ok (.invokevirtual 39, 3) := by decide +kernel
theorem dX8_setCord_5 : decode cX8_setCord 5 = .ok (.ifCond .eq 10, 3) := by decide +kernel
theorem dX8_setCord_8 : decode cX8_setCord 8 = .ok (.aload_n 0, 1) := by decide +kernel
theorem dX8_setCord_9 : decode cX8_setCord 9 = .ok (.getfield 36, 3) := by decide +kernel
theorem dX8_setCord_12 : decode cX8_setCord 12 = .ok (.iload_n 1, 1) := by decide +kernel
theorem dX8_setCord_13 : decode cX8_setCord 13 = .ok (.iload_n 2, 1) := by decide +kernel
theorem dX8_setCord_14 : decode cX8_setCord 14 = .ok (.iastore, 1) := by decide +kernel
theorem dX8_setCord_15 : decode cX8_setCord 15 = .ok (.return_, 1) := by decide +kernel
theorem dX8_remember_0 : decode cX8_remember 0 = .ok (.iload_n 1, 1) := by decide +kernel
theorem dX8_remember_1 : decode cX8_remember 1 = .ok (.ifCond .lt 22, 3) := by decide +kernel
theorem dX8_remember_4 : decode cX8_remember 4 = .ok (.iload_n 1, 1) := by decide +kernel
theorem dX8_remember_5 : decode cX8_remember 5 = .ok (.bipush 9, 2) := by decide +kernel
theorem dX8_remember_7 : decode cX8_remember 7 = .ok (.if_icmp .ge 16, 3) := by decide +kernel
theorem dX8_remember_10 : decode cX8_remember 10 = .ok (.aload_n 0, 1) := by decide +kernel
theorem dX8_remember_11 : decode cX8_remember 11 = .ok (.getfield 22, 3) := by decide +kernel
theorem dX8_remember_14 : decode cX8_remember 14 = .ok (.iload_n 1, 1) := by decide +kernel
theorem dX8_remember_15 : decode cX8_remember 15 = .ok (.aaload, 1) := by decide +kernel
theorem dX8_remember_16 : decode cX8_remember 16 = .ok (.aload_n 0, 1) := by decide +kernel
theorem dX8_remember_17 : decode cX8_remember 17 = .ok (.getfield 18, 3) := by decide +kernel
theorem dX8_remember_20 : decode cX8_remember 20 = .ok (.invokevirtual 43, 3) := by decide +kernel
theorem dX8_remember_23 : decode cX8_remember 23 = .ok (.return_, 1) := by decide +kernel
theorem dX8_becomeAsIn_0 : decode cX8_becomeAsIn 0 = .ok (.iload_n 1, 1) := by decide +kernel
theorem dX8_becomeAsIn_1 : decode cX8_becomeAsIn 1 = .ok (.ifCond .lt 22, 3) := by decide +kernel
theorem dX8_becomeAsIn_4 : decode cX8_becomeAsIn 4 = .ok (.iload_n 1, 1) := by decide +kernel
theorem dX8_becomeAsIn_5 : decode cX8_becomeAsIn 5 = .ok (.bipush 9, 2) := by decide +kernel
theorem dX8_becomeAsIn_7 : decode cX8_becomeAsIn 7 = .ok (.if_icmp .ge 16, 3) := by decide +kernel
theorem dX8_becomeAsIn_10 : decode cX8_becomeAsIn 10 = .ok (.aload_n 0, 1) := by decide +kernel
theorem dX8_becomeAsIn_11 : decode cX8_becomeAsIn 11 = .ok (.getfield 18, 3) := by decide +kernel
theorem dX8_becomeAsIn_14 : decode cX8_becomeAsIn 14 = .ok (.aload_n 0, 1) := by decide +kernel
theorem dX8_becomeAsIn_15 : decode cX8_becomeAsIn 15 = .ok (.getfield 22, 3) := by decide +kernel
theorem dX8_becomeAsIn_18 : decode cX8_becomeAsIn 18 = .ok (.iload_n 1, 1) := by decide +kernel
theorem dX8_becomeAsIn_19 : decode cX8_becomeAsIn 19 = .ok (.aaload, 1) := by decide +kernel
theorem dX8_becomeAsIn_20 : decode cX8_becomeAsIn 20 = .ok (.invokevirtual 43, 3) := by decide +kernel
theorem dX8_becomeAsIn_23 : decode cX8_becomeAsIn 23 = .ok (.return_, 1) := by decide +kernel
theorem dX9_init_0 : decode cX9_init 0 = .ok (.aload_n 0, 1) := by decide +kernel
theorem dX9_init_1 : decode cX9_init 1 = .ok (.invokespecial 3, 3) := by decide +kernel
theorem dX9_init_4 : decode cX9_init 4 = .ok (.aload_n 0, 1) := by decide +kernel
theorem dX9_init_5 : decode cX9_init 5 = .ok (.new 9, 3) := by decide +kernel
theorem dX9_init_8 : decode cX9_init 8 = .ok (.dup, 1) := by decide +kernel
theorem dX9_init_9 : decode cX9_init 9 = .ok (.invokespecial 11, 3) := by decide +kernel
theorem dX9_init_12 : decode cX9_init 12 = .ok (.putfield 12, 3) := by decide +kernel
theorem dX9_init_15 : decode cX9_init 15 = .ok (.aload_n 0, 1) := by decide +kernel
theorem dX9_init_16 : decode cX9_init 16 = .ok (.new 16, 3) := by decide +kernel
theorem dX9_init_19 : decode cX9_init 19 = .ok (.dup, 1) := by decide +kernel
theorem dX9_init_20 : decode cX9_init 20 = .ok (.invokespecial 18, 3) := by decide +kernel
theorem dX9_init_23 : decode cX9_init 23 = .ok (.putfield 19, 3) := by decide +kernel
theorem dX9_init_26 : decode cX9_init 26 = .ok (.aload_n 0, 1) := by decide +kernel
theorem dX9_init_27 : decode cX9_init 27 = .ok (.new 23, 3) := by decide +kernel
theorem dX9_init_30 : decode cX9_init 30 = .ok (.dup, 1) := by decide +kernel
theorem dX9_init_31 : decode cX9_init 31 = .ok (.invokespecial 25, 3) := by decide +kernel
theorem dX9_init_34 : decode cX9_init 34 = .ok (.putfield 26, 3) := by decide +kernel
theorem dX9_init_37 : decode cX9_init 37 = .ok (.aload_n 0, 1) := by decide +kernel
theorem dX9_init_38 : decode cX9_init 38 = .ok (.new 30, 3) := by decide +kernel
theorem dX9_init_41 : decode cX9_init 41 = .ok (.dup, 1) := by decide +kernel
theorem dX9_init_42 : decode cX9_init 42 = .ok (.invokespecial 32, 3) := by decide +kernel
theorem dX9_init_45 : decode cX9_init 45 = .ok (.putfield 33, 3) := by decide +kernel
theorem dX9_init_48 : decode cX9_init 48 = .ok (.aload_n 0, 1) := by decide +kernel
theorem dX9_init_49 : decode cX9_init 49 = .ok (.new 37, 3) := by decide +kernel
theorem dX9_init_52 : decode cX9_init 52 = .ok (.dup, 1) := by decide +kernel
theorem dX9_init_53 : decode cX9_init 53 = .ok (.aload_n 0, 1) := by decide +kernel
theorem dX9_init_54 : decode cX9_init 54 = .ok (.getfield 12, 3) := by decide +kernel
theorem dX9_init_57 : decode cX9_init 57 = .ok (.invokespecial 39, 3) := by decide +kernel
theorem dX9_init_60 : decode cX9_init 60 = .ok (.putfield 42, 3) := by decide +kernel
theorem dX9_init_63 : decode cX9_init 63 = .ok (.aload_n 0, 1) := by decide +kernel
theorem dX9_init_64 : decode cX9_init 64 = .ok (.new 46, 3) := by decide +kernel
theorem dX9_init_67 : decode cX9_init 67 = .ok (.dup, 1) := by decide +kernel
theorem dX9_init_68 : decode cX9_init 68 = .ok (.aload_n 0, 1) := by decide +kernel
theorem dX9_init_69 : decode cX9_init 69 = .ok (.getfield 12, 3) := by decide +kernel
theorem dX9_init_72 : decode cX9_init 72 = .ok (.aload_n 0, 1) := by decide +kernel
theorem dX9_init_73 : decode cX9_init 73 = .ok (.getfield 19, 3) := by decide +kernel
theorem dX9_init_76 : decode cX9_init 76 = .ok (.invokespecial 48, 3) := by decide +kernel
theorem dX9_init_79 : decode cX9_init 79 = .ok (.putfield 51, 3) := by decide +kernel
theorem dX9_init_82 : decode cX9_init 82 = .ok (.return_, 1) := by decide +kernel
theorem dX9_module_0 : decode cX9_module 0 = .ok (.iload_n 1, 1) := by decide +kernel
theorem dX9_module_1 : decode cX9_module 1 = .ok (.ifCond .lt 18, 3) := by decide +kernel
theorem dX9_module_4 : decode cX9_module 4 = .ok (.iload_n 1, 1) := by decide +kernel
theorem dX9_module_5 : decode cX9_module 5 = .ok (.bipush 10, 2) := by decide +kernel
theorem dX9_module_7 : decode cX9_module 7 = .ok (.if_icmp .gt 12, 3) := by decide +kernel
theorem dX9_module_10 : decode cX9_module 10 = .ok (.iload_n 2, 1) := by decide +kernel
theorem dX9_module_11 : decode cX9_module 11 = .ok (.ifCond .lt 8, 3) := by decide +kernel
theorem dX9_module_14 : decode cX9_module 14 = .ok (.iload_n 2, 1) := by decide +kernel
theorem dX9_module_15 : decode cX9_module 15 = .ok (.iconst 4, 1) := by decide +kernel
theorem dX9_module_16 : decode cX9_module 16 = .ok (.if_icmp .le 5, 3) := by decide +kernel
theorem dX9_module_19 : decode cX9_module 19 = .ok (.iconst (-1), 1) := by decide +kernel
theorem dX9_module_20 : decode cX9_module 20 = .ok (.ireturn, 1) := by decide +kernel
theorem dX9_module_21 : decode cX9_module 21 = .ok (.aload_n 0, 1) := by decide +kernel
theorem dX9_module_22 : decode cX9_module 22 = .ok (.getfield 12, 3) := by decide +kernel
theorem dX9_module_25 : decode cX9_module 25 = .ok (.invokevirtual 55, 3) := by decide +kernel
theorem dX9_module_28 : decode cX9_module 28 = .ok (.ifCond .eq 8, 3) := by decide +kernel
theorem dX9_module_31 : decode cX9_module 31 = .ok (.bipush (-2), 2) := by decide +kernel
theorem dX9_module_33 : decode cX9_module 33 = .ok (.goto 12, 3) := by decide +kernel
theorem dX9_module_36 : decode cX9_module 36 = .ok (.aload_n 0, 1) := by decide +kernel
theorem dX9_module_37 : decode cX9_module 37 = .ok (.getfield 12, 3) := by decide +kernel
theorem dX9_module_40 : decode cX9_module 40 = .ok (.iload_n 1, 1) := by decide +kernel
theorem dX9_module_41 : decode cX9_module 41 = .ok (.iload_n 2, 1) := by decide +kernel
theorem dX9_module_42 : decode cX9_module 42 = .ok (.invokevirtual 59, 3) := by decide +kernel
theorem dX9_module_45 : decode cX9_module 45 = .ok (.ireturn, 1) := by decide +kernel
theorem dX9_cord_0 : decode cX9_cord 0 = .ok (.aload_n 0, 1) := by decide +kernel
theorem dX9_cord_1 : decode cX9_cord 1 = .ok (.getfield 12, 3) := by decide +kernel
theorem dX9_cord_4 : decode cX9_cord 4 = .ok (.iload_n 2, 1) := by decide +kernel
theorem dX9_cord_5 : decode cX9_cord 5 = .ok (.invokevirtual 63, 3) := by decide +kernel
theorem dX9_cord_8 : decode cX9_cord 8 = .ok (.astore 4, 2) := by decide +kernel
theorem dX9_cord_10 : decode cX9_cord 10 = .ok (.aload 4, 2) := by decide +kernel
theorem dX9_cord_12 : decode cX9_cord 12 = .ok (.ifnull 28, 3) := by decide +kernel
theorem dX9_cord_15 : decode cX9_cord 15 = .ok (.aload 4, 2) := by decide +kernel
theorem dX9_cord_17 : decode cX9_cord 17 = .ok (.iload_n 3, 1) := by decide +kernel
theorem dX9_cord_18 : decode cX9_cord 18 = .ok (.invokevirtual 67, 3) := by decide +kernel
theorem dX9_cord_21 : decode cX9_cord 21 = .ok (.ifCond .eq 19, 3) := by decide +kernel
theorem dX9_cord_24 : decode cX9_cord 24 = .ok (.iload_n 1, 1) := by decide +kernel
theorem dX9_cord_25 : decode cX9_cord 25 = .ok (.iconst (-1), 1) := by decide +kernel
theorem dX9_cord_26 : decode cX9_cord 26 = .ok (.if_icmp .eq 16, 3) := by decide +kernel
theorem dX9_cord_29 : decode cX9_cord 29 = .ok (.aload_n 0, 1) := by decide +kernel
theorem dX9_cord_30 : decode cX9_cord 30 = .ok (.getfield 12, 3) := by decide +kernel
theorem dX9_cord_33 : decode cX9_cord 33 = .ok (.iload_n 1, 1) := by decide +kernel
theorem dX9_cord_34 : decode cX9_cord 34 = .ok (.invokevirtual 63, 3) := by decide +kernel
theorem dX9_cord_37 : decode cX9_cord 37 = .ok (.ifnonnull 5, 3) := by decide +kernel
theorem dX9_cord_40 : decode cX9_cord 40 = .ok (.iconst (-1), 1) := by decide +kernel
theorem dX9_cord_41 : decode cX9_cord 41 = .ok (.ireturn, 1) := by decide +kernel
theorem dX9_cord_42 : decode cX9_cord 42 = .ok (.aload_n 0, 1) := by decide +kernel
theorem dX9_cord_43 : decode cX9_cord 43 = .ok (.getfield 12, 3) := by decide +kernel
theorem dX9_cord_46 : decode cX9_cord 46 = .ok (.iload_n 1, 1) := by decide +kernel
theorem dX9_cord_47 : decode cX9_cord 47 = .ok (.iload_n 2, 1) := by decide +kernel
theorem dX9_cord_48 : decode cX9_cord 48 = .ok (.invokevirtual 73, 3) := by decide +kernel
theorem dX9_cord_51 : decode cX9_cord 51 = .ok (.istore 5, 2) := by decide +kernel
theorem dX9_cord_53 : decode cX9_cord 53 = .ok (.iload 5, 2) := by decide +kernel
theorem dX9_cord_55 : decode cX9_cord 55 = .ok (.ifCond .le 9, 3) := by decide +kernel
theorem dX9_cord_58 : decode cX9_cord 58 = .ok (.bipush (-10), 2) := by decide +kernel
theorem dX9_cord_60 : decode cX9_cord 60 = .ok (.iload 5, 2) := by decide +kernel
theorem dX9_cord_62 : decode cX9_cord 62 = .ok (.isub, 1) := by decide +kernel
theorem dX9_cord_63 : decode cX9_cord 63 = .ok (.ireturn, 1) := by decide +kernel
theorem dX9_cord_64 : decode cX9_cord 64 = .ok (.aload_n 0, 1) := by decide +kernel
theorem dX9_cord_65 : decode cX9_cord 65 = .ok (.getfield 12, 3) := by decide +kernel
theorem dX9_cord_68 : decode cX9_cord 68 = .ok (.iload_n 1, 1) := by decide +kernel
theorem dX9_cord_69 : decode cX9_cord 69 = .ok (.aload 4, 2) := by decide +kernel
theorem dX9_cord_71 : decode cX9_cord 71 = .ok (.iload_n 3, 1) := by decide +kernel
theorem dX9_cord_72 : decode cX9_cord 72 = .ok (.invokevirtual 76, 3) := by decide +kernel
theorem dX9_cord_75 : decode cX9_cord 75 = .ok (.iconst 1, 1) := by decide +kernel
theorem dX9_cord_76 : decode cX9_cord 76 = .ok (.ireturn, 1) := by decide +kernel
theorem dX9_from_0 : decode cX9_from 0 = .ok (.aload_n 0, 1) := by decide +kernel
theorem dX9_from_1 : decode cX9_from 1 = .ok (.getfield 12, 3) := by decide +kernel
theorem dX9_from_4 : decode cX9_from 4 = .ok (.iload_n 1, 1) := by decide +kernel
theorem dX9_from_5 : decode cX9_from 5 = .ok (.invokevirtual 63, 3) := by decide +kernel
theorem dX9_from_8 : decode cX9_from 8 = .ok (.astore_n 3, 1) := by decide +kernel
theorem dX9_from_9 : decode cX9_from 9 = .ok (.aload_n 3, 1) := by decide +kernel
theorem dX9_from_10 : decode cX9_from 10 = .ok (.ifnull 11, 3) := by decide +kernel
theorem dX9_from_13 : decode cX9_from 13 = .ok (.aload_n 3, 1) := by decide +kernel
theorem dX9_from_14 : decode cX9_from 14 = .ok (.iload_n 2, 1) := by decide +kernel
theorem dX9_from_15 : decode cX9_from 15 = .ok (.invokevirtual 67, 3) := by decide +kernel
theorem dX9_from_18 : decode cX9_from 18 = .ok (.ifCond .ne 8, 3) := by decide +kernel
theorem dX9_from_21 : decode cX9_from 21 = .ok (.bipush (-2), 2) := by decide +kernel
theorem dX9_from_23 : decode cX9_from 23 = .ok (.goto 8, 3) := by decide +kernel
theorem dX9_from_26 : decode cX9_from 26 = .ok (.aload_n 3, 1) := by decide +kernel
theorem dX9_from_27 : decode cX9_from 27 = .ok (.iload_n 2, 1) := by decide +kernel
theorem dX9_from_28 : decode cX9_from 28 = .ok (.invokevirtual 80, 3) := by decide +kernel
theorem dX9_from_31 : decode cX9_from 31 = .ok (.ireturn, 1) := by decide +kernel
theorem dX9_knob_0 : decode cX9_knob 0 = .ok (.aload_n 0, 1) := by decide +kernel
theorem dX9_knob_1 : decode cX9_knob 1 = .ok (.getfield 12, 3) := by decide +kernel
theorem dX9_knob_4 : decode cX9_knob 4 = .ok (.iload_n 1, 1) := by decide +kernel
theorem dX9_knob_5 : decode cX9_knob 5 = .ok (.invokevirtual 63, 3) := by decide +kernel
theorem dX9_knob_8 : decode cX9_knob 8 = .ok (.astore 4, 2) := by decide +kernel
theorem dX9_knob_10 : decode cX9_knob 10 = .ok (.aload 4, 2) := by decide +kernel
theorem dX9_knob_12 : decode cX9_knob 12 = .ok (.ifnull 26, 3) := by decide +kernel
theorem dX9_knob_15 : decode cX9_knob 15 = .ok (.iload_n 2, 1) := by decide +kernel
theorem dX9_knob_16 : decode cX9_knob 16 = .ok (.ifCond .lt 22, 3) := by decide +kernel
theorem dX9_knob_19 : decode cX9_knob 19 = .ok (.iload_n 2, 1) := by decide +kernel
theorem dX9_knob_20 : decode cX9_knob 20 = .ok (.iconst 3, 1) := by decide +kernel
theorem dX9_knob_21 : decode cX9_knob 21 = .ok (.if_icmp .ge 17, 3) := by decide +kernel
theorem dX9_knob_24 : decode cX9_knob 24 = .ok (.iload_n 3, 1) := by decide +kernel
theorem dX9_knob_25 : decode cX9_knob 25 = .ok (.sipush (-1000), 3) := by decide +kernel
theorem dX9_knob_28 : decode cX9_knob 28 = .ok (.if_icmp .lt 10, 3) := by decide +kernel
theorem dX9_knob_31 : decode cX9_knob 31 = .ok (.iload_n 3, 1) := by decide +kernel
theorem dX9_knob_32 : decode cX9_knob 32 = .ok (.sipush 1000, 3) := by decide +kernel
theorem dX9_knob_35 : decode cX9_knob 35 = .ok (.if_icmp .le 7, 3) := by decide +kernel
theorem dX9_knob_38 : decode cX9_knob 38 = .ok (.sipush (-2000), 3) := by decide +kernel
theorem dX9_knob_41 : decode cX9_knob 41 = .ok (.ireturn, 1) := by decide +kernel
theorem dX9_knob_42 : decode cX9_knob 42 = .ok (.aload 4, 2) := by decide +kernel
theorem dX9_knob_44 : decode cX9_knob 44 = .ok (.getfield 84, 3) := by decide +kernel
theorem dX9_knob_47 : decode cX9_knob 47 = .ok (.iload_n 2, 1) := by decide +kernel
theorem dX9_knob_48 : decode cX9_knob 48 = .ok (.iaload, 1) := by decide +kernel
theorem dX9_knob_49 : decode cX9_knob 49 = .ok (.istore 5, 2) := by decide +kernel
theorem dX9_knob_51 : decode cX9_knob 51 = .ok (.aload 4, 2) := by decide +kernel
theorem dX9_knob_53 : decode cX9_knob 53 = .ok (.getfield 84, 3) := by decide +kernel
theorem dX9_knob_56 : decode cX9_knob 56 = .ok (.iload_n 2, 1) := by decide +kernel
theorem dX9_knob_57 : decode cX9_knob 57 = .ok (.iload_n 3, 1) := by decide +kernel
theorem dX9_knob_58 : decode cX9_knob 58 = .ok (.iastore, 1) := by decide +kernel
theorem dX9_knob_59 : decode cX9_knob 59 = .ok (.iload 5, 2) := by decide +kernel
theorem dX9_knob_61 : decode cX9_knob 61 = .ok (.ireturn, 1) := by decide +kernel
theorem dX9_table_0 : decode cX9_table 0 = .ok (.aload_n 0, 1) := by decide +kernel
theorem dX9_table_1 : decode cX9_table 1 = .ok (.getfield 19, 3) := by decide +kernel
theorem dX9_table_4 : decode cX9_table 4 = .ok (.iload_n 1, 1) := by decide +kernel
theorem dX9_table_5 : decode cX9_table 5 = .ok (.invokevirtual 88, 3) := by decide +kernel
theorem dX9_table_8 : decode cX9_table 8 = .ok (.ifCond .eq 14, 3) := by decide +kernel
theorem dX9_table_11 : decode cX9_table 11 = .ok (.iload_n 2, 1) := by decide +kernel
theorem dX9_table_12 : decode cX9_table 12 = .ok (.iconst (-1), 1) := by decide +kernel
theorem dX9_table_13 : decode cX9_table 13 = .ok (.if_icmp .lt 9, 3) := by decide +kernel
theorem dX9_table_16 : decode cX9_table 16 = .ok (.iload_n 2, 1) := by decide +kernel
theorem dX9_table_17 : decode cX9_table 17 = .ok (.bipush 16, 2) := by decide +kernel
theorem dX9_table_19 : decode cX9_table 19 = .ok (.if_icmp .le 5, 3) := by decide +kernel
theorem dX9_table_22 : decode cX9_table 22 = .ok (.iconst (-1), 1) := by decide +kernel
theorem dX9_table_23 : decode cX9_table 23 = .ok (.ireturn, 1) := by decide +kernel
theorem dX9_table_24 : decode cX9_table 24 = .ok (.aload_n 0, 1) := by decide +kernel
theorem dX9_table_25 : decode cX9_table 25 = .ok (.getfield 19, 3) := by decide +kernel
theorem dX9_table_28 : decode cX9_table 28 = .ok (.iload_n 1, 1) := by decide +kernel
theorem dX9_table_29 : decode cX9_table 29 = .ok (.iload_n 2, 1) := by decide +kernel
theorem dX9_table_30 : decode cX9_table 30 = .ok (.invokevirtual 91, 3) := by decide +kernel
theorem dX9_table_33 : decode cX9_table 33 = .ok (.iconst 1, 1) := by decide +kernel
theorem dX9_table_34 : decode cX9_table 34 = .ok (.ireturn, 1) := by decide +kernel
theorem dX9_write_0 : decode cX9_write 0 = .ok (.aload_n 0, 1) := by decide +kernel
theorem dX9_write_1 : decode cX9_write 1 = .ok (.getfield 19, 3) := by decide +kernel
theorem dX9_write_4 : decode cX9_write 4 = .ok (.iload_n 1, 1) := by decide +kernel
theorem dX9_write_5 : decode cX9_write 5 = .ok (.invokevirtual 88, 3) := by decide +kernel
theorem dX9_write_8 : decode cX9_write 8 = .ok (.ifCond .ne 5, 3) := by decide +kernel
theorem dX9_write_11 : decode cX9_write 11 = .ok (.iconst (-1), 1) := by decide +kernel
theorem dX9_write_12 : decode cX9_write 12 = .ok (.ireturn, 1) := by decide +kernel
theorem dX9_write_13 : decode cX9_write 13 = .ok (.aload_n 0, 1) := by decide +kernel
theorem dX9_write_14 : decode cX9_write 14 = .ok (.getfield 19, 3) := by decide +kernel
theorem dX9_write_17 : decode cX9_write 17 = .ok (.iload_n 1, 1) := by decide +kernel
theorem dX9_write_18 : decode cX9_write 18 = .ok (.invokevirtual 95, 3) := by decide +kernel
theorem dX9_write_21 : decode cX9_write 21 = .ok (.ifCond .eq 6, 3) := by decide +kernel
theorem dX9_write_24 : decode cX9_write 24 = .ok (.bipush (-2), 2) := by decide +kernel
theorem dX9_write_26 : decode cX9_write 26 = .ok (.ireturn, 1) := by decide +kernel
theorem dX9_write_27 : decode cX9_write 27 = .ok (.aload_n 0, 1) := by decide +kernel
theorem dX9_write_28 : decode cX9_write 28 = .ok (.getfield 19, 3) := by decide +kernel
theorem dX9_write_31 : decode cX9_write 31 = .ok (.iload_n 1, 1) := by decide +kernel
theorem dX9_write_32 : decode cX9_write 32 = .ok (.iload_n 2, 1) := by decide +kernel
theorem dX9_write_33 : decode cX9_write 33 = .ok (.invokevirtual 98, 3) := by decide +kernel
theorem dX9_write_36 : decode cX9_write 36 = .ok (.ifCond .ne 6, 3) := by decide +kernel
theorem dX9_write_39 : decode cX9_write 39 = .ok (.bipush (-3), 2) := by decide +kernel
theorem dX9_write_41 : decode cX9_write 41 = .ok (.ireturn, 1) := by decide +kernel
theorem dX9_write_42 : decode cX9_write 42 = .ok (.aload_n 0, 1) := by decide +kernel
theorem dX9_write_43 : decode cX9_write 43 = .ok (.getfield 19, 3) := by decide +kernel
theorem dX9_write_46 : decode cX9_write 46 = .ok (.iload_n 1, 1) := by decide +kernel
theorem dX9_write_47 : decode cX9_write 47 = .ok (.iload_n 2, 1) := by decide +kernel
theorem dX9_write_48 : decode cX9_write 48 = .ok (.iload_n 3, 1) := by decide +kernel
theorem dX9_write_49 : decode cX9_write 49 = .ok (.invokevirtual 102, 3) := by decide +kernel
theorem dX9_write_52 : decode cX9_write 52 = .ok (.iconst 1, 1) := by decide +kernel
theorem dX9_write_53 : decode cX9_write 53 = .ok (.ireturn, 1) := by decide +kernel
theorem dX9_block_0 : decode cX9_block 0 = .ok (.iload_n 1, 1) := by decide +kernel
theorem dX9_block_1 : decode cX9_block 1 = .ok (.iconst 1, 1) := by decide +kernel
theorem dX9_block_2 : decode cX9_block 2 = .ok (.if_icmp .lt 9, 3) := by decide +kernel
theorem dX9_block_5 : decode cX9_block 5 = .ok (.iload_n 1, 1) := by decide +kernel
theorem dX9_block_6 : decode cX9_block 6 = .ok (.bipush 16, 2) := by decide +kernel
theorem dX9_block_8 : decode cX9_block 8 = .ok (.if_icmp .le 5, 3) := by decide +kernel
theorem dX9_block_11 : decode cX9_block 11 = .ok (.iconst (-1), 1) := by decide +kernel
theorem dX9_block_12 : decode cX9_block 12 = .ok (.ireturn, 1) := by decide +kernel
theorem dX9_block_13 : decode cX9_block 13 = .ok (.aload_n 0, 1) := by decide +kernel
theorem dX9_block_14 : decode cX9_block 14 = .ok (.getfield 42, 3) := by decide +kernel
theorem dX9_block_17 : decode cX9_block 17 = .ok (.invokevirtual 106, 3) := by decide +kernel
theorem dX9_block_20 : decode cX9_block 20 = .ok (.aload_n 0, 1) := by decide +kernel
theorem dX9_block_21 : decode cX9_block 21 = .ok (.getfield 51, 3) := by decide +kernel
theorem dX9_block_24 : decode cX9_block 24 = .ok (.iload_n 1, 1) := by decide +kernel
theorem dX9_block_25 : decode cX9_block 25 = .ok (.invokevirtual 109, 3) := by decide +kernel
theorem dX9_block_28 : decode cX9_block 28 = .ok (.istore_n 2, 1) := by decide +kernel
theorem dX9_block_29 : decode cX9_block 29 = .ok (.iload_n 2, 1) := by decide +kernel
theorem dX9_block_30 : decode cX9_block 30 = .ok (.ifCond .ne 13, 3) := by decide +kernel
theorem dX9_block_33 : decode cX9_block 33 = .ok (.aload_n 0, 1) := by decide +kernel
theorem dX9_block_34 : decode cX9_block 34 = .ok (.getfield 42, 3) := by decide +kernel
theorem dX9_block_37 : decode cX9_block 37 = .ok (.invokevirtual 112, 3) := by decide +kernel
theorem dX9_block_40 : decode cX9_block 40 = .ok (.goto 10, 3) := by decide +kernel
theorem dX9_block_43 : decode cX9_block 43 = .ok (.aload_n 0, 1) := by decide +kernel
theorem dX9_block_44 : decode cX9_block 44 = .ok (.getfield 42, 3) := by decide +kernel
theorem dX9_block_47 : decode cX9_block 47 = .ok (.invokevirtual 115, 3) := by decide +kernel
theorem dX9_block_50 : decode cX9_block 50 = .ok (.iload_n 2, 1) := by decide +kernel
theorem dX9_block_51 : decode cX9_block 51 = .ok (.ireturn, 1) := by decide +kernel
theorem dX9_back_0 : decode cX9_back 0 = .ok (.iload_n 1, 1) := by decide +kernel
theorem dX9_back_1 : decode cX9_back 1 = .ok (.iconst 1, 1) := by decide +kernel
theorem dX9_back_2 : decode cX9_back 2 = .ok (.if_icmp .lt 20, 3) := by decide +kernel
theorem dX9_back_5 : decode cX9_back 5 = .ok (.iload_n 1, 1) := by decide +kernel
theorem dX9_back_6 : decode cX9_back 6 = .ok (.bipush 8, 2) := by decide +kernel
theorem dX9_back_8 : decode cX9_back 8 = .ok (.if_icmp .gt 14, 3) := by decide +kernel
theorem dX9_back_11 : decode cX9_back 11 = .ok (.iload_n 1, 1) := by decide +kernel
theorem dX9_back_12 : decode cX9_back 12 = .ok (.aload_n 0, 1) := by decide +kernel
theorem dX9_back_13 : decode cX9_back 13 = .ok (.getfield 42, 3) := by decide +kernel
theorem dX9_back_16 : decode cX9_back 16 = .ok (.getfield 118, 3) := by decide +kernel
theorem dX9_back_19 : decode cX9_back 19 = .ok (.if_icmp .le 5, 3) := by decide +kernel
theorem dX9_back_22 : decode cX9_back 22 = .ok (.iconst (-1), 1) := by decide +kernel
theorem dX9_back_23 : decode cX9_back 23 = .ok (.ireturn, 1) := by decide +kernel
theorem dX9_back_24 : decode cX9_back 24 = .ok (.aload_n 0, 1) := by decide +kernel
theorem dX9_back_25 : decode cX9_back 25 = .ok (.getfield 42, 3) := by decide +kernel
theorem dX9_back_28 : decode cX9_back 28 = .ok (.iload_n 1, 1) := by decide +kernel
theorem dX9_back_29 : decode cX9_back 29 = .ok (.invokevirtual 122, 3) := by decide +kernel
theorem dX9_back_32 : decode cX9_back 32 = .ok (.aload_n 0, 1) := by decide +kernel
theorem dX9_back_33 : decode cX9_back 33 = .ok (.getfield 42, 3) := by decide +kernel
theorem dX9_back_36 : decode cX9_back 36 = .ok (.getfield 118, 3) := by decide +kernel
theorem dX9_back_39 : decode cX9_back 39 = .ok (.ireturn, 1) := by decide +kernel
theorem dX9_keep_0 : decode cX9_keep 0 = .ok (.aload_n 0, 1) := by decide +kernel
theorem dX9_keep_1 : decode cX9_keep 1 = .ok (.getfield 26, 3) := by decide +kernel
theorem dX9_keep_4 : decode cX9_keep 4 = .ok (.iload_n 1, 1) := by decide +kernel
theorem dX9_keep_5 : decode cX9_keep 5 = .ok (.invokevirtual 126, 3) := by decide +kernel
theorem dX9_keep_8 : decode cX9_keep 8 = .ok (.ifCond .eq 18, 3) := by decide +kernel
theorem dX9_keep_11 : decode cX9_keep 11 = .ok (.aload_n 0, 1) := by decide +kernel
theorem dX9_keep_12 : decode cX9_keep 12 = .ok (.getfield 26, 3) := by decide +kernel
theorem dX9_keep_15 : decode cX9_keep 15 = .ok (.iload_n 1, 1) := by decide +kernel
theorem dX9_keep_16 : decode cX9_keep 16 = .ok (.aload_n 0, 1) := by decide +kernel
theorem dX9_keep_17 : decode cX9_keep 17 = .ok (.getfield 12, 3) := by decide +kernel
theorem dX9_keep_20 : decode cX9_keep 20 = .ok (.invokevirtual 127, 3) := by decide +kernel
theorem dX9_keep_23 : decode cX9_keep 23 = .ok (.goto 4, 3) := by decide +kernel
theorem dX9_keep_26 : decode cX9_keep 26 = .ok (.iconst (-1), 1) := by decide +kernel
theorem dX9_keep_27 : decode cX9_keep 27 = .ok (.ireturn, 1) := by decide +kernel
theorem dX9_recall_0 : decode cX9_recall 0 = .ok (.aload_n 0, 1) := by decide +kernel
theorem dX9_recall_1 : decode cX9_recall 1 = .ok (.getfield 26, 3) := by decide +kernel
theorem dX9_recall_4 : decode cX9_recall 4 = .ok (.iload_n 1, 1) := by decide +kernel
theorem dX9_recall_5 : decode cX9_recall 5 = .ok (.invokevirtual 126, 3) := by decide +kernel
theorem dX9_recall_8 : decode cX9_recall 8 = .ok (.ifCond .ne 5, 3) := by decide +kernel
theorem dX9_recall_11 : decode cX9_recall 11 = .ok (.iconst (-1), 1) := by decide +kernel
theorem dX9_recall_12 : decode cX9_recall 12 = .ok (.ireturn, 1) := by decide +kernel
theorem dX9_recall_13 : decode cX9_recall 13 = .ok (.aload_n 0, 1) := by decide +kernel
theorem dX9_recall_14 : decode cX9_recall 14 = .ok (.getfield 26, 3) := by decide +kernel
theorem dX9_recall_17 : decode cX9_recall 17 = .ok (.iload_n 1, 1) := by decide +kernel
theorem dX9_recall_18 : decode cX9_recall 18 = .ok (.invokevirtual 131, 3) := by decide +kernel
theorem dX9_recall_21 : decode cX9_recall 21 = .ok (.ifCond .eq 8, 3) := by decide +kernel
theorem dX9_recall_24 : decode cX9_recall 24 = .ok (.bipush (-2), 2) := by decide +kernel
theorem dX9_recall_26 : decode cX9_recall 26 = .ok (.goto 15, 3) := by decide +kernel
theorem dX9_recall_29 : decode cX9_recall 29 = .ok (.aload_n 0, 1) := by decide +kernel
theorem dX9_recall_30 : decode cX9_recall 30 = .ok (.getfield 26, 3) := by decide +kernel
theorem dX9_recall_33 : decode cX9_recall 33 = .ok (.iload_n 1, 1) := by decide +kernel
theorem dX9_recall_34 : decode cX9_recall 34 = .ok (.aload_n 0, 1) := by decide +kernel
theorem dX9_recall_35 : decode cX9_recall 35 = .ok (.getfield 12, 3) := by decide +kernel
theorem dX9_recall_38 : decode cX9_recall 38 = .ok (.invokevirtual 134, 3) := by decide +kernel
theorem dX9_recall_41 : decode cX9_recall 41 = .ok (.ireturn, 1) := by decide +kernel
theorem dX9_take_0 : decode cX9_take 0 = .ok (.aload_n 0, 1) := by decide +kernel
theorem dX9_take_1 : decode cX9_take 1 = .ok (.getfield 12, 3) := by decide +kernel
theorem dX9_take_4 : decode cX9_take 4 = .ok (.iload_n 1, 1) := by decide +kernel
theorem dX9_take_5 : decode cX9_take 5 = .ok (.invokevirtual 63, 3) := by decide +kernel
theorem dX9_take_8 : decode cX9_take 8 = .ok (.ifnonnull 5, 3) := by decide +kernel
theorem dX9_take_11 : decode cX9_take 11 = .ok (.iconst (-1), 1) := by decide +kernel
theorem dX9_take_12 : decode cX9_take 12 = .ok (.ireturn, 1) := by decide +kernel
theorem dX9_take_13 : decode cX9_take 13 = .ok (.aload_n 0, 1) := by decide +kernel
theorem dX9_take_14 : decode cX9_take 14 = .ok (.getfield 12, 3) := by decide +kernel
theorem dX9_take_17 : decode cX9_take 17 = .ok (.iload_n 1, 1) := by decide +kernel
theorem dX9_take_18 : decode cX9_take 18 = .ok (.invokevirtual 137, 3) := by decide +kernel
theorem dX9_take_21 : decode cX9_take 21 = .ok (.astore_n 2, 1) := by decide +kernel
theorem dX9_take_22 : decode cX9_take 22 = .ok (.aload_n 2, 1) := by decide +kernel
theorem dX9_take_23 : decode cX9_take 23 = .ok (.ifnonnull 6, 3) := by decide +kernel
theorem dX9_take_26 : decode cX9_take 26 = .ok (.bipush (-2), 2) := by decide +kernel
theorem dX9_take_28 : decode cX9_take 28 = .ok (.ireturn, 1) := by decide +kernel
theorem dX9_take_29 : decode cX9_take 29 = .ok (.aload_n 0, 1) := by decide +kernel
theorem dX9_take_30 : decode cX9_take 30 = .ok (.getfield 33, 3) := by decide +kernel
theorem dX9_take_33 : decode cX9_take 33 = .ok (.invokevirtual 141, 3) := by decide +kernel
theorem dX9_take_36 : decode cX9_take 36 = .ok (.ifCond .eq 8, 3) := by decide +kernel
theorem dX9_take_39 : decode cX9_take 39 = .ok (.bipush (-3), 2) := by decide +kernel
theorem dX9_take_41 : decode cX9_take 41 = .ok (.goto 11, 3) := by decide +kernel
theorem dX9_take_44 : decode cX9_take 44 = .ok (.aload_n 0, 1) := by decide +kernel
theorem dX9_take_45 : decode cX9_take 45 = .ok (.getfield 33, 3) := by decide +kernel
theorem dX9_take_48 : decode cX9_take 48 = .ok (.aload_n 2, 1) := by decide +kernel
theorem dX9_take_49 : decode cX9_take 49 = .ok (.invokevirtual 142, 3) := by decide +kernel
theorem dX9_take_52 : decode cX9_take 52 = .ok (.ireturn, 1) := by decide +kernel
theorem dX9_equal_0 : decode cX9_equal 0 = .ok (.aload_n 0, 1) := by decide +kernel
theorem dX9_equal_1 : decode cX9_equal 1 = .ok (.getfield 33, 3) := by decide +kernel
theorem dX9_equal_4 : decode cX9_equal 4 = .ok (.iload_n 1, 1) := by decide +kernel
theorem dX9_equal_5 : decode cX9_equal 5 = .ok (.invokevirtual 145, 3) := by decide +kernel
theorem dX9_equal_8 : decode cX9_equal 8 = .ok (.astore_n 3, 1) := by decide +kernel
theorem dX9_equal_9 : decode cX9_equal 9 = .ok (.aload_n 0, 1) := by decide +kernel
theorem dX9_equal_10 : decode cX9_equal 10 = .ok (.getfield 33, 3) := by decide +kernel
theorem dX9_equal_13 : decode cX9_equal 13 = .ok (.iload_n 2, 1) := by decide +kernel
theorem dX9_equal_14 : decode cX9_equal 14 = .ok (.invokevirtual 145, 3) := by decide +kernel
theorem dX9_equal_17 : decode cX9_equal 17 = .ok (.astore 4, 2) := by decide +kernel
theorem dX9_equal_19 : decode cX9_equal 19 = .ok (.aload_n 3, 1) := by decide +kernel
theorem dX9_equal_20 : decode cX9_equal 20 = .ok (.ifnull 8, 3) := by decide +kernel
theorem dX9_equal_23 : decode cX9_equal 23 = .ok (.aload 4, 2) := by decide +kernel
theorem dX9_equal_25 : decode cX9_equal 25 = .ok (.ifnonnull 5, 3) := by decide +kernel
theorem dX9_equal_28 : decode cX9_equal 28 = .ok (.iconst (-1), 1) := by decide +kernel
theorem dX9_equal_29 : decode cX9_equal 29 = .ok (.ireturn, 1) := by decide +kernel
theorem dX9_equal_30 : decode cX9_equal 30 = .ok (.aload_n 3, 1) := by decide +kernel
theorem dX9_equal_31 : decode cX9_equal 31 = .ok (.aload 4, 2) := by decide +kernel
theorem dX9_equal_33 : decode cX9_equal 33 = .ok (.invokevirtual 147, 3) := by decide +kernel
theorem dX9_equal_36 : decode cX9_equal 36 = .ok (.ifCond .eq 7, 3) := by decide +kernel
theorem dX9_equal_39 : decode cX9_equal 39 = .ok (.iconst 1, 1) := by decide +kernel
theorem dX9_equal_40 : decode cX9_equal 40 = .ok (.goto 4, 3) := by decide +kernel
theorem dX9_equal_43 : decode cX9_equal 43 = .ok (.iconst 0, 1) := by decide +kernel
theorem dX9_equal_44 : decode cX9_equal 44 = .ok (.ireturn, 1) := by decide +kernel
theorem dX9_row_0 : decode cX9_row 0 = .ok (.aload_n 0, 1) := by decide +kernel
theorem dX9_row_1 : decode cX9_row 1 = .ok (.getfield 12, 3) := by decide +kernel
theorem dX9_row_4 : decode cX9_row 4 = .ok (.iload_n 1, 1) := by decide +kernel
theorem dX9_row_5 : decode cX9_row 5 = .ok (.invokevirtual 63, 3) := by decide +kernel
theorem dX9_row_8 : decode cX9_row 8 = .ok (.ifnull 12, 3) := by decide +kernel
theorem dX9_row_11 : decode cX9_row 11 = .ok (.iload_n 2, 1) := by decide +kernel
theorem dX9_row_12 : decode cX9_row 12 = .ok (.ifCond .lt 8, 3) := by decide +kernel
theorem dX9_row_15 : decode cX9_row 15 = .ok (.iload_n 2, 1) := by decide +kernel
theorem dX9_row_16 : decode cX9_row 16 = .ok (.iconst 3, 1) := by decide +kernel
theorem dX9_row_17 : decode cX9_row 17 = .ok (.if_icmp .le 6, 3) := by decide +kernel
theorem dX9_row_20 : decode cX9_row 20 = .ok (.bipush (-2), 2) := by decide +kernel
theorem dX9_row_22 : decode cX9_row 22 = .ok (.ireturn, 1) := by decide +kernel
theorem dX9_row_23 : decode cX9_row 23 = .ok (.aload_n 0, 1) := by decide +kernel
theorem dX9_row_24 : decode cX9_row 24 = .ok (.getfield 12, 3) := by decide +kernel
theorem dX9_row_27 : decode cX9_row 27 = .ok (.iload_n 1, 1) := by decide +kernel
theorem dX9_row_28 : decode cX9_row 28 = .ok (.invokevirtual 137, 3) := by decide +kernel
theorem dX9_row_31 : decode cX9_row 31 = .ok (.astore_n 3, 1) := by decide +kernel
theorem dX9_row_32 : decode cX9_row 32 = .ok (.aload_n 3, 1) := by decide +kernel
theorem dX9_row_33 : decode cX9_row 33 = .ok (.ifnonnull 5, 3) := by decide +kernel
theorem dX9_row_36 : decode cX9_row 36 = .ok (.iconst (-1), 1) := by decide +kernel
theorem dX9_row_37 : decode cX9_row 37 = .ok (.ireturn, 1) := by decide +kernel
theorem dX9_row_38 : decode cX9_row 38 = .ok (.iload_n 2, 1) := by decide +kernel
theorem dX9_row_39 : decode cX9_row 39 = .ok (.tableswitch 48 0 2 #[25, 30, 35], 25) := by decide +kernel
theorem dX9_row_64 : decode cX9_row 64 = .ok (.aload_n 3, 1) := by decide +kernel
theorem dX9_row_65 : decode cX9_row 65 = .ok (.getfield 153, 3) := by decide +kernel
theorem dX9_row_68 : decode cX9_row 68 = .ok (.ireturn, 1) := by decide +kernel
theorem dX9_row_69 : decode cX9_row 69 = .ok (.aload_n 3, 1) := by decide +kernel
theorem dX9_row_70 : decode cX9_row 70 = .ok (.getfield 156, 3) := by decide +kernel
theorem dX9_row_73 : decode cX9_row 73 = .ok (.ireturn, 1) := by decide +kernel
theorem dX9_row_74 : decode cX9_row 74 = .ok (.aload_n 3, 1) := by decide +kernel
theorem dX9_row_75 : decode cX9_row 75 = .ok (.invokevirtual 159, 3) := by decide +kernel
theorem dX9_row_78 : decode cX9_row 78 = .ok (.ifCond .eq 7, 3) := by decide +kernel
theorem dX9_row_81 : decode cX9_row 81 = .ok (.iconst 1, 1) := by decide +kernel
theorem dX9_row_82 : decode cX9_row 82 = .ok (.goto 4, 3) := by decide +kernel
theorem dX9_row_85 : decode cX9_row 85 = .ok (.iconst 0, 1) := by decide +kernel
theorem dX9_row_86 : decode cX9_row 86 = .ok (.ireturn, 1) := by decide +kernel
theorem dX9_row_87 : decode cX9_row 87 = .ok (.aload_n 3, 1) := by decide +kernel
theorem dX9_row_88 : decode cX9_row 88 = .ok (.invokevirtual 162, 3) := by decide +kernel
theorem dX9_row_91 : decode cX9_row 91 = .ok (.ireturn, 1) := by decide +kernel
theorem dX9_sample_0 : decode cX9_sample 0 = .ok (.aload_n 0, 1) := by decide +kernel
theorem dX9_sample_1 : decode cX9_sample 1 = .ok (.getfield 12, 3) := by decide +kernel
theorem dX9_sample_4 : decode cX9_sample 4 = .ok (.iload_n 1, 1) := by decide +kernel
theorem dX9_sample_5 : decode cX9_sample 5 = .ok (.invokevirtual 137, 3) := by decide +kernel
theorem dX9_sample_8 : decode cX9_sample 8 = .ok (.astore_n 3, 1) := by decide +kernel
theorem dX9_sample_9 : decode cX9_sample 9 = .ok (.aload_n 3, 1) := by decide +kernel
theorem dX9_sample_10 : decode cX9_sample 10 = .ok (.ifnonnull 7, 3) := by decide +kernel
theorem dX9_sample_13 : decode cX9_sample 13 = .ok (.dconst 0, 1) := by decide +kernel
theorem dX9_sample_14 : decode cX9_sample 14 = .ok (.goto 8, 3) := by decide +kernel
theorem dX9_sample_17 : decode cX9_sample 17 = .ok (.aload_n 3, 1) := by decide +kernel
theorem dX9_sample_18 : decode cX9_sample 18 = .ok (.iload_n 2, 1) := by decide +kernel
theorem dX9_sample_19 : decode cX9_sample 19 = .ok (.invokevirtual 166, 3) := by decide +kernel
theorem dX9_sample_22 : decode cX9_sample 22 = .ok (.dreturn, 1) := by decide +kernel
theorem dX9_isNone_0 : decode cX9_isNone 0 = .ok (.aload_n 0, 1) := by decide +kernel
theorem dX9_isNone_1 : decode cX9_isNone 1 = .ok (.getfield 12, 3) := by decide +kernel
theorem dX9_isNone_4 : decode cX9_isNone 4 = .ok (.iload_n 1, 1) := by decide +kernel
theorem dX9_isNone_5 : decode cX9_isNone 5 = .ok (.invokevirtual 137, 3) := by decide +kernel
theorem dX9_isNone_8 : decode cX9_isNone 8 = .ok (.astore_n 3, 1) := by decide +kernel
theorem dX9_isNone_9 : decode cX9_isNone 9 = .ok (.aload_n 3, 1) := by decide +kernel
theorem dX9_isNone_10 : decode cX9_isNone 10 = .ok (.ifnull 15, 3) := by decide +kernel
theorem dX9_isNone_13 : decode cX9_isNone 13 = .ok (.aload_n 3, 1) := by decide +kernel
theorem dX9_isNone_14 : decode cX9_isNone 14 = .ok (.iload_n 2, 1) := by decide +kernel
theorem dX9_isNone_15 : decode cX9_isNone 15 = .ok (.invokevirtual 170, 3) := by decide +kernel
theorem dX9_isNone_18 : decode cX9_isNone 18 = .ok (.ifCond .eq 7, 3) := by decide +kernel
theorem dX9_isNone_21 : decode cX9_isNone 21 = .ok (.iconst 1, 1) := by decide +kernel
theorem dX9_isNone_22 : decode cX9_isNone 22 = .ok (.goto 4, 3) := by decide +kernel
theorem dX9_isNone_25 : decode cX9_isNone 25 = .ok (.iconst 0, 1) := by decide +kernel
theorem dX9_isNone_26 : decode cX9_isNone 26 = .ok (.ireturn, 1) := by decide +kernel
theorem dX9_order_0 : decode cX9_order 0 = .ok (.aload_n 0, 1) := by decide +kernel
theorem dX9_order_1 : decode cX9_order 1 = .ok (.getfield 12, 3) := by decide +kernel
theorem dX9_order_4 : decode cX9_order 4 = .ok (.iload_n 1, 1) := by decide +kernel
theorem dX9_order_5 : decode cX9_order 5 = .ok (.invokevirtual 173, 3) := by decide +kernel
theorem dX9_order_8 : decode cX9_order 8 = .ok (.ireturn, 1) := by decide +kernel
theorem dX9_trace_0 : decode cX9_trace 0 = .ok (.aload_n 0, 1) := by decide +kernel
theorem dX9_trace_1 : decode cX9_trace 1 = .ok (.getfield 51, 3) := by decide +kernel
theorem dX9_trace_4 : decode cX9_trace 4 = .ok (.iload_n 1, 1) := by decide +kernel
theorem dX9_trace_5 : decode cX9_trace 5 = .ok (.invokevirtual 176, 3) := by decide +kernel
theorem dX9_trace_8 : decode cX9_trace 8 = .ok (.ireturn, 1) := by decide +kernel
theorem dX9_finding_0 : decode cX9_finding 0 = .ok (.aload_n 0, 1) := by decide +kernel
theorem dX9_finding_1 : decode cX9_finding 1 = .ok (.getfield 51, 3) := by decide +kernel
theorem dX9_finding_4 : decode cX9_finding 4 = .ok (.getfield 179, 3) := by decide +kernel
theorem dX9_finding_7 : decode cX9_finding 7 = .ok (.ifCond .ne 5, 3) := by decide +kernel
theorem dX9_finding_10 : decode cX9_finding 10 = .ok (.iconst (-1), 1) := by decide +kernel
theorem dX9_finding_11 : decode cX9_finding 11 = .ok (.ireturn, 1) := by decide +kernel
theorem dX9_finding_12 : decode cX9_finding 12 = .ok (.iload_n 1, 1) := by decide +kernel
theorem dX9_finding_13 : decode cX9_finding 13 = .ok (.tableswitch 51 0 2 #[27, 35, 43], 27) := by decide +kernel
theorem dX9_finding_40 : decode cX9_finding 40 = .ok (.aload_n 0, 1) := by decide +kernel
theorem dX9_finding_41 : decode cX9_finding 41 = .ok (.getfield 51, 3) := by decide +kernel
theorem dX9_finding_44 : decode cX9_finding 44 = .ok (.getfield 179, 3) := by decide +kernel
theorem dX9_finding_47 : decode cX9_finding 47 = .ok (.ireturn, 1) := by decide +kernel
theorem dX9_finding_48 : decode cX9_finding 48 = .ok (.aload_n 0, 1) := by decide +kernel
theorem dX9_finding_49 : decode cX9_finding 49 = .ok (.getfield 51, 3) := by decide +kernel
theorem dX9_finding_52 : decode cX9_finding 52 = .ok (.getfield 182, 3) := by decide +kernel
theorem dX9_finding_55 : decode cX9_finding 55 = .ok (.ireturn, 1) := by decide +kernel
theorem dX9_finding_56 : decode cX9_finding 56 = .ok (.aload_n 0, 1) := by decide +kernel
theorem dX9_finding_57 : decode cX9_finding 57 = .ok (.getfield 51, 3) := by decide +kernel
theorem dX9_finding_60 : decode cX9_finding 60 = .ok (.getfield 185, 3) := by decide +kernel
theorem dX9_finding_63 : decode cX9_finding 63 = .ok (.ireturn, 1) := by decide +kernel
theorem dX9_finding_64 : decode cX9_finding 64 = .ok (.iconst (-1), 1) := by decide +kernel
theorem dX9_finding_65 : decode cX9_finding 65 = .ok (.ireturn, 1) := by decide +kernel
theorem dX9_count_0 : decode cX9_count 0 = .ok (.iload_n 1, 1) := by decide +kernel
theorem dX9_count_1 : decode cX9_count 1 = .ok (.tableswitch 75 0 4 #[35, 43, 51, 59, 67], 35) := by decide +kernel
theorem dX9_count_36 : decode cX9_count 36 = .ok (.aload_n 0, 1) := by decide +kernel
theorem dX9_count_37 : decode cX9_count 37 = .ok (.getfield 12, 3) := by decide +kernel
theorem dX9_count_40 : decode cX9_count 40 = .ok (.getfield 188, 3) := by decide +kernel
theorem dX9_count_43 : decode cX9_count 43 = .ok (.ireturn, 1) := by decide +kernel
theorem dX9_count_44 : decode cX9_count 44 = .ok (.aload_n 0, 1) := by decide +kernel
theorem dX9_count_45 : decode cX9_count 45 = .ok (.getfield 12, 3) := by decide +kernel
theorem dX9_count_48 : decode cX9_count 48 = .ok (.invokevirtual 191, 3) := by decide +kernel
theorem dX9_count_51 : decode cX9_count 51 = .ok (.ireturn, 1) := by decide +kernel
theorem dX9_count_52 : decode cX9_count 52 = .ok (.aload_n 0, 1) := by decide +kernel
theorem dX9_count_53 : decode cX9_count 53 = .ok (.getfield 42, 3) := by decide +kernel
theorem dX9_count_56 : decode cX9_count 56 = .ok (.getfield 194, 3) := by decide +kernel
theorem dX9_count_59 : decode cX9_count 59 = .ok (.ireturn, 1) := by decide +kernel
theorem dX9_count_60 : decode cX9_count 60 = .ok (.aload_n 0, 1) := by decide +kernel
theorem dX9_count_61 : decode cX9_count 61 = .ok (.getfield 42, 3) := by decide +kernel
theorem dX9_count_64 : decode cX9_count 64 = .ok (.getfield 118, 3) := by decide +kernel
theorem dX9_count_67 : decode cX9_count 67 = .ok (.ireturn, 1) := by decide +kernel
theorem dX9_count_68 : decode cX9_count 68 = .ok (.aload_n 0, 1) := by decide +kernel
theorem dX9_count_69 : decode cX9_count 69 = .ok (.getfield 33, 3) := by decide +kernel
theorem dX9_count_72 : decode cX9_count 72 = .ok (.getfield 197, 3) := by decide +kernel
theorem dX9_count_75 : decode cX9_count 75 = .ok (.ireturn, 1) := by decide +kernel
theorem dX9_count_76 : decode cX9_count 76 = .ok (.aload_n 0, 1) := by decide +kernel
theorem dX9_count_77 : decode cX9_count 77 = .ok (.iload_n 1, 1) := by decide +kernel
theorem dX9_count_78 : decode cX9_count 78 = .ok (.invokevirtual 198, 3) := by decide +kernel
theorem dX9_count_81 : decode cX9_count 81 = .ok (.ireturn, 1) := by decide +kernel
theorem dX9_countOfModule_0 : decode cX9_countOfModule 0 = .ok (.iload_n 1, 1) := by decide +kernel
theorem dX9_countOfModule_1 : decode cX9_countOfModule 1 = .ok (.bipush 40, 2) := by decide +kernel
theorem dX9_countOfModule_3 : decode cX9_countOfModule 3 = .ok (.if_icmp .lt 42, 3) := by decide +kernel
theorem dX9_countOfModule_6 : decode cX9_countOfModule 6 = .ok (.iload_n 1, 1) := by decide +kernel
theorem dX9_countOfModule_7 : decode cX9_countOfModule 7 = .ok (.bipush 40, 2) := by decide +kernel
theorem dX9_countOfModule_9 : decode cX9_countOfModule 9 = .ok (.aload_n 0, 1) := by decide +kernel
theorem dX9_countOfModule_10 : decode cX9_countOfModule 10 = .ok (.getfield 12, 3) := by decide +kernel
theorem dX9_countOfModule_13 : decode cX9_countOfModule 13 = .ok (.getfield 188, 3) := by decide +kernel
theorem dX9_countOfModule_16 : decode cX9_countOfModule 16 = .ok (.iadd, 1) := by decide +kernel
theorem dX9_countOfModule_17 : decode cX9_countOfModule 17 = .ok (.if_icmp .ge 28, 3) := by decide +kernel
theorem dX9_countOfModule_20 : decode cX9_countOfModule 20 = .ok (.aload_n 0, 1) := by decide +kernel
theorem dX9_countOfModule_21 : decode cX9_countOfModule 21 = .ok (.getfield 12, 3) := by decide +kernel
theorem dX9_countOfModule_24 : decode cX9_countOfModule 24 = .ok (.iload_n 1, 1) := by decide +kernel
theorem dX9_countOfModule_25 : decode cX9_countOfModule 25 = .ok (.bipush 40, 2) := by decide +kernel
theorem dX9_countOfModule_27 : decode cX9_countOfModule 27 = .ok (.isub, 1) := by decide +kernel
theorem dX9_countOfModule_28 : decode cX9_countOfModule 28 = .ok (.invokevirtual 63, 3) := by decide +kernel
theorem dX9_countOfModule_31 : decode cX9_countOfModule 31 = .ok (.astore_n 2, 1) := by decide +kernel
theorem dX9_countOfModule_32 : decode cX9_countOfModule 32 = .ok (.aload_n 2, 1) := by decide +kernel
theorem dX9_countOfModule_33 : decode cX9_countOfModule 33 = .ok (.ifnonnull 7, 3) := by decide +kernel
theorem dX9_countOfModule_36 : decode cX9_countOfModule 36 = .ok (.iconst (-1), 1) := by decide +kernel
theorem dX9_countOfModule_37 : decode cX9_countOfModule 37 = .ok (.goto 7, 3) := by decide +kernel
theorem dX9_countOfModule_40 : decode cX9_countOfModule 40 = .ok (.aload_n 2, 1) := by decide +kernel
theorem dX9_countOfModule_41 : decode cX9_countOfModule 41 = .ok (.getfield 201, 3) := by decide +kernel
theorem dX9_countOfModule_44 : decode cX9_countOfModule 44 = .ok (.ireturn, 1) := by decide +kernel
theorem dX9_countOfModule_45 : decode cX9_countOfModule 45 = .ok (.iload_n 1, 1) := by decide +kernel
theorem dX9_countOfModule_46 : decode cX9_countOfModule 46 = .ok (.bipush 10, 2) := by decide +kernel
theorem dX9_countOfModule_48 : decode cX9_countOfModule 48 = .ok (.if_icmp .lt 45, 3) := by decide +kernel
theorem dX9_countOfModule_51 : decode cX9_countOfModule 51 = .ok (.iload_n 1, 1) := by decide +kernel
theorem dX9_countOfModule_52 : decode cX9_countOfModule 52 = .ok (.bipush 10, 2) := by decide +kernel
theorem dX9_countOfModule_54 : decode cX9_countOfModule 54 = .ok (.aload_n 0, 1) := by decide +kernel
theorem dX9_countOfModule_55 : decode cX9_countOfModule 55 = .ok (.getfield 12, 3) := by decide +kernel
theorem dX9_countOfModule_58 : decode cX9_countOfModule 58 = .ok (.getfield 188, 3) := by decide +kernel
theorem dX9_countOfModule_61 : decode cX9_countOfModule 61 = .ok (.iadd, 1) := by decide +kernel
theorem dX9_countOfModule_62 : decode cX9_countOfModule 62 = .ok (.if_icmp .ge 31, 3) := by decide +kernel
theorem dX9_countOfModule_65 : decode cX9_countOfModule 65 = .ok (.aload_n 0, 1) := by decide +kernel
theorem dX9_countOfModule_66 : decode cX9_countOfModule 66 = .ok (.getfield 12, 3) := by decide +kernel
theorem dX9_countOfModule_69 : decode cX9_countOfModule 69 = .ok (.iload_n 1, 1) := by decide +kernel
theorem dX9_countOfModule_70 : decode cX9_countOfModule 70 = .ok (.bipush 10, 2) := by decide +kernel
theorem dX9_countOfModule_72 : decode cX9_countOfModule 72 = .ok (.isub, 1) := by decide +kernel
theorem dX9_countOfModule_73 : decode cX9_countOfModule 73 = .ok (.invokevirtual 63, 3) := by decide +kernel
theorem dX9_countOfModule_76 : decode cX9_countOfModule 76 = .ok (.astore_n 2, 1) := by decide +kernel
theorem dX9_countOfModule_77 : decode cX9_countOfModule 77 = .ok (.aload_n 2, 1) := by decide +kernel
theorem dX9_countOfModule_78 : decode cX9_countOfModule 78 = .ok (.ifnonnull 7, 3) := by decide +kernel
theorem dX9_countOfModule_81 : decode cX9_countOfModule 81 = .ok (.iconst (-1), 1) := by decide +kernel
theorem dX9_countOfModule_82 : decode cX9_countOfModule 82 = .ok (.goto 10, 3) := by decide +kernel
theorem dX9_countOfModule_85 : decode cX9_countOfModule 85 = .ok (.aload_n 2, 1) := by decide +kernel
theorem dX9_countOfModule_86 : decode cX9_countOfModule 86 = .ok (.getfield 202, 3) := by decide +kernel
theorem dX9_countOfModule_89 : decode cX9_countOfModule 89 = .ok (.getfield 206, 3) := by decide +kernel
theorem dX9_countOfModule_92 : decode cX9_countOfModule 92 = .ok (.ireturn, 1) := by decide +kernel
theorem dX9_countOfModule_93 : decode cX9_countOfModule 93 = .ok (.iconst (-1), 1) := by decide +kernel
theorem dX9_countOfModule_94 : decode cX9_countOfModule 94 = .ok (.ireturn, 1) := by decide +kernel
theorem dX9_heldFloating_0 : decode cX9_heldFloating 0 = .ok (.dload_n 0, 1) := by decide +kernel
theorem dX9_heldFloating_1 : decode cX9_heldFloating 1 = .ok (.ldc2_w 211, 3) := by decide +kernel
theorem dX9_heldFloating_4 : decode cX9_heldFloating 4 = .ok (.dcmp .l, 1) := by decide +kernel
theorem dX9_heldFloating_5 : decode cX9_heldFloating 5 = .ok (.ifCond .le 7, 3) := by decide +kernel
theorem dX9_heldFloating_8 : decode cX9_heldFloating 8 = .ok (.ldc2_w 211, 3) := by decide +kernel
theorem dX9_heldFloating_11 : decode cX9_heldFloating 11 = .ok (.dreturn, 1) := by decide +kernel
theorem dX9_heldFloating_12 : decode cX9_heldFloating 12 = .ok (.dload_n 0, 1) := by decide +kernel
theorem dX9_heldFloating_13 : decode cX9_heldFloating 13 = .ok (.ldc2_w 213, 3) := by decide +kernel
theorem dX9_heldFloating_16 : decode cX9_heldFloating 16 = .ok (.dcmp .g, 1) := by decide +kernel
theorem dX9_heldFloating_17 : decode cX9_heldFloating 17 = .ok (.ifCond .ge 9, 3) := by decide +kernel
theorem dX9_heldFloating_20 : decode cX9_heldFloating 20 = .ok (.ldc2_w 213, 3) := by decide +kernel
theorem dX9_heldFloating_23 : decode cX9_heldFloating 23 = .ok (.goto 4, 3) := by decide +kernel
theorem dX9_heldFloating_26 : decode cX9_heldFloating 26 = .ok (.dload_n 0, 1) := by decide +kernel
theorem dX9_heldFloating_27 : decode cX9_heldFloating 27 = .ok (.dreturn, 1) := by decide +kernel
theorem dX10_init_0 : decode cX10_init 0 = .ok (.aload_n 0, 1) := by decide +kernel
theorem dX10_init_1 : decode cX10_init 1 = .ok (.invokespecial 1, 3) := by decide +kernel
theorem dX10_init_4 : decode cX10_init 4 = .ok (.aload_n 0, 1) := by decide +kernel
theorem dX10_init_5 : decode cX10_init 5 = .ok (.sipush 19680, 3) := by decide +kernel
theorem dX10_init_8 : decode cX10_init 8 = .ok (.newarray .double, 2) := by decide +kernel
theorem dX10_init_10 : decode cX10_init 10 = .ok (.putfield 7, 3) := by decide +kernel
theorem dX10_init_13 : decode cX10_init 13 = .ok (.aload_n 0, 1) := by decide +kernel
theorem dX10_init_14 : decode cX10_init 14 = .ok (.sipush 4800, 3) := by decide +kernel
theorem dX10_init_17 : decode cX10_init 17 = .ok (.newarray .int, 2) := by decide +kernel
theorem dX10_init_19 : decode cX10_init 19 = .ok (.putfield 13, 3) := by decide +kernel
theorem dX10_init_22 : decode cX10_init 22 = .ok (.aload_n 0, 1) := by decide +kernel
theorem dX10_init_23 : decode cX10_init 23 = .ok (.bipush 24, 2) := by decide +kernel
theorem dX10_init_25 : decode cX10_init 25 = .ok (.newarray .int, 2) := by decide +kernel
theorem dX10_init_27 : decode cX10_init 27 = .ok (.putfield 17, 3) := by decide +kernel
theorem dX10_init_30 : decode cX10_init 30 = .ok (.aload_n 0, 1) := by decide +kernel
theorem dX10_init_31 : decode cX10_init 31 = .ok (.bipush 24, 2) := by decide +kernel
theorem dX10_init_33 : decode cX10_init 33 = .ok (.newarray .int, 2) := by decide +kernel
theorem dX10_init_35 : decode cX10_init 35 = .ok (.putfield 20, 3) := by decide +kernel
theorem dX10_init_38 : decode cX10_init 38 = .ok (.aload_n 0, 1) := by decide +kernel
theorem dX10_init_39 : decode cX10_init 39 = .ok (.bipush 72, 2) := by decide +kernel
theorem dX10_init_41 : decode cX10_init 41 = .ok (.newarray .int, 2) := by decide +kernel
theorem dX10_init_43 : decode cX10_init 43 = .ok (.putfield 23, 3) := by decide +kernel
theorem dX10_init_46 : decode cX10_init 46 = .ok (.aload_n 0, 1) := by decide +kernel
theorem dX10_init_47 : decode cX10_init 47 = .ok (.bipush 72, 2) := by decide +kernel
theorem dX10_init_49 : decode cX10_init 49 = .ok (.newarray .int, 2) := by decide +kernel
theorem dX10_init_51 : decode cX10_init 51 = .ok (.putfield 26, 3) := by decide +kernel
theorem dX10_init_54 : decode cX10_init 54 = .ok (.aload_n 0, 1) := by decide +kernel
theorem dX10_init_55 : decode cX10_init 55 = .ok (.sipush 128, 3) := by decide +kernel
theorem dX10_init_58 : decode cX10_init 58 = .ok (.newarray .int, 2) := by decide +kernel
theorem dX10_init_60 : decode cX10_init 60 = .ok (.putfield 29, 3) := by decide +kernel
theorem dX10_init_63 : decode cX10_init 63 = .ok (.aload_n 0, 1) := by decide +kernel
theorem dX10_init_64 : decode cX10_init 64 = .ok (.bipush 8, 2) := by decide +kernel
theorem dX10_init_66 : decode cX10_init 66 = .ok (.newarray .int, 2) := by decide +kernel
theorem dX10_init_68 : decode cX10_init 68 = .ok (.putfield 32, 3) := by decide +kernel
theorem dX10_init_71 : decode cX10_init 71 = .ok (.aload_n 0, 1) := by decide +kernel
theorem dX10_init_72 : decode cX10_init 72 = .ok (.bipush 24, 2) := by decide +kernel
theorem dX10_init_74 : decode cX10_init 74 = .ok (.newarray .int, 2) := by decide +kernel
theorem dX10_init_76 : decode cX10_init 76 = .ok (.putfield 35, 3) := by decide +kernel
theorem dX10_init_79 : decode cX10_init 79 = .ok (.aload_n 0, 1) := by decide +kernel
theorem dX10_init_80 : decode cX10_init 80 = .ok (.bipush 48, 2) := by decide +kernel
theorem dX10_init_82 : decode cX10_init 82 = .ok (.newarray .int, 2) := by decide +kernel
theorem dX10_init_84 : decode cX10_init 84 = .ok (.putfield 38, 3) := by decide +kernel
theorem dX10_init_87 : decode cX10_init 87 = .ok (.aload_n 0, 1) := by decide +kernel
theorem dX10_init_88 : decode cX10_init 88 = .ok (.sipush 576, 3) := by decide +kernel
theorem dX10_init_91 : decode cX10_init 91 = .ok (.newarray .int, 2) := by decide +kernel
theorem dX10_init_93 : decode cX10_init 93 = .ok (.putfield 41, 3) := by decide +kernel
theorem dX10_init_96 : decode cX10_init 96 = .ok (.aload_n 0, 1) := by decide +kernel
theorem dX10_init_97 : decode cX10_init 97 = .ok (.bipush 8, 2) := by decide +kernel
theorem dX10_init_99 : decode cX10_init 99 = .ok (.newarray .int, 2) := by decide +kernel
theorem dX10_init_101 : decode cX10_init 101 = .ok (.putfield 44, 3) := by decide +kernel
theorem dX10_init_104 : decode cX10_init 104 = .ok (.aload_n 0, 1) := by decide +kernel
theorem dX10_init_105 : decode cX10_init 105 = .ok (.bipush 40, 2) := by decide +kernel
theorem dX10_init_107 : decode cX10_init 107 = .ok (.newarray .int, 2) := by decide +kernel
theorem dX10_init_109 : decode cX10_init 109 = .ok (.putfield 47, 3) := by decide +kernel
theorem dX10_init_112 : decode cX10_init 112 = .ok (.aload_n 0, 1) := by decide +kernel
theorem dX10_init_113 : decode cX10_init 113 = .ok (.bipush 40, 2) := by decide +kernel
theorem dX10_init_115 : decode cX10_init 115 = .ok (.newarray .int, 2) := by decide +kernel
theorem dX10_init_117 : decode cX10_init 117 = .ok (.putfield 50, 3) := by decide +kernel
theorem dX10_init_120 : decode cX10_init 120 = .ok (.aload_n 0, 1) := by decide +kernel
theorem dX10_init_121 : decode cX10_init 121 = .ok (.bipush 40, 2) := by decide +kernel
theorem dX10_init_123 : decode cX10_init 123 = .ok (.newarray .int, 2) := by decide +kernel
theorem dX10_init_125 : decode cX10_init 125 = .ok (.putfield 53, 3) := by decide +kernel
theorem dX10_init_128 : decode cX10_init 128 = .ok (.aload_n 0, 1) := by decide +kernel
theorem dX10_init_129 : decode cX10_init 129 = .ok (.bipush 40, 2) := by decide +kernel
theorem dX10_init_131 : decode cX10_init 131 = .ok (.newarray .int, 2) := by decide +kernel
theorem dX10_init_133 : decode cX10_init 133 = .ok (.putfield 56, 3) := by decide +kernel
theorem dX10_init_136 : decode cX10_init 136 = .ok (.aload_n 0, 1) := by decide +kernel
theorem dX10_init_137 : decode cX10_init 137 = .ok (.sipush 640, 3) := by decide +kernel
theorem dX10_init_140 : decode cX10_init 140 = .ok (.newarray .double, 2) := by decide +kernel
theorem dX10_init_142 : decode cX10_init 142 = .ok (.putfield 59, 3) := by decide +kernel
theorem dX10_init_145 : decode cX10_init 145 = .ok (.aload_n 0, 1) := by decide +kernel
theorem dX10_init_146 : decode cX10_init 146 = .ok (.bipush 16, 2) := by decide +kernel
theorem dX10_init_148 : decode cX10_init 148 = .ok (.newarray .double, 2) := by decide +kernel
theorem dX10_init_150 : decode cX10_init 150 = .ok (.putfield 62, 3) := by decide +kernel
theorem dX10_init_153 : decode cX10_init 153 = .ok (.aload_n 0, 1) := by decide +kernel
theorem dX10_init_154 : decode cX10_init 154 = .ok (.bipush 24, 2) := by decide +kernel
theorem dX10_init_156 : decode cX10_init 156 = .ok (.newarray .int, 2) := by decide +kernel
theorem dX10_init_158 : decode cX10_init 158 = .ok (.putfield 65, 3) := by decide +kernel
theorem dX10_init_161 : decode cX10_init 161 = .ok (.return_, 1) := by decide +kernel
theorem dX10_isIn_0 : decode cX10_isIn 0 = .ok (.iload_n 0, 1) := by decide +kernel
theorem dX10_isIn_1 : decode cX10_isIn 1 = .ok (.iload_n 1, 1) := by decide +kernel
theorem dX10_isIn_2 : decode cX10_isIn 2 = .ok (.if_icmp .lt 12, 3) := by decide +kernel
theorem dX10_isIn_5 : decode cX10_isIn 5 = .ok (.iload_n 0, 1) := by decide +kernel
theorem dX10_isIn_6 : decode cX10_isIn 6 = .ok (.iload_n 2, 1) := by decide +kernel
theorem dX10_isIn_7 : decode cX10_isIn 7 = .ok (.if_icmp .gt 7, 3) := by decide +kernel
theorem dX10_isIn_10 : decode cX10_isIn 10 = .ok (.iconst 1, 1) := by decide +kernel
theorem dX10_isIn_11 : decode cX10_isIn 11 = .ok (.goto 4, 3) := by decide +kernel
theorem dX10_isIn_14 : decode cX10_isIn 14 = .ok (.iconst 0, 1) := by decide +kernel
theorem dX10_isIn_15 : decode cX10_isIn 15 = .ok (.ireturn, 1) := by decide +kernel
theorem dX10_isModule_0 : decode cX10_isModule 0 = .ok (.iload_n 1, 1) := by decide +kernel
theorem dX10_isModule_1 : decode cX10_isModule 1 = .ok (.iconst 0, 1) := by decide +kernel
theorem dX10_isModule_2 : decode cX10_isModule 2 = .ok (.aload_n 0, 1) := by decide +kernel
theorem dX10_isModule_3 : decode cX10_isModule 3 = .ok (.getfield 68, 3) := by decide +kernel
theorem dX10_isModule_6 : decode cX10_isModule 6 = .ok (.iconst 1, 1) := by decide +kernel
theorem dX10_isModule_7 : decode cX10_isModule 7 = .ok (.isub, 1) := by decide +kernel
theorem dX10_isModule_8 : decode cX10_isModule 8 = .ok (.invokestatic 72, 3) := by decide +kernel
theorem dX10_isModule_11 : decode cX10_isModule 11 = .ok (.ireturn, 1) := by decide +kernel
theorem dX10_hasIn_0 : decode cX10_hasIn 0 = .ok (.aload_n 0, 1) := by decide +kernel
theorem dX10_hasIn_1 : decode cX10_hasIn 1 = .ok (.iload_n 1, 1) := by decide +kernel
theorem dX10_hasIn_2 : decode cX10_hasIn 2 = .ok (.invokevirtual 76, 3) := by decide +kernel
theorem dX10_hasIn_5 : decode cX10_hasIn 5 = .ok (.ifCond .eq 30, 3) := by decide +kernel
theorem dX10_hasIn_8 : decode cX10_hasIn 8 = .ok (.iload_n 2, 1) := by decide +kernel
theorem dX10_hasIn_9 : decode cX10_hasIn 9 = .ok (.iconst 0, 1) := by decide +kernel
theorem dX10_hasIn_10 : decode cX10_hasIn 10 = .ok (.aload_n 0, 1) := by decide +kernel
theorem dX10_hasIn_11 : decode cX10_hasIn 11 = .ok (.getfield 17, 3) := by decide +kernel
theorem dX10_hasIn_14 : decode cX10_hasIn 14 = .ok (.iload_n 1, 1) := by decide +kernel
theorem dX10_hasIn_15 : decode cX10_hasIn 15 = .ok (.iaload, 1) := by decide +kernel
theorem dX10_hasIn_16 : decode cX10_hasIn 16 = .ok (.iconst 5, 1) := by decide +kernel
theorem dX10_hasIn_17 : decode cX10_hasIn 17 = .ok (.if_icmp .ne 7, 3) := by decide +kernel
theorem dX10_hasIn_20 : decode cX10_hasIn 20 = .ok (.iconst 2, 1) := by decide +kernel
theorem dX10_hasIn_21 : decode cX10_hasIn 21 = .ok (.goto 4, 3) := by decide +kernel
theorem dX10_hasIn_24 : decode cX10_hasIn 24 = .ok (.iconst 1, 1) := by decide +kernel
theorem dX10_hasIn_25 : decode cX10_hasIn 25 = .ok (.invokestatic 72, 3) := by decide +kernel
theorem dX10_hasIn_28 : decode cX10_hasIn 28 = .ok (.ifCond .eq 7, 3) := by decide +kernel
theorem dX10_hasIn_31 : decode cX10_hasIn 31 = .ok (.iconst 1, 1) := by decide +kernel
theorem dX10_hasIn_32 : decode cX10_hasIn 32 = .ok (.goto 4, 3) := by decide +kernel
theorem dX10_hasIn_35 : decode cX10_hasIn 35 = .ok (.iconst 0, 1) := by decide +kernel
theorem dX10_hasIn_36 : decode cX10_hasIn 36 = .ok (.ireturn, 1) := by decide +kernel
theorem dX10_module_0 : decode cX10_module 0 = .ok (.iload_n 1, 1) := by decide +kernel
theorem dX10_module_1 : decode cX10_module 1 = .ok (.iconst 0, 1) := by decide +kernel
theorem dX10_module_2 : decode cX10_module 2 = .ok (.bipush 10, 2) := by decide +kernel
theorem dX10_module_4 : decode cX10_module 4 = .ok (.invokestatic 72, 3) := by decide +kernel
theorem dX10_module_7 : decode cX10_module 7 = .ok (.ifCond .eq 12, 3) := by decide +kernel
theorem dX10_module_10 : decode cX10_module 10 = .ok (.iload_n 2, 1) := by decide +kernel
theorem dX10_module_11 : decode cX10_module 11 = .ok (.iconst 0, 1) := by decide +kernel
theorem dX10_module_12 : decode cX10_module 12 = .ok (.iconst 4, 1) := by decide +kernel
theorem dX10_module_13 : decode cX10_module 13 = .ok (.invokestatic 72, 3) := by decide +kernel
theorem dX10_module_16 : decode cX10_module 16 = .ok (.ifCond .ne 5, 3) := by decide +kernel
theorem dX10_module_19 : decode cX10_module 19 = .ok (.iconst (-1), 1) := by decide +kernel
theorem dX10_module_20 : decode cX10_module 20 = .ok (.ireturn, 1) := by decide +kernel
theorem dX10_module_21 : decode cX10_module 21 = .ok (.aload_n 0, 1) := by decide +kernel
theorem dX10_module_22 : decode cX10_module 22 = .ok (.getfield 68, 3) := by decide +kernel
theorem dX10_module_25 : decode cX10_module 25 = .ok (.bipush 24, 2) := by decide +kernel
theorem dX10_module_27 : decode cX10_module 27 = .ok (.if_icmp .ne 6, 3) := by decide +kernel
theorem dX10_module_30 : decode cX10_module 30 = .ok (.bipush (-2), 2) := by decide +kernel
theorem dX10_module_32 : decode cX10_module 32 = .ok (.ireturn, 1) := by decide +kernel
theorem dX10_module_33 : decode cX10_module 33 = .ok (.aload_n 0, 1) := by decide +kernel
theorem dX10_module_34 : decode cX10_module 34 = .ok (.getfield 17, 3) := by decide +kernel
theorem dX10_module_37 : decode cX10_module 37 = .ok (.aload_n 0, 1) := by decide +kernel
theorem dX10_module_38 : decode cX10_module 38 = .ok (.getfield 68, 3) := by decide +kernel
theorem dX10_module_41 : decode cX10_module 41 = .ok (.iload_n 1, 1) := by decide +kernel
theorem dX10_module_42 : decode cX10_module 42 = .ok (.iastore, 1) := by decide +kernel
theorem dX10_module_43 : decode cX10_module 43 = .ok (.aload_n 0, 1) := by decide +kernel
theorem dX10_module_44 : decode cX10_module 44 = .ok (.getfield 20, 3) := by decide +kernel
theorem dX10_module_47 : decode cX10_module 47 = .ok (.aload_n 0, 1) := by decide +kernel
theorem dX10_module_48 : decode cX10_module 48 = .ok (.getfield 68, 3) := by decide +kernel
theorem dX10_module_51 : decode cX10_module 51 = .ok (.iload_n 2, 1) := by decide +kernel
theorem dX10_module_52 : decode cX10_module 52 = .ok (.iastore, 1) := by decide +kernel
theorem dX10_module_53 : decode cX10_module 53 = .ok (.aload_n 0, 1) := by decide +kernel
theorem dX10_module_54 : decode cX10_module 54 = .ok (.dup, 1) := by decide +kernel
theorem dX10_module_55 : decode cX10_module 55 = .ok (.getfield 68, 3) := by decide +kernel
theorem dX10_module_58 : decode cX10_module 58 = .ok (.iconst 1, 1) := by decide +kernel
theorem dX10_module_59 : decode cX10_module 59 = .ok (.iadd, 1) := by decide +kernel
theorem dX10_module_60 : decode cX10_module 60 = .ok (.putfield 68, 3) := by decide +kernel
theorem dX10_module_63 : decode cX10_module 63 = .ok (.aload_n 0, 1) := by decide +kernel
theorem dX10_module_64 : decode cX10_module 64 = .ok (.getfield 68, 3) := by decide +kernel
theorem dX10_module_67 : decode cX10_module 67 = .ok (.iconst 1, 1) := by decide +kernel
theorem dX10_module_68 : decode cX10_module 68 = .ok (.isub, 1) := by decide +kernel
theorem dX10_module_69 : decode cX10_module 69 = .ok (.ireturn, 1) := by decide +kernel
theorem dX10_leads_0 : decode cX10_leads 0 = .ok (.aload_n 0, 1) := by decide +kernel
theorem dX10_leads_1 : decode cX10_leads 1 = .ok (.getfield 26, 3) := by decide +kernel
theorem dX10_leads_4 : decode cX10_leads 4 = .ok (.iconst 3, 1) := by decide +kernel
theorem dX10_leads_5 : decode cX10_leads 5 = .ok (.iload_n 2, 1) := by decide +kernel
theorem dX10_leads_6 : decode cX10_leads 6 = .ok (.imul, 1) := by decide +kernel
theorem dX10_leads_7 : decode cX10_leads 7 = .ok (.iaload, 1) := by decide +kernel
theorem dX10_leads_8 : decode cX10_leads 8 = .ok (.iload_n 1, 1) := by decide +kernel
theorem dX10_leads_9 : decode cX10_leads 9 = .ok (.iconst 1, 1) := by decide +kernel
theorem dX10_leads_10 : decode cX10_leads 10 = .ok (.iadd, 1) := by decide +kernel
theorem dX10_leads_11 : decode cX10_leads 11 = .ok (.if_icmp .eq 35, 3) := by decide +kernel
theorem dX10_leads_14 : decode cX10_leads 14 = .ok (.aload_n 0, 1) := by decide +kernel
theorem dX10_leads_15 : decode cX10_leads 15 = .ok (.getfield 26, 3) := by decide +kernel
theorem dX10_leads_18 : decode cX10_leads 18 = .ok (.iconst 3, 1) := by decide +kernel
theorem dX10_leads_19 : decode cX10_leads 19 = .ok (.iload_n 2, 1) := by decide +kernel
theorem dX10_leads_20 : decode cX10_leads 20 = .ok (.imul, 1) := by decide +kernel
theorem dX10_leads_21 : decode cX10_leads 21 = .ok (.iconst 1, 1) := by decide +kernel
theorem dX10_leads_22 : decode cX10_leads 22 = .ok (.iadd, 1) := by decide +kernel
theorem dX10_leads_23 : decode cX10_leads 23 = .ok (.iaload, 1) := by decide +kernel
theorem dX10_leads_24 : decode cX10_leads 24 = .ok (.iload_n 1, 1) := by decide +kernel
theorem dX10_leads_25 : decode cX10_leads 25 = .ok (.iconst 1, 1) := by decide +kernel
theorem dX10_leads_26 : decode cX10_leads 26 = .ok (.iadd, 1) := by decide +kernel
theorem dX10_leads_27 : decode cX10_leads 27 = .ok (.if_icmp .eq 19, 3) := by decide +kernel
theorem dX10_leads_30 : decode cX10_leads 30 = .ok (.aload_n 0, 1) := by decide +kernel
theorem dX10_leads_31 : decode cX10_leads 31 = .ok (.getfield 26, 3) := by decide +kernel
theorem dX10_leads_34 : decode cX10_leads 34 = .ok (.iconst 3, 1) := by decide +kernel
theorem dX10_leads_35 : decode cX10_leads 35 = .ok (.iload_n 2, 1) := by decide +kernel
theorem dX10_leads_36 : decode cX10_leads 36 = .ok (.imul, 1) := by decide +kernel
theorem dX10_leads_37 : decode cX10_leads 37 = .ok (.iconst 2, 1) := by decide +kernel
theorem dX10_leads_38 : decode cX10_leads 38 = .ok (.iadd, 1) := by decide +kernel
theorem dX10_leads_39 : decode cX10_leads 39 = .ok (.iaload, 1) := by decide +kernel
theorem dX10_leads_40 : decode cX10_leads 40 = .ok (.iload_n 1, 1) := by decide +kernel
theorem dX10_leads_41 : decode cX10_leads 41 = .ok (.iconst 1, 1) := by decide +kernel
theorem dX10_leads_42 : decode cX10_leads 42 = .ok (.iadd, 1) := by decide +kernel
theorem dX10_leads_43 : decode cX10_leads 43 = .ok (.if_icmp .ne 7, 3) := by decide +kernel
theorem dX10_leads_46 : decode cX10_leads 46 = .ok (.iconst 1, 1) := by decide +kernel
theorem dX10_leads_47 : decode cX10_leads 47 = .ok (.goto 4, 3) := by decide +kernel
theorem dX10_leads_50 : decode cX10_leads 50 = .ok (.iconst 0, 1) := by decide +kernel
theorem dX10_leads_51 : decode cX10_leads 51 = .ok (.ireturn, 1) := by decide +kernel
theorem dX10_way_0 : decode cX10_way 0 = .ok (.iconst 0, 1) := by decide +kernel
theorem dX10_way_1 : decode cX10_way 1 = .ok (.istore_n 3, 1) := by decide +kernel
theorem dX10_way_2 : decode cX10_way 2 = .ok (.iload_n 3, 1) := by decide +kernel
theorem dX10_way_3 : decode cX10_way 3 = .ok (.bipush 24, 2) := by decide +kernel
theorem dX10_way_5 : decode cX10_way 5 = .ok (.if_icmp .ge 16, 3) := by decide +kernel
theorem dX10_way_8 : decode cX10_way 8 = .ok (.aload_n 0, 1) := by decide +kernel
theorem dX10_way_9 : decode cX10_way 9 = .ok (.getfield 65, 3) := by decide +kernel
theorem dX10_way_12 : decode cX10_way 12 = .ok (.iload_n 3, 1) := by decide +kernel
theorem dX10_way_13 : decode cX10_way 13 = .ok (.iconst 0, 1) := by decide +kernel
theorem dX10_way_14 : decode cX10_way 14 = .ok (.iastore, 1) := by decide +kernel
theorem dX10_way_15 : decode cX10_way 15 = .ok (.iinc 3 1, 3) := by decide +kernel
theorem dX10_way_18 : decode cX10_way 18 = .ok (.goto (-16), 3) := by decide +kernel
theorem dX10_way_21 : decode cX10_way 21 = .ok (.aload_n 0, 1) := by decide +kernel
theorem dX10_way_22 : decode cX10_way 22 = .ok (.getfield 65, 3) := by decide +kernel
theorem dX10_way_25 : decode cX10_way 25 = .ok (.iload_n 1, 1) := by decide +kernel
theorem dX10_way_26 : decode cX10_way 26 = .ok (.iconst 1, 1) := by decide +kernel
theorem dX10_way_27 : decode cX10_way 27 = .ok (.iastore, 1) := by decide +kernel
theorem dX10_way_28 : decode cX10_way 28 = .ok (.iconst 1, 1) := by decide +kernel
theorem dX10_way_29 : decode cX10_way 29 = .ok (.istore_n 3, 1) := by decide +kernel
theorem dX10_way_30 : decode cX10_way 30 = .ok (.iload_n 3, 1) := by decide +kernel
theorem dX10_way_31 : decode cX10_way 31 = .ok (.bipush 25, 2) := by decide +kernel
theorem dX10_way_33 : decode cX10_way 33 = .ok (.if_icmp .ge 108, 3) := by decide +kernel
theorem dX10_way_36 : decode cX10_way 36 = .ok (.aload_n 0, 1) := by decide +kernel
theorem dX10_way_37 : decode cX10_way 37 = .ok (.getfield 65, 3) := by decide +kernel
theorem dX10_way_40 : decode cX10_way 40 = .ok (.iload_n 2, 1) := by decide +kernel
theorem dX10_way_41 : decode cX10_way 41 = .ok (.iaload, 1) := by decide +kernel
theorem dX10_way_42 : decode cX10_way 42 = .ok (.ifCond .ne 99, 3) := by decide +kernel
theorem dX10_way_45 : decode cX10_way 45 = .ok (.iconst 0, 1) := by decide +kernel
theorem dX10_way_46 : decode cX10_way 46 = .ok (.istore 4, 2) := by decide +kernel
theorem dX10_way_48 : decode cX10_way 48 = .ok (.iload 4, 2) := by decide +kernel
theorem dX10_way_50 : decode cX10_way 50 = .ok (.aload_n 0, 1) := by decide +kernel
theorem dX10_way_51 : decode cX10_way 51 = .ok (.getfield 68, 3) := by decide +kernel
theorem dX10_way_54 : decode cX10_way 54 = .ok (.if_icmp .ge 81, 3) := by decide +kernel
theorem dX10_way_57 : decode cX10_way 57 = .ok (.iconst 0, 1) := by decide +kernel
theorem dX10_way_58 : decode cX10_way 58 = .ok (.istore 5, 2) := by decide +kernel
theorem dX10_way_60 : decode cX10_way 60 = .ok (.iload 5, 2) := by decide +kernel
theorem dX10_way_62 : decode cX10_way 62 = .ok (.aload_n 0, 1) := by decide +kernel
theorem dX10_way_63 : decode cX10_way 63 = .ok (.getfield 68, 3) := by decide +kernel
theorem dX10_way_66 : decode cX10_way 66 = .ok (.if_icmp .ge 63, 3) := by decide +kernel
theorem dX10_way_69 : decode cX10_way 69 = .ok (.aload_n 0, 1) := by decide +kernel
theorem dX10_way_70 : decode cX10_way 70 = .ok (.getfield 65, 3) := by decide +kernel
theorem dX10_way_73 : decode cX10_way 73 = .ok (.iload 4, 2) := by decide +kernel
theorem dX10_way_75 : decode cX10_way 75 = .ok (.iaload, 1) := by decide +kernel
theorem dX10_way_76 : decode cX10_way 76 = .ok (.iload_n 3, 1) := by decide +kernel
theorem dX10_way_77 : decode cX10_way 77 = .ok (.if_icmp .ne 52, 3) := by decide +kernel
theorem dX10_way_80 : decode cX10_way 80 = .ok (.aload_n 0, 1) := by decide +kernel
theorem dX10_way_81 : decode cX10_way 81 = .ok (.getfield 65, 3) := by decide +kernel
theorem dX10_way_84 : decode cX10_way 84 = .ok (.iload 5, 2) := by decide +kernel
theorem dX10_way_86 : decode cX10_way 86 = .ok (.iaload, 1) := by decide +kernel
theorem dX10_way_87 : decode cX10_way 87 = .ok (.ifCond .ne 36, 3) := by decide +kernel
theorem dX10_way_90 : decode cX10_way 90 = .ok (.aload_n 0, 1) := by decide +kernel
theorem dX10_way_91 : decode cX10_way 91 = .ok (.getfield 17, 3) := by decide +kernel
theorem dX10_way_94 : decode cX10_way 94 = .ok (.iload 5, 2) := by decide +kernel
theorem dX10_way_96 : decode cX10_way 96 = .ok (.iaload, 1) := by decide +kernel
theorem dX10_way_97 : decode cX10_way 97 = .ok (.bipush 6, 2) := by decide +kernel
theorem dX10_way_99 : decode cX10_way 99 = .ok (.if_icmp .eq 24, 3) := by decide +kernel
theorem dX10_way_102 : decode cX10_way 102 = .ok (.aload_n 0, 1) := by decide +kernel
theorem dX10_way_103 : decode cX10_way 103 = .ok (.iload 4, 2) := by decide +kernel
theorem dX10_way_105 : decode cX10_way 105 = .ok (.iload 5, 2) := by decide +kernel
theorem dX10_way_107 : decode cX10_way 107 = .ok (.invokevirtual 80, 3) := by decide +kernel
theorem dX10_way_110 : decode cX10_way 110 = .ok (.ifCond .eq 13, 3) := by decide +kernel
theorem dX10_way_113 : decode cX10_way 113 = .ok (.aload_n 0, 1) := by decide +kernel
theorem dX10_way_114 : decode cX10_way 114 = .ok (.getfield 65, 3) := by decide +kernel
theorem dX10_way_117 : decode cX10_way 117 = .ok (.iload 5, 2) := by decide +kernel
theorem dX10_way_119 : decode cX10_way 119 = .ok (.iload_n 3, 1) := by decide +kernel
theorem dX10_way_120 : decode cX10_way 120 = .ok (.iconst 1, 1) := by decide +kernel
theorem dX10_way_121 : decode cX10_way 121 = .ok (.iadd, 1) := by decide +kernel
theorem dX10_way_122 : decode cX10_way 122 = .ok (.iastore, 1) := by decide +kernel
theorem dX10_way_123 : decode cX10_way 123 = .ok (.iinc 5 1, 3) := by decide +kernel
theorem dX10_way_126 : decode cX10_way 126 = .ok (.goto (-66), 3) := by decide +kernel
theorem dX10_way_129 : decode cX10_way 129 = .ok (.iinc 4 1, 3) := by decide +kernel
theorem dX10_way_132 : decode cX10_way 132 = .ok (.goto (-84), 3) := by decide +kernel
theorem dX10_way_135 : decode cX10_way 135 = .ok (.iinc 3 1, 3) := by decide +kernel
theorem dX10_way_138 : decode cX10_way 138 = .ok (.goto (-108), 3) := by decide +kernel
theorem dX10_way_141 : decode cX10_way 141 = .ok (.aload_n 0, 1) := by decide +kernel
theorem dX10_way_142 : decode cX10_way 142 = .ok (.getfield 65, 3) := by decide +kernel
theorem dX10_way_145 : decode cX10_way 145 = .ok (.iload_n 2, 1) := by decide +kernel
theorem dX10_way_146 : decode cX10_way 146 = .ok (.iaload, 1) := by decide +kernel
theorem dX10_way_147 : decode cX10_way 147 = .ok (.ireturn, 1) := by decide +kernel
theorem dX10_cord_0 : decode cX10_cord 0 = .ok (.aload_n 0, 1) := by decide +kernel
theorem dX10_cord_1 : decode cX10_cord 1 = .ok (.iload_n 2, 1) := by decide +kernel
theorem dX10_cord_2 : decode cX10_cord 2 = .ok (.iload_n 3, 1) := by decide +kernel
theorem dX10_cord_3 : decode cX10_cord 3 = .ok (.invokevirtual 84, 3) := by decide +kernel
theorem dX10_cord_6 : decode cX10_cord 6 = .ok (.ifCond .eq 16, 3) := by decide +kernel
theorem dX10_cord_9 : decode cX10_cord 9 = .ok (.iload_n 1, 1) := by decide +kernel
theorem dX10_cord_10 : decode cX10_cord 10 = .ok (.iconst (-1), 1) := by decide +kernel
theorem dX10_cord_11 : decode cX10_cord 11 = .ok (.if_icmp .eq 13, 3) := by decide +kernel
theorem dX10_cord_14 : decode cX10_cord 14 = .ok (.aload_n 0, 1) := by decide +kernel
theorem dX10_cord_15 : decode cX10_cord 15 = .ok (.iload_n 1, 1) := by decide +kernel
theorem dX10_cord_16 : decode cX10_cord 16 = .ok (.invokevirtual 76, 3) := by decide +kernel
theorem dX10_cord_19 : decode cX10_cord 19 = .ok (.ifCond .ne 5, 3) := by decide +kernel
theorem dX10_cord_22 : decode cX10_cord 22 = .ok (.iconst (-1), 1) := by decide +kernel
theorem dX10_cord_23 : decode cX10_cord 23 = .ok (.ireturn, 1) := by decide +kernel
theorem dX10_cord_24 : decode cX10_cord 24 = .ok (.iload_n 1, 1) := by decide +kernel
theorem dX10_cord_25 : decode cX10_cord 25 = .ok (.ifCond .lt 44, 3) := by decide +kernel
theorem dX10_cord_28 : decode cX10_cord 28 = .ok (.aload_n 0, 1) := by decide +kernel
theorem dX10_cord_29 : decode cX10_cord 29 = .ok (.getfield 17, 3) := by decide +kernel
theorem dX10_cord_32 : decode cX10_cord 32 = .ok (.iload_n 2, 1) := by decide +kernel
theorem dX10_cord_33 : decode cX10_cord 33 = .ok (.iaload, 1) := by decide +kernel
theorem dX10_cord_34 : decode cX10_cord 34 = .ok (.bipush 6, 2) := by decide +kernel
theorem dX10_cord_36 : decode cX10_cord 36 = .ok (.if_icmp .eq 33, 3) := by decide +kernel
theorem dX10_cord_39 : decode cX10_cord 39 = .ok (.aload_n 0, 1) := by decide +kernel
theorem dX10_cord_40 : decode cX10_cord 40 = .ok (.getfield 17, 3) := by decide +kernel
theorem dX10_cord_43 : decode cX10_cord 43 = .ok (.iload_n 1, 1) := by decide +kernel
theorem dX10_cord_44 : decode cX10_cord 44 = .ok (.iaload, 1) := by decide +kernel
theorem dX10_cord_45 : decode cX10_cord 45 = .ok (.bipush 6, 2) := by decide +kernel
theorem dX10_cord_47 : decode cX10_cord 47 = .ok (.if_icmp .eq 22, 3) := by decide +kernel
theorem dX10_cord_50 : decode cX10_cord 50 = .ok (.aload_n 0, 1) := by decide +kernel
theorem dX10_cord_51 : decode cX10_cord 51 = .ok (.iload_n 2, 1) := by decide +kernel
theorem dX10_cord_52 : decode cX10_cord 52 = .ok (.iload_n 1, 1) := by decide +kernel
theorem dX10_cord_53 : decode cX10_cord 53 = .ok (.invokevirtual 87, 3) := by decide +kernel
theorem dX10_cord_56 : decode cX10_cord 56 = .ok (.istore 4, 2) := by decide +kernel
theorem dX10_cord_58 : decode cX10_cord 58 = .ok (.iload 4, 2) := by decide +kernel
theorem dX10_cord_60 : decode cX10_cord 60 = .ok (.ifCond .le 9, 3) := by decide +kernel
theorem dX10_cord_63 : decode cX10_cord 63 = .ok (.bipush (-10), 2) := by decide +kernel
theorem dX10_cord_65 : decode cX10_cord 65 = .ok (.iload 4, 2) := by decide +kernel
theorem dX10_cord_67 : decode cX10_cord 67 = .ok (.isub, 1) := by decide +kernel
theorem dX10_cord_68 : decode cX10_cord 68 = .ok (.ireturn, 1) := by decide +kernel
theorem dX10_cord_69 : decode cX10_cord 69 = .ok (.aload_n 0, 1) := by decide +kernel
theorem dX10_cord_70 : decode cX10_cord 70 = .ok (.getfield 26, 3) := by decide +kernel
theorem dX10_cord_73 : decode cX10_cord 73 = .ok (.iconst 3, 1) := by decide +kernel
theorem dX10_cord_74 : decode cX10_cord 74 = .ok (.iload_n 2, 1) := by decide +kernel
theorem dX10_cord_75 : decode cX10_cord 75 = .ok (.imul, 1) := by decide +kernel
theorem dX10_cord_76 : decode cX10_cord 76 = .ok (.iload_n 3, 1) := by decide +kernel
theorem dX10_cord_77 : decode cX10_cord 77 = .ok (.iadd, 1) := by decide +kernel
theorem dX10_cord_78 : decode cX10_cord 78 = .ok (.iload_n 1, 1) := by decide +kernel
theorem dX10_cord_79 : decode cX10_cord 79 = .ok (.iconst 1, 1) := by decide +kernel
theorem dX10_cord_80 : decode cX10_cord 80 = .ok (.iadd, 1) := by decide +kernel
theorem dX10_cord_81 : decode cX10_cord 81 = .ok (.iastore, 1) := by decide +kernel
theorem dX10_cord_82 : decode cX10_cord 82 = .ok (.iconst 1, 1) := by decide +kernel
theorem dX10_cord_83 : decode cX10_cord 83 = .ok (.ireturn, 1) := by decide +kernel
theorem dX10_from_0 : decode cX10_from 0 = .ok (.aload_n 0, 1) := by decide +kernel
theorem dX10_from_1 : decode cX10_from 1 = .ok (.iload_n 1, 1) := by decide +kernel
theorem dX10_from_2 : decode cX10_from 2 = .ok (.iload_n 2, 1) := by decide +kernel
theorem dX10_from_3 : decode cX10_from 3 = .ok (.invokevirtual 84, 3) := by decide +kernel
theorem dX10_from_6 : decode cX10_from 6 = .ok (.ifCond .eq 18, 3) := by decide +kernel
theorem dX10_from_9 : decode cX10_from 9 = .ok (.aload_n 0, 1) := by decide +kernel
theorem dX10_from_10 : decode cX10_from 10 = .ok (.getfield 26, 3) := by decide +kernel
theorem dX10_from_13 : decode cX10_from 13 = .ok (.iconst 3, 1) := by decide +kernel
theorem dX10_from_14 : decode cX10_from 14 = .ok (.iload_n 1, 1) := by decide +kernel
theorem dX10_from_15 : decode cX10_from 15 = .ok (.imul, 1) := by decide +kernel
theorem dX10_from_16 : decode cX10_from 16 = .ok (.iload_n 2, 1) := by decide +kernel
theorem dX10_from_17 : decode cX10_from 17 = .ok (.iadd, 1) := by decide +kernel
theorem dX10_from_18 : decode cX10_from 18 = .ok (.iaload, 1) := by decide +kernel
theorem dX10_from_19 : decode cX10_from 19 = .ok (.iconst 1, 1) := by decide +kernel
theorem dX10_from_20 : decode cX10_from 20 = .ok (.isub, 1) := by decide +kernel
theorem dX10_from_21 : decode cX10_from 21 = .ok (.goto 5, 3) := by decide +kernel
theorem dX10_from_24 : decode cX10_from 24 = .ok (.bipush (-2), 2) := by decide +kernel
theorem dX10_from_26 : decode cX10_from 26 = .ok (.ireturn, 1) := by decide +kernel
theorem dX10_knob_0 : decode cX10_knob 0 = .ok (.aload_n 0, 1) := by decide +kernel
theorem dX10_knob_1 : decode cX10_knob 1 = .ok (.iload_n 1, 1) := by decide +kernel
theorem dX10_knob_2 : decode cX10_knob 2 = .ok (.invokevirtual 76, 3) := by decide +kernel
theorem dX10_knob_5 : decode cX10_knob 5 = .ok (.ifCond .eq 25, 3) := by decide +kernel
theorem dX10_knob_8 : decode cX10_knob 8 = .ok (.iload_n 2, 1) := by decide +kernel
theorem dX10_knob_9 : decode cX10_knob 9 = .ok (.iconst 0, 1) := by decide +kernel
theorem dX10_knob_10 : decode cX10_knob 10 = .ok (.iconst 2, 1) := by decide +kernel
theorem dX10_knob_11 : decode cX10_knob 11 = .ok (.invokestatic 72, 3) := by decide +kernel
theorem dX10_knob_14 : decode cX10_knob 14 = .ok (.ifCond .eq 16, 3) := by decide +kernel
theorem dX10_knob_17 : decode cX10_knob 17 = .ok (.iload_n 3, 1) := by decide +kernel
theorem dX10_knob_18 : decode cX10_knob 18 = .ok (.sipush (-1000), 3) := by decide +kernel
theorem dX10_knob_21 : decode cX10_knob 21 = .ok (.sipush 1000, 3) := by decide +kernel
theorem dX10_knob_24 : decode cX10_knob 24 = .ok (.invokestatic 72, 3) := by decide +kernel
theorem dX10_knob_27 : decode cX10_knob 27 = .ok (.ifCond .ne 7, 3) := by decide +kernel
theorem dX10_knob_30 : decode cX10_knob 30 = .ok (.sipush (-2000), 3) := by decide +kernel
theorem dX10_knob_33 : decode cX10_knob 33 = .ok (.ireturn, 1) := by decide +kernel
theorem dX10_knob_34 : decode cX10_knob 34 = .ok (.aload_n 0, 1) := by decide +kernel
theorem dX10_knob_35 : decode cX10_knob 35 = .ok (.getfield 23, 3) := by decide +kernel
theorem dX10_knob_38 : decode cX10_knob 38 = .ok (.iconst 3, 1) := by decide +kernel
theorem dX10_knob_39 : decode cX10_knob 39 = .ok (.iload_n 1, 1) := by decide +kernel
theorem dX10_knob_40 : decode cX10_knob 40 = .ok (.imul, 1) := by decide +kernel
theorem dX10_knob_41 : decode cX10_knob 41 = .ok (.iload_n 2, 1) := by decide +kernel
theorem dX10_knob_42 : decode cX10_knob 42 = .ok (.iadd, 1) := by decide +kernel
theorem dX10_knob_43 : decode cX10_knob 43 = .ok (.iaload, 1) := by decide +kernel
theorem dX10_knob_44 : decode cX10_knob 44 = .ok (.istore 4, 2) := by decide +kernel
theorem dX10_knob_46 : decode cX10_knob 46 = .ok (.aload_n 0, 1) := by decide +kernel
theorem dX10_knob_47 : decode cX10_knob 47 = .ok (.getfield 23, 3) := by decide +kernel
theorem dX10_knob_50 : decode cX10_knob 50 = .ok (.iconst 3, 1) := by decide +kernel
