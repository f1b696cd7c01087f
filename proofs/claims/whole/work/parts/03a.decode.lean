theorem dX0_init_0 : decode cX0_init 0 = .ok (.aload_n 0, 1) := by decide +kernel
theorem dX0_init_1 : decode cX0_init 1 = .ok (.invokespecial 1, 3) := by decide +kernel
theorem dX0_init_4 : decode cX0_init 4 = .ok (.aload_n 0, 1) := by decide +kernel
theorem dX0_init_5 : decode cX0_init 5 = .ok (.iconst 5, 1) := by decide +kernel
theorem dX0_init_6 : decode cX0_init 6 = .ok (.newarray .int, 2) := by decide +kernel
theorem dX0_init_8 : decode cX0_init 8 = .ok (.putfield 9, 3) := by decide +kernel
theorem dX0_init_11 : decode cX0_init 11 = .ok (.aload_n 0, 1) := by decide +kernel
theorem dX0_init_12 : decode cX0_init 12 = .ok (.iconst 5, 1) := by decide +kernel
theorem dX0_init_13 : decode cX0_init 13 = .ok (.newarray .int, 2) := by decide +kernel
theorem dX0_init_15 : decode cX0_init 15 = .ok (.putfield 13, 3) := by decide +kernel
theorem dX0_init_18 : decode cX0_init 18 = .ok (.aload_n 0, 1) := by decide +kernel
theorem dX0_init_19 : decode cX0_init 19 = .ok (.iconst 5, 1) := by decide +kernel
theorem dX0_init_20 : decode cX0_init 20 = .ok (.newarray .int, 2) := by decide +kernel
theorem dX0_init_22 : decode cX0_init 22 = .ok (.putfield 16, 3) := by decide +kernel
theorem dX0_init_25 : decode cX0_init 25 = .ok (.return_, 1) := by decide +kernel
theorem dX0_become_0 : decode cX0_become 0 = .ok (.aload_n 0, 1) := by decide +kernel
theorem dX0_become_1 : decode cX0_become 1 = .ok (.aload_n 1, 1) := by decide +kernel
theorem dX0_become_2 : decode cX0_become 2 = .ok (.getfield 19, 3) := by decide +kernel
theorem dX0_become_5 : decode cX0_become 5 = .ok (.putfield 19, 3) := by decide +kernel
theorem dX0_become_8 : decode cX0_become 8 = .ok (.aload_n 1, 1) := by decide +kernel
theorem dX0_become_9 : decode cX0_become 9 = .ok (.getfield 9, 3) := by decide +kernel
theorem dX0_become_12 : decode cX0_become 12 = .ok (.iconst 0, 1) := by decide +kernel
theorem dX0_become_13 : decode cX0_become 13 = .ok (.aload_n 0, 1) := by decide +kernel
theorem dX0_become_14 : decode cX0_become 14 = .ok (.getfield 9, 3) := by decide +kernel
theorem dX0_become_17 : decode cX0_become 17 = .ok (.iconst 0, 1) := by decide +kernel
theorem dX0_become_18 : decode cX0_become 18 = .ok (.iconst 5, 1) := by decide +kernel
theorem dX0_become_19 : decode cX0_become 19 = .ok (.invokestatic 23, 3) := by decide +kernel
theorem dX0_become_22 : decode cX0_become 22 = .ok (.aload_n 1, 1) := by decide +kernel
theorem dX0_become_23 : decode cX0_become 23 = .ok (.getfield 13, 3) := by decide +kernel
theorem dX0_become_26 : decode cX0_become 26 = .ok (.iconst 0, 1) := by decide +kernel
theorem dX0_become_27 : decode cX0_become 27 = .ok (.aload_n 0, 1) := by decide +kernel
theorem dX0_become_28 : decode cX0_become 28 = .ok (.getfield 13, 3) := by decide +kernel
theorem dX0_become_31 : decode cX0_become 31 = .ok (.iconst 0, 1) := by decide +kernel
theorem dX0_become_32 : decode cX0_become 32 = .ok (.iconst 5, 1) := by decide +kernel
theorem dX0_become_33 : decode cX0_become 33 = .ok (.invokestatic 23, 3) := by decide +kernel
theorem dX0_become_36 : decode cX0_become 36 = .ok (.aload_n 1, 1) := by decide +kernel
theorem dX0_become_37 : decode cX0_become 37 = .ok (.getfield 16, 3) := by decide +kernel
theorem dX0_become_40 : decode cX0_become 40 = .ok (.iconst 0, 1) := by decide +kernel
theorem dX0_become_41 : decode cX0_become 41 = .ok (.aload_n 0, 1) := by decide +kernel
theorem dX0_become_42 : decode cX0_become 42 = .ok (.getfield 16, 3) := by decide +kernel
theorem dX0_become_45 : decode cX0_become 45 = .ok (.iconst 0, 1) := by decide +kernel
theorem dX0_become_46 : decode cX0_become 46 = .ok (.iconst 5, 1) := by decide +kernel
theorem dX0_become_47 : decode cX0_become 47 = .ok (.invokestatic 23, 3) := by decide +kernel
theorem dX0_become_50 : decode cX0_become 50 = .ok (.return_, 1) := by decide +kernel
theorem dX0_add_0 : decode cX0_add 0 = .ok (.aload_n 0, 1) := by decide +kernel
theorem dX0_add_1 : decode cX0_add 1 = .ok (.getfield 19, 3) := by decide +kernel
theorem dX0_add_4 : decode cX0_add 4 = .ok (.iconst 5, 1) := by decide +kernel
theorem dX0_add_5 : decode cX0_add 5 = .ok (.if_icmp .ge 43, 3) := by decide +kernel
theorem dX0_add_8 : decode cX0_add 8 = .ok (.aload_n 0, 1) := by decide +kernel
theorem dX0_add_9 : decode cX0_add 9 = .ok (.getfield 9, 3) := by decide +kernel
theorem dX0_add_12 : decode cX0_add 12 = .ok (.aload_n 0, 1) := by decide +kernel
theorem dX0_add_13 : decode cX0_add 13 = .ok (.getfield 19, 3) := by decide +kernel
theorem dX0_add_16 : decode cX0_add 16 = .ok (.iload_n 1, 1) := by decide +kernel
theorem dX0_add_17 : decode cX0_add 17 = .ok (.iastore, 1) := by decide +kernel
theorem dX0_add_18 : decode cX0_add 18 = .ok (.aload_n 0, 1) := by decide +kernel
theorem dX0_add_19 : decode cX0_add 19 = .ok (.getfield 13, 3) := by decide +kernel
theorem dX0_add_22 : decode cX0_add 22 = .ok (.aload_n 0, 1) := by decide +kernel
theorem dX0_add_23 : decode cX0_add 23 = .ok (.getfield 19, 3) := by decide +kernel
theorem dX0_add_26 : decode cX0_add 26 = .ok (.iload_n 2, 1) := by decide +kernel
theorem dX0_add_27 : decode cX0_add 27 = .ok (.iastore, 1) := by decide +kernel
theorem dX0_add_28 : decode cX0_add 28 = .ok (.aload_n 0, 1) := by decide +kernel
theorem dX0_add_29 : decode cX0_add 29 = .ok (.getfield 16, 3) := by decide +kernel
theorem dX0_add_32 : decode cX0_add 32 = .ok (.aload_n 0, 1) := by decide +kernel
theorem dX0_add_33 : decode cX0_add 33 = .ok (.getfield 19, 3) := by decide +kernel
theorem dX0_add_36 : decode cX0_add 36 = .ok (.iload_n 3, 1) := by decide +kernel
theorem dX0_add_37 : decode cX0_add 37 = .ok (.iastore, 1) := by decide +kernel
theorem dX0_add_38 : decode cX0_add 38 = .ok (.aload_n 0, 1) := by decide +kernel
theorem dX0_add_39 : decode cX0_add 39 = .ok (.dup, 1) := by decide +kernel
theorem dX0_add_40 : decode cX0_add 40 = .ok (.getfield 19, 3) := by decide +kernel
theorem dX0_add_43 : decode cX0_add 43 = .ok (.iconst 1, 1) := by decide +kernel
theorem dX0_add_44 : decode cX0_add 44 = .ok (.iadd, 1) := by decide +kernel
theorem dX0_add_45 : decode cX0_add 45 = .ok (.putfield 19, 3) := by decide +kernel
theorem dX0_add_48 : decode cX0_add 48 = .ok (.return_, 1) := by decide +kernel
theorem dX0_brassOfAll_0 : decode cX0_brassOfAll 0 = .ok (.iconst 0, 1) := by decide +kernel
theorem dX0_brassOfAll_1 : decode cX0_brassOfAll 1 = .ok (.istore_n 1, 1) := by decide +kernel
theorem dX0_brassOfAll_2 : decode cX0_brassOfAll 2 = .ok (.iconst 0, 1) := by decide +kernel
theorem dX0_brassOfAll_3 : decode cX0_brassOfAll 3 = .ok (.istore_n 2, 1) := by decide +kernel
theorem dX0_brassOfAll_4 : decode cX0_brassOfAll 4 = .ok (.iload_n 2, 1) := by decide +kernel
theorem dX0_brassOfAll_5 : decode cX0_brassOfAll 5 = .ok (.aload_n 0, 1) := by decide +kernel
theorem dX0_brassOfAll_6 : decode cX0_brassOfAll 6 = .ok (.getfield 19, 3) := by decide +kernel
theorem dX0_brassOfAll_9 : decode cX0_brassOfAll 9 = .ok (.if_icmp .ge 18, 3) := by decide +kernel
theorem dX0_brassOfAll_12 : decode cX0_brassOfAll 12 = .ok (.iload_n 1, 1) := by decide +kernel
theorem dX0_brassOfAll_13 : decode cX0_brassOfAll 13 = .ok (.aload_n 0, 1) := by decide +kernel
theorem dX0_brassOfAll_14 : decode cX0_brassOfAll 14 = .ok (.getfield 16, 3) := by decide +kernel
theorem dX0_brassOfAll_17 : decode cX0_brassOfAll 17 = .ok (.iload_n 2, 1) := by decide +kernel
theorem dX0_brassOfAll_18 : decode cX0_brassOfAll 18 = .ok (.iaload, 1) := by decide +kernel
theorem dX0_brassOfAll_19 : decode cX0_brassOfAll 19 = .ok (.iadd, 1) := by decide +kernel
theorem dX0_brassOfAll_20 : decode cX0_brassOfAll 20 = .ok (.istore_n 1, 1) := by decide +kernel
theorem dX0_brassOfAll_21 : decode cX0_brassOfAll 21 = .ok (.iinc 2 1, 3) := by decide +kernel
theorem dX0_brassOfAll_24 : decode cX0_brassOfAll 24 = .ok (.goto (-20), 3) := by decide +kernel
theorem dX0_brassOfAll_27 : decode cX0_brassOfAll 27 = .ok (.iload_n 1, 1) := by decide +kernel
theorem dX0_brassOfAll_28 : decode cX0_brassOfAll 28 = .ok (.ireturn, 1) := by decide +kernel
theorem dX0_daysTo_0 : decode cX0_daysTo 0 = .ok (.aload_n 0, 1) := by decide +kernel
theorem dX0_daysTo_1 : decode cX0_daysTo 1 = .ok (.getfield 9, 3) := by decide +kernel
theorem dX0_daysTo_4 : decode cX0_daysTo 4 = .ok (.iload_n 1, 1) := by decide +kernel
theorem dX0_daysTo_5 : decode cX0_daysTo 5 = .ok (.iaload, 1) := by decide +kernel
theorem dX0_daysTo_6 : decode cX0_daysTo 6 = .ok (.iload_n 2, 1) := by decide +kernel
theorem dX0_daysTo_7 : decode cX0_daysTo 7 = .ok (.isub, 1) := by decide +kernel
theorem dX0_daysTo_8 : decode cX0_daysTo 8 = .ok (.invokestatic 29, 3) := by decide +kernel
theorem dX0_daysTo_11 : decode cX0_daysTo 11 = .ok (.istore_n 3, 1) := by decide +kernel
theorem dX0_daysTo_12 : decode cX0_daysTo 12 = .ok (.aload_n 0, 1) := by decide +kernel
theorem dX0_daysTo_13 : decode cX0_daysTo 13 = .ok (.getfield 13, 3) := by decide +kernel
theorem dX0_daysTo_16 : decode cX0_daysTo 16 = .ok (.iload_n 1, 1) := by decide +kernel
theorem dX0_daysTo_17 : decode cX0_daysTo 17 = .ok (.iaload, 1) := by decide +kernel
theorem dX0_daysTo_18 : decode cX0_daysTo 18 = .ok (.iconst 1, 1) := by decide +kernel
theorem dX0_daysTo_19 : decode cX0_daysTo 19 = .ok (.if_icmp .ge 7, 3) := by decide +kernel
theorem dX0_daysTo_22 : decode cX0_daysTo 22 = .ok (.iload_n 3, 1) := by decide +kernel
theorem dX0_daysTo_23 : decode cX0_daysTo 23 = .ok (.goto 20, 3) := by decide +kernel
theorem dX0_daysTo_26 : decode cX0_daysTo 26 = .ok (.iload_n 3, 1) := by decide +kernel
theorem dX0_daysTo_27 : decode cX0_daysTo 27 = .ok (.aload_n 0, 1) := by decide +kernel
theorem dX0_daysTo_28 : decode cX0_daysTo 28 = .ok (.getfield 13, 3) := by decide +kernel
theorem dX0_daysTo_31 : decode cX0_daysTo 31 = .ok (.iload_n 1, 1) := by decide +kernel
theorem dX0_daysTo_32 : decode cX0_daysTo 32 = .ok (.iaload, 1) := by decide +kernel
theorem dX0_daysTo_33 : decode cX0_daysTo 33 = .ok (.iadd, 1) := by decide +kernel
theorem dX0_daysTo_34 : decode cX0_daysTo 34 = .ok (.iconst 1, 1) := by decide +kernel
theorem dX0_daysTo_35 : decode cX0_daysTo 35 = .ok (.isub, 1) := by decide +kernel
theorem dX0_daysTo_36 : decode cX0_daysTo 36 = .ok (.aload_n 0, 1) := by decide +kernel
theorem dX0_daysTo_37 : decode cX0_daysTo 37 = .ok (.getfield 13, 3) := by decide +kernel
theorem dX0_daysTo_40 : decode cX0_daysTo 40 = .ok (.iload_n 1, 1) := by decide +kernel
theorem dX0_daysTo_41 : decode cX0_daysTo 41 = .ok (.iaload, 1) := by decide +kernel
theorem dX0_daysTo_42 : decode cX0_daysTo 42 = .ok (.idiv, 1) := by decide +kernel
theorem dX0_daysTo_43 : decode cX0_daysTo 43 = .ok (.ireturn, 1) := by decide +kernel
theorem dX1_init_0 : decode cX1_init 0 = .ok (.aload_n 0, 1) := by decide +kernel
theorem dX1_init_1 : decode cX1_init 1 = .ok (.invokespecial 3, 3) := by decide +kernel
theorem dX1_init_4 : decode cX1_init 4 = .ok (.aload_n 0, 1) := by decide +kernel
theorem dX1_init_5 : decode cX1_init 5 = .ok (.new 9, 3) := by decide +kernel
theorem dX1_init_8 : decode cX1_init 8 = .ok (.dup, 1) := by decide +kernel
theorem dX1_init_9 : decode cX1_init 9 = .ok (.invokespecial 11, 3) := by decide +kernel
theorem dX1_init_12 : decode cX1_init 12 = .ok (.putfield 12, 3) := by decide +kernel
theorem dX1_init_15 : decode cX1_init 15 = .ok (.aload_n 0, 1) := by decide +kernel
theorem dX1_init_16 : decode cX1_init 16 = .ok (.bipush 16, 2) := by decide +kernel
theorem dX1_init_18 : decode cX1_init 18 = .ok (.newarray .int, 2) := by decide +kernel
theorem dX1_init_20 : decode cX1_init 20 = .ok (.putfield 18, 3) := by decide +kernel
theorem dX1_init_23 : decode cX1_init 23 = .ok (.aload_n 0, 1) := by decide +kernel
theorem dX1_init_24 : decode cX1_init 24 = .ok (.bipush 16, 2) := by decide +kernel
theorem dX1_init_26 : decode cX1_init 26 = .ok (.newarray .int, 2) := by decide +kernel
theorem dX1_init_28 : decode cX1_init 28 = .ok (.putfield 22, 3) := by decide +kernel
theorem dX1_init_31 : decode cX1_init 31 = .ok (.return_, 1) := by decide +kernel
theorem dX1_strainAt_0 : decode cX1_strainAt 0 = .ok (.aload_n 1, 1) := by decide +kernel
theorem dX1_strainAt_1 : decode cX1_strainAt 1 = .ok (.getfield 25, 3) := by decide +kernel
theorem dX1_strainAt_4 : decode cX1_strainAt 4 = .ok (.iload_n 2, 1) := by decide +kernel
theorem dX1_strainAt_5 : decode cX1_strainAt 5 = .ok (.iaload, 1) := by decide +kernel
theorem dX1_strainAt_6 : decode cX1_strainAt 6 = .ok (.aload_n 0, 1) := by decide +kernel
theorem dX1_strainAt_7 : decode cX1_strainAt 7 = .ok (.getfield 12, 3) := by decide +kernel
theorem dX1_strainAt_10 : decode cX1_strainAt 10 = .ok (.iconst 0, 1) := by decide +kernel
theorem dX1_strainAt_11 : decode cX1_strainAt 11 = .ok (.aload_n 1, 1) := by decide +kernel
theorem dX1_strainAt_12 : decode cX1_strainAt 12 = .ok (.iload_n 2, 1) := by decide +kernel
theorem dX1_strainAt_13 : decode cX1_strainAt 13 = .ok (.aload_n 1, 1) := by decide +kernel
theorem dX1_strainAt_14 : decode cX1_strainAt 14 = .ok (.getfield 30, 3) := by decide +kernel
theorem dX1_strainAt_17 : decode cX1_strainAt 17 = .ok (.iload_n 2, 1) := by decide +kernel
theorem dX1_strainAt_18 : decode cX1_strainAt 18 = .ok (.invokestatic 34, 3) := by decide +kernel
theorem dX1_strainAt_21 : decode cX1_strainAt 21 = .ok (.aload_n 1, 1) := by decide +kernel
theorem dX1_strainAt_22 : decode cX1_strainAt 22 = .ok (.iload_n 2, 1) := by decide +kernel
theorem dX1_strainAt_23 : decode cX1_strainAt 23 = .ok (.invokevirtual 38, 3) := by decide +kernel
theorem dX1_strainAt_26 : decode cX1_strainAt 26 = .ok (.invokevirtual 42, 3) := by decide +kernel
theorem dX1_strainAt_29 : decode cX1_strainAt 29 = .ok (.iadd, 1) := by decide +kernel
theorem dX1_strainAt_30 : decode cX1_strainAt 30 = .ok (.ireturn, 1) := by decide +kernel
theorem dX1_rustsBy_0 : decode cX1_rustsBy 0 = .ok (.aload_n 1, 1) := by decide +kernel
theorem dX1_rustsBy_1 : decode cX1_rustsBy 1 = .ok (.iload_n 2, 1) := by decide +kernel
theorem dX1_rustsBy_2 : decode cX1_rustsBy 2 = .ok (.invokevirtual 38, 3) := by decide +kernel
theorem dX1_rustsBy_5 : decode cX1_rustsBy 5 = .ok (.ifCond .ne 5, 3) := by decide +kernel
theorem dX1_rustsBy_8 : decode cX1_rustsBy 8 = .ok (.iconst 0, 1) := by decide +kernel
theorem dX1_rustsBy_9 : decode cX1_rustsBy 9 = .ok (.ireturn, 1) := by decide +kernel
theorem dX1_rustsBy_10 : decode cX1_rustsBy 10 = .ok (.aload_n 0, 1) := by decide +kernel
theorem dX1_rustsBy_11 : decode cX1_rustsBy 11 = .ok (.getfield 12, 3) := by decide +kernel
theorem dX1_rustsBy_14 : decode cX1_rustsBy 14 = .ok (.getfield 46, 3) := by decide +kernel
theorem dX1_rustsBy_17 : decode cX1_rustsBy 17 = .ok (.iconst (-1), 1) := by decide +kernel
theorem dX1_rustsBy_18 : decode cX1_rustsBy 18 = .ok (.if_icmp .ne 7, 3) := by decide +kernel
theorem dX1_rustsBy_21 : decode cX1_rustsBy 21 = .ok (.iconst 1, 1) := by decide +kernel
theorem dX1_rustsBy_22 : decode cX1_rustsBy 22 = .ok (.goto 22, 3) := by decide +kernel
theorem dX1_rustsBy_25 : decode cX1_rustsBy 25 = .ok (.aload_n 0, 1) := by decide +kernel
theorem dX1_rustsBy_26 : decode cX1_rustsBy 26 = .ok (.getfield 12, 3) := by decide +kernel
theorem dX1_rustsBy_29 : decode cX1_rustsBy 29 = .ok (.iconst 1, 1) := by decide +kernel
theorem dX1_rustsBy_30 : decode cX1_rustsBy 30 = .ok (.aload_n 1, 1) := by decide +kernel
theorem dX1_rustsBy_31 : decode cX1_rustsBy 31 = .ok (.iload_n 2, 1) := by decide +kernel
theorem dX1_rustsBy_32 : decode cX1_rustsBy 32 = .ok (.aload_n 1, 1) := by decide +kernel
theorem dX1_rustsBy_33 : decode cX1_rustsBy 33 = .ok (.getfield 30, 3) := by decide +kernel
theorem dX1_rustsBy_36 : decode cX1_rustsBy 36 = .ok (.iload_n 2, 1) := by decide +kernel
theorem dX1_rustsBy_37 : decode cX1_rustsBy 37 = .ok (.invokestatic 34, 3) := by decide +kernel
theorem dX1_rustsBy_40 : decode cX1_rustsBy 40 = .ok (.iconst 1, 1) := by decide +kernel
theorem dX1_rustsBy_41 : decode cX1_rustsBy 41 = .ok (.invokevirtual 42, 3) := by decide +kernel
theorem dX1_rustsBy_44 : decode cX1_rustsBy 44 = .ok (.ireturn, 1) := by decide +kernel
theorem dX1_gap_0 : decode cX1_gap 0 = .ok (.iload_n 0, 1) := by decide +kernel
theorem dX1_gap_1 : decode cX1_gap 1 = .ok (.iconst 1, 1) := by decide +kernel
theorem dX1_gap_2 : decode cX1_gap 2 = .ok (.iload_n 1, 1) := by decide +kernel
theorem dX1_gap_3 : decode cX1_gap 3 = .ok (.ishl, 1) := by decide +kernel
theorem dX1_gap_4 : decode cX1_gap 4 = .ok (.iconst (-1), 1) := by decide +kernel
theorem dX1_gap_5 : decode cX1_gap 5 = .ok (.ixor, 1) := by decide +kernel
theorem dX1_gap_6 : decode cX1_gap 6 = .ok (.iand, 1) := by decide +kernel
theorem dX1_gap_7 : decode cX1_gap 7 = .ok (.iload_n 1, 1) := by decide +kernel
theorem dX1_gap_8 : decode cX1_gap 8 = .ok (.invokestatic 49, 3) := by decide +kernel
theorem dX1_gap_11 : decode cX1_gap 11 = .ok (.ireturn, 1) := by decide +kernel
theorem dX1_startOver_0 : decode cX1_startOver 0 = .ok (.aload_n 0, 1) := by decide +kernel
theorem dX1_startOver_1 : decode cX1_startOver 1 = .ok (.getfield 18, 3) := by decide +kernel
theorem dX1_startOver_4 : decode cX1_startOver 4 = .ok (.iconst 0, 1) := by decide +kernel
theorem dX1_startOver_5 : decode cX1_startOver 5 = .ok (.invokestatic 52, 3) := by decide +kernel
theorem dX1_startOver_8 : decode cX1_startOver 8 = .ok (.aload_n 0, 1) := by decide +kernel
theorem dX1_startOver_9 : decode cX1_startOver 9 = .ok (.getfield 22, 3) := by decide +kernel
theorem dX1_startOver_12 : decode cX1_startOver 12 = .ok (.iconst 0, 1) := by decide +kernel
theorem dX1_startOver_13 : decode cX1_startOver 13 = .ok (.invokestatic 52, 3) := by decide +kernel
theorem dX1_startOver_16 : decode cX1_startOver 16 = .ok (.return_, 1) := by decide +kernel
theorem dX1_holding_0 : decode cX1_holding 0 = .ok (.aload_n 0, 1) := by decide +kernel
theorem dX1_holding_1 : decode cX1_holding 1 = .ok (.invokevirtual 58, 3) := by decide +kernel
theorem dX1_holding_4 : decode cX1_holding 4 = .ok (.aload_n 0, 1) := by decide +kernel
theorem dX1_holding_5 : decode cX1_holding 5 = .ok (.aload_n 1, 1) := by decide +kernel
theorem dX1_holding_6 : decode cX1_holding 6 = .ok (.aload_n 1, 1) := by decide +kernel
theorem dX1_holding_7 : decode cX1_holding 7 = .ok (.getfield 30, 3) := by decide +kernel
theorem dX1_holding_10 : decode cX1_holding 10 = .ok (.invokevirtual 61, 3) := by decide +kernel
theorem dX1_holding_13 : decode cX1_holding 13 = .ok (.ireturn, 1) := by decide +kernel
theorem dX1_standing_0 : decode cX1_standing 0 = .ok (.aload_n 1, 1) := by decide +kernel
theorem dX1_standing_1 : decode cX1_standing 1 = .ok (.aload_n 0, 1) := by decide +kernel
theorem dX1_standing_2 : decode cX1_standing 2 = .ok (.aload_n 1, 1) := by decide +kernel
theorem dX1_standing_3 : decode cX1_standing 3 = .ok (.invokevirtual 65, 3) := by decide +kernel
theorem dX1_standing_6 : decode cX1_standing 6 = .ok (.aload_n 1, 1) := by decide +kernel
theorem dX1_standing_7 : decode cX1_standing 7 = .ok (.getfield 69, 3) := by decide +kernel
theorem dX1_standing_10 : decode cX1_standing 10 = .ok (.aload_n 1, 1) := by decide +kernel
theorem dX1_standing_11 : decode cX1_standing 11 = .ok (.getfield 72, 3) := by decide +kernel
theorem dX1_standing_14 : decode cX1_standing 14 = .ok (.invokevirtual 75, 3) := by decide +kernel
theorem dX1_standing_17 : decode cX1_standing 17 = .ok (.ireturn, 1) := by decide +kernel
theorem dX1_holdingWith_0 : decode cX1_holdingWith 0 = .ok (.iconst 0, 1) := by decide +kernel
theorem dX1_holdingWith_1 : decode cX1_holdingWith 1 = .ok (.istore_n 3, 1) := by decide +kernel
theorem dX1_holdingWith_2 : decode cX1_holdingWith 2 = .ok (.iconst 0, 1) := by decide +kernel
theorem dX1_holdingWith_3 : decode cX1_holdingWith 3 = .ok (.istore 4, 2) := by decide +kernel
theorem dX1_holdingWith_5 : decode cX1_holdingWith 5 = .ok (.iload 4, 2) := by decide +kernel
theorem dX1_holdingWith_7 : decode cX1_holdingWith 7 = .ok (.bipush 16, 2) := by decide +kernel
theorem dX1_holdingWith_9 : decode cX1_holdingWith 9 = .ok (.if_icmp .ge 41, 3) := by decide +kernel
theorem dX1_holdingWith_12 : decode cX1_holdingWith 12 = .ok (.iload_n 2, 1) := by decide +kernel
theorem dX1_holdingWith_13 : decode cX1_holdingWith 13 = .ok (.iload 4, 2) := by decide +kernel
theorem dX1_holdingWith_15 : decode cX1_holdingWith 15 = .ok (.invokestatic 79, 3) := by decide +kernel
theorem dX1_holdingWith_18 : decode cX1_holdingWith 18 = .ok (.ifCond .eq 26, 3) := by decide +kernel
theorem dX1_holdingWith_21 : decode cX1_holdingWith 21 = .ok (.aload_n 0, 1) := by decide +kernel
theorem dX1_holdingWith_22 : decode cX1_holdingWith 22 = .ok (.aload_n 1, 1) := by decide +kernel
theorem dX1_holdingWith_23 : decode cX1_holdingWith 23 = .ok (.iload 4, 2) := by decide +kernel
theorem dX1_holdingWith_25 : decode cX1_holdingWith 25 = .ok (.iload_n 2, 1) := by decide +kernel
theorem dX1_holdingWith_26 : decode cX1_holdingWith 26 = .ok (.iload 4, 2) := by decide +kernel
theorem dX1_holdingWith_28 : decode cX1_holdingWith 28 = .ok (.invokestatic 34, 3) := by decide +kernel
theorem dX1_holdingWith_31 : decode cX1_holdingWith 31 = .ok (.invokevirtual 83, 3) := by decide +kernel
theorem dX1_holdingWith_34 : decode cX1_holdingWith 34 = .ok (.ifCond .eq 10, 3) := by decide +kernel
theorem dX1_holdingWith_37 : decode cX1_holdingWith 37 = .ok (.iload_n 3, 1) := by decide +kernel
theorem dX1_holdingWith_38 : decode cX1_holdingWith 38 = .ok (.iconst 1, 1) := by decide +kernel
theorem dX1_holdingWith_39 : decode cX1_holdingWith 39 = .ok (.iload 4, 2) := by decide +kernel
theorem dX1_holdingWith_41 : decode cX1_holdingWith 41 = .ok (.ishl, 1) := by decide +kernel
theorem dX1_holdingWith_42 : decode cX1_holdingWith 42 = .ok (.ior, 1) := by decide +kernel
theorem dX1_holdingWith_43 : decode cX1_holdingWith 43 = .ok (.istore_n 3, 1) := by decide +kernel
theorem dX1_holdingWith_44 : decode cX1_holdingWith 44 = .ok (.iinc 4 1, 3) := by decide +kernel
theorem dX1_holdingWith_47 : decode cX1_holdingWith 47 = .ok (.goto (-42), 3) := by decide +kernel
theorem dX1_holdingWith_50 : decode cX1_holdingWith 50 = .ok (.iload_n 3, 1) := by decide +kernel
theorem dX1_holdingWith_51 : decode cX1_holdingWith 51 = .ok (.ireturn, 1) := by decide +kernel
theorem dX1_standingWith_0 : decode cX1_standingWith 0 = .ok (.aload_n 1, 1) := by decide +kernel
theorem dX1_standingWith_1 : decode cX1_standingWith 1 = .ok (.aload_n 0, 1) := by decide +kernel
theorem dX1_standingWith_2 : decode cX1_standingWith 2 = .ok (.aload_n 1, 1) := by decide +kernel
theorem dX1_standingWith_3 : decode cX1_standingWith 3 = .ok (.iload_n 2, 1) := by decide +kernel
theorem dX1_standingWith_4 : decode cX1_standingWith 4 = .ok (.invokevirtual 61, 3) := by decide +kernel
theorem dX1_standingWith_7 : decode cX1_standingWith 7 = .ok (.aload_n 1, 1) := by decide +kernel
theorem dX1_standingWith_8 : decode cX1_standingWith 8 = .ok (.getfield 69, 3) := by decide +kernel
theorem dX1_standingWith_11 : decode cX1_standingWith 11 = .ok (.aload_n 1, 1) := by decide +kernel
theorem dX1_standingWith_12 : decode cX1_standingWith 12 = .ok (.getfield 72, 3) := by decide +kernel
theorem dX1_standingWith_15 : decode cX1_standingWith 15 = .ok (.invokevirtual 75, 3) := by decide +kernel
theorem dX1_standingWith_18 : decode cX1_standingWith 18 = .ok (.ireturn, 1) := by decide +kernel
theorem dX1_holds_0 : decode cX1_holds 0 = .ok (.iconst 1, 1) := by decide +kernel
theorem dX1_holds_1 : decode cX1_holds 1 = .ok (.iload_n 3, 1) := by decide +kernel
theorem dX1_holds_2 : decode cX1_holds 2 = .ok (.ishl, 1) := by decide +kernel
theorem dX1_holds_3 : decode cX1_holds 3 = .ok (.istore 4, 2) := by decide +kernel
theorem dX1_holds_5 : decode cX1_holds 5 = .ok (.aload_n 0, 1) := by decide +kernel
theorem dX1_holds_6 : decode cX1_holds 6 = .ok (.getfield 18, 3) := by decide +kernel
theorem dX1_holds_9 : decode cX1_holds 9 = .ok (.iload_n 2, 1) := by decide +kernel
theorem dX1_holds_10 : decode cX1_holds 10 = .ok (.iaload, 1) := by decide +kernel
theorem dX1_holds_11 : decode cX1_holds 11 = .ok (.iload 4, 2) := by decide +kernel
theorem dX1_holds_13 : decode cX1_holds 13 = .ok (.iand, 1) := by decide +kernel
theorem dX1_holds_14 : decode cX1_holds 14 = .ok (.ifCond .ne 75, 3) := by decide +kernel
theorem dX1_holds_17 : decode cX1_holds 17 = .ok (.aload_n 0, 1) := by decide +kernel
theorem dX1_holds_18 : decode cX1_holds 18 = .ok (.getfield 18, 3) := by decide +kernel
theorem dX1_holds_21 : decode cX1_holds 21 = .ok (.iload_n 2, 1) := by decide +kernel
theorem dX1_holds_22 : decode cX1_holds 22 = .ok (.dup2, 1) := by decide +kernel
theorem dX1_holds_23 : decode cX1_holds 23 = .ok (.iaload, 1) := by decide +kernel
theorem dX1_holds_24 : decode cX1_holds 24 = .ok (.iload 4, 2) := by decide +kernel
theorem dX1_holds_26 : decode cX1_holds 26 = .ok (.ior, 1) := by decide +kernel
theorem dX1_holds_27 : decode cX1_holds 27 = .ok (.iastore, 1) := by decide +kernel
theorem dX1_holds_28 : decode cX1_holds 28 = .ok (.aload_n 1, 1) := by decide +kernel
theorem dX1_holds_29 : decode cX1_holds 29 = .ok (.getfield 87, 3) := by decide +kernel
theorem dX1_holds_32 : decode cX1_holds 32 = .ok (.iload_n 2, 1) := by decide +kernel
theorem dX1_holds_33 : decode cX1_holds 33 = .ok (.iaload, 1) := by decide +kernel
theorem dX1_holds_34 : decode cX1_holds 34 = .ok (.aload_n 1, 1) := by decide +kernel
theorem dX1_holds_35 : decode cX1_holds 35 = .ok (.getfield 25, 3) := by decide +kernel
theorem dX1_holds_38 : decode cX1_holds 38 = .ok (.iload_n 2, 1) := by decide +kernel
theorem dX1_holds_39 : decode cX1_holds 39 = .ok (.iaload, 1) := by decide +kernel
theorem dX1_holds_40 : decode cX1_holds 40 = .ok (.iadd, 1) := by decide +kernel
theorem dX1_holds_41 : decode cX1_holds 41 = .ok (.aload_n 0, 1) := by decide +kernel
theorem dX1_holds_42 : decode cX1_holds 42 = .ok (.getfield 12, 3) := by decide +kernel
theorem dX1_holds_45 : decode cX1_holds 45 = .ok (.iconst 0, 1) := by decide +kernel
theorem dX1_holds_46 : decode cX1_holds 46 = .ok (.aload_n 1, 1) := by decide +kernel
theorem dX1_holds_47 : decode cX1_holds 47 = .ok (.iload_n 2, 1) := by decide +kernel
theorem dX1_holds_48 : decode cX1_holds 48 = .ok (.iload_n 3, 1) := by decide +kernel
theorem dX1_holds_49 : decode cX1_holds 49 = .ok (.iconst 1, 1) := by decide +kernel
theorem dX1_holds_50 : decode cX1_holds 50 = .ok (.invokevirtual 42, 3) := by decide +kernel
theorem dX1_holds_53 : decode cX1_holds 53 = .ok (.iadd, 1) := by decide +kernel
theorem dX1_holds_54 : decode cX1_holds 54 = .ok (.istore 5, 2) := by decide +kernel
theorem dX1_holds_56 : decode cX1_holds 56 = .ok (.iload 5, 2) := by decide +kernel
theorem dX1_holds_58 : decode cX1_holds 58 = .ok (.bipush 60, 2) := by decide +kernel
theorem dX1_holds_60 : decode cX1_holds 60 = .ok (.if_icmp .lt 18, 3) := by decide +kernel
theorem dX1_holds_63 : decode cX1_holds 63 = .ok (.aload_n 0, 1) := by decide +kernel
theorem dX1_holds_64 : decode cX1_holds 64 = .ok (.getfield 12, 3) := by decide +kernel
theorem dX1_holds_67 : decode cX1_holds 67 = .ok (.iconst 2, 1) := by decide +kernel
theorem dX1_holds_68 : decode cX1_holds 68 = .ok (.aload_n 1, 1) := by decide +kernel
theorem dX1_holds_69 : decode cX1_holds 69 = .ok (.iload_n 2, 1) := by decide +kernel
theorem dX1_holds_70 : decode cX1_holds 70 = .ok (.iload_n 3, 1) := by decide +kernel
theorem dX1_holds_71 : decode cX1_holds 71 = .ok (.iconst 1, 1) := by decide +kernel
theorem dX1_holds_72 : decode cX1_holds 72 = .ok (.invokevirtual 90, 3) := by decide +kernel
theorem dX1_holds_75 : decode cX1_holds 75 = .ok (.ifCond .eq 14, 3) := by decide +kernel
theorem dX1_holds_78 : decode cX1_holds 78 = .ok (.aload_n 0, 1) := by decide +kernel
theorem dX1_holds_79 : decode cX1_holds 79 = .ok (.getfield 22, 3) := by decide +kernel
theorem dX1_holds_82 : decode cX1_holds 82 = .ok (.iload_n 2, 1) := by decide +kernel
theorem dX1_holds_83 : decode cX1_holds 83 = .ok (.dup2, 1) := by decide +kernel
theorem dX1_holds_84 : decode cX1_holds 84 = .ok (.iaload, 1) := by decide +kernel
theorem dX1_holds_85 : decode cX1_holds 85 = .ok (.iload 4, 2) := by decide +kernel
theorem dX1_holds_87 : decode cX1_holds 87 = .ok (.ior, 1) := by decide +kernel
theorem dX1_holds_88 : decode cX1_holds 88 = .ok (.iastore, 1) := by decide +kernel
theorem dX1_holds_89 : decode cX1_holds 89 = .ok (.aload_n 0, 1) := by decide +kernel
theorem dX1_holds_90 : decode cX1_holds 90 = .ok (.getfield 22, 3) := by decide +kernel
theorem dX1_holds_93 : decode cX1_holds 93 = .ok (.iload_n 2, 1) := by decide +kernel
theorem dX1_holds_94 : decode cX1_holds 94 = .ok (.iaload, 1) := by decide +kernel
theorem dX1_holds_95 : decode cX1_holds 95 = .ok (.iload 4, 2) := by decide +kernel
theorem dX1_holds_97 : decode cX1_holds 97 = .ok (.iand, 1) := by decide +kernel
theorem dX1_holds_98 : decode cX1_holds 98 = .ok (.ifCond .eq 7, 3) := by decide +kernel
theorem dX1_holds_101 : decode cX1_holds 101 = .ok (.iconst 1, 1) := by decide +kernel
theorem dX1_holds_102 : decode cX1_holds 102 = .ok (.goto 4, 3) := by decide +kernel
theorem dX1_holds_105 : decode cX1_holds 105 = .ok (.iconst 0, 1) := by decide +kernel
theorem dX1_holds_106 : decode cX1_holds 106 = .ok (.ireturn, 1) := by decide +kernel
theorem dX1_daysMore_0 : decode cX1_daysMore 0 = .ok (.iconst 0, 1) := by decide +kernel
theorem dX1_daysMore_1 : decode cX1_daysMore 1 = .ok (.istore 4, 2) := by decide +kernel
theorem dX1_daysMore_3 : decode cX1_daysMore 3 = .ok (.iconst 0, 1) := by decide +kernel
theorem dX1_daysMore_4 : decode cX1_daysMore 4 = .ok (.istore 5, 2) := by decide +kernel
theorem dX1_daysMore_6 : decode cX1_daysMore 6 = .ok (.iload 5, 2) := by decide +kernel
theorem dX1_daysMore_8 : decode cX1_daysMore 8 = .ok (.iload_n 2, 1) := by decide +kernel
theorem dX1_daysMore_9 : decode cX1_daysMore 9 = .ok (.if_icmp .ge 23, 3) := by decide +kernel
theorem dX1_daysMore_12 : decode cX1_daysMore 12 = .ok (.iload 4, 2) := by decide +kernel
theorem dX1_daysMore_14 : decode cX1_daysMore 14 = .ok (.aload_n 0, 1) := by decide +kernel
theorem dX1_daysMore_15 : decode cX1_daysMore 15 = .ok (.aload_n 1, 1) := by decide +kernel
theorem dX1_daysMore_16 : decode cX1_daysMore 16 = .ok (.iload_n 3, 1) := by decide +kernel
theorem dX1_daysMore_17 : decode cX1_daysMore 17 = .ok (.invokevirtual 94, 3) := by decide +kernel
theorem dX1_daysMore_20 : decode cX1_daysMore 20 = .ok (.invokestatic 98, 3) := by decide +kernel
theorem dX1_daysMore_23 : decode cX1_daysMore 23 = .ok (.iadd, 1) := by decide +kernel
theorem dX1_daysMore_24 : decode cX1_daysMore 24 = .ok (.istore 4, 2) := by decide +kernel
theorem dX1_daysMore_26 : decode cX1_daysMore 26 = .ok (.iinc 5 1, 3) := by decide +kernel
theorem dX1_daysMore_29 : decode cX1_daysMore 29 = .ok (.goto (-23), 3) := by decide +kernel
theorem dX1_daysMore_32 : decode cX1_daysMore 32 = .ok (.iload 4, 2) := by decide +kernel
theorem dX1_daysMore_34 : decode cX1_daysMore 34 = .ok (.ireturn, 1) := by decide +kernel
theorem dX1_dayMore_0 : decode cX1_dayMore 0 = .ok (.iconst 0, 1) := by decide +kernel
theorem dX1_dayMore_1 : decode cX1_dayMore 1 = .ok (.istore_n 3, 1) := by decide +kernel
theorem dX1_dayMore_2 : decode cX1_dayMore 2 = .ok (.iload_n 3, 1) := by decide +kernel
theorem dX1_dayMore_3 : decode cX1_dayMore 3 = .ok (.bipush 16, 2) := by decide +kernel
theorem dX1_dayMore_5 : decode cX1_dayMore 5 = .ok (.if_icmp .ge 28, 3) := by decide +kernel
theorem dX1_dayMore_8 : decode cX1_dayMore 8 = .ok (.aload_n 1, 1) := by decide +kernel
theorem dX1_dayMore_9 : decode cX1_dayMore 9 = .ok (.iload_n 3, 1) := by decide +kernel
theorem dX1_dayMore_10 : decode cX1_dayMore 10 = .ok (.invokevirtual 38, 3) := by decide +kernel
theorem dX1_dayMore_13 : decode cX1_dayMore 13 = .ok (.ifCond .eq 14, 3) := by decide +kernel
theorem dX1_dayMore_16 : decode cX1_dayMore 16 = .ok (.aload_n 1, 1) := by decide +kernel
theorem dX1_dayMore_17 : decode cX1_dayMore 17 = .ok (.iload_n 3, 1) := by decide +kernel
theorem dX1_dayMore_18 : decode cX1_dayMore 18 = .ok (.aload_n 0, 1) := by decide +kernel
theorem dX1_dayMore_19 : decode cX1_dayMore 19 = .ok (.aload_n 1, 1) := by decide +kernel
theorem dX1_dayMore_20 : decode cX1_dayMore 20 = .ok (.iload_n 3, 1) := by decide +kernel
theorem dX1_dayMore_21 : decode cX1_dayMore 21 = .ok (.invokevirtual 104, 3) := by decide +kernel
theorem dX1_dayMore_24 : decode cX1_dayMore 24 = .ok (.invokevirtual 107, 3) := by decide +kernel
theorem dX1_dayMore_27 : decode cX1_dayMore 27 = .ok (.iinc 3 1, 3) := by decide +kernel
theorem dX1_dayMore_30 : decode cX1_dayMore 30 = .ok (.goto (-28), 3) := by decide +kernel
theorem dX1_dayMore_33 : decode cX1_dayMore 33 = .ok (.aload_n 1, 1) := by decide +kernel
theorem dX1_dayMore_34 : decode cX1_dayMore 34 = .ok (.getfield 30, 3) := by decide +kernel
theorem dX1_dayMore_37 : decode cX1_dayMore 37 = .ok (.istore_n 3, 1) := by decide +kernel
theorem dX1_dayMore_38 : decode cX1_dayMore 38 = .ok (.iload_n 2, 1) := by decide +kernel
theorem dX1_dayMore_39 : decode cX1_dayMore 39 = .ok (.ifCond .eq 11, 3) := by decide +kernel
theorem dX1_dayMore_42 : decode cX1_dayMore 42 = .ok (.aload_n 1, 1) := by decide +kernel
theorem dX1_dayMore_43 : decode cX1_dayMore 43 = .ok (.invokestatic 111, 3) := by decide +kernel
theorem dX1_dayMore_46 : decode cX1_dayMore 46 = .ok (.aload_n 1, 1) := by decide +kernel
theorem dX1_dayMore_47 : decode cX1_dayMore 47 = .ok (.invokestatic 115, 3) := by decide +kernel
theorem dX1_dayMore_50 : decode cX1_dayMore 50 = .ok (.aload_n 0, 1) := by decide +kernel
theorem dX1_dayMore_51 : decode cX1_dayMore 51 = .ok (.invokevirtual 58, 3) := by decide +kernel
theorem dX1_dayMore_54 : decode cX1_dayMore 54 = .ok (.aload_n 1, 1) := by decide +kernel
theorem dX1_dayMore_55 : decode cX1_dayMore 55 = .ok (.aload_n 1, 1) := by decide +kernel
theorem dX1_dayMore_56 : decode cX1_dayMore 56 = .ok (.getfield 30, 3) := by decide +kernel
theorem dX1_dayMore_59 : decode cX1_dayMore 59 = .ok (.aload_n 0, 1) := by decide +kernel
theorem dX1_dayMore_60 : decode cX1_dayMore 60 = .ok (.aload_n 1, 1) := by decide +kernel
theorem dX1_dayMore_61 : decode cX1_dayMore 61 = .ok (.aload_n 1, 1) := by decide +kernel
theorem dX1_dayMore_62 : decode cX1_dayMore 62 = .ok (.getfield 30, 3) := by decide +kernel
theorem dX1_dayMore_65 : decode cX1_dayMore 65 = .ok (.invokevirtual 61, 3) := by decide +kernel
theorem dX1_dayMore_68 : decode cX1_dayMore 68 = .ok (.iconst (-1), 1) := by decide +kernel
theorem dX1_dayMore_69 : decode cX1_dayMore 69 = .ok (.ixor, 1) := by decide +kernel
theorem dX1_dayMore_70 : decode cX1_dayMore 70 = .ok (.iand, 1) := by decide +kernel
theorem dX1_dayMore_71 : decode cX1_dayMore 71 = .ok (.invokevirtual 118, 3) := by decide +kernel
theorem dX1_dayMore_74 : decode cX1_dayMore 74 = .ok (.aload_n 1, 1) := by decide +kernel
theorem dX1_dayMore_75 : decode cX1_dayMore 75 = .ok (.invokevirtual 122, 3) := by decide +kernel
theorem dX1_dayMore_78 : decode cX1_dayMore 78 = .ok (.iload_n 3, 1) := by decide +kernel
theorem dX1_dayMore_79 : decode cX1_dayMore 79 = .ok (.aload_n 1, 1) := by decide +kernel
theorem dX1_dayMore_80 : decode cX1_dayMore 80 = .ok (.getfield 30, 3) := by decide +kernel
theorem dX1_dayMore_83 : decode cX1_dayMore 83 = .ok (.iconst (-1), 1) := by decide +kernel
theorem dX1_dayMore_84 : decode cX1_dayMore 84 = .ok (.ixor, 1) := by decide +kernel
theorem dX1_dayMore_85 : decode cX1_dayMore 85 = .ok (.iand, 1) := by decide +kernel
theorem dX1_dayMore_86 : decode cX1_dayMore 86 = .ok (.ireturn, 1) := by decide +kernel
theorem dX1_blow_0 : decode cX1_blow 0 = .ok (.aload_n 0, 1) := by decide +kernel
theorem dX1_blow_1 : decode cX1_blow 1 = .ok (.invokevirtual 125, 3) := by decide +kernel
theorem dX1_blow_4 : decode cX1_blow 4 = .ok (.bipush 100, 2) := by decide +kernel
theorem dX1_blow_6 : decode cX1_blow 6 = .ok (.irem, 1) := by decide +kernel
theorem dX1_blow_7 : decode cX1_blow 7 = .ok (.aload_n 0, 1) := by decide +kernel
theorem dX1_blow_8 : decode cX1_blow 8 = .ok (.getfield 129, 3) := by decide +kernel
theorem dX1_blow_11 : decode cX1_blow 11 = .ok (.if_icmp .ge 23, 3) := by decide +kernel
theorem dX1_blow_14 : decode cX1_blow 14 = .ok (.aload_n 0, 1) := by decide +kernel
theorem dX1_blow_15 : decode cX1_blow 15 = .ok (.invokevirtual 125, 3) := by decide +kernel
theorem dX1_blow_18 : decode cX1_blow 18 = .ok (.bipush 16, 2) := by decide +kernel
theorem dX1_blow_20 : decode cX1_blow 20 = .ok (.irem, 1) := by decide +kernel
theorem dX1_blow_21 : decode cX1_blow 21 = .ok (.istore_n 1, 1) := by decide +kernel
theorem dX1_blow_22 : decode cX1_blow 22 = .ok (.aload_n 0, 1) := by decide +kernel
theorem dX1_blow_23 : decode cX1_blow 23 = .ok (.aload_n 0, 1) := by decide +kernel
theorem dX1_blow_24 : decode cX1_blow 24 = .ok (.getfield 30, 3) := by decide +kernel
theorem dX1_blow_27 : decode cX1_blow 27 = .ok (.iconst 1, 1) := by decide +kernel
theorem dX1_blow_28 : decode cX1_blow 28 = .ok (.iload_n 1, 1) := by decide +kernel
theorem dX1_blow_29 : decode cX1_blow 29 = .ok (.ishl, 1) := by decide +kernel
theorem dX1_blow_30 : decode cX1_blow 30 = .ok (.iand, 1) := by decide +kernel
theorem dX1_blow_31 : decode cX1_blow 31 = .ok (.invokevirtual 118, 3) := by decide +kernel
theorem dX1_blow_34 : decode cX1_blow 34 = .ok (.return_, 1) := by decide +kernel
theorem dX1_gnaw_0 : decode cX1_gnaw 0 = .ok (.aload_n 0, 1) := by decide +kernel
theorem dX1_gnaw_1 : decode cX1_gnaw 1 = .ok (.invokevirtual 125, 3) := by decide +kernel
theorem dX1_gnaw_4 : decode cX1_gnaw 4 = .ok (.bipush 100, 2) := by decide +kernel
theorem dX1_gnaw_6 : decode cX1_gnaw 6 = .ok (.irem, 1) := by decide +kernel
theorem dX1_gnaw_7 : decode cX1_gnaw 7 = .ok (.aload_n 0, 1) := by decide +kernel
theorem dX1_gnaw_8 : decode cX1_gnaw 8 = .ok (.getfield 132, 3) := by decide +kernel
theorem dX1_gnaw_11 : decode cX1_gnaw 11 = .ok (.if_icmp .ge 26, 3) := by decide +kernel
theorem dX1_gnaw_14 : decode cX1_gnaw 14 = .ok (.aload_n 0, 1) := by decide +kernel
theorem dX1_gnaw_15 : decode cX1_gnaw 15 = .ok (.invokevirtual 125, 3) := by decide +kernel
theorem dX1_gnaw_18 : decode cX1_gnaw 18 = .ok (.bipush 16, 2) := by decide +kernel
theorem dX1_gnaw_20 : decode cX1_gnaw 20 = .ok (.irem, 1) := by decide +kernel
theorem dX1_gnaw_21 : decode cX1_gnaw 21 = .ok (.istore_n 1, 1) := by decide +kernel
theorem dX1_gnaw_22 : decode cX1_gnaw 22 = .ok (.aload_n 0, 1) := by decide +kernel
theorem dX1_gnaw_23 : decode cX1_gnaw 23 = .ok (.iload_n 1, 1) := by decide +kernel
theorem dX1_gnaw_24 : decode cX1_gnaw 24 = .ok (.invokevirtual 38, 3) := by decide +kernel
theorem dX1_gnaw_27 : decode cX1_gnaw 27 = .ok (.ifCond .eq 10, 3) := by decide +kernel
theorem dX1_gnaw_30 : decode cX1_gnaw 30 = .ok (.aload_n 0, 1) := by decide +kernel
theorem dX1_gnaw_31 : decode cX1_gnaw 31 = .ok (.iload_n 1, 1) := by decide +kernel
theorem dX1_gnaw_32 : decode cX1_gnaw 32 = .ok (.bipush 20, 2) := by decide +kernel
theorem dX1_gnaw_34 : decode cX1_gnaw 34 = .ok (.invokevirtual 107, 3) := by decide +kernel
theorem dX1_gnaw_37 : decode cX1_gnaw 37 = .ok (.return_, 1) := by decide +kernel
theorem dX2_init_0 : decode cX2_init 0 = .ok (.aload_n 0, 1) := by decide +kernel
theorem dX2_init_1 : decode cX2_init 1 = .ok (.invokespecial 3, 3) := by decide +kernel
theorem dX2_init_4 : decode cX2_init 4 = .ok (.aload_n 0, 1) := by decide +kernel
theorem dX2_init_5 : decode cX2_init 5 = .ok (.iconst (-1), 1) := by decide +kernel
theorem dX2_init_6 : decode cX2_init 6 = .ok (.putfield 9, 3) := by decide +kernel
theorem dX2_init_9 : decode cX2_init 9 = .ok (.aload_n 0, 1) := by decide +kernel
theorem dX2_init_10 : decode cX2_init 10 = .ok (.bipush 12, 2) := by decide +kernel
theorem dX2_init_12 : decode cX2_init 12 = .ok (.newarray .int, 2) := by decide +kernel
theorem dX2_init_14 : decode cX2_init 14 = .ok (.putfield 15, 3) := by decide +kernel
theorem dX2_init_17 : decode cX2_init 17 = .ok (.aload_n 0, 1) := by decide +kernel
theorem dX2_init_18 : decode cX2_init 18 = .ok (.bipush 12, 2) := by decide +kernel
theorem dX2_init_20 : decode cX2_init 20 = .ok (.newarray .int, 2) := by decide +kernel
theorem dX2_init_22 : decode cX2_init 22 = .ok (.putfield 19, 3) := by decide +kernel
theorem dX2_init_25 : decode cX2_init 25 = .ok (.aload_n 0, 1) := by decide +kernel
theorem dX2_init_26 : decode cX2_init 26 = .ok (.bipush 12, 2) := by decide +kernel
theorem dX2_init_28 : decode cX2_init 28 = .ok (.newarray .int, 2) := by decide +kernel
theorem dX2_init_30 : decode cX2_init 30 = .ok (.putfield 22, 3) := by decide +kernel
theorem dX2_init_33 : decode cX2_init 33 = .ok (.aload_n 0, 1) := by decide +kernel
theorem dX2_init_34 : decode cX2_init 34 = .ok (.sipush 400, 3) := by decide +kernel
theorem dX2_init_37 : decode cX2_init 37 = .ok (.newarray .int, 2) := by decide +kernel
theorem dX2_init_39 : decode cX2_init 39 = .ok (.putfield 27, 3) := by decide +kernel
theorem dX2_init_42 : decode cX2_init 42 = .ok (.return_, 1) := by decide +kernel
theorem dX2_clear_0 : decode cX2_clear 0 = .ok (.aload_n 0, 1) := by decide +kernel
theorem dX2_clear_1 : decode cX2_clear 1 = .ok (.iconst 0, 1) := by decide +kernel
theorem dX2_clear_2 : decode cX2_clear 2 = .ok (.putfield 9, 3) := by decide +kernel
theorem dX2_clear_5 : decode cX2_clear 5 = .ok (.aload_n 0, 1) := by decide +kernel
theorem dX2_clear_6 : decode cX2_clear 6 = .ok (.iconst 0, 1) := by decide +kernel
theorem dX2_clear_7 : decode cX2_clear 7 = .ok (.putfield 30, 3) := by decide +kernel
theorem dX2_clear_10 : decode cX2_clear 10 = .ok (.return_, 1) := by decide +kernel
theorem dX2_put_0 : decode cX2_put 0 = .ok (.aload_n 0, 1) := by decide +kernel
theorem dX2_put_1 : decode cX2_put 1 = .ok (.getfield 30, 3) := by decide +kernel
theorem dX2_put_4 : decode cX2_put 4 = .ok (.aload_n 0, 1) := by decide +kernel
theorem dX2_put_5 : decode cX2_put 5 = .ok (.getfield 27, 3) := by decide +kernel
theorem dX2_put_8 : decode cX2_put 8 = .ok (.arraylength, 1) := by decide +kernel
theorem dX2_put_9 : decode cX2_put 9 = .ok (.if_icmp .ge 23, 3) := by decide +kernel
theorem dX2_put_12 : decode cX2_put 12 = .ok (.aload_n 0, 1) := by decide +kernel
theorem dX2_put_13 : decode cX2_put 13 = .ok (.getfield 27, 3) := by decide +kernel
theorem dX2_put_16 : decode cX2_put 16 = .ok (.aload_n 0, 1) := by decide +kernel
theorem dX2_put_17 : decode cX2_put 17 = .ok (.getfield 30, 3) := by decide +kernel
theorem dX2_put_20 : decode cX2_put 20 = .ok (.iload_n 1, 1) := by decide +kernel
theorem dX2_put_21 : decode cX2_put 21 = .ok (.iastore, 1) := by decide +kernel
theorem dX2_put_22 : decode cX2_put 22 = .ok (.aload_n 0, 1) := by decide +kernel
theorem dX2_put_23 : decode cX2_put 23 = .ok (.dup, 1) := by decide +kernel
theorem dX2_put_24 : decode cX2_put 24 = .ok (.getfield 30, 3) := by decide +kernel
theorem dX2_put_27 : decode cX2_put 27 = .ok (.iconst 1, 1) := by decide +kernel
theorem dX2_put_28 : decode cX2_put 28 = .ok (.iadd, 1) := by decide +kernel
theorem dX2_put_29 : decode cX2_put 29 = .ok (.putfield 30, 3) := by decide +kernel
theorem dX2_put_32 : decode cX2_put 32 = .ok (.return_, 1) := by decide +kernel
theorem dX2_endLine_0 : decode cX2_endLine 0 = .ok (.aload_n 0, 1) := by decide +kernel
theorem dX2_endLine_1 : decode cX2_endLine 1 = .ok (.getfield 9, 3) := by decide +kernel
theorem dX2_endLine_4 : decode cX2_endLine 4 = .ok (.ifCond .lt 55, 3) := by decide +kernel
theorem dX2_endLine_7 : decode cX2_endLine 7 = .ok (.aload_n 0, 1) := by decide +kernel
theorem dX2_endLine_8 : decode cX2_endLine 8 = .ok (.getfield 9, 3) := by decide +kernel
theorem dX2_endLine_11 : decode cX2_endLine 11 = .ok (.bipush 12, 2) := by decide +kernel
theorem dX2_endLine_13 : decode cX2_endLine 13 = .ok (.if_icmp .ge 46, 3) := by decide +kernel
theorem dX2_endLine_16 : decode cX2_endLine 16 = .ok (.aload_n 0, 1) := by decide +kernel
theorem dX2_endLine_17 : decode cX2_endLine 17 = .ok (.getfield 15, 3) := by decide +kernel
theorem dX2_endLine_20 : decode cX2_endLine 20 = .ok (.aload_n 0, 1) := by decide +kernel
theorem dX2_endLine_21 : decode cX2_endLine 21 = .ok (.getfield 9, 3) := by decide +kernel
theorem dX2_endLine_24 : decode cX2_endLine 24 = .ok (.iload_n 1, 1) := by decide +kernel
theorem dX2_endLine_25 : decode cX2_endLine 25 = .ok (.iastore, 1) := by decide +kernel
theorem dX2_endLine_26 : decode cX2_endLine 26 = .ok (.aload_n 0, 1) := by decide +kernel
theorem dX2_endLine_27 : decode cX2_endLine 27 = .ok (.getfield 19, 3) := by decide +kernel
theorem dX2_endLine_30 : decode cX2_endLine 30 = .ok (.aload_n 0, 1) := by decide +kernel
theorem dX2_endLine_31 : decode cX2_endLine 31 = .ok (.getfield 9, 3) := by decide +kernel
theorem dX2_endLine_34 : decode cX2_endLine 34 = .ok (.iload_n 2, 1) := by decide +kernel
theorem dX2_endLine_35 : decode cX2_endLine 35 = .ok (.iastore, 1) := by decide +kernel
theorem dX2_endLine_36 : decode cX2_endLine 36 = .ok (.aload_n 0, 1) := by decide +kernel
theorem dX2_endLine_37 : decode cX2_endLine 37 = .ok (.getfield 22, 3) := by decide +kernel
theorem dX2_endLine_40 : decode cX2_endLine 40 = .ok (.aload_n 0, 1) := by decide +kernel
theorem dX2_endLine_41 : decode cX2_endLine 41 = .ok (.getfield 9, 3) := by decide +kernel
theorem dX2_endLine_44 : decode cX2_endLine 44 = .ok (.aload_n 0, 1) := by decide +kernel
theorem dX2_endLine_45 : decode cX2_endLine 45 = .ok (.getfield 30, 3) := by decide +kernel
theorem dX2_endLine_48 : decode cX2_endLine 48 = .ok (.iastore, 1) := by decide +kernel
theorem dX2_endLine_49 : decode cX2_endLine 49 = .ok (.aload_n 0, 1) := by decide +kernel
theorem dX2_endLine_50 : decode cX2_endLine 50 = .ok (.dup, 1) := by decide +kernel
theorem dX2_endLine_51 : decode cX2_endLine 51 = .ok (.getfield 9, 3) := by decide +kernel
theorem dX2_endLine_54 : decode cX2_endLine 54 = .ok (.iconst 1, 1) := by decide +kernel
theorem dX2_endLine_55 : decode cX2_endLine 55 = .ok (.iadd, 1) := by decide +kernel
theorem dX2_endLine_56 : decode cX2_endLine 56 = .ok (.putfield 9, 3) := by decide +kernel
theorem dX2_endLine_59 : decode cX2_endLine 59 = .ok (.return_, 1) := by decide +kernel
theorem dX2_become_0 : decode cX2_become 0 = .ok (.aload_n 0, 1) := by decide +kernel
theorem dX2_become_1 : decode cX2_become 1 = .ok (.aload_n 1, 1) := by decide +kernel
theorem dX2_become_2 : decode cX2_become 2 = .ok (.getfield 9, 3) := by decide +kernel
theorem dX2_become_5 : decode cX2_become 5 = .ok (.putfield 9, 3) := by decide +kernel
theorem dX2_become_8 : decode cX2_become 8 = .ok (.aload_n 0, 1) := by decide +kernel
theorem dX2_become_9 : decode cX2_become 9 = .ok (.aload_n 1, 1) := by decide +kernel
theorem dX2_become_10 : decode cX2_become 10 = .ok (.getfield 30, 3) := by decide +kernel
theorem dX2_become_13 : decode cX2_become 13 = .ok (.putfield 30, 3) := by decide +kernel
theorem dX2_become_16 : decode cX2_become 16 = .ok (.aload_n 1, 1) := by decide +kernel
theorem dX2_become_17 : decode cX2_become 17 = .ok (.getfield 15, 3) := by decide +kernel
theorem dX2_become_20 : decode cX2_become 20 = .ok (.iconst 0, 1) := by decide +kernel
theorem dX2_become_21 : decode cX2_become 21 = .ok (.aload_n 0, 1) := by decide +kernel
theorem dX2_become_22 : decode cX2_become 22 = .ok (.getfield 15, 3) := by decide +kernel
theorem dX2_become_25 : decode cX2_become 25 = .ok (.iconst 0, 1) := by decide +kernel
theorem dX2_become_26 : decode cX2_become 26 = .ok (.bipush 12, 2) := by decide +kernel
theorem dX2_become_28 : decode cX2_become 28 = .ok (.invokestatic 33, 3) := by decide +kernel
theorem dX2_become_31 : decode cX2_become 31 = .ok (.aload_n 1, 1) := by decide +kernel
theorem dX2_become_32 : decode cX2_become 32 = .ok (.getfield 19, 3) := by decide +kernel
theorem dX2_become_35 : decode cX2_become 35 = .ok (.iconst 0, 1) := by decide +kernel
theorem dX2_become_36 : decode cX2_become 36 = .ok (.aload_n 0, 1) := by decide +kernel
theorem dX2_become_37 : decode cX2_become 37 = .ok (.getfield 19, 3) := by decide +kernel
theorem dX2_become_40 : decode cX2_become 40 = .ok (.iconst 0, 1) := by decide +kernel
theorem dX2_become_41 : decode cX2_become 41 = .ok (.bipush 12, 2) := by decide +kernel
theorem dX2_become_43 : decode cX2_become 43 = .ok (.invokestatic 33, 3) := by decide +kernel
theorem dX2_become_46 : decode cX2_become 46 = .ok (.aload_n 1, 1) := by decide +kernel
theorem dX2_become_47 : decode cX2_become 47 = .ok (.getfield 22, 3) := by decide +kernel
theorem dX2_become_50 : decode cX2_become 50 = .ok (.iconst 0, 1) := by decide +kernel
theorem dX2_become_51 : decode cX2_become 51 = .ok (.aload_n 0, 1) := by decide +kernel
theorem dX2_become_52 : decode cX2_become 52 = .ok (.getfield 22, 3) := by decide +kernel
theorem dX2_become_55 : decode cX2_become 55 = .ok (.iconst 0, 1) := by decide +kernel
theorem dX2_become_56 : decode cX2_become 56 = .ok (.bipush 12, 2) := by decide +kernel
theorem dX2_become_58 : decode cX2_become 58 = .ok (.invokestatic 33, 3) := by decide +kernel
theorem dX2_become_61 : decode cX2_become 61 = .ok (.aload_n 1, 1) := by decide +kernel
theorem dX2_become_62 : decode cX2_become 62 = .ok (.getfield 27, 3) := by decide +kernel
theorem dX2_become_65 : decode cX2_become 65 = .ok (.iconst 0, 1) := by decide +kernel
theorem dX2_become_66 : decode cX2_become 66 = .ok (.aload_n 0, 1) := by decide +kernel
theorem dX2_become_67 : decode cX2_become 67 = .ok (.getfield 27, 3) := by decide +kernel
theorem dX2_become_70 : decode cX2_become 70 = .ok (.iconst 0, 1) := by decide +kernel
theorem dX2_become_71 : decode cX2_become 71 = .ok (.aload_n 0, 1) := by decide +kernel
theorem dX2_become_72 : decode cX2_become 72 = .ok (.getfield 27, 3) := by decide +kernel
theorem dX2_become_75 : decode cX2_become 75 = .ok (.arraylength, 1) := by decide +kernel
theorem dX2_become_76 : decode cX2_become 76 = .ok (.invokestatic 33, 3) := by decide +kernel
theorem dX2_become_79 : decode cX2_become 79 = .ok (.return_, 1) := by decide +kernel
theorem dX2_total_0 : decode cX2_total 0 = .ok (.iconst 0, 1) := by decide +kernel
theorem dX2_total_1 : decode cX2_total 1 = .ok (.istore 6, 2) := by decide +kernel
theorem dX2_total_3 : decode cX2_total 3 = .ok (.iconst 0, 1) := by decide +kernel
theorem dX2_total_4 : decode cX2_total 4 = .ok (.istore 7, 2) := by decide +kernel
theorem dX2_total_6 : decode cX2_total 6 = .ok (.iload 7, 2) := by decide +kernel
theorem dX2_total_8 : decode cX2_total 8 = .ok (.aload_n 0, 1) := by decide +kernel
theorem dX2_total_9 : decode cX2_total 9 = .ok (.getfield 9, 3) := by decide +kernel
theorem dX2_total_12 : decode cX2_total 12 = .ok (.if_icmp .ge 47, 3) := by decide +kernel
theorem dX2_total_15 : decode cX2_total 15 = .ok (.aload_n 0, 1) := by decide +kernel
theorem dX2_total_16 : decode cX2_total 16 = .ok (.getfield 15, 3) := by decide +kernel
theorem dX2_total_19 : decode cX2_total 19 = .ok (.iload 7, 2) := by decide +kernel
theorem dX2_total_21 : decode cX2_total 21 = .ok (.iaload, 1) := by decide +kernel
theorem dX2_total_22 : decode cX2_total 22 = .ok (.iload_n 1, 1) := by decide +kernel
theorem dX2_total_23 : decode cX2_total 23 = .ok (.if_icmp .ne 30, 3) := by decide +kernel
theorem dX2_total_26 : decode cX2_total 26 = .ok (.aload_n 0, 1) := by decide +kernel
theorem dX2_total_27 : decode cX2_total 27 = .ok (.iload 7, 2) := by decide +kernel
theorem dX2_total_29 : decode cX2_total 29 = .ok (.aload_n 2, 1) := by decide +kernel
theorem dX2_total_30 : decode cX2_total 30 = .ok (.iload_n 3, 1) := by decide +kernel
theorem dX2_total_31 : decode cX2_total 31 = .ok (.iload 4, 2) := by decide +kernel
theorem dX2_total_33 : decode cX2_total 33 = .ok (.iload 5, 2) := by decide +kernel
theorem dX2_total_35 : decode cX2_total 35 = .ok (.invokevirtual 39, 3) := by decide +kernel
theorem dX2_total_38 : decode cX2_total 38 = .ok (.ifCond .eq 15, 3) := by decide +kernel
theorem dX2_total_41 : decode cX2_total 41 = .ok (.iload 6, 2) := by decide +kernel
theorem dX2_total_43 : decode cX2_total 43 = .ok (.aload_n 0, 1) := by decide +kernel
theorem dX2_total_44 : decode cX2_total 44 = .ok (.getfield 19, 3) := by decide +kernel
theorem dX2_total_47 : decode cX2_total 47 = .ok (.iload 7, 2) := by decide +kernel
theorem dX2_total_49 : decode cX2_total 49 = .ok (.iaload, 1) := by decide +kernel
theorem dX2_total_50 : decode cX2_total 50 = .ok (.iadd, 1) := by decide +kernel
theorem dX2_total_51 : decode cX2_total 51 = .ok (.istore 6, 2) := by decide +kernel
theorem dX2_total_53 : decode cX2_total 53 = .ok (.iinc 7 1, 3) := by decide +kernel
theorem dX2_total_56 : decode cX2_total 56 = .ok (.goto (-50), 3) := by decide +kernel
theorem dX2_total_59 : decode cX2_total 59 = .ok (.iload 6, 2) := by decide +kernel
theorem dX2_total_61 : decode cX2_total 61 = .ok (.ireturn, 1) := by decide +kernel
theorem dX2_some_0 : decode cX2_some 0 = .ok (.iconst 0, 1) := by decide +kernel
theorem dX2_some_1 : decode cX2_some 1 = .ok (.istore 6, 2) := by decide +kernel
theorem dX2_some_3 : decode cX2_some 3 = .ok (.iload 6, 2) := by decide +kernel
theorem dX2_some_5 : decode cX2_some 5 = .ok (.aload_n 0, 1) := by decide +kernel
theorem dX2_some_6 : decode cX2_some 6 = .ok (.getfield 9, 3) := by decide +kernel
theorem dX2_some_9 : decode cX2_some 9 = .ok (.if_icmp .ge 37, 3) := by decide +kernel
theorem dX2_some_12 : decode cX2_some 12 = .ok (.aload_n 0, 1) := by decide +kernel
theorem dX2_some_13 : decode cX2_some 13 = .ok (.getfield 15, 3) := by decide +kernel
theorem dX2_some_16 : decode cX2_some 16 = .ok (.iload 6, 2) := by decide +kernel
theorem dX2_some_18 : decode cX2_some 18 = .ok (.iaload, 1) := by decide +kernel
theorem dX2_some_19 : decode cX2_some 19 = .ok (.iload_n 1, 1) := by decide +kernel
theorem dX2_some_20 : decode cX2_some 20 = .ok (.if_icmp .ne 20, 3) := by decide +kernel
theorem dX2_some_23 : decode cX2_some 23 = .ok (.aload_n 0, 1) := by decide +kernel
theorem dX2_some_24 : decode cX2_some 24 = .ok (.iload 6, 2) := by decide +kernel
theorem dX2_some_26 : decode cX2_some 26 = .ok (.aload_n 2, 1) := by decide +kernel
theorem dX2_some_27 : decode cX2_some 27 = .ok (.iload_n 3, 1) := by decide +kernel
theorem dX2_some_28 : decode cX2_some 28 = .ok (.iload 4, 2) := by decide +kernel
theorem dX2_some_30 : decode cX2_some 30 = .ok (.iload 5, 2) := by decide +kernel
theorem dX2_some_32 : decode cX2_some 32 = .ok (.invokevirtual 39, 3) := by decide +kernel
theorem dX2_some_35 : decode cX2_some 35 = .ok (.ifCond .eq 5, 3) := by decide +kernel
theorem dX2_some_38 : decode cX2_some 38 = .ok (.iconst 1, 1) := by decide +kernel
theorem dX2_some_39 : decode cX2_some 39 = .ok (.ireturn, 1) := by decide +kernel
theorem dX2_some_40 : decode cX2_some 40 = .ok (.iinc 6 1, 3) := by decide +kernel
theorem dX2_some_43 : decode cX2_some 43 = .ok (.goto (-40), 3) := by decide +kernel
theorem dX2_some_46 : decode cX2_some 46 = .ok (.iconst 0, 1) := by decide +kernel
theorem dX2_some_47 : decode cX2_some 47 = .ok (.ireturn, 1) := by decide +kernel
theorem dX2_lineHolds_0 : decode cX2_lineHolds 0 = .ok (.iconst 1, 1) := by decide +kernel
theorem dX2_lineHolds_1 : decode cX2_lineHolds 1 = .ok (.istore 6, 2) := by decide +kernel
theorem dX2_lineHolds_3 : decode cX2_lineHolds 3 = .ok (.iconst 0, 1) := by decide +kernel
theorem dX2_lineHolds_4 : decode cX2_lineHolds 4 = .ok (.istore 7, 2) := by decide +kernel
theorem dX2_lineHolds_6 : decode cX2_lineHolds 6 = .ok (.iconst 0, 1) := by decide +kernel
theorem dX2_lineHolds_7 : decode cX2_lineHolds 7 = .ok (.istore 8, 2) := by decide +kernel
theorem dX2_lineHolds_9 : decode cX2_lineHolds 9 = .ok (.iload_n 1, 1) := by decide +kernel
theorem dX2_lineHolds_10 : decode cX2_lineHolds 10 = .ok (.ifCond .ne 7, 3) := by decide +kernel
theorem dX2_lineHolds_13 : decode cX2_lineHolds 13 = .ok (.iconst 0, 1) := by decide +kernel
theorem dX2_lineHolds_14 : decode cX2_lineHolds 14 = .ok (.goto 11, 3) := by decide +kernel
theorem dX2_lineHolds_17 : decode cX2_lineHolds 17 = .ok (.aload_n 0, 1) := by decide +kernel
theorem dX2_lineHolds_18 : decode cX2_lineHolds 18 = .ok (.getfield 22, 3) := by decide +kernel
theorem dX2_lineHolds_21 : decode cX2_lineHolds 21 = .ok (.iload_n 1, 1) := by decide +kernel
theorem dX2_lineHolds_22 : decode cX2_lineHolds 22 = .ok (.iconst 1, 1) := by decide +kernel
theorem dX2_lineHolds_23 : decode cX2_lineHolds 23 = .ok (.isub, 1) := by decide +kernel
theorem dX2_lineHolds_24 : decode cX2_lineHolds 24 = .ok (.iaload, 1) := by decide +kernel
theorem dX2_lineHolds_25 : decode cX2_lineHolds 25 = .ok (.istore 9, 2) := by decide +kernel
theorem dX2_lineHolds_27 : decode cX2_lineHolds 27 = .ok (.iload 9, 2) := by decide +kernel
theorem dX2_lineHolds_29 : decode cX2_lineHolds 29 = .ok (.aload_n 0, 1) := by decide +kernel
theorem dX2_lineHolds_30 : decode cX2_lineHolds 30 = .ok (.getfield 22, 3) := by decide +kernel
theorem dX2_lineHolds_33 : decode cX2_lineHolds 33 = .ok (.iload_n 1, 1) := by decide +kernel
theorem dX2_lineHolds_34 : decode cX2_lineHolds 34 = .ok (.iaload, 1) := by decide +kernel
theorem dX2_lineHolds_35 : decode cX2_lineHolds 35 = .ok (.if_icmp .ge 194, 3) := by decide +kernel
theorem dX2_lineHolds_38 : decode cX2_lineHolds 38 = .ok (.aload_n 0, 1) := by decide +kernel
theorem dX2_lineHolds_39 : decode cX2_lineHolds 39 = .ok (.getfield 27, 3) := by decide +kernel
theorem dX2_lineHolds_42 : decode cX2_lineHolds 42 = .ok (.iload 9, 2) := by decide +kernel
theorem dX2_lineHolds_44 : decode cX2_lineHolds 44 = .ok (.iaload, 1) := by decide +kernel
theorem dX2_lineHolds_45 : decode cX2_lineHolds 45 = .ok (.istore 10, 2) := by decide +kernel
theorem dX2_lineHolds_47 : decode cX2_lineHolds 47 = .ok (.iload 10, 2) := by decide +kernel
theorem dX2_lineHolds_49 : decode cX2_lineHolds 49 = .ok (.ifCond .lt 13, 3) := by decide +kernel
theorem dX2_lineHolds_52 : decode cX2_lineHolds 52 = .ok (.iload 8, 2) := by decide +kernel
theorem dX2_lineHolds_54 : decode cX2_lineHolds 54 = .ok (.iload 10, 2) := by decide +kernel
theorem dX2_lineHolds_56 : decode cX2_lineHolds 56 = .ok (.iadd, 1) := by decide +kernel
theorem dX2_lineHolds_57 : decode cX2_lineHolds 57 = .ok (.istore 8, 2) := by decide +kernel
theorem dX2_lineHolds_59 : decode cX2_lineHolds 59 = .ok (.goto 164, 3) := by decide +kernel
theorem dX2_lineHolds_62 : decode cX2_lineHolds 62 = .ok (.iload 10, 2) := by decide +kernel
theorem dX2_lineHolds_64 : decode cX2_lineHolds 64 = .ok (.bipush (-7), 2) := by decide +kernel
theorem dX2_lineHolds_66 : decode cX2_lineHolds 66 = .ok (.if_icmp .lt 20, 3) := by decide +kernel
theorem dX2_lineHolds_69 : decode cX2_lineHolds 69 = .ok (.iload 8, 2) := by decide +kernel
theorem dX2_lineHolds_71 : decode cX2_lineHolds 71 = .ok (.iload 10, 2) := by decide +kernel
theorem dX2_lineHolds_73 : decode cX2_lineHolds 73 = .ok (.aload_n 2, 1) := by decide +kernel
theorem dX2_lineHolds_74 : decode cX2_lineHolds 74 = .ok (.iload_n 3, 1) := by decide +kernel
theorem dX2_lineHolds_75 : decode cX2_lineHolds 75 = .ok (.iload 4, 2) := by decide +kernel
theorem dX2_lineHolds_77 : decode cX2_lineHolds 77 = .ok (.invokestatic 43, 3) := by decide +kernel
theorem dX2_lineHolds_80 : decode cX2_lineHolds 80 = .ok (.iadd, 1) := by decide +kernel
theorem dX2_lineHolds_81 : decode cX2_lineHolds 81 = .ok (.istore 8, 2) := by decide +kernel
theorem dX2_lineHolds_83 : decode cX2_lineHolds 83 = .ok (.goto 140, 3) := by decide +kernel
theorem dX2_lineHolds_86 : decode cX2_lineHolds 86 = .ok (.iload 10, 2) := by decide +kernel
theorem dX2_lineHolds_88 : decode cX2_lineHolds 88 = .ok (.bipush (-8), 2) := by decide +kernel
theorem dX2_lineHolds_90 : decode cX2_lineHolds 90 = .ok (.if_icmp .ne 13, 3) := by decide +kernel
theorem dX2_lineHolds_93 : decode cX2_lineHolds 93 = .ok (.iload 8, 2) := by decide +kernel
theorem dX2_lineHolds_95 : decode cX2_lineHolds 95 = .ok (.istore 7, 2) := by decide +kernel
theorem dX2_lineHolds_97 : decode cX2_lineHolds 97 = .ok (.iconst 0, 1) := by decide +kernel
theorem dX2_lineHolds_98 : decode cX2_lineHolds 98 = .ok (.istore 8, 2) := by decide +kernel
theorem dX2_lineHolds_100 : decode cX2_lineHolds 100 = .ok (.goto 123, 3) := by decide +kernel
theorem dX2_lineHolds_103 : decode cX2_lineHolds 103 = .ok (.iload 10, 2) := by decide +kernel
theorem dX2_lineHolds_105 : decode cX2_lineHolds 105 = .ok (.bipush (-9), 2) := by decide +kernel
theorem dX2_lineHolds_107 : decode cX2_lineHolds 107 = .ok (.if_icmp .eq 10, 3) := by decide +kernel
theorem dX2_lineHolds_110 : decode cX2_lineHolds 110 = .ok (.iload 10, 2) := by decide +kernel
theorem dX2_lineHolds_112 : decode cX2_lineHolds 112 = .ok (.bipush (-10), 2) := by decide +kernel
theorem dX2_lineHolds_114 : decode cX2_lineHolds 114 = .ok (.if_icmp .ne 45, 3) := by decide +kernel
theorem dX2_lineHolds_117 : decode cX2_lineHolds 117 = .ok (.iload 6, 2) := by decide +kernel
theorem dX2_lineHolds_119 : decode cX2_lineHolds 119 = .ok (.iconst 1, 1) := by decide +kernel
theorem dX2_lineHolds_120 : decode cX2_lineHolds 120 = .ok (.ishl, 1) := by decide +kernel
theorem dX2_lineHolds_121 : decode cX2_lineHolds 121 = .ok (.iload 10, 2) := by decide +kernel
theorem dX2_lineHolds_123 : decode cX2_lineHolds 123 = .ok (.bipush (-9), 2) := by decide +kernel
theorem dX2_lineHolds_125 : decode cX2_lineHolds 125 = .ok (.if_icmp .ne 13, 3) := by decide +kernel
theorem dX2_lineHolds_128 : decode cX2_lineHolds 128 = .ok (.iload 7, 2) := by decide +kernel
theorem dX2_lineHolds_130 : decode cX2_lineHolds 130 = .ok (.iload 8, 2) := by decide +kernel
theorem dX2_lineHolds_132 : decode cX2_lineHolds 132 = .ok (.if_icmp .ge 17, 3) := by decide +kernel
theorem dX2_lineHolds_135 : decode cX2_lineHolds 135 = .ok (.goto 10, 3) := by decide +kernel
theorem dX2_lineHolds_138 : decode cX2_lineHolds 138 = .ok (.iload 7, 2) := by decide +kernel
theorem dX2_lineHolds_140 : decode cX2_lineHolds 140 = .ok (.iload 8, 2) := by decide +kernel
theorem dX2_lineHolds_142 : decode cX2_lineHolds 142 = .ok (.if_icmp .le 7, 3) := by decide +kernel
theorem dX2_lineHolds_145 : decode cX2_lineHolds 145 = .ok (.iconst 1, 1) := by decide +kernel
theorem dX2_lineHolds_146 : decode cX2_lineHolds 146 = .ok (.goto 4, 3) := by decide +kernel
theorem dX2_lineHolds_149 : decode cX2_lineHolds 149 = .ok (.iconst 0, 1) := by decide +kernel
theorem dX2_lineHolds_150 : decode cX2_lineHolds 150 = .ok (.ior, 1) := by decide +kernel
theorem dX2_lineHolds_151 : decode cX2_lineHolds 151 = .ok (.istore 6, 2) := by decide +kernel
theorem dX2_lineHolds_153 : decode cX2_lineHolds 153 = .ok (.iconst 0, 1) := by decide +kernel
theorem dX2_lineHolds_154 : decode cX2_lineHolds 154 = .ok (.istore 8, 2) := by decide +kernel
theorem dX2_lineHolds_156 : decode cX2_lineHolds 156 = .ok (.goto 67, 3) := by decide +kernel
theorem dX2_lineHolds_159 : decode cX2_lineHolds 159 = .ok (.iload 10, 2) := by decide +kernel
theorem dX2_lineHolds_161 : decode cX2_lineHolds 161 = .ok (.bipush (-11), 2) := by decide +kernel
theorem dX2_lineHolds_163 : decode cX2_lineHolds 163 = .ok (.if_icmp .eq 10, 3) := by decide +kernel
theorem dX2_lineHolds_166 : decode cX2_lineHolds 166 = .ok (.iload 10, 2) := by decide +kernel
theorem dX2_lineHolds_168 : decode cX2_lineHolds 168 = .ok (.bipush (-12), 2) := by decide +kernel
theorem dX2_lineHolds_170 : decode cX2_lineHolds 170 = .ok (.if_icmp .ne 44, 3) := by decide +kernel
theorem dX2_lineHolds_173 : decode cX2_lineHolds 173 = .ok (.iload 6, 2) := by decide +kernel
theorem dX2_lineHolds_175 : decode cX2_lineHolds 175 = .ok (.iconst 1, 1) := by decide +kernel
theorem dX2_lineHolds_176 : decode cX2_lineHolds 176 = .ok (.ishl, 1) := by decide +kernel
theorem dX2_lineHolds_177 : decode cX2_lineHolds 177 = .ok (.iload 10, 2) := by decide +kernel
theorem dX2_lineHolds_179 : decode cX2_lineHolds 179 = .ok (.bipush (-11), 2) := by decide +kernel
theorem dX2_lineHolds_181 : decode cX2_lineHolds 181 = .ok (.if_icmp .ne 11, 3) := by decide +kernel
theorem dX2_lineHolds_184 : decode cX2_lineHolds 184 = .ok (.iload 5, 2) := by decide +kernel
theorem dX2_lineHolds_186 : decode cX2_lineHolds 186 = .ok (.ifCond .eq 21, 3) := by decide +kernel
theorem dX2_lineHolds_189 : decode cX2_lineHolds 189 = .ok (.goto 14, 3) := by decide +kernel
theorem dX2_lineHolds_192 : decode cX2_lineHolds 192 = .ok (.aload_n 2, 1) := by decide +kernel
theorem dX2_lineHolds_193 : decode cX2_lineHolds 193 = .ok (.getfield 47, 3) := by decide +kernel
theorem dX2_lineHolds_196 : decode cX2_lineHolds 196 = .ok (.iload_n 3, 1) := by decide +kernel
theorem dX2_lineHolds_197 : decode cX2_lineHolds 197 = .ok (.iushr, 1) := by decide +kernel
theorem dX2_lineHolds_198 : decode cX2_lineHolds 198 = .ok (.iconst 1, 1) := by decide +kernel
theorem dX2_lineHolds_199 : decode cX2_lineHolds 199 = .ok (.iand, 1) := by decide +kernel
theorem dX2_lineHolds_200 : decode cX2_lineHolds 200 = .ok (.ifCond .ne 7, 3) := by decide +kernel
theorem dX2_lineHolds_203 : decode cX2_lineHolds 203 = .ok (.iconst 1, 1) := by decide +kernel
theorem dX2_lineHolds_204 : decode cX2_lineHolds 204 = .ok (.goto 4, 3) := by decide +kernel
theorem dX2_lineHolds_207 : decode cX2_lineHolds 207 = .ok (.iconst 0, 1) := by decide +kernel
theorem dX2_lineHolds_208 : decode cX2_lineHolds 208 = .ok (.ior, 1) := by decide +kernel
theorem dX2_lineHolds_209 : decode cX2_lineHolds 209 = .ok (.istore 6, 2) := by decide +kernel
theorem dX2_lineHolds_211 : decode cX2_lineHolds 211 = .ok (.goto 12, 3) := by decide +kernel
theorem dX2_lineHolds_214 : decode cX2_lineHolds 214 = .ok (.iload 10, 2) := by decide +kernel
theorem dX2_lineHolds_216 : decode cX2_lineHolds 216 = .ok (.iload 6, 2) := by decide +kernel
theorem dX2_lineHolds_218 : decode cX2_lineHolds 218 = .ok (.invokestatic 52, 3) := by decide +kernel
theorem dX2_lineHolds_221 : decode cX2_lineHolds 221 = .ok (.istore 6, 2) := by decide +kernel
theorem dX2_lineHolds_223 : decode cX2_lineHolds 223 = .ok (.iinc 9 1, 3) := by decide +kernel
theorem dX2_lineHolds_226 : decode cX2_lineHolds 226 = .ok (.goto (-199), 3) := by decide +kernel
theorem dX2_lineHolds_229 : decode cX2_lineHolds 229 = .ok (.iload 6, 2) := by decide +kernel
theorem dX2_lineHolds_231 : decode cX2_lineHolds 231 = .ok (.iconst 1, 1) := by decide +kernel
theorem dX2_lineHolds_232 : decode cX2_lineHolds 232 = .ok (.iand, 1) := by decide +kernel
theorem dX2_lineHolds_233 : decode cX2_lineHolds 233 = .ok (.ifCond .eq 7, 3) := by decide +kernel
theorem dX2_lineHolds_236 : decode cX2_lineHolds 236 = .ok (.iconst 1, 1) := by decide +kernel
theorem dX2_lineHolds_237 : decode cX2_lineHolds 237 = .ok (.goto 4, 3) := by decide +kernel
theorem dX2_lineHolds_240 : decode cX2_lineHolds 240 = .ok (.iconst 0, 1) := by decide +kernel
theorem dX2_lineHolds_241 : decode cX2_lineHolds 241 = .ok (.ireturn, 1) := by decide +kernel
theorem dX2_partOf_0 : decode cX2_partOf 0 = .ok (.iload_n 0, 1) := by decide +kernel
theorem dX2_partOf_1 : decode cX2_partOf 1 = .ok (.tableswitch 60 (-6) (-2) #[58, 51, 44, 37, 35], 35) := by decide +kernel
theorem dX2_partOf_36 : decode cX2_partOf 36 = .ok (.iload_n 2, 1) := by decide +kernel
theorem dX2_partOf_37 : decode cX2_partOf 37 = .ok (.ireturn, 1) := by decide +kernel
theorem dX2_partOf_38 : decode cX2_partOf 38 = .ok (.aload_n 1, 1) := by decide +kernel
theorem dX2_partOf_39 : decode cX2_partOf 39 = .ok (.getfield 56, 3) := by decide +kernel
theorem dX2_partOf_42 : decode cX2_partOf 42 = .ok (.iload_n 2, 1) := by decide +kernel
theorem dX2_partOf_43 : decode cX2_partOf 43 = .ok (.iaload, 1) := by decide +kernel
theorem dX2_partOf_44 : decode cX2_partOf 44 = .ok (.ireturn, 1) := by decide +kernel
theorem dX2_partOf_45 : decode cX2_partOf 45 = .ok (.aload_n 1, 1) := by decide +kernel
theorem dX2_partOf_46 : decode cX2_partOf 46 = .ok (.getfield 59, 3) := by decide +kernel
theorem dX2_partOf_49 : decode cX2_partOf 49 = .ok (.iload_n 2, 1) := by decide +kernel
theorem dX2_partOf_50 : decode cX2_partOf 50 = .ok (.iaload, 1) := by decide +kernel
theorem dX2_partOf_51 : decode cX2_partOf 51 = .ok (.ireturn, 1) := by decide +kernel
theorem dX2_partOf_52 : decode cX2_partOf 52 = .ok (.aload_n 1, 1) := by decide +kernel
theorem dX2_partOf_53 : decode cX2_partOf 53 = .ok (.getfield 62, 3) := by decide +kernel
theorem dX2_partOf_56 : decode cX2_partOf 56 = .ok (.iload_n 2, 1) := by decide +kernel
theorem dX2_partOf_57 : decode cX2_partOf 57 = .ok (.iaload, 1) := by decide +kernel
theorem dX2_partOf_58 : decode cX2_partOf 58 = .ok (.ireturn, 1) := by decide +kernel
theorem dX2_partOf_59 : decode cX2_partOf 59 = .ok (.iload_n 3, 1) := by decide +kernel
theorem dX2_partOf_60 : decode cX2_partOf 60 = .ok (.ireturn, 1) := by decide +kernel
theorem dX2_partOf_61 : decode cX2_partOf 61 = .ok (.aload_n 1, 1) := by decide +kernel
theorem dX2_partOf_62 : decode cX2_partOf 62 = .ok (.getfield 65, 3) := by decide +kernel
theorem dX2_partOf_65 : decode cX2_partOf 65 = .ok (.ireturn, 1) := by decide +kernel
theorem dX2_joined_0 : decode cX2_joined 0 = .ok (.iload_n 1, 1) := by decide +kernel
theorem dX2_joined_1 : decode cX2_joined 1 = .ok (.iconst 1, 1) := by decide +kernel
theorem dX2_joined_2 : decode cX2_joined 2 = .ok (.iushr, 1) := by decide +kernel
theorem dX2_joined_3 : decode cX2_joined 3 = .ok (.istore_n 2, 1) := by decide +kernel
theorem dX2_joined_4 : decode cX2_joined 4 = .ok (.iload_n 1, 1) := by decide +kernel
theorem dX2_joined_5 : decode cX2_joined 5 = .ok (.iconst 1, 1) := by decide +kernel
theorem dX2_joined_6 : decode cX2_joined 6 = .ok (.iand, 1) := by decide +kernel
theorem dX2_joined_7 : decode cX2_joined 7 = .ok (.istore_n 3, 1) := by decide +kernel
theorem dX2_joined_8 : decode cX2_joined 8 = .ok (.iload_n 0, 1) := by decide +kernel
theorem dX2_joined_9 : decode cX2_joined 9 = .ok (.lookupswitch 44 #[(-14, 31), (-13, 27)], 27) := by decide +kernel
theorem dX2_joined_36 : decode cX2_joined 36 = .ok (.iload_n 1, 1) := by decide +kernel
theorem dX2_joined_37 : decode cX2_joined 37 = .ok (.iconst 1, 1) := by decide +kernel
theorem dX2_joined_38 : decode cX2_joined 38 = .ok (.ixor, 1) := by decide +kernel
theorem dX2_joined_39 : decode cX2_joined 39 = .ok (.ireturn, 1) := by decide +kernel
theorem dX2_joined_40 : decode cX2_joined 40 = .ok (.iload_n 3, 1) := by decide +kernel
theorem dX2_joined_41 : decode cX2_joined 41 = .ok (.ifCond .ne 10, 3) := by decide +kernel
theorem dX2_joined_44 : decode cX2_joined 44 = .ok (.iload_n 2, 1) := by decide +kernel
theorem dX2_joined_45 : decode cX2_joined 45 = .ok (.bipush (-2), 2) := by decide +kernel
theorem dX2_joined_47 : decode cX2_joined 47 = .ok (.iand, 1) := by decide +kernel
theorem dX2_joined_48 : decode cX2_joined 48 = .ok (.goto 4, 3) := by decide +kernel
theorem dX2_joined_51 : decode cX2_joined 51 = .ok (.iload_n 2, 1) := by decide +kernel
theorem dX2_joined_52 : decode cX2_joined 52 = .ok (.ireturn, 1) := by decide +kernel
theorem dX2_joined_53 : decode cX2_joined 53 = .ok (.iload_n 2, 1) := by decide +kernel
theorem dX2_joined_54 : decode cX2_joined 54 = .ok (.iload_n 3, 1) := by decide +kernel
theorem dX2_joined_55 : decode cX2_joined 55 = .ok (.ior, 1) := by decide +kernel
theorem dX2_joined_56 : decode cX2_joined 56 = .ok (.ireturn, 1) := by decide +kernel
theorem dX3_init_0 : decode cX3_init 0 = .ok (.aload_n 0, 1) := by decide +kernel
theorem dX3_init_1 : decode cX3_init 1 = .ok (.invokespecial 3, 3) := by decide +kernel
theorem dX3_init_4 : decode cX3_init 4 = .ok (.aload_n 0, 1) := by decide +kernel
theorem dX3_init_5 : decode cX3_init 5 = .ok (.new 9, 3) := by decide +kernel
theorem dX3_init_8 : decode cX3_init 8 = .ok (.dup, 1) := by decide +kernel
theorem dX3_init_9 : decode cX3_init 9 = .ok (.invokespecial 11, 3) := by decide +kernel
theorem dX3_init_12 : decode cX3_init 12 = .ok (.putfield 12, 3) := by decide +kernel
theorem dX3_init_15 : decode cX3_init 15 = .ok (.return_, 1) := by decide +kernel
theorem dX3_takeLine_0 : decode cX3_takeLine 0 = .ok (.aload_n 0, 1) := by decide +kernel
theorem dX3_takeLine_1 : decode cX3_takeLine 1 = .ok (.aload_n 1, 1) := by decide +kernel
theorem dX3_takeLine_2 : decode cX3_takeLine 2 = .ok (.invokevirtual 18, 3) := by decide +kernel
theorem dX3_takeLine_5 : decode cX3_takeLine 5 = .ok (.istore_n 2, 1) := by decide +kernel
theorem dX3_takeLine_6 : decode cX3_takeLine 6 = .ok (.iload_n 2, 1) := by decide +kernel
theorem dX3_takeLine_7 : decode cX3_takeLine 7 = .ok (.iconst (-1), 1) := by decide +kernel
theorem dX3_takeLine_8 : decode cX3_takeLine 8 = .ok (.if_icmp .ne 4, 3) := by decide +kernel
theorem dX3_takeLine_11 : decode cX3_takeLine 11 = .ok (.return_, 1) := by decide +kernel
theorem dX3_takeLine_12 : decode cX3_takeLine 12 = .ok (.iload_n 2, 1) := by decide +kernel
theorem dX3_takeLine_13 : decode cX3_takeLine 13 = .ok (.iconst 2, 1) := by decide +kernel
theorem dX3_takeLine_14 : decode cX3_takeLine 14 = .ok (.if_icmp .ne 7, 3) := by decide +kernel
theorem dX3_takeLine_17 : decode cX3_takeLine 17 = .ok (.iconst 0, 1) := by decide +kernel
theorem dX3_takeLine_18 : decode cX3_takeLine 18 = .ok (.goto 10, 3) := by decide +kernel
theorem dX3_takeLine_21 : decode cX3_takeLine 21 = .ok (.aload_n 1, 1) := by decide +kernel
theorem dX3_takeLine_22 : decode cX3_takeLine 22 = .ok (.iconst 0, 1) := by decide +kernel
theorem dX3_takeLine_23 : decode cX3_takeLine 23 = .ok (.bipush 30, 2) := by decide +kernel
theorem dX3_takeLine_25 : decode cX3_takeLine 25 = .ok (.invokevirtual 22, 3) := by decide +kernel
theorem dX3_takeLine_28 : decode cX3_takeLine 28 = .ok (.istore_n 3, 1) := by decide +kernel
theorem dX3_takeLine_29 : decode cX3_takeLine 29 = .ok (.aload_n 1, 1) := by decide +kernel
theorem dX3_takeLine_30 : decode cX3_takeLine 30 = .ok (.ldc 28, 2) := by decide +kernel
theorem dX3_takeLine_32 : decode cX3_takeLine 32 = .ok (.invokevirtual 30, 3) := by decide +kernel
theorem dX3_takeLine_35 : decode cX3_takeLine 35 = .ok (.ifCond .eq 9, 3) := by decide +kernel
theorem dX3_takeLine_38 : decode cX3_takeLine 38 = .ok (.aload_n 0, 1) := by decide +kernel
theorem dX3_takeLine_39 : decode cX3_takeLine 39 = .ok (.aload_n 1, 1) := by decide +kernel
theorem dX3_takeLine_40 : decode cX3_takeLine 40 = .ok (.iconst 0, 1) := by decide +kernel
theorem dX3_takeLine_41 : decode cX3_takeLine 41 = .ok (.invokevirtual 34, 3) := by decide +kernel
theorem dX3_takeLine_44 : decode cX3_takeLine 44 = .ok (.aload_n 0, 1) := by decide +kernel
theorem dX3_takeLine_45 : decode cX3_takeLine 45 = .ok (.getfield 12, 3) := by decide +kernel
theorem dX3_takeLine_48 : decode cX3_takeLine 48 = .ok (.iload_n 2, 1) := by decide +kernel
theorem dX3_takeLine_49 : decode cX3_takeLine 49 = .ok (.iload_n 3, 1) := by decide +kernel
theorem dX3_takeLine_50 : decode cX3_takeLine 50 = .ok (.invokevirtual 38, 3) := by decide +kernel
theorem dX3_takeLine_53 : decode cX3_takeLine 53 = .ok (.return_, 1) := by decide +kernel
theorem dX3_takeKind_0 : decode cX3_takeKind 0 = .ok (.aload_n 1, 1) := by decide +kernel
theorem dX3_takeKind_1 : decode cX3_takeKind 1 = .ok (.ldc 42, 2) := by decide +kernel
theorem dX3_takeKind_3 : decode cX3_takeKind 3 = .ok (.invokevirtual 30, 3) := by decide +kernel
theorem dX3_takeKind_6 : decode cX3_takeKind 6 = .ok (.ifCond .eq 5, 3) := by decide +kernel
theorem dX3_takeKind_9 : decode cX3_takeKind 9 = .ok (.iconst 0, 1) := by decide +kernel
theorem dX3_takeKind_10 : decode cX3_takeKind 10 = .ok (.ireturn, 1) := by decide +kernel
theorem dX3_takeKind_11 : decode cX3_takeKind 11 = .ok (.aload_n 1, 1) := by decide +kernel
theorem dX3_takeKind_12 : decode cX3_takeKind 12 = .ok (.ldc 44, 2) := by decide +kernel
theorem dX3_takeKind_14 : decode cX3_takeKind 14 = .ok (.invokevirtual 30, 3) := by decide +kernel
theorem dX3_takeKind_17 : decode cX3_takeKind 17 = .ok (.ifCond .eq 5, 3) := by decide +kernel
theorem dX3_takeKind_20 : decode cX3_takeKind 20 = .ok (.iconst 1, 1) := by decide +kernel
theorem dX3_takeKind_21 : decode cX3_takeKind 21 = .ok (.ireturn, 1) := by decide +kernel
theorem dX3_takeKind_22 : decode cX3_takeKind 22 = .ok (.aload_n 1, 1) := by decide +kernel
theorem dX3_takeKind_23 : decode cX3_takeKind 23 = .ok (.ldc 46, 2) := by decide +kernel
theorem dX3_takeKind_25 : decode cX3_takeKind 25 = .ok (.invokevirtual 30, 3) := by decide +kernel
theorem dX3_takeKind_28 : decode cX3_takeKind 28 = .ok (.ifCond .eq 5, 3) := by decide +kernel
theorem dX3_takeKind_31 : decode cX3_takeKind 31 = .ok (.iconst 2, 1) := by decide +kernel
theorem dX3_takeKind_32 : decode cX3_takeKind 32 = .ok (.ireturn, 1) := by decide +kernel
theorem dX3_takeKind_33 : decode cX3_takeKind 33 = .ok (.aload_n 1, 1) := by decide +kernel
theorem dX3_takeKind_34 : decode cX3_takeKind 34 = .ok (.invokevirtual 48, 3) := by decide +kernel
theorem dX3_takeKind_37 : decode cX3_takeKind 37 = .ok (.iconst (-1), 1) := by decide +kernel
theorem dX3_takeKind_38 : decode cX3_takeKind 38 = .ok (.ireturn, 1) := by decide +kernel
theorem dX3_takeCondition_0 : decode cX3_takeCondition 0 = .ok (.iconst 0, 1) := by decide +kernel
theorem dX3_takeCondition_1 : decode cX3_takeCondition 1 = .ok (.istore_n 3, 1) := by decide +kernel
theorem dX3_takeCondition_2 : decode cX3_takeCondition 2 = .ok (.aload_n 0, 1) := by decide +kernel
theorem dX3_takeCondition_3 : decode cX3_takeCondition 3 = .ok (.aload_n 1, 1) := by decide +kernel
theorem dX3_takeCondition_4 : decode cX3_takeCondition 4 = .ok (.iload_n 2, 1) := by decide +kernel
theorem dX3_takeCondition_5 : decode cX3_takeCondition 5 = .ok (.invokevirtual 51, 3) := by decide +kernel
theorem dX3_takeCondition_8 : decode cX3_takeCondition 8 = .ok (.iconst 0, 1) := by decide +kernel
theorem dX3_takeCondition_9 : decode cX3_takeCondition 9 = .ok (.istore 4, 2) := by decide +kernel
theorem dX3_takeCondition_11 : decode cX3_takeCondition 11 = .ok (.iload 4, 2) := by decide +kernel
theorem dX3_takeCondition_13 : decode cX3_takeCondition 13 = .ok (.sipush 400, 3) := by decide +kernel
theorem dX3_takeCondition_16 : decode cX3_takeCondition 16 = .ok (.if_icmp .ge 66, 3) := by decide +kernel
theorem dX3_takeCondition_19 : decode cX3_takeCondition 19 = .ok (.aload_n 1, 1) := by decide +kernel
theorem dX3_takeCondition_20 : decode cX3_takeCondition 20 = .ok (.ldc 54, 2) := by decide +kernel
theorem dX3_takeCondition_22 : decode cX3_takeCondition 22 = .ok (.invokevirtual 30, 3) := by decide +kernel
theorem dX3_takeCondition_25 : decode cX3_takeCondition 25 = .ok (.ifCond .eq 21, 3) := by decide +kernel
theorem dX3_takeCondition_28 : decode cX3_takeCondition 28 = .ok (.aload_n 0, 1) := by decide +kernel
theorem dX3_takeCondition_29 : decode cX3_takeCondition 29 = .ok (.aload_n 1, 1) := by decide +kernel
theorem dX3_takeCondition_30 : decode cX3_takeCondition 30 = .ok (.iload_n 2, 1) := by decide +kernel
theorem dX3_takeCondition_31 : decode cX3_takeCondition 31 = .ok (.invokevirtual 51, 3) := by decide +kernel
theorem dX3_takeCondition_34 : decode cX3_takeCondition 34 = .ok (.aload_n 0, 1) := by decide +kernel
theorem dX3_takeCondition_35 : decode cX3_takeCondition 35 = .ok (.getfield 12, 3) := by decide +kernel
theorem dX3_takeCondition_38 : decode cX3_takeCondition 38 = .ok (.bipush (-14), 2) := by decide +kernel
theorem dX3_takeCondition_40 : decode cX3_takeCondition 40 = .ok (.invokevirtual 56, 3) := by decide +kernel
theorem dX3_takeCondition_43 : decode cX3_takeCondition 43 = .ok (.goto 33, 3) := by decide +kernel
theorem dX3_takeCondition_46 : decode cX3_takeCondition 46 = .ok (.aload_n 1, 1) := by decide +kernel
theorem dX3_takeCondition_47 : decode cX3_takeCondition 47 = .ok (.ldc 60, 2) := by decide +kernel
theorem dX3_takeCondition_49 : decode cX3_takeCondition 49 = .ok (.invokevirtual 30, 3) := by decide +kernel
theorem dX3_takeCondition_52 : decode cX3_takeCondition 52 = .ok (.ifCond .eq 30, 3) := by decide +kernel
theorem dX3_takeCondition_55 : decode cX3_takeCondition 55 = .ok (.iload_n 3, 1) := by decide +kernel
theorem dX3_takeCondition_56 : decode cX3_takeCondition 56 = .ok (.ifCond .eq 12, 3) := by decide +kernel
theorem dX3_takeCondition_59 : decode cX3_takeCondition 59 = .ok (.aload_n 0, 1) := by decide +kernel
theorem dX3_takeCondition_60 : decode cX3_takeCondition 60 = .ok (.getfield 12, 3) := by decide +kernel
theorem dX3_takeCondition_63 : decode cX3_takeCondition 63 = .ok (.bipush (-15), 2) := by decide +kernel
theorem dX3_takeCondition_65 : decode cX3_takeCondition 65 = .ok (.invokevirtual 56, 3) := by decide +kernel
theorem dX3_takeCondition_68 : decode cX3_takeCondition 68 = .ok (.iconst 1, 1) := by decide +kernel
theorem dX3_takeCondition_69 : decode cX3_takeCondition 69 = .ok (.istore_n 3, 1) := by decide +kernel
theorem dX3_takeCondition_70 : decode cX3_takeCondition 70 = .ok (.aload_n 0, 1) := by decide +kernel
theorem dX3_takeCondition_71 : decode cX3_takeCondition 71 = .ok (.aload_n 1, 1) := by decide +kernel
theorem dX3_takeCondition_72 : decode cX3_takeCondition 72 = .ok (.iload_n 2, 1) := by decide +kernel
theorem dX3_takeCondition_73 : decode cX3_takeCondition 73 = .ok (.invokevirtual 51, 3) := by decide +kernel
theorem dX3_takeCondition_76 : decode cX3_takeCondition 76 = .ok (.iinc 4 1, 3) := by decide +kernel
theorem dX3_takeCondition_79 : decode cX3_takeCondition 79 = .ok (.goto (-68), 3) := by decide +kernel
theorem dX3_takeCondition_82 : decode cX3_takeCondition 82 = .ok (.iload_n 3, 1) := by decide +kernel
theorem dX3_takeCondition_83 : decode cX3_takeCondition 83 = .ok (.ifCond .eq 12, 3) := by decide +kernel
theorem dX3_takeCondition_86 : decode cX3_takeCondition 86 = .ok (.aload_n 0, 1) := by decide +kernel
theorem dX3_takeCondition_87 : decode cX3_takeCondition 87 = .ok (.getfield 12, 3) := by decide +kernel
theorem dX3_takeCondition_90 : decode cX3_takeCondition 90 = .ok (.bipush (-15), 2) := by decide +kernel
theorem dX3_takeCondition_92 : decode cX3_takeCondition 92 = .ok (.invokevirtual 56, 3) := by decide +kernel
theorem dX3_takeCondition_95 : decode cX3_takeCondition 95 = .ok (.return_, 1) := by decide +kernel
theorem dX3_takeAtom_0 : decode cX3_takeAtom 0 = .ok (.aload_n 1, 1) := by decide +kernel
theorem dX3_takeAtom_1 : decode cX3_takeAtom 1 = .ok (.ldc 62, 2) := by decide +kernel
theorem dX3_takeAtom_3 : decode cX3_takeAtom 3 = .ok (.invokevirtual 30, 3) := by decide +kernel
theorem dX3_takeAtom_6 : decode cX3_takeAtom 6 = .ok (.ifCond .eq 15, 3) := by decide +kernel
theorem dX3_takeAtom_9 : decode cX3_takeAtom 9 = .ok (.aload_n 0, 1) := by decide +kernel
theorem dX3_takeAtom_10 : decode cX3_takeAtom 10 = .ok (.getfield 12, 3) := by decide +kernel
theorem dX3_takeAtom_13 : decode cX3_takeAtom 13 = .ok (.bipush (-11), 2) := by decide +kernel
theorem dX3_takeAtom_15 : decode cX3_takeAtom 15 = .ok (.invokevirtual 56, 3) := by decide +kernel
theorem dX3_takeAtom_18 : decode cX3_takeAtom 18 = .ok (.goto 136, 3) := by decide +kernel
theorem dX3_takeAtom_21 : decode cX3_takeAtom 21 = .ok (.aload_n 1, 1) := by decide +kernel
theorem dX3_takeAtom_22 : decode cX3_takeAtom 22 = .ok (.ldc 64, 2) := by decide +kernel
theorem dX3_takeAtom_24 : decode cX3_takeAtom 24 = .ok (.invokevirtual 30, 3) := by decide +kernel
theorem dX3_takeAtom_27 : decode cX3_takeAtom 27 = .ok (.ifCond .eq 15, 3) := by decide +kernel
theorem dX3_takeAtom_30 : decode cX3_takeAtom 30 = .ok (.aload_n 0, 1) := by decide +kernel
theorem dX3_takeAtom_31 : decode cX3_takeAtom 31 = .ok (.getfield 12, 3) := by decide +kernel
theorem dX3_takeAtom_34 : decode cX3_takeAtom 34 = .ok (.bipush (-12), 2) := by decide +kernel
theorem dX3_takeAtom_36 : decode cX3_takeAtom 36 = .ok (.invokevirtual 56, 3) := by decide +kernel
theorem dX3_takeAtom_39 : decode cX3_takeAtom 39 = .ok (.goto 115, 3) := by decide +kernel
theorem dX3_takeAtom_42 : decode cX3_takeAtom 42 = .ok (.aload_n 1, 1) := by decide +kernel
theorem dX3_takeAtom_43 : decode cX3_takeAtom 43 = .ok (.ldc 66, 2) := by decide +kernel
theorem dX3_takeAtom_45 : decode cX3_takeAtom 45 = .ok (.invokevirtual 30, 3) := by decide +kernel
theorem dX3_takeAtom_48 : decode cX3_takeAtom 48 = .ok (.ifCond .eq 32, 3) := by decide +kernel
theorem dX3_takeAtom_51 : decode cX3_takeAtom 51 = .ok (.aload_n 1, 1) := by decide +kernel
theorem dX3_takeAtom_52 : decode cX3_takeAtom 52 = .ok (.iload_n 2, 1) := by decide +kernel
theorem dX3_takeAtom_53 : decode cX3_takeAtom 53 = .ok (.invokestatic 68, 3) := by decide +kernel
theorem dX3_takeAtom_56 : decode cX3_takeAtom 56 = .ok (.ifCond .eq 4, 3) := by decide +kernel
theorem dX3_takeAtom_59 : decode cX3_takeAtom 59 = .ok (.return_, 1) := by decide +kernel
theorem dX3_takeAtom_60 : decode cX3_takeAtom 60 = .ok (.aload_n 0, 1) := by decide +kernel
theorem dX3_takeAtom_61 : decode cX3_takeAtom 61 = .ok (.aload_n 1, 1) := by decide +kernel
theorem dX3_takeAtom_62 : decode cX3_takeAtom 62 = .ok (.iload_n 2, 1) := by decide +kernel
theorem dX3_takeAtom_63 : decode cX3_takeAtom 63 = .ok (.iconst 1, 1) := by decide +kernel
theorem dX3_takeAtom_64 : decode cX3_takeAtom 64 = .ok (.iadd, 1) := by decide +kernel
theorem dX3_takeAtom_65 : decode cX3_takeAtom 65 = .ok (.invokevirtual 51, 3) := by decide +kernel
theorem dX3_takeAtom_68 : decode cX3_takeAtom 68 = .ok (.aload_n 0, 1) := by decide +kernel
theorem dX3_takeAtom_69 : decode cX3_takeAtom 69 = .ok (.getfield 12, 3) := by decide +kernel
theorem dX3_takeAtom_72 : decode cX3_takeAtom 72 = .ok (.bipush (-13), 2) := by decide +kernel
theorem dX3_takeAtom_74 : decode cX3_takeAtom 74 = .ok (.invokevirtual 56, 3) := by decide +kernel
theorem dX3_takeAtom_77 : decode cX3_takeAtom 77 = .ok (.goto 77, 3) := by decide +kernel
theorem dX3_takeAtom_80 : decode cX3_takeAtom 80 = .ok (.aload_n 1, 1) := by decide +kernel
theorem dX3_takeAtom_81 : decode cX3_takeAtom 81 = .ok (.bipush 40, 2) := by decide +kernel
theorem dX3_takeAtom_83 : decode cX3_takeAtom 83 = .ok (.invokevirtual 72, 3) := by decide +kernel
theorem dX3_takeAtom_86 : decode cX3_takeAtom 86 = .ok (.ifCond .eq 36, 3) := by decide +kernel
theorem dX3_takeAtom_89 : decode cX3_takeAtom 89 = .ok (.aload_n 1, 1) := by decide +kernel
theorem dX3_takeAtom_90 : decode cX3_takeAtom 90 = .ok (.iload_n 2, 1) := by decide +kernel
theorem dX3_takeAtom_91 : decode cX3_takeAtom 91 = .ok (.invokestatic 68, 3) := by decide +kernel
theorem dX3_takeAtom_94 : decode cX3_takeAtom 94 = .ok (.ifCond .eq 4, 3) := by decide +kernel
theorem dX3_takeAtom_97 : decode cX3_takeAtom 97 = .ok (.return_, 1) := by decide +kernel
theorem dX3_takeAtom_98 : decode cX3_takeAtom 98 = .ok (.aload_n 0, 1) := by decide +kernel
theorem dX3_takeAtom_99 : decode cX3_takeAtom 99 = .ok (.aload_n 1, 1) := by decide +kernel
theorem dX3_takeAtom_100 : decode cX3_takeAtom 100 = .ok (.iload_n 2, 1) := by decide +kernel
theorem dX3_takeAtom_101 : decode cX3_takeAtom 101 = .ok (.iconst 1, 1) := by decide +kernel
theorem dX3_takeAtom_102 : decode cX3_takeAtom 102 = .ok (.iadd, 1) := by decide +kernel
theorem dX3_takeAtom_103 : decode cX3_takeAtom 103 = .ok (.invokevirtual 34, 3) := by decide +kernel
theorem dX3_takeAtom_106 : decode cX3_takeAtom 106 = .ok (.aload_n 1, 1) := by decide +kernel
theorem dX3_takeAtom_107 : decode cX3_takeAtom 107 = .ok (.bipush 41, 2) := by decide +kernel
theorem dX3_takeAtom_109 : decode cX3_takeAtom 109 = .ok (.invokevirtual 72, 3) := by decide +kernel
theorem dX3_takeAtom_112 : decode cX3_takeAtom 112 = .ok (.ifCond .ne 42, 3) := by decide +kernel
theorem dX3_takeAtom_115 : decode cX3_takeAtom 115 = .ok (.aload_n 1, 1) := by decide +kernel
theorem dX3_takeAtom_116 : decode cX3_takeAtom 116 = .ok (.invokevirtual 48, 3) := by decide +kernel
theorem dX3_takeAtom_119 : decode cX3_takeAtom 119 = .ok (.goto 35, 3) := by decide +kernel
theorem dX3_takeAtom_122 : decode cX3_takeAtom 122 = .ok (.aload_n 0, 1) := by decide +kernel
theorem dX3_takeAtom_123 : decode cX3_takeAtom 123 = .ok (.aload_n 1, 1) := by decide +kernel
theorem dX3_takeAtom_124 : decode cX3_takeAtom 124 = .ok (.invokevirtual 76, 3) := by decide +kernel
theorem dX3_takeAtom_127 : decode cX3_takeAtom 127 = .ok (.aload_n 0, 1) := by decide +kernel
theorem dX3_takeAtom_128 : decode cX3_takeAtom 128 = .ok (.getfield 12, 3) := by decide +kernel
theorem dX3_takeAtom_131 : decode cX3_takeAtom 131 = .ok (.bipush (-8), 2) := by decide +kernel
theorem dX3_takeAtom_133 : decode cX3_takeAtom 133 = .ok (.invokevirtual 56, 3) := by decide +kernel
theorem dX3_takeAtom_136 : decode cX3_takeAtom 136 = .ok (.aload_n 1, 1) := by decide +kernel
theorem dX3_takeAtom_137 : decode cX3_takeAtom 137 = .ok (.invokestatic 80, 3) := by decide +kernel
theorem dX3_takeAtom_140 : decode cX3_takeAtom 140 = .ok (.istore_n 3, 1) := by decide +kernel
theorem dX3_takeAtom_141 : decode cX3_takeAtom 141 = .ok (.aload_n 0, 1) := by decide +kernel
theorem dX3_takeAtom_142 : decode cX3_takeAtom 142 = .ok (.aload_n 1, 1) := by decide +kernel
theorem dX3_takeAtom_143 : decode cX3_takeAtom 143 = .ok (.invokevirtual 76, 3) := by decide +kernel
theorem dX3_takeAtom_146 : decode cX3_takeAtom 146 = .ok (.aload_n 0, 1) := by decide +kernel
theorem dX3_takeAtom_147 : decode cX3_takeAtom 147 = .ok (.getfield 12, 3) := by decide +kernel
theorem dX3_takeAtom_150 : decode cX3_takeAtom 150 = .ok (.iload_n 3, 1) := by decide +kernel
theorem dX3_takeAtom_151 : decode cX3_takeAtom 151 = .ok (.invokevirtual 56, 3) := by decide +kernel
theorem dX3_takeAtom_154 : decode cX3_takeAtom 154 = .ok (.return_, 1) := by decide +kernel
theorem dX3_isTooDeep_0 : decode cX3_isTooDeep 0 = .ok (.iload_n 1, 1) := by decide +kernel
theorem dX3_isTooDeep_1 : decode cX3_isTooDeep 1 = .ok (.bipush 6, 2) := by decide +kernel
theorem dX3_isTooDeep_3 : decode cX3_isTooDeep 3 = .ok (.if_icmp .lt 9, 3) := by decide +kernel
theorem dX3_isTooDeep_6 : decode cX3_isTooDeep 6 = .ok (.aload_n 0, 1) := by decide +kernel
theorem dX3_isTooDeep_7 : decode cX3_isTooDeep 7 = .ok (.invokevirtual 83, 3) := by decide +kernel
theorem dX3_isTooDeep_10 : decode cX3_isTooDeep 10 = .ok (.iconst 1, 1) := by decide +kernel
theorem dX3_isTooDeep_11 : decode cX3_isTooDeep 11 = .ok (.ireturn, 1) := by decide +kernel
theorem dX3_isTooDeep_12 : decode cX3_isTooDeep 12 = .ok (.iconst 0, 1) := by decide +kernel
theorem dX3_isTooDeep_13 : decode cX3_isTooDeep 13 = .ok (.ireturn, 1) := by decide +kernel
theorem dX3_takeComparison_0 : decode cX3_takeComparison 0 = .ok (.aload_n 0, 1) := by decide +kernel
theorem dX3_takeComparison_1 : decode cX3_takeComparison 1 = .ok (.bipush 60, 2) := by decide +kernel
theorem dX3_takeComparison_3 : decode cX3_takeComparison 3 = .ok (.invokevirtual 72, 3) := by decide +kernel
theorem dX3_takeComparison_6 : decode cX3_takeComparison 6 = .ok (.ifCond .eq 6, 3) := by decide +kernel
theorem dX3_takeComparison_9 : decode cX3_takeComparison 9 = .ok (.bipush (-9), 2) := by decide +kernel
theorem dX3_takeComparison_11 : decode cX3_takeComparison 11 = .ok (.ireturn, 1) := by decide +kernel
theorem dX3_takeComparison_12 : decode cX3_takeComparison 12 = .ok (.aload_n 0, 1) := by decide +kernel
theorem dX3_takeComparison_13 : decode cX3_takeComparison 13 = .ok (.bipush 62, 2) := by decide +kernel
theorem dX3_takeComparison_15 : decode cX3_takeComparison 15 = .ok (.invokevirtual 72, 3) := by decide +kernel
theorem dX3_takeComparison_18 : decode cX3_takeComparison 18 = .ok (.ifCond .ne 7, 3) := by decide +kernel
theorem dX3_takeComparison_21 : decode cX3_takeComparison 21 = .ok (.aload_n 0, 1) := by decide +kernel
theorem dX3_takeComparison_22 : decode cX3_takeComparison 22 = .ok (.invokevirtual 48, 3) := by decide +kernel
theorem dX3_takeComparison_25 : decode cX3_takeComparison 25 = .ok (.bipush (-10), 2) := by decide +kernel
theorem dX3_takeComparison_27 : decode cX3_takeComparison 27 = .ok (.ireturn, 1) := by decide +kernel
theorem dX3_takeSum_0 : decode cX3_takeSum 0 = .ok (.iconst 0, 1) := by decide +kernel
theorem dX3_takeSum_1 : decode cX3_takeSum 1 = .ok (.istore_n 2, 1) := by decide +kernel
theorem dX3_takeSum_2 : decode cX3_takeSum 2 = .ok (.iload_n 2, 1) := by decide +kernel
theorem dX3_takeSum_3 : decode cX3_takeSum 3 = .ok (.sipush 400, 3) := by decide +kernel
theorem dX3_takeSum_6 : decode cX3_takeSum 6 = .ok (.if_icmp .ge 174, 3) := by decide +kernel
theorem dX3_takeSum_9 : decode cX3_takeSum 9 = .ok (.aload_n 1, 1) := by decide +kernel
theorem dX3_takeSum_10 : decode cX3_takeSum 10 = .ok (.invokevirtual 86, 3) := by decide +kernel
theorem dX3_takeSum_13 : decode cX3_takeSum 13 = .ok (.ifCond .eq 21, 3) := by decide +kernel
theorem dX3_takeSum_16 : decode cX3_takeSum 16 = .ok (.aload_n 0, 1) := by decide +kernel
theorem dX3_takeSum_17 : decode cX3_takeSum 17 = .ok (.getfield 12, 3) := by decide +kernel
theorem dX3_takeSum_20 : decode cX3_takeSum 20 = .ok (.aload_n 1, 1) := by decide +kernel
theorem dX3_takeSum_21 : decode cX3_takeSum 21 = .ok (.iconst 0, 1) := by decide +kernel
theorem dX3_takeSum_22 : decode cX3_takeSum 22 = .ok (.sipush 999, 3) := by decide +kernel
theorem dX3_takeSum_25 : decode cX3_takeSum 25 = .ok (.invokevirtual 22, 3) := by decide +kernel
theorem dX3_takeSum_28 : decode cX3_takeSum 28 = .ok (.invokevirtual 56, 3) := by decide +kernel
theorem dX3_takeSum_31 : decode cX3_takeSum 31 = .ok (.goto 133, 3) := by decide +kernel
theorem dX3_takeSum_34 : decode cX3_takeSum 34 = .ok (.aload_n 1, 1) := by decide +kernel
theorem dX3_takeSum_35 : decode cX3_takeSum 35 = .ok (.ldc 90, 2) := by decide +kernel
theorem dX3_takeSum_37 : decode cX3_takeSum 37 = .ok (.invokevirtual 30, 3) := by decide +kernel
theorem dX3_takeSum_40 : decode cX3_takeSum 40 = .ok (.ifCond .eq 15, 3) := by decide +kernel
theorem dX3_takeSum_43 : decode cX3_takeSum 43 = .ok (.aload_n 0, 1) := by decide +kernel
theorem dX3_takeSum_44 : decode cX3_takeSum 44 = .ok (.getfield 12, 3) := by decide +kernel
theorem dX3_takeSum_47 : decode cX3_takeSum 47 = .ok (.bipush (-2), 2) := by decide +kernel
theorem dX3_takeSum_49 : decode cX3_takeSum 49 = .ok (.invokevirtual 56, 3) := by decide +kernel
theorem dX3_takeSum_52 : decode cX3_takeSum 52 = .ok (.goto 112, 3) := by decide +kernel
theorem dX3_takeSum_55 : decode cX3_takeSum 55 = .ok (.aload_n 1, 1) := by decide +kernel
theorem dX3_takeSum_56 : decode cX3_takeSum 56 = .ok (.ldc 92, 2) := by decide +kernel
theorem dX3_takeSum_58 : decode cX3_takeSum 58 = .ok (.invokevirtual 30, 3) := by decide +kernel
theorem dX3_takeSum_61 : decode cX3_takeSum 61 = .ok (.ifCond .eq 15, 3) := by decide +kernel
theorem dX3_takeSum_64 : decode cX3_takeSum 64 = .ok (.aload_n 0, 1) := by decide +kernel
theorem dX3_takeSum_65 : decode cX3_takeSum 65 = .ok (.getfield 12, 3) := by decide +kernel
theorem dX3_takeSum_68 : decode cX3_takeSum 68 = .ok (.bipush (-3), 2) := by decide +kernel
theorem dX3_takeSum_70 : decode cX3_takeSum 70 = .ok (.invokevirtual 56, 3) := by decide +kernel
theorem dX3_takeSum_73 : decode cX3_takeSum 73 = .ok (.goto 91, 3) := by decide +kernel
theorem dX3_takeSum_76 : decode cX3_takeSum 76 = .ok (.aload_n 1, 1) := by decide +kernel
theorem dX3_takeSum_77 : decode cX3_takeSum 77 = .ok (.ldc 44, 2) := by decide +kernel
theorem dX3_takeSum_79 : decode cX3_takeSum 79 = .ok (.invokevirtual 30, 3) := by decide +kernel
theorem dX3_takeSum_82 : decode cX3_takeSum 82 = .ok (.ifCond .eq 15, 3) := by decide +kernel
theorem dX3_takeSum_85 : decode cX3_takeSum 85 = .ok (.aload_n 0, 1) := by decide +kernel
theorem dX3_takeSum_86 : decode cX3_takeSum 86 = .ok (.getfield 12, 3) := by decide +kernel
theorem dX3_takeSum_89 : decode cX3_takeSum 89 = .ok (.bipush (-4), 2) := by decide +kernel
theorem dX3_takeSum_91 : decode cX3_takeSum 91 = .ok (.invokevirtual 56, 3) := by decide +kernel
theorem dX3_takeSum_94 : decode cX3_takeSum 94 = .ok (.goto 70, 3) := by decide +kernel
theorem dX3_takeSum_97 : decode cX3_takeSum 97 = .ok (.aload_n 1, 1) := by decide +kernel
theorem dX3_takeSum_98 : decode cX3_takeSum 98 = .ok (.ldc 94, 2) := by decide +kernel
theorem dX3_takeSum_100 : decode cX3_takeSum 100 = .ok (.invokevirtual 30, 3) := by decide +kernel
theorem dX3_takeSum_103 : decode cX3_takeSum 103 = .ok (.ifCond .eq 15, 3) := by decide +kernel
theorem dX3_takeSum_106 : decode cX3_takeSum 106 = .ok (.aload_n 0, 1) := by decide +kernel
theorem dX3_takeSum_107 : decode cX3_takeSum 107 = .ok (.getfield 12, 3) := by decide +kernel
theorem dX3_takeSum_110 : decode cX3_takeSum 110 = .ok (.bipush (-5), 2) := by decide +kernel
theorem dX3_takeSum_112 : decode cX3_takeSum 112 = .ok (.invokevirtual 56, 3) := by decide +kernel
theorem dX3_takeSum_115 : decode cX3_takeSum 115 = .ok (.goto 49, 3) := by decide +kernel
theorem dX3_takeSum_118 : decode cX3_takeSum 118 = .ok (.aload_n 1, 1) := by decide +kernel
theorem dX3_takeSum_119 : decode cX3_takeSum 119 = .ok (.ldc 96, 2) := by decide +kernel
theorem dX3_takeSum_121 : decode cX3_takeSum 121 = .ok (.invokevirtual 30, 3) := by decide +kernel
theorem dX3_takeSum_124 : decode cX3_takeSum 124 = .ok (.ifCond .eq 15, 3) := by decide +kernel
theorem dX3_takeSum_127 : decode cX3_takeSum 127 = .ok (.aload_n 0, 1) := by decide +kernel
theorem dX3_takeSum_128 : decode cX3_takeSum 128 = .ok (.getfield 12, 3) := by decide +kernel
theorem dX3_takeSum_131 : decode cX3_takeSum 131 = .ok (.bipush (-6), 2) := by decide +kernel
theorem dX3_takeSum_133 : decode cX3_takeSum 133 = .ok (.invokevirtual 56, 3) := by decide +kernel
theorem dX3_takeSum_136 : decode cX3_takeSum 136 = .ok (.goto 28, 3) := by decide +kernel
theorem dX3_takeSum_139 : decode cX3_takeSum 139 = .ok (.aload_n 1, 1) := by decide +kernel
theorem dX3_takeSum_140 : decode cX3_takeSum 140 = .ok (.ldc 98, 2) := by decide +kernel
theorem dX3_takeSum_142 : decode cX3_takeSum 142 = .ok (.invokevirtual 30, 3) := by decide +kernel
theorem dX3_takeSum_145 : decode cX3_takeSum 145 = .ok (.ifCond .eq 15, 3) := by decide +kernel
theorem dX3_takeSum_148 : decode cX3_takeSum 148 = .ok (.aload_n 0, 1) := by decide +kernel
theorem dX3_takeSum_149 : decode cX3_takeSum 149 = .ok (.getfield 12, 3) := by decide +kernel
theorem dX3_takeSum_152 : decode cX3_takeSum 152 = .ok (.bipush (-7), 2) := by decide +kernel
theorem dX3_takeSum_154 : decode cX3_takeSum 154 = .ok (.invokevirtual 56, 3) := by decide +kernel
theorem dX3_takeSum_157 : decode cX3_takeSum 157 = .ok (.goto 7, 3) := by decide +kernel
theorem dX3_takeSum_160 : decode cX3_takeSum 160 = .ok (.aload_n 1, 1) := by decide +kernel
theorem dX3_takeSum_161 : decode cX3_takeSum 161 = .ok (.invokevirtual 48, 3) := by decide +kernel
theorem dX3_takeSum_164 : decode cX3_takeSum 164 = .ok (.aload_n 1, 1) := by decide +kernel
theorem dX3_takeSum_165 : decode cX3_takeSum 165 = .ok (.bipush 43, 2) := by decide +kernel
theorem dX3_takeSum_167 : decode cX3_takeSum 167 = .ok (.invokevirtual 72, 3) := by decide +kernel
theorem dX3_takeSum_170 : decode cX3_takeSum 170 = .ok (.ifCond .ne 4, 3) := by decide +kernel
theorem dX3_takeSum_173 : decode cX3_takeSum 173 = .ok (.return_, 1) := by decide +kernel
theorem dX3_takeSum_174 : decode cX3_takeSum 174 = .ok (.iinc 2 1, 3) := by decide +kernel
theorem dX3_takeSum_177 : decode cX3_takeSum 177 = .ok (.goto (-175), 3) := by decide +kernel
theorem dX3_takeSum_180 : decode cX3_takeSum 180 = .ok (.return_, 1) := by decide +kernel
theorem dX4_init_0 : decode cX4_init 0 = .ok (.aload_n 0, 1) := by decide +kernel
theorem dX4_init_1 : decode cX4_init 1 = .ok (.invokespecial 3, 3) := by decide +kernel
theorem dX4_init_4 : decode cX4_init 4 = .ok (.aload_n 0, 1) := by decide +kernel
theorem dX4_init_5 : decode cX4_init 5 = .ok (.bipush 60, 2) := by decide +kernel
theorem dX4_init_7 : decode cX4_init 7 = .ok (.newarray .int, 2) := by decide +kernel
theorem dX4_init_9 : decode cX4_init 9 = .ok (.putfield 11, 3) := by decide +kernel
theorem dX4_init_12 : decode cX4_init 12 = .ok (.return_, 1) := by decide +kernel
theorem dX4_become_0 : decode cX4_become 0 = .ok (.aload_n 1, 1) := by decide +kernel
theorem dX4_become_1 : decode cX4_become 1 = .ok (.getfield 11, 3) := by decide +kernel
theorem dX4_become_4 : decode cX4_become 4 = .ok (.iconst 0, 1) := by decide +kernel
theorem dX4_become_5 : decode cX4_become 5 = .ok (.aload_n 0, 1) := by decide +kernel
theorem dX4_become_6 : decode cX4_become 6 = .ok (.getfield 11, 3) := by decide +kernel
theorem dX4_become_9 : decode cX4_become 9 = .ok (.iconst 0, 1) := by decide +kernel
theorem dX4_become_10 : decode cX4_become 10 = .ok (.bipush 60, 2) := by decide +kernel
theorem dX4_become_12 : decode cX4_become 12 = .ok (.invokestatic 15, 3) := by decide +kernel
theorem dX4_become_15 : decode cX4_become 15 = .ok (.aload_n 0, 1) := by decide +kernel
theorem dX4_become_16 : decode cX4_become 16 = .ok (.aload_n 1, 1) := by decide +kernel
theorem dX4_become_17 : decode cX4_become 17 = .ok (.getfield 21, 3) := by decide +kernel
theorem dX4_become_20 : decode cX4_become 20 = .ok (.putfield 21, 3) := by decide +kernel
theorem dX4_become_23 : decode cX4_become 23 = .ok (.aload_n 0, 1) := by decide +kernel
theorem dX4_become_24 : decode cX4_become 24 = .ok (.aload_n 1, 1) := by decide +kernel
theorem dX4_become_25 : decode cX4_become 25 = .ok (.getfield 25, 3) := by decide +kernel
theorem dX4_become_28 : decode cX4_become 28 = .ok (.putfield 25, 3) := by decide +kernel
theorem dX4_become_31 : decode cX4_become 31 = .ok (.return_, 1) := by decide +kernel
theorem dX4_add_0 : decode cX4_add 0 = .ok (.aload_n 0, 1) := by decide +kernel
theorem dX4_add_1 : decode cX4_add 1 = .ok (.getfield 25, 3) := by decide +kernel
theorem dX4_add_4 : decode cX4_add 4 = .ok (.ifCond .lt 12, 3) := by decide +kernel
theorem dX4_add_7 : decode cX4_add 7 = .ok (.aload_n 0, 1) := by decide +kernel
theorem dX4_add_8 : decode cX4_add 8 = .ok (.getfield 25, 3) := by decide +kernel
theorem dX4_add_11 : decode cX4_add 11 = .ok (.bipush 60, 2) := by decide +kernel
theorem dX4_add_13 : decode cX4_add 13 = .ok (.if_icmp .lt 8, 3) := by decide +kernel
theorem dX4_add_16 : decode cX4_add 16 = .ok (.aload_n 0, 1) := by decide +kernel
theorem dX4_add_17 : decode cX4_add 17 = .ok (.iconst 0, 1) := by decide +kernel
theorem dX4_add_18 : decode cX4_add 18 = .ok (.putfield 25, 3) := by decide +kernel
theorem dX4_add_21 : decode cX4_add 21 = .ok (.aload_n 0, 1) := by decide +kernel
theorem dX4_add_22 : decode cX4_add 22 = .ok (.getfield 11, 3) := by decide +kernel
theorem dX4_add_25 : decode cX4_add 25 = .ok (.aload_n 0, 1) := by decide +kernel
theorem dX4_add_26 : decode cX4_add 26 = .ok (.getfield 25, 3) := by decide +kernel
theorem dX4_add_29 : decode cX4_add 29 = .ok (.iload_n 1, 1) := by decide +kernel
theorem dX4_add_30 : decode cX4_add 30 = .ok (.bipush 16, 2) := by decide +kernel
theorem dX4_add_32 : decode cX4_add 32 = .ok (.ishl, 1) := by decide +kernel
theorem dX4_add_33 : decode cX4_add 33 = .ok (.iload_n 2, 1) := by decide +kernel
theorem dX4_add_34 : decode cX4_add 34 = .ok (.bipush 12, 2) := by decide +kernel
theorem dX4_add_36 : decode cX4_add 36 = .ok (.ishl, 1) := by decide +kernel
theorem dX4_add_37 : decode cX4_add 37 = .ok (.ior, 1) := by decide +kernel
theorem dX4_add_38 : decode cX4_add 38 = .ok (.iload_n 3, 1) := by decide +kernel
theorem dX4_add_39 : decode cX4_add 39 = .ok (.bipush 8, 2) := by decide +kernel
theorem dX4_add_41 : decode cX4_add 41 = .ok (.ishl, 1) := by decide +kernel
theorem dX4_add_42 : decode cX4_add 42 = .ok (.ior, 1) := by decide +kernel
theorem dX4_add_43 : decode cX4_add 43 = .ok (.iload 4, 2) := by decide +kernel
theorem dX4_add_45 : decode cX4_add 45 = .ok (.ior, 1) := by decide +kernel
theorem dX4_add_46 : decode cX4_add 46 = .ok (.iastore, 1) := by decide +kernel
theorem dX4_add_47 : decode cX4_add 47 = .ok (.aload_n 0, 1) := by decide +kernel
theorem dX4_add_48 : decode cX4_add 48 = .ok (.aload_n 0, 1) := by decide +kernel
theorem dX4_add_49 : decode cX4_add 49 = .ok (.getfield 25, 3) := by decide +kernel
theorem dX4_add_52 : decode cX4_add 52 = .ok (.iconst 1, 1) := by decide +kernel
theorem dX4_add_53 : decode cX4_add 53 = .ok (.iadd, 1) := by decide +kernel
theorem dX4_add_54 : decode cX4_add 54 = .ok (.bipush 60, 2) := by decide +kernel
theorem dX4_add_56 : decode cX4_add 56 = .ok (.irem, 1) := by decide +kernel
theorem dX4_add_57 : decode cX4_add 57 = .ok (.putfield 25, 3) := by decide +kernel
theorem dX4_add_60 : decode cX4_add 60 = .ok (.aload_n 0, 1) := by decide +kernel
theorem dX4_add_61 : decode cX4_add 61 = .ok (.aload_n 0, 1) := by decide +kernel
theorem dX4_add_62 : decode cX4_add 62 = .ok (.getfield 21, 3) := by decide +kernel
theorem dX4_add_65 : decode cX4_add 65 = .ok (.iconst 1, 1) := by decide +kernel
theorem dX4_add_66 : decode cX4_add 66 = .ok (.iadd, 1) := by decide +kernel
theorem dX4_add_67 : decode cX4_add 67 = .ok (.bipush 60, 2) := by decide +kernel
theorem dX4_add_69 : decode cX4_add 69 = .ok (.invokestatic 28, 3) := by decide +kernel
theorem dX4_add_72 : decode cX4_add 72 = .ok (.putfield 21, 3) := by decide +kernel
theorem dX4_add_75 : decode cX4_add 75 = .ok (.return_, 1) := by decide +kernel
theorem dX4_rowAgo_0 : decode cX4_rowAgo 0 = .ok (.aload_n 0, 1) := by decide +kernel
theorem dX4_rowAgo_1 : decode cX4_rowAgo 1 = .ok (.getfield 25, 3) := by decide +kernel
theorem dX4_rowAgo_4 : decode cX4_rowAgo 4 = .ok (.iconst 1, 1) := by decide +kernel
theorem dX4_rowAgo_5 : decode cX4_rowAgo 5 = .ok (.isub, 1) := by decide +kernel
theorem dX4_rowAgo_6 : decode cX4_rowAgo 6 = .ok (.iload_n 1, 1) := by decide +kernel
theorem dX4_rowAgo_7 : decode cX4_rowAgo 7 = .ok (.isub, 1) := by decide +kernel
theorem dX4_rowAgo_8 : decode cX4_rowAgo 8 = .ok (.bipush 120, 2) := by decide +kernel
theorem dX4_rowAgo_10 : decode cX4_rowAgo 10 = .ok (.iadd, 1) := by decide +kernel
theorem dX4_rowAgo_11 : decode cX4_rowAgo 11 = .ok (.bipush 60, 2) := by decide +kernel
theorem dX4_rowAgo_13 : decode cX4_rowAgo 13 = .ok (.irem, 1) := by decide +kernel
theorem dX4_rowAgo_14 : decode cX4_rowAgo 14 = .ok (.istore_n 2, 1) := by decide +kernel
theorem dX4_rowAgo_15 : decode cX4_rowAgo 15 = .ok (.iload_n 2, 1) := by decide +kernel
theorem dX4_rowAgo_16 : decode cX4_rowAgo 16 = .ok (.ifCond .ge 7, 3) := by decide +kernel
theorem dX4_rowAgo_19 : decode cX4_rowAgo 19 = .ok (.iconst 0, 1) := by decide +kernel
theorem dX4_rowAgo_20 : decode cX4_rowAgo 20 = .ok (.goto 9, 3) := by decide +kernel
theorem dX4_rowAgo_23 : decode cX4_rowAgo 23 = .ok (.aload_n 0, 1) := by decide +kernel
theorem dX4_rowAgo_24 : decode cX4_rowAgo 24 = .ok (.getfield 11, 3) := by decide +kernel
theorem dX4_rowAgo_27 : decode cX4_rowAgo 27 = .ok (.iload_n 2, 1) := by decide +kernel
theorem dX4_rowAgo_28 : decode cX4_rowAgo 28 = .ok (.iaload, 1) := by decide +kernel
theorem dX4_rowAgo_29 : decode cX4_rowAgo 29 = .ok (.ireturn, 1) := by decide +kernel
theorem dX4_tell_0 : decode cX4_tell 0 = .ok (.iload_n 1, 1) := by decide +kernel
theorem dX4_tell_1 : decode cX4_tell 1 = .ok (.ifCond .lt 11, 3) := by decide +kernel
theorem dX4_tell_4 : decode cX4_tell 4 = .ok (.iload_n 1, 1) := by decide +kernel
theorem dX4_tell_5 : decode cX4_tell 5 = .ok (.aload_n 0, 1) := by decide +kernel
theorem dX4_tell_6 : decode cX4_tell 6 = .ok (.getfield 21, 3) := by decide +kernel
theorem dX4_tell_9 : decode cX4_tell 9 = .ok (.if_icmp .lt 5, 3) := by decide +kernel
theorem dX4_tell_12 : decode cX4_tell 12 = .ok (.iconst (-1), 1) := by decide +kernel
theorem dX4_tell_13 : decode cX4_tell 13 = .ok (.ireturn, 1) := by decide +kernel
theorem dX4_tell_14 : decode cX4_tell 14 = .ok (.aload_n 0, 1) := by decide +kernel
theorem dX4_tell_15 : decode cX4_tell 15 = .ok (.iload_n 1, 1) := by decide +kernel
theorem dX4_tell_16 : decode cX4_tell 16 = .ok (.invokevirtual 34, 3) := by decide +kernel
theorem dX4_tell_19 : decode cX4_tell 19 = .ok (.istore_n 3, 1) := by decide +kernel
theorem dX4_tell_20 : decode cX4_tell 20 = .ok (.iload_n 2, 1) := by decide +kernel
theorem dX4_tell_21 : decode cX4_tell 21 = .ok (.tableswitch 48 0 2 #[27, 32, 40], 27) := by decide +kernel
theorem dX4_tell_48 : decode cX4_tell 48 = .ok (.iload_n 3, 1) := by decide +kernel
theorem dX4_tell_49 : decode cX4_tell 49 = .ok (.bipush 16, 2) := by decide +kernel
theorem dX4_tell_51 : decode cX4_tell 51 = .ok (.iushr, 1) := by decide +kernel
theorem dX4_tell_52 : decode cX4_tell 52 = .ok (.ireturn, 1) := by decide +kernel
theorem dX4_tell_53 : decode cX4_tell 53 = .ok (.iload_n 3, 1) := by decide +kernel
theorem dX4_tell_54 : decode cX4_tell 54 = .ok (.bipush 12, 2) := by decide +kernel
theorem dX4_tell_56 : decode cX4_tell 56 = .ok (.iushr, 1) := by decide +kernel
theorem dX4_tell_57 : decode cX4_tell 57 = .ok (.bipush 15, 2) := by decide +kernel
theorem dX4_tell_59 : decode cX4_tell 59 = .ok (.iand, 1) := by decide +kernel
theorem dX4_tell_60 : decode cX4_tell 60 = .ok (.ireturn, 1) := by decide +kernel
theorem dX4_tell_61 : decode cX4_tell 61 = .ok (.iload_n 3, 1) := by decide +kernel
theorem dX4_tell_62 : decode cX4_tell 62 = .ok (.bipush 8, 2) := by decide +kernel
theorem dX4_tell_64 : decode cX4_tell 64 = .ok (.iushr, 1) := by decide +kernel
theorem dX4_tell_65 : decode cX4_tell 65 = .ok (.bipush 15, 2) := by decide +kernel
theorem dX4_tell_67 : decode cX4_tell 67 = .ok (.iand, 1) := by decide +kernel
theorem dX4_tell_68 : decode cX4_tell 68 = .ok (.ireturn, 1) := by decide +kernel
theorem dX4_tell_69 : decode cX4_tell 69 = .ok (.iload_n 3, 1) := by decide +kernel
theorem dX4_tell_70 : decode cX4_tell 70 = .ok (.sipush 255, 3) := by decide +kernel
theorem dX4_tell_73 : decode cX4_tell 73 = .ok (.iand, 1) := by decide +kernel
theorem dX4_tell_74 : decode cX4_tell 74 = .ok (.ireturn, 1) := by decide +kernel
theorem dX4_rowsOf_0 : decode cX4_rowsOf 0 = .ok (.iconst 0, 1) := by decide +kernel
theorem dX4_rowsOf_1 : decode cX4_rowsOf 1 = .ok (.istore_n 2, 1) := by decide +kernel
theorem dX4_rowsOf_2 : decode cX4_rowsOf 2 = .ok (.iconst 0, 1) := by decide +kernel
theorem dX4_rowsOf_3 : decode cX4_rowsOf 3 = .ok (.istore_n 3, 1) := by decide +kernel
theorem dX4_rowsOf_4 : decode cX4_rowsOf 4 = .ok (.iload_n 3, 1) := by decide +kernel
theorem dX4_rowsOf_5 : decode cX4_rowsOf 5 = .ok (.aload_n 0, 1) := by decide +kernel
theorem dX4_rowsOf_6 : decode cX4_rowsOf 6 = .ok (.getfield 21, 3) := by decide +kernel
theorem dX4_rowsOf_9 : decode cX4_rowsOf 9 = .ok (.if_icmp .ge 22, 3) := by decide +kernel
theorem dX4_rowsOf_12 : decode cX4_rowsOf 12 = .ok (.aload_n 0, 1) := by decide +kernel
theorem dX4_rowsOf_13 : decode cX4_rowsOf 13 = .ok (.iload_n 3, 1) := by decide +kernel
theorem dX4_rowsOf_14 : decode cX4_rowsOf 14 = .ok (.iconst 1, 1) := by decide +kernel
theorem dX4_rowsOf_15 : decode cX4_rowsOf 15 = .ok (.invokevirtual 38, 3) := by decide +kernel
theorem dX4_rowsOf_18 : decode cX4_rowsOf 18 = .ok (.iload_n 1, 1) := by decide +kernel
theorem dX4_rowsOf_19 : decode cX4_rowsOf 19 = .ok (.if_icmp .ne 6, 3) := by decide +kernel
theorem dX4_rowsOf_22 : decode cX4_rowsOf 22 = .ok (.iinc 2 1, 3) := by decide +kernel
theorem dX4_rowsOf_25 : decode cX4_rowsOf 25 = .ok (.iinc 3 1, 3) := by decide +kernel
theorem dX4_rowsOf_28 : decode cX4_rowsOf 28 = .ok (.goto (-24), 3) := by decide +kernel
theorem dX4_rowsOf_31 : decode cX4_rowsOf 31 = .ok (.iload_n 2, 1) := by decide +kernel
theorem dX4_rowsOf_32 : decode cX4_rowsOf 32 = .ok (.ireturn, 1) := by decide +kernel
theorem dX4_latestDayOf_0 : decode cX4_latestDayOf 0 = .ok (.iconst 0, 1) := by decide +kernel
theorem dX4_latestDayOf_1 : decode cX4_latestDayOf 1 = .ok (.istore_n 2, 1) := by decide +kernel
theorem dX4_latestDayOf_2 : decode cX4_latestDayOf 2 = .ok (.iload_n 2, 1) := by decide +kernel
theorem dX4_latestDayOf_3 : decode cX4_latestDayOf 3 = .ok (.aload_n 0, 1) := by decide +kernel
theorem dX4_latestDayOf_4 : decode cX4_latestDayOf 4 = .ok (.getfield 21, 3) := by decide +kernel
theorem dX4_latestDayOf_7 : decode cX4_latestDayOf 7 = .ok (.if_icmp .ge 26, 3) := by decide +kernel
theorem dX4_latestDayOf_10 : decode cX4_latestDayOf 10 = .ok (.aload_n 0, 1) := by decide +kernel
theorem dX4_latestDayOf_11 : decode cX4_latestDayOf 11 = .ok (.iload_n 2, 1) := by decide +kernel
theorem dX4_latestDayOf_12 : decode cX4_latestDayOf 12 = .ok (.iconst 1, 1) := by decide +kernel
theorem dX4_latestDayOf_13 : decode cX4_latestDayOf 13 = .ok (.invokevirtual 38, 3) := by decide +kernel
theorem dX4_latestDayOf_16 : decode cX4_latestDayOf 16 = .ok (.iload_n 1, 1) := by decide +kernel
theorem dX4_latestDayOf_17 : decode cX4_latestDayOf 17 = .ok (.if_icmp .ne 10, 3) := by decide +kernel
theorem dX4_latestDayOf_20 : decode cX4_latestDayOf 20 = .ok (.aload_n 0, 1) := by decide +kernel
theorem dX4_latestDayOf_21 : decode cX4_latestDayOf 21 = .ok (.iload_n 2, 1) := by decide +kernel
theorem dX4_latestDayOf_22 : decode cX4_latestDayOf 22 = .ok (.iconst 0, 1) := by decide +kernel
theorem dX4_latestDayOf_23 : decode cX4_latestDayOf 23 = .ok (.invokevirtual 38, 3) := by decide +kernel
theorem dX4_latestDayOf_26 : decode cX4_latestDayOf 26 = .ok (.ireturn, 1) := by decide +kernel
theorem dX4_latestDayOf_27 : decode cX4_latestDayOf 27 = .ok (.iinc 2 1, 3) := by decide +kernel
theorem dX4_latestDayOf_30 : decode cX4_latestDayOf 30 = .ok (.goto (-28), 3) := by decide +kernel
theorem dX4_latestDayOf_33 : decode cX4_latestDayOf 33 = .ok (.iconst (-1), 1) := by decide +kernel
theorem dX4_latestDayOf_34 : decode cX4_latestDayOf 34 = .ok (.ireturn, 1) := by decide +kernel
theorem dX5_init_0 : decode cX5_init 0 = .ok (.aload_n 0, 1) := by decide +kernel
theorem dX5_init_1 : decode cX5_init 1 = .ok (.invokespecial 1, 3) := by decide +kernel
theorem dX5_init_4 : decode cX5_init 4 = .ok (.aload_n 0, 1) := by decide +kernel
theorem dX5_init_5 : decode cX5_init 5 = .ok (.bipush 12, 2) := by decide +kernel
theorem dX5_init_7 : decode cX5_init 7 = .ok (.anewarray 9, 3) := by decide +kernel
theorem dX5_init_10 : decode cX5_init 10 = .ok (.putfield 11, 3) := by decide +kernel
theorem dX5_init_13 : decode cX5_init 13 = .ok (.iconst 0, 1) := by decide +kernel
theorem dX5_init_14 : decode cX5_init 14 = .ok (.istore_n 1, 1) := by decide +kernel
theorem dX5_init_15 : decode cX5_init 15 = .ok (.iload_n 1, 1) := by decide +kernel
theorem dX5_init_16 : decode cX5_init 16 = .ok (.bipush 12, 2) := by decide +kernel
theorem dX5_init_18 : decode cX5_init 18 = .ok (.if_icmp .ge 22, 3) := by decide +kernel
theorem dX5_init_21 : decode cX5_init 21 = .ok (.aload_n 0, 1) := by decide +kernel
theorem dX5_init_22 : decode cX5_init 22 = .ok (.getfield 11, 3) := by decide +kernel
theorem dX5_init_25 : decode cX5_init 25 = .ok (.iload_n 1, 1) := by decide +kernel
theorem dX5_init_26 : decode cX5_init 26 = .ok (.new 9, 3) := by decide +kernel
theorem dX5_init_29 : decode cX5_init 29 = .ok (.dup, 1) := by decide +kernel
theorem dX5_init_30 : decode cX5_init 30 = .ok (.invokespecial 15, 3) := by decide +kernel
theorem dX5_init_33 : decode cX5_init 33 = .ok (.aastore, 1) := by decide +kernel
theorem dX5_init_34 : decode cX5_init 34 = .ok (.iinc 1 1, 3) := by decide +kernel
theorem dX5_init_37 : decode cX5_init 37 = .ok (.goto (-22), 3) := by decide +kernel
theorem dX5_init_40 : decode cX5_init 40 = .ok (.return_, 1) := by decide +kernel
theorem dX5_remember_0 : decode cX5_remember 0 = .ok (.aload_n 0, 1) := by decide +kernel
theorem dX5_remember_1 : decode cX5_remember 1 = .ok (.getfield 11, 3) := by decide +kernel
theorem dX5_remember_4 : decode cX5_remember 4 = .ok (.aload_n 0, 1) := by decide +kernel
theorem dX5_remember_5 : decode cX5_remember 5 = .ok (.getfield 16, 3) := by decide +kernel
theorem dX5_remember_8 : decode cX5_remember 8 = .ok (.aaload, 1) := by decide +kernel
theorem dX5_remember_9 : decode cX5_remember 9 = .ok (.aload_n 1, 1) := by decide +kernel
theorem dX5_remember_10 : decode cX5_remember 10 = .ok (.invokevirtual 20, 3) := by decide +kernel
theorem dX5_remember_13 : decode cX5_remember 13 = .ok (.aload_n 0, 1) := by decide +kernel
theorem dX5_remember_14 : decode cX5_remember 14 = .ok (.aload_n 0, 1) := by decide +kernel
theorem dX5_remember_15 : decode cX5_remember 15 = .ok (.getfield 16, 3) := by decide +kernel
theorem dX5_remember_18 : decode cX5_remember 18 = .ok (.iconst 1, 1) := by decide +kernel
theorem dX5_remember_19 : decode cX5_remember 19 = .ok (.iadd, 1) := by decide +kernel
theorem dX5_remember_20 : decode cX5_remember 20 = .ok (.bipush 12, 2) := by decide +kernel
theorem dX5_remember_22 : decode cX5_remember 22 = .ok (.irem, 1) := by decide +kernel
theorem dX5_remember_23 : decode cX5_remember 23 = .ok (.putfield 16, 3) := by decide +kernel
theorem dX5_remember_26 : decode cX5_remember 26 = .ok (.aload_n 0, 1) := by decide +kernel
theorem dX5_remember_27 : decode cX5_remember 27 = .ok (.aload_n 0, 1) := by decide +kernel
theorem dX5_remember_28 : decode cX5_remember 28 = .ok (.getfield 24, 3) := by decide +kernel
theorem dX5_remember_31 : decode cX5_remember 31 = .ok (.iconst 1, 1) := by decide +kernel
theorem dX5_remember_32 : decode cX5_remember 32 = .ok (.iadd, 1) := by decide +kernel
theorem dX5_remember_33 : decode cX5_remember 33 = .ok (.bipush 12, 2) := by decide +kernel
theorem dX5_remember_35 : decode cX5_remember 35 = .ok (.invokestatic 27, 3) := by decide +kernel
theorem dX5_remember_38 : decode cX5_remember 38 = .ok (.putfield 24, 3) := by decide +kernel
theorem dX5_remember_41 : decode cX5_remember 41 = .ok (.return_, 1) := by decide +kernel
theorem dX5_takeBack_0 : decode cX5_takeBack 0 = .ok (.aload_n 0, 1) := by decide +kernel
theorem dX5_takeBack_1 : decode cX5_takeBack 1 = .ok (.getfield 24, 3) := by decide +kernel
theorem dX5_takeBack_4 : decode cX5_takeBack 4 = .ok (.ifCond .ne 5, 3) := by decide +kernel
theorem dX5_takeBack_7 : decode cX5_takeBack 7 = .ok (.iconst 0, 1) := by decide +kernel
theorem dX5_takeBack_8 : decode cX5_takeBack 8 = .ok (.ireturn, 1) := by decide +kernel
theorem dX5_takeBack_9 : decode cX5_takeBack 9 = .ok (.aload_n 0, 1) := by decide +kernel
theorem dX5_takeBack_10 : decode cX5_takeBack 10 = .ok (.aload_n 0, 1) := by decide +kernel
theorem dX5_takeBack_11 : decode cX5_takeBack 11 = .ok (.getfield 16, 3) := by decide +kernel
theorem dX5_takeBack_14 : decode cX5_takeBack 14 = .ok (.bipush 12, 2) := by decide +kernel
theorem dX5_takeBack_16 : decode cX5_takeBack 16 = .ok (.iadd, 1) := by decide +kernel
theorem dX5_takeBack_17 : decode cX5_takeBack 17 = .ok (.iconst 1, 1) := by decide +kernel
theorem dX5_takeBack_18 : decode cX5_takeBack 18 = .ok (.isub, 1) := by decide +kernel
theorem dX5_takeBack_19 : decode cX5_takeBack 19 = .ok (.bipush 12, 2) := by decide +kernel
theorem dX5_takeBack_21 : decode cX5_takeBack 21 = .ok (.irem, 1) := by decide +kernel
theorem dX5_takeBack_22 : decode cX5_takeBack 22 = .ok (.putfield 16, 3) := by decide +kernel
theorem dX5_takeBack_25 : decode cX5_takeBack 25 = .ok (.aload_n 0, 1) := by decide +kernel
theorem dX5_takeBack_26 : decode cX5_takeBack 26 = .ok (.dup, 1) := by decide +kernel
theorem dX5_takeBack_27 : decode cX5_takeBack 27 = .ok (.getfield 24, 3) := by decide +kernel
theorem dX5_takeBack_30 : decode cX5_takeBack 30 = .ok (.iconst 1, 1) := by decide +kernel
theorem dX5_takeBack_31 : decode cX5_takeBack 31 = .ok (.isub, 1) := by decide +kernel
theorem dX5_takeBack_32 : decode cX5_takeBack 32 = .ok (.putfield 24, 3) := by decide +kernel
theorem dX5_takeBack_35 : decode cX5_takeBack 35 = .ok (.aload_n 1, 1) := by decide +kernel
theorem dX5_takeBack_36 : decode cX5_takeBack 36 = .ok (.aload_n 0, 1) := by decide +kernel
theorem dX5_takeBack_37 : decode cX5_takeBack 37 = .ok (.getfield 11, 3) := by decide +kernel
theorem dX5_takeBack_40 : decode cX5_takeBack 40 = .ok (.aload_n 0, 1) := by decide +kernel
theorem dX5_takeBack_41 : decode cX5_takeBack 41 = .ok (.getfield 16, 3) := by decide +kernel
theorem dX5_takeBack_44 : decode cX5_takeBack 44 = .ok (.aaload, 1) := by decide +kernel
theorem dX5_takeBack_45 : decode cX5_takeBack 45 = .ok (.invokevirtual 20, 3) := by decide +kernel
theorem dX5_takeBack_48 : decode cX5_takeBack 48 = .ok (.iconst 1, 1) := by decide +kernel
theorem dX5_takeBack_49 : decode cX5_takeBack 49 = .ok (.ireturn, 1) := by decide +kernel
theorem dX5_forget_0 : decode cX5_forget 0 = .ok (.aload_n 0, 1) := by decide +kernel
theorem dX5_forget_1 : decode cX5_forget 1 = .ok (.iconst 0, 1) := by decide +kernel
theorem dX5_forget_2 : decode cX5_forget 2 = .ok (.putfield 24, 3) := by decide +kernel
theorem dX5_forget_5 : decode cX5_forget 5 = .ok (.return_, 1) := by decide +kernel
theorem dX6_init_0 : decode cX6_init 0 = .ok (.aload_n 0, 1) := by decide +kernel
theorem dX6_init_1 : decode cX6_init 1 = .ok (.invokespecial 3, 3) := by decide +kernel
theorem dX6_init_4 : decode cX6_init 4 = .ok (.aload_n 0, 1) := by decide +kernel
theorem dX6_init_5 : decode cX6_init 5 = .ok (.iconst 5, 1) := by decide +kernel
theorem dX6_init_6 : decode cX6_init 6 = .ok (.newarray .int, 2) := by decide +kernel
theorem dX6_init_8 : decode cX6_init 8 = .ok (.putfield 11, 3) := by decide +kernel
theorem dX6_init_11 : decode cX6_init 11 = .ok (.aload_n 0, 1) := by decide +kernel
theorem dX6_init_12 : decode cX6_init 12 = .ok (.iconst 5, 1) := by decide +kernel
theorem dX6_init_13 : decode cX6_init 13 = .ok (.newarray .int, 2) := by decide +kernel
theorem dX6_init_15 : decode cX6_init 15 = .ok (.putfield 17, 3) := by decide +kernel
theorem dX6_init_18 : decode cX6_init 18 = .ok (.aload_n 0, 1) := by decide +kernel
theorem dX6_init_19 : decode cX6_init 19 = .ok (.iconst 5, 1) := by decide +kernel
theorem dX6_init_20 : decode cX6_init 20 = .ok (.newarray .int, 2) := by decide +kernel
theorem dX6_init_22 : decode cX6_init 22 = .ok (.putfield 20, 3) := by decide +kernel
theorem dX6_init_25 : decode cX6_init 25 = .ok (.return_, 1) := by decide +kernel
theorem dX6_take_0 : decode cX6_take 0 = .ok (.aload_n 1, 1) := by decide +kernel
theorem dX6_take_1 : decode cX6_take 1 = .ok (.getfield 23, 3) := by decide +kernel
theorem dX6_take_4 : decode cX6_take 4 = .ok (.aload_n 2, 1) := by decide +kernel
theorem dX6_take_5 : decode cX6_take 5 = .ok (.getfield 29, 3) := by decide +kernel
theorem dX6_take_8 : decode cX6_take 8 = .ok (.if_icmp .eq 5, 3) := by decide +kernel
theorem dX6_take_11 : decode cX6_take 11 = .ok (.iconst 0, 1) := by decide +kernel
theorem dX6_take_12 : decode cX6_take 12 = .ok (.ireturn, 1) := by decide +kernel
theorem dX6_take_13 : decode cX6_take 13 = .ok (.iconst 0, 1) := by decide +kernel
theorem dX6_take_14 : decode cX6_take 14 = .ok (.istore_n 3, 1) := by decide +kernel
theorem dX6_take_15 : decode cX6_take 15 = .ok (.iload_n 3, 1) := by decide +kernel
theorem dX6_take_16 : decode cX6_take 16 = .ok (.aload_n 2, 1) := by decide +kernel
theorem dX6_take_17 : decode cX6_take 17 = .ok (.getfield 29, 3) := by decide +kernel
theorem dX6_take_20 : decode cX6_take 20 = .ok (.if_icmp .ge 33, 3) := by decide +kernel
theorem dX6_take_23 : decode cX6_take 23 = .ok (.aload_n 0, 1) := by decide +kernel
theorem dX6_take_24 : decode cX6_take 24 = .ok (.getfield 11, 3) := by decide +kernel
theorem dX6_take_27 : decode cX6_take 27 = .ok (.iload_n 3, 1) := by decide +kernel
theorem dX6_take_28 : decode cX6_take 28 = .ok (.aload_n 1, 1) := by decide +kernel
theorem dX6_take_29 : decode cX6_take 29 = .ok (.iload_n 3, 1) := by decide +kernel
theorem dX6_take_30 : decode cX6_take 30 = .ok (.invokevirtual 32, 3) := by decide +kernel
theorem dX6_take_33 : decode cX6_take 33 = .ok (.iastore, 1) := by decide +kernel
theorem dX6_take_34 : decode cX6_take 34 = .ok (.aload_n 0, 1) := by decide +kernel
theorem dX6_take_35 : decode cX6_take 35 = .ok (.getfield 11, 3) := by decide +kernel
theorem dX6_take_38 : decode cX6_take 38 = .ok (.iload_n 3, 1) := by decide +kernel
theorem dX6_take_39 : decode cX6_take 39 = .ok (.iaload, 1) := by decide +kernel
theorem dX6_take_40 : decode cX6_take 40 = .ok (.bipush 15, 2) := by decide +kernel
theorem dX6_take_42 : decode cX6_take 42 = .ok (.if_icmp .le 5, 3) := by decide +kernel
theorem dX6_take_45 : decode cX6_take 45 = .ok (.iconst 0, 1) := by decide +kernel
theorem dX6_take_46 : decode cX6_take 46 = .ok (.ireturn, 1) := by decide +kernel
theorem dX6_take_47 : decode cX6_take 47 = .ok (.iinc 3 1, 3) := by decide +kernel
theorem dX6_take_50 : decode cX6_take 50 = .ok (.goto (-35), 3) := by decide +kernel
theorem dX6_take_53 : decode cX6_take 53 = .ok (.iconst 1, 1) := by decide +kernel
theorem dX6_take_54 : decode cX6_take 54 = .ok (.ireturn, 1) := by decide +kernel
theorem dX6_settle_0 : decode cX6_settle 0 = .ok (.aload_n 0, 1) := by decide +kernel
theorem dX6_settle_1 : decode cX6_settle 1 = .ok (.bipush 16, 2) := by decide +kernel
theorem dX6_settle_3 : decode cX6_settle 3 = .ok (.putfield 36, 3) := by decide +kernel
theorem dX6_settle_6 : decode cX6_settle 6 = .ok (.aload_n 0, 1) := by decide +kernel
theorem dX6_settle_7 : decode cX6_settle 7 = .ok (.aload_n 1, 1) := by decide +kernel
theorem dX6_settle_8 : decode cX6_settle 8 = .ok (.iconst 0, 1) := by decide +kernel
theorem dX6_settle_9 : decode cX6_settle 9 = .ok (.iconst 0, 1) := by decide +kernel
theorem dX6_settle_10 : decode cX6_settle 10 = .ok (.iconst 0, 1) := by decide +kernel
theorem dX6_settle_11 : decode cX6_settle 11 = .ok (.invokevirtual 39, 3) := by decide +kernel
theorem dX6_settle_14 : decode cX6_settle 14 = .ok (.return_, 1) := by decide +kernel
theorem dX6_send_0 : decode cX6_send 0 = .ok (.iload_n 2, 1) := by decide +kernel
theorem dX6_send_1 : decode cX6_send 1 = .ok (.aload_n 1, 1) := by decide +kernel
theorem dX6_send_2 : decode cX6_send 2 = .ok (.getfield 29, 3) := by decide +kernel
theorem dX6_send_5 : decode cX6_send 5 = .ok (.if_icmp .ge 12, 3) := by decide +kernel
theorem dX6_send_8 : decode cX6_send 8 = .ok (.iload_n 2, 1) := by decide +kernel
theorem dX6_send_9 : decode cX6_send 9 = .ok (.aload_n 0, 1) := by decide +kernel
theorem dX6_send_10 : decode cX6_send 10 = .ok (.getfield 17, 3) := by decide +kernel
theorem dX6_send_13 : decode cX6_send 13 = .ok (.arraylength, 1) := by decide +kernel
theorem dX6_send_14 : decode cX6_send 14 = .ok (.if_icmp .lt 37, 3) := by decide +kernel
theorem dX6_send_17 : decode cX6_send 17 = .ok (.iload 4, 2) := by decide +kernel
theorem dX6_send_19 : decode cX6_send 19 = .ok (.aload_n 0, 1) := by decide +kernel
theorem dX6_send_20 : decode cX6_send 20 = .ok (.getfield 36, 3) := by decide +kernel
theorem dX6_send_23 : decode cX6_send 23 = .ok (.if_icmp .ge 27, 3) := by decide +kernel
theorem dX6_send_26 : decode cX6_send 26 = .ok (.aload_n 0, 1) := by decide +kernel
theorem dX6_send_27 : decode cX6_send 27 = .ok (.iload 4, 2) := by decide +kernel
theorem dX6_send_29 : decode cX6_send 29 = .ok (.putfield 36, 3) := by decide +kernel
theorem dX6_send_32 : decode cX6_send 32 = .ok (.aload_n 0, 1) := by decide +kernel
theorem dX6_send_33 : decode cX6_send 33 = .ok (.getfield 17, 3) := by decide +kernel
theorem dX6_send_36 : decode cX6_send 36 = .ok (.iconst 0, 1) := by decide +kernel
theorem dX6_send_37 : decode cX6_send 37 = .ok (.aload_n 0, 1) := by decide +kernel
theorem dX6_send_38 : decode cX6_send 38 = .ok (.getfield 20, 3) := by decide +kernel
theorem dX6_send_41 : decode cX6_send 41 = .ok (.iconst 0, 1) := by decide +kernel
theorem dX6_send_42 : decode cX6_send 42 = .ok (.aload_n 0, 1) := by decide +kernel
theorem dX6_send_43 : decode cX6_send 43 = .ok (.getfield 20, 3) := by decide +kernel
theorem dX6_send_46 : decode cX6_send 46 = .ok (.arraylength, 1) := by decide +kernel
theorem dX6_send_47 : decode cX6_send 47 = .ok (.invokestatic 43, 3) := by decide +kernel
theorem dX6_send_50 : decode cX6_send 50 = .ok (.return_, 1) := by decide +kernel
theorem dX6_send_51 : decode cX6_send 51 = .ok (.iconst 0, 1) := by decide +kernel
theorem dX6_send_52 : decode cX6_send 52 = .ok (.istore 5, 2) := by decide +kernel
theorem dX6_send_54 : decode cX6_send 54 = .ok (.iload 5, 2) := by decide +kernel
theorem dX6_send_56 : decode cX6_send 56 = .ok (.aload_n 1, 1) := by decide +kernel
theorem dX6_send_57 : decode cX6_send 57 = .ok (.getfield 29, 3) := by decide +kernel
theorem dX6_send_60 : decode cX6_send 60 = .ok (.if_icmp .ge 61, 3) := by decide +kernel
theorem dX6_send_63 : decode cX6_send 63 = .ok (.iload_n 3, 1) := by decide +kernel
theorem dX6_send_64 : decode cX6_send 64 = .ok (.iload 5, 2) := by decide +kernel
theorem dX6_send_66 : decode cX6_send 66 = .ok (.invokestatic 49, 3) := by decide +kernel
theorem dX6_send_69 : decode cX6_send 69 = .ok (.ifCond .ne 46, 3) := by decide +kernel
theorem dX6_send_72 : decode cX6_send 72 = .ok (.aload_n 0, 1) := by decide +kernel
theorem dX6_send_73 : decode cX6_send 73 = .ok (.getfield 17, 3) := by decide +kernel
theorem dX6_send_76 : decode cX6_send 76 = .ok (.iload_n 2, 1) := by decide +kernel
theorem dX6_send_77 : decode cX6_send 77 = .ok (.iload 5, 2) := by decide +kernel
theorem dX6_send_79 : decode cX6_send 79 = .ok (.iastore, 1) := by decide +kernel
theorem dX6_send_80 : decode cX6_send 80 = .ok (.aload_n 1, 1) := by decide +kernel
theorem dX6_send_81 : decode cX6_send 81 = .ok (.iload_n 2, 1) := by decide +kernel
theorem dX6_send_82 : decode cX6_send 82 = .ok (.aload_n 0, 1) := by decide +kernel
theorem dX6_send_83 : decode cX6_send 83 = .ok (.getfield 11, 3) := by decide +kernel
theorem dX6_send_86 : decode cX6_send 86 = .ok (.iload 5, 2) := by decide +kernel
theorem dX6_send_88 : decode cX6_send 88 = .ok (.iaload, 1) := by decide +kernel
theorem dX6_send_89 : decode cX6_send 89 = .ok (.invokevirtual 53, 3) := by decide +kernel
theorem dX6_send_92 : decode cX6_send 92 = .ok (.istore 6, 2) := by decide +kernel
theorem dX6_send_94 : decode cX6_send 94 = .ok (.aload_n 0, 1) := by decide +kernel
theorem dX6_send_95 : decode cX6_send 95 = .ok (.aload_n 1, 1) := by decide +kernel
theorem dX6_send_96 : decode cX6_send 96 = .ok (.iload_n 2, 1) := by decide +kernel
theorem dX6_send_97 : decode cX6_send 97 = .ok (.iconst 1, 1) := by decide +kernel
theorem dX6_send_98 : decode cX6_send 98 = .ok (.iadd, 1) := by decide +kernel
theorem dX6_send_99 : decode cX6_send 99 = .ok (.iload_n 3, 1) := by decide +kernel
theorem dX6_send_100 : decode cX6_send 100 = .ok (.iconst 1, 1) := by decide +kernel
theorem dX6_send_101 : decode cX6_send 101 = .ok (.iload 5, 2) := by decide +kernel
theorem dX6_send_103 : decode cX6_send 103 = .ok (.ishl, 1) := by decide +kernel
theorem dX6_send_104 : decode cX6_send 104 = .ok (.ior, 1) := by decide +kernel
theorem dX6_send_105 : decode cX6_send 105 = .ok (.iload 4, 2) := by decide +kernel
theorem dX6_send_107 : decode cX6_send 107 = .ok (.iload 6, 2) := by decide +kernel
theorem dX6_send_109 : decode cX6_send 109 = .ok (.invokestatic 57, 3) := by decide +kernel
theorem dX6_send_112 : decode cX6_send 112 = .ok (.invokevirtual 39, 3) := by decide +kernel
theorem dX6_send_115 : decode cX6_send 115 = .ok (.iinc 5 1, 3) := by decide +kernel
theorem dX6_send_118 : decode cX6_send 118 = .ok (.goto (-64), 3) := by decide +kernel
theorem dX6_send_121 : decode cX6_send 121 = .ok (.return_, 1) := by decide +kernel
theorem dX7_init_0 : decode cX7_init 0 = .ok (.aload_n 0, 1) := by decide +kernel
theorem dX7_init_1 : decode cX7_init 1 = .ok (.invokespecial 3, 3) := by decide +kernel
theorem dX7_init_4 : decode cX7_init 4 = .ok (.aload_n 0, 1) := by decide +kernel
theorem dX7_init_5 : decode cX7_init 5 = .ok (.bipush 16, 2) := by decide +kernel
theorem dX7_init_7 : decode cX7_init 7 = .ok (.newarray .int, 2) := by decide +kernel
theorem dX7_init_9 : decode cX7_init 9 = .ok (.putfield 9, 3) := by decide +kernel
theorem dX7_init_12 : decode cX7_init 12 = .ok (.aload_n 0, 1) := by decide +kernel
theorem dX7_init_13 : decode cX7_init 13 = .ok (.bipush 16, 2) := by decide +kernel
theorem dX7_init_15 : decode cX7_init 15 = .ok (.newarray .int, 2) := by decide +kernel
theorem dX7_init_17 : decode cX7_init 17 = .ok (.putfield 15, 3) := by decide +kernel
theorem dX7_init_20 : decode cX7_init 20 = .ok (.aload_n 0, 1) := by decide +kernel
theorem dX7_init_21 : decode cX7_init 21 = .ok (.bipush 16, 2) := by decide +kernel
theorem dX7_init_23 : decode cX7_init 23 = .ok (.newarray .int, 2) := by decide +kernel
theorem dX7_init_25 : decode cX7_init 25 = .ok (.putfield 18, 3) := by decide +kernel
theorem dX7_init_28 : decode cX7_init 28 = .ok (.aload_n 0, 1) := by decide +kernel
theorem dX7_init_29 : decode cX7_init 29 = .ok (.bipush 16, 2) := by decide +kernel
theorem dX7_init_31 : decode cX7_init 31 = .ok (.newarray .int, 2) := by decide +kernel
theorem dX7_init_33 : decode cX7_init 33 = .ok (.putfield 21, 3) := by decide +kernel
theorem dX7_init_36 : decode cX7_init 36 = .ok (.aload_n 0, 1) := by decide +kernel
theorem dX7_init_37 : decode cX7_init 37 = .ok (.new 24, 3) := by decide +kernel
theorem dX7_init_40 : decode cX7_init 40 = .ok (.dup, 1) := by decide +kernel
theorem dX7_init_41 : decode cX7_init 41 = .ok (.invokespecial 26, 3) := by decide +kernel
theorem dX7_init_44 : decode cX7_init 44 = .ok (.putfield 27, 3) := by decide +kernel
theorem dX7_init_47 : decode cX7_init 47 = .ok (.aload_n 0, 1) := by decide +kernel
theorem dX7_init_48 : decode cX7_init 48 = .ok (.new 31, 3) := by decide +kernel
theorem dX7_init_51 : decode cX7_init 51 = .ok (.dup, 1) := by decide +kernel
theorem dX7_init_52 : decode cX7_init 52 = .ok (.invokespecial 33, 3) := by decide +kernel
theorem dX7_init_55 : decode cX7_init 55 = .ok (.putfield 34, 3) := by decide +kernel
theorem dX7_init_58 : decode cX7_init 58 = .ok (.aload_n 0, 1) := by decide +kernel
theorem dX7_init_59 : decode cX7_init 59 = .ok (.bipush 20, 2) := by decide +kernel
theorem dX7_init_61 : decode cX7_init 61 = .ok (.putfield 38, 3) := by decide +kernel
theorem dX7_init_64 : decode cX7_init 64 = .ok (.aload_n 0, 1) := by decide +kernel
theorem dX7_init_65 : decode cX7_init 65 = .ok (.iconst 3, 1) := by decide +kernel
theorem dX7_init_66 : decode cX7_init 66 = .ok (.putfield 42, 3) := by decide +kernel
theorem dX7_init_69 : decode cX7_init 69 = .ok (.aload_n 0, 1) := by decide +kernel
theorem dX7_init_70 : decode cX7_init 70 = .ok (.iconst 1, 1) := by decide +kernel
theorem dX7_init_71 : decode cX7_init 71 = .ok (.putfield 45, 3) := by decide +kernel
theorem dX7_init_74 : decode cX7_init 74 = .ok (.return_, 1) := by decide +kernel
theorem dX7_become_0 : decode cX7_become 0 = .ok (.aload_n 1, 1) := by decide +kernel
theorem dX7_become_1 : decode cX7_become 1 = .ok (.getfield 9, 3) := by decide +kernel
theorem dX7_become_4 : decode cX7_become 4 = .ok (.iconst 0, 1) := by decide +kernel
theorem dX7_become_5 : decode cX7_become 5 = .ok (.aload_n 0, 1) := by decide +kernel
theorem dX7_become_6 : decode cX7_become 6 = .ok (.getfield 9, 3) := by decide +kernel
theorem dX7_become_9 : decode cX7_become 9 = .ok (.iconst 0, 1) := by decide +kernel
theorem dX7_become_10 : decode cX7_become 10 = .ok (.bipush 16, 2) := by decide +kernel
theorem dX7_become_12 : decode cX7_become 12 = .ok (.invokestatic 48, 3) := by decide +kernel
theorem dX7_become_15 : decode cX7_become 15 = .ok (.aload_n 1, 1) := by decide +kernel
theorem dX7_become_16 : decode cX7_become 16 = .ok (.getfield 15, 3) := by decide +kernel
theorem dX7_become_19 : decode cX7_become 19 = .ok (.iconst 0, 1) := by decide +kernel
theorem dX7_become_20 : decode cX7_become 20 = .ok (.aload_n 0, 1) := by decide +kernel
theorem dX7_become_21 : decode cX7_become 21 = .ok (.getfield 15, 3) := by decide +kernel
theorem dX7_become_24 : decode cX7_become 24 = .ok (.iconst 0, 1) := by decide +kernel
theorem dX7_become_25 : decode cX7_become 25 = .ok (.bipush 16, 2) := by decide +kernel
theorem dX7_become_27 : decode cX7_become 27 = .ok (.invokestatic 48, 3) := by decide +kernel
theorem dX7_become_30 : decode cX7_become 30 = .ok (.aload_n 1, 1) := by decide +kernel
theorem dX7_become_31 : decode cX7_become 31 = .ok (.getfield 18, 3) := by decide +kernel
theorem dX7_become_34 : decode cX7_become 34 = .ok (.iconst 0, 1) := by decide +kernel
theorem dX7_become_35 : decode cX7_become 35 = .ok (.aload_n 0, 1) := by decide +kernel
theorem dX7_become_36 : decode cX7_become 36 = .ok (.getfield 18, 3) := by decide +kernel
theorem dX7_become_39 : decode cX7_become 39 = .ok (.iconst 0, 1) := by decide +kernel
theorem dX7_become_40 : decode cX7_become 40 = .ok (.bipush 16, 2) := by decide +kernel
theorem dX7_become_42 : decode cX7_become 42 = .ok (.invokestatic 48, 3) := by decide +kernel
theorem dX7_become_45 : decode cX7_become 45 = .ok (.aload_n 1, 1) := by decide +kernel
theorem dX7_become_46 : decode cX7_become 46 = .ok (.getfield 21, 3) := by decide +kernel
theorem dX7_become_49 : decode cX7_become 49 = .ok (.iconst 0, 1) := by decide +kernel
theorem dX7_become_50 : decode cX7_become 50 = .ok (.aload_n 0, 1) := by decide +kernel
theorem dX7_become_51 : decode cX7_become 51 = .ok (.getfield 21, 3) := by decide +kernel
theorem dX7_become_54 : decode cX7_become 54 = .ok (.iconst 0, 1) := by decide +kernel
theorem dX7_become_55 : decode cX7_become 55 = .ok (.bipush 16, 2) := by decide +kernel
theorem dX7_become_57 : decode cX7_become 57 = .ok (.invokestatic 48, 3) := by decide +kernel
theorem dX7_become_60 : decode cX7_become 60 = .ok (.aload_n 0, 1) := by decide +kernel
theorem dX7_become_61 : decode cX7_become 61 = .ok (.aload_n 1, 1) := by decide +kernel
theorem dX7_become_62 : decode cX7_become 62 = .ok (.getfield 54, 3) := by decide +kernel
theorem dX7_become_65 : decode cX7_become 65 = .ok (.putfield 54, 3) := by decide +kernel
theorem dX7_become_68 : decode cX7_become 68 = .ok (.aload_n 0, 1) := by decide +kernel
theorem dX7_become_69 : decode cX7_become 69 = .ok (.aload_n 1, 1) := by decide +kernel
theorem dX7_become_70 : decode cX7_become 70 = .ok (.getfield 57, 3) := by decide +kernel
theorem dX7_become_73 : decode cX7_become 73 = .ok (.putfield 57, 3) := by decide +kernel
theorem dX7_become_76 : decode cX7_become 76 = .ok (.aload_n 0, 1) := by decide +kernel
theorem dX7_become_77 : decode cX7_become 77 = .ok (.getfield 27, 3) := by decide +kernel
theorem dX7_become_80 : decode cX7_become 80 = .ok (.aload_n 1, 1) := by decide +kernel
theorem dX7_become_81 : decode cX7_become 81 = .ok (.getfield 27, 3) := by decide +kernel
theorem dX7_become_84 : decode cX7_become 84 = .ok (.invokevirtual 60, 3) := by decide +kernel
theorem dX7_become_87 : decode cX7_become 87 = .ok (.aload_n 0, 1) := by decide +kernel
theorem dX7_become_88 : decode cX7_become 88 = .ok (.getfield 34, 3) := by decide +kernel
theorem dX7_become_91 : decode cX7_become 91 = .ok (.aload_n 1, 1) := by decide +kernel
theorem dX7_become_92 : decode cX7_become 92 = .ok (.getfield 34, 3) := by decide +kernel
theorem dX7_become_95 : decode cX7_become 95 = .ok (.invokevirtual 64, 3) := by decide +kernel
theorem dX7_become_98 : decode cX7_become 98 = .ok (.aload_n 0, 1) := by decide +kernel
theorem dX7_become_99 : decode cX7_become 99 = .ok (.aload_n 1, 1) := by decide +kernel
theorem dX7_become_100 : decode cX7_become 100 = .ok (.getfield 38, 3) := by decide +kernel
theorem dX7_become_103 : decode cX7_become 103 = .ok (.putfield 38, 3) := by decide +kernel
theorem dX7_become_106 : decode cX7_become 106 = .ok (.aload_n 0, 1) := by decide +kernel
theorem dX7_become_107 : decode cX7_become 107 = .ok (.aload_n 1, 1) := by decide +kernel
theorem dX7_become_108 : decode cX7_become 108 = .ok (.getfield 42, 3) := by decide +kernel
theorem dX7_become_111 : decode cX7_become 111 = .ok (.putfield 42, 3) := by decide +kernel
theorem dX7_become_114 : decode cX7_become 114 = .ok (.aload_n 0, 1) := by decide +kernel
theorem dX7_become_115 : decode cX7_become 115 = .ok (.aload_n 1, 1) := by decide +kernel
theorem dX7_become_116 : decode cX7_become 116 = .ok (.getfield 67, 3) := by decide +kernel
theorem dX7_become_119 : decode cX7_become 119 = .ok (.putfield 67, 3) := by decide +kernel
theorem dX7_become_122 : decode cX7_become 122 = .ok (.aload_n 0, 1) := by decide +kernel
theorem dX7_become_123 : decode cX7_become 123 = .ok (.aload_n 1, 1) := by decide +kernel
theorem dX7_become_124 : decode cX7_become 124 = .ok (.getfield 70, 3) := by decide +kernel
theorem dX7_become_127 : decode cX7_become 127 = .ok (.putfield 70, 3) := by decide +kernel
theorem dX7_become_130 : decode cX7_become 130 = .ok (.aload_n 0, 1) := by decide +kernel
theorem dX7_become_131 : decode cX7_become 131 = .ok (.aload_n 1, 1) := by decide +kernel
theorem dX7_become_132 : decode cX7_become 132 = .ok (.getfield 73, 3) := by decide +kernel
theorem dX7_become_135 : decode cX7_become 135 = .ok (.putfield 73, 3) := by decide +kernel
theorem dX7_become_138 : decode cX7_become 138 = .ok (.aload_n 0, 1) := by decide +kernel
theorem dX7_become_139 : decode cX7_become 139 = .ok (.aload_n 1, 1) := by decide +kernel
theorem dX7_become_140 : decode cX7_become 140 = .ok (.getfield 76, 3) := by decide +kernel
theorem dX7_become_143 : decode cX7_become 143 = .ok (.putfield 76, 3) := by decide +kernel
theorem dX7_become_146 : decode cX7_become 146 = .ok (.aload_n 0, 1) := by decide +kernel
theorem dX7_become_147 : decode cX7_become 147 = .ok (.aload_n 1, 1) := by decide +kernel
theorem dX7_become_148 : decode cX7_become 148 = .ok (.getfield 45, 3) := by decide +kernel
theorem dX7_become_151 : decode cX7_become 151 = .ok (.putfield 45, 3) := by decide +kernel
theorem dX7_become_154 : decode cX7_become 154 = .ok (.aload_n 0, 1) := by decide +kernel
theorem dX7_become_155 : decode cX7_become 155 = .ok (.aload_n 1, 1) := by decide +kernel
theorem dX7_become_156 : decode cX7_become 156 = .ok (.getfield 79, 3) := by decide +kernel
theorem dX7_become_159 : decode cX7_become 159 = .ok (.putfield 79, 3) := by decide +kernel
theorem dX7_become_162 : decode cX7_become 162 = .ok (.aload_n 0, 1) := by decide +kernel
theorem dX7_become_163 : decode cX7_become 163 = .ok (.aload_n 1, 1) := by decide +kernel
theorem dX7_become_164 : decode cX7_become 164 = .ok (.getfield 82, 3) := by decide +kernel
theorem dX7_become_167 : decode cX7_become 167 = .ok (.putfield 82, 3) := by decide +kernel
theorem dX7_become_170 : decode cX7_become 170 = .ok (.return_, 1) := by decide +kernel
theorem dX7_hasLadder_0 : decode cX7_hasLadder 0 = .ok (.aload_n 0, 1) := by decide +kernel
theorem dX7_hasLadder_1 : decode cX7_hasLadder 1 = .ok (.getfield 54, 3) := by decide +kernel
theorem dX7_hasLadder_4 : decode cX7_hasLadder 4 = .ok (.iload_n 1, 1) := by decide +kernel
theorem dX7_hasLadder_5 : decode cX7_hasLadder 5 = .ok (.invokestatic 85, 3) := by decide +kernel
theorem dX7_hasLadder_8 : decode cX7_hasLadder 8 = .ok (.ifCond .ne 7, 3) := by decide +kernel
theorem dX7_hasLadder_11 : decode cX7_hasLadder 11 = .ok (.iconst 1, 1) := by decide +kernel
theorem dX7_hasLadder_12 : decode cX7_hasLadder 12 = .ok (.goto 4, 3) := by decide +kernel
theorem dX7_hasLadder_15 : decode cX7_hasLadder 15 = .ok (.iconst 0, 1) := by decide +kernel
theorem dX7_hasLadder_16 : decode cX7_hasLadder 16 = .ok (.ireturn, 1) := by decide +kernel
theorem dX7_hasPin_0 : decode cX7_hasPin 0 = .ok (.aload_n 0, 1) := by decide +kernel
theorem dX7_hasPin_1 : decode cX7_hasPin 1 = .ok (.getfield 57, 3) := by decide +kernel
theorem dX7_hasPin_4 : decode cX7_hasPin 4 = .ok (.iload_n 1, 1) := by decide +kernel
theorem dX7_hasPin_5 : decode cX7_hasPin 5 = .ok (.invokestatic 85, 3) := by decide +kernel
theorem dX7_hasPin_8 : decode cX7_hasPin 8 = .ok (.ireturn, 1) := by decide +kernel
theorem dX7_free_0 : decode cX7_free 0 = .ok (.ldc 89, 2) := by decide +kernel
theorem dX7_free_2 : decode cX7_free 2 = .ok (.aload_n 0, 1) := by decide +kernel
theorem dX7_free_3 : decode cX7_free 3 = .ok (.getfield 54, 3) := by decide +kernel
theorem dX7_free_6 : decode cX7_free 6 = .ok (.iconst (-1), 1) := by decide +kernel
theorem dX7_free_7 : decode cX7_free 7 = .ok (.ixor, 1) := by decide +kernel
theorem dX7_free_8 : decode cX7_free 8 = .ok (.iand, 1) := by decide +kernel
theorem dX7_free_9 : decode cX7_free 9 = .ok (.aload_n 0, 1) := by decide +kernel
theorem dX7_free_10 : decode cX7_free 10 = .ok (.getfield 57, 3) := by decide +kernel
theorem dX7_free_13 : decode cX7_free 13 = .ok (.iconst (-1), 1) := by decide +kernel
theorem dX7_free_14 : decode cX7_free 14 = .ok (.ixor, 1) := by decide +kernel
theorem dX7_free_15 : decode cX7_free 15 = .ok (.iand, 1) := by decide +kernel
theorem dX7_free_16 : decode cX7_free 16 = .ok (.ireturn, 1) := by decide +kernel
theorem dX7_setPin_0 : decode cX7_setPin 0 = .ok (.aload_n 0, 1) := by decide +kernel
theorem dX7_setPin_1 : decode cX7_setPin 1 = .ok (.dup, 1) := by decide +kernel
theorem dX7_setPin_2 : decode cX7_setPin 2 = .ok (.getfield 57, 3) := by decide +kernel
theorem dX7_setPin_5 : decode cX7_setPin 5 = .ok (.iconst 1, 1) := by decide +kernel
theorem dX7_setPin_6 : decode cX7_setPin 6 = .ok (.iload_n 1, 1) := by decide +kernel
theorem dX7_setPin_7 : decode cX7_setPin 7 = .ok (.ishl, 1) := by decide +kernel
theorem dX7_setPin_8 : decode cX7_setPin 8 = .ok (.ior, 1) := by decide +kernel
theorem dX7_setPin_9 : decode cX7_setPin 9 = .ok (.putfield 57, 3) := by decide +kernel
theorem dX7_setPin_12 : decode cX7_setPin 12 = .ok (.aload_n 0, 1) := by decide +kernel
theorem dX7_setPin_13 : decode cX7_setPin 13 = .ok (.getfield 21, 3) := by decide +kernel
theorem dX7_setPin_16 : decode cX7_setPin 16 = .ok (.iload_n 1, 1) := by decide +kernel
theorem dX7_setPin_17 : decode cX7_setPin 17 = .ok (.iload_n 2, 1) := by decide +kernel
theorem dX7_setPin_18 : decode cX7_setPin 18 = .ok (.iastore, 1) := by decide +kernel
theorem dX7_setPin_19 : decode cX7_setPin 19 = .ok (.return_, 1) := by decide +kernel
theorem dX7_takePin_0 : decode cX7_takePin 0 = .ok (.aload_n 0, 1) := by decide +kernel
theorem dX7_takePin_1 : decode cX7_takePin 1 = .ok (.dup, 1) := by decide +kernel
theorem dX7_takePin_2 : decode cX7_takePin 2 = .ok (.getfield 57, 3) := by decide +kernel
theorem dX7_takePin_5 : decode cX7_takePin 5 = .ok (.iconst 1, 1) := by decide +kernel
theorem dX7_takePin_6 : decode cX7_takePin 6 = .ok (.iload_n 1, 1) := by decide +kernel
theorem dX7_takePin_7 : decode cX7_takePin 7 = .ok (.ishl, 1) := by decide +kernel
theorem dX7_takePin_8 : decode cX7_takePin 8 = .ok (.iconst (-1), 1) := by decide +kernel
theorem dX7_takePin_9 : decode cX7_takePin 9 = .ok (.ixor, 1) := by decide +kernel
theorem dX7_takePin_10 : decode cX7_takePin 10 = .ok (.iand, 1) := by decide +kernel
theorem dX7_takePin_11 : decode cX7_takePin 11 = .ok (.putfield 57, 3) := by decide +kernel
theorem dX7_takePin_14 : decode cX7_takePin 14 = .ok (.aload_n 0, 1) := by decide +kernel
theorem dX7_takePin_15 : decode cX7_takePin 15 = .ok (.getfield 21, 3) := by decide +kernel
theorem dX7_takePin_18 : decode cX7_takePin 18 = .ok (.iload_n 1, 1) := by decide +kernel
theorem dX7_takePin_19 : decode cX7_takePin 19 = .ok (.iconst 0, 1) := by decide +kernel
theorem dX7_takePin_20 : decode cX7_takePin 20 = .ok (.iastore, 1) := by decide +kernel
theorem dX7_takePin_21 : decode cX7_takePin 21 = .ok (.return_, 1) := by decide +kernel
theorem dX7_rustMore_0 : decode cX7_rustMore 0 = .ok (.aload_n 0, 1) := by decide +kernel
theorem dX7_rustMore_1 : decode cX7_rustMore 1 = .ok (.getfield 21, 3) := by decide +kernel
theorem dX7_rustMore_4 : decode cX7_rustMore 4 = .ok (.iload_n 1, 1) := by decide +kernel
theorem dX7_rustMore_5 : decode cX7_rustMore 5 = .ok (.aload_n 0, 1) := by decide +kernel
theorem dX7_rustMore_6 : decode cX7_rustMore 6 = .ok (.getfield 21, 3) := by decide +kernel
theorem dX7_rustMore_9 : decode cX7_rustMore 9 = .ok (.iload_n 1, 1) := by decide +kernel
theorem dX7_rustMore_10 : decode cX7_rustMore 10 = .ok (.iaload, 1) := by decide +kernel
theorem dX7_rustMore_11 : decode cX7_rustMore 11 = .ok (.iload_n 2, 1) := by decide +kernel
theorem dX7_rustMore_12 : decode cX7_rustMore 12 = .ok (.iadd, 1) := by decide +kernel
theorem dX7_rustMore_13 : decode cX7_rustMore 13 = .ok (.bipush 99, 2) := by decide +kernel
theorem dX7_rustMore_15 : decode cX7_rustMore 15 = .ok (.invokestatic 90, 3) := by decide +kernel
theorem dX7_rustMore_18 : decode cX7_rustMore 18 = .ok (.iastore, 1) := by decide +kernel
theorem dX7_rustMore_19 : decode cX7_rustMore 19 = .ok (.return_, 1) := by decide +kernel
theorem dX7_losePins_0 : decode cX7_losePins 0 = .ok (.iconst 0, 1) := by decide +kernel
theorem dX7_losePins_1 : decode cX7_losePins 1 = .ok (.istore_n 2, 1) := by decide +kernel
theorem dX7_losePins_2 : decode cX7_losePins 2 = .ok (.iload_n 2, 1) := by decide +kernel
theorem dX7_losePins_3 : decode cX7_losePins 3 = .ok (.bipush 16, 2) := by decide +kernel
theorem dX7_losePins_5 : decode cX7_losePins 5 = .ok (.if_icmp .ge 51, 3) := by decide +kernel
theorem dX7_losePins_8 : decode cX7_losePins 8 = .ok (.iload_n 1, 1) := by decide +kernel
theorem dX7_losePins_9 : decode cX7_losePins 9 = .ok (.iload_n 2, 1) := by decide +kernel
theorem dX7_losePins_10 : decode cX7_losePins 10 = .ok (.invokestatic 85, 3) := by decide +kernel
theorem dX7_losePins_13 : decode cX7_losePins 13 = .ok (.ifCond .eq 37, 3) := by decide +kernel
theorem dX7_losePins_16 : decode cX7_losePins 16 = .ok (.aload_n 0, 1) := by decide +kernel
theorem dX7_losePins_17 : decode cX7_losePins 17 = .ok (.getfield 34, 3) := by decide +kernel
theorem dX7_losePins_20 : decode cX7_losePins 20 = .ok (.aload_n 0, 1) := by decide +kernel
theorem dX7_losePins_21 : decode cX7_losePins 21 = .ok (.getfield 76, 3) := by decide +kernel
theorem dX7_losePins_24 : decode cX7_losePins 24 = .ok (.iload_n 2, 1) := by decide +kernel
theorem dX7_losePins_25 : decode cX7_losePins 25 = .ok (.iconst 3, 1) := by decide +kernel
theorem dX7_losePins_26 : decode cX7_losePins 26 = .ok (.aload_n 0, 1) := by decide +kernel
theorem dX7_losePins_27 : decode cX7_losePins 27 = .ok (.getfield 21, 3) := by decide +kernel
theorem dX7_losePins_30 : decode cX7_losePins 30 = .ok (.iload_n 2, 1) := by decide +kernel
theorem dX7_losePins_31 : decode cX7_losePins 31 = .ok (.iaload, 1) := by decide +kernel
theorem dX7_losePins_32 : decode cX7_losePins 32 = .ok (.invokevirtual 96, 3) := by decide +kernel
theorem dX7_losePins_35 : decode cX7_losePins 35 = .ok (.aload_n 0, 1) := by decide +kernel
theorem dX7_losePins_36 : decode cX7_losePins 36 = .ok (.iload_n 2, 1) := by decide +kernel
theorem dX7_losePins_37 : decode cX7_losePins 37 = .ok (.invokevirtual 100, 3) := by decide +kernel
theorem dX7_losePins_40 : decode cX7_losePins 40 = .ok (.aload_n 0, 1) := by decide +kernel
theorem dX7_losePins_41 : decode cX7_losePins 41 = .ok (.dup, 1) := by decide +kernel
theorem dX7_losePins_42 : decode cX7_losePins 42 = .ok (.getfield 79, 3) := by decide +kernel
theorem dX7_losePins_45 : decode cX7_losePins 45 = .ok (.iconst 1, 1) := by decide +kernel
theorem dX7_losePins_46 : decode cX7_losePins 46 = .ok (.iadd, 1) := by decide +kernel
theorem dX7_losePins_47 : decode cX7_losePins 47 = .ok (.putfield 79, 3) := by decide +kernel
theorem dX7_losePins_50 : decode cX7_losePins 50 = .ok (.iinc 2 1, 3) := by decide +kernel
theorem dX7_losePins_53 : decode cX7_losePins 53 = .ok (.goto (-51), 3) := by decide +kernel
theorem dX7_losePins_56 : decode cX7_losePins 56 = .ok (.return_, 1) := by decide +kernel
theorem dX7_endDay_0 : decode cX7_endDay 0 = .ok (.aload_n 0, 1) := by decide +kernel
theorem dX7_endDay_1 : decode cX7_endDay 1 = .ok (.aload_n 0, 1) := by decide +kernel
theorem dX7_endDay_2 : decode cX7_endDay 2 = .ok (.getfield 76, 3) := by decide +kernel
theorem dX7_endDay_5 : decode cX7_endDay 5 = .ok (.iconst 1, 1) := by decide +kernel
theorem dX7_endDay_6 : decode cX7_endDay 6 = .ok (.iadd, 1) := by decide +kernel
theorem dX7_endDay_7 : decode cX7_endDay 7 = .ok (.sipush 9999, 3) := by decide +kernel
theorem dX7_endDay_10 : decode cX7_endDay 10 = .ok (.invokestatic 90, 3) := by decide +kernel
theorem dX7_endDay_13 : decode cX7_endDay 13 = .ok (.putfield 76, 3) := by decide +kernel
theorem dX7_endDay_16 : decode cX7_endDay 16 = .ok (.return_, 1) := by decide +kernel
theorem dX7_draw_0 : decode cX7_draw 0 = .ok (.aload_n 0, 1) := by decide +kernel
theorem dX7_draw_1 : decode cX7_draw 1 = .ok (.ldc 104, 2) := by decide +kernel
theorem dX7_draw_3 : decode cX7_draw 3 = .ok (.aload_n 0, 1) := by decide +kernel
theorem dX7_draw_4 : decode cX7_draw 4 = .ok (.getfield 45, 3) := by decide +kernel
theorem dX7_draw_7 : decode cX7_draw 7 = .ok (.imul, 1) := by decide +kernel
theorem dX7_draw_8 : decode cX7_draw 8 = .ok (.sipush 12345, 3) := by decide +kernel
theorem dX7_draw_11 : decode cX7_draw 11 = .ok (.iadd, 1) := by decide +kernel
theorem dX7_draw_12 : decode cX7_draw 12 = .ok (.putfield 45, 3) := by decide +kernel
theorem dX7_draw_15 : decode cX7_draw 15 = .ok (.aload_n 0, 1) := by decide +kernel
theorem dX7_draw_16 : decode cX7_draw 16 = .ok (.getfield 45, 3) := by decide +kernel
theorem dX7_draw_19 : decode cX7_draw 19 = .ok (.bipush 16, 2) := by decide +kernel
theorem dX7_draw_21 : decode cX7_draw 21 = .ok (.iushr, 1) := by decide +kernel
theorem dX7_draw_22 : decode cX7_draw 22 = .ok (.sipush 32767, 3) := by decide +kernel
theorem dX7_draw_25 : decode cX7_draw 25 = .ok (.iand, 1) := by decide +kernel
theorem dX7_draw_26 : decode cX7_draw 26 = .ok (.ireturn, 1) := by decide +kernel
theorem dX7_skyAt_0 : decode cX7_skyAt 0 = .ok (.iload_n 2, 1) := by decide +kernel
theorem dX7_skyAt_1 : decode cX7_skyAt 1 = .ok (.ifCond .ne 5, 3) := by decide +kernel
theorem dX7_skyAt_4 : decode cX7_skyAt 4 = .ok (.iconst 0, 1) := by decide +kernel
theorem dX7_skyAt_5 : decode cX7_skyAt 5 = .ok (.ireturn, 1) := by decide +kernel
theorem dX7_skyAt_6 : decode cX7_skyAt 6 = .ok (.iconst 0, 1) := by decide +kernel
theorem dX7_skyAt_7 : decode cX7_skyAt 7 = .ok (.iload_n 3, 1) := by decide +kernel
theorem dX7_skyAt_8 : decode cX7_skyAt 8 = .ok (.iload 4, 2) := by decide +kernel
theorem dX7_skyAt_10 : decode cX7_skyAt 10 = .ok (.iload_n 2, 1) := by decide +kernel
theorem dX7_skyAt_11 : decode cX7_skyAt 11 = .ok (.iload_n 1, 1) := by decide +kernel
theorem dX7_skyAt_12 : decode cX7_skyAt 12 = .ok (.invokestatic 105, 3) := by decide +kernel
theorem dX7_skyAt_15 : decode cX7_skyAt 15 = .ok (.imul, 1) := by decide +kernel
theorem dX7_skyAt_16 : decode cX7_skyAt 16 = .ok (.isub, 1) := by decide +kernel
theorem dX7_skyAt_17 : decode cX7_skyAt 17 = .ok (.invokestatic 108, 3) := by decide +kernel
theorem dX7_skyAt_20 : decode cX7_skyAt 20 = .ok (.istore 5, 2) := by decide +kernel
theorem dX7_skyAt_22 : decode cX7_skyAt 22 = .ok (.iconst 0, 1) := by decide +kernel
theorem dX7_skyAt_23 : decode cX7_skyAt 23 = .ok (.iload 5, 2) := by decide +kernel
theorem dX7_skyAt_25 : decode cX7_skyAt 25 = .ok (.iconst 2, 1) := by decide +kernel
theorem dX7_skyAt_26 : decode cX7_skyAt 26 = .ok (.aload_n 0, 1) := by decide +kernel
theorem dX7_skyAt_27 : decode cX7_skyAt 27 = .ok (.getfield 18, 3) := by decide +kernel
theorem dX7_skyAt_30 : decode cX7_skyAt 30 = .ok (.iload_n 1, 1) := by decide +kernel
theorem dX7_skyAt_31 : decode cX7_skyAt 31 = .ok (.iaload, 1) := by decide +kernel
theorem dX7_skyAt_32 : decode cX7_skyAt 32 = .ok (.imul, 1) := by decide +kernel
theorem dX7_skyAt_33 : decode cX7_skyAt 33 = .ok (.isub, 1) := by decide +kernel
theorem dX7_skyAt_34 : decode cX7_skyAt 34 = .ok (.invokestatic 108, 3) := by decide +kernel
theorem dX7_skyAt_37 : decode cX7_skyAt 37 = .ok (.ireturn, 1) := by decide +kernel
theorem dX7_standing_0 : decode cX7_standing 0 = .ok (.iconst 0, 1) := by decide +kernel
theorem dX7_standing_1 : decode cX7_standing 1 = .ok (.istore 4, 2) := by decide +kernel
theorem dX7_standing_3 : decode cX7_standing 3 = .ok (.iconst 0, 1) := by decide +kernel
theorem dX7_standing_4 : decode cX7_standing 4 = .ok (.istore 5, 2) := by decide +kernel
theorem dX7_standing_6 : decode cX7_standing 6 = .ok (.iload 5, 2) := by decide +kernel
theorem dX7_standing_8 : decode cX7_standing 8 = .ok (.bipush 16, 2) := by decide +kernel
theorem dX7_standing_10 : decode cX7_standing 10 = .ok (.if_icmp .ge 45, 3) := by decide +kernel
theorem dX7_standing_13 : decode cX7_standing 13 = .ok (.aload_n 0, 1) := by decide +kernel
theorem dX7_standing_14 : decode cX7_standing 14 = .ok (.iload 5, 2) := by decide +kernel
theorem dX7_standing_16 : decode cX7_standing 16 = .ok (.iload_n 1, 1) := by decide +kernel
theorem dX7_standing_17 : decode cX7_standing 17 = .ok (.iload_n 2, 1) := by decide +kernel
theorem dX7_standing_18 : decode cX7_standing 18 = .ok (.iload_n 3, 1) := by decide +kernel
theorem dX7_standing_19 : decode cX7_standing 19 = .ok (.invokevirtual 111, 3) := by decide +kernel
theorem dX7_standing_22 : decode cX7_standing 22 = .ok (.aload_n 0, 1) := by decide +kernel
theorem dX7_standing_23 : decode cX7_standing 23 = .ok (.getfield 9, 3) := by decide +kernel
theorem dX7_standing_26 : decode cX7_standing 26 = .ok (.iload 5, 2) := by decide +kernel
theorem dX7_standing_28 : decode cX7_standing 28 = .ok (.iaload, 1) := by decide +kernel
theorem dX7_standing_29 : decode cX7_standing 29 = .ok (.isub, 1) := by decide +kernel
theorem dX7_standing_30 : decode cX7_standing 30 = .ok (.aload_n 0, 1) := by decide +kernel
theorem dX7_standing_31 : decode cX7_standing 31 = .ok (.getfield 15, 3) := by decide +kernel
theorem dX7_standing_34 : decode cX7_standing 34 = .ok (.iload 5, 2) := by decide +kernel
theorem dX7_standing_36 : decode cX7_standing 36 = .ok (.iaload, 1) := by decide +kernel
theorem dX7_standing_37 : decode cX7_standing 37 = .ok (.if_icmp .lt 12, 3) := by decide +kernel
theorem dX7_standing_40 : decode cX7_standing 40 = .ok (.iload 4, 2) := by decide +kernel
theorem dX7_standing_42 : decode cX7_standing 42 = .ok (.iconst 1, 1) := by decide +kernel
theorem dX7_standing_43 : decode cX7_standing 43 = .ok (.iload 5, 2) := by decide +kernel
theorem dX7_standing_45 : decode cX7_standing 45 = .ok (.ishl, 1) := by decide +kernel
theorem dX7_standing_46 : decode cX7_standing 46 = .ok (.ior, 1) := by decide +kernel
theorem dX7_standing_47 : decode cX7_standing 47 = .ok (.istore 4, 2) := by decide +kernel
theorem dX7_standing_49 : decode cX7_standing 49 = .ok (.iinc 5 1, 3) := by decide +kernel
theorem dX7_standing_52 : decode cX7_standing 52 = .ok (.goto (-46), 3) := by decide +kernel
theorem dX7_standing_55 : decode cX7_standing 55 = .ok (.iload 4, 2) := by decide +kernel
theorem dX7_standing_57 : decode cX7_standing 57 = .ok (.ireturn, 1) := by decide +kernel
theorem dX8_init_0 : decode cX8_init 0 = .ok (.aload_n 0, 1) := by decide +kernel
theorem dX8_init_1 : decode cX8_init 1 = .ok (.invokespecial 3, 3) := by decide +kernel
theorem dX8_init_4 : decode cX8_init 4 = .ok (.aload_n 0, 1) := by decide +kernel
theorem dX8_init_5 : decode cX8_init 5 = .ok (.new 9, 3) := by decide +kernel
theorem dX8_init_8 : decode cX8_init 8 = .ok (.dup, 1) := by decide +kernel
theorem dX8_init_9 : decode cX8_init 9 = .ok (.invokespecial 11, 3) := by decide +kernel
theorem dX8_init_12 : decode cX8_init 12 = .ok (.putfield 12, 3) := by decide +kernel
theorem dX8_init_15 : decode cX8_init 15 = .ok (.return_, 1) := by decide +kernel
theorem dX8_takeLine_0 : decode cX8_takeLine 0 = .ok (.aload_n 1, 1) := by decide +kernel
theorem dX8_takeLine_1 : decode cX8_takeLine 1 = .ok (.ldc 18, 2) := by decide +kernel
theorem dX8_takeLine_3 : decode cX8_takeLine 3 = .ok (.invokevirtual 20, 3) := by decide +kernel
theorem dX8_takeLine_6 : decode cX8_takeLine 6 = .ok (.ifCond .eq 11, 3) := by decide +kernel
theorem dX8_takeLine_9 : decode cX8_takeLine 9 = .ok (.aload_n 0, 1) := by decide +kernel
theorem dX8_takeLine_10 : decode cX8_takeLine 10 = .ok (.aload_n 1, 1) := by decide +kernel
theorem dX8_takeLine_11 : decode cX8_takeLine 11 = .ok (.invokevirtual 26, 3) := by decide +kernel
theorem dX8_takeLine_14 : decode cX8_takeLine 14 = .ok (.goto 120, 3) := by decide +kernel
theorem dX8_takeLine_17 : decode cX8_takeLine 17 = .ok (.aload_n 1, 1) := by decide +kernel
theorem dX8_takeLine_18 : decode cX8_takeLine 18 = .ok (.ldc 30, 2) := by decide +kernel
theorem dX8_takeLine_20 : decode cX8_takeLine 20 = .ok (.invokevirtual 20, 3) := by decide +kernel
theorem dX8_takeLine_23 : decode cX8_takeLine 23 = .ok (.ifCond .eq 20, 3) := by decide +kernel
theorem dX8_takeLine_26 : decode cX8_takeLine 26 = .ok (.aload_n 0, 1) := by decide +kernel
theorem dX8_takeLine_27 : decode cX8_takeLine 27 = .ok (.aload_n 1, 1) := by decide +kernel
theorem dX8_takeLine_28 : decode cX8_takeLine 28 = .ok (.aload_n 0, 1) := by decide +kernel
theorem dX8_takeLine_29 : decode cX8_takeLine 29 = .ok (.getfield 12, 3) := by decide +kernel
theorem dX8_takeLine_32 : decode cX8_takeLine 32 = .ok (.getfield 32, 3) := by decide +kernel
theorem dX8_takeLine_35 : decode cX8_takeLine 35 = .ok (.bipush 9, 2) := by decide +kernel
theorem dX8_takeLine_37 : decode cX8_takeLine 37 = .ok (.invokevirtual 35, 3) := by decide +kernel
theorem dX8_takeLine_40 : decode cX8_takeLine 40 = .ok (.goto 94, 3) := by decide +kernel
theorem dX8_takeLine_43 : decode cX8_takeLine 43 = .ok (.aload_n 1, 1) := by decide +kernel
theorem dX8_takeLine_44 : decode cX8_takeLine 44 = .ok (.ldc 39, 2) := by decide +kernel
theorem dX8_takeLine_46 : decode cX8_takeLine 46 = .ok (.invokevirtual 20, 3) := by decide +kernel
theorem dX8_takeLine_49 : decode cX8_takeLine 49 = .ok (.ifCond .eq 20, 3) := by decide +kernel
theorem dX8_takeLine_52 : decode cX8_takeLine 52 = .ok (.aload_n 0, 1) := by decide +kernel
theorem dX8_takeLine_53 : decode cX8_takeLine 53 = .ok (.aload_n 1, 1) := by decide +kernel
theorem dX8_takeLine_54 : decode cX8_takeLine 54 = .ok (.aload_n 0, 1) := by decide +kernel
theorem dX8_takeLine_55 : decode cX8_takeLine 55 = .ok (.getfield 12, 3) := by decide +kernel
theorem dX8_takeLine_58 : decode cX8_takeLine 58 = .ok (.getfield 41, 3) := by decide +kernel
theorem dX8_takeLine_61 : decode cX8_takeLine 61 = .ok (.bipush 20, 2) := by decide +kernel
theorem dX8_takeLine_63 : decode cX8_takeLine 63 = .ok (.invokevirtual 35, 3) := by decide +kernel
theorem dX8_takeLine_66 : decode cX8_takeLine 66 = .ok (.goto 68, 3) := by decide +kernel
theorem dX8_takeLine_69 : decode cX8_takeLine 69 = .ok (.aload_n 1, 1) := by decide +kernel
theorem dX8_takeLine_70 : decode cX8_takeLine 70 = .ok (.ldc 43, 2) := by decide +kernel
theorem dX8_takeLine_72 : decode cX8_takeLine 72 = .ok (.invokevirtual 20, 3) := by decide +kernel
theorem dX8_takeLine_75 : decode cX8_takeLine 75 = .ok (.ifCond .eq 20, 3) := by decide +kernel
theorem dX8_takeLine_78 : decode cX8_takeLine 78 = .ok (.aload_n 0, 1) := by decide +kernel
theorem dX8_takeLine_79 : decode cX8_takeLine 79 = .ok (.aload_n 1, 1) := by decide +kernel
theorem dX8_takeLine_80 : decode cX8_takeLine 80 = .ok (.aload_n 0, 1) := by decide +kernel
theorem dX8_takeLine_81 : decode cX8_takeLine 81 = .ok (.getfield 12, 3) := by decide +kernel
theorem dX8_takeLine_84 : decode cX8_takeLine 84 = .ok (.getfield 45, 3) := by decide +kernel
theorem dX8_takeLine_87 : decode cX8_takeLine 87 = .ok (.bipush 9, 2) := by decide +kernel
theorem dX8_takeLine_89 : decode cX8_takeLine 89 = .ok (.invokevirtual 35, 3) := by decide +kernel
theorem dX8_takeLine_92 : decode cX8_takeLine 92 = .ok (.goto 42, 3) := by decide +kernel
theorem dX8_takeLine_95 : decode cX8_takeLine 95 = .ok (.aload_n 1, 1) := by decide +kernel
theorem dX8_takeLine_96 : decode cX8_takeLine 96 = .ok (.ldc 47, 2) := by decide +kernel
theorem dX8_takeLine_98 : decode cX8_takeLine 98 = .ok (.invokevirtual 20, 3) := by decide +kernel
theorem dX8_takeLine_101 : decode cX8_takeLine 101 = .ok (.ifCond .eq 11, 3) := by decide +kernel
theorem dX8_takeLine_104 : decode cX8_takeLine 104 = .ok (.aload_n 0, 1) := by decide +kernel
theorem dX8_takeLine_105 : decode cX8_takeLine 105 = .ok (.aload_n 1, 1) := by decide +kernel
theorem dX8_takeLine_106 : decode cX8_takeLine 106 = .ok (.invokevirtual 49, 3) := by decide +kernel
theorem dX8_takeLine_109 : decode cX8_takeLine 109 = .ok (.goto 25, 3) := by decide +kernel
theorem dX8_takeLine_112 : decode cX8_takeLine 112 = .ok (.aload_n 1, 1) := by decide +kernel
theorem dX8_takeLine_113 : decode cX8_takeLine 113 = .ok (.ldc 52, 2) := by decide +kernel
theorem dX8_takeLine_115 : decode cX8_takeLine 115 = .ok (.invokevirtual 20, 3) := by decide +kernel
theorem dX8_takeLine_118 : decode cX8_takeLine 118 = .ok (.ifCond .eq 11, 3) := by decide +kernel
theorem dX8_takeLine_121 : decode cX8_takeLine 121 = .ok (.aload_n 0, 1) := by decide +kernel
theorem dX8_takeLine_122 : decode cX8_takeLine 122 = .ok (.aload_n 1, 1) := by decide +kernel
theorem dX8_takeLine_123 : decode cX8_takeLine 123 = .ok (.invokevirtual 54, 3) := by decide +kernel
theorem dX8_takeLine_126 : decode cX8_takeLine 126 = .ok (.goto 8, 3) := by decide +kernel
theorem dX8_takeLine_129 : decode cX8_takeLine 129 = .ok (.aload_n 0, 1) := by decide +kernel
theorem dX8_takeLine_130 : decode cX8_takeLine 130 = .ok (.aload_n 1, 1) := by decide +kernel
theorem dX8_takeLine_131 : decode cX8_takeLine 131 = .ok (.invokevirtual 57, 3) := by decide +kernel
theorem dX8_takeLine_134 : decode cX8_takeLine 134 = .ok (.return_, 1) := by decide +kernel
theorem dX8_takeSkyValue_0 : decode cX8_takeSkyValue 0 = .ok (.aload_n 1, 1) := by decide +kernel
theorem dX8_takeSkyValue_1 : decode cX8_takeSkyValue 1 = .ok (.ldc 60, 2) := by decide +kernel
theorem dX8_takeSkyValue_3 : decode cX8_takeSkyValue 3 = .ok (.invokevirtual 20, 3) := by decide +kernel
theorem dX8_takeSkyValue_6 : decode cX8_takeSkyValue 6 = .ok (.ifCond .eq 20, 3) := by decide +kernel
theorem dX8_takeSkyValue_9 : decode cX8_takeSkyValue 9 = .ok (.aload_n 0, 1) := by decide +kernel
theorem dX8_takeSkyValue_10 : decode cX8_takeSkyValue 10 = .ok (.getfield 12, 3) := by decide +kernel
theorem dX8_takeSkyValue_13 : decode cX8_takeSkyValue 13 = .ok (.aload_n 1, 1) := by decide +kernel
theorem dX8_takeSkyValue_14 : decode cX8_takeSkyValue 14 = .ok (.iconst 1, 1) := by decide +kernel
theorem dX8_takeSkyValue_15 : decode cX8_takeSkyValue 15 = .ok (.bipush 40, 2) := by decide +kernel
theorem dX8_takeSkyValue_17 : decode cX8_takeSkyValue 17 = .ok (.invokevirtual 62, 3) := by decide +kernel
theorem dX8_takeSkyValue_20 : decode cX8_takeSkyValue 20 = .ok (.putfield 66, 3) := by decide +kernel
theorem dX8_takeSkyValue_23 : decode cX8_takeSkyValue 23 = .ok (.goto 112, 3) := by decide +kernel
theorem dX8_takeSkyValue_26 : decode cX8_takeSkyValue 26 = .ok (.aload_n 1, 1) := by decide +kernel
theorem dX8_takeSkyValue_27 : decode cX8_takeSkyValue 27 = .ok (.ldc 69, 2) := by decide +kernel
theorem dX8_takeSkyValue_29 : decode cX8_takeSkyValue 29 = .ok (.invokevirtual 20, 3) := by decide +kernel
theorem dX8_takeSkyValue_32 : decode cX8_takeSkyValue 32 = .ok (.ifCond .eq 20, 3) := by decide +kernel
theorem dX8_takeSkyValue_35 : decode cX8_takeSkyValue 35 = .ok (.aload_n 0, 1) := by decide +kernel
theorem dX8_takeSkyValue_36 : decode cX8_takeSkyValue 36 = .ok (.getfield 12, 3) := by decide +kernel
theorem dX8_takeSkyValue_39 : decode cX8_takeSkyValue 39 = .ok (.aload_n 1, 1) := by decide +kernel
theorem dX8_takeSkyValue_40 : decode cX8_takeSkyValue 40 = .ok (.iconst 0, 1) := by decide +kernel
theorem dX8_takeSkyValue_41 : decode cX8_takeSkyValue 41 = .ok (.bipush 9, 2) := by decide +kernel
theorem dX8_takeSkyValue_43 : decode cX8_takeSkyValue 43 = .ok (.invokevirtual 62, 3) := by decide +kernel
theorem dX8_takeSkyValue_46 : decode cX8_takeSkyValue 46 = .ok (.putfield 71, 3) := by decide +kernel
theorem dX8_takeSkyValue_49 : decode cX8_takeSkyValue 49 = .ok (.goto 86, 3) := by decide +kernel
theorem dX8_takeSkyValue_52 : decode cX8_takeSkyValue 52 = .ok (.aload_n 1, 1) := by decide +kernel
theorem dX8_takeSkyValue_53 : decode cX8_takeSkyValue 53 = .ok (.ldc 73, 2) := by decide +kernel
theorem dX8_takeSkyValue_55 : decode cX8_takeSkyValue 55 = .ok (.invokevirtual 20, 3) := by decide +kernel
theorem dX8_takeSkyValue_58 : decode cX8_takeSkyValue 58 = .ok (.ifCond .eq 20, 3) := by decide +kernel
theorem dX8_takeSkyValue_61 : decode cX8_takeSkyValue 61 = .ok (.aload_n 0, 1) := by decide +kernel
theorem dX8_takeSkyValue_62 : decode cX8_takeSkyValue 62 = .ok (.getfield 12, 3) := by decide +kernel
theorem dX8_takeSkyValue_65 : decode cX8_takeSkyValue 65 = .ok (.aload_n 1, 1) := by decide +kernel
theorem dX8_takeSkyValue_66 : decode cX8_takeSkyValue 66 = .ok (.iconst 0, 1) := by decide +kernel
theorem dX8_takeSkyValue_67 : decode cX8_takeSkyValue 67 = .ok (.bipush 100, 2) := by decide +kernel
theorem dX8_takeSkyValue_69 : decode cX8_takeSkyValue 69 = .ok (.invokevirtual 62, 3) := by decide +kernel
theorem dX8_takeSkyValue_72 : decode cX8_takeSkyValue 72 = .ok (.putfield 75, 3) := by decide +kernel
theorem dX8_takeSkyValue_75 : decode cX8_takeSkyValue 75 = .ok (.goto 60, 3) := by decide +kernel
theorem dX8_takeSkyValue_78 : decode cX8_takeSkyValue 78 = .ok (.aload_n 1, 1) := by decide +kernel
theorem dX8_takeSkyValue_79 : decode cX8_takeSkyValue 79 = .ok (.ldc 77, 2) := by decide +kernel
theorem dX8_takeSkyValue_81 : decode cX8_takeSkyValue 81 = .ok (.invokevirtual 20, 3) := by decide +kernel
theorem dX8_takeSkyValue_84 : decode cX8_takeSkyValue 84 = .ok (.ifCond .eq 20, 3) := by decide +kernel
theorem dX8_takeSkyValue_87 : decode cX8_takeSkyValue 87 = .ok (.aload_n 0, 1) := by decide +kernel
theorem dX8_takeSkyValue_88 : decode cX8_takeSkyValue 88 = .ok (.getfield 12, 3) := by decide +kernel
theorem dX8_takeSkyValue_91 : decode cX8_takeSkyValue 91 = .ok (.aload_n 1, 1) := by decide +kernel
theorem dX8_takeSkyValue_92 : decode cX8_takeSkyValue 92 = .ok (.iconst 0, 1) := by decide +kernel
theorem dX8_takeSkyValue_93 : decode cX8_takeSkyValue 93 = .ok (.bipush 100, 2) := by decide +kernel
theorem dX8_takeSkyValue_95 : decode cX8_takeSkyValue 95 = .ok (.invokevirtual 62, 3) := by decide +kernel
theorem dX8_takeSkyValue_98 : decode cX8_takeSkyValue 98 = .ok (.putfield 79, 3) := by decide +kernel
theorem dX8_takeSkyValue_101 : decode cX8_takeSkyValue 101 = .ok (.goto 34, 3) := by decide +kernel
theorem dX8_takeSkyValue_104 : decode cX8_takeSkyValue 104 = .ok (.aload_n 1, 1) := by decide +kernel
theorem dX8_takeSkyValue_105 : decode cX8_takeSkyValue 105 = .ok (.ldc 81, 2) := by decide +kernel
theorem dX8_takeSkyValue_107 : decode cX8_takeSkyValue 107 = .ok (.invokevirtual 20, 3) := by decide +kernel
theorem dX8_takeSkyValue_110 : decode cX8_takeSkyValue 110 = .ok (.ifCond .eq 21, 3) := by decide +kernel
theorem dX8_takeSkyValue_113 : decode cX8_takeSkyValue 113 = .ok (.aload_n 0, 1) := by decide +kernel
theorem dX8_takeSkyValue_114 : decode cX8_takeSkyValue 114 = .ok (.getfield 12, 3) := by decide +kernel
theorem dX8_takeSkyValue_117 : decode cX8_takeSkyValue 117 = .ok (.aload_n 1, 1) := by decide +kernel
theorem dX8_takeSkyValue_118 : decode cX8_takeSkyValue 118 = .ok (.iconst 0, 1) := by decide +kernel
theorem dX8_takeSkyValue_119 : decode cX8_takeSkyValue 119 = .ok (.sipush 999, 3) := by decide +kernel
theorem dX8_takeSkyValue_122 : decode cX8_takeSkyValue 122 = .ok (.invokevirtual 62, 3) := by decide +kernel
theorem dX8_takeSkyValue_125 : decode cX8_takeSkyValue 125 = .ok (.putfield 83, 3) := by decide +kernel
theorem dX8_takeSkyValue_128 : decode cX8_takeSkyValue 128 = .ok (.goto 7, 3) := by decide +kernel
theorem dX8_takeSkyValue_131 : decode cX8_takeSkyValue 131 = .ok (.aload_n 1, 1) := by decide +kernel
theorem dX8_takeSkyValue_132 : decode cX8_takeSkyValue 132 = .ok (.invokevirtual 85, 3) := by decide +kernel
theorem dX8_takeSkyValue_135 : decode cX8_takeSkyValue 135 = .ok (.return_, 1) := by decide +kernel
theorem dX8_takePin_0 : decode cX8_takePin 0 = .ok (.aload_n 1, 1) := by decide +kernel
theorem dX8_takePin_1 : decode cX8_takePin 1 = .ok (.iconst 0, 1) := by decide +kernel
theorem dX8_takePin_2 : decode cX8_takePin 2 = .ok (.bipush 15, 2) := by decide +kernel
theorem dX8_takePin_4 : decode cX8_takePin 4 = .ok (.invokevirtual 62, 3) := by decide +kernel
theorem dX8_takePin_7 : decode cX8_takePin 7 = .ok (.istore_n 2, 1) := by decide +kernel
theorem dX8_takePin_8 : decode cX8_takePin 8 = .ok (.iload_n 2, 1) := by decide +kernel
theorem dX8_takePin_9 : decode cX8_takePin 9 = .ok (.iconst (-1), 1) := by decide +kernel
theorem dX8_takePin_10 : decode cX8_takePin 10 = .ok (.if_icmp .ne 4, 3) := by decide +kernel
theorem dX8_takePin_13 : decode cX8_takePin 13 = .ok (.return_, 1) := by decide +kernel
theorem dX8_takePin_14 : decode cX8_takePin 14 = .ok (.aload_n 0, 1) := by decide +kernel
theorem dX8_takePin_15 : decode cX8_takePin 15 = .ok (.getfield 12, 3) := by decide +kernel
theorem dX8_takePin_18 : decode cX8_takePin 18 = .ok (.iload_n 2, 1) := by decide +kernel
theorem dX8_takePin_19 : decode cX8_takePin 19 = .ok (.invokevirtual 88, 3) := by decide +kernel
theorem dX8_takePin_22 : decode cX8_takePin 22 = .ok (.ifCond .eq 8, 3) := by decide +kernel
theorem dX8_takePin_25 : decode cX8_takePin 25 = .ok (.aload_n 1, 1) := by decide +kernel
theorem dX8_takePin_26 : decode cX8_takePin 26 = .ok (.invokevirtual 92, 3) := by decide +kernel
theorem dX8_takePin_29 : decode cX8_takePin 29 = .ok (.return_, 1) := by decide +kernel
theorem dX8_takePin_30 : decode cX8_takePin 30 = .ok (.iconst 0, 1) := by decide +kernel
theorem dX8_takePin_31 : decode cX8_takePin 31 = .ok (.istore_n 3, 1) := by decide +kernel
theorem dX8_takePin_32 : decode cX8_takePin 32 = .ok (.aload_n 1, 1) := by decide +kernel
theorem dX8_takePin_33 : decode cX8_takePin 33 = .ok (.ldc 95, 2) := by decide +kernel
theorem dX8_takePin_35 : decode cX8_takePin 35 = .ok (.invokevirtual 20, 3) := by decide +kernel
theorem dX8_takePin_38 : decode cX8_takePin 38 = .ok (.ifCond .eq 11, 3) := by decide +kernel
theorem dX8_takePin_41 : decode cX8_takePin 41 = .ok (.aload_n 1, 1) := by decide +kernel
theorem dX8_takePin_42 : decode cX8_takePin 42 = .ok (.iconst 0, 1) := by decide +kernel
theorem dX8_takePin_43 : decode cX8_takePin 43 = .ok (.bipush 99, 2) := by decide +kernel
theorem dX8_takePin_45 : decode cX8_takePin 45 = .ok (.invokevirtual 62, 3) := by decide +kernel
theorem dX8_takePin_48 : decode cX8_takePin 48 = .ok (.istore_n 3, 1) := by decide +kernel
theorem dX8_takePin_49 : decode cX8_takePin 49 = .ok (.aload_n 0, 1) := by decide +kernel
theorem dX8_takePin_50 : decode cX8_takePin 50 = .ok (.getfield 12, 3) := by decide +kernel
theorem dX8_takePin_53 : decode cX8_takePin 53 = .ok (.iload_n 2, 1) := by decide +kernel
theorem dX8_takePin_54 : decode cX8_takePin 54 = .ok (.iload_n 3, 1) := by decide +kernel
theorem dX8_takePin_55 : decode cX8_takePin 55 = .ok (.invokevirtual 97, 3) := by decide +kernel
theorem dX8_takePin_58 : decode cX8_takePin 58 = .ok (.return_, 1) := by decide +kernel
theorem dX8_takePlaceValue_0 : decode cX8_takePlaceValue 0 = .ok (.aload_n 1, 1) := by decide +kernel
theorem dX8_takePlaceValue_1 : decode cX8_takePlaceValue 1 = .ok (.iconst 0, 1) := by decide +kernel
theorem dX8_takePlaceValue_2 : decode cX8_takePlaceValue 2 = .ok (.bipush 15, 2) := by decide +kernel
theorem dX8_takePlaceValue_4 : decode cX8_takePlaceValue 4 = .ok (.invokevirtual 62, 3) := by decide +kernel
theorem dX8_takePlaceValue_7 : decode cX8_takePlaceValue 7 = .ok (.istore 4, 2) := by decide +kernel
theorem dX8_takePlaceValue_9 : decode cX8_takePlaceValue 9 = .ok (.aload_n 1, 1) := by decide +kernel
theorem dX8_takePlaceValue_10 : decode cX8_takePlaceValue 10 = .ok (.iconst 0, 1) := by decide +kernel
theorem dX8_takePlaceValue_11 : decode cX8_takePlaceValue 11 = .ok (.iload_n 3, 1) := by decide +kernel
theorem dX8_takePlaceValue_12 : decode cX8_takePlaceValue 12 = .ok (.invokevirtual 62, 3) := by decide +kernel
theorem dX8_takePlaceValue_15 : decode cX8_takePlaceValue 15 = .ok (.istore 5, 2) := by decide +kernel
theorem dX8_takePlaceValue_17 : decode cX8_takePlaceValue 17 = .ok (.iload 4, 2) := by decide +kernel
theorem dX8_takePlaceValue_19 : decode cX8_takePlaceValue 19 = .ok (.iconst (-1), 1) := by decide +kernel
theorem dX8_takePlaceValue_20 : decode cX8_takePlaceValue 20 = .ok (.if_icmp .eq 9, 3) := by decide +kernel
theorem dX8_takePlaceValue_23 : decode cX8_takePlaceValue 23 = .ok (.aload_n 2, 1) := by decide +kernel
theorem dX8_takePlaceValue_24 : decode cX8_takePlaceValue 24 = .ok (.iload 4, 2) := by decide +kernel
theorem dX8_takePlaceValue_26 : decode cX8_takePlaceValue 26 = .ok (.iload 5, 2) := by decide +kernel
theorem dX8_takePlaceValue_28 : decode cX8_takePlaceValue 28 = .ok (.iastore, 1) := by decide +kernel
theorem dX8_takePlaceValue_29 : decode cX8_takePlaceValue 29 = .ok (.return_, 1) := by decide +kernel
theorem dX8_takeBare_0 : decode cX8_takeBare 0 = .ok (.aload_n 1, 1) := by decide +kernel
theorem dX8_takeBare_1 : decode cX8_takeBare 1 = .ok (.iconst 0, 1) := by decide +kernel
theorem dX8_takeBare_2 : decode cX8_takeBare 2 = .ok (.bipush 15, 2) := by decide +kernel
theorem dX8_takeBare_4 : decode cX8_takeBare 4 = .ok (.invokevirtual 62, 3) := by decide +kernel
theorem dX8_takeBare_7 : decode cX8_takeBare 7 = .ok (.istore_n 2, 1) := by decide +kernel
theorem dX8_takeBare_8 : decode cX8_takeBare 8 = .ok (.iload_n 2, 1) := by decide +kernel
theorem dX8_takeBare_9 : decode cX8_takeBare 9 = .ok (.iconst (-1), 1) := by decide +kernel
theorem dX8_takeBare_10 : decode cX8_takeBare 10 = .ok (.if_icmp .eq 18, 3) := by decide +kernel
theorem dX8_takeBare_13 : decode cX8_takeBare 13 = .ok (.aload_n 0, 1) := by decide +kernel
theorem dX8_takeBare_14 : decode cX8_takeBare 14 = .ok (.getfield 12, 3) := by decide +kernel
theorem dX8_takeBare_17 : decode cX8_takeBare 17 = .ok (.dup, 1) := by decide +kernel
theorem dX8_takeBare_18 : decode cX8_takeBare 18 = .ok (.getfield 101, 3) := by decide +kernel
theorem dX8_takeBare_21 : decode cX8_takeBare 21 = .ok (.iconst 1, 1) := by decide +kernel
theorem dX8_takeBare_22 : decode cX8_takeBare 22 = .ok (.iload_n 2, 1) := by decide +kernel
theorem dX8_takeBare_23 : decode cX8_takeBare 23 = .ok (.ishl, 1) := by decide +kernel
theorem dX8_takeBare_24 : decode cX8_takeBare 24 = .ok (.ior, 1) := by decide +kernel
theorem dX8_takeBare_25 : decode cX8_takeBare 25 = .ok (.putfield 101, 3) := by decide +kernel
theorem dX8_takeBare_28 : decode cX8_takeBare 28 = .ok (.return_, 1) := by decide +kernel
theorem dX8_takePinner_0 : decode cX8_takePinner 0 = .ok (.aload_n 0, 1) := by decide +kernel
theorem dX8_takePinner_1 : decode cX8_takePinner 1 = .ok (.getfield 12, 3) := by decide +kernel
theorem dX8_takePinner_4 : decode cX8_takePinner 4 = .ok (.getfield 103, 3) := by decide +kernel
theorem dX8_takePinner_7 : decode cX8_takePinner 7 = .ok (.getfield 107, 3) := by decide +kernel
theorem dX8_takePinner_10 : decode cX8_takePinner 10 = .ok (.iconst 5, 1) := by decide +kernel
theorem dX8_takePinner_11 : decode cX8_takePinner 11 = .ok (.if_icmp .lt 8, 3) := by decide +kernel
theorem dX8_takePinner_14 : decode cX8_takePinner 14 = .ok (.aload_n 1, 1) := by decide +kernel
theorem dX8_takePinner_15 : decode cX8_takePinner 15 = .ok (.invokevirtual 92, 3) := by decide +kernel
theorem dX8_takePinner_18 : decode cX8_takePinner 18 = .ok (.return_, 1) := by decide +kernel
theorem dX8_takePinner_19 : decode cX8_takePinner 19 = .ok (.aload_n 1, 1) := by decide +kernel
theorem dX8_takePinner_20 : decode cX8_takePinner 20 = .ok (.iconst 0, 1) := by decide +kernel
theorem dX8_takePinner_21 : decode cX8_takePinner 21 = .ok (.bipush 15, 2) := by decide +kernel
theorem dX8_takePinner_23 : decode cX8_takePinner 23 = .ok (.invokevirtual 62, 3) := by decide +kernel
theorem dX8_takePinner_26 : decode cX8_takePinner 26 = .ok (.istore_n 2, 1) := by decide +kernel
theorem dX8_takePinner_27 : decode cX8_takePinner 27 = .ok (.aload_n 1, 1) := by decide +kernel
theorem dX8_takePinner_28 : decode cX8_takePinner 28 = .ok (.ldc 112, 2) := by decide +kernel
theorem dX8_takePinner_30 : decode cX8_takePinner 30 = .ok (.iconst 1, 1) := by decide +kernel
theorem dX8_takePinner_31 : decode cX8_takePinner 31 = .ok (.bipush 9, 2) := by decide +kernel
theorem dX8_takePinner_33 : decode cX8_takePinner 33 = .ok (.invokevirtual 114, 3) := by decide +kernel
theorem dX8_takePinner_36 : decode cX8_takePinner 36 = .ok (.istore_n 3, 1) := by decide +kernel
theorem dX8_takePinner_37 : decode cX8_takePinner 37 = .ok (.aload_n 1, 1) := by decide +kernel
theorem dX8_takePinner_38 : decode cX8_takePinner 38 = .ok (.ldc 118, 2) := by decide +kernel
theorem dX8_takePinner_40 : decode cX8_takePinner 40 = .ok (.iconst 0, 1) := by decide +kernel
theorem dX8_takePinner_41 : decode cX8_takePinner 41 = .ok (.bipush 30, 2) := by decide +kernel
theorem dX8_takePinner_43 : decode cX8_takePinner 43 = .ok (.invokevirtual 114, 3) := by decide +kernel
theorem dX8_takePinner_46 : decode cX8_takePinner 46 = .ok (.istore 4, 2) := by decide +kernel
theorem dX8_takePinner_48 : decode cX8_takePinner 48 = .ok (.aload_n 0, 1) := by decide +kernel
theorem dX8_takePinner_49 : decode cX8_takePinner 49 = .ok (.getfield 12, 3) := by decide +kernel
theorem dX8_takePinner_52 : decode cX8_takePinner 52 = .ok (.getfield 103, 3) := by decide +kernel
theorem dX8_takePinner_55 : decode cX8_takePinner 55 = .ok (.iload_n 2, 1) := by decide +kernel
theorem dX8_takePinner_56 : decode cX8_takePinner 56 = .ok (.iload_n 3, 1) := by decide +kernel
theorem dX8_takePinner_57 : decode cX8_takePinner 57 = .ok (.iload 4, 2) := by decide +kernel
theorem dX8_takePinner_59 : decode cX8_takePinner 59 = .ok (.invokevirtual 120, 3) := by decide +kernel
theorem dX8_takePinner_62 : decode cX8_takePinner 62 = .ok (.return_, 1) := by decide +kernel
theorem dX9_init_0 : decode cX9_init 0 = .ok (.aload_n 0, 1) := by decide +kernel
theorem dX9_init_1 : decode cX9_init 1 = .ok (.invokespecial 3, 3) := by decide +kernel
theorem dX9_init_4 : decode cX9_init 4 = .ok (.aload_n 0, 1) := by decide +kernel
theorem dX9_init_5 : decode cX9_init 5 = .ok (.sipush 400, 3) := by decide +kernel
theorem dX9_init_8 : decode cX9_init 8 = .ok (.newarray .byte, 2) := by decide +kernel
theorem dX9_init_10 : decode cX9_init 10 = .ok (.putfield 11, 3) := by decide +kernel
theorem dX9_init_13 : decode cX9_init 13 = .ok (.aload_n 0, 1) := by decide +kernel
theorem dX9_init_14 : decode cX9_init 14 = .ok (.iconst (-1), 1) := by decide +kernel
theorem dX9_init_15 : decode cX9_init 15 = .ok (.putfield 15, 3) := by decide +kernel
theorem dX9_init_18 : decode cX9_init 18 = .ok (.return_, 1) := by decide +kernel
theorem dX9_hasRoom_0 : decode cX9_hasRoom 0 = .ok (.aload_n 0, 1) := by decide +kernel
theorem dX9_hasRoom_1 : decode cX9_hasRoom 1 = .ok (.getfield 19, 3) := by decide +kernel
theorem dX9_hasRoom_4 : decode cX9_hasRoom 4 = .ok (.bipush 20, 2) := by decide +kernel
theorem dX9_hasRoom_6 : decode cX9_hasRoom 6 = .ok (.iadd, 1) := by decide +kernel
theorem dX9_hasRoom_7 : decode cX9_hasRoom 7 = .ok (.sipush 400, 3) := by decide +kernel
theorem dX9_hasRoom_10 : decode cX9_hasRoom 10 = .ok (.if_icmp .gt 7, 3) := by decide +kernel
theorem dX9_hasRoom_13 : decode cX9_hasRoom 13 = .ok (.iconst 1, 1) := by decide +kernel
theorem dX9_hasRoom_14 : decode cX9_hasRoom 14 = .ok (.goto 4, 3) := by decide +kernel
theorem dX9_hasRoom_17 : decode cX9_hasRoom 17 = .ok (.iconst 0, 1) := by decide +kernel
theorem dX9_hasRoom_18 : decode cX9_hasRoom 18 = .ok (.ireturn, 1) := by decide +kernel
theorem dX9_add_0 : decode cX9_add 0 = .ok (.aload_n 0, 1) := by decide +kernel
theorem dX9_add_1 : decode cX9_add 1 = .ok (.getfield 19, 3) := by decide +kernel
theorem dX9_add_4 : decode cX9_add 4 = .ok (.iconst 4, 1) := by decide +kernel
theorem dX9_add_5 : decode cX9_add 5 = .ok (.iadd, 1) := by decide +kernel
theorem dX9_add_6 : decode cX9_add 6 = .ok (.sipush 400, 3) := by decide +kernel
theorem dX9_add_9 : decode cX9_add 9 = .ok (.if_icmp .le 4, 3) := by decide +kernel
theorem dX9_add_12 : decode cX9_add 12 = .ok (.return_, 1) := by decide +kernel
theorem dX9_add_13 : decode cX9_add 13 = .ok (.aload_n 0, 1) := by decide +kernel
theorem dX9_add_14 : decode cX9_add 14 = .ok (.getfield 11, 3) := by decide +kernel
theorem dX9_add_17 : decode cX9_add 17 = .ok (.aload_n 0, 1) := by decide +kernel
theorem dX9_add_18 : decode cX9_add 18 = .ok (.getfield 19, 3) := by decide +kernel
theorem dX9_add_21 : decode cX9_add 21 = .ok (.iload_n 1, 1) := by decide +kernel
theorem dX9_add_22 : decode cX9_add 22 = .ok (.bipush 24, 2) := by decide +kernel
theorem dX9_add_24 : decode cX9_add 24 = .ok (.iushr, 1) := by decide +kernel
theorem dX9_add_25 : decode cX9_add 25 = .ok (.i2b, 1) := by decide +kernel
theorem dX9_add_26 : decode cX9_add 26 = .ok (.bastore, 1) := by decide +kernel
theorem dX9_add_27 : decode cX9_add 27 = .ok (.aload_n 0, 1) := by decide +kernel
theorem dX9_add_28 : decode cX9_add 28 = .ok (.getfield 11, 3) := by decide +kernel
theorem dX9_add_31 : decode cX9_add 31 = .ok (.aload_n 0, 1) := by decide +kernel
theorem dX9_add_32 : decode cX9_add 32 = .ok (.getfield 19, 3) := by decide +kernel
theorem dX9_add_35 : decode cX9_add 35 = .ok (.iconst 1, 1) := by decide +kernel
theorem dX9_add_36 : decode cX9_add 36 = .ok (.iadd, 1) := by decide +kernel
theorem dX9_add_37 : decode cX9_add 37 = .ok (.iload_n 1, 1) := by decide +kernel
theorem dX9_add_38 : decode cX9_add 38 = .ok (.bipush 16, 2) := by decide +kernel
theorem dX9_add_40 : decode cX9_add 40 = .ok (.iushr, 1) := by decide +kernel
theorem dX9_add_41 : decode cX9_add 41 = .ok (.i2b, 1) := by decide +kernel
theorem dX9_add_42 : decode cX9_add 42 = .ok (.bastore, 1) := by decide +kernel
theorem dX9_add_43 : decode cX9_add 43 = .ok (.aload_n 0, 1) := by decide +kernel
theorem dX9_add_44 : decode cX9_add 44 = .ok (.getfield 11, 3) := by decide +kernel
theorem dX9_add_47 : decode cX9_add 47 = .ok (.aload_n 0, 1) := by decide +kernel
theorem dX9_add_48 : decode cX9_add 48 = .ok (.getfield 19, 3) := by decide +kernel
theorem dX9_add_51 : decode cX9_add 51 = .ok (.iconst 2, 1) := by decide +kernel
theorem dX9_add_52 : decode cX9_add 52 = .ok (.iadd, 1) := by decide +kernel
theorem dX9_add_53 : decode cX9_add 53 = .ok (.iload_n 1, 1) := by decide +kernel
theorem dX9_add_54 : decode cX9_add 54 = .ok (.bipush 8, 2) := by decide +kernel
theorem dX9_add_56 : decode cX9_add 56 = .ok (.iushr, 1) := by decide +kernel
theorem dX9_add_57 : decode cX9_add 57 = .ok (.i2b, 1) := by decide +kernel
theorem dX9_add_58 : decode cX9_add 58 = .ok (.bastore, 1) := by decide +kernel
theorem dX9_add_59 : decode cX9_add 59 = .ok (.aload_n 0, 1) := by decide +kernel
theorem dX9_add_60 : decode cX9_add 60 = .ok (.getfield 11, 3) := by decide +kernel
theorem dX9_add_63 : decode cX9_add 63 = .ok (.aload_n 0, 1) := by decide +kernel
theorem dX9_add_64 : decode cX9_add 64 = .ok (.getfield 19, 3) := by decide +kernel
theorem dX9_add_67 : decode cX9_add 67 = .ok (.iconst 3, 1) := by decide +kernel
theorem dX9_add_68 : decode cX9_add 68 = .ok (.iadd, 1) := by decide +kernel
theorem dX9_add_69 : decode cX9_add 69 = .ok (.iload_n 1, 1) := by decide +kernel
theorem dX9_add_70 : decode cX9_add 70 = .ok (.i2b, 1) := by decide +kernel
theorem dX9_add_71 : decode cX9_add 71 = .ok (.bastore, 1) := by decide +kernel
theorem dX9_add_72 : decode cX9_add 72 = .ok (.aload_n 0, 1) := by decide +kernel
theorem dX9_add_73 : decode cX9_add 73 = .ok (.dup, 1) := by decide +kernel
theorem dX9_add_74 : decode cX9_add 74 = .ok (.getfield 19, 3) := by decide +kernel
theorem dX9_add_77 : decode cX9_add 77 = .ok (.iconst 4, 1) := by decide +kernel
theorem dX9_add_78 : decode cX9_add 78 = .ok (.iadd, 1) := by decide +kernel
theorem dX9_add_79 : decode cX9_add 79 = .ok (.putfield 19, 3) := by decide +kernel
theorem dX9_add_82 : decode cX9_add 82 = .ok (.return_, 1) := by decide +kernel
theorem dX9_cut_0 : decode cX9_cut 0 = .ok (.iload_n 1, 1) := by decide +kernel
theorem dX9_cut_1 : decode cX9_cut 1 = .ok (.ifCond .lt 11, 3) := by decide +kernel
theorem dX9_cut_4 : decode cX9_cut 4 = .ok (.iload_n 1, 1) := by decide +kernel
theorem dX9_cut_5 : decode cX9_cut 5 = .ok (.aload_n 0, 1) := by decide +kernel
theorem dX9_cut_6 : decode cX9_cut 6 = .ok (.getfield 19, 3) := by decide +kernel
theorem dX9_cut_9 : decode cX9_cut 9 = .ok (.if_icmp .le 5, 3) := by decide +kernel
theorem dX9_cut_12 : decode cX9_cut 12 = .ok (.iconst 0, 1) := by decide +kernel
theorem dX9_cut_13 : decode cX9_cut 13 = .ok (.ireturn, 1) := by decide +kernel
theorem dX9_cut_14 : decode cX9_cut 14 = .ok (.aload_n 0, 1) := by decide +kernel
theorem dX9_cut_15 : decode cX9_cut 15 = .ok (.iload_n 1, 1) := by decide +kernel
theorem dX9_cut_16 : decode cX9_cut 16 = .ok (.putfield 19, 3) := by decide +kernel
theorem dX9_cut_19 : decode cX9_cut 19 = .ok (.iconst 1, 1) := by decide +kernel
theorem dX9_cut_20 : decode cX9_cut 20 = .ok (.ireturn, 1) := by decide +kernel
theorem dX9_open_0 : decode cX9_open 0 = .ok (.aload_n 0, 1) := by decide +kernel
theorem dX9_open_1 : decode cX9_open 1 = .ok (.aload_n 0, 1) := by decide +kernel
theorem dX9_open_2 : decode cX9_open 2 = .ok (.getfield 19, 3) := by decide +kernel
theorem dX9_open_5 : decode cX9_open 5 = .ok (.putfield 22, 3) := by decide +kernel
theorem dX9_open_8 : decode cX9_open 8 = .ok (.aload_n 0, 1) := by decide +kernel
theorem dX9_open_9 : decode cX9_open 9 = .ok (.iconst 0, 1) := by decide +kernel
theorem dX9_open_10 : decode cX9_open 10 = .ok (.putfield 19, 3) := by decide +kernel
theorem dX9_open_13 : decode cX9_open 13 = .ok (.aload_n 0, 1) := by decide +kernel
theorem dX9_open_14 : decode cX9_open 14 = .ok (.iconst 0, 1) := by decide +kernel
theorem dX9_open_15 : decode cX9_open 15 = .ok (.putfield 25, 3) := by decide +kernel
theorem dX9_open_18 : decode cX9_open 18 = .ok (.aload_n 0, 1) := by decide +kernel
theorem dX9_open_19 : decode cX9_open 19 = .ok (.iconst 0, 1) := by decide +kernel
theorem dX9_open_20 : decode cX9_open 20 = .ok (.putfield 28, 3) := by decide +kernel
theorem dX9_open_23 : decode cX9_open 23 = .ok (.aload_n 0, 1) := by decide +kernel
theorem dX9_open_24 : decode cX9_open 24 = .ok (.iconst (-1), 1) := by decide +kernel
theorem dX9_open_25 : decode cX9_open 25 = .ok (.putfield 15, 3) := by decide +kernel
theorem dX9_open_28 : decode cX9_open 28 = .ok (.return_, 1) := by decide +kernel
theorem dX9_byteAt_0 : decode cX9_byteAt 0 = .ok (.iload_n 1, 1) := by decide +kernel
theorem dX9_byteAt_1 : decode cX9_byteAt 1 = .ok (.ifCond .lt 24, 3) := by decide +kernel
theorem dX9_byteAt_4 : decode cX9_byteAt 4 = .ok (.iload_n 1, 1) := by decide +kernel
theorem dX9_byteAt_5 : decode cX9_byteAt 5 = .ok (.aload_n 0, 1) := by decide +kernel
theorem dX9_byteAt_6 : decode cX9_byteAt 6 = .ok (.getfield 22, 3) := by decide +kernel
theorem dX9_byteAt_9 : decode cX9_byteAt 9 = .ok (.if_icmp .ge 16, 3) := by decide +kernel
theorem dX9_byteAt_12 : decode cX9_byteAt 12 = .ok (.aload_n 0, 1) := by decide +kernel
theorem dX9_byteAt_13 : decode cX9_byteAt 13 = .ok (.getfield 11, 3) := by decide +kernel
theorem dX9_byteAt_16 : decode cX9_byteAt 16 = .ok (.iload_n 1, 1) := by decide +kernel
theorem dX9_byteAt_17 : decode cX9_byteAt 17 = .ok (.baload, 1) := by decide +kernel
theorem dX9_byteAt_18 : decode cX9_byteAt 18 = .ok (.sipush 255, 3) := by decide +kernel
theorem dX9_byteAt_21 : decode cX9_byteAt 21 = .ok (.iand, 1) := by decide +kernel
theorem dX9_byteAt_22 : decode cX9_byteAt 22 = .ok (.goto 4, 3) := by decide +kernel
theorem dX9_byteAt_25 : decode cX9_byteAt 25 = .ok (.iconst (-1), 1) := by decide +kernel
theorem dX9_byteAt_26 : decode cX9_byteAt 26 = .ok (.ireturn, 1) := by decide +kernel
theorem dX9_failed_0 : decode cX9_failed 0 = .ok (.aload_n 0, 1) := by decide +kernel
theorem dX9_failed_1 : decode cX9_failed 1 = .ok (.getfield 15, 3) := by decide +kernel
theorem dX9_failed_4 : decode cX9_failed 4 = .ok (.iconst (-1), 1) := by decide +kernel
theorem dX9_failed_5 : decode cX9_failed 5 = .ok (.if_icmp .eq 7, 3) := by decide +kernel
theorem dX9_failed_8 : decode cX9_failed 8 = .ok (.iconst 1, 1) := by decide +kernel
theorem dX9_failed_9 : decode cX9_failed 9 = .ok (.goto 4, 3) := by decide +kernel
theorem dX9_failed_12 : decode cX9_failed 12 = .ok (.iconst 0, 1) := by decide +kernel
theorem dX9_failed_13 : decode cX9_failed 13 = .ok (.ireturn, 1) := by decide +kernel
theorem dX9_fail_0 : decode cX9_fail 0 = .ok (.aload_n 0, 1) := by decide +kernel
theorem dX9_fail_1 : decode cX9_fail 1 = .ok (.getfield 15, 3) := by decide +kernel
theorem dX9_fail_4 : decode cX9_fail 4 = .ok (.iconst (-1), 1) := by decide +kernel
theorem dX9_fail_5 : decode cX9_fail 5 = .ok (.if_icmp .ne 8, 3) := by decide +kernel
theorem dX9_fail_8 : decode cX9_fail 8 = .ok (.aload_n 0, 1) := by decide +kernel
theorem dX9_fail_9 : decode cX9_fail 9 = .ok (.iload_n 1, 1) := by decide +kernel
theorem dX9_fail_10 : decode cX9_fail 10 = .ok (.putfield 15, 3) := by decide +kernel
theorem dX9_fail_13 : decode cX9_fail 13 = .ok (.return_, 1) := by decide +kernel
theorem dX9_failNext_0 : decode cX9_failNext 0 = .ok (.aload_n 0, 1) := by decide +kernel
theorem dX9_failNext_1 : decode cX9_failNext 1 = .ok (.invokevirtual 31, 3) := by decide +kernel
theorem dX9_failNext_4 : decode cX9_failNext 4 = .ok (.aload_n 0, 1) := by decide +kernel
theorem dX9_failNext_5 : decode cX9_failNext 5 = .ok (.aload_n 0, 1) := by decide +kernel
theorem dX9_failNext_6 : decode cX9_failNext 6 = .ok (.getfield 25, 3) := by decide +kernel
theorem dX9_failNext_9 : decode cX9_failNext 9 = .ok (.invokevirtual 34, 3) := by decide +kernel
theorem dX9_failNext_12 : decode cX9_failNext 12 = .ok (.return_, 1) := by decide +kernel
theorem dX9_failLatest_0 : decode cX9_failLatest 0 = .ok (.aload_n 0, 1) := by decide +kernel
theorem dX9_failLatest_1 : decode cX9_failLatest 1 = .ok (.aload_n 0, 1) := by decide +kernel
theorem dX9_failLatest_2 : decode cX9_failLatest 2 = .ok (.getfield 28, 3) := by decide +kernel
theorem dX9_failLatest_5 : decode cX9_failLatest 5 = .ok (.invokevirtual 34, 3) := by decide +kernel
theorem dX9_failLatest_8 : decode cX9_failLatest 8 = .ok (.return_, 1) := by decide +kernel
theorem dX9_skipBlanks_0 : decode cX9_skipBlanks 0 = .ok (.aload_n 0, 1) := by decide +kernel
theorem dX9_skipBlanks_1 : decode cX9_skipBlanks 1 = .ok (.getfield 25, 3) := by decide +kernel
theorem dX9_skipBlanks_4 : decode cX9_skipBlanks 4 = .ok (.aload_n 0, 1) := by decide +kernel
theorem dX9_skipBlanks_5 : decode cX9_skipBlanks 5 = .ok (.getfield 22, 3) := by decide +kernel
theorem dX9_skipBlanks_8 : decode cX9_skipBlanks 8 = .ok (.if_icmp .ge 30, 3) := by decide +kernel
theorem dX9_skipBlanks_11 : decode cX9_skipBlanks 11 = .ok (.aload_n 0, 1) := by decide +kernel
theorem dX9_skipBlanks_12 : decode cX9_skipBlanks 12 = .ok (.getfield 11, 3) := by decide +kernel
theorem dX9_skipBlanks_15 : decode cX9_skipBlanks 15 = .ok (.aload_n 0, 1) := by decide +kernel
theorem dX9_skipBlanks_16 : decode cX9_skipBlanks 16 = .ok (.getfield 25, 3) := by decide +kernel
theorem dX9_skipBlanks_19 : decode cX9_skipBlanks 19 = .ok (.baload, 1) := by decide +kernel
theorem dX9_skipBlanks_20 : decode cX9_skipBlanks 20 = .ok (.bipush 32, 2) := by decide +kernel
theorem dX9_skipBlanks_22 : decode cX9_skipBlanks 22 = .ok (.if_icmp .ne 16, 3) := by decide +kernel
theorem dX9_skipBlanks_25 : decode cX9_skipBlanks 25 = .ok (.aload_n 0, 1) := by decide +kernel
theorem dX9_skipBlanks_26 : decode cX9_skipBlanks 26 = .ok (.dup, 1) := by decide +kernel
theorem dX9_skipBlanks_27 : decode cX9_skipBlanks 27 = .ok (.getfield 25, 3) := by decide +kernel
theorem dX9_skipBlanks_30 : decode cX9_skipBlanks 30 = .ok (.iconst 1, 1) := by decide +kernel
theorem dX9_skipBlanks_31 : decode cX9_skipBlanks 31 = .ok (.iadd, 1) := by decide +kernel
theorem dX9_skipBlanks_32 : decode cX9_skipBlanks 32 = .ok (.putfield 25, 3) := by decide +kernel
theorem dX9_skipBlanks_35 : decode cX9_skipBlanks 35 = .ok (.goto (-35), 3) := by decide +kernel
theorem dX9_skipBlanks_38 : decode cX9_skipBlanks 38 = .ok (.return_, 1) := by decide +kernel
theorem dX9_atEnd_0 : decode cX9_atEnd 0 = .ok (.aload_n 0, 1) := by decide +kernel
theorem dX9_atEnd_1 : decode cX9_atEnd 1 = .ok (.invokevirtual 31, 3) := by decide +kernel
theorem dX9_atEnd_4 : decode cX9_atEnd 4 = .ok (.aload_n 0, 1) := by decide +kernel
theorem dX9_atEnd_5 : decode cX9_atEnd 5 = .ok (.getfield 25, 3) := by decide +kernel
theorem dX9_atEnd_8 : decode cX9_atEnd 8 = .ok (.aload_n 0, 1) := by decide +kernel
theorem dX9_atEnd_9 : decode cX9_atEnd 9 = .ok (.getfield 22, 3) := by decide +kernel
theorem dX9_atEnd_12 : decode cX9_atEnd 12 = .ok (.if_icmp .lt 7, 3) := by decide +kernel
theorem dX9_atEnd_15 : decode cX9_atEnd 15 = .ok (.iconst 1, 1) := by decide +kernel
theorem dX9_atEnd_16 : decode cX9_atEnd 16 = .ok (.goto 4, 3) := by decide +kernel
theorem dX9_atEnd_19 : decode cX9_atEnd 19 = .ok (.iconst 0, 1) := by decide +kernel
theorem dX9_atEnd_20 : decode cX9_atEnd 20 = .ok (.ireturn, 1) := by decide +kernel
theorem dX9_atDigit_0 : decode cX9_atDigit 0 = .ok (.aload_n 0, 1) := by decide +kernel
theorem dX9_atDigit_1 : decode cX9_atDigit 1 = .ok (.invokevirtual 31, 3) := by decide +kernel
theorem dX9_atDigit_4 : decode cX9_atDigit 4 = .ok (.aload_n 0, 1) := by decide +kernel
theorem dX9_atDigit_5 : decode cX9_atDigit 5 = .ok (.aload_n 0, 1) := by decide +kernel
theorem dX9_atDigit_6 : decode cX9_atDigit 6 = .ok (.getfield 25, 3) := by decide +kernel
theorem dX9_atDigit_9 : decode cX9_atDigit 9 = .ok (.invokevirtual 38, 3) := by decide +kernel
theorem dX9_atDigit_12 : decode cX9_atDigit 12 = .ok (.invokestatic 42, 3) := by decide +kernel
theorem dX9_atDigit_15 : decode cX9_atDigit 15 = .ok (.ireturn, 1) := by decide +kernel
theorem dX9_takeSign_0 : decode cX9_takeSign 0 = .ok (.aload_n 0, 1) := by decide +kernel
theorem dX9_takeSign_1 : decode cX9_takeSign 1 = .ok (.invokevirtual 31, 3) := by decide +kernel
theorem dX9_takeSign_4 : decode cX9_takeSign 4 = .ok (.aload_n 0, 1) := by decide +kernel
theorem dX9_takeSign_5 : decode cX9_takeSign 5 = .ok (.invokevirtual 46, 3) := by decide +kernel
theorem dX9_takeSign_8 : decode cX9_takeSign 8 = .ok (.ifCond .ne 15, 3) := by decide +kernel
theorem dX9_takeSign_11 : decode cX9_takeSign 11 = .ok (.aload_n 0, 1) := by decide +kernel
theorem dX9_takeSign_12 : decode cX9_takeSign 12 = .ok (.aload_n 0, 1) := by decide +kernel
theorem dX9_takeSign_13 : decode cX9_takeSign 13 = .ok (.getfield 25, 3) := by decide +kernel
theorem dX9_takeSign_16 : decode cX9_takeSign 16 = .ok (.invokevirtual 38, 3) := by decide +kernel
theorem dX9_takeSign_19 : decode cX9_takeSign 19 = .ok (.iload_n 1, 1) := by decide +kernel
theorem dX9_takeSign_20 : decode cX9_takeSign 20 = .ok (.if_icmp .eq 5, 3) := by decide +kernel
theorem dX9_takeSign_23 : decode cX9_takeSign 23 = .ok (.iconst 0, 1) := by decide +kernel
theorem dX9_takeSign_24 : decode cX9_takeSign 24 = .ok (.ireturn, 1) := by decide +kernel
theorem dX9_takeSign_25 : decode cX9_takeSign 25 = .ok (.aload_n 0, 1) := by decide +kernel
theorem dX9_takeSign_26 : decode cX9_takeSign 26 = .ok (.aload_n 0, 1) := by decide +kernel
theorem dX9_takeSign_27 : decode cX9_takeSign 27 = .ok (.getfield 25, 3) := by decide +kernel
theorem dX9_takeSign_30 : decode cX9_takeSign 30 = .ok (.putfield 28, 3) := by decide +kernel
theorem dX9_takeSign_33 : decode cX9_takeSign 33 = .ok (.aload_n 0, 1) := by decide +kernel
theorem dX9_takeSign_34 : decode cX9_takeSign 34 = .ok (.dup, 1) := by decide +kernel
theorem dX9_takeSign_35 : decode cX9_takeSign 35 = .ok (.getfield 25, 3) := by decide +kernel
theorem dX9_takeSign_38 : decode cX9_takeSign 38 = .ok (.iconst 1, 1) := by decide +kernel
theorem dX9_takeSign_39 : decode cX9_takeSign 39 = .ok (.iadd, 1) := by decide +kernel
theorem dX9_takeSign_40 : decode cX9_takeSign 40 = .ok (.putfield 25, 3) := by decide +kernel
theorem dX9_takeSign_43 : decode cX9_takeSign 43 = .ok (.iconst 1, 1) := by decide +kernel
theorem dX9_takeSign_44 : decode cX9_takeSign 44 = .ok (.ireturn, 1) := by decide +kernel
theorem dX9_takeWord_0 : decode cX9_takeWord 0 = .ok (.aload_n 0, 1) := by decide +kernel
theorem dX9_takeWord_1 : decode cX9_takeWord 1 = .ok (.invokevirtual 31, 3) := by decide +kernel
theorem dX9_takeWord_4 : decode cX9_takeWord 4 = .ok (.aload_n 0, 1) := by decide +kernel
theorem dX9_takeWord_5 : decode cX9_takeWord 5 = .ok (.invokevirtual 46, 3) := by decide +kernel
theorem dX9_takeWord_8 : decode cX9_takeWord 8 = .ok (.ifCond .ne 14, 3) := by decide +kernel
theorem dX9_takeWord_11 : decode cX9_takeWord 11 = .ok (.aload_n 0, 1) := by decide +kernel
theorem dX9_takeWord_12 : decode cX9_takeWord 12 = .ok (.invokevirtual 50, 3) := by decide +kernel
theorem dX9_takeWord_15 : decode cX9_takeWord 15 = .ok (.aload_n 1, 1) := by decide +kernel
theorem dX9_takeWord_16 : decode cX9_takeWord 16 = .ok (.invokevirtual 54, 3) := by decide +kernel
theorem dX9_takeWord_19 : decode cX9_takeWord 19 = .ok (.if_icmp .eq 5, 3) := by decide +kernel
theorem dX9_takeWord_22 : decode cX9_takeWord 22 = .ok (.iconst 0, 1) := by decide +kernel
theorem dX9_takeWord_23 : decode cX9_takeWord 23 = .ok (.ireturn, 1) := by decide +kernel
theorem dX9_takeWord_24 : decode cX9_takeWord 24 = .ok (.iconst 0, 1) := by decide +kernel
theorem dX9_takeWord_25 : decode cX9_takeWord 25 = .ok (.istore_n 2, 1) := by decide +kernel
theorem dX9_takeWord_26 : decode cX9_takeWord 26 = .ok (.iload_n 2, 1) := by decide +kernel
theorem dX9_takeWord_27 : decode cX9_takeWord 27 = .ok (.aload_n 1, 1) := by decide +kernel
theorem dX9_takeWord_28 : decode cX9_takeWord 28 = .ok (.invokevirtual 54, 3) := by decide +kernel
theorem dX9_takeWord_31 : decode cX9_takeWord 31 = .ok (.if_icmp .ge 29, 3) := by decide +kernel
theorem dX9_takeWord_34 : decode cX9_takeWord 34 = .ok (.aload_n 0, 1) := by decide +kernel
theorem dX9_takeWord_35 : decode cX9_takeWord 35 = .ok (.aload_n 0, 1) := by decide +kernel
theorem dX9_takeWord_36 : decode cX9_takeWord 36 = .ok (.getfield 25, 3) := by decide +kernel
theorem dX9_takeWord_39 : decode cX9_takeWord 39 = .ok (.iload_n 2, 1) := by decide +kernel
theorem dX9_takeWord_40 : decode cX9_takeWord 40 = .ok (.iadd, 1) := by decide +kernel
theorem dX9_takeWord_41 : decode cX9_takeWord 41 = .ok (.invokevirtual 38, 3) := by decide +kernel
theorem dX9_takeWord_44 : decode cX9_takeWord 44 = .ok (.aload_n 1, 1) := by decide +kernel
theorem dX9_takeWord_45 : decode cX9_takeWord 45 = .ok (.iload_n 2, 1) := by decide +kernel
theorem dX9_takeWord_46 : decode cX9_takeWord 46 = .ok (.invokevirtual 58, 3) := by decide +kernel
theorem dX9_takeWord_49 : decode cX9_takeWord 49 = .ok (.if_icmp .eq 5, 3) := by decide +kernel
theorem dX9_takeWord_52 : decode cX9_takeWord 52 = .ok (.iconst 0, 1) := by decide +kernel
theorem dX9_takeWord_53 : decode cX9_takeWord 53 = .ok (.ireturn, 1) := by decide +kernel
theorem dX9_takeWord_54 : decode cX9_takeWord 54 = .ok (.iinc 2 1, 3) := by decide +kernel
theorem dX9_takeWord_57 : decode cX9_takeWord 57 = .ok (.goto (-31), 3) := by decide +kernel
theorem dX9_takeWord_60 : decode cX9_takeWord 60 = .ok (.aload_n 0, 1) := by decide +kernel
theorem dX9_takeWord_61 : decode cX9_takeWord 61 = .ok (.aload_n 0, 1) := by decide +kernel
theorem dX9_takeWord_62 : decode cX9_takeWord 62 = .ok (.getfield 25, 3) := by decide +kernel
theorem dX9_takeWord_65 : decode cX9_takeWord 65 = .ok (.putfield 28, 3) := by decide +kernel
theorem dX9_takeWord_68 : decode cX9_takeWord 68 = .ok (.aload_n 0, 1) := by decide +kernel
theorem dX9_takeWord_69 : decode cX9_takeWord 69 = .ok (.dup, 1) := by decide +kernel
theorem dX9_takeWord_70 : decode cX9_takeWord 70 = .ok (.getfield 25, 3) := by decide +kernel
theorem dX9_takeWord_73 : decode cX9_takeWord 73 = .ok (.aload_n 1, 1) := by decide +kernel
theorem dX9_takeWord_74 : decode cX9_takeWord 74 = .ok (.invokevirtual 54, 3) := by decide +kernel
theorem dX9_takeWord_77 : decode cX9_takeWord 77 = .ok (.iadd, 1) := by decide +kernel
theorem dX9_takeWord_78 : decode cX9_takeWord 78 = .ok (.putfield 25, 3) := by decide +kernel
theorem dX9_takeWord_81 : decode cX9_takeWord 81 = .ok (.iconst 1, 1) := by decide +kernel
theorem dX9_takeWord_82 : decode cX9_takeWord 82 = .ok (.ireturn, 1) := by decide +kernel
theorem dX9_wordLength_0 : decode cX9_wordLength 0 = .ok (.aload_n 0, 1) := by decide +kernel
theorem dX9_wordLength_1 : decode cX9_wordLength 1 = .ok (.getfield 25, 3) := by decide +kernel
theorem dX9_wordLength_4 : decode cX9_wordLength 4 = .ok (.istore_n 1, 1) := by decide +kernel
theorem dX9_wordLength_5 : decode cX9_wordLength 5 = .ok (.iload_n 1, 1) := by decide +kernel
theorem dX9_wordLength_6 : decode cX9_wordLength 6 = .ok (.aload_n 0, 1) := by decide +kernel
theorem dX9_wordLength_7 : decode cX9_wordLength 7 = .ok (.getfield 22, 3) := by decide +kernel
theorem dX9_wordLength_10 : decode cX9_wordLength 10 = .ok (.if_icmp .ge 31, 3) := by decide +kernel
theorem dX9_wordLength_13 : decode cX9_wordLength 13 = .ok (.aload_n 0, 1) := by decide +kernel
theorem dX9_wordLength_14 : decode cX9_wordLength 14 = .ok (.getfield 11, 3) := by decide +kernel
theorem dX9_wordLength_17 : decode cX9_wordLength 17 = .ok (.iload_n 1, 1) := by decide +kernel
theorem dX9_wordLength_18 : decode cX9_wordLength 18 = .ok (.baload, 1) := by decide +kernel
theorem dX9_wordLength_19 : decode cX9_wordLength 19 = .ok (.bipush 97, 2) := by decide +kernel
theorem dX9_wordLength_21 : decode cX9_wordLength 21 = .ok (.if_icmp .lt 20, 3) := by decide +kernel
theorem dX9_wordLength_24 : decode cX9_wordLength 24 = .ok (.aload_n 0, 1) := by decide +kernel
theorem dX9_wordLength_25 : decode cX9_wordLength 25 = .ok (.getfield 11, 3) := by decide +kernel
theorem dX9_wordLength_28 : decode cX9_wordLength 28 = .ok (.iload_n 1, 1) := by decide +kernel
theorem dX9_wordLength_29 : decode cX9_wordLength 29 = .ok (.baload, 1) := by decide +kernel
theorem dX9_wordLength_30 : decode cX9_wordLength 30 = .ok (.bipush 122, 2) := by decide +kernel
theorem dX9_wordLength_32 : decode cX9_wordLength 32 = .ok (.if_icmp .gt 9, 3) := by decide +kernel
theorem dX9_wordLength_35 : decode cX9_wordLength 35 = .ok (.iinc 1 1, 3) := by decide +kernel
theorem dX9_wordLength_38 : decode cX9_wordLength 38 = .ok (.goto (-33), 3) := by decide +kernel
theorem dX9_wordLength_41 : decode cX9_wordLength 41 = .ok (.iload_n 1, 1) := by decide +kernel
theorem dX9_wordLength_42 : decode cX9_wordLength 42 = .ok (.aload_n 0, 1) := by decide +kernel
theorem dX9_wordLength_43 : decode cX9_wordLength 43 = .ok (.getfield 25, 3) := by decide +kernel
theorem dX9_wordLength_46 : decode cX9_wordLength 46 = .ok (.isub, 1) := by decide +kernel
theorem dX9_wordLength_47 : decode cX9_wordLength 47 = .ok (.ireturn, 1) := by decide +kernel
theorem dX9_takeNumber_0 : decode cX9_takeNumber 0 = .ok (.aload_n 0, 1) := by decide +kernel
theorem dX9_takeNumber_1 : decode cX9_takeNumber 1 = .ok (.invokevirtual 31, 3) := by decide +kernel
theorem dX9_takeNumber_4 : decode cX9_takeNumber 4 = .ok (.aload_n 0, 1) := by decide +kernel
theorem dX9_takeNumber_5 : decode cX9_takeNumber 5 = .ok (.invokevirtual 46, 3) := by decide +kernel
theorem dX9_takeNumber_8 : decode cX9_takeNumber 8 = .ok (.ifCond .eq 5, 3) := by decide +kernel
theorem dX9_takeNumber_11 : decode cX9_takeNumber 11 = .ok (.iconst (-1), 1) := by decide +kernel
theorem dX9_takeNumber_12 : decode cX9_takeNumber 12 = .ok (.ireturn, 1) := by decide +kernel
theorem dX9_takeNumber_13 : decode cX9_takeNumber 13 = .ok (.aload_n 0, 1) := by decide +kernel
theorem dX9_takeNumber_14 : decode cX9_takeNumber 14 = .ok (.aload_n 0, 1) := by decide +kernel
theorem dX9_takeNumber_15 : decode cX9_takeNumber 15 = .ok (.getfield 25, 3) := by decide +kernel
theorem dX9_takeNumber_18 : decode cX9_takeNumber 18 = .ok (.putfield 28, 3) := by decide +kernel
theorem dX9_takeNumber_21 : decode cX9_takeNumber 21 = .ok (.iconst 0, 1) := by decide +kernel
theorem dX9_takeNumber_22 : decode cX9_takeNumber 22 = .ok (.istore_n 3, 1) := by decide +kernel
theorem dX9_takeNumber_23 : decode cX9_takeNumber 23 = .ok (.aload_n 0, 1) := by decide +kernel
theorem dX9_takeNumber_24 : decode cX9_takeNumber 24 = .ok (.getfield 25, 3) := by decide +kernel
theorem dX9_takeNumber_27 : decode cX9_takeNumber 27 = .ok (.aload_n 0, 1) := by decide +kernel
theorem dX9_takeNumber_28 : decode cX9_takeNumber 28 = .ok (.getfield 22, 3) := by decide +kernel
theorem dX9_takeNumber_31 : decode cX9_takeNumber 31 = .ok (.if_icmp .ge 60, 3) := by decide +kernel
theorem dX9_takeNumber_34 : decode cX9_takeNumber 34 = .ok (.aload_n 0, 1) := by decide +kernel
theorem dX9_takeNumber_35 : decode cX9_takeNumber 35 = .ok (.aload_n 0, 1) := by decide +kernel
theorem dX9_takeNumber_36 : decode cX9_takeNumber 36 = .ok (.getfield 25, 3) := by decide +kernel
theorem dX9_takeNumber_39 : decode cX9_takeNumber 39 = .ok (.invokevirtual 38, 3) := by decide +kernel
theorem dX9_takeNumber_42 : decode cX9_takeNumber 42 = .ok (.invokestatic 42, 3) := by decide +kernel
theorem dX9_takeNumber_45 : decode cX9_takeNumber 45 = .ok (.ifCond .eq 46, 3) := by decide +kernel
theorem dX9_takeNumber_48 : decode cX9_takeNumber 48 = .ok (.aload_n 0, 1) := by decide +kernel
theorem dX9_takeNumber_49 : decode cX9_takeNumber 49 = .ok (.getfield 25, 3) := by decide +kernel
theorem dX9_takeNumber_52 : decode cX9_takeNumber 52 = .ok (.aload_n 0, 1) := by decide +kernel
theorem dX9_takeNumber_53 : decode cX9_takeNumber 53 = .ok (.getfield 28, 3) := by decide +kernel
theorem dX9_takeNumber_56 : decode cX9_takeNumber 56 = .ok (.isub, 1) := by decide +kernel
theorem dX9_takeNumber_57 : decode cX9_takeNumber 57 = .ok (.iconst 3, 1) := by decide +kernel
theorem dX9_takeNumber_58 : decode cX9_takeNumber 58 = .ok (.if_icmp .ge 20, 3) := by decide +kernel
theorem dX9_takeNumber_61 : decode cX9_takeNumber 61 = .ok (.iload_n 3, 1) := by decide +kernel
theorem dX9_takeNumber_62 : decode cX9_takeNumber 62 = .ok (.bipush 10, 2) := by decide +kernel
theorem dX9_takeNumber_64 : decode cX9_takeNumber 64 = .ok (.imul, 1) := by decide +kernel
theorem dX9_takeNumber_65 : decode cX9_takeNumber 65 = .ok (.aload_n 0, 1) := by decide +kernel
theorem dX9_takeNumber_66 : decode cX9_takeNumber 66 = .ok (.aload_n 0, 1) := by decide +kernel
theorem dX9_takeNumber_67 : decode cX9_takeNumber 67 = .ok (.getfield 25, 3) := by decide +kernel
theorem dX9_takeNumber_70 : decode cX9_takeNumber 70 = .ok (.invokevirtual 38, 3) := by decide +kernel
theorem dX9_takeNumber_73 : decode cX9_takeNumber 73 = .ok (.iadd, 1) := by decide +kernel
theorem dX9_takeNumber_74 : decode cX9_takeNumber 74 = .ok (.bipush 48, 2) := by decide +kernel
theorem dX9_takeNumber_76 : decode cX9_takeNumber 76 = .ok (.isub, 1) := by decide +kernel
theorem dX9_takeNumber_77 : decode cX9_takeNumber 77 = .ok (.istore_n 3, 1) := by decide +kernel
theorem dX9_takeNumber_78 : decode cX9_takeNumber 78 = .ok (.aload_n 0, 1) := by decide +kernel
theorem dX9_takeNumber_79 : decode cX9_takeNumber 79 = .ok (.dup, 1) := by decide +kernel
theorem dX9_takeNumber_80 : decode cX9_takeNumber 80 = .ok (.getfield 25, 3) := by decide +kernel
theorem dX9_takeNumber_83 : decode cX9_takeNumber 83 = .ok (.iconst 1, 1) := by decide +kernel
theorem dX9_takeNumber_84 : decode cX9_takeNumber 84 = .ok (.iadd, 1) := by decide +kernel
theorem dX9_takeNumber_85 : decode cX9_takeNumber 85 = .ok (.putfield 25, 3) := by decide +kernel
theorem dX9_takeNumber_88 : decode cX9_takeNumber 88 = .ok (.goto (-65), 3) := by decide +kernel
theorem dX9_takeNumber_91 : decode cX9_takeNumber 91 = .ok (.aload_n 0, 1) := by decide +kernel
theorem dX9_takeNumber_92 : decode cX9_takeNumber 92 = .ok (.getfield 25, 3) := by decide +kernel
theorem dX9_takeNumber_95 : decode cX9_takeNumber 95 = .ok (.aload_n 0, 1) := by decide +kernel
theorem dX9_takeNumber_96 : decode cX9_takeNumber 96 = .ok (.getfield 28, 3) := by decide +kernel
theorem dX9_takeNumber_99 : decode cX9_takeNumber 99 = .ok (.isub, 1) := by decide +kernel
theorem dX9_takeNumber_100 : decode cX9_takeNumber 100 = .ok (.istore 4, 2) := by decide +kernel
theorem dX9_takeNumber_102 : decode cX9_takeNumber 102 = .ok (.iload 4, 2) := by decide +kernel
theorem dX9_takeNumber_104 : decode cX9_takeNumber 104 = .ok (.ifCond .eq 19, 3) := by decide +kernel
theorem dX9_takeNumber_107 : decode cX9_takeNumber 107 = .ok (.iload 4, 2) := by decide +kernel
theorem dX9_takeNumber_109 : decode cX9_takeNumber 109 = .ok (.iconst 3, 1) := by decide +kernel
theorem dX9_takeNumber_110 : decode cX9_takeNumber 110 = .ok (.if_icmp .gt 13, 3) := by decide +kernel
theorem dX9_takeNumber_113 : decode cX9_takeNumber 113 = .ok (.iload_n 3, 1) := by decide +kernel
theorem dX9_takeNumber_114 : decode cX9_takeNumber 114 = .ok (.iload_n 1, 1) := by decide +kernel
theorem dX9_takeNumber_115 : decode cX9_takeNumber 115 = .ok (.if_icmp .lt 8, 3) := by decide +kernel
theorem dX9_takeNumber_118 : decode cX9_takeNumber 118 = .ok (.iload_n 3, 1) := by decide +kernel
theorem dX9_takeNumber_119 : decode cX9_takeNumber 119 = .ok (.iload_n 2, 1) := by decide +kernel
theorem dX9_takeNumber_120 : decode cX9_takeNumber 120 = .ok (.if_icmp .le 13, 3) := by decide +kernel
theorem dX9_takeNumber_123 : decode cX9_takeNumber 123 = .ok (.aload_n 0, 1) := by decide +kernel
theorem dX9_takeNumber_124 : decode cX9_takeNumber 124 = .ok (.aload_n 0, 1) := by decide +kernel
theorem dX9_takeNumber_125 : decode cX9_takeNumber 125 = .ok (.getfield 28, 3) := by decide +kernel
theorem dX9_takeNumber_128 : decode cX9_takeNumber 128 = .ok (.invokevirtual 34, 3) := by decide +kernel
theorem dX9_takeNumber_131 : decode cX9_takeNumber 131 = .ok (.iconst (-1), 1) := by decide +kernel
theorem dX9_takeNumber_132 : decode cX9_takeNumber 132 = .ok (.ireturn, 1) := by decide +kernel
theorem dX9_takeNumber_133 : decode cX9_takeNumber 133 = .ok (.iload_n 3, 1) := by decide +kernel
theorem dX9_takeNumber_134 : decode cX9_takeNumber 134 = .ok (.ireturn, 1) := by decide +kernel
theorem dX9_takeNumberBehind_0 : decode cX9_takeNumberBehind 0 = .ok (.aload_n 0, 1) := by decide +kernel
theorem dX9_takeNumberBehind_1 : decode cX9_takeNumberBehind 1 = .ok (.aload_n 1, 1) := by decide +kernel
theorem dX9_takeNumberBehind_2 : decode cX9_takeNumberBehind 2 = .ok (.invokevirtual 62, 3) := by decide +kernel
theorem dX9_takeNumberBehind_5 : decode cX9_takeNumberBehind 5 = .ok (.ifCond .ne 9, 3) := by decide +kernel
theorem dX9_takeNumberBehind_8 : decode cX9_takeNumberBehind 8 = .ok (.aload_n 0, 1) := by decide +kernel
theorem dX9_takeNumberBehind_9 : decode cX9_takeNumberBehind 9 = .ok (.invokevirtual 66, 3) := by decide +kernel
theorem dX9_takeNumberBehind_12 : decode cX9_takeNumberBehind 12 = .ok (.iconst (-1), 1) := by decide +kernel
theorem dX9_takeNumberBehind_13 : decode cX9_takeNumberBehind 13 = .ok (.ireturn, 1) := by decide +kernel
theorem dX9_takeNumberBehind_14 : decode cX9_takeNumberBehind 14 = .ok (.aload_n 0, 1) := by decide +kernel
theorem dX9_takeNumberBehind_15 : decode cX9_takeNumberBehind 15 = .ok (.iload_n 2, 1) := by decide +kernel
theorem dX9_takeNumberBehind_16 : decode cX9_takeNumberBehind 16 = .ok (.iload_n 3, 1) := by decide +kernel
theorem dX9_takeNumberBehind_17 : decode cX9_takeNumberBehind 17 = .ok (.invokevirtual 69, 3) := by decide +kernel
theorem dX9_takeNumberBehind_20 : decode cX9_takeNumberBehind 20 = .ok (.ireturn, 1) := by decide +kernel
theorem dX9_isDigit_0 : decode cX9_isDigit 0 = .ok (.iload_n 0, 1) := by decide +kernel
theorem dX9_isDigit_1 : decode cX9_isDigit 1 = .ok (.bipush 48, 2) := by decide +kernel
theorem dX9_isDigit_3 : decode cX9_isDigit 3 = .ok (.if_icmp .lt 13, 3) := by decide +kernel
theorem dX9_isDigit_6 : decode cX9_isDigit 6 = .ok (.iload_n 0, 1) := by decide +kernel
theorem dX9_isDigit_7 : decode cX9_isDigit 7 = .ok (.bipush 57, 2) := by decide +kernel
theorem dX9_isDigit_9 : decode cX9_isDigit 9 = .ok (.if_icmp .gt 7, 3) := by decide +kernel
theorem dX9_isDigit_12 : decode cX9_isDigit 12 = .ok (.iconst 1, 1) := by decide +kernel
theorem dX9_isDigit_13 : decode cX9_isDigit 13 = .ok (.goto 4, 3) := by decide +kernel
theorem dX9_isDigit_16 : decode cX9_isDigit 16 = .ok (.iconst 0, 1) := by decide +kernel
theorem dX9_isDigit_17 : decode cX9_isDigit 17 = .ok (.ireturn, 1) := by decide +kernel
theorem dX10_init_0 : decode cX10_init 0 = .ok (.aload_n 0, 1) := by decide +kernel
theorem dX10_init_1 : decode cX10_init 1 = .ok (.invokespecial 3, 3) := by decide +kernel
theorem dX10_init_4 : decode cX10_init 4 = .ok (.return_, 1) := by decide +kernel
theorem dX10_read_0 : decode cX10_read 0 = .ok (.aload_n 1, 1) := by decide +kernel
theorem dX10_read_1 : decode cX10_read 1 = .ok (.invokevirtual 9, 3) := by decide +kernel
theorem dX10_read_4 : decode cX10_read 4 = .ok (.aload_n 1, 1) := by decide +kernel
theorem dX10_read_5 : decode cX10_read 5 = .ok (.invokevirtual 14, 3) := by decide +kernel
theorem dX10_read_8 : decode cX10_read 8 = .ok (.ifCond .eq 5, 3) := by decide +kernel
theorem dX10_read_11 : decode cX10_read 11 = .ok (.iconst (-1), 1) := by decide +kernel
theorem dX10_read_12 : decode cX10_read 12 = .ok (.ireturn, 1) := by decide +kernel
theorem dX10_read_13 : decode cX10_read 13 = .ok (.iconst 0, 1) := by decide +kernel
theorem dX10_read_14 : decode cX10_read 14 = .ok (.istore_n 3, 1) := by decide +kernel
theorem dX10_read_15 : decode cX10_read 15 = .ok (.iload_n 3, 1) := by decide +kernel
theorem dX10_read_16 : decode cX10_read 16 = .ok (.iload_n 2, 1) := by decide +kernel
theorem dX10_read_17 : decode cX10_read 17 = .ok (.if_icmp .ge 51, 3) := by decide +kernel
theorem dX10_read_20 : decode cX10_read 20 = .ok (.aload_n 0, 1) := by decide +kernel
theorem dX10_read_21 : decode cX10_read 21 = .ok (.aload_n 1, 1) := by decide +kernel
theorem dX10_read_22 : decode cX10_read 22 = .ok (.invokevirtual 18, 3) := by decide +kernel
theorem dX10_read_25 : decode cX10_read 25 = .ok (.aload_n 1, 1) := by decide +kernel
theorem dX10_read_26 : decode cX10_read 26 = .ok (.invokevirtual 14, 3) := by decide +kernel
theorem dX10_read_29 : decode cX10_read 29 = .ok (.ifCond .ne 10, 3) := by decide +kernel
theorem dX10_read_32 : decode cX10_read 32 = .ok (.aload_n 1, 1) := by decide +kernel
theorem dX10_read_33 : decode cX10_read 33 = .ok (.invokevirtual 24, 3) := by decide +kernel
theorem dX10_read_36 : decode cX10_read 36 = .ok (.ifCond .eq 8, 3) := by decide +kernel
theorem dX10_read_39 : decode cX10_read 39 = .ok (.aload_n 1, 1) := by decide +kernel
theorem dX10_read_40 : decode cX10_read 40 = .ok (.getfield 27, 3) := by decide +kernel
theorem dX10_read_43 : decode cX10_read 43 = .ok (.ireturn, 1) := by decide +kernel
theorem dX10_read_44 : decode cX10_read 44 = .ok (.aload_n 1, 1) := by decide +kernel
theorem dX10_read_45 : decode cX10_read 45 = .ok (.bipush 59, 2) := by decide +kernel
theorem dX10_read_47 : decode cX10_read 47 = .ok (.invokevirtual 31, 3) := by decide +kernel
theorem dX10_read_50 : decode cX10_read 50 = .ok (.ifCond .ne 12, 3) := by decide +kernel
theorem dX10_read_53 : decode cX10_read 53 = .ok (.aload_n 1, 1) := by decide +kernel
theorem dX10_read_54 : decode cX10_read 54 = .ok (.invokevirtual 35, 3) := by decide +kernel
theorem dX10_read_57 : decode cX10_read 57 = .ok (.aload_n 1, 1) := by decide +kernel
theorem dX10_read_58 : decode cX10_read 58 = .ok (.getfield 27, 3) := by decide +kernel
theorem dX10_read_61 : decode cX10_read 61 = .ok (.ireturn, 1) := by decide +kernel
theorem dX10_read_62 : decode cX10_read 62 = .ok (.iinc 3 1, 3) := by decide +kernel
theorem dX10_read_65 : decode cX10_read 65 = .ok (.goto (-50), 3) := by decide +kernel
theorem dX10_read_68 : decode cX10_read 68 = .ok (.aload_n 1, 1) := by decide +kernel
theorem dX10_read_69 : decode cX10_read 69 = .ok (.invokevirtual 35, 3) := by decide +kernel
theorem dX10_read_72 : decode cX10_read 72 = .ok (.aload_n 1, 1) := by decide +kernel
theorem dX10_read_73 : decode cX10_read 73 = .ok (.getfield 27, 3) := by decide +kernel
theorem dX10_read_76 : decode cX10_read 76 = .ok (.ireturn, 1) := by decide +kernel
theorem dX11_init_0 : decode cX11_init 0 = .ok (.aload_n 0, 1) := by decide +kernel
theorem dX11_init_1 : decode cX11_init 1 = .ok (.invokespecial 1, 3) := by decide +kernel
theorem dX11_init_4 : decode cX11_init 4 = .ok (.aload_n 0, 1) := by decide +kernel
theorem dX11_init_5 : decode cX11_init 5 = .ok (.new 7, 3) := by decide +kernel
theorem dX11_init_8 : decode cX11_init 8 = .ok (.dup, 1) := by decide +kernel
theorem dX11_init_9 : decode cX11_init 9 = .ok (.invokespecial 9, 3) := by decide +kernel
theorem dX11_init_12 : decode cX11_init 12 = .ok (.putfield 10, 3) := by decide +kernel
theorem dX11_init_15 : decode cX11_init 15 = .ok (.aload_n 0, 1) := by decide +kernel
theorem dX11_init_16 : decode cX11_init 16 = .ok (.new 16, 3) := by decide +kernel
theorem dX11_init_19 : decode cX11_init 19 = .ok (.dup, 1) := by decide +kernel
theorem dX11_init_20 : decode cX11_init 20 = .ok (.invokespecial 18, 3) := by decide +kernel
theorem dX11_init_23 : decode cX11_init 23 = .ok (.putfield 19, 3) := by decide +kernel
theorem dX11_init_26 : decode cX11_init 26 = .ok (.aload_n 0, 1) := by decide +kernel
theorem dX11_init_27 : decode cX11_init 27 = .ok (.new 23, 3) := by decide +kernel
theorem dX11_init_30 : decode cX11_init 30 = .ok (.dup, 1) := by decide +kernel
theorem dX11_init_31 : decode cX11_init 31 = .ok (.invokespecial 25, 3) := by decide +kernel
theorem dX11_init_34 : decode cX11_init 34 = .ok (.putfield 26, 3) := by decide +kernel
theorem dX11_init_37 : decode cX11_init 37 = .ok (.aload_n 0, 1) := by decide +kernel
theorem dX11_init_38 : decode cX11_init 38 = .ok (.new 30, 3) := by decide +kernel
theorem dX11_init_41 : decode cX11_init 41 = .ok (.dup, 1) := by decide +kernel
theorem dX11_init_42 : decode cX11_init 42 = .ok (.invokespecial 32, 3) := by decide +kernel
theorem dX11_init_45 : decode cX11_init 45 = .ok (.putfield 33, 3) := by decide +kernel
theorem dX11_init_48 : decode cX11_init 48 = .ok (.aload_n 0, 1) := by decide +kernel
theorem dX11_init_49 : decode cX11_init 49 = .ok (.new 37, 3) := by decide +kernel
theorem dX11_init_52 : decode cX11_init 52 = .ok (.dup, 1) := by decide +kernel
theorem dX11_init_53 : decode cX11_init 53 = .ok (.invokespecial 39, 3) := by decide +kernel
theorem dX11_init_56 : decode cX11_init 56 = .ok (.putfield 40, 3) := by decide +kernel
theorem dX11_init_59 : decode cX11_init 59 = .ok (.aload_n 0, 1) := by decide +kernel
theorem dX11_init_60 : decode cX11_init 60 = .ok (.new 44, 3) := by decide +kernel
theorem dX11_init_63 : decode cX11_init 63 = .ok (.dup, 1) := by decide +kernel
theorem dX11_init_64 : decode cX11_init 64 = .ok (.invokespecial 46, 3) := by decide +kernel
theorem dX11_init_67 : decode cX11_init 67 = .ok (.putfield 47, 3) := by decide +kernel
theorem dX11_init_70 : decode cX11_init 70 = .ok (.aload_n 0, 1) := by decide +kernel
theorem dX11_init_71 : decode cX11_init 71 = .ok (.new 51, 3) := by decide +kernel
theorem dX11_init_74 : decode cX11_init 74 = .ok (.dup, 1) := by decide +kernel
theorem dX11_init_75 : decode cX11_init 75 = .ok (.invokespecial 53, 3) := by decide +kernel
theorem dX11_init_78 : decode cX11_init 78 = .ok (.putfield 54, 3) := by decide +kernel
theorem dX11_init_81 : decode cX11_init 81 = .ok (.aload_n 0, 1) := by decide +kernel
theorem dX11_init_82 : decode cX11_init 82 = .ok (.new 51, 3) := by decide +kernel
theorem dX11_init_85 : decode cX11_init 85 = .ok (.dup, 1) := by decide +kernel
theorem dX11_init_86 : decode cX11_init 86 = .ok (.invokespecial 53, 3) := by decide +kernel
theorem dX11_init_89 : decode cX11_init 89 = .ok (.putfield 58, 3) := by decide +kernel
theorem dX11_init_92 : decode cX11_init 92 = .ok (.aload_n 0, 1) := by decide +kernel
theorem dX11_init_93 : decode cX11_init 93 = .ok (.new 51, 3) := by decide +kernel
theorem dX11_init_96 : decode cX11_init 96 = .ok (.dup, 1) := by decide +kernel
theorem dX11_init_97 : decode cX11_init 97 = .ok (.invokespecial 53, 3) := by decide +kernel
theorem dX11_init_100 : decode cX11_init 100 = .ok (.putfield 61, 3) := by decide +kernel
theorem dX11_init_103 : decode cX11_init 103 = .ok (.aload_n 0, 1) := by decide +kernel
theorem dX11_init_104 : decode cX11_init 104 = .ok (.new 64, 3) := by decide +kernel
theorem dX11_init_107 : decode cX11_init 107 = .ok (.dup, 1) := by decide +kernel
theorem dX11_init_108 : decode cX11_init 108 = .ok (.invokespecial 66, 3) := by decide +kernel
theorem dX11_init_111 : decode cX11_init 111 = .ok (.putfield 67, 3) := by decide +kernel
theorem dX11_init_114 : decode cX11_init 114 = .ok (.aload_n 0, 1) := by decide +kernel
theorem dX11_init_115 : decode cX11_init 115 = .ok (.iconst (-1), 1) := by decide +kernel
theorem dX11_init_116 : decode cX11_init 116 = .ok (.putfield 71, 3) := by decide +kernel
theorem dX11_init_119 : decode cX11_init 119 = .ok (.aload_n 0, 1) := by decide +kernel
theorem dX11_init_120 : decode cX11_init 120 = .ok (.sipush 137, 3) := by decide +kernel
theorem dX11_init_123 : decode cX11_init 123 = .ok (.newarray .int, 2) := by decide +kernel
theorem dX11_init_125 : decode cX11_init 125 = .ok (.putfield 75, 3) := by decide +kernel
theorem dX11_init_128 : decode cX11_init 128 = .ok (.aload_n 0, 1) := by decide +kernel
theorem dX11_init_129 : decode cX11_init 129 = .ok (.bipush 41, 2) := by decide +kernel
theorem dX11_init_131 : decode cX11_init 131 = .ok (.newarray .int, 2) := by decide +kernel
theorem dX11_init_133 : decode cX11_init 133 = .ok (.putfield 79, 3) := by decide +kernel
theorem dX11_init_136 : decode cX11_init 136 = .ok (.aload_n 0, 1) := by decide +kernel
theorem dX11_init_137 : decode cX11_init 137 = .ok (.sipush 289, 3) := by decide +kernel
theorem dX11_init_140 : decode cX11_init 140 = .ok (.newarray .int, 2) := by decide +kernel
theorem dX11_init_142 : decode cX11_init 142 = .ok (.putfield 82, 3) := by decide +kernel
theorem dX11_init_145 : decode cX11_init 145 = .ok (.return_, 1) := by decide +kernel
theorem dX11_feed_0 : decode cX11_feed 0 = .ok (.aload_n 0, 1) := by decide +kernel
theorem dX11_feed_1 : decode cX11_feed 1 = .ok (.getfield 10, 3) := by decide +kernel
theorem dX11_feed_4 : decode cX11_feed 4 = .ok (.invokevirtual 85, 3) := by decide +kernel
theorem dX11_feed_7 : decode cX11_feed 7 = .ok (.ifCond .ne 5, 3) := by decide +kernel
theorem dX11_feed_10 : decode cX11_feed 10 = .ok (.iconst (-1), 1) := by decide +kernel
theorem dX11_feed_11 : decode cX11_feed 11 = .ok (.ireturn, 1) := by decide +kernel
theorem dX11_feed_12 : decode cX11_feed 12 = .ok (.aload_n 0, 1) := by decide +kernel
theorem dX11_feed_13 : decode cX11_feed 13 = .ok (.getfield 10, 3) := by decide +kernel
theorem dX11_feed_16 : decode cX11_feed 16 = .ok (.iload_n 1, 1) := by decide +kernel
theorem dX11_feed_17 : decode cX11_feed 17 = .ok (.invokevirtual 89, 3) := by decide +kernel
theorem dX11_feed_20 : decode cX11_feed 20 = .ok (.aload_n 0, 1) := by decide +kernel
theorem dX11_feed_21 : decode cX11_feed 21 = .ok (.getfield 10, 3) := by decide +kernel
theorem dX11_feed_24 : decode cX11_feed 24 = .ok (.iload_n 2, 1) := by decide +kernel
theorem dX11_feed_25 : decode cX11_feed 25 = .ok (.invokevirtual 89, 3) := by decide +kernel
theorem dX11_feed_28 : decode cX11_feed 28 = .ok (.aload_n 0, 1) := by decide +kernel
theorem dX11_feed_29 : decode cX11_feed 29 = .ok (.getfield 10, 3) := by decide +kernel
theorem dX11_feed_32 : decode cX11_feed 32 = .ok (.iload_n 3, 1) := by decide +kernel
theorem dX11_feed_33 : decode cX11_feed 33 = .ok (.invokevirtual 89, 3) := by decide +kernel
theorem dX11_feed_36 : decode cX11_feed 36 = .ok (.aload_n 0, 1) := by decide +kernel
theorem dX11_feed_37 : decode cX11_feed 37 = .ok (.getfield 10, 3) := by decide +kernel
theorem dX11_feed_40 : decode cX11_feed 40 = .ok (.iload 4, 2) := by decide +kernel
theorem dX11_feed_42 : decode cX11_feed 42 = .ok (.invokevirtual 89, 3) := by decide +kernel
theorem dX11_feed_45 : decode cX11_feed 45 = .ok (.aload_n 0, 1) := by decide +kernel
theorem dX11_feed_46 : decode cX11_feed 46 = .ok (.getfield 10, 3) := by decide +kernel
theorem dX11_feed_49 : decode cX11_feed 49 = .ok (.iload 5, 2) := by decide +kernel
theorem dX11_feed_51 : decode cX11_feed 51 = .ok (.invokevirtual 89, 3) := by decide +kernel
theorem dX11_feed_54 : decode cX11_feed 54 = .ok (.aload_n 0, 1) := by decide +kernel
theorem dX11_feed_55 : decode cX11_feed 55 = .ok (.getfield 10, 3) := by decide +kernel
theorem dX11_feed_58 : decode cX11_feed 58 = .ok (.getfield 93, 3) := by decide +kernel
theorem dX11_feed_61 : decode cX11_feed 61 = .ok (.ireturn, 1) := by decide +kernel
theorem dX11_end_0 : decode cX11_end 0 = .ok (.aload_n 0, 1) := by decide +kernel
theorem dX11_end_1 : decode cX11_end 1 = .ok (.getfield 10, 3) := by decide +kernel
theorem dX11_end_4 : decode cX11_end 4 = .ok (.iload_n 1, 1) := by decide +kernel
theorem dX11_end_5 : decode cX11_end 5 = .ok (.invokevirtual 96, 3) := by decide +kernel
theorem dX11_end_8 : decode cX11_end 8 = .ok (.ireturn, 1) := by decide +kernel
theorem dX11_sky_0 : decode cX11_sky 0 = .ok (.aload_n 0, 1) := by decide +kernel
theorem dX11_sky_1 : decode cX11_sky 1 = .ok (.getfield 26, 3) := by decide +kernel
theorem dX11_sky_4 : decode cX11_sky 4 = .ok (.getfield 100, 3) := by decide +kernel
theorem dX11_sky_7 : decode cX11_sky 7 = .ok (.aload_n 0, 1) := by decide +kernel
theorem dX11_sky_8 : decode cX11_sky 8 = .ok (.getfield 54, 3) := by decide +kernel
theorem dX11_sky_11 : decode cX11_sky 11 = .ok (.invokevirtual 101, 3) := by decide +kernel
theorem dX11_sky_14 : decode cX11_sky 14 = .ok (.aload_n 0, 1) := by decide +kernel
theorem dX11_sky_15 : decode cX11_sky 15 = .ok (.aload_n 0, 1) := by decide +kernel
theorem dX11_sky_16 : decode cX11_sky 16 = .ok (.getfield 26, 3) := by decide +kernel
theorem dX11_sky_19 : decode cX11_sky 19 = .ok (.aload_n 0, 1) := by decide +kernel
theorem dX11_sky_20 : decode cX11_sky 20 = .ok (.getfield 10, 3) := by decide +kernel
theorem dX11_sky_23 : decode cX11_sky 23 = .ok (.bipush 14, 2) := by decide +kernel
theorem dX11_sky_25 : decode cX11_sky 25 = .ok (.invokevirtual 105, 3) := by decide +kernel
theorem dX11_sky_28 : decode cX11_sky 28 = .ok (.putfield 71, 3) := by decide +kernel
theorem dX11_sky_31 : decode cX11_sky 31 = .ok (.aload_n 0, 1) := by decide +kernel
theorem dX11_sky_32 : decode cX11_sky 32 = .ok (.getfield 71, 3) := by decide +kernel
theorem dX11_sky_35 : decode cX11_sky 35 = .ok (.iconst (-1), 1) := by decide +kernel
theorem dX11_sky_36 : decode cX11_sky 36 = .ok (.if_icmp .eq 11, 3) := by decide +kernel
theorem dX11_sky_39 : decode cX11_sky 39 = .ok (.new 109, 3) := by decide +kernel
theorem dX11_sky_42 : decode cX11_sky 42 = .ok (.dup, 1) := by decide +kernel
theorem dX11_sky_43 : decode cX11_sky 43 = .ok (.invokespecial 111, 3) := by decide +kernel
theorem dX11_sky_46 : decode cX11_sky 46 = .ok (.athrow, 1) := by decide +kernel
theorem dX11_sky_47 : decode cX11_sky 47 = .ok (.aload_n 0, 1) := by decide +kernel
theorem dX11_sky_48 : decode cX11_sky 48 = .ok (.getfield 54, 3) := by decide +kernel
theorem dX11_sky_51 : decode cX11_sky 51 = .ok (.getfield 112, 3) := by decide +kernel
theorem dX11_sky_54 : decode cX11_sky 54 = .ok (.bipush 12, 2) := by decide +kernel
theorem dX11_sky_56 : decode cX11_sky 56 = .ok (.if_icmp .lt 11, 3) := by decide +kernel
theorem dX11_sky_59 : decode cX11_sky 59 = .ok (.new 115, 3) := by decide +kernel
theorem dX11_sky_62 : decode cX11_sky 62 = .ok (.dup, 1) := by decide +kernel
theorem dX11_sky_63 : decode cX11_sky 63 = .ok (.invokespecial 117, 3) := by decide +kernel
theorem dX11_sky_66 : decode cX11_sky 66 = .ok (.athrow, 1) := by decide +kernel
theorem dX11_sky_67 : decode cX11_sky 67 = .ok (.aload_n 0, 1) := by decide +kernel
theorem dX11_sky_68 : decode cX11_sky 68 = .ok (.getfield 54, 3) := by decide +kernel
theorem dX11_sky_71 : decode cX11_sky 71 = .ok (.aload_n 0, 1) := by decide +kernel
theorem dX11_sky_72 : decode cX11_sky 72 = .ok (.getfield 26, 3) := by decide +kernel
theorem dX11_sky_75 : decode cX11_sky 75 = .ok (.getfield 100, 3) := by decide +kernel
theorem dX11_sky_78 : decode cX11_sky 78 = .ok (.invokevirtual 101, 3) := by decide +kernel
theorem dX11_sky_81 : decode cX11_sky 81 = .ok (.aload_n 0, 1) := by decide +kernel
theorem dX11_sky_82 : decode cX11_sky 82 = .ok (.getfield 54, 3) := by decide +kernel
theorem dX11_sky_85 : decode cX11_sky 85 = .ok (.dup, 1) := by decide +kernel
theorem dX11_sky_86 : decode cX11_sky 86 = .ok (.getfield 112, 3) := by decide +kernel
theorem dX11_sky_89 : decode cX11_sky 89 = .ok (.iconst 1, 1) := by decide +kernel
theorem dX11_sky_90 : decode cX11_sky 90 = .ok (.iadd, 1) := by decide +kernel
theorem dX11_sky_91 : decode cX11_sky 91 = .ok (.putfield 112, 3) := by decide +kernel
theorem dX11_sky_94 : decode cX11_sky 94 = .ok (.aload_n 0, 1) := by decide +kernel
theorem dX11_sky_95 : decode cX11_sky 95 = .ok (.getfield 40, 3) := by decide +kernel
theorem dX11_sky_98 : decode cX11_sky 98 = .ok (.invokevirtual 118, 3) := by decide +kernel
theorem dX11_sky_101 : decode cX11_sky 101 = .ok (.aload_n 0, 1) := by decide +kernel
theorem dX11_sky_102 : decode cX11_sky 102 = .ok (.getfield 54, 3) := by decide +kernel
theorem dX11_sky_105 : decode cX11_sky 105 = .ok (.getfield 112, 3) := by decide +kernel
theorem dX11_sky_108 : decode cX11_sky 108 = .ok (.ireturn, 1) := by decide +kernel
theorem dX11_law_0 : decode cX11_law 0 = .ok (.aload_n 0, 1) := by decide +kernel
theorem dX11_law_1 : decode cX11_law 1 = .ok (.getfield 33, 3) := by decide +kernel
theorem dX11_law_4 : decode cX11_law 4 = .ok (.getfield 121, 3) := by decide +kernel
theorem dX11_law_7 : decode cX11_law 7 = .ok (.invokevirtual 123, 3) := by decide +kernel
theorem dX11_law_10 : decode cX11_law 10 = .ok (.aload_n 0, 1) := by decide +kernel
theorem dX11_law_11 : decode cX11_law 11 = .ok (.aload_n 0, 1) := by decide +kernel
theorem dX11_law_12 : decode cX11_law 12 = .ok (.getfield 33, 3) := by decide +kernel
theorem dX11_law_15 : decode cX11_law 15 = .ok (.aload_n 0, 1) := by decide +kernel
theorem dX11_law_16 : decode cX11_law 16 = .ok (.getfield 10, 3) := by decide +kernel
theorem dX11_law_19 : decode cX11_law 19 = .ok (.bipush 12, 2) := by decide +kernel
theorem dX11_law_21 : decode cX11_law 21 = .ok (.invokevirtual 126, 3) := by decide +kernel
theorem dX11_law_24 : decode cX11_law 24 = .ok (.putfield 71, 3) := by decide +kernel
theorem dX11_law_27 : decode cX11_law 27 = .ok (.aload_n 0, 1) := by decide +kernel
theorem dX11_law_28 : decode cX11_law 28 = .ok (.getfield 71, 3) := by decide +kernel
theorem dX11_law_31 : decode cX11_law 31 = .ok (.iconst (-1), 1) := by decide +kernel
theorem dX11_law_32 : decode cX11_law 32 = .ok (.if_icmp .eq 11, 3) := by decide +kernel
theorem dX11_law_35 : decode cX11_law 35 = .ok (.new 109, 3) := by decide +kernel
theorem dX11_law_38 : decode cX11_law 38 = .ok (.dup, 1) := by decide +kernel
theorem dX11_law_39 : decode cX11_law 39 = .ok (.invokespecial 111, 3) := by decide +kernel
theorem dX11_law_42 : decode cX11_law 42 = .ok (.athrow, 1) := by decide +kernel
theorem dX11_law_43 : decode cX11_law 43 = .ok (.aload_n 0, 1) := by decide +kernel
theorem dX11_law_44 : decode cX11_law 44 = .ok (.getfield 19, 3) := by decide +kernel
theorem dX11_law_47 : decode cX11_law 47 = .ok (.getfield 127, 3) := by decide +kernel
theorem dX11_law_50 : decode cX11_law 50 = .ok (.aload_n 0, 1) := by decide +kernel
theorem dX11_law_51 : decode cX11_law 51 = .ok (.getfield 33, 3) := by decide +kernel
theorem dX11_law_54 : decode cX11_law 54 = .ok (.getfield 121, 3) := by decide +kernel
theorem dX11_law_57 : decode cX11_law 57 = .ok (.invokevirtual 130, 3) := by decide +kernel
theorem dX11_law_60 : decode cX11_law 60 = .ok (.aload_n 0, 1) := by decide +kernel
theorem dX11_law_61 : decode cX11_law 61 = .ok (.getfield 40, 3) := by decide +kernel
theorem dX11_law_64 : decode cX11_law 64 = .ok (.invokevirtual 118, 3) := by decide +kernel
theorem dX11_law_67 : decode cX11_law 67 = .ok (.aload_n 0, 1) := by decide +kernel
theorem dX11_law_68 : decode cX11_law 68 = .ok (.getfield 19, 3) := by decide +kernel
theorem dX11_law_71 : decode cX11_law 71 = .ok (.getfield 127, 3) := by decide +kernel
theorem dX11_law_74 : decode cX11_law 74 = .ok (.getfield 133, 3) := by decide +kernel
theorem dX11_law_77 : decode cX11_law 77 = .ok (.ireturn, 1) := by decide +kernel
theorem dX11_fault_0 : decode cX11_fault 0 = .ok (.aload_n 0, 1) := by decide +kernel
theorem dX11_fault_1 : decode cX11_fault 1 = .ok (.getfield 71, 3) := by decide +kernel
theorem dX11_fault_4 : decode cX11_fault 4 = .ok (.ireturn, 1) := by decide +kernel
theorem dX11_place_0 : decode cX11_place 0 = .ok (.iload_n 1, 1) := by decide +kernel
theorem dX11_place_1 : decode cX11_place 1 = .ok (.invokestatic 136, 3) := by decide +kernel
theorem dX11_place_4 : decode cX11_place 4 = .ok (.iload_n 2, 1) := by decide +kernel
theorem dX11_place_5 : decode cX11_place 5 = .ok (.tableswitch 224 0 9 #[55, 65, 75, 85, 102, 119, 129, 142, 166, 200], 55) := by decide +kernel
theorem dX11_place_60 : decode cX11_place 60 = .ok (.aload_n 0, 1) := by decide +kernel
theorem dX11_place_61 : decode cX11_place 61 = .ok (.getfield 54, 3) := by decide +kernel
theorem dX11_place_64 : decode cX11_place 64 = .ok (.getfield 139, 3) := by decide +kernel
theorem dX11_place_67 : decode cX11_place 67 = .ok (.iload_n 1, 1) := by decide +kernel
theorem dX11_place_68 : decode cX11_place 68 = .ok (.iaload, 1) := by decide +kernel
theorem dX11_place_69 : decode cX11_place 69 = .ok (.ireturn, 1) := by decide +kernel
theorem dX11_place_70 : decode cX11_place 70 = .ok (.aload_n 0, 1) := by decide +kernel
theorem dX11_place_71 : decode cX11_place 71 = .ok (.getfield 54, 3) := by decide +kernel
theorem dX11_place_74 : decode cX11_place 74 = .ok (.getfield 142, 3) := by decide +kernel
theorem dX11_place_77 : decode cX11_place 77 = .ok (.iload_n 1, 1) := by decide +kernel
theorem dX11_place_78 : decode cX11_place 78 = .ok (.iaload, 1) := by decide +kernel
theorem dX11_place_79 : decode cX11_place 79 = .ok (.ireturn, 1) := by decide +kernel
theorem dX11_place_80 : decode cX11_place 80 = .ok (.aload_n 0, 1) := by decide +kernel
theorem dX11_place_81 : decode cX11_place 81 = .ok (.getfield 54, 3) := by decide +kernel
theorem dX11_place_84 : decode cX11_place 84 = .ok (.getfield 145, 3) := by decide +kernel
theorem dX11_place_87 : decode cX11_place 87 = .ok (.iload_n 1, 1) := by decide +kernel
theorem dX11_place_88 : decode cX11_place 88 = .ok (.iaload, 1) := by decide +kernel
theorem dX11_place_89 : decode cX11_place 89 = .ok (.ireturn, 1) := by decide +kernel
theorem dX11_place_90 : decode cX11_place 90 = .ok (.aload_n 0, 1) := by decide +kernel
theorem dX11_place_91 : decode cX11_place 91 = .ok (.getfield 54, 3) := by decide +kernel
theorem dX11_place_94 : decode cX11_place 94 = .ok (.iload_n 1, 1) := by decide +kernel
theorem dX11_place_95 : decode cX11_place 95 = .ok (.invokevirtual 148, 3) := by decide +kernel
theorem dX11_place_98 : decode cX11_place 98 = .ok (.ifCond .eq 7, 3) := by decide +kernel
theorem dX11_place_101 : decode cX11_place 101 = .ok (.iconst 1, 1) := by decide +kernel
theorem dX11_place_102 : decode cX11_place 102 = .ok (.goto 4, 3) := by decide +kernel
theorem dX11_place_105 : decode cX11_place 105 = .ok (.iconst 0, 1) := by decide +kernel
theorem dX11_place_106 : decode cX11_place 106 = .ok (.ireturn, 1) := by decide +kernel
theorem dX11_place_107 : decode cX11_place 107 = .ok (.aload_n 0, 1) := by decide +kernel
theorem dX11_place_108 : decode cX11_place 108 = .ok (.getfield 54, 3) := by decide +kernel
theorem dX11_place_111 : decode cX11_place 111 = .ok (.iload_n 1, 1) := by decide +kernel
theorem dX11_place_112 : decode cX11_place 112 = .ok (.invokevirtual 151, 3) := by decide +kernel
theorem dX11_place_115 : decode cX11_place 115 = .ok (.ifCond .eq 7, 3) := by decide +kernel
theorem dX11_place_118 : decode cX11_place 118 = .ok (.iconst 1, 1) := by decide +kernel
theorem dX11_place_119 : decode cX11_place 119 = .ok (.goto 4, 3) := by decide +kernel
theorem dX11_place_122 : decode cX11_place 122 = .ok (.iconst 0, 1) := by decide +kernel
theorem dX11_place_123 : decode cX11_place 123 = .ok (.ireturn, 1) := by decide +kernel
theorem dX11_place_124 : decode cX11_place 124 = .ok (.aload_n 0, 1) := by decide +kernel
theorem dX11_place_125 : decode cX11_place 125 = .ok (.getfield 54, 3) := by decide +kernel
theorem dX11_place_128 : decode cX11_place 128 = .ok (.getfield 154, 3) := by decide +kernel
theorem dX11_place_131 : decode cX11_place 131 = .ok (.iload_n 1, 1) := by decide +kernel
theorem dX11_place_132 : decode cX11_place 132 = .ok (.iaload, 1) := by decide +kernel
theorem dX11_place_133 : decode cX11_place 133 = .ok (.ireturn, 1) := by decide +kernel
theorem dX11_place_134 : decode cX11_place 134 = .ok (.aload_n 0, 1) := by decide +kernel
theorem dX11_place_135 : decode cX11_place 135 = .ok (.getfield 19, 3) := by decide +kernel
theorem dX11_place_138 : decode cX11_place 138 = .ok (.aload_n 0, 1) := by decide +kernel
theorem dX11_place_139 : decode cX11_place 139 = .ok (.getfield 54, 3) := by decide +kernel
theorem dX11_place_142 : decode cX11_place 142 = .ok (.iload_n 1, 1) := by decide +kernel
theorem dX11_place_143 : decode cX11_place 143 = .ok (.invokevirtual 157, 3) := by decide +kernel
theorem dX11_place_146 : decode cX11_place 146 = .ok (.ireturn, 1) := by decide +kernel
theorem dX11_place_147 : decode cX11_place 147 = .ok (.aload_n 0, 1) := by decide +kernel
theorem dX11_place_148 : decode cX11_place 148 = .ok (.getfield 19, 3) := by decide +kernel
theorem dX11_place_151 : decode cX11_place 151 = .ok (.aload_n 0, 1) := by decide +kernel
theorem dX11_place_152 : decode cX11_place 152 = .ok (.getfield 54, 3) := by decide +kernel
theorem dX11_place_155 : decode cX11_place 155 = .ok (.invokevirtual 161, 3) := by decide +kernel
theorem dX11_place_158 : decode cX11_place 158 = .ok (.iload_n 1, 1) := by decide +kernel
theorem dX11_place_159 : decode cX11_place 159 = .ok (.invokestatic 165, 3) := by decide +kernel
theorem dX11_place_162 : decode cX11_place 162 = .ok (.ifCond .eq 7, 3) := by decide +kernel
theorem dX11_place_165 : decode cX11_place 165 = .ok (.iconst 1, 1) := by decide +kernel
theorem dX11_place_166 : decode cX11_place 166 = .ok (.goto 4, 3) := by decide +kernel
theorem dX11_place_169 : decode cX11_place 169 = .ok (.iconst 0, 1) := by decide +kernel
theorem dX11_place_170 : decode cX11_place 170 = .ok (.ireturn, 1) := by decide +kernel
theorem dX11_place_171 : decode cX11_place 171 = .ok (.aload_n 0, 1) := by decide +kernel
theorem dX11_place_172 : decode cX11_place 172 = .ok (.getfield 54, 3) := by decide +kernel
theorem dX11_place_175 : decode cX11_place 175 = .ok (.iload_n 1, 1) := by decide +kernel
theorem dX11_place_176 : decode cX11_place 176 = .ok (.aload_n 0, 1) := by decide +kernel
theorem dX11_place_177 : decode cX11_place 177 = .ok (.getfield 19, 3) := by decide +kernel
theorem dX11_place_180 : decode cX11_place 180 = .ok (.aload_n 0, 1) := by decide +kernel
theorem dX11_place_181 : decode cX11_place 181 = .ok (.getfield 54, 3) := by decide +kernel
theorem dX11_place_184 : decode cX11_place 184 = .ok (.invokevirtual 161, 3) := by decide +kernel
theorem dX11_place_187 : decode cX11_place 187 = .ok (.aload_n 0, 1) := by decide +kernel
theorem dX11_place_188 : decode cX11_place 188 = .ok (.getfield 54, 3) := by decide +kernel
theorem dX11_place_191 : decode cX11_place 191 = .ok (.getfield 169, 3) := by decide +kernel
theorem dX11_place_194 : decode cX11_place 194 = .ok (.aload_n 0, 1) := by decide +kernel
theorem dX11_place_195 : decode cX11_place 195 = .ok (.getfield 54, 3) := by decide +kernel
theorem dX11_place_198 : decode cX11_place 198 = .ok (.getfield 172, 3) := by decide +kernel
theorem dX11_place_201 : decode cX11_place 201 = .ok (.invokevirtual 175, 3) := by decide +kernel
theorem dX11_place_204 : decode cX11_place 204 = .ok (.ireturn, 1) := by decide +kernel
theorem dX11_place_205 : decode cX11_place 205 = .ok (.aload_n 0, 1) := by decide +kernel
theorem dX11_place_206 : decode cX11_place 206 = .ok (.getfield 19, 3) := by decide +kernel
theorem dX11_place_209 : decode cX11_place 209 = .ok (.aload_n 0, 1) := by decide +kernel
theorem dX11_place_210 : decode cX11_place 210 = .ok (.getfield 54, 3) := by decide +kernel
theorem dX11_place_213 : decode cX11_place 213 = .ok (.invokevirtual 179, 3) := by decide +kernel
theorem dX11_place_216 : decode cX11_place 216 = .ok (.iload_n 1, 1) := by decide +kernel
theorem dX11_place_217 : decode cX11_place 217 = .ok (.invokestatic 165, 3) := by decide +kernel
theorem dX11_place_220 : decode cX11_place 220 = .ok (.ifCond .eq 7, 3) := by decide +kernel
theorem dX11_place_223 : decode cX11_place 223 = .ok (.iconst 1, 1) := by decide +kernel
theorem dX11_place_224 : decode cX11_place 224 = .ok (.goto 4, 3) := by decide +kernel
theorem dX11_place_227 : decode cX11_place 227 = .ok (.iconst 0, 1) := by decide +kernel
theorem dX11_place_228 : decode cX11_place 228 = .ok (.ireturn, 1) := by decide +kernel
theorem dX11_place_229 : decode cX11_place 229 = .ok (.new 182, 3) := by decide +kernel
theorem dX11_place_232 : decode cX11_place 232 = .ok (.dup, 1) := by decide +kernel
theorem dX11_place_233 : decode cX11_place 233 = .ok (.invokespecial 184, 3) := by decide +kernel
theorem dX11_place_236 : decode cX11_place 236 = .ok (.athrow, 1) := by decide +kernel
theorem dX11_pinner_0 : decode cX11_pinner 0 = .ok (.aload_n 0, 1) := by decide +kernel
theorem dX11_pinner_1 : decode cX11_pinner 1 = .ok (.iload_n 1, 1) := by decide +kernel
theorem dX11_pinner_2 : decode cX11_pinner 2 = .ok (.invokevirtual 185, 3) := by decide +kernel
theorem dX11_pinner_5 : decode cX11_pinner 5 = .ok (.iload_n 2, 1) := by decide +kernel
theorem dX11_pinner_6 : decode cX11_pinner 6 = .ok (.tableswitch 65 0 2 #[26, 39, 52], 26) := by decide +kernel
theorem dX11_pinner_32 : decode cX11_pinner 32 = .ok (.aload_n 0, 1) := by decide +kernel
theorem dX11_pinner_33 : decode cX11_pinner 33 = .ok (.getfield 54, 3) := by decide +kernel
theorem dX11_pinner_36 : decode cX11_pinner 36 = .ok (.getfield 188, 3) := by decide +kernel
theorem dX11_pinner_39 : decode cX11_pinner 39 = .ok (.getfield 192, 3) := by decide +kernel
theorem dX11_pinner_42 : decode cX11_pinner 42 = .ok (.iload_n 1, 1) := by decide +kernel
theorem dX11_pinner_43 : decode cX11_pinner 43 = .ok (.iaload, 1) := by decide +kernel
theorem dX11_pinner_44 : decode cX11_pinner 44 = .ok (.ireturn, 1) := by decide +kernel
theorem dX11_pinner_45 : decode cX11_pinner 45 = .ok (.aload_n 0, 1) := by decide +kernel
theorem dX11_pinner_46 : decode cX11_pinner 46 = .ok (.getfield 54, 3) := by decide +kernel
theorem dX11_pinner_49 : decode cX11_pinner 49 = .ok (.getfield 188, 3) := by decide +kernel
theorem dX11_pinner_52 : decode cX11_pinner 52 = .ok (.getfield 197, 3) := by decide +kernel
theorem dX11_pinner_55 : decode cX11_pinner 55 = .ok (.iload_n 1, 1) := by decide +kernel
theorem dX11_pinner_56 : decode cX11_pinner 56 = .ok (.iaload, 1) := by decide +kernel
theorem dX11_pinner_57 : decode cX11_pinner 57 = .ok (.ireturn, 1) := by decide +kernel
theorem dX11_pinner_58 : decode cX11_pinner 58 = .ok (.aload_n 0, 1) := by decide +kernel
theorem dX11_pinner_59 : decode cX11_pinner 59 = .ok (.getfield 54, 3) := by decide +kernel
theorem dX11_pinner_62 : decode cX11_pinner 62 = .ok (.getfield 188, 3) := by decide +kernel
theorem dX11_pinner_65 : decode cX11_pinner 65 = .ok (.getfield 200, 3) := by decide +kernel
theorem dX11_pinner_68 : decode cX11_pinner 68 = .ok (.iload_n 1, 1) := by decide +kernel
theorem dX11_pinner_69 : decode cX11_pinner 69 = .ok (.iaload, 1) := by decide +kernel
theorem dX11_pinner_70 : decode cX11_pinner 70 = .ok (.ireturn, 1) := by decide +kernel
theorem dX11_pinner_71 : decode cX11_pinner 71 = .ok (.new 182, 3) := by decide +kernel
theorem dX11_pinner_74 : decode cX11_pinner 74 = .ok (.dup, 1) := by decide +kernel
theorem dX11_pinner_75 : decode cX11_pinner 75 = .ok (.invokespecial 184, 3) := by decide +kernel
theorem dX11_pinner_78 : decode cX11_pinner 78 = .ok (.athrow, 1) := by decide +kernel
theorem dX11_rusts_0 : decode cX11_rusts 0 = .ok (.iload_n 1, 1) := by decide +kernel
theorem dX11_rusts_1 : decode cX11_rusts 1 = .ok (.invokestatic 136, 3) := by decide +kernel
theorem dX11_rusts_4 : decode cX11_rusts 4 = .ok (.aload_n 0, 1) := by decide +kernel
theorem dX11_rusts_5 : decode cX11_rusts 5 = .ok (.getfield 19, 3) := by decide +kernel
theorem dX11_rusts_8 : decode cX11_rusts 8 = .ok (.aload_n 0, 1) := by decide +kernel
theorem dX11_rusts_9 : decode cX11_rusts 9 = .ok (.getfield 54, 3) := by decide +kernel
theorem dX11_rusts_12 : decode cX11_rusts 12 = .ok (.iload_n 1, 1) := by decide +kernel
theorem dX11_rusts_13 : decode cX11_rusts 13 = .ok (.invokevirtual 203, 3) := by decide +kernel
theorem dX11_rusts_16 : decode cX11_rusts 16 = .ok (.ireturn, 1) := by decide +kernel
theorem dX11_pin_0 : decode cX11_pin 0 = .ok (.aload_n 0, 1) := by decide +kernel
theorem dX11_pin_1 : decode cX11_pin 1 = .ok (.iload_n 1, 1) := by decide +kernel
theorem dX11_pin_2 : decode cX11_pin 2 = .ok (.invokevirtual 185, 3) := by decide +kernel
theorem dX11_pin_5 : decode cX11_pin 5 = .ok (.aload_n 0, 1) := by decide +kernel
theorem dX11_pin_6 : decode cX11_pin 6 = .ok (.getfield 54, 3) := by decide +kernel
theorem dX11_pin_9 : decode cX11_pin 9 = .ok (.getfield 188, 3) := by decide +kernel
theorem dX11_pin_12 : decode cX11_pin 12 = .ok (.getfield 192, 3) := by decide +kernel
theorem dX11_pin_15 : decode cX11_pin 15 = .ok (.iload_n 1, 1) := by decide +kernel
theorem dX11_pin_16 : decode cX11_pin 16 = .ok (.iaload, 1) := by decide +kernel
theorem dX11_pin_17 : decode cX11_pin 17 = .ok (.istore_n 2, 1) := by decide +kernel
theorem dX11_pin_18 : decode cX11_pin 18 = .ok (.aload_n 0, 1) := by decide +kernel
theorem dX11_pin_19 : decode cX11_pin 19 = .ok (.getfield 54, 3) := by decide +kernel
theorem dX11_pin_22 : decode cX11_pin 22 = .ok (.iload_n 2, 1) := by decide +kernel
theorem dX11_pin_23 : decode cX11_pin 23 = .ok (.invokevirtual 148, 3) := by decide +kernel
theorem dX11_pin_26 : decode cX11_pin 26 = .ok (.ifCond .eq 30, 3) := by decide +kernel
theorem dX11_pin_29 : decode cX11_pin 29 = .ok (.aload_n 0, 1) := by decide +kernel
theorem dX11_pin_30 : decode cX11_pin 30 = .ok (.getfield 54, 3) := by decide +kernel
theorem dX11_pin_33 : decode cX11_pin 33 = .ok (.iload_n 2, 1) := by decide +kernel
theorem dX11_pin_34 : decode cX11_pin 34 = .ok (.invokevirtual 151, 3) := by decide +kernel
theorem dX11_pin_37 : decode cX11_pin 37 = .ok (.ifCond .ne 19, 3) := by decide +kernel
theorem dX11_pin_40 : decode cX11_pin 40 = .ok (.aload_n 0, 1) := by decide +kernel
theorem dX11_pin_41 : decode cX11_pin 41 = .ok (.getfield 54, 3) := by decide +kernel
theorem dX11_pin_44 : decode cX11_pin 44 = .ok (.getfield 188, 3) := by decide +kernel
theorem dX11_pin_47 : decode cX11_pin 47 = .ok (.getfield 200, 3) := by decide +kernel
theorem dX11_pin_50 : decode cX11_pin 50 = .ok (.iload_n 1, 1) := by decide +kernel
theorem dX11_pin_51 : decode cX11_pin 51 = .ok (.iaload, 1) := by decide +kernel
theorem dX11_pin_52 : decode cX11_pin 52 = .ok (.iconst 1, 1) := by decide +kernel
theorem dX11_pin_53 : decode cX11_pin 53 = .ok (.if_icmp .ge 11, 3) := by decide +kernel
theorem dX11_pin_56 : decode cX11_pin 56 = .ok (.new 206, 3) := by decide +kernel
theorem dX11_pin_59 : decode cX11_pin 59 = .ok (.dup, 1) := by decide +kernel
theorem dX11_pin_60 : decode cX11_pin 60 = .ok (.invokespecial 208, 3) := by decide +kernel
theorem dX11_pin_63 : decode cX11_pin 63 = .ok (.athrow, 1) := by decide +kernel
theorem dX11_pin_64 : decode cX11_pin 64 = .ok (.aload_n 0, 1) := by decide +kernel
theorem dX11_pin_65 : decode cX11_pin 65 = .ok (.getfield 40, 3) := by decide +kernel
theorem dX11_pin_68 : decode cX11_pin 68 = .ok (.aload_n 0, 1) := by decide +kernel
theorem dX11_pin_69 : decode cX11_pin 69 = .ok (.getfield 54, 3) := by decide +kernel
theorem dX11_pin_72 : decode cX11_pin 72 = .ok (.invokevirtual 209, 3) := by decide +kernel
theorem dX11_pin_75 : decode cX11_pin 75 = .ok (.aload_n 0, 1) := by decide +kernel
theorem dX11_pin_76 : decode cX11_pin 76 = .ok (.getfield 54, 3) := by decide +kernel
theorem dX11_pin_79 : decode cX11_pin 79 = .ok (.getfield 188, 3) := by decide +kernel
theorem dX11_pin_82 : decode cX11_pin 82 = .ok (.getfield 200, 3) := by decide +kernel
theorem dX11_pin_85 : decode cX11_pin 85 = .ok (.iload_n 1, 1) := by decide +kernel
theorem dX11_pin_86 : decode cX11_pin 86 = .ok (.dup2, 1) := by decide +kernel
theorem dX11_pin_87 : decode cX11_pin 87 = .ok (.iaload, 1) := by decide +kernel
theorem dX11_pin_88 : decode cX11_pin 88 = .ok (.iconst 1, 1) := by decide +kernel
theorem dX11_pin_89 : decode cX11_pin 89 = .ok (.isub, 1) := by decide +kernel
theorem dX11_pin_90 : decode cX11_pin 90 = .ok (.iastore, 1) := by decide +kernel
theorem dX11_pin_91 : decode cX11_pin 91 = .ok (.aload_n 0, 1) := by decide +kernel
theorem dX11_pin_92 : decode cX11_pin 92 = .ok (.getfield 54, 3) := by decide +kernel
