theorem dX12_laysSets_36 : decode cX12_laysSets 36 = .ok (.invokevirtual 392, 3) := by decide +kernel
theorem dX12_laysSets_39 : decode cX12_laysSets 39 = .ok (.ifCond .ne 6, 3) := by decide +kernel
theorem dX12_laysSets_42 : decode cX12_laysSets 42 = .ok (.goto 23, 3) := by decide +kernel
theorem dX12_laysSets_45 : decode cX12_laysSets 45 = .ok (.aload_n 0, 1) := by decide +kernel
theorem dX12_laysSets_46 : decode cX12_laysSets 46 = .ok (.getfield 45, 3) := by decide +kernel
theorem dX12_laysSets_49 : decode cX12_laysSets 49 = .ok (.aload_n 0, 1) := by decide +kernel
theorem dX12_laysSets_50 : decode cX12_laysSets 50 = .ok (.getfield 389, 3) := by decide +kernel
theorem dX12_laysSets_53 : decode cX12_laysSets 53 = .ok (.iload_n 1, 1) := by decide +kernel
theorem dX12_laysSets_54 : decode cX12_laysSets 54 = .ok (.iastore, 1) := by decide +kernel
theorem dX12_laysSets_55 : decode cX12_laysSets 55 = .ok (.aload_n 0, 1) := by decide +kernel
theorem dX12_laysSets_56 : decode cX12_laysSets 56 = .ok (.dup, 1) := by decide +kernel
theorem dX12_laysSets_57 : decode cX12_laysSets 57 = .ok (.getfield 389, 3) := by decide +kernel
theorem dX12_laysSets_60 : decode cX12_laysSets 60 = .ok (.iconst 1, 1) := by decide +kernel
theorem dX12_laysSets_61 : decode cX12_laysSets 61 = .ok (.iadd, 1) := by decide +kernel
theorem dX12_laysSets_62 : decode cX12_laysSets 62 = .ok (.putfield 389, 3) := by decide +kernel
theorem dX12_laysSets_65 : decode cX12_laysSets 65 = .ok (.iinc 1 1, 3) := by decide +kernel
theorem dX12_laysSets_68 : decode cX12_laysSets 68 = .ok (.goto (-61), 3) := by decide +kernel
theorem dX12_laysSets_71 : decode cX12_laysSets 71 = .ok (.return_, 1) := by decide +kernel
theorem dX12_seen_0 : decode cX12_seen 0 = .ok (.aload_n 0, 1) := by decide +kernel
theorem dX12_seen_1 : decode cX12_seen 1 = .ok (.invokevirtual 236, 3) := by decide +kernel
theorem dX12_seen_4 : decode cX12_seen 4 = .ok (.aload_n 0, 1) := by decide +kernel
theorem dX12_seen_5 : decode cX12_seen 5 = .ok (.aload_n 0, 1) := by decide +kernel
theorem dX12_seen_6 : decode cX12_seen 6 = .ok (.invokevirtual 395, 3) := by decide +kernel
theorem dX12_seen_9 : decode cX12_seen 9 = .ok (.ifCond .ne 7, 3) := by decide +kernel
theorem dX12_seen_12 : decode cX12_seen 12 = .ok (.iconst 1, 1) := by decide +kernel
theorem dX12_seen_13 : decode cX12_seen 13 = .ok (.goto 4, 3) := by decide +kernel
theorem dX12_seen_16 : decode cX12_seen 16 = .ok (.iconst 0, 1) := by decide +kernel
theorem dX12_seen_17 : decode cX12_seen 17 = .ok (.iconst 1, 1) := by decide +kernel
theorem dX12_seen_18 : decode cX12_seen 18 = .ok (.invokevirtual 247, 3) := by decide +kernel
theorem dX12_seen_21 : decode cX12_seen 21 = .ok (.ifCond .eq 5, 3) := by decide +kernel
theorem dX12_seen_24 : decode cX12_seen 24 = .ok (.iconst 0, 1) := by decide +kernel
theorem dX12_seen_25 : decode cX12_seen 25 = .ok (.ireturn, 1) := by decide +kernel
theorem dX12_seen_26 : decode cX12_seen 26 = .ok (.aload_n 0, 1) := by decide +kernel
theorem dX12_seen_27 : decode cX12_seen 27 = .ok (.invokevirtual 398, 3) := by decide +kernel
theorem dX12_seen_30 : decode cX12_seen 30 = .ok (.aload_n 0, 1) := by decide +kernel
theorem dX12_seen_31 : decode cX12_seen 31 = .ok (.getfield 389, 3) := by decide +kernel
theorem dX12_seen_34 : decode cX12_seen 34 = .ok (.ifCond .ne 7, 3) := by decide +kernel
theorem dX12_seen_37 : decode cX12_seen 37 = .ok (.iconst 0, 1) := by decide +kernel
theorem dX12_seen_38 : decode cX12_seen 38 = .ok (.goto 5, 3) := by decide +kernel
theorem dX12_seen_41 : decode cX12_seen 41 = .ok (.ldc 80, 2) := by decide +kernel
theorem dX12_seen_43 : decode cX12_seen 43 = .ok (.istore_n 2, 1) := by decide +kernel
theorem dX12_seen_44 : decode cX12_seen 44 = .ok (.iconst 0, 1) := by decide +kernel
theorem dX12_seen_45 : decode cX12_seen 45 = .ok (.istore_n 3, 1) := by decide +kernel
theorem dX12_seen_46 : decode cX12_seen 46 = .ok (.iload_n 3, 1) := by decide +kernel
theorem dX12_seen_47 : decode cX12_seen 47 = .ok (.aload_n 0, 1) := by decide +kernel
theorem dX12_seen_48 : decode cX12_seen 48 = .ok (.getfield 389, 3) := by decide +kernel
theorem dX12_seen_51 : decode cX12_seen 51 = .ok (.if_icmp .ge 18, 3) := by decide +kernel
theorem dX12_seen_54 : decode cX12_seen 54 = .ok (.iload_n 2, 1) := by decide +kernel
theorem dX12_seen_55 : decode cX12_seen 55 = .ok (.aload_n 0, 1) := by decide +kernel
theorem dX12_seen_56 : decode cX12_seen 56 = .ok (.getfield 45, 3) := by decide +kernel
theorem dX12_seen_59 : decode cX12_seen 59 = .ok (.iload_n 3, 1) := by decide +kernel
theorem dX12_seen_60 : decode cX12_seen 60 = .ok (.iaload, 1) := by decide +kernel
theorem dX12_seen_61 : decode cX12_seen 61 = .ok (.iand, 1) := by decide +kernel
theorem dX12_seen_62 : decode cX12_seen 62 = .ok (.istore_n 2, 1) := by decide +kernel
theorem dX12_seen_63 : decode cX12_seen 63 = .ok (.iinc 3 1, 3) := by decide +kernel
theorem dX12_seen_66 : decode cX12_seen 66 = .ok (.goto (-20), 3) := by decide +kernel
theorem dX12_seen_69 : decode cX12_seen 69 = .ok (.iload_n 1, 1) := by decide +kernel
theorem dX12_seen_70 : decode cX12_seen 70 = .ok (.ifCond .eq 7, 3) := by decide +kernel
theorem dX12_seen_73 : decode cX12_seen 73 = .ok (.iload_n 2, 1) := by decide +kernel
theorem dX12_seen_74 : decode cX12_seen 74 = .ok (.goto 7, 3) := by decide +kernel
theorem dX12_seen_77 : decode cX12_seen 77 = .ok (.aload_n 0, 1) := by decide +kernel
theorem dX12_seen_78 : decode cX12_seen 78 = .ok (.getfield 389, 3) := by decide +kernel
theorem dX12_seen_81 : decode cX12_seen 81 = .ok (.ireturn, 1) := by decide +kernel
theorem dX12_greatestPart_0 : decode cX12_greatestPart 0 = .ok (.iconst 0, 1) := by decide +kernel
theorem dX12_greatestPart_1 : decode cX12_greatestPart 1 = .ok (.istore_n 2, 1) := by decide +kernel
theorem dX12_greatestPart_2 : decode cX12_greatestPart 2 = .ok (.iconst 0, 1) := by decide +kernel
theorem dX12_greatestPart_3 : decode cX12_greatestPart 3 = .ok (.istore_n 3, 1) := by decide +kernel
theorem dX12_greatestPart_4 : decode cX12_greatestPart 4 = .ok (.iload_n 3, 1) := by decide +kernel
theorem dX12_greatestPart_5 : decode cX12_greatestPart 5 = .ok (.bipush 40, 2) := by decide +kernel
theorem dX12_greatestPart_7 : decode cX12_greatestPart 7 = .ok (.if_icmp .gt 63, 3) := by decide +kernel
theorem dX12_greatestPart_10 : decode cX12_greatestPart 10 = .ok (.iconst 0, 1) := by decide +kernel
theorem dX12_greatestPart_11 : decode cX12_greatestPart 11 = .ok (.istore 4, 2) := by decide +kernel
theorem dX12_greatestPart_13 : decode cX12_greatestPart 13 = .ok (.iconst 0, 1) := by decide +kernel
theorem dX12_greatestPart_14 : decode cX12_greatestPart 14 = .ok (.istore 5, 2) := by decide +kernel
theorem dX12_greatestPart_16 : decode cX12_greatestPart 16 = .ok (.iload 5, 2) := by decide +kernel
theorem dX12_greatestPart_18 : decode cX12_greatestPart 18 = .ok (.aload_n 0, 1) := by decide +kernel
theorem dX12_greatestPart_19 : decode cX12_greatestPart 19 = .ok (.getfield 389, 3) := by decide +kernel
theorem dX12_greatestPart_22 : decode cX12_greatestPart 22 = .ok (.if_icmp .ge 35, 3) := by decide +kernel
theorem dX12_greatestPart_25 : decode cX12_greatestPart 25 = .ok (.iload 4, 2) := by decide +kernel
theorem dX12_greatestPart_27 : decode cX12_greatestPart 27 = .ok (.aload_n 0, 1) := by decide +kernel
theorem dX12_greatestPart_28 : decode cX12_greatestPart 28 = .ok (.getfield 48, 3) := by decide +kernel
theorem dX12_greatestPart_31 : decode cX12_greatestPart 31 = .ok (.bipush 16, 2) := by decide +kernel
theorem dX12_greatestPart_33 : decode cX12_greatestPart 33 = .ok (.iload 5, 2) := by decide +kernel
theorem dX12_greatestPart_35 : decode cX12_greatestPart 35 = .ok (.imul, 1) := by decide +kernel
theorem dX12_greatestPart_36 : decode cX12_greatestPart 36 = .ok (.iload_n 1, 1) := by decide +kernel
theorem dX12_greatestPart_37 : decode cX12_greatestPart 37 = .ok (.iadd, 1) := by decide +kernel
theorem dX12_greatestPart_38 : decode cX12_greatestPart 38 = .ok (.iaload, 1) := by decide +kernel
theorem dX12_greatestPart_39 : decode cX12_greatestPart 39 = .ok (.iload_n 3, 1) := by decide +kernel
theorem dX12_greatestPart_40 : decode cX12_greatestPart 40 = .ok (.if_icmp .ne 7, 3) := by decide +kernel
theorem dX12_greatestPart_43 : decode cX12_greatestPart 43 = .ok (.iconst 1, 1) := by decide +kernel
theorem dX12_greatestPart_44 : decode cX12_greatestPart 44 = .ok (.goto 4, 3) := by decide +kernel
theorem dX12_greatestPart_47 : decode cX12_greatestPart 47 = .ok (.iconst 0, 1) := by decide +kernel
theorem dX12_greatestPart_48 : decode cX12_greatestPart 48 = .ok (.iadd, 1) := by decide +kernel
theorem dX12_greatestPart_49 : decode cX12_greatestPart 49 = .ok (.istore 4, 2) := by decide +kernel
theorem dX12_greatestPart_51 : decode cX12_greatestPart 51 = .ok (.iinc 5 1, 3) := by decide +kernel
theorem dX12_greatestPart_54 : decode cX12_greatestPart 54 = .ok (.goto (-38), 3) := by decide +kernel
theorem dX12_greatestPart_57 : decode cX12_greatestPart 57 = .ok (.iload_n 2, 1) := by decide +kernel
theorem dX12_greatestPart_58 : decode cX12_greatestPart 58 = .ok (.iload 4, 2) := by decide +kernel
theorem dX12_greatestPart_60 : decode cX12_greatestPart 60 = .ok (.invokestatic 293, 3) := by decide +kernel
theorem dX12_greatestPart_63 : decode cX12_greatestPart 63 = .ok (.istore_n 2, 1) := by decide +kernel
theorem dX12_greatestPart_64 : decode cX12_greatestPart 64 = .ok (.iinc 3 1, 3) := by decide +kernel
theorem dX12_greatestPart_67 : decode cX12_greatestPart 67 = .ok (.goto (-63), 3) := by decide +kernel
theorem dX12_greatestPart_70 : decode cX12_greatestPart 70 = .ok (.iload_n 2, 1) := by decide +kernel
theorem dX12_greatestPart_71 : decode cX12_greatestPart 71 = .ok (.ireturn, 1) := by decide +kernel
theorem dX12_climb_0 : decode cX12_climb 0 = .ok (.aload_n 0, 1) := by decide +kernel
theorem dX12_climb_1 : decode cX12_climb 1 = .ok (.invokevirtual 236, 3) := by decide +kernel
theorem dX12_climb_4 : decode cX12_climb 4 = .ok (.aload_n 0, 1) := by decide +kernel
theorem dX12_climb_5 : decode cX12_climb 5 = .ok (.aload_n 0, 1) := by decide +kernel
theorem dX12_climb_6 : decode cX12_climb 6 = .ok (.invokevirtual 395, 3) := by decide +kernel
theorem dX12_climb_9 : decode cX12_climb 9 = .ok (.ifCond .ne 7, 3) := by decide +kernel
theorem dX12_climb_12 : decode cX12_climb 12 = .ok (.iconst 1, 1) := by decide +kernel
theorem dX12_climb_13 : decode cX12_climb 13 = .ok (.goto 4, 3) := by decide +kernel
theorem dX12_climb_16 : decode cX12_climb 16 = .ok (.iconst 0, 1) := by decide +kernel
theorem dX12_climb_17 : decode cX12_climb 17 = .ok (.iconst 1, 1) := by decide +kernel
theorem dX12_climb_18 : decode cX12_climb 18 = .ok (.invokevirtual 247, 3) := by decide +kernel
theorem dX12_climb_21 : decode cX12_climb 21 = .ok (.ifCond .eq 5, 3) := by decide +kernel
theorem dX12_climb_24 : decode cX12_climb 24 = .ok (.iconst 0, 1) := by decide +kernel
theorem dX12_climb_25 : decode cX12_climb 25 = .ok (.ireturn, 1) := by decide +kernel
theorem dX12_climb_26 : decode cX12_climb 26 = .ok (.aload_n 0, 1) := by decide +kernel
theorem dX12_climb_27 : decode cX12_climb 27 = .ok (.invokevirtual 398, 3) := by decide +kernel
theorem dX12_climb_30 : decode cX12_climb 30 = .ok (.iconst (-1), 1) := by decide +kernel
theorem dX12_climb_31 : decode cX12_climb 31 = .ok (.istore_n 1, 1) := by decide +kernel
theorem dX12_climb_32 : decode cX12_climb 32 = .ok (.ldc_w 382, 3) := by decide +kernel
theorem dX12_climb_35 : decode cX12_climb 35 = .ok (.istore_n 2, 1) := by decide +kernel
theorem dX12_climb_36 : decode cX12_climb 36 = .ok (.iconst 0, 1) := by decide +kernel
theorem dX12_climb_37 : decode cX12_climb 37 = .ok (.istore_n 3, 1) := by decide +kernel
theorem dX12_climb_38 : decode cX12_climb 38 = .ok (.iload_n 3, 1) := by decide +kernel
theorem dX12_climb_39 : decode cX12_climb 39 = .ok (.bipush 16, 2) := by decide +kernel
theorem dX12_climb_41 : decode cX12_climb 41 = .ok (.if_icmp .ge 57, 3) := by decide +kernel
theorem dX12_climb_44 : decode cX12_climb 44 = .ok (.aload_n 0, 1) := by decide +kernel
theorem dX12_climb_45 : decode cX12_climb 45 = .ok (.getfield 389, 3) := by decide +kernel
theorem dX12_climb_48 : decode cX12_climb 48 = .ok (.iconst 1, 1) := by decide +kernel
theorem dX12_climb_49 : decode cX12_climb 49 = .ok (.if_icmp .le 49, 3) := by decide +kernel
theorem dX12_climb_52 : decode cX12_climb 52 = .ok (.aload_n 0, 1) := by decide +kernel
theorem dX12_climb_53 : decode cX12_climb 53 = .ok (.iload_n 3, 1) := by decide +kernel
theorem dX12_climb_54 : decode cX12_climb 54 = .ok (.invokevirtual 268, 3) := by decide +kernel
theorem dX12_climb_57 : decode cX12_climb 57 = .ok (.ifCond .eq 11, 3) := by decide +kernel
theorem dX12_climb_60 : decode cX12_climb 60 = .ok (.aload_n 0, 1) := by decide +kernel
theorem dX12_climb_61 : decode cX12_climb 61 = .ok (.iload_n 3, 1) := by decide +kernel
theorem dX12_climb_62 : decode cX12_climb 62 = .ok (.invokevirtual 401, 3) := by decide +kernel
theorem dX12_climb_65 : decode cX12_climb 65 = .ok (.goto 6, 3) := by decide +kernel
theorem dX12_climb_68 : decode cX12_climb 68 = .ok (.ldc_w 382, 3) := by decide +kernel
theorem dX12_climb_71 : decode cX12_climb 71 = .ok (.istore 4, 2) := by decide +kernel
theorem dX12_climb_73 : decode cX12_climb 73 = .ok (.iload 4, 2) := by decide +kernel
theorem dX12_climb_75 : decode cX12_climb 75 = .ok (.iload_n 2, 1) := by decide +kernel
theorem dX12_climb_76 : decode cX12_climb 76 = .ok (.if_icmp .ge 7, 3) := by decide +kernel
theorem dX12_climb_79 : decode cX12_climb 79 = .ok (.iload_n 3, 1) := by decide +kernel
theorem dX12_climb_80 : decode cX12_climb 80 = .ok (.goto 4, 3) := by decide +kernel
theorem dX12_climb_83 : decode cX12_climb 83 = .ok (.iload_n 1, 1) := by decide +kernel
theorem dX12_climb_84 : decode cX12_climb 84 = .ok (.istore_n 1, 1) := by decide +kernel
theorem dX12_climb_85 : decode cX12_climb 85 = .ok (.iload_n 2, 1) := by decide +kernel
theorem dX12_climb_86 : decode cX12_climb 86 = .ok (.iload 4, 2) := by decide +kernel
theorem dX12_climb_88 : decode cX12_climb 88 = .ok (.invokestatic 259, 3) := by decide +kernel
theorem dX12_climb_91 : decode cX12_climb 91 = .ok (.istore_n 2, 1) := by decide +kernel
theorem dX12_climb_92 : decode cX12_climb 92 = .ok (.iinc 3 1, 3) := by decide +kernel
theorem dX12_climb_95 : decode cX12_climb 95 = .ok (.goto (-57), 3) := by decide +kernel
theorem dX12_climb_98 : decode cX12_climb 98 = .ok (.iload_n 1, 1) := by decide +kernel
theorem dX12_climb_99 : decode cX12_climb 99 = .ok (.ireturn, 1) := by decide +kernel
theorem dX12_canDuke_0 : decode cX12_canDuke 0 = .ok (.iload_n 1, 1) := by decide +kernel
theorem dX12_canDuke_1 : decode cX12_canDuke 1 = .ok (.bipush 16, 2) := by decide +kernel
theorem dX12_canDuke_3 : decode cX12_canDuke 3 = .ok (.if_icmp .eq 11, 3) := by decide +kernel
theorem dX12_canDuke_6 : decode cX12_canDuke 6 = .ok (.aload_n 0, 1) := by decide +kernel
theorem dX12_canDuke_7 : decode cX12_canDuke 7 = .ok (.iload_n 1, 1) := by decide +kernel
theorem dX12_canDuke_8 : decode cX12_canDuke 8 = .ok (.invokevirtual 122, 3) := by decide +kernel
theorem dX12_canDuke_11 : decode cX12_canDuke 11 = .ok (.ifCond .eq 7, 3) := by decide +kernel
theorem dX12_canDuke_14 : decode cX12_canDuke 14 = .ok (.iconst 1, 1) := by decide +kernel
theorem dX12_canDuke_15 : decode cX12_canDuke 15 = .ok (.goto 4, 3) := by decide +kernel
theorem dX12_canDuke_18 : decode cX12_canDuke 18 = .ok (.iconst 0, 1) := by decide +kernel
theorem dX12_canDuke_19 : decode cX12_canDuke 19 = .ok (.ireturn, 1) := by decide +kernel
theorem dX12_canGuild_0 : decode cX12_canGuild 0 = .ok (.iload_n 1, 1) := by decide +kernel
theorem dX12_canGuild_1 : decode cX12_canGuild 1 = .ok (.bipush 16, 2) := by decide +kernel
theorem dX12_canGuild_3 : decode cX12_canGuild 3 = .ok (.if_icmp .eq 14, 3) := by decide +kernel
theorem dX12_canGuild_6 : decode cX12_canGuild 6 = .ok (.aload_n 0, 1) := by decide +kernel
theorem dX12_canGuild_7 : decode cX12_canGuild 7 = .ok (.invokevirtual 361, 3) := by decide +kernel
theorem dX12_canGuild_10 : decode cX12_canGuild 10 = .ok (.iload_n 1, 1) := by decide +kernel
theorem dX12_canGuild_11 : decode cX12_canGuild 11 = .ok (.invokestatic 69, 3) := by decide +kernel
theorem dX12_canGuild_14 : decode cX12_canGuild 14 = .ok (.ifCond .eq 7, 3) := by decide +kernel
theorem dX12_canGuild_17 : decode cX12_canGuild 17 = .ok (.iconst 1, 1) := by decide +kernel
theorem dX12_canGuild_18 : decode cX12_canGuild 18 = .ok (.goto 4, 3) := by decide +kernel
theorem dX12_canGuild_21 : decode cX12_canGuild 21 = .ok (.iconst 0, 1) := by decide +kernel
theorem dX12_canGuild_22 : decode cX12_canGuild 22 = .ok (.ireturn, 1) := by decide +kernel
theorem dX12_standsBy_0 : decode cX12_standsBy 0 = .ok (.aload_n 0, 1) := by decide +kernel
theorem dX12_standsBy_1 : decode cX12_standsBy 1 = .ok (.getfield 51, 3) := by decide +kernel
theorem dX12_standsBy_4 : decode cX12_standsBy 4 = .ok (.bipush 17, 2) := by decide +kernel
theorem dX12_standsBy_6 : decode cX12_standsBy 6 = .ok (.iload_n 1, 1) := by decide +kernel
theorem dX12_standsBy_7 : decode cX12_standsBy 7 = .ok (.imul, 1) := by decide +kernel
theorem dX12_standsBy_8 : decode cX12_standsBy 8 = .ok (.iload_n 2, 1) := by decide +kernel
theorem dX12_standsBy_9 : decode cX12_standsBy 9 = .ok (.iadd, 1) := by decide +kernel
theorem dX12_standsBy_10 : decode cX12_standsBy 10 = .ok (.iaload, 1) := by decide +kernel
theorem dX12_standsBy_11 : decode cX12_standsBy 11 = .ok (.ireturn, 1) := by decide +kernel
theorem dX12_laysStands_0 : decode cX12_laysStands 0 = .ok (.iconst 0, 1) := by decide +kernel
theorem dX12_laysStands_1 : decode cX12_laysStands 1 = .ok (.istore_n 1, 1) := by decide +kernel
theorem dX12_laysStands_2 : decode cX12_laysStands 2 = .ok (.iload_n 1, 1) := by decide +kernel
theorem dX12_laysStands_3 : decode cX12_laysStands 3 = .ok (.bipush 16, 2) := by decide +kernel
theorem dX12_laysStands_5 : decode cX12_laysStands 5 = .ok (.if_icmp .gt 96, 3) := by decide +kernel
theorem dX12_laysStands_8 : decode cX12_laysStands 8 = .ok (.iconst 0, 1) := by decide +kernel
theorem dX12_laysStands_9 : decode cX12_laysStands 9 = .ok (.istore_n 2, 1) := by decide +kernel
theorem dX12_laysStands_10 : decode cX12_laysStands 10 = .ok (.iload_n 2, 1) := by decide +kernel
theorem dX12_laysStands_11 : decode cX12_laysStands 11 = .ok (.bipush 16, 2) := by decide +kernel
theorem dX12_laysStands_13 : decode cX12_laysStands 13 = .ok (.if_icmp .gt 82, 3) := by decide +kernel
theorem dX12_laysStands_16 : decode cX12_laysStands 16 = .ok (.iload_n 1, 1) := by decide +kernel
theorem dX12_laysStands_17 : decode cX12_laysStands 17 = .ok (.bipush 16, 2) := by decide +kernel
theorem dX12_laysStands_19 : decode cX12_laysStands 19 = .ok (.if_icmp .ne 10, 3) := by decide +kernel
theorem dX12_laysStands_22 : decode cX12_laysStands 22 = .ok (.aload_n 0, 1) := by decide +kernel
theorem dX12_laysStands_23 : decode cX12_laysStands 23 = .ok (.invokevirtual 65, 3) := by decide +kernel
theorem dX12_laysStands_26 : decode cX12_laysStands 26 = .ok (.goto 13, 3) := by decide +kernel
theorem dX12_laysStands_29 : decode cX12_laysStands 29 = .ok (.aload_n 0, 1) := by decide +kernel
theorem dX12_laysStands_30 : decode cX12_laysStands 30 = .ok (.invokevirtual 65, 3) := by decide +kernel
theorem dX12_laysStands_33 : decode cX12_laysStands 33 = .ok (.iconst 1, 1) := by decide +kernel
theorem dX12_laysStands_34 : decode cX12_laysStands 34 = .ok (.iload_n 1, 1) := by decide +kernel
theorem dX12_laysStands_35 : decode cX12_laysStands 35 = .ok (.ishl, 1) := by decide +kernel
theorem dX12_laysStands_36 : decode cX12_laysStands 36 = .ok (.iconst (-1), 1) := by decide +kernel
theorem dX12_laysStands_37 : decode cX12_laysStands 37 = .ok (.ixor, 1) := by decide +kernel
theorem dX12_laysStands_38 : decode cX12_laysStands 38 = .ok (.iand, 1) := by decide +kernel
theorem dX12_laysStands_39 : decode cX12_laysStands 39 = .ok (.istore_n 3, 1) := by decide +kernel
theorem dX12_laysStands_40 : decode cX12_laysStands 40 = .ok (.aload_n 0, 1) := by decide +kernel
theorem dX12_laysStands_41 : decode cX12_laysStands 41 = .ok (.iload_n 1, 1) := by decide +kernel
theorem dX12_laysStands_42 : decode cX12_laysStands 42 = .ok (.invokevirtual 404, 3) := by decide +kernel
theorem dX12_laysStands_45 : decode cX12_laysStands 45 = .ok (.ifCond .eq 44, 3) := by decide +kernel
theorem dX12_laysStands_48 : decode cX12_laysStands 48 = .ok (.aload_n 0, 1) := by decide +kernel
theorem dX12_laysStands_49 : decode cX12_laysStands 49 = .ok (.iload_n 2, 1) := by decide +kernel
theorem dX12_laysStands_50 : decode cX12_laysStands 50 = .ok (.invokevirtual 407, 3) := by decide +kernel
theorem dX12_laysStands_53 : decode cX12_laysStands 53 = .ok (.ifCond .eq 36, 3) := by decide +kernel
theorem dX12_laysStands_56 : decode cX12_laysStands 56 = .ok (.aload_n 0, 1) := by decide +kernel
theorem dX12_laysStands_57 : decode cX12_laysStands 57 = .ok (.getfield 51, 3) := by decide +kernel
theorem dX12_laysStands_60 : decode cX12_laysStands 60 = .ok (.bipush 17, 2) := by decide +kernel
theorem dX12_laysStands_62 : decode cX12_laysStands 62 = .ok (.iload_n 1, 1) := by decide +kernel
theorem dX12_laysStands_63 : decode cX12_laysStands 63 = .ok (.imul, 1) := by decide +kernel
theorem dX12_laysStands_64 : decode cX12_laysStands 64 = .ok (.iload_n 2, 1) := by decide +kernel
theorem dX12_laysStands_65 : decode cX12_laysStands 65 = .ok (.iadd, 1) := by decide +kernel
theorem dX12_laysStands_66 : decode cX12_laysStands 66 = .ok (.aload_n 0, 1) := by decide +kernel
theorem dX12_laysStands_67 : decode cX12_laysStands 67 = .ok (.iload_n 2, 1) := by decide +kernel
theorem dX12_laysStands_68 : decode cX12_laysStands 68 = .ok (.bipush 16, 2) := by decide +kernel
theorem dX12_laysStands_70 : decode cX12_laysStands 70 = .ok (.if_icmp .ne 7, 3) := by decide +kernel
theorem dX12_laysStands_73 : decode cX12_laysStands 73 = .ok (.iload_n 3, 1) := by decide +kernel
theorem dX12_laysStands_74 : decode cX12_laysStands 74 = .ok (.goto 8, 3) := by decide +kernel
theorem dX12_laysStands_77 : decode cX12_laysStands 77 = .ok (.iload_n 3, 1) := by decide +kernel
theorem dX12_laysStands_78 : decode cX12_laysStands 78 = .ok (.iconst 1, 1) := by decide +kernel
theorem dX12_laysStands_79 : decode cX12_laysStands 79 = .ok (.iload_n 2, 1) := by decide +kernel
theorem dX12_laysStands_80 : decode cX12_laysStands 80 = .ok (.ishl, 1) := by decide +kernel
theorem dX12_laysStands_81 : decode cX12_laysStands 81 = .ok (.ior, 1) := by decide +kernel
theorem dX12_laysStands_82 : decode cX12_laysStands 82 = .ok (.invokevirtual 302, 3) := by decide +kernel
theorem dX12_laysStands_85 : decode cX12_laysStands 85 = .ok (.invokestatic 356, 3) := by decide +kernel
theorem dX12_laysStands_88 : decode cX12_laysStands 88 = .ok (.iastore, 1) := by decide +kernel
theorem dX12_laysStands_89 : decode cX12_laysStands 89 = .ok (.iinc 2 1, 3) := by decide +kernel
theorem dX12_laysStands_92 : decode cX12_laysStands 92 = .ok (.goto (-82), 3) := by decide +kernel
theorem dX12_laysStands_95 : decode cX12_laysStands 95 = .ok (.iinc 1 1, 3) := by decide +kernel
theorem dX12_laysStands_98 : decode cX12_laysStands 98 = .ok (.goto (-96), 3) := by decide +kernel
theorem dX12_laysStands_101 : decode cX12_laysStands 101 = .ok (.return_, 1) := by decide +kernel
theorem dX12_doesRest_0 : decode cX12_doesRest 0 = .ok (.aload_n 0, 1) := by decide +kernel
theorem dX12_doesRest_1 : decode cX12_doesRest 1 = .ok (.iload_n 1, 1) := by decide +kernel
theorem dX12_doesRest_2 : decode cX12_doesRest 2 = .ok (.invokevirtual 404, 3) := by decide +kernel
theorem dX12_doesRest_5 : decode cX12_doesRest 5 = .ok (.ifCond .eq 15, 3) := by decide +kernel
theorem dX12_doesRest_8 : decode cX12_doesRest 8 = .ok (.aload_n 0, 1) := by decide +kernel
theorem dX12_doesRest_9 : decode cX12_doesRest 9 = .ok (.iload_n 2, 1) := by decide +kernel
theorem dX12_doesRest_10 : decode cX12_doesRest 10 = .ok (.invokevirtual 407, 3) := by decide +kernel
theorem dX12_doesRest_13 : decode cX12_doesRest 13 = .ok (.ifCond .eq 7, 3) := by decide +kernel
theorem dX12_doesRest_16 : decode cX12_doesRest 16 = .ok (.iconst 1, 1) := by decide +kernel
theorem dX12_doesRest_17 : decode cX12_doesRest 17 = .ok (.goto 4, 3) := by decide +kernel
theorem dX12_doesRest_20 : decode cX12_doesRest 20 = .ok (.iconst 0, 1) := by decide +kernel
theorem dX12_doesRest_21 : decode cX12_doesRest 21 = .ok (.istore_n 3, 1) := by decide +kernel
theorem dX12_doesRest_22 : decode cX12_doesRest 22 = .ok (.iconst 0, 1) := by decide +kernel
theorem dX12_doesRest_23 : decode cX12_doesRest 23 = .ok (.istore 4, 2) := by decide +kernel
theorem dX12_doesRest_25 : decode cX12_doesRest 25 = .ok (.iload 4, 2) := by decide +kernel
theorem dX12_doesRest_27 : decode cX12_doesRest 27 = .ok (.bipush 16, 2) := by decide +kernel
theorem dX12_doesRest_29 : decode cX12_doesRest 29 = .ok (.if_icmp .gt 69, 3) := by decide +kernel
theorem dX12_doesRest_32 : decode cX12_doesRest 32 = .ok (.iload_n 3, 1) := by decide +kernel
theorem dX12_doesRest_33 : decode cX12_doesRest 33 = .ok (.ifCond .eq 65, 3) := by decide +kernel
theorem dX12_doesRest_36 : decode cX12_doesRest 36 = .ok (.aload_n 0, 1) := by decide +kernel
theorem dX12_doesRest_37 : decode cX12_doesRest 37 = .ok (.iload 4, 2) := by decide +kernel
theorem dX12_doesRest_39 : decode cX12_doesRest 39 = .ok (.invokevirtual 404, 3) := by decide +kernel
theorem dX12_doesRest_42 : decode cX12_doesRest 42 = .ok (.ifCond .eq 19, 3) := by decide +kernel
theorem dX12_doesRest_45 : decode cX12_doesRest 45 = .ok (.aload_n 0, 1) := by decide +kernel
theorem dX12_doesRest_46 : decode cX12_doesRest 46 = .ok (.iload 4, 2) := by decide +kernel
theorem dX12_doesRest_48 : decode cX12_doesRest 48 = .ok (.iload_n 2, 1) := by decide +kernel
theorem dX12_doesRest_49 : decode cX12_doesRest 49 = .ok (.invokevirtual 410, 3) := by decide +kernel
theorem dX12_doesRest_52 : decode cX12_doesRest 52 = .ok (.aload_n 0, 1) := by decide +kernel
theorem dX12_doesRest_53 : decode cX12_doesRest 53 = .ok (.iload_n 1, 1) := by decide +kernel
theorem dX12_doesRest_54 : decode cX12_doesRest 54 = .ok (.iload_n 2, 1) := by decide +kernel
theorem dX12_doesRest_55 : decode cX12_doesRest 55 = .ok (.invokevirtual 410, 3) := by decide +kernel
theorem dX12_doesRest_58 : decode cX12_doesRest 58 = .ok (.if_icmp .lt 32, 3) := by decide +kernel
theorem dX12_doesRest_61 : decode cX12_doesRest 61 = .ok (.aload_n 0, 1) := by decide +kernel
theorem dX12_doesRest_62 : decode cX12_doesRest 62 = .ok (.iload 4, 2) := by decide +kernel
theorem dX12_doesRest_64 : decode cX12_doesRest 64 = .ok (.invokevirtual 407, 3) := by decide +kernel
theorem dX12_doesRest_67 : decode cX12_doesRest 67 = .ok (.ifCond .eq 19, 3) := by decide +kernel
theorem dX12_doesRest_70 : decode cX12_doesRest 70 = .ok (.aload_n 0, 1) := by decide +kernel
theorem dX12_doesRest_71 : decode cX12_doesRest 71 = .ok (.iload_n 1, 1) := by decide +kernel
theorem dX12_doesRest_72 : decode cX12_doesRest 72 = .ok (.iload 4, 2) := by decide +kernel
theorem dX12_doesRest_74 : decode cX12_doesRest 74 = .ok (.invokevirtual 410, 3) := by decide +kernel
theorem dX12_doesRest_77 : decode cX12_doesRest 77 = .ok (.aload_n 0, 1) := by decide +kernel
theorem dX12_doesRest_78 : decode cX12_doesRest 78 = .ok (.iload_n 1, 1) := by decide +kernel
theorem dX12_doesRest_79 : decode cX12_doesRest 79 = .ok (.iload_n 2, 1) := by decide +kernel
theorem dX12_doesRest_80 : decode cX12_doesRest 80 = .ok (.invokevirtual 410, 3) := by decide +kernel
theorem dX12_doesRest_83 : decode cX12_doesRest 83 = .ok (.if_icmp .gt 7, 3) := by decide +kernel
theorem dX12_doesRest_86 : decode cX12_doesRest 86 = .ok (.iconst 1, 1) := by decide +kernel
theorem dX12_doesRest_87 : decode cX12_doesRest 87 = .ok (.goto 4, 3) := by decide +kernel
theorem dX12_doesRest_90 : decode cX12_doesRest 90 = .ok (.iconst 0, 1) := by decide +kernel
theorem dX12_doesRest_91 : decode cX12_doesRest 91 = .ok (.istore_n 3, 1) := by decide +kernel
theorem dX12_doesRest_92 : decode cX12_doesRest 92 = .ok (.iinc 4 1, 3) := by decide +kernel
theorem dX12_doesRest_95 : decode cX12_doesRest 95 = .ok (.goto (-70), 3) := by decide +kernel
theorem dX12_doesRest_98 : decode cX12_doesRest 98 = .ok (.iload_n 3, 1) := by decide +kernel
theorem dX12_doesRest_99 : decode cX12_doesRest 99 = .ok (.ireturn, 1) := by decide +kernel
theorem dX12_duke_0 : decode cX12_duke 0 = .ok (.aload_n 0, 1) := by decide +kernel
theorem dX12_duke_1 : decode cX12_duke 1 = .ok (.iconst 0, 1) := by decide +kernel
theorem dX12_duke_2 : decode cX12_duke 2 = .ok (.putfield 3, 3) := by decide +kernel
theorem dX12_duke_5 : decode cX12_duke 5 = .ok (.aload_n 0, 1) := by decide +kernel
theorem dX12_duke_6 : decode cX12_duke 6 = .ok (.invokevirtual 413, 3) := by decide +kernel
theorem dX12_duke_9 : decode cX12_duke 9 = .ok (.iconst 0, 1) := by decide +kernel
theorem dX12_duke_10 : decode cX12_duke 10 = .ok (.istore_n 1, 1) := by decide +kernel
theorem dX12_duke_11 : decode cX12_duke 11 = .ok (.iconst 0, 1) := by decide +kernel
theorem dX12_duke_12 : decode cX12_duke 12 = .ok (.istore_n 2, 1) := by decide +kernel
theorem dX12_duke_13 : decode cX12_duke 13 = .ok (.iload_n 2, 1) := by decide +kernel
theorem dX12_duke_14 : decode cX12_duke 14 = .ok (.bipush 16, 2) := by decide +kernel
theorem dX12_duke_16 : decode cX12_duke 16 = .ok (.if_icmp .gt 40, 3) := by decide +kernel
theorem dX12_duke_19 : decode cX12_duke 19 = .ok (.iconst 0, 1) := by decide +kernel
theorem dX12_duke_20 : decode cX12_duke 20 = .ok (.istore_n 3, 1) := by decide +kernel
theorem dX12_duke_21 : decode cX12_duke 21 = .ok (.iload_n 3, 1) := by decide +kernel
theorem dX12_duke_22 : decode cX12_duke 22 = .ok (.bipush 16, 2) := by decide +kernel
theorem dX12_duke_24 : decode cX12_duke 24 = .ok (.if_icmp .gt 26, 3) := by decide +kernel
theorem dX12_duke_27 : decode cX12_duke 27 = .ok (.iload_n 1, 1) := by decide +kernel
theorem dX12_duke_28 : decode cX12_duke 28 = .ok (.aload_n 0, 1) := by decide +kernel
theorem dX12_duke_29 : decode cX12_duke 29 = .ok (.iload_n 2, 1) := by decide +kernel
theorem dX12_duke_30 : decode cX12_duke 30 = .ok (.iload_n 3, 1) := by decide +kernel
theorem dX12_duke_31 : decode cX12_duke 31 = .ok (.invokevirtual 416, 3) := by decide +kernel
theorem dX12_duke_34 : decode cX12_duke 34 = .ok (.ifCond .eq 7, 3) := by decide +kernel
theorem dX12_duke_37 : decode cX12_duke 37 = .ok (.iconst 1, 1) := by decide +kernel
theorem dX12_duke_38 : decode cX12_duke 38 = .ok (.goto 4, 3) := by decide +kernel
theorem dX12_duke_41 : decode cX12_duke 41 = .ok (.iconst 0, 1) := by decide +kernel
theorem dX12_duke_42 : decode cX12_duke 42 = .ok (.iadd, 1) := by decide +kernel
theorem dX12_duke_43 : decode cX12_duke 43 = .ok (.istore_n 1, 1) := by decide +kernel
theorem dX12_duke_44 : decode cX12_duke 44 = .ok (.iinc 3 1, 3) := by decide +kernel
theorem dX12_duke_47 : decode cX12_duke 47 = .ok (.goto (-26), 3) := by decide +kernel
theorem dX12_duke_50 : decode cX12_duke 50 = .ok (.iinc 2 1, 3) := by decide +kernel
theorem dX12_duke_53 : decode cX12_duke 53 = .ok (.goto (-40), 3) := by decide +kernel
theorem dX12_duke_56 : decode cX12_duke 56 = .ok (.iload_n 1, 1) := by decide +kernel
theorem dX12_duke_57 : decode cX12_duke 57 = .ok (.ireturn, 1) := by decide +kernel
theorem dX12_standingAt_0 : decode cX12_standingAt 0 = .ok (.aload_n 0, 1) := by decide +kernel
theorem dX12_standingAt_1 : decode cX12_standingAt 1 = .ok (.getfield 13, 3) := by decide +kernel
theorem dX12_standingAt_4 : decode cX12_standingAt 4 = .ok (.iload_n 1, 1) := by decide +kernel
theorem dX12_standingAt_5 : decode cX12_standingAt 5 = .ok (.iaload, 1) := by decide +kernel
theorem dX12_standingAt_6 : decode cX12_standingAt 6 = .ok (.istore_n 3, 1) := by decide +kernel
theorem dX12_standingAt_7 : decode cX12_standingAt 7 = .ok (.aload_n 0, 1) := by decide +kernel
theorem dX12_standingAt_8 : decode cX12_standingAt 8 = .ok (.invokevirtual 308, 3) := by decide +kernel
theorem dX12_standingAt_11 : decode cX12_standingAt 11 = .ok (.istore 4, 2) := by decide +kernel
theorem dX12_standingAt_13 : decode cX12_standingAt 13 = .ok (.aload_n 0, 1) := by decide +kernel
theorem dX12_standingAt_14 : decode cX12_standingAt 14 = .ok (.getfield 13, 3) := by decide +kernel
theorem dX12_standingAt_17 : decode cX12_standingAt 17 = .ok (.iload_n 1, 1) := by decide +kernel
theorem dX12_standingAt_18 : decode cX12_standingAt 18 = .ok (.iload_n 2, 1) := by decide +kernel
theorem dX12_standingAt_19 : decode cX12_standingAt 19 = .ok (.iastore, 1) := by decide +kernel
theorem dX12_standingAt_20 : decode cX12_standingAt 20 = .ok (.aload_n 0, 1) := by decide +kernel
theorem dX12_standingAt_21 : decode cX12_standingAt 21 = .ok (.iload 4, 2) := by decide +kernel
theorem dX12_standingAt_23 : decode cX12_standingAt 23 = .ok (.invokevirtual 299, 3) := by decide +kernel
theorem dX12_standingAt_26 : decode cX12_standingAt 26 = .ok (.istore 5, 2) := by decide +kernel
theorem dX12_standingAt_28 : decode cX12_standingAt 28 = .ok (.aload_n 0, 1) := by decide +kernel
theorem dX12_standingAt_29 : decode cX12_standingAt 29 = .ok (.getfield 13, 3) := by decide +kernel
theorem dX12_standingAt_32 : decode cX12_standingAt 32 = .ok (.iload_n 1, 1) := by decide +kernel
theorem dX12_standingAt_33 : decode cX12_standingAt 33 = .ok (.iload_n 3, 1) := by decide +kernel
theorem dX12_standingAt_34 : decode cX12_standingAt 34 = .ok (.iastore, 1) := by decide +kernel
theorem dX12_standingAt_35 : decode cX12_standingAt 35 = .ok (.iload 5, 2) := by decide +kernel
theorem dX12_standingAt_37 : decode cX12_standingAt 37 = .ok (.ireturn, 1) := by decide +kernel
theorem dX12_pay_0 : decode cX12_pay 0 = .ok (.aload_n 0, 1) := by decide +kernel
theorem dX12_pay_1 : decode cX12_pay 1 = .ok (.iconst 0, 1) := by decide +kernel
theorem dX12_pay_2 : decode cX12_pay 2 = .ok (.putfield 3, 3) := by decide +kernel
theorem dX12_pay_5 : decode cX12_pay 5 = .ok (.aload_n 0, 1) := by decide +kernel
theorem dX12_pay_6 : decode cX12_pay 6 = .ok (.iload_n 1, 1) := by decide +kernel
theorem dX12_pay_7 : decode cX12_pay 7 = .ok (.iconst 0, 1) := by decide +kernel
theorem dX12_pay_8 : decode cX12_pay 8 = .ok (.aload_n 0, 1) := by decide +kernel
theorem dX12_pay_9 : decode cX12_pay 9 = .ok (.getfield 13, 3) := by decide +kernel
theorem dX12_pay_12 : decode cX12_pay 12 = .ok (.iconst 4, 1) := by decide +kernel
theorem dX12_pay_13 : decode cX12_pay 13 = .ok (.iaload, 1) := by decide +kernel
theorem dX12_pay_14 : decode cX12_pay 14 = .ok (.iconst 1, 1) := by decide +kernel
theorem dX12_pay_15 : decode cX12_pay 15 = .ok (.isub, 1) := by decide +kernel
theorem dX12_pay_16 : decode cX12_pay 16 = .ok (.invokestatic 76, 3) := by decide +kernel
theorem dX12_pay_19 : decode cX12_pay 19 = .ok (.ifCond .ne 7, 3) := by decide +kernel
theorem dX12_pay_22 : decode cX12_pay 22 = .ok (.iconst 1, 1) := by decide +kernel
theorem dX12_pay_23 : decode cX12_pay 23 = .ok (.goto 4, 3) := by decide +kernel
theorem dX12_pay_26 : decode cX12_pay 26 = .ok (.iconst 0, 1) := by decide +kernel
theorem dX12_pay_27 : decode cX12_pay 27 = .ok (.iconst 1, 1) := by decide +kernel
theorem dX12_pay_28 : decode cX12_pay 28 = .ok (.invokevirtual 247, 3) := by decide +kernel
theorem dX12_pay_31 : decode cX12_pay 31 = .ok (.ifCond .eq 5, 3) := by decide +kernel
theorem dX12_pay_34 : decode cX12_pay 34 = .ok (.iconst 0, 1) := by decide +kernel
theorem dX12_pay_35 : decode cX12_pay 35 = .ok (.ireturn, 1) := by decide +kernel
theorem dX12_pay_36 : decode cX12_pay 36 = .ok (.aload_n 0, 1) := by decide +kernel
theorem dX12_pay_37 : decode cX12_pay 37 = .ok (.invokevirtual 320, 3) := by decide +kernel
theorem dX12_pay_40 : decode cX12_pay 40 = .ok (.aload_n 0, 1) := by decide +kernel
theorem dX12_pay_41 : decode cX12_pay 41 = .ok (.iconst 4, 1) := by decide +kernel
theorem dX12_pay_42 : decode cX12_pay 42 = .ok (.aload_n 0, 1) := by decide +kernel
theorem dX12_pay_43 : decode cX12_pay 43 = .ok (.getfield 13, 3) := by decide +kernel
theorem dX12_pay_46 : decode cX12_pay 46 = .ok (.iconst 4, 1) := by decide +kernel
theorem dX12_pay_47 : decode cX12_pay 47 = .ok (.iaload, 1) := by decide +kernel
theorem dX12_pay_48 : decode cX12_pay 48 = .ok (.iload_n 1, 1) := by decide +kernel
theorem dX12_pay_49 : decode cX12_pay 49 = .ok (.isub, 1) := by decide +kernel
theorem dX12_pay_50 : decode cX12_pay 50 = .ok (.invokevirtual 419, 3) := by decide +kernel
theorem dX12_pay_53 : decode cX12_pay 53 = .ok (.iconst (-1), 1) := by decide +kernel
theorem dX12_pay_54 : decode cX12_pay 54 = .ok (.ixor, 1) := by decide +kernel
theorem dX12_pay_55 : decode cX12_pay 55 = .ok (.iand, 1) := by decide +kernel
theorem dX12_pay_56 : decode cX12_pay 56 = .ok (.invokestatic 356, 3) := by decide +kernel
theorem dX12_pay_59 : decode cX12_pay 59 = .ok (.ireturn, 1) := by decide +kernel
theorem dX12_season_0 : decode cX12_season 0 = .ok (.aload_n 0, 1) := by decide +kernel
theorem dX12_season_1 : decode cX12_season 1 = .ok (.iconst 0, 1) := by decide +kernel
theorem dX12_season_2 : decode cX12_season 2 = .ok (.putfield 3, 3) := by decide +kernel
theorem dX12_season_5 : decode cX12_season 5 = .ok (.iconst 0, 1) := by decide +kernel
theorem dX12_season_6 : decode cX12_season 6 = .ok (.istore_n 1, 1) := by decide +kernel
theorem dX12_season_7 : decode cX12_season 7 = .ok (.iconst 1, 1) := by decide +kernel
theorem dX12_season_8 : decode cX12_season 8 = .ok (.istore_n 2, 1) := by decide +kernel
theorem dX12_season_9 : decode cX12_season 9 = .ok (.iload_n 2, 1) := by decide +kernel
theorem dX12_season_10 : decode cX12_season 10 = .ok (.bipush 9, 2) := by decide +kernel
theorem dX12_season_12 : decode cX12_season 12 = .ok (.if_icmp .gt 36, 3) := by decide +kernel
theorem dX12_season_15 : decode cX12_season 15 = .ok (.aload_n 0, 1) := by decide +kernel
theorem dX12_season_16 : decode cX12_season 16 = .ok (.iconst 5, 1) := by decide +kernel
theorem dX12_season_17 : decode cX12_season 17 = .ok (.iload_n 2, 1) := by decide +kernel
theorem dX12_season_18 : decode cX12_season 18 = .ok (.invokevirtual 419, 3) := by decide +kernel
theorem dX12_season_21 : decode cX12_season 21 = .ok (.invokestatic 356, 3) := by decide +kernel
theorem dX12_season_24 : decode cX12_season 24 = .ok (.aload_n 0, 1) := by decide +kernel
theorem dX12_season_25 : decode cX12_season 25 = .ok (.iconst 5, 1) := by decide +kernel
theorem dX12_season_26 : decode cX12_season 26 = .ok (.iload_n 1, 1) := by decide +kernel
theorem dX12_season_27 : decode cX12_season 27 = .ok (.invokevirtual 419, 3) := by decide +kernel
theorem dX12_season_30 : decode cX12_season 30 = .ok (.invokestatic 356, 3) := by decide +kernel
theorem dX12_season_33 : decode cX12_season 33 = .ok (.if_icmp .le 7, 3) := by decide +kernel
theorem dX12_season_36 : decode cX12_season 36 = .ok (.iload_n 2, 1) := by decide +kernel
theorem dX12_season_37 : decode cX12_season 37 = .ok (.goto 4, 3) := by decide +kernel
theorem dX12_season_40 : decode cX12_season 40 = .ok (.iload_n 1, 1) := by decide +kernel
theorem dX12_season_41 : decode cX12_season 41 = .ok (.istore_n 1, 1) := by decide +kernel
theorem dX12_season_42 : decode cX12_season 42 = .ok (.iinc 2 1, 3) := by decide +kernel
theorem dX12_season_45 : decode cX12_season 45 = .ok (.goto (-36), 3) := by decide +kernel
theorem dX12_season_48 : decode cX12_season 48 = .ok (.iload_n 1, 1) := by decide +kernel
theorem dX12_season_49 : decode cX12_season 49 = .ok (.ireturn, 1) := by decide +kernel
theorem dX12_best_0 : decode cX12_best 0 = .ok (.aload_n 0, 1) := by decide +kernel
theorem dX12_best_1 : decode cX12_best 1 = .ok (.iconst 0, 1) := by decide +kernel
theorem dX12_best_2 : decode cX12_best 2 = .ok (.putfield 3, 3) := by decide +kernel
theorem dX12_best_5 : decode cX12_best 5 = .ok (.aload_n 0, 1) := by decide +kernel
theorem dX12_best_6 : decode cX12_best 6 = .ok (.iconst 4, 1) := by decide +kernel
theorem dX12_best_7 : decode cX12_best 7 = .ok (.bipush 40, 2) := by decide +kernel
theorem dX12_best_9 : decode cX12_best 9 = .ok (.invokevirtual 419, 3) := by decide +kernel
theorem dX12_best_12 : decode cX12_best 12 = .ok (.istore_n 1, 1) := by decide +kernel
theorem dX12_best_13 : decode cX12_best 13 = .ok (.iconst 1, 1) := by decide +kernel
theorem dX12_best_14 : decode cX12_best 14 = .ok (.istore_n 2, 1) := by decide +kernel
theorem dX12_best_15 : decode cX12_best 15 = .ok (.iload_n 1, 1) := by decide +kernel
theorem dX12_best_16 : decode cX12_best 16 = .ok (.aload_n 0, 1) := by decide +kernel
theorem dX12_best_17 : decode cX12_best 17 = .ok (.iconst 4, 1) := by decide +kernel
theorem dX12_best_18 : decode cX12_best 18 = .ok (.iload_n 2, 1) := by decide +kernel
theorem dX12_best_19 : decode cX12_best 19 = .ok (.invokevirtual 419, 3) := by decide +kernel
theorem dX12_best_22 : decode cX12_best 22 = .ok (.iconst (-1), 1) := by decide +kernel
theorem dX12_best_23 : decode cX12_best 23 = .ok (.ixor, 1) := by decide +kernel
theorem dX12_best_24 : decode cX12_best 24 = .ok (.iand, 1) := by decide +kernel
theorem dX12_best_25 : decode cX12_best 25 = .ok (.ifCond .eq 9, 3) := by decide +kernel
theorem dX12_best_28 : decode cX12_best 28 = .ok (.iinc 2 1, 3) := by decide +kernel
theorem dX12_best_31 : decode cX12_best 31 = .ok (.goto (-16), 3) := by decide +kernel
theorem dX12_best_34 : decode cX12_best 34 = .ok (.iload_n 2, 1) := by decide +kernel
theorem dX12_best_35 : decode cX12_best 35 = .ok (.ireturn, 1) := by decide +kernel
theorem dX12_stars_0 : decode cX12_stars 0 = .ok (.aload_n 0, 1) := by decide +kernel
theorem dX12_stars_1 : decode cX12_stars 1 = .ok (.iconst 0, 1) := by decide +kernel
theorem dX12_stars_2 : decode cX12_stars 2 = .ok (.putfield 3, 3) := by decide +kernel
theorem dX12_stars_5 : decode cX12_stars 5 = .ok (.aload_n 0, 1) := by decide +kernel
theorem dX12_stars_6 : decode cX12_stars 6 = .ok (.iload_n 1, 1) := by decide +kernel
theorem dX12_stars_7 : decode cX12_stars 7 = .ok (.invokestatic 305, 3) := by decide +kernel
theorem dX12_stars_10 : decode cX12_stars 10 = .ok (.ifCond .ne 10, 3) := by decide +kernel
theorem dX12_stars_13 : decode cX12_stars 13 = .ok (.iload_n 2, 1) := by decide +kernel
theorem dX12_stars_14 : decode cX12_stars 14 = .ok (.invokestatic 305, 3) := by decide +kernel
theorem dX12_stars_17 : decode cX12_stars 17 = .ok (.ifCond .eq 7, 3) := by decide +kernel
theorem dX12_stars_20 : decode cX12_stars 20 = .ok (.iconst 1, 1) := by decide +kernel
theorem dX12_stars_21 : decode cX12_stars 21 = .ok (.goto 4, 3) := by decide +kernel
theorem dX12_stars_24 : decode cX12_stars 24 = .ok (.iconst 0, 1) := by decide +kernel
theorem dX12_stars_25 : decode cX12_stars 25 = .ok (.iconst 1, 1) := by decide +kernel
theorem dX12_stars_26 : decode cX12_stars 26 = .ok (.invokevirtual 247, 3) := by decide +kernel
theorem dX12_stars_29 : decode cX12_stars 29 = .ok (.ifCond .ne 21, 3) := by decide +kernel
theorem dX12_stars_32 : decode cX12_stars 32 = .ok (.aload_n 0, 1) := by decide +kernel
theorem dX12_stars_33 : decode cX12_stars 33 = .ok (.iload_n 1, 1) := by decide +kernel
theorem dX12_stars_34 : decode cX12_stars 34 = .ok (.iload_n 2, 1) := by decide +kernel
theorem dX12_stars_35 : decode cX12_stars 35 = .ok (.if_icmp .le 7, 3) := by decide +kernel
theorem dX12_stars_38 : decode cX12_stars 38 = .ok (.iconst 1, 1) := by decide +kernel
theorem dX12_stars_39 : decode cX12_stars 39 = .ok (.goto 4, 3) := by decide +kernel
theorem dX12_stars_42 : decode cX12_stars 42 = .ok (.iconst 0, 1) := by decide +kernel
theorem dX12_stars_43 : decode cX12_stars 43 = .ok (.iconst 2, 1) := by decide +kernel
theorem dX12_stars_44 : decode cX12_stars 44 = .ok (.invokevirtual 247, 3) := by decide +kernel
theorem dX12_stars_47 : decode cX12_stars 47 = .ok (.ifCond .eq 5, 3) := by decide +kernel
theorem dX12_stars_50 : decode cX12_stars 50 = .ok (.iconst 0, 1) := by decide +kernel
theorem dX12_stars_51 : decode cX12_stars 51 = .ok (.ireturn, 1) := by decide +kernel
theorem dX12_stars_52 : decode cX12_stars 52 = .ok (.iconst 0, 1) := by decide +kernel
theorem dX12_stars_53 : decode cX12_stars 53 = .ok (.istore_n 3, 1) := by decide +kernel
theorem dX12_stars_54 : decode cX12_stars 54 = .ok (.aload_n 0, 1) := by decide +kernel
theorem dX12_stars_55 : decode cX12_stars 55 = .ok (.invokevirtual 308, 3) := by decide +kernel
theorem dX12_stars_58 : decode cX12_stars 58 = .ok (.istore 4, 2) := by decide +kernel
theorem dX12_stars_60 : decode cX12_stars 60 = .ok (.iload_n 1, 1) := by decide +kernel
theorem dX12_stars_61 : decode cX12_stars 61 = .ok (.istore 5, 2) := by decide +kernel
theorem dX12_stars_63 : decode cX12_stars 63 = .ok (.iload 5, 2) := by decide +kernel
theorem dX12_stars_65 : decode cX12_stars 65 = .ok (.iload_n 2, 1) := by decide +kernel
theorem dX12_stars_66 : decode cX12_stars 66 = .ok (.if_icmp .gt 19, 3) := by decide +kernel
theorem dX12_stars_69 : decode cX12_stars 69 = .ok (.iload_n 3, 1) := by decide +kernel
theorem dX12_stars_70 : decode cX12_stars 70 = .ok (.iload 4, 2) := by decide +kernel
theorem dX12_stars_72 : decode cX12_stars 72 = .ok (.iload 5, 2) := by decide +kernel
theorem dX12_stars_74 : decode cX12_stars 74 = .ok (.ishr, 1) := by decide +kernel
theorem dX12_stars_75 : decode cX12_stars 75 = .ok (.iconst 1, 1) := by decide +kernel
theorem dX12_stars_76 : decode cX12_stars 76 = .ok (.iand, 1) := by decide +kernel
theorem dX12_stars_77 : decode cX12_stars 77 = .ok (.iadd, 1) := by decide +kernel
theorem dX12_stars_78 : decode cX12_stars 78 = .ok (.istore_n 3, 1) := by decide +kernel
theorem dX12_stars_79 : decode cX12_stars 79 = .ok (.iinc 5 1, 3) := by decide +kernel
theorem dX12_stars_82 : decode cX12_stars 82 = .ok (.goto (-19), 3) := by decide +kernel
theorem dX12_stars_85 : decode cX12_stars 85 = .ok (.iload_n 3, 1) := by decide +kernel
theorem dX12_stars_86 : decode cX12_stars 86 = .ok (.ireturn, 1) := by decide +kernel
theorem dX12_longest_0 : decode cX12_longest 0 = .ok (.aload_n 0, 1) := by decide +kernel
theorem dX12_longest_1 : decode cX12_longest 1 = .ok (.iconst 0, 1) := by decide +kernel
theorem dX12_longest_2 : decode cX12_longest 2 = .ok (.putfield 3, 3) := by decide +kernel
theorem dX12_longest_5 : decode cX12_longest 5 = .ok (.aload_n 0, 1) := by decide +kernel
theorem dX12_longest_6 : decode cX12_longest 6 = .ok (.invokevirtual 308, 3) := by decide +kernel
theorem dX12_longest_9 : decode cX12_longest 9 = .ok (.istore_n 1, 1) := by decide +kernel
theorem dX12_longest_10 : decode cX12_longest 10 = .ok (.iconst 0, 1) := by decide +kernel
theorem dX12_longest_11 : decode cX12_longest 11 = .ok (.istore_n 2, 1) := by decide +kernel
theorem dX12_longest_12 : decode cX12_longest 12 = .ok (.iconst 0, 1) := by decide +kernel
theorem dX12_longest_13 : decode cX12_longest 13 = .ok (.istore_n 3, 1) := by decide +kernel
theorem dX12_longest_14 : decode cX12_longest 14 = .ok (.iconst 0, 1) := by decide +kernel
theorem dX12_longest_15 : decode cX12_longest 15 = .ok (.istore 4, 2) := by decide +kernel
theorem dX12_longest_17 : decode cX12_longest 17 = .ok (.iload 4, 2) := by decide +kernel
theorem dX12_longest_19 : decode cX12_longest 19 = .ok (.bipush 16, 2) := by decide +kernel
theorem dX12_longest_21 : decode cX12_longest 21 = .ok (.if_icmp .ge 32, 3) := by decide +kernel
theorem dX12_longest_24 : decode cX12_longest 24 = .ok (.iload_n 1, 1) := by decide +kernel
theorem dX12_longest_25 : decode cX12_longest 25 = .ok (.iload 4, 2) := by decide +kernel
theorem dX12_longest_27 : decode cX12_longest 27 = .ok (.invokestatic 69, 3) := by decide +kernel
theorem dX12_longest_30 : decode cX12_longest 30 = .ok (.ifCond .eq 7, 3) := by decide +kernel
theorem dX12_longest_33 : decode cX12_longest 33 = .ok (.iconst 0, 1) := by decide +kernel
theorem dX12_longest_34 : decode cX12_longest 34 = .ok (.goto 6, 3) := by decide +kernel
theorem dX12_longest_37 : decode cX12_longest 37 = .ok (.iload_n 3, 1) := by decide +kernel
theorem dX12_longest_38 : decode cX12_longest 38 = .ok (.iconst 1, 1) := by decide +kernel
theorem dX12_longest_39 : decode cX12_longest 39 = .ok (.iadd, 1) := by decide +kernel
theorem dX12_longest_40 : decode cX12_longest 40 = .ok (.istore_n 3, 1) := by decide +kernel
theorem dX12_longest_41 : decode cX12_longest 41 = .ok (.iload_n 2, 1) := by decide +kernel
theorem dX12_longest_42 : decode cX12_longest 42 = .ok (.iload_n 3, 1) := by decide +kernel
theorem dX12_longest_43 : decode cX12_longest 43 = .ok (.invokestatic 293, 3) := by decide +kernel
theorem dX12_longest_46 : decode cX12_longest 46 = .ok (.istore_n 2, 1) := by decide +kernel
theorem dX12_longest_47 : decode cX12_longest 47 = .ok (.iinc 4 1, 3) := by decide +kernel
theorem dX12_longest_50 : decode cX12_longest 50 = .ok (.goto (-33), 3) := by decide +kernel
theorem dX12_longest_53 : decode cX12_longest 53 = .ok (.iload_n 2, 1) := by decide +kernel
theorem dX12_longest_54 : decode cX12_longest 54 = .ok (.ireturn, 1) := by decide +kernel
theorem dX12_odds_0 : decode cX12_odds 0 = .ok (.aload_n 0, 1) := by decide +kernel
theorem dX12_odds_1 : decode cX12_odds 1 = .ok (.iconst 0, 1) := by decide +kernel
theorem dX12_odds_2 : decode cX12_odds 2 = .ok (.putfield 3, 3) := by decide +kernel
theorem dX12_odds_5 : decode cX12_odds 5 = .ok (.aload_n 0, 1) := by decide +kernel
theorem dX12_odds_6 : decode cX12_odds 6 = .ok (.iload_n 1, 1) := by decide +kernel
theorem dX12_odds_7 : decode cX12_odds 7 = .ok (.iconst 0, 1) := by decide +kernel
theorem dX12_odds_8 : decode cX12_odds 8 = .ok (.bipush 6, 2) := by decide +kernel
theorem dX12_odds_10 : decode cX12_odds 10 = .ok (.invokestatic 76, 3) := by decide +kernel
theorem dX12_odds_13 : decode cX12_odds 13 = .ok (.ifCond .eq 13, 3) := by decide +kernel
theorem dX12_odds_16 : decode cX12_odds 16 = .ok (.iload_n 2, 1) := by decide +kernel
theorem dX12_odds_17 : decode cX12_odds 17 = .ok (.iconst 0, 1) := by decide +kernel
theorem dX12_odds_18 : decode cX12_odds 18 = .ok (.bipush 6, 2) := by decide +kernel
theorem dX12_odds_20 : decode cX12_odds 20 = .ok (.invokestatic 76, 3) := by decide +kernel
theorem dX12_odds_23 : decode cX12_odds 23 = .ok (.ifCond .ne 7, 3) := by decide +kernel
theorem dX12_odds_26 : decode cX12_odds 26 = .ok (.iconst 1, 1) := by decide +kernel
theorem dX12_odds_27 : decode cX12_odds 27 = .ok (.goto 4, 3) := by decide +kernel
theorem dX12_odds_30 : decode cX12_odds 30 = .ok (.iconst 0, 1) := by decide +kernel
theorem dX12_odds_31 : decode cX12_odds 31 = .ok (.iconst 1, 1) := by decide +kernel
theorem dX12_odds_32 : decode cX12_odds 32 = .ok (.invokevirtual 247, 3) := by decide +kernel
theorem dX12_odds_35 : decode cX12_odds 35 = .ok (.ifCond .eq 5, 3) := by decide +kernel
theorem dX12_odds_38 : decode cX12_odds 38 = .ok (.iconst 0, 1) := by decide +kernel
theorem dX12_odds_39 : decode cX12_odds 39 = .ok (.ireturn, 1) := by decide +kernel
theorem dX12_odds_40 : decode cX12_odds 40 = .ok (.lconst 0, 1) := by decide +kernel
theorem dX12_odds_41 : decode cX12_odds 41 = .ok (.lstore_n 3, 1) := by decide +kernel
theorem dX12_odds_42 : decode cX12_odds 42 = .ok (.lconst 1, 1) := by decide +kernel
theorem dX12_odds_43 : decode cX12_odds 43 = .ok (.lstore 5, 2) := by decide +kernel
theorem dX12_odds_45 : decode cX12_odds 45 = .ok (.iconst 0, 1) := by decide +kernel
theorem dX12_odds_46 : decode cX12_odds 46 = .ok (.istore 7, 2) := by decide +kernel
theorem dX12_odds_48 : decode cX12_odds 48 = .ok (.iload 7, 2) := by decide +kernel
theorem dX12_odds_50 : decode cX12_odds 50 = .ok (.iload_n 1, 1) := by decide +kernel
theorem dX12_odds_51 : decode cX12_odds 51 = .ok (.if_icmp .ge 17, 3) := by decide +kernel
theorem dX12_odds_54 : decode cX12_odds 54 = .ok (.lload 5, 2) := by decide +kernel
theorem dX12_odds_56 : decode cX12_odds 56 = .ok (.ldc2_w 422, 3) := by decide +kernel
theorem dX12_odds_59 : decode cX12_odds 59 = .ok (.lmul, 1) := by decide +kernel
theorem dX12_odds_60 : decode cX12_odds 60 = .ok (.lstore 5, 2) := by decide +kernel
theorem dX12_odds_62 : decode cX12_odds 62 = .ok (.iinc 7 1, 3) := by decide +kernel
theorem dX12_odds_65 : decode cX12_odds 65 = .ok (.goto (-17), 3) := by decide +kernel
theorem dX12_odds_68 : decode cX12_odds 68 = .ok (.iconst 0, 1) := by decide +kernel
theorem dX12_odds_69 : decode cX12_odds 69 = .ok (.istore 7, 2) := by decide +kernel
theorem dX12_odds_71 : decode cX12_odds 71 = .ok (.iload 7, 2) := by decide +kernel
theorem dX12_odds_73 : decode cX12_odds 73 = .ok (.iconst 1, 1) := by decide +kernel
theorem dX12_odds_74 : decode cX12_odds 74 = .ok (.iload_n 1, 1) := by decide +kernel
theorem dX12_odds_75 : decode cX12_odds 75 = .ok (.ishl, 1) := by decide +kernel
theorem dX12_odds_76 : decode cX12_odds 76 = .ok (.if_icmp .ge 81, 3) := by decide +kernel
theorem dX12_odds_79 : decode cX12_odds 79 = .ok (.iload 7, 2) := by decide +kernel
theorem dX12_odds_81 : decode cX12_odds 81 = .ok (.invokestatic 356, 3) := by decide +kernel
theorem dX12_odds_84 : decode cX12_odds 84 = .ok (.iload_n 2, 1) := by decide +kernel
theorem dX12_odds_85 : decode cX12_odds 85 = .ok (.if_icmp .ge 6, 3) := by decide +kernel
theorem dX12_odds_88 : decode cX12_odds 88 = .ok (.goto 63, 3) := by decide +kernel
theorem dX12_odds_91 : decode cX12_odds 91 = .ok (.lconst 1, 1) := by decide +kernel
theorem dX12_odds_92 : decode cX12_odds 92 = .ok (.lstore 8, 2) := by decide +kernel
theorem dX12_odds_94 : decode cX12_odds 94 = .ok (.iconst 0, 1) := by decide +kernel
theorem dX12_odds_95 : decode cX12_odds 95 = .ok (.istore 10, 2) := by decide +kernel
theorem dX12_odds_97 : decode cX12_odds 97 = .ok (.iload 10, 2) := by decide +kernel
theorem dX12_odds_99 : decode cX12_odds 99 = .ok (.iload_n 1, 1) := by decide +kernel
theorem dX12_odds_100 : decode cX12_odds 100 = .ok (.if_icmp .ge 46, 3) := by decide +kernel
theorem dX12_odds_103 : decode cX12_odds 103 = .ok (.lload 8, 2) := by decide +kernel
theorem dX12_odds_105 : decode cX12_odds 105 = .ok (.iload 7, 2) := by decide +kernel
theorem dX12_odds_107 : decode cX12_odds 107 = .ok (.iload 10, 2) := by decide +kernel
theorem dX12_odds_109 : decode cX12_odds 109 = .ok (.invokestatic 69, 3) := by decide +kernel
theorem dX12_odds_112 : decode cX12_odds 112 = .ok (.ifCond .eq 14, 3) := by decide +kernel
theorem dX12_odds_115 : decode cX12_odds 115 = .ok (.aload_n 0, 1) := by decide +kernel
theorem dX12_odds_116 : decode cX12_odds 116 = .ok (.getfield 13, 3) := by decide +kernel
theorem dX12_odds_119 : decode cX12_odds 119 = .ok (.bipush 8, 2) := by decide +kernel
theorem dX12_odds_121 : decode cX12_odds 121 = .ok (.iaload, 1) := by decide +kernel
theorem dX12_odds_122 : decode cX12_odds 122 = .ok (.i2l, 1) := by decide +kernel
theorem dX12_odds_123 : decode cX12_odds 123 = .ok (.goto 14, 3) := by decide +kernel
theorem dX12_odds_126 : decode cX12_odds 126 = .ok (.bipush 100, 2) := by decide +kernel
theorem dX12_odds_128 : decode cX12_odds 128 = .ok (.aload_n 0, 1) := by decide +kernel
theorem dX12_odds_129 : decode cX12_odds 129 = .ok (.getfield 13, 3) := by decide +kernel
theorem dX12_odds_132 : decode cX12_odds 132 = .ok (.bipush 8, 2) := by decide +kernel
theorem dX12_odds_134 : decode cX12_odds 134 = .ok (.iaload, 1) := by decide +kernel
theorem dX12_odds_135 : decode cX12_odds 135 = .ok (.isub, 1) := by decide +kernel
theorem dX12_odds_136 : decode cX12_odds 136 = .ok (.i2l, 1) := by decide +kernel
theorem dX12_odds_137 : decode cX12_odds 137 = .ok (.lmul, 1) := by decide +kernel
theorem dX12_odds_138 : decode cX12_odds 138 = .ok (.lstore 8, 2) := by decide +kernel
theorem dX12_odds_140 : decode cX12_odds 140 = .ok (.iinc 10 1, 3) := by decide +kernel
theorem dX12_odds_143 : decode cX12_odds 143 = .ok (.goto (-46), 3) := by decide +kernel
theorem dX12_odds_146 : decode cX12_odds 146 = .ok (.lload_n 3, 1) := by decide +kernel
theorem dX12_odds_147 : decode cX12_odds 147 = .ok (.lload 8, 2) := by decide +kernel
theorem dX12_odds_149 : decode cX12_odds 149 = .ok (.ladd, 1) := by decide +kernel
theorem dX12_odds_150 : decode cX12_odds 150 = .ok (.lstore_n 3, 1) := by decide +kernel
theorem dX12_odds_151 : decode cX12_odds 151 = .ok (.iinc 7 1, 3) := by decide +kernel
theorem dX12_odds_154 : decode cX12_odds 154 = .ok (.goto (-83), 3) := by decide +kernel
theorem dX12_odds_157 : decode cX12_odds 157 = .ok (.ldc2_w 424, 3) := by decide +kernel
theorem dX12_odds_160 : decode cX12_odds 160 = .ok (.lload_n 3, 1) := by decide +kernel
theorem dX12_odds_161 : decode cX12_odds 161 = .ok (.lmul, 1) := by decide +kernel
theorem dX12_odds_162 : decode cX12_odds 162 = .ok (.lload 5, 2) := by decide +kernel
theorem dX12_odds_164 : decode cX12_odds 164 = .ok (.ldiv, 1) := by decide +kernel
theorem dX12_odds_165 : decode cX12_odds 165 = .ok (.l2i, 1) := by decide +kernel
theorem dX12_odds_166 : decode cX12_odds 166 = .ok (.ireturn, 1) := by decide +kernel
theorem dX12_trial_0 : decode cX12_trial 0 = .ok (.aload_n 0, 1) := by decide +kernel
theorem dX12_trial_1 : decode cX12_trial 1 = .ok (.iconst 0, 1) := by decide +kernel
theorem dX12_trial_2 : decode cX12_trial 2 = .ok (.putfield 3, 3) := by decide +kernel
theorem dX12_trial_5 : decode cX12_trial 5 = .ok (.aload_n 0, 1) := by decide +kernel
theorem dX12_trial_6 : decode cX12_trial 6 = .ok (.iload_n 1, 1) := by decide +kernel
theorem dX12_trial_7 : decode cX12_trial 7 = .ok (.iconst 0, 1) := by decide +kernel
theorem dX12_trial_8 : decode cX12_trial 8 = .ok (.bipush 60, 2) := by decide +kernel
theorem dX12_trial_10 : decode cX12_trial 10 = .ok (.invokestatic 76, 3) := by decide +kernel
theorem dX12_trial_13 : decode cX12_trial 13 = .ok (.ifCond .ne 7, 3) := by decide +kernel
theorem dX12_trial_16 : decode cX12_trial 16 = .ok (.iconst 1, 1) := by decide +kernel
theorem dX12_trial_17 : decode cX12_trial 17 = .ok (.goto 4, 3) := by decide +kernel
theorem dX12_trial_20 : decode cX12_trial 20 = .ok (.iconst 0, 1) := by decide +kernel
theorem dX12_trial_21 : decode cX12_trial 21 = .ok (.iconst 1, 1) := by decide +kernel
theorem dX12_trial_22 : decode cX12_trial 22 = .ok (.invokevirtual 247, 3) := by decide +kernel
theorem dX12_trial_25 : decode cX12_trial 25 = .ok (.ifCond .eq 5, 3) := by decide +kernel
theorem dX12_trial_28 : decode cX12_trial 28 = .ok (.iconst 0, 1) := by decide +kernel
theorem dX12_trial_29 : decode cX12_trial 29 = .ok (.ireturn, 1) := by decide +kernel
theorem dX12_trial_30 : decode cX12_trial 30 = .ok (.aload_n 0, 1) := by decide +kernel
theorem dX12_trial_31 : decode cX12_trial 31 = .ok (.invokevirtual 343, 3) := by decide +kernel
theorem dX12_trial_34 : decode cX12_trial 34 = .ok (.iconst 0, 1) := by decide +kernel
theorem dX12_trial_35 : decode cX12_trial 35 = .ok (.istore_n 3, 1) := by decide +kernel
theorem dX12_trial_36 : decode cX12_trial 36 = .ok (.iload_n 3, 1) := by decide +kernel
theorem dX12_trial_37 : decode cX12_trial 37 = .ok (.iload_n 1, 1) := by decide +kernel
theorem dX12_trial_38 : decode cX12_trial 38 = .ok (.if_icmp .ge 14, 3) := by decide +kernel
theorem dX12_trial_41 : decode cX12_trial 41 = .ok (.aload_n 0, 1) := by decide +kernel
theorem dX12_trial_42 : decode cX12_trial 42 = .ok (.iconst 0, 1) := by decide +kernel
theorem dX12_trial_43 : decode cX12_trial 43 = .ok (.invokevirtual 346, 3) := by decide +kernel
theorem dX12_trial_46 : decode cX12_trial 46 = .ok (.iinc 3 1, 3) := by decide +kernel
theorem dX12_trial_49 : decode cX12_trial 49 = .ok (.goto (-13), 3) := by decide +kernel
theorem dX12_trial_52 : decode cX12_trial 52 = .ok (.iload_n 2, 1) := by decide +kernel
theorem dX12_trial_53 : decode cX12_trial 53 = .ok (.ifCond .eq 13, 3) := by decide +kernel
theorem dX12_trial_56 : decode cX12_trial 56 = .ok (.aload_n 0, 1) := by decide +kernel
theorem dX12_trial_57 : decode cX12_trial 57 = .ok (.invokevirtual 320, 3) := by decide +kernel
theorem dX12_trial_60 : decode cX12_trial 60 = .ok (.invokestatic 356, 3) := by decide +kernel
theorem dX12_trial_63 : decode cX12_trial 63 = .ok (.goto 18, 3) := by decide +kernel
theorem dX12_trial_66 : decode cX12_trial 66 = .ok (.aload_n 0, 1) := by decide +kernel
theorem dX12_trial_67 : decode cX12_trial 67 = .ok (.getfield 13, 3) := by decide +kernel
theorem dX12_trial_70 : decode cX12_trial 70 = .ok (.bipush 10, 2) := by decide +kernel
theorem dX12_trial_72 : decode cX12_trial 72 = .ok (.iaload, 1) := by decide +kernel
theorem dX12_trial_73 : decode cX12_trial 73 = .ok (.aload_n 0, 1) := by decide +kernel
theorem dX12_trial_74 : decode cX12_trial 74 = .ok (.getfield 23, 3) := by decide +kernel
theorem dX12_trial_77 : decode cX12_trial 77 = .ok (.bipush 10, 2) := by decide +kernel
theorem dX12_trial_79 : decode cX12_trial 79 = .ok (.iaload, 1) := by decide +kernel
theorem dX12_trial_80 : decode cX12_trial 80 = .ok (.isub, 1) := by decide +kernel
theorem dX12_trial_81 : decode cX12_trial 81 = .ok (.istore_n 3, 1) := by decide +kernel
theorem dX12_trial_82 : decode cX12_trial 82 = .ok (.aload_n 0, 1) := by decide +kernel
theorem dX12_trial_83 : decode cX12_trial 83 = .ok (.invokevirtual 353, 3) := by decide +kernel
theorem dX12_trial_86 : decode cX12_trial 86 = .ok (.iload_n 3, 1) := by decide +kernel
theorem dX12_trial_87 : decode cX12_trial 87 = .ok (.ireturn, 1) := by decide +kernel
theorem dX12_span_0 : decode cX12_span 0 = .ok (.aload_n 0, 1) := by decide +kernel
theorem dX12_span_1 : decode cX12_span 1 = .ok (.iconst 0, 1) := by decide +kernel
theorem dX12_span_2 : decode cX12_span 2 = .ok (.putfield 3, 3) := by decide +kernel
theorem dX12_span_5 : decode cX12_span 5 = .ok (.aload_n 0, 1) := by decide +kernel
theorem dX12_span_6 : decode cX12_span 6 = .ok (.iload_n 1, 1) := by decide +kernel
theorem dX12_span_7 : decode cX12_span 7 = .ok (.iconst 0, 1) := by decide +kernel
theorem dX12_span_8 : decode cX12_span 8 = .ok (.bipush 60, 2) := by decide +kernel
theorem dX12_span_10 : decode cX12_span 10 = .ok (.invokestatic 76, 3) := by decide +kernel
theorem dX12_span_13 : decode cX12_span 13 = .ok (.ifCond .ne 7, 3) := by decide +kernel
theorem dX12_span_16 : decode cX12_span 16 = .ok (.iconst 1, 1) := by decide +kernel
theorem dX12_span_17 : decode cX12_span 17 = .ok (.goto 4, 3) := by decide +kernel
theorem dX12_span_20 : decode cX12_span 20 = .ok (.iconst 0, 1) := by decide +kernel
theorem dX12_span_21 : decode cX12_span 21 = .ok (.iconst 1, 1) := by decide +kernel
theorem dX12_span_22 : decode cX12_span 22 = .ok (.invokevirtual 247, 3) := by decide +kernel
theorem dX12_span_25 : decode cX12_span 25 = .ok (.ifCond .eq 5, 3) := by decide +kernel
theorem dX12_span_28 : decode cX12_span 28 = .ok (.iconst 0, 1) := by decide +kernel
theorem dX12_span_29 : decode cX12_span 29 = .ok (.ireturn, 1) := by decide +kernel
theorem dX12_span_30 : decode cX12_span 30 = .ok (.aload_n 0, 1) := by decide +kernel
theorem dX12_span_31 : decode cX12_span 31 = .ok (.invokevirtual 343, 3) := by decide +kernel
theorem dX12_span_34 : decode cX12_span 34 = .ok (.iconst (-1), 1) := by decide +kernel
theorem dX12_span_35 : decode cX12_span 35 = .ok (.istore_n 3, 1) := by decide +kernel
theorem dX12_span_36 : decode cX12_span 36 = .ok (.iconst 1, 1) := by decide +kernel
theorem dX12_span_37 : decode cX12_span 37 = .ok (.istore 4, 2) := by decide +kernel
theorem dX12_span_39 : decode cX12_span 39 = .ok (.iload 4, 2) := by decide +kernel
theorem dX12_span_41 : decode cX12_span 41 = .ok (.bipush 6, 2) := by decide +kernel
theorem dX12_span_43 : decode cX12_span 43 = .ok (.if_icmp .gt 88, 3) := by decide +kernel
theorem dX12_span_46 : decode cX12_span 46 = .ok (.aload_n 0, 1) := by decide +kernel
theorem dX12_span_47 : decode cX12_span 47 = .ok (.getfield 13, 3) := by decide +kernel
theorem dX12_span_50 : decode cX12_span 50 = .ok (.bipush 12, 2) := by decide +kernel
theorem dX12_span_52 : decode cX12_span 52 = .ok (.iload 4, 2) := by decide +kernel
theorem dX12_span_54 : decode cX12_span 54 = .ok (.iastore, 1) := by decide +kernel
theorem dX12_span_55 : decode cX12_span 55 = .ok (.iconst 0, 1) := by decide +kernel
theorem dX12_span_56 : decode cX12_span 56 = .ok (.istore 5, 2) := by decide +kernel
theorem dX12_span_58 : decode cX12_span 58 = .ok (.iload 5, 2) := by decide +kernel
theorem dX12_span_60 : decode cX12_span 60 = .ok (.iload_n 1, 1) := by decide +kernel
theorem dX12_span_61 : decode cX12_span 61 = .ok (.if_icmp .ge 14, 3) := by decide +kernel
theorem dX12_span_64 : decode cX12_span 64 = .ok (.aload_n 0, 1) := by decide +kernel
theorem dX12_span_65 : decode cX12_span 65 = .ok (.iconst 0, 1) := by decide +kernel
theorem dX12_span_66 : decode cX12_span 66 = .ok (.invokevirtual 346, 3) := by decide +kernel
theorem dX12_span_69 : decode cX12_span 69 = .ok (.iinc 5 1, 3) := by decide +kernel
theorem dX12_span_72 : decode cX12_span 72 = .ok (.goto (-14), 3) := by decide +kernel
theorem dX12_span_75 : decode cX12_span 75 = .ok (.aload_n 0, 1) := by decide +kernel
theorem dX12_span_76 : decode cX12_span 76 = .ok (.getfield 13, 3) := by decide +kernel
theorem dX12_span_79 : decode cX12_span 79 = .ok (.bipush 10, 2) := by decide +kernel
theorem dX12_span_81 : decode cX12_span 81 = .ok (.iaload, 1) := by decide +kernel
theorem dX12_span_82 : decode cX12_span 82 = .ok (.aload_n 0, 1) := by decide +kernel
theorem dX12_span_83 : decode cX12_span 83 = .ok (.getfield 23, 3) := by decide +kernel
theorem dX12_span_86 : decode cX12_span 86 = .ok (.bipush 10, 2) := by decide +kernel
theorem dX12_span_88 : decode cX12_span 88 = .ok (.iaload, 1) := by decide +kernel
theorem dX12_span_89 : decode cX12_span 89 = .ok (.isub, 1) := by decide +kernel
theorem dX12_span_90 : decode cX12_span 90 = .ok (.istore 5, 2) := by decide +kernel
theorem dX12_span_92 : decode cX12_span 92 = .ok (.aload_n 0, 1) := by decide +kernel
theorem dX12_span_93 : decode cX12_span 93 = .ok (.invokevirtual 353, 3) := by decide +kernel
theorem dX12_span_96 : decode cX12_span 96 = .ok (.iload_n 3, 1) := by decide +kernel
theorem dX12_span_97 : decode cX12_span 97 = .ok (.ifCond .ge 8, 3) := by decide +kernel
theorem dX12_span_100 : decode cX12_span 100 = .ok (.iload 5, 2) := by decide +kernel
theorem dX12_span_102 : decode cX12_span 102 = .ok (.goto 22, 3) := by decide +kernel
theorem dX12_span_105 : decode cX12_span 105 = .ok (.iload_n 2, 1) := by decide +kernel
theorem dX12_span_106 : decode cX12_span 106 = .ok (.ifCond .eq 12, 3) := by decide +kernel
theorem dX12_span_109 : decode cX12_span 109 = .ok (.iload_n 3, 1) := by decide +kernel
theorem dX12_span_110 : decode cX12_span 110 = .ok (.iload 5, 2) := by decide +kernel
theorem dX12_span_112 : decode cX12_span 112 = .ok (.invokestatic 293, 3) := by decide +kernel
theorem dX12_span_115 : decode cX12_span 115 = .ok (.goto 9, 3) := by decide +kernel
theorem dX12_span_118 : decode cX12_span 118 = .ok (.iload_n 3, 1) := by decide +kernel
theorem dX12_span_119 : decode cX12_span 119 = .ok (.iload 5, 2) := by decide +kernel
theorem dX12_span_121 : decode cX12_span 121 = .ok (.invokestatic 259, 3) := by decide +kernel
theorem dX12_span_124 : decode cX12_span 124 = .ok (.istore_n 3, 1) := by decide +kernel
theorem dX12_span_125 : decode cX12_span 125 = .ok (.iinc 4 1, 3) := by decide +kernel
theorem dX12_span_128 : decode cX12_span 128 = .ok (.goto (-89), 3) := by decide +kernel
theorem dX12_span_131 : decode cX12_span 131 = .ok (.iload_n 3, 1) := by decide +kernel
theorem dX12_span_132 : decode cX12_span 132 = .ok (.ireturn, 1) := by decide +kernel
theorem dX12_ofLog_0 : decode cX12_ofLog 0 = .ok (.aload_n 0, 1) := by decide +kernel
theorem dX12_ofLog_1 : decode cX12_ofLog 1 = .ok (.getfield 13, 3) := by decide +kernel
theorem dX12_ofLog_4 : decode cX12_ofLog 4 = .ok (.bipush 93, 2) := by decide +kernel
theorem dX12_ofLog_6 : decode cX12_ofLog 6 = .ok (.iconst 4, 1) := by decide +kernel
theorem dX12_ofLog_7 : decode cX12_ofLog 7 = .ok (.iload_n 1, 1) := by decide +kernel
theorem dX12_ofLog_8 : decode cX12_ofLog 8 = .ok (.imul, 1) := by decide +kernel
theorem dX12_ofLog_9 : decode cX12_ofLog 9 = .ok (.iadd, 1) := by decide +kernel
theorem dX12_ofLog_10 : decode cX12_ofLog 10 = .ok (.iload_n 2, 1) := by decide +kernel
theorem dX12_ofLog_11 : decode cX12_ofLog 11 = .ok (.iadd, 1) := by decide +kernel
theorem dX12_ofLog_12 : decode cX12_ofLog 12 = .ok (.iaload, 1) := by decide +kernel
theorem dX12_ofLog_13 : decode cX12_ofLog 13 = .ok (.ireturn, 1) := by decide +kernel
theorem dX12_led_0 : decode cX12_led 0 = .ok (.aload_n 0, 1) := by decide +kernel
theorem dX12_led_1 : decode cX12_led 1 = .ok (.iconst 0, 1) := by decide +kernel
theorem dX12_led_2 : decode cX12_led 2 = .ok (.putfield 3, 3) := by decide +kernel
theorem dX12_led_5 : decode cX12_led 5 = .ok (.aload_n 0, 1) := by decide +kernel
theorem dX12_led_6 : decode cX12_led 6 = .ok (.iload_n 1, 1) := by decide +kernel
theorem dX12_led_7 : decode cX12_led 7 = .ok (.invokestatic 305, 3) := by decide +kernel
theorem dX12_led_10 : decode cX12_led 10 = .ok (.iconst 1, 1) := by decide +kernel
theorem dX12_led_11 : decode cX12_led 11 = .ok (.invokevirtual 247, 3) := by decide +kernel
theorem dX12_led_14 : decode cX12_led 14 = .ok (.ifCond .eq 5, 3) := by decide +kernel
theorem dX12_led_17 : decode cX12_led 17 = .ok (.iconst 0, 1) := by decide +kernel
theorem dX12_led_18 : decode cX12_led 18 = .ok (.ireturn, 1) := by decide +kernel
theorem dX12_led_19 : decode cX12_led 19 = .ok (.iconst 0, 1) := by decide +kernel
theorem dX12_led_20 : decode cX12_led 20 = .ok (.istore_n 3, 1) := by decide +kernel
theorem dX12_led_21 : decode cX12_led 21 = .ok (.iconst (-1), 1) := by decide +kernel
theorem dX12_led_22 : decode cX12_led 22 = .ok (.istore 4, 2) := by decide +kernel
theorem dX12_led_24 : decode cX12_led 24 = .ok (.aload_n 0, 1) := by decide +kernel
theorem dX12_led_25 : decode cX12_led 25 = .ok (.getfield 13, 3) := by decide +kernel
theorem dX12_led_28 : decode cX12_led 28 = .ok (.bipush 11, 2) := by decide +kernel
theorem dX12_led_30 : decode cX12_led 30 = .ok (.iaload, 1) := by decide +kernel
theorem dX12_led_31 : decode cX12_led 31 = .ok (.iconst 1, 1) := by decide +kernel
theorem dX12_led_32 : decode cX12_led 32 = .ok (.isub, 1) := by decide +kernel
theorem dX12_led_33 : decode cX12_led 33 = .ok (.istore 5, 2) := by decide +kernel
theorem dX12_led_35 : decode cX12_led 35 = .ok (.iload 5, 2) := by decide +kernel
theorem dX12_led_37 : decode cX12_led 37 = .ok (.ifCond .lt 35, 3) := by decide +kernel
theorem dX12_led_40 : decode cX12_led 40 = .ok (.aload_n 0, 1) := by decide +kernel
theorem dX12_led_41 : decode cX12_led 41 = .ok (.iload 5, 2) := by decide +kernel
theorem dX12_led_43 : decode cX12_led 43 = .ok (.iconst 1, 1) := by decide +kernel
theorem dX12_led_44 : decode cX12_led 44 = .ok (.invokevirtual 426, 3) := by decide +kernel
theorem dX12_led_47 : decode cX12_led 47 = .ok (.iload_n 1, 1) := by decide +kernel
theorem dX12_led_48 : decode cX12_led 48 = .ok (.if_icmp .eq 6, 3) := by decide +kernel
theorem dX12_led_51 : decode cX12_led 51 = .ok (.goto 15, 3) := by decide +kernel
theorem dX12_led_54 : decode cX12_led 54 = .ok (.iinc 3 1, 3) := by decide +kernel
theorem dX12_led_57 : decode cX12_led 57 = .ok (.aload_n 0, 1) := by decide +kernel
theorem dX12_led_58 : decode cX12_led 58 = .ok (.iload 5, 2) := by decide +kernel
theorem dX12_led_60 : decode cX12_led 60 = .ok (.iconst 0, 1) := by decide +kernel
theorem dX12_led_61 : decode cX12_led 61 = .ok (.invokevirtual 426, 3) := by decide +kernel
theorem dX12_led_64 : decode cX12_led 64 = .ok (.istore 4, 2) := by decide +kernel
theorem dX12_led_66 : decode cX12_led 66 = .ok (.iinc 5 (-1), 3) := by decide +kernel
theorem dX12_led_69 : decode cX12_led 69 = .ok (.goto (-34), 3) := by decide +kernel
theorem dX12_led_72 : decode cX12_led 72 = .ok (.iload_n 2, 1) := by decide +kernel
theorem dX12_led_73 : decode cX12_led 73 = .ok (.ifCond .eq 8, 3) := by decide +kernel
theorem dX12_led_76 : decode cX12_led 76 = .ok (.iload 4, 2) := by decide +kernel
theorem dX12_led_78 : decode cX12_led 78 = .ok (.goto 4, 3) := by decide +kernel
theorem dX12_led_81 : decode cX12_led 81 = .ok (.iload_n 3, 1) := by decide +kernel
theorem dX12_led_82 : decode cX12_led 82 = .ok (.ireturn, 1) := by decide +kernel
theorem dX12_log_0 : decode cX12_log 0 = .ok (.aload_n 0, 1) := by decide +kernel
theorem dX12_log_1 : decode cX12_log 1 = .ok (.iconst 0, 1) := by decide +kernel
theorem dX12_log_2 : decode cX12_log 2 = .ok (.putfield 3, 3) := by decide +kernel
theorem dX12_log_5 : decode cX12_log 5 = .ok (.aload_n 0, 1) := by decide +kernel
theorem dX12_log_6 : decode cX12_log 6 = .ok (.iload_n 2, 1) := by decide +kernel
theorem dX12_log_7 : decode cX12_log 7 = .ok (.iconst 0, 1) := by decide +kernel
theorem dX12_log_8 : decode cX12_log 8 = .ok (.iconst 3, 1) := by decide +kernel
theorem dX12_log_9 : decode cX12_log 9 = .ok (.invokestatic 76, 3) := by decide +kernel
theorem dX12_log_12 : decode cX12_log 12 = .ok (.ifCond .ne 7, 3) := by decide +kernel
theorem dX12_log_15 : decode cX12_log 15 = .ok (.iconst 1, 1) := by decide +kernel
theorem dX12_log_16 : decode cX12_log 16 = .ok (.goto 4, 3) := by decide +kernel
theorem dX12_log_19 : decode cX12_log 19 = .ok (.iconst 0, 1) := by decide +kernel
theorem dX12_log_20 : decode cX12_log 20 = .ok (.iconst 1, 1) := by decide +kernel
theorem dX12_log_21 : decode cX12_log 21 = .ok (.invokevirtual 247, 3) := by decide +kernel
theorem dX12_log_24 : decode cX12_log 24 = .ok (.ifCond .eq 5, 3) := by decide +kernel
theorem dX12_log_27 : decode cX12_log 27 = .ok (.iconst 0, 1) := by decide +kernel
theorem dX12_log_28 : decode cX12_log 28 = .ok (.ireturn, 1) := by decide +kernel
theorem dX12_log_29 : decode cX12_log 29 = .ok (.iload_n 1, 1) := by decide +kernel
theorem dX12_log_30 : decode cX12_log 30 = .ok (.iconst 0, 1) := by decide +kernel
theorem dX12_log_31 : decode cX12_log 31 = .ok (.aload_n 0, 1) := by decide +kernel
theorem dX12_log_32 : decode cX12_log 32 = .ok (.getfield 13, 3) := by decide +kernel
theorem dX12_log_35 : decode cX12_log 35 = .ok (.bipush 11, 2) := by decide +kernel
theorem dX12_log_37 : decode cX12_log 37 = .ok (.iaload, 1) := by decide +kernel
theorem dX12_log_38 : decode cX12_log 38 = .ok (.iconst 1, 1) := by decide +kernel
theorem dX12_log_39 : decode cX12_log 39 = .ok (.isub, 1) := by decide +kernel
theorem dX12_log_40 : decode cX12_log 40 = .ok (.invokestatic 76, 3) := by decide +kernel
theorem dX12_log_43 : decode cX12_log 43 = .ok (.ifCond .eq 12, 3) := by decide +kernel
theorem dX12_log_46 : decode cX12_log 46 = .ok (.aload_n 0, 1) := by decide +kernel
theorem dX12_log_47 : decode cX12_log 47 = .ok (.iload_n 1, 1) := by decide +kernel
theorem dX12_log_48 : decode cX12_log 48 = .ok (.iload_n 2, 1) := by decide +kernel
theorem dX12_log_49 : decode cX12_log 49 = .ok (.invokevirtual 426, 3) := by decide +kernel
theorem dX12_log_52 : decode cX12_log 52 = .ok (.goto 4, 3) := by decide +kernel
theorem dX12_log_55 : decode cX12_log 55 = .ok (.iconst (-1), 1) := by decide +kernel
theorem dX12_log_56 : decode cX12_log 56 = .ok (.ireturn, 1) := by decide +kernel
theorem dX12_seed_0 : decode cX12_seed 0 = .ok (.aload_n 0, 1) := by decide +kernel
theorem dX12_seed_1 : decode cX12_seed 1 = .ok (.iconst 0, 1) := by decide +kernel
theorem dX12_seed_2 : decode cX12_seed 2 = .ok (.putfield 3, 3) := by decide +kernel
theorem dX12_seed_5 : decode cX12_seed 5 = .ok (.aload_n 0, 1) := by decide +kernel
theorem dX12_seed_6 : decode cX12_seed 6 = .ok (.getfield 13, 3) := by decide +kernel
theorem dX12_seed_9 : decode cX12_seed 9 = .ok (.bipush 12, 2) := by decide +kernel
theorem dX12_seed_11 : decode cX12_seed 11 = .ok (.iaload, 1) := by decide +kernel
theorem dX12_seed_12 : decode cX12_seed 12 = .ok (.istore_n 2, 1) := by decide +kernel
theorem dX12_seed_13 : decode cX12_seed 13 = .ok (.aload_n 0, 1) := by decide +kernel
theorem dX12_seed_14 : decode cX12_seed 14 = .ok (.getfield 13, 3) := by decide +kernel
theorem dX12_seed_17 : decode cX12_seed 17 = .ok (.bipush 12, 2) := by decide +kernel
theorem dX12_seed_19 : decode cX12_seed 19 = .ok (.iload_n 1, 1) := by decide +kernel
theorem dX12_seed_20 : decode cX12_seed 20 = .ok (.iastore, 1) := by decide +kernel
theorem dX12_seed_21 : decode cX12_seed 21 = .ok (.iload_n 2, 1) := by decide +kernel
theorem dX12_seed_22 : decode cX12_seed 22 = .ok (.ireturn, 1) := by decide +kernel
theorem dX12_brassOfAll_0 : decode cX12_brassOfAll 0 = .ok (.iconst 0, 1) := by decide +kernel
theorem dX12_brassOfAll_1 : decode cX12_brassOfAll 1 = .ok (.istore_n 1, 1) := by decide +kernel
theorem dX12_brassOfAll_2 : decode cX12_brassOfAll 2 = .ok (.iconst 0, 1) := by decide +kernel
theorem dX12_brassOfAll_3 : decode cX12_brassOfAll 3 = .ok (.istore_n 2, 1) := by decide +kernel
theorem dX12_brassOfAll_4 : decode cX12_brassOfAll 4 = .ok (.iload_n 2, 1) := by decide +kernel
theorem dX12_brassOfAll_5 : decode cX12_brassOfAll 5 = .ok (.aload_n 0, 1) := by decide +kernel
theorem dX12_brassOfAll_6 : decode cX12_brassOfAll 6 = .ok (.invokevirtual 73, 3) := by decide +kernel
theorem dX12_brassOfAll_9 : decode cX12_brassOfAll 9 = .ok (.if_icmp .ge 18, 3) := by decide +kernel
theorem dX12_brassOfAll_12 : decode cX12_brassOfAll 12 = .ok (.iload_n 1, 1) := by decide +kernel
theorem dX12_brassOfAll_13 : decode cX12_brassOfAll 13 = .ok (.aload_n 0, 1) := by decide +kernel
theorem dX12_brassOfAll_14 : decode cX12_brassOfAll 14 = .ok (.iload_n 2, 1) := by decide +kernel
theorem dX12_brassOfAll_15 : decode cX12_brassOfAll 15 = .ok (.iconst 2, 1) := by decide +kernel
theorem dX12_brassOfAll_16 : decode cX12_brassOfAll 16 = .ok (.invokevirtual 314, 3) := by decide +kernel
theorem dX12_brassOfAll_19 : decode cX12_brassOfAll 19 = .ok (.iadd, 1) := by decide +kernel
theorem dX12_brassOfAll_20 : decode cX12_brassOfAll 20 = .ok (.istore_n 1, 1) := by decide +kernel
theorem dX12_brassOfAll_21 : decode cX12_brassOfAll 21 = .ok (.iinc 2 1, 3) := by decide +kernel
theorem dX12_brassOfAll_24 : decode cX12_brassOfAll 24 = .ok (.goto (-20), 3) := by decide +kernel
theorem dX12_brassOfAll_27 : decode cX12_brassOfAll 27 = .ok (.iload_n 1, 1) := by decide +kernel
theorem dX12_brassOfAll_28 : decode cX12_brassOfAll 28 = .ok (.ireturn, 1) := by decide +kernel
theorem dX12_count_0 : decode cX12_count 0 = .ok (.aload_n 0, 1) := by decide +kernel
theorem dX12_count_1 : decode cX12_count 1 = .ok (.iconst 0, 1) := by decide +kernel
theorem dX12_count_2 : decode cX12_count 2 = .ok (.putfield 3, 3) := by decide +kernel
theorem dX12_count_5 : decode cX12_count 5 = .ok (.iload_n 1, 1) := by decide +kernel
theorem dX12_count_6 : decode cX12_count 6 = .ok (.tableswitch 100 2 11 #[54, 100, 100, 100, 100, 100, 74, 79, 87, 95], 54) := by decide +kernel
theorem dX12_count_60 : decode cX12_count 60 = .ok (.aload_n 0, 1) := by decide +kernel
theorem dX12_count_61 : decode cX12_count 61 = .ok (.invokevirtual 275, 3) := by decide +kernel
theorem dX12_count_64 : decode cX12_count 64 = .ok (.ifCond .eq 14, 3) := by decide +kernel
theorem dX12_count_67 : decode cX12_count 67 = .ok (.aload_n 0, 1) := by decide +kernel
theorem dX12_count_68 : decode cX12_count 68 = .ok (.getfield 13, 3) := by decide +kernel
theorem dX12_count_71 : decode cX12_count 71 = .ok (.sipush 333, 3) := by decide +kernel
theorem dX12_count_74 : decode cX12_count 74 = .ok (.iaload, 1) := by decide +kernel
theorem dX12_count_75 : decode cX12_count 75 = .ok (.goto 4, 3) := by decide +kernel
theorem dX12_count_78 : decode cX12_count 78 = .ok (.iconst (-1), 1) := by decide +kernel
theorem dX12_count_79 : decode cX12_count 79 = .ok (.ireturn, 1) := by decide +kernel
theorem dX12_count_80 : decode cX12_count 80 = .ok (.aload_n 0, 1) := by decide +kernel
theorem dX12_count_81 : decode cX12_count 81 = .ok (.invokevirtual 429, 3) := by decide +kernel
theorem dX12_count_84 : decode cX12_count 84 = .ok (.ireturn, 1) := by decide +kernel
theorem dX12_count_85 : decode cX12_count 85 = .ok (.aload_n 0, 1) := by decide +kernel
theorem dX12_count_86 : decode cX12_count 86 = .ok (.getfield 13, 3) := by decide +kernel
theorem dX12_count_89 : decode cX12_count 89 = .ok (.bipush 10, 2) := by decide +kernel
theorem dX12_count_91 : decode cX12_count 91 = .ok (.iaload, 1) := by decide +kernel
theorem dX12_count_92 : decode cX12_count 92 = .ok (.ireturn, 1) := by decide +kernel
theorem dX12_count_93 : decode cX12_count 93 = .ok (.aload_n 0, 1) := by decide +kernel
theorem dX12_count_94 : decode cX12_count 94 = .ok (.getfield 13, 3) := by decide +kernel
theorem dX12_count_97 : decode cX12_count 97 = .ok (.bipush 11, 2) := by decide +kernel
theorem dX12_count_99 : decode cX12_count 99 = .ok (.iaload, 1) := by decide +kernel
theorem dX12_count_100 : decode cX12_count 100 = .ok (.ireturn, 1) := by decide +kernel
theorem dX12_count_101 : decode cX12_count 101 = .ok (.aload_n 0, 1) := by decide +kernel
theorem dX12_count_102 : decode cX12_count 102 = .ok (.getfield 58, 3) := by decide +kernel
theorem dX12_count_105 : decode cX12_count 105 = .ok (.ireturn, 1) := by decide +kernel
theorem dX12_count_106 : decode cX12_count 106 = .ok (.iload_n 1, 1) := by decide +kernel
theorem dX12_count_107 : decode cX12_count 107 = .ok (.iconst 0, 1) := by decide +kernel
theorem dX12_count_108 : decode cX12_count 108 = .ok (.bipush 7, 2) := by decide +kernel
theorem dX12_count_110 : decode cX12_count 110 = .ok (.invokestatic 76, 3) := by decide +kernel
theorem dX12_count_113 : decode cX12_count 113 = .ok (.ifCond .eq 12, 3) := by decide +kernel
theorem dX12_count_116 : decode cX12_count 116 = .ok (.aload_n 0, 1) := by decide +kernel
theorem dX12_count_117 : decode cX12_count 117 = .ok (.getfield 13, 3) := by decide +kernel
theorem dX12_count_120 : decode cX12_count 120 = .ok (.iload_n 1, 1) := by decide +kernel
theorem dX12_count_121 : decode cX12_count 121 = .ok (.iaload, 1) := by decide +kernel
theorem dX12_count_122 : decode cX12_count 122 = .ok (.goto 4, 3) := by decide +kernel
theorem dX12_count_125 : decode cX12_count 125 = .ok (.iconst (-1), 1) := by decide +kernel
theorem dX12_count_126 : decode cX12_count 126 = .ok (.ireturn, 1) := by decide +kernel
theorem dL_sky_0 : decode cL_sky 0 = .ok (.aload_n 1, 1) := by decide +kernel
theorem dL_sky_1 : decode cL_sky 1 = .ok (.iconst 0, 1) := by decide +kernel
theorem dL_sky_2 : decode cL_sky 2 = .ok (.aload_n 0, 1) := by decide +kernel
theorem dL_sky_3 : decode cL_sky 3 = .ok (.invokevirtual 7, 3) := by decide +kernel
theorem dL_sky_6 : decode cL_sky 6 = .ok (.i2l, 1) := by decide +kernel
theorem dL_sky_7 : decode cL_sky 7 = .ok (.lastore, 1) := by decide +kernel
theorem dL_sky_8 : decode cL_sky 8 = .ok (.goto 9, 3) := by decide +kernel
theorem dL_sky_11 : decode cL_sky 11 = .ok (.astore_n 2, 1) := by decide +kernel
theorem dL_sky_12 : decode cL_sky 12 = .ok (.iconst 1, 1) := by decide +kernel
theorem dL_sky_13 : decode cL_sky 13 = .ok (.ireturn, 1) := by decide +kernel
theorem dL_sky_14 : decode cL_sky 14 = .ok (.astore_n 2, 1) := by decide +kernel
theorem dL_sky_15 : decode cL_sky 15 = .ok (.iconst 2, 1) := by decide +kernel
theorem dL_sky_16 : decode cL_sky 16 = .ok (.ireturn, 1) := by decide +kernel
theorem dL_sky_17 : decode cL_sky 17 = .ok (.iconst 0, 1) := by decide +kernel
theorem dL_sky_18 : decode cL_sky 18 = .ok (.ireturn, 1) := by decide +kernel
theorem dL_law_0 : decode cL_law 0 = .ok (.aload_n 1, 1) := by decide +kernel
theorem dL_law_1 : decode cL_law 1 = .ok (.iconst 0, 1) := by decide +kernel
theorem dL_law_2 : decode cL_law 2 = .ok (.aload_n 0, 1) := by decide +kernel
theorem dL_law_3 : decode cL_law 3 = .ok (.invokevirtual 17, 3) := by decide +kernel
theorem dL_law_6 : decode cL_law 6 = .ok (.i2l, 1) := by decide +kernel
theorem dL_law_7 : decode cL_law 7 = .ok (.lastore, 1) := by decide +kernel
theorem dL_law_8 : decode cL_law 8 = .ok (.goto 6, 3) := by decide +kernel
theorem dL_law_11 : decode cL_law 11 = .ok (.astore_n 2, 1) := by decide +kernel
theorem dL_law_12 : decode cL_law 12 = .ok (.iconst 1, 1) := by decide +kernel
theorem dL_law_13 : decode cL_law 13 = .ok (.ireturn, 1) := by decide +kernel
theorem dL_law_14 : decode cL_law 14 = .ok (.iconst 0, 1) := by decide +kernel
theorem dL_law_15 : decode cL_law 15 = .ok (.ireturn, 1) := by decide +kernel
theorem dL_place_0 : decode cL_place 0 = .ok (.aload_n 3, 1) := by decide +kernel
theorem dL_place_1 : decode cL_place 1 = .ok (.iconst 0, 1) := by decide +kernel
theorem dL_place_2 : decode cL_place 2 = .ok (.aload_n 0, 1) := by decide +kernel
theorem dL_place_3 : decode cL_place 3 = .ok (.iload_n 1, 1) := by decide +kernel
theorem dL_place_4 : decode cL_place 4 = .ok (.iload_n 2, 1) := by decide +kernel
theorem dL_place_5 : decode cL_place 5 = .ok (.invokevirtual 20, 3) := by decide +kernel
theorem dL_place_8 : decode cL_place 8 = .ok (.i2l, 1) := by decide +kernel
theorem dL_place_9 : decode cL_place 9 = .ok (.lastore, 1) := by decide +kernel
theorem dL_place_10 : decode cL_place 10 = .ok (.goto 11, 3) := by decide +kernel
theorem dL_place_13 : decode cL_place 13 = .ok (.astore 4, 2) := by decide +kernel
theorem dL_place_15 : decode cL_place 15 = .ok (.iconst 1, 1) := by decide +kernel
theorem dL_place_16 : decode cL_place 16 = .ok (.ireturn, 1) := by decide +kernel
theorem dL_place_17 : decode cL_place 17 = .ok (.astore 4, 2) := by decide +kernel
theorem dL_place_19 : decode cL_place 19 = .ok (.iconst 2, 1) := by decide +kernel
theorem dL_place_20 : decode cL_place 20 = .ok (.ireturn, 1) := by decide +kernel
theorem dL_place_21 : decode cL_place 21 = .ok (.iconst 0, 1) := by decide +kernel
theorem dL_place_22 : decode cL_place 22 = .ok (.ireturn, 1) := by decide +kernel
theorem dL_pinner_0 : decode cL_pinner 0 = .ok (.aload_n 3, 1) := by decide +kernel
theorem dL_pinner_1 : decode cL_pinner 1 = .ok (.iconst 0, 1) := by decide +kernel
theorem dL_pinner_2 : decode cL_pinner 2 = .ok (.aload_n 0, 1) := by decide +kernel
theorem dL_pinner_3 : decode cL_pinner 3 = .ok (.iload_n 1, 1) := by decide +kernel
theorem dL_pinner_4 : decode cL_pinner 4 = .ok (.iload_n 2, 1) := by decide +kernel
theorem dL_pinner_5 : decode cL_pinner 5 = .ok (.invokevirtual 28, 3) := by decide +kernel
theorem dL_pinner_8 : decode cL_pinner 8 = .ok (.i2l, 1) := by decide +kernel
theorem dL_pinner_9 : decode cL_pinner 9 = .ok (.lastore, 1) := by decide +kernel
theorem dL_pinner_10 : decode cL_pinner 10 = .ok (.goto 11, 3) := by decide +kernel
theorem dL_pinner_13 : decode cL_pinner 13 = .ok (.astore 4, 2) := by decide +kernel
theorem dL_pinner_15 : decode cL_pinner 15 = .ok (.iconst 1, 1) := by decide +kernel
theorem dL_pinner_16 : decode cL_pinner 16 = .ok (.ireturn, 1) := by decide +kernel
theorem dL_pinner_17 : decode cL_pinner 17 = .ok (.astore 4, 2) := by decide +kernel
theorem dL_pinner_19 : decode cL_pinner 19 = .ok (.iconst 2, 1) := by decide +kernel
theorem dL_pinner_20 : decode cL_pinner 20 = .ok (.ireturn, 1) := by decide +kernel
theorem dL_pinner_21 : decode cL_pinner 21 = .ok (.iconst 0, 1) := by decide +kernel
theorem dL_pinner_22 : decode cL_pinner 22 = .ok (.ireturn, 1) := by decide +kernel
theorem dL_rusts_0 : decode cL_rusts 0 = .ok (.aload_n 2, 1) := by decide +kernel
theorem dL_rusts_1 : decode cL_rusts 1 = .ok (.iconst 0, 1) := by decide +kernel
theorem dL_rusts_2 : decode cL_rusts 2 = .ok (.aload_n 0, 1) := by decide +kernel
theorem dL_rusts_3 : decode cL_rusts 3 = .ok (.iload_n 1, 1) := by decide +kernel
theorem dL_rusts_4 : decode cL_rusts 4 = .ok (.invokevirtual 31, 3) := by decide +kernel
theorem dL_rusts_7 : decode cL_rusts 7 = .ok (.i2l, 1) := by decide +kernel
theorem dL_rusts_8 : decode cL_rusts 8 = .ok (.lastore, 1) := by decide +kernel
theorem dL_rusts_9 : decode cL_rusts 9 = .ok (.goto 6, 3) := by decide +kernel
theorem dL_rusts_12 : decode cL_rusts 12 = .ok (.astore_n 3, 1) := by decide +kernel
theorem dL_rusts_13 : decode cL_rusts 13 = .ok (.iconst 1, 1) := by decide +kernel
theorem dL_rusts_14 : decode cL_rusts 14 = .ok (.ireturn, 1) := by decide +kernel
theorem dL_rusts_15 : decode cL_rusts 15 = .ok (.iconst 0, 1) := by decide +kernel
theorem dL_rusts_16 : decode cL_rusts 16 = .ok (.ireturn, 1) := by decide +kernel
theorem dL_pin_0 : decode cL_pin 0 = .ok (.aload_n 2, 1) := by decide +kernel
theorem dL_pin_1 : decode cL_pin 1 = .ok (.iconst 0, 1) := by decide +kernel
theorem dL_pin_2 : decode cL_pin 2 = .ok (.aload_n 0, 1) := by decide +kernel
theorem dL_pin_3 : decode cL_pin 3 = .ok (.iload_n 1, 1) := by decide +kernel
theorem dL_pin_4 : decode cL_pin 4 = .ok (.invokevirtual 35, 3) := by decide +kernel
theorem dL_pin_7 : decode cL_pin 7 = .ok (.i2l, 1) := by decide +kernel
theorem dL_pin_8 : decode cL_pin 8 = .ok (.lastore, 1) := by decide +kernel
theorem dL_pin_9 : decode cL_pin 9 = .ok (.goto 9, 3) := by decide +kernel
theorem dL_pin_12 : decode cL_pin 12 = .ok (.astore_n 3, 1) := by decide +kernel
theorem dL_pin_13 : decode cL_pin 13 = .ok (.iconst 1, 1) := by decide +kernel
theorem dL_pin_14 : decode cL_pin 14 = .ok (.ireturn, 1) := by decide +kernel
theorem dL_pin_15 : decode cL_pin 15 = .ok (.astore_n 3, 1) := by decide +kernel
theorem dL_pin_16 : decode cL_pin 16 = .ok (.iconst 2, 1) := by decide +kernel
theorem dL_pin_17 : decode cL_pin 17 = .ok (.ireturn, 1) := by decide +kernel
theorem dL_pin_18 : decode cL_pin 18 = .ok (.iconst 0, 1) := by decide +kernel
theorem dL_pin_19 : decode cL_pin 19 = .ok (.ireturn, 1) := by decide +kernel
theorem dL_change_0 : decode cL_change 0 = .ok (.aload_n 2, 1) := by decide +kernel
theorem dL_change_1 : decode cL_change 1 = .ok (.iconst 0, 1) := by decide +kernel
theorem dL_change_2 : decode cL_change 2 = .ok (.aload_n 0, 1) := by decide +kernel
theorem dL_change_3 : decode cL_change 3 = .ok (.iload_n 1, 1) := by decide +kernel
theorem dL_change_4 : decode cL_change 4 = .ok (.invokevirtual 40, 3) := by decide +kernel
theorem dL_change_7 : decode cL_change 7 = .ok (.i2l, 1) := by decide +kernel
theorem dL_change_8 : decode cL_change 8 = .ok (.lastore, 1) := by decide +kernel
theorem dL_change_9 : decode cL_change 9 = .ok (.goto 9, 3) := by decide +kernel
theorem dL_change_12 : decode cL_change 12 = .ok (.astore_n 3, 1) := by decide +kernel
theorem dL_change_13 : decode cL_change 13 = .ok (.iconst 1, 1) := by decide +kernel
theorem dL_change_14 : decode cL_change 14 = .ok (.ireturn, 1) := by decide +kernel
theorem dL_change_15 : decode cL_change 15 = .ok (.astore_n 3, 1) := by decide +kernel
theorem dL_change_16 : decode cL_change 16 = .ok (.iconst 2, 1) := by decide +kernel
theorem dL_change_17 : decode cL_change 17 = .ok (.ireturn, 1) := by decide +kernel
theorem dL_change_18 : decode cL_change 18 = .ok (.iconst 0, 1) := by decide +kernel
theorem dL_change_19 : decode cL_change 19 = .ok (.ireturn, 1) := by decide +kernel
theorem dL_go_0 : decode cL_go 0 = .ok (.aload_n 3, 1) := by decide +kernel
theorem dL_go_1 : decode cL_go 1 = .ok (.iconst 0, 1) := by decide +kernel
theorem dL_go_2 : decode cL_go 2 = .ok (.aload_n 0, 1) := by decide +kernel
theorem dL_go_3 : decode cL_go 3 = .ok (.iload_n 1, 1) := by decide +kernel
theorem dL_go_4 : decode cL_go 4 = .ok (.iload_n 2, 1) := by decide +kernel
theorem dL_go_5 : decode cL_go 5 = .ok (.invokevirtual 43, 3) := by decide +kernel
theorem dL_go_8 : decode cL_go 8 = .ok (.i2l, 1) := by decide +kernel
theorem dL_go_9 : decode cL_go 9 = .ok (.lastore, 1) := by decide +kernel
theorem dL_go_10 : decode cL_go 10 = .ok (.goto 11, 3) := by decide +kernel
theorem dL_go_13 : decode cL_go 13 = .ok (.astore 4, 2) := by decide +kernel
theorem dL_go_15 : decode cL_go 15 = .ok (.iconst 1, 1) := by decide +kernel
theorem dL_go_16 : decode cL_go 16 = .ok (.ireturn, 1) := by decide +kernel
theorem dL_go_17 : decode cL_go 17 = .ok (.astore 4, 2) := by decide +kernel
theorem dL_go_19 : decode cL_go 19 = .ok (.iconst 2, 1) := by decide +kernel
theorem dL_go_20 : decode cL_go 20 = .ok (.ireturn, 1) := by decide +kernel
theorem dL_go_21 : decode cL_go 21 = .ok (.iconst 0, 1) := by decide +kernel
theorem dL_go_22 : decode cL_go 22 = .ok (.ireturn, 1) := by decide +kernel
theorem dL_pull_0 : decode cL_pull 0 = .ok (.aload_n 2, 1) := by decide +kernel
theorem dL_pull_1 : decode cL_pull 1 = .ok (.iconst 0, 1) := by decide +kernel
theorem dL_pull_2 : decode cL_pull 2 = .ok (.aload_n 0, 1) := by decide +kernel
theorem dL_pull_3 : decode cL_pull 3 = .ok (.iload_n 1, 1) := by decide +kernel
theorem dL_pull_4 : decode cL_pull 4 = .ok (.invokevirtual 46, 3) := by decide +kernel
theorem dL_pull_7 : decode cL_pull 7 = .ok (.i2l, 1) := by decide +kernel
theorem dL_pull_8 : decode cL_pull 8 = .ok (.lastore, 1) := by decide +kernel
theorem dL_pull_9 : decode cL_pull 9 = .ok (.goto 9, 3) := by decide +kernel
theorem dL_pull_12 : decode cL_pull 12 = .ok (.astore_n 3, 1) := by decide +kernel
theorem dL_pull_13 : decode cL_pull 13 = .ok (.iconst 1, 1) := by decide +kernel
theorem dL_pull_14 : decode cL_pull 14 = .ok (.ireturn, 1) := by decide +kernel
theorem dL_pull_15 : decode cL_pull 15 = .ok (.astore_n 3, 1) := by decide +kernel
theorem dL_pull_16 : decode cL_pull 16 = .ok (.iconst 2, 1) := by decide +kernel
theorem dL_pull_17 : decode cL_pull 17 = .ok (.ireturn, 1) := by decide +kernel
theorem dL_pull_18 : decode cL_pull 18 = .ok (.iconst 0, 1) := by decide +kernel
theorem dL_pull_19 : decode cL_pull 19 = .ok (.ireturn, 1) := by decide +kernel
theorem dL_hand_0 : decode cL_hand 0 = .ok (.aload_n 3, 1) := by decide +kernel
theorem dL_hand_1 : decode cL_hand 1 = .ok (.iconst 0, 1) := by decide +kernel
theorem dL_hand_2 : decode cL_hand 2 = .ok (.aload_n 0, 1) := by decide +kernel
theorem dL_hand_3 : decode cL_hand 3 = .ok (.iload_n 1, 1) := by decide +kernel
theorem dL_hand_4 : decode cL_hand 4 = .ok (.iload_n 2, 1) := by decide +kernel
theorem dL_hand_5 : decode cL_hand 5 = .ok (.invokevirtual 49, 3) := by decide +kernel
theorem dL_hand_8 : decode cL_hand 8 = .ok (.i2l, 1) := by decide +kernel
theorem dL_hand_9 : decode cL_hand 9 = .ok (.lastore, 1) := by decide +kernel
theorem dL_hand_10 : decode cL_hand 10 = .ok (.goto 15, 3) := by decide +kernel
theorem dL_hand_13 : decode cL_hand 13 = .ok (.astore 4, 2) := by decide +kernel
theorem dL_hand_15 : decode cL_hand 15 = .ok (.iconst 1, 1) := by decide +kernel
theorem dL_hand_16 : decode cL_hand 16 = .ok (.ireturn, 1) := by decide +kernel
theorem dL_hand_17 : decode cL_hand 17 = .ok (.astore 4, 2) := by decide +kernel
theorem dL_hand_19 : decode cL_hand 19 = .ok (.iconst 2, 1) := by decide +kernel
theorem dL_hand_20 : decode cL_hand 20 = .ok (.ireturn, 1) := by decide +kernel
theorem dL_hand_21 : decode cL_hand 21 = .ok (.astore 4, 2) := by decide +kernel
theorem dL_hand_23 : decode cL_hand 23 = .ok (.iconst 3, 1) := by decide +kernel
theorem dL_hand_24 : decode cL_hand 24 = .ok (.ireturn, 1) := by decide +kernel
theorem dL_hand_25 : decode cL_hand 25 = .ok (.iconst 0, 1) := by decide +kernel
theorem dL_hand_26 : decode cL_hand 26 = .ok (.ireturn, 1) := by decide +kernel
theorem dL_fell_0 : decode cL_fell 0 = .ok (.aload_n 2, 1) := by decide +kernel
theorem dL_fell_1 : decode cL_fell 1 = .ok (.iconst 0, 1) := by decide +kernel
theorem dL_fell_2 : decode cL_fell 2 = .ok (.aload_n 0, 1) := by decide +kernel
theorem dL_fell_3 : decode cL_fell 3 = .ok (.iload_n 1, 1) := by decide +kernel
theorem dL_fell_4 : decode cL_fell 4 = .ok (.invokevirtual 52, 3) := by decide +kernel
theorem dL_fell_7 : decode cL_fell 7 = .ok (.i2l, 1) := by decide +kernel
theorem dL_fell_8 : decode cL_fell 8 = .ok (.lastore, 1) := by decide +kernel
theorem dL_fell_9 : decode cL_fell 9 = .ok (.goto 6, 3) := by decide +kernel
theorem dL_fell_12 : decode cL_fell 12 = .ok (.astore_n 3, 1) := by decide +kernel
theorem dL_fell_13 : decode cL_fell 13 = .ok (.iconst 1, 1) := by decide +kernel
theorem dL_fell_14 : decode cL_fell 14 = .ok (.ireturn, 1) := by decide +kernel
theorem dL_fell_15 : decode cL_fell 15 = .ok (.iconst 0, 1) := by decide +kernel
theorem dL_fell_16 : decode cL_fell 16 = .ok (.ireturn, 1) := by decide +kernel
theorem dL_height_0 : decode cL_height 0 = .ok (.aload_n 2, 1) := by decide +kernel
theorem dL_height_1 : decode cL_height 1 = .ok (.iconst 0, 1) := by decide +kernel
theorem dL_height_2 : decode cL_height 2 = .ok (.aload_n 0, 1) := by decide +kernel
theorem dL_height_3 : decode cL_height 3 = .ok (.iload_n 1, 1) := by decide +kernel
theorem dL_height_4 : decode cL_height 4 = .ok (.invokevirtual 55, 3) := by decide +kernel
theorem dL_height_7 : decode cL_height 7 = .ok (.i2l, 1) := by decide +kernel
theorem dL_height_8 : decode cL_height 8 = .ok (.lastore, 1) := by decide +kernel
theorem dL_height_9 : decode cL_height 9 = .ok (.goto 6, 3) := by decide +kernel
theorem dL_height_12 : decode cL_height 12 = .ok (.astore_n 3, 1) := by decide +kernel
theorem dL_height_13 : decode cL_height 13 = .ok (.iconst 1, 1) := by decide +kernel
theorem dL_height_14 : decode cL_height 14 = .ok (.ireturn, 1) := by decide +kernel
theorem dL_height_15 : decode cL_height 15 = .ok (.iconst 0, 1) := by decide +kernel
theorem dL_height_16 : decode cL_height 16 = .ok (.ireturn, 1) := by decide +kernel
theorem dL_days_0 : decode cL_days 0 = .ok (.aload_n 2, 1) := by decide +kernel
theorem dL_days_1 : decode cL_days 1 = .ok (.iconst 0, 1) := by decide +kernel
theorem dL_days_2 : decode cL_days 2 = .ok (.aload_n 0, 1) := by decide +kernel
theorem dL_days_3 : decode cL_days 3 = .ok (.iload_n 1, 1) := by decide +kernel
theorem dL_days_4 : decode cL_days 4 = .ok (.invokevirtual 58, 3) := by decide +kernel
theorem dL_days_7 : decode cL_days 7 = .ok (.i2l, 1) := by decide +kernel
theorem dL_days_8 : decode cL_days 8 = .ok (.lastore, 1) := by decide +kernel
theorem dL_days_9 : decode cL_days 9 = .ok (.goto 6, 3) := by decide +kernel
theorem dL_days_12 : decode cL_days 12 = .ok (.astore_n 3, 1) := by decide +kernel
theorem dL_days_13 : decode cL_days 13 = .ok (.iconst 1, 1) := by decide +kernel
theorem dL_days_14 : decode cL_days 14 = .ok (.ireturn, 1) := by decide +kernel
theorem dL_days_15 : decode cL_days 15 = .ok (.iconst 0, 1) := by decide +kernel
theorem dL_days_16 : decode cL_days 16 = .ok (.ireturn, 1) := by decide +kernel
theorem dL_round_0 : decode cL_round 0 = .ok (.aload 4, 2) := by decide +kernel
theorem dL_round_2 : decode cL_round 2 = .ok (.iconst 0, 1) := by decide +kernel
theorem dL_round_3 : decode cL_round 3 = .ok (.aload_n 0, 1) := by decide +kernel
theorem dL_round_4 : decode cL_round 4 = .ok (.iload_n 1, 1) := by decide +kernel
theorem dL_round_5 : decode cL_round 5 = .ok (.iload_n 2, 1) := by decide +kernel
theorem dL_round_6 : decode cL_round 6 = .ok (.iload_n 3, 1) := by decide +kernel
theorem dL_round_7 : decode cL_round 7 = .ok (.invokevirtual 61, 3) := by decide +kernel
theorem dL_round_10 : decode cL_round 10 = .ok (.i2l, 1) := by decide +kernel
theorem dL_round_11 : decode cL_round 11 = .ok (.lastore, 1) := by decide +kernel
theorem dL_round_12 : decode cL_round 12 = .ok (.goto 7, 3) := by decide +kernel
theorem dL_round_15 : decode cL_round 15 = .ok (.astore 5, 2) := by decide +kernel
theorem dL_round_17 : decode cL_round 17 = .ok (.iconst 1, 1) := by decide +kernel
theorem dL_round_18 : decode cL_round 18 = .ok (.ireturn, 1) := by decide +kernel
theorem dL_round_19 : decode cL_round 19 = .ok (.iconst 0, 1) := by decide +kernel
theorem dL_round_20 : decode cL_round 20 = .ok (.ireturn, 1) := by decide +kernel
theorem dL_goes_0 : decode cL_goes 0 = .ok (.aload_n 2, 1) := by decide +kernel
theorem dL_goes_1 : decode cL_goes 1 = .ok (.iconst 0, 1) := by decide +kernel
theorem dL_goes_2 : decode cL_goes 2 = .ok (.aload_n 0, 1) := by decide +kernel
theorem dL_goes_3 : decode cL_goes 3 = .ok (.iload_n 1, 1) := by decide +kernel
theorem dL_goes_4 : decode cL_goes 4 = .ok (.invokevirtual 65, 3) := by decide +kernel
theorem dL_goes_7 : decode cL_goes 7 = .ok (.i2l, 1) := by decide +kernel
theorem dL_goes_8 : decode cL_goes 8 = .ok (.lastore, 1) := by decide +kernel
theorem dL_goes_9 : decode cL_goes 9 = .ok (.goto 9, 3) := by decide +kernel
theorem dL_goes_12 : decode cL_goes 12 = .ok (.astore_n 3, 1) := by decide +kernel
theorem dL_goes_13 : decode cL_goes 13 = .ok (.iconst 1, 1) := by decide +kernel
theorem dL_goes_14 : decode cL_goes 14 = .ok (.ireturn, 1) := by decide +kernel
theorem dL_goes_15 : decode cL_goes 15 = .ok (.astore_n 3, 1) := by decide +kernel
theorem dL_goes_16 : decode cL_goes 16 = .ok (.iconst 2, 1) := by decide +kernel
theorem dL_goes_17 : decode cL_goes 17 = .ok (.ireturn, 1) := by decide +kernel
theorem dL_goes_18 : decode cL_goes 18 = .ok (.iconst 0, 1) := by decide +kernel
theorem dL_goes_19 : decode cL_goes 19 = .ok (.ireturn, 1) := by decide +kernel
theorem dL_before_0 : decode cL_before 0 = .ok (.aload_n 2, 1) := by decide +kernel
theorem dL_before_1 : decode cL_before 1 = .ok (.iconst 0, 1) := by decide +kernel
theorem dL_before_2 : decode cL_before 2 = .ok (.aload_n 0, 1) := by decide +kernel
theorem dL_before_3 : decode cL_before 3 = .ok (.iload_n 1, 1) := by decide +kernel
theorem dL_before_4 : decode cL_before 4 = .ok (.invokevirtual 68, 3) := by decide +kernel
theorem dL_before_7 : decode cL_before 7 = .ok (.i2l, 1) := by decide +kernel
theorem dL_before_8 : decode cL_before 8 = .ok (.lastore, 1) := by decide +kernel
theorem dL_before_9 : decode cL_before 9 = .ok (.goto 6, 3) := by decide +kernel
theorem dL_before_12 : decode cL_before 12 = .ok (.astore_n 3, 1) := by decide +kernel
theorem dL_before_13 : decode cL_before 13 = .ok (.iconst 1, 1) := by decide +kernel
theorem dL_before_14 : decode cL_before 14 = .ok (.ireturn, 1) := by decide +kernel
theorem dL_before_15 : decode cL_before 15 = .ok (.iconst 0, 1) := by decide +kernel
theorem dL_before_16 : decode cL_before 16 = .ok (.ireturn, 1) := by decide +kernel
theorem dL_seen_0 : decode cL_seen 0 = .ok (.aload_n 2, 1) := by decide +kernel
theorem dL_seen_1 : decode cL_seen 1 = .ok (.iconst 0, 1) := by decide +kernel
theorem dL_seen_2 : decode cL_seen 2 = .ok (.aload_n 0, 1) := by decide +kernel
theorem dL_seen_3 : decode cL_seen 3 = .ok (.iload_n 1, 1) := by decide +kernel
theorem dL_seen_4 : decode cL_seen 4 = .ok (.invokevirtual 71, 3) := by decide +kernel
theorem dL_seen_7 : decode cL_seen 7 = .ok (.i2l, 1) := by decide +kernel
theorem dL_seen_8 : decode cL_seen 8 = .ok (.lastore, 1) := by decide +kernel
theorem dL_seen_9 : decode cL_seen 9 = .ok (.goto 6, 3) := by decide +kernel
theorem dL_seen_12 : decode cL_seen 12 = .ok (.astore_n 3, 1) := by decide +kernel
theorem dL_seen_13 : decode cL_seen 13 = .ok (.iconst 1, 1) := by decide +kernel
theorem dL_seen_14 : decode cL_seen 14 = .ok (.ireturn, 1) := by decide +kernel
theorem dL_seen_15 : decode cL_seen 15 = .ok (.iconst 0, 1) := by decide +kernel
theorem dL_seen_16 : decode cL_seen 16 = .ok (.ireturn, 1) := by decide +kernel
theorem dL_climb_0 : decode cL_climb 0 = .ok (.aload_n 1, 1) := by decide +kernel
theorem dL_climb_1 : decode cL_climb 1 = .ok (.iconst 0, 1) := by decide +kernel
theorem dL_climb_2 : decode cL_climb 2 = .ok (.aload_n 0, 1) := by decide +kernel
theorem dL_climb_3 : decode cL_climb 3 = .ok (.invokevirtual 75, 3) := by decide +kernel
theorem dL_climb_6 : decode cL_climb 6 = .ok (.i2l, 1) := by decide +kernel
theorem dL_climb_7 : decode cL_climb 7 = .ok (.lastore, 1) := by decide +kernel
theorem dL_climb_8 : decode cL_climb 8 = .ok (.goto 6, 3) := by decide +kernel
theorem dL_climb_11 : decode cL_climb 11 = .ok (.astore_n 2, 1) := by decide +kernel
theorem dL_climb_12 : decode cL_climb 12 = .ok (.iconst 1, 1) := by decide +kernel
theorem dL_climb_13 : decode cL_climb 13 = .ok (.ireturn, 1) := by decide +kernel
theorem dL_climb_14 : decode cL_climb 14 = .ok (.iconst 0, 1) := by decide +kernel
theorem dL_climb_15 : decode cL_climb 15 = .ok (.ireturn, 1) := by decide +kernel
theorem dL_pay_0 : decode cL_pay 0 = .ok (.aload_n 2, 1) := by decide +kernel
theorem dL_pay_1 : decode cL_pay 1 = .ok (.iconst 0, 1) := by decide +kernel
theorem dL_pay_2 : decode cL_pay 2 = .ok (.aload_n 0, 1) := by decide +kernel
theorem dL_pay_3 : decode cL_pay 3 = .ok (.iload_n 1, 1) := by decide +kernel
theorem dL_pay_4 : decode cL_pay 4 = .ok (.invokevirtual 78, 3) := by decide +kernel
theorem dL_pay_7 : decode cL_pay 7 = .ok (.i2l, 1) := by decide +kernel
theorem dL_pay_8 : decode cL_pay 8 = .ok (.lastore, 1) := by decide +kernel
theorem dL_pay_9 : decode cL_pay 9 = .ok (.goto 6, 3) := by decide +kernel
theorem dL_pay_12 : decode cL_pay 12 = .ok (.astore_n 3, 1) := by decide +kernel
theorem dL_pay_13 : decode cL_pay 13 = .ok (.iconst 1, 1) := by decide +kernel
theorem dL_pay_14 : decode cL_pay 14 = .ok (.ireturn, 1) := by decide +kernel
theorem dL_pay_15 : decode cL_pay 15 = .ok (.iconst 0, 1) := by decide +kernel
theorem dL_pay_16 : decode cL_pay 16 = .ok (.ireturn, 1) := by decide +kernel
theorem dL_stars_0 : decode cL_stars 0 = .ok (.aload_n 3, 1) := by decide +kernel
theorem dL_stars_1 : decode cL_stars 1 = .ok (.iconst 0, 1) := by decide +kernel
theorem dL_stars_2 : decode cL_stars 2 = .ok (.aload_n 0, 1) := by decide +kernel
theorem dL_stars_3 : decode cL_stars 3 = .ok (.iload_n 1, 1) := by decide +kernel
theorem dL_stars_4 : decode cL_stars 4 = .ok (.iload_n 2, 1) := by decide +kernel
theorem dL_stars_5 : decode cL_stars 5 = .ok (.invokevirtual 81, 3) := by decide +kernel
theorem dL_stars_8 : decode cL_stars 8 = .ok (.i2l, 1) := by decide +kernel
theorem dL_stars_9 : decode cL_stars 9 = .ok (.lastore, 1) := by decide +kernel
theorem dL_stars_10 : decode cL_stars 10 = .ok (.goto 11, 3) := by decide +kernel
theorem dL_stars_13 : decode cL_stars 13 = .ok (.astore 4, 2) := by decide +kernel
theorem dL_stars_15 : decode cL_stars 15 = .ok (.iconst 1, 1) := by decide +kernel
theorem dL_stars_16 : decode cL_stars 16 = .ok (.ireturn, 1) := by decide +kernel
theorem dL_stars_17 : decode cL_stars 17 = .ok (.astore 4, 2) := by decide +kernel
theorem dL_stars_19 : decode cL_stars 19 = .ok (.iconst 2, 1) := by decide +kernel
theorem dL_stars_20 : decode cL_stars 20 = .ok (.ireturn, 1) := by decide +kernel
theorem dL_stars_21 : decode cL_stars 21 = .ok (.iconst 0, 1) := by decide +kernel
theorem dL_stars_22 : decode cL_stars 22 = .ok (.ireturn, 1) := by decide +kernel
theorem dL_ahead_0 : decode cL_ahead 0 = .ok (.aload 4, 2) := by decide +kernel
theorem dL_ahead_2 : decode cL_ahead 2 = .ok (.iconst 0, 1) := by decide +kernel
theorem dL_ahead_3 : decode cL_ahead 3 = .ok (.aload_n 0, 1) := by decide +kernel
theorem dL_ahead_4 : decode cL_ahead 4 = .ok (.iload_n 1, 1) := by decide +kernel
theorem dL_ahead_5 : decode cL_ahead 5 = .ok (.iload_n 2, 1) := by decide +kernel
theorem dL_ahead_6 : decode cL_ahead 6 = .ok (.iload_n 3, 1) := by decide +kernel
theorem dL_ahead_7 : decode cL_ahead 7 = .ok (.invokevirtual 84, 3) := by decide +kernel
theorem dL_ahead_10 : decode cL_ahead 10 = .ok (.i2l, 1) := by decide +kernel
theorem dL_ahead_11 : decode cL_ahead 11 = .ok (.lastore, 1) := by decide +kernel
theorem dL_ahead_12 : decode cL_ahead 12 = .ok (.goto 11, 3) := by decide +kernel
theorem dL_ahead_15 : decode cL_ahead 15 = .ok (.astore 5, 2) := by decide +kernel
theorem dL_ahead_17 : decode cL_ahead 17 = .ok (.iconst 1, 1) := by decide +kernel
theorem dL_ahead_18 : decode cL_ahead 18 = .ok (.ireturn, 1) := by decide +kernel
theorem dL_ahead_19 : decode cL_ahead 19 = .ok (.astore 5, 2) := by decide +kernel
theorem dL_ahead_21 : decode cL_ahead 21 = .ok (.iconst 2, 1) := by decide +kernel
theorem dL_ahead_22 : decode cL_ahead 22 = .ok (.ireturn, 1) := by decide +kernel
theorem dL_ahead_23 : decode cL_ahead 23 = .ok (.iconst 0, 1) := by decide +kernel
theorem dL_ahead_24 : decode cL_ahead 24 = .ok (.ireturn, 1) := by decide +kernel
theorem dL_odds_0 : decode cL_odds 0 = .ok (.aload_n 3, 1) := by decide +kernel
theorem dL_odds_1 : decode cL_odds 1 = .ok (.iconst 0, 1) := by decide +kernel
theorem dL_odds_2 : decode cL_odds 2 = .ok (.aload_n 0, 1) := by decide +kernel
theorem dL_odds_3 : decode cL_odds 3 = .ok (.iload_n 1, 1) := by decide +kernel
theorem dL_odds_4 : decode cL_odds 4 = .ok (.iload_n 2, 1) := by decide +kernel
theorem dL_odds_5 : decode cL_odds 5 = .ok (.invokevirtual 87, 3) := by decide +kernel
theorem dL_odds_8 : decode cL_odds 8 = .ok (.i2l, 1) := by decide +kernel
theorem dL_odds_9 : decode cL_odds 9 = .ok (.lastore, 1) := by decide +kernel
theorem dL_odds_10 : decode cL_odds 10 = .ok (.goto 7, 3) := by decide +kernel
theorem dL_odds_13 : decode cL_odds 13 = .ok (.astore 4, 2) := by decide +kernel
theorem dL_odds_15 : decode cL_odds 15 = .ok (.iconst 1, 1) := by decide +kernel
theorem dL_odds_16 : decode cL_odds 16 = .ok (.ireturn, 1) := by decide +kernel
theorem dL_odds_17 : decode cL_odds 17 = .ok (.iconst 0, 1) := by decide +kernel
theorem dL_odds_18 : decode cL_odds 18 = .ok (.ireturn, 1) := by decide +kernel
theorem dL_needs_0 : decode cL_needs 0 = .ok (.aload_n 2, 1) := by decide +kernel
theorem dL_needs_1 : decode cL_needs 1 = .ok (.iconst 0, 1) := by decide +kernel
theorem dL_needs_2 : decode cL_needs 2 = .ok (.aload_n 0, 1) := by decide +kernel
theorem dL_needs_3 : decode cL_needs 3 = .ok (.iload_n 1, 1) := by decide +kernel
theorem dL_needs_4 : decode cL_needs 4 = .ok (.invokevirtual 90, 3) := by decide +kernel
theorem dL_needs_7 : decode cL_needs 7 = .ok (.i2l, 1) := by decide +kernel
theorem dL_needs_8 : decode cL_needs 8 = .ok (.lastore, 1) := by decide +kernel
theorem dL_needs_9 : decode cL_needs 9 = .ok (.goto 6, 3) := by decide +kernel
theorem dL_needs_12 : decode cL_needs 12 = .ok (.astore_n 3, 1) := by decide +kernel
theorem dL_needs_13 : decode cL_needs 13 = .ok (.iconst 1, 1) := by decide +kernel
theorem dL_needs_14 : decode cL_needs 14 = .ok (.ireturn, 1) := by decide +kernel
theorem dL_needs_15 : decode cL_needs 15 = .ok (.iconst 0, 1) := by decide +kernel
theorem dL_needs_16 : decode cL_needs 16 = .ok (.ireturn, 1) := by decide +kernel
theorem dL_trial_0 : decode cL_trial 0 = .ok (.aload_n 3, 1) := by decide +kernel
theorem dL_trial_1 : decode cL_trial 1 = .ok (.iconst 0, 1) := by decide +kernel
theorem dL_trial_2 : decode cL_trial 2 = .ok (.aload_n 0, 1) := by decide +kernel
theorem dL_trial_3 : decode cL_trial 3 = .ok (.iload_n 1, 1) := by decide +kernel
theorem dL_trial_4 : decode cL_trial 4 = .ok (.iload_n 2, 1) := by decide +kernel
theorem dL_trial_5 : decode cL_trial 5 = .ok (.invokevirtual 93, 3) := by decide +kernel
theorem dL_trial_8 : decode cL_trial 8 = .ok (.i2l, 1) := by decide +kernel
theorem dL_trial_9 : decode cL_trial 9 = .ok (.lastore, 1) := by decide +kernel
theorem dL_trial_10 : decode cL_trial 10 = .ok (.goto 7, 3) := by decide +kernel
theorem dL_trial_13 : decode cL_trial 13 = .ok (.astore 4, 2) := by decide +kernel
theorem dL_trial_15 : decode cL_trial 15 = .ok (.iconst 1, 1) := by decide +kernel
theorem dL_trial_16 : decode cL_trial 16 = .ok (.ireturn, 1) := by decide +kernel
theorem dL_trial_17 : decode cL_trial 17 = .ok (.iconst 0, 1) := by decide +kernel
theorem dL_trial_18 : decode cL_trial 18 = .ok (.ireturn, 1) := by decide +kernel
theorem dL_span_0 : decode cL_span 0 = .ok (.aload_n 3, 1) := by decide +kernel
theorem dL_span_1 : decode cL_span 1 = .ok (.iconst 0, 1) := by decide +kernel
theorem dL_span_2 : decode cL_span 2 = .ok (.aload_n 0, 1) := by decide +kernel
theorem dL_span_3 : decode cL_span 3 = .ok (.iload_n 1, 1) := by decide +kernel
theorem dL_span_4 : decode cL_span 4 = .ok (.iload_n 2, 1) := by decide +kernel
theorem dL_span_5 : decode cL_span 5 = .ok (.invokevirtual 97, 3) := by decide +kernel
theorem dL_span_8 : decode cL_span 8 = .ok (.i2l, 1) := by decide +kernel
theorem dL_span_9 : decode cL_span 9 = .ok (.lastore, 1) := by decide +kernel
theorem dL_span_10 : decode cL_span 10 = .ok (.goto 7, 3) := by decide +kernel
theorem dL_span_13 : decode cL_span 13 = .ok (.astore 4, 2) := by decide +kernel
theorem dL_span_15 : decode cL_span 15 = .ok (.iconst 1, 1) := by decide +kernel
theorem dL_span_16 : decode cL_span 16 = .ok (.ireturn, 1) := by decide +kernel
theorem dL_span_17 : decode cL_span 17 = .ok (.iconst 0, 1) := by decide +kernel
theorem dL_span_18 : decode cL_span 18 = .ok (.ireturn, 1) := by decide +kernel
theorem dL_led_0 : decode cL_led 0 = .ok (.aload_n 3, 1) := by decide +kernel
theorem dL_led_1 : decode cL_led 1 = .ok (.iconst 0, 1) := by decide +kernel
theorem dL_led_2 : decode cL_led 2 = .ok (.aload_n 0, 1) := by decide +kernel
theorem dL_led_3 : decode cL_led 3 = .ok (.iload_n 1, 1) := by decide +kernel
theorem dL_led_4 : decode cL_led 4 = .ok (.iload_n 2, 1) := by decide +kernel
theorem dL_led_5 : decode cL_led 5 = .ok (.invokevirtual 100, 3) := by decide +kernel
theorem dL_led_8 : decode cL_led 8 = .ok (.i2l, 1) := by decide +kernel
theorem dL_led_9 : decode cL_led 9 = .ok (.lastore, 1) := by decide +kernel
theorem dL_led_10 : decode cL_led 10 = .ok (.goto 7, 3) := by decide +kernel
theorem dL_led_13 : decode cL_led 13 = .ok (.astore 4, 2) := by decide +kernel
theorem dL_led_15 : decode cL_led 15 = .ok (.iconst 1, 1) := by decide +kernel
theorem dL_led_16 : decode cL_led 16 = .ok (.ireturn, 1) := by decide +kernel
theorem dL_led_17 : decode cL_led 17 = .ok (.iconst 0, 1) := by decide +kernel
theorem dL_led_18 : decode cL_led 18 = .ok (.ireturn, 1) := by decide +kernel
theorem dL_log_0 : decode cL_log 0 = .ok (.aload_n 3, 1) := by decide +kernel
theorem dL_log_1 : decode cL_log 1 = .ok (.iconst 0, 1) := by decide +kernel
theorem dL_log_2 : decode cL_log 2 = .ok (.aload_n 0, 1) := by decide +kernel
theorem dL_log_3 : decode cL_log 3 = .ok (.iload_n 1, 1) := by decide +kernel
theorem dL_log_4 : decode cL_log 4 = .ok (.iload_n 2, 1) := by decide +kernel
theorem dL_log_5 : decode cL_log 5 = .ok (.invokevirtual 103, 3) := by decide +kernel
theorem dL_log_8 : decode cL_log 8 = .ok (.i2l, 1) := by decide +kernel
theorem dL_log_9 : decode cL_log 9 = .ok (.lastore, 1) := by decide +kernel
theorem dL_log_10 : decode cL_log 10 = .ok (.goto 7, 3) := by decide +kernel
theorem dL_log_13 : decode cL_log 13 = .ok (.astore 4, 2) := by decide +kernel
theorem dL_log_15 : decode cL_log 15 = .ok (.iconst 1, 1) := by decide +kernel
theorem dL_log_16 : decode cL_log 16 = .ok (.ireturn, 1) := by decide +kernel
theorem dL_log_17 : decode cL_log 17 = .ok (.iconst 0, 1) := by decide +kernel
theorem dL_log_18 : decode cL_log 18 = .ok (.ireturn, 1) := by decide +kernel
theorem dL_law__0 : decode cL_law_ 0 = .ok (.new 8, 3) := by decide +kernel
theorem dL_law__3 : decode cL_law_ 3 = .ok (.dup, 1) := by decide +kernel
theorem dL_law__4 : decode cL_law_ 4 = .ok (.invokespecial 106, 3) := by decide +kernel
theorem dL_law__7 : decode cL_law_ 7 = .ok (.astore_n 1, 1) := by decide +kernel
theorem dL_law__8 : decode cL_law_ 8 = .ok (.new 107, 3) := by decide +kernel
theorem dL_law__11 : decode cL_law_ 11 = .ok (.dup, 1) := by decide +kernel
theorem dL_law__12 : decode cL_law_ 12 = .ok (.invokespecial 109, 3) := by decide +kernel
theorem dL_law__15 : decode cL_law_ 15 = .ok (.astore_n 2, 1) := by decide +kernel
theorem dL_law__16 : decode cL_law_ 16 = .ok (.iconst 1, 1) := by decide +kernel
theorem dL_law__17 : decode cL_law_ 17 = .ok (.newarray .long, 2) := by decide +kernel
theorem dL_law__19 : decode cL_law_ 19 = .ok (.astore_n 3, 1) := by decide +kernel
theorem dL_law__20 : decode cL_law_ 20 = .ok (.iconst 0, 1) := by decide +kernel
theorem dL_law__21 : decode cL_law_ 21 = .ok (.istore 4, 2) := by decide +kernel
theorem dL_law__23 : decode cL_law_ 23 = .ok (.iload 4, 2) := by decide +kernel
theorem dL_law__25 : decode cL_law_ 25 = .ok (.aload_n 0, 1) := by decide +kernel
theorem dL_law__26 : decode cL_law_ 26 = .ok (.arraylength, 1) := by decide +kernel
theorem dL_law__27 : decode cL_law_ 27 = .ok (.bipush 6, 2) := by decide +kernel
theorem dL_law__29 : decode cL_law_ 29 = .ok (.isub, 1) := by decide +kernel
theorem dL_law__30 : decode cL_law_ 30 = .ok (.if_icmp .gt 2371, 3) := by decide +kernel
theorem dL_law__33 : decode cL_law_ 33 = .ok (.aload_n 0, 1) := by decide +kernel
theorem dL_law__34 : decode cL_law_ 34 = .ok (.iload 4, 2) := by decide +kernel
theorem dL_law__36 : decode cL_law_ 36 = .ok (.iaload, 1) := by decide +kernel
theorem dL_law__37 : decode cL_law_ 37 = .ok (.bipush 63, 2) := by decide +kernel
theorem dL_law__39 : decode cL_law_ 39 = .ok (.iand, 1) := by decide +kernel
theorem dL_law__40 : decode cL_law_ 40 = .ok (.tableswitch 2355 0 47 #[208, 281, 306, 350, 394, 407, 475, 543, 599, 655, 711, 779, 835, 903, 959, 1015, 1071, 1084, 1097, 1138, 1151, 1164, 1189, 1202, 1215, 1311, 1367, 1423, 1495, 1539, 1552, 1608, 1621, 1634, 1647, 1715, 1728, 1824, 1892, 1948, 2032, 2116, 2200, 2268, 2293, 2306, 2317, 2330], 208) := by decide +kernel
theorem dL_law__248 : decode cL_law_ 248 = .ok (.aload_n 1, 1) := by decide +kernel
theorem dL_law__249 : decode cL_law_ 249 = .ok (.aload_n 0, 1) := by decide +kernel
theorem dL_law__250 : decode cL_law_ 250 = .ok (.iload 4, 2) := by decide +kernel
theorem dL_law__252 : decode cL_law_ 252 = .ok (.iconst 1, 1) := by decide +kernel
theorem dL_law__253 : decode cL_law_ 253 = .ok (.iadd, 1) := by decide +kernel
theorem dL_law__254 : decode cL_law_ 254 = .ok (.iaload, 1) := by decide +kernel
theorem dL_law__255 : decode cL_law_ 255 = .ok (.aload_n 0, 1) := by decide +kernel
theorem dL_law__256 : decode cL_law_ 256 = .ok (.iload 4, 2) := by decide +kernel
theorem dL_law__258 : decode cL_law_ 258 = .ok (.iconst 2, 1) := by decide +kernel
theorem dL_law__259 : decode cL_law_ 259 = .ok (.iadd, 1) := by decide +kernel
theorem dL_law__260 : decode cL_law_ 260 = .ok (.iaload, 1) := by decide +kernel
theorem dL_law__261 : decode cL_law_ 261 = .ok (.aload_n 0, 1) := by decide +kernel
theorem dL_law__262 : decode cL_law_ 262 = .ok (.iload 4, 2) := by decide +kernel
theorem dL_law__264 : decode cL_law_ 264 = .ok (.iconst 3, 1) := by decide +kernel
theorem dL_law__265 : decode cL_law_ 265 = .ok (.iadd, 1) := by decide +kernel
theorem dL_law__266 : decode cL_law_ 266 = .ok (.iaload, 1) := by decide +kernel
theorem dL_law__267 : decode cL_law_ 267 = .ok (.aload_n 0, 1) := by decide +kernel
theorem dL_law__268 : decode cL_law_ 268 = .ok (.iload 4, 2) := by decide +kernel
theorem dL_law__270 : decode cL_law_ 270 = .ok (.iconst 4, 1) := by decide +kernel
theorem dL_law__271 : decode cL_law_ 271 = .ok (.iadd, 1) := by decide +kernel
theorem dL_law__272 : decode cL_law_ 272 = .ok (.iaload, 1) := by decide +kernel
theorem dL_law__273 : decode cL_law_ 273 = .ok (.aload_n 0, 1) := by decide +kernel
theorem dL_law__274 : decode cL_law_ 274 = .ok (.iload 4, 2) := by decide +kernel
theorem dL_law__276 : decode cL_law_ 276 = .ok (.iconst 5, 1) := by decide +kernel
theorem dL_law__277 : decode cL_law_ 277 = .ok (.iadd, 1) := by decide +kernel
theorem dL_law__278 : decode cL_law_ 278 = .ok (.iaload, 1) := by decide +kernel
theorem dL_law__279 : decode cL_law_ 279 = .ok (.invokevirtual 110, 3) := by decide +kernel
theorem dL_law__282 : decode cL_law_ 282 = .ok (.aload_n 2, 1) := by decide +kernel
theorem dL_law__283 : decode cL_law_ 283 = .ok (.aload_n 0, 1) := by decide +kernel
theorem dL_law__284 : decode cL_law_ 284 = .ok (.iload 4, 2) := by decide +kernel
theorem dL_law__286 : decode cL_law_ 286 = .ok (.iconst 1, 1) := by decide +kernel
theorem dL_law__287 : decode cL_law_ 287 = .ok (.iadd, 1) := by decide +kernel
theorem dL_law__288 : decode cL_law_ 288 = .ok (.iaload, 1) := by decide +kernel
theorem dL_law__289 : decode cL_law_ 289 = .ok (.aload_n 0, 1) := by decide +kernel
theorem dL_law__290 : decode cL_law_ 290 = .ok (.iload 4, 2) := by decide +kernel
theorem dL_law__292 : decode cL_law_ 292 = .ok (.iconst 2, 1) := by decide +kernel
theorem dL_law__293 : decode cL_law_ 293 = .ok (.iadd, 1) := by decide +kernel
theorem dL_law__294 : decode cL_law_ 294 = .ok (.iaload, 1) := by decide +kernel
theorem dL_law__295 : decode cL_law_ 295 = .ok (.aload_n 0, 1) := by decide +kernel
theorem dL_law__296 : decode cL_law_ 296 = .ok (.iload 4, 2) := by decide +kernel
theorem dL_law__298 : decode cL_law_ 298 = .ok (.iconst 3, 1) := by decide +kernel
theorem dL_law__299 : decode cL_law_ 299 = .ok (.iadd, 1) := by decide +kernel
theorem dL_law__300 : decode cL_law_ 300 = .ok (.iaload, 1) := by decide +kernel
theorem dL_law__301 : decode cL_law_ 301 = .ok (.aload_n 0, 1) := by decide +kernel
theorem dL_law__302 : decode cL_law_ 302 = .ok (.iload 4, 2) := by decide +kernel
theorem dL_law__304 : decode cL_law_ 304 = .ok (.iconst 4, 1) := by decide +kernel
theorem dL_law__305 : decode cL_law_ 305 = .ok (.iadd, 1) := by decide +kernel
theorem dL_law__306 : decode cL_law_ 306 = .ok (.iaload, 1) := by decide +kernel
theorem dL_law__307 : decode cL_law_ 307 = .ok (.aload_n 0, 1) := by decide +kernel
theorem dL_law__308 : decode cL_law_ 308 = .ok (.iload 4, 2) := by decide +kernel
theorem dL_law__310 : decode cL_law_ 310 = .ok (.iconst 5, 1) := by decide +kernel
theorem dL_law__311 : decode cL_law_ 311 = .ok (.iadd, 1) := by decide +kernel
theorem dL_law__312 : decode cL_law_ 312 = .ok (.iaload, 1) := by decide +kernel
theorem dL_law__313 : decode cL_law_ 313 = .ok (.invokevirtual 114, 3) := by decide +kernel
theorem dL_law__316 : decode cL_law_ 316 = .ok (.if_icmp .eq 2079, 3) := by decide +kernel
theorem dL_law__319 : decode cL_law_ 319 = .ok (.iconst 0, 1) := by decide +kernel
theorem dL_law__320 : decode cL_law_ 320 = .ok (.ireturn, 1) := by decide +kernel
theorem dL_law__321 : decode cL_law_ 321 = .ok (.aload_n 1, 1) := by decide +kernel
theorem dL_law__322 : decode cL_law_ 322 = .ok (.aload_n 0, 1) := by decide +kernel
theorem dL_law__323 : decode cL_law_ 323 = .ok (.iload 4, 2) := by decide +kernel
theorem dL_law__325 : decode cL_law_ 325 = .ok (.iconst 1, 1) := by decide +kernel
theorem dL_law__326 : decode cL_law_ 326 = .ok (.iadd, 1) := by decide +kernel
theorem dL_law__327 : decode cL_law_ 327 = .ok (.iaload, 1) := by decide +kernel
theorem dL_law__328 : decode cL_law_ 328 = .ok (.invokevirtual 115, 3) := by decide +kernel
theorem dL_law__331 : decode cL_law_ 331 = .ok (.aload_n 2, 1) := by decide +kernel
theorem dL_law__332 : decode cL_law_ 332 = .ok (.aload_n 0, 1) := by decide +kernel
theorem dL_law__333 : decode cL_law_ 333 = .ok (.iload 4, 2) := by decide +kernel
theorem dL_law__335 : decode cL_law_ 335 = .ok (.iconst 1, 1) := by decide +kernel
theorem dL_law__336 : decode cL_law_ 336 = .ok (.iadd, 1) := by decide +kernel
theorem dL_law__337 : decode cL_law_ 337 = .ok (.iaload, 1) := by decide +kernel
theorem dL_law__338 : decode cL_law_ 338 = .ok (.invokevirtual 119, 3) := by decide +kernel
theorem dL_law__341 : decode cL_law_ 341 = .ok (.if_icmp .eq 2054, 3) := by decide +kernel
theorem dL_law__344 : decode cL_law_ 344 = .ok (.iconst 0, 1) := by decide +kernel
theorem dL_law__345 : decode cL_law_ 345 = .ok (.ireturn, 1) := by decide +kernel
theorem dL_law__346 : decode cL_law_ 346 = .ok (.aload_n 1, 1) := by decide +kernel
theorem dL_law__347 : decode cL_law_ 347 = .ok (.aload_n 3, 1) := by decide +kernel
theorem dL_law__348 : decode cL_law_ 348 = .ok (.invokestatic 120, 3) := by decide +kernel
theorem dL_law__351 : decode cL_law_ 351 = .ok (.istore 5, 2) := by decide +kernel
theorem dL_law__353 : decode cL_law_ 353 = .ok (.aload_n 2, 1) := by decide +kernel
theorem dL_law__354 : decode cL_law_ 354 = .ok (.invokevirtual 125, 3) := by decide +kernel
theorem dL_law__357 : decode cL_law_ 357 = .ok (.istore 6, 2) := by decide +kernel
theorem dL_law__359 : decode cL_law_ 359 = .ok (.aload_n 2, 1) := by decide +kernel
theorem dL_law__360 : decode cL_law_ 360 = .ok (.invokevirtual 126, 3) := by decide +kernel
theorem dL_law__363 : decode cL_law_ 363 = .ok (.iload 5, 2) := by decide +kernel
theorem dL_law__365 : decode cL_law_ 365 = .ok (.if_icmp .eq 5, 3) := by decide +kernel
theorem dL_law__368 : decode cL_law_ 368 = .ok (.iconst 0, 1) := by decide +kernel
theorem dL_law__369 : decode cL_law_ 369 = .ok (.ireturn, 1) := by decide +kernel
theorem dL_law__370 : decode cL_law_ 370 = .ok (.iload 5, 2) := by decide +kernel
theorem dL_law__372 : decode cL_law_ 372 = .ok (.ifCond .ne 15, 3) := by decide +kernel
theorem dL_law__375 : decode cL_law_ 375 = .ok (.aload_n 3, 1) := by decide +kernel
theorem dL_law__376 : decode cL_law_ 376 = .ok (.iconst 0, 1) := by decide +kernel
theorem dL_law__377 : decode cL_law_ 377 = .ok (.laload, 1) := by decide +kernel
theorem dL_law__378 : decode cL_law_ 378 = .ok (.iload 6, 2) := by decide +kernel
theorem dL_law__380 : decode cL_law_ 380 = .ok (.i2l, 1) := by decide +kernel
theorem dL_law__381 : decode cL_law_ 381 = .ok (.lcmp, 1) := by decide +kernel
theorem dL_law__382 : decode cL_law_ 382 = .ok (.ifCond .eq 5, 3) := by decide +kernel
theorem dL_law__385 : decode cL_law_ 385 = .ok (.iconst 0, 1) := by decide +kernel
theorem dL_law__386 : decode cL_law_ 386 = .ok (.ireturn, 1) := by decide +kernel
theorem dL_law__387 : decode cL_law_ 387 = .ok (.goto 2008, 3) := by decide +kernel
theorem dL_law__390 : decode cL_law_ 390 = .ok (.aload_n 1, 1) := by decide +kernel
theorem dL_law__391 : decode cL_law_ 391 = .ok (.aload_n 3, 1) := by decide +kernel
theorem dL_law__392 : decode cL_law_ 392 = .ok (.invokestatic 129, 3) := by decide +kernel
theorem dL_law__395 : decode cL_law_ 395 = .ok (.istore 5, 2) := by decide +kernel
theorem dL_law__397 : decode cL_law_ 397 = .ok (.aload_n 2, 1) := by decide +kernel
theorem dL_law__398 : decode cL_law_ 398 = .ok (.invokevirtual 131, 3) := by decide +kernel
theorem dL_law__401 : decode cL_law_ 401 = .ok (.istore 6, 2) := by decide +kernel
theorem dL_law__403 : decode cL_law_ 403 = .ok (.aload_n 2, 1) := by decide +kernel
theorem dL_law__404 : decode cL_law_ 404 = .ok (.invokevirtual 126, 3) := by decide +kernel
theorem dL_law__407 : decode cL_law_ 407 = .ok (.iload 5, 2) := by decide +kernel
theorem dL_law__409 : decode cL_law_ 409 = .ok (.if_icmp .eq 5, 3) := by decide +kernel
theorem dL_law__412 : decode cL_law_ 412 = .ok (.iconst 0, 1) := by decide +kernel
theorem dL_law__413 : decode cL_law_ 413 = .ok (.ireturn, 1) := by decide +kernel
theorem dL_law__414 : decode cL_law_ 414 = .ok (.iload 5, 2) := by decide +kernel
theorem dL_law__416 : decode cL_law_ 416 = .ok (.ifCond .ne 15, 3) := by decide +kernel
theorem dL_law__419 : decode cL_law_ 419 = .ok (.aload_n 3, 1) := by decide +kernel
theorem dL_law__420 : decode cL_law_ 420 = .ok (.iconst 0, 1) := by decide +kernel
theorem dL_law__421 : decode cL_law_ 421 = .ok (.laload, 1) := by decide +kernel
theorem dL_law__422 : decode cL_law_ 422 = .ok (.iload 6, 2) := by decide +kernel
theorem dL_law__424 : decode cL_law_ 424 = .ok (.i2l, 1) := by decide +kernel
theorem dL_law__425 : decode cL_law_ 425 = .ok (.lcmp, 1) := by decide +kernel
theorem dL_law__426 : decode cL_law_ 426 = .ok (.ifCond .eq 5, 3) := by decide +kernel
theorem dL_law__429 : decode cL_law_ 429 = .ok (.iconst 0, 1) := by decide +kernel
theorem dL_law__430 : decode cL_law_ 430 = .ok (.ireturn, 1) := by decide +kernel
theorem dL_law__431 : decode cL_law_ 431 = .ok (.goto 1964, 3) := by decide +kernel
theorem dL_law__434 : decode cL_law_ 434 = .ok (.aload_n 1, 1) := by decide +kernel
theorem dL_law__435 : decode cL_law_ 435 = .ok (.invokevirtual 132, 3) := by decide +kernel
theorem dL_law__438 : decode cL_law_ 438 = .ok (.aload_n 2, 1) := by decide +kernel
theorem dL_law__439 : decode cL_law_ 439 = .ok (.invokevirtual 135, 3) := by decide +kernel
theorem dL_law__442 : decode cL_law_ 442 = .ok (.if_icmp .eq 1953, 3) := by decide +kernel
theorem dL_law__445 : decode cL_law_ 445 = .ok (.iconst 0, 1) := by decide +kernel
theorem dL_law__446 : decode cL_law_ 446 = .ok (.ireturn, 1) := by decide +kernel
theorem dL_law__447 : decode cL_law_ 447 = .ok (.aload_n 1, 1) := by decide +kernel
theorem dL_law__448 : decode cL_law_ 448 = .ok (.aload_n 0, 1) := by decide +kernel
theorem dL_law__449 : decode cL_law_ 449 = .ok (.iload 4, 2) := by decide +kernel
theorem dL_law__451 : decode cL_law_ 451 = .ok (.iconst 1, 1) := by decide +kernel
theorem dL_law__452 : decode cL_law_ 452 = .ok (.iadd, 1) := by decide +kernel
theorem dL_law__453 : decode cL_law_ 453 = .ok (.iaload, 1) := by decide +kernel
theorem dL_law__454 : decode cL_law_ 454 = .ok (.aload_n 0, 1) := by decide +kernel
theorem dL_law__455 : decode cL_law_ 455 = .ok (.iload 4, 2) := by decide +kernel
theorem dL_law__457 : decode cL_law_ 457 = .ok (.iconst 2, 1) := by decide +kernel
theorem dL_law__458 : decode cL_law_ 458 = .ok (.iadd, 1) := by decide +kernel
theorem dL_law__459 : decode cL_law_ 459 = .ok (.iaload, 1) := by decide +kernel
theorem dL_law__460 : decode cL_law_ 460 = .ok (.aload_n 3, 1) := by decide +kernel
theorem dL_law__461 : decode cL_law_ 461 = .ok (.invokestatic 136, 3) := by decide +kernel
theorem dL_law__464 : decode cL_law_ 464 = .ok (.istore 5, 2) := by decide +kernel
theorem dL_law__466 : decode cL_law_ 466 = .ok (.aload_n 2, 1) := by decide +kernel
theorem dL_law__467 : decode cL_law_ 467 = .ok (.aload_n 0, 1) := by decide +kernel
theorem dL_law__468 : decode cL_law_ 468 = .ok (.iload 4, 2) := by decide +kernel
theorem dL_law__470 : decode cL_law_ 470 = .ok (.iconst 1, 1) := by decide +kernel
theorem dL_law__471 : decode cL_law_ 471 = .ok (.iadd, 1) := by decide +kernel
theorem dL_law__472 : decode cL_law_ 472 = .ok (.iaload, 1) := by decide +kernel
theorem dL_law__473 : decode cL_law_ 473 = .ok (.aload_n 0, 1) := by decide +kernel
theorem dL_law__474 : decode cL_law_ 474 = .ok (.iload 4, 2) := by decide +kernel
theorem dL_law__476 : decode cL_law_ 476 = .ok (.iconst 2, 1) := by decide +kernel
theorem dL_law__477 : decode cL_law_ 477 = .ok (.iadd, 1) := by decide +kernel
theorem dL_law__478 : decode cL_law_ 478 = .ok (.iaload, 1) := by decide +kernel
theorem dL_law__479 : decode cL_law_ 479 = .ok (.invokevirtual 139, 3) := by decide +kernel
theorem dL_law__482 : decode cL_law_ 482 = .ok (.istore 6, 2) := by decide +kernel
theorem dL_law__484 : decode cL_law_ 484 = .ok (.aload_n 2, 1) := by decide +kernel
theorem dL_law__485 : decode cL_law_ 485 = .ok (.invokevirtual 126, 3) := by decide +kernel
theorem dL_law__488 : decode cL_law_ 488 = .ok (.iload 5, 2) := by decide +kernel
theorem dL_law__490 : decode cL_law_ 490 = .ok (.if_icmp .eq 5, 3) := by decide +kernel
theorem dL_law__493 : decode cL_law_ 493 = .ok (.iconst 0, 1) := by decide +kernel
theorem dL_law__494 : decode cL_law_ 494 = .ok (.ireturn, 1) := by decide +kernel
theorem dL_law__495 : decode cL_law_ 495 = .ok (.iload 5, 2) := by decide +kernel
theorem dL_law__497 : decode cL_law_ 497 = .ok (.ifCond .ne 15, 3) := by decide +kernel
theorem dL_law__500 : decode cL_law_ 500 = .ok (.aload_n 3, 1) := by decide +kernel
theorem dL_law__501 : decode cL_law_ 501 = .ok (.iconst 0, 1) := by decide +kernel
theorem dL_law__502 : decode cL_law_ 502 = .ok (.laload, 1) := by decide +kernel
theorem dL_law__503 : decode cL_law_ 503 = .ok (.iload 6, 2) := by decide +kernel
theorem dL_law__505 : decode cL_law_ 505 = .ok (.i2l, 1) := by decide +kernel
theorem dL_law__506 : decode cL_law_ 506 = .ok (.lcmp, 1) := by decide +kernel
theorem dL_law__507 : decode cL_law_ 507 = .ok (.ifCond .eq 5, 3) := by decide +kernel
theorem dL_law__510 : decode cL_law_ 510 = .ok (.iconst 0, 1) := by decide +kernel
theorem dL_law__511 : decode cL_law_ 511 = .ok (.ireturn, 1) := by decide +kernel
theorem dL_law__512 : decode cL_law_ 512 = .ok (.goto 1883, 3) := by decide +kernel
theorem dL_law__515 : decode cL_law_ 515 = .ok (.aload_n 1, 1) := by decide +kernel
theorem dL_law__516 : decode cL_law_ 516 = .ok (.aload_n 0, 1) := by decide +kernel
theorem dL_law__517 : decode cL_law_ 517 = .ok (.iload 4, 2) := by decide +kernel
theorem dL_law__519 : decode cL_law_ 519 = .ok (.iconst 1, 1) := by decide +kernel
theorem dL_law__520 : decode cL_law_ 520 = .ok (.iadd, 1) := by decide +kernel
theorem dL_law__521 : decode cL_law_ 521 = .ok (.iaload, 1) := by decide +kernel
theorem dL_law__522 : decode cL_law_ 522 = .ok (.aload_n 0, 1) := by decide +kernel
theorem dL_law__523 : decode cL_law_ 523 = .ok (.iload 4, 2) := by decide +kernel
theorem dL_law__525 : decode cL_law_ 525 = .ok (.iconst 2, 1) := by decide +kernel
theorem dL_law__526 : decode cL_law_ 526 = .ok (.iadd, 1) := by decide +kernel
theorem dL_law__527 : decode cL_law_ 527 = .ok (.iaload, 1) := by decide +kernel
theorem dL_law__528 : decode cL_law_ 528 = .ok (.aload_n 3, 1) := by decide +kernel
theorem dL_law__529 : decode cL_law_ 529 = .ok (.invokestatic 140, 3) := by decide +kernel
theorem dL_law__532 : decode cL_law_ 532 = .ok (.istore 5, 2) := by decide +kernel
theorem dL_law__534 : decode cL_law_ 534 = .ok (.aload_n 2, 1) := by decide +kernel
theorem dL_law__535 : decode cL_law_ 535 = .ok (.aload_n 0, 1) := by decide +kernel
theorem dL_law__536 : decode cL_law_ 536 = .ok (.iload 4, 2) := by decide +kernel
theorem dL_law__538 : decode cL_law_ 538 = .ok (.iconst 1, 1) := by decide +kernel
theorem dL_law__539 : decode cL_law_ 539 = .ok (.iadd, 1) := by decide +kernel
theorem dL_law__540 : decode cL_law_ 540 = .ok (.iaload, 1) := by decide +kernel
theorem dL_law__541 : decode cL_law_ 541 = .ok (.aload_n 0, 1) := by decide +kernel
theorem dL_law__542 : decode cL_law_ 542 = .ok (.iload 4, 2) := by decide +kernel
theorem dL_law__544 : decode cL_law_ 544 = .ok (.iconst 2, 1) := by decide +kernel
theorem dL_law__545 : decode cL_law_ 545 = .ok (.iadd, 1) := by decide +kernel
theorem dL_law__546 : decode cL_law_ 546 = .ok (.iaload, 1) := by decide +kernel
theorem dL_law__547 : decode cL_law_ 547 = .ok (.invokevirtual 142, 3) := by decide +kernel
theorem dL_law__550 : decode cL_law_ 550 = .ok (.istore 6, 2) := by decide +kernel
theorem dL_law__552 : decode cL_law_ 552 = .ok (.aload_n 2, 1) := by decide +kernel
theorem dL_law__553 : decode cL_law_ 553 = .ok (.invokevirtual 126, 3) := by decide +kernel
theorem dL_law__556 : decode cL_law_ 556 = .ok (.iload 5, 2) := by decide +kernel
theorem dL_law__558 : decode cL_law_ 558 = .ok (.if_icmp .eq 5, 3) := by decide +kernel
theorem dL_law__561 : decode cL_law_ 561 = .ok (.iconst 0, 1) := by decide +kernel
theorem dL_law__562 : decode cL_law_ 562 = .ok (.ireturn, 1) := by decide +kernel
theorem dL_law__563 : decode cL_law_ 563 = .ok (.iload 5, 2) := by decide +kernel
theorem dL_law__565 : decode cL_law_ 565 = .ok (.ifCond .ne 15, 3) := by decide +kernel
theorem dL_law__568 : decode cL_law_ 568 = .ok (.aload_n 3, 1) := by decide +kernel
theorem dL_law__569 : decode cL_law_ 569 = .ok (.iconst 0, 1) := by decide +kernel
theorem dL_law__570 : decode cL_law_ 570 = .ok (.laload, 1) := by decide +kernel
theorem dL_law__571 : decode cL_law_ 571 = .ok (.iload 6, 2) := by decide +kernel
theorem dL_law__573 : decode cL_law_ 573 = .ok (.i2l, 1) := by decide +kernel
theorem dL_law__574 : decode cL_law_ 574 = .ok (.lcmp, 1) := by decide +kernel
theorem dL_law__575 : decode cL_law_ 575 = .ok (.ifCond .eq 5, 3) := by decide +kernel
theorem dL_law__578 : decode cL_law_ 578 = .ok (.iconst 0, 1) := by decide +kernel
theorem dL_law__579 : decode cL_law_ 579 = .ok (.ireturn, 1) := by decide +kernel
theorem dL_law__580 : decode cL_law_ 580 = .ok (.goto 1815, 3) := by decide +kernel
theorem dL_law__583 : decode cL_law_ 583 = .ok (.aload_n 1, 1) := by decide +kernel
theorem dL_law__584 : decode cL_law_ 584 = .ok (.aload_n 0, 1) := by decide +kernel
theorem dL_law__585 : decode cL_law_ 585 = .ok (.iload 4, 2) := by decide +kernel
theorem dL_law__587 : decode cL_law_ 587 = .ok (.iconst 1, 1) := by decide +kernel
theorem dL_law__588 : decode cL_law_ 588 = .ok (.iadd, 1) := by decide +kernel
theorem dL_law__589 : decode cL_law_ 589 = .ok (.iaload, 1) := by decide +kernel
theorem dL_law__590 : decode cL_law_ 590 = .ok (.aload_n 3, 1) := by decide +kernel
theorem dL_law__591 : decode cL_law_ 591 = .ok (.invokestatic 143, 3) := by decide +kernel
theorem dL_law__594 : decode cL_law_ 594 = .ok (.istore 5, 2) := by decide +kernel
theorem dL_law__596 : decode cL_law_ 596 = .ok (.aload_n 2, 1) := by decide +kernel
theorem dL_law__597 : decode cL_law_ 597 = .ok (.aload_n 0, 1) := by decide +kernel
theorem dL_law__598 : decode cL_law_ 598 = .ok (.iload 4, 2) := by decide +kernel
theorem dL_law__600 : decode cL_law_ 600 = .ok (.iconst 1, 1) := by decide +kernel
theorem dL_law__601 : decode cL_law_ 601 = .ok (.iadd, 1) := by decide +kernel
theorem dL_law__602 : decode cL_law_ 602 = .ok (.iaload, 1) := by decide +kernel
theorem dL_law__603 : decode cL_law_ 603 = .ok (.invokevirtual 146, 3) := by decide +kernel
theorem dL_law__606 : decode cL_law_ 606 = .ok (.istore 6, 2) := by decide +kernel
theorem dL_law__608 : decode cL_law_ 608 = .ok (.aload_n 2, 1) := by decide +kernel
theorem dL_law__609 : decode cL_law_ 609 = .ok (.invokevirtual 126, 3) := by decide +kernel
theorem dL_law__612 : decode cL_law_ 612 = .ok (.iload 5, 2) := by decide +kernel
theorem dL_law__614 : decode cL_law_ 614 = .ok (.if_icmp .eq 5, 3) := by decide +kernel
theorem dL_law__617 : decode cL_law_ 617 = .ok (.iconst 0, 1) := by decide +kernel
theorem dL_law__618 : decode cL_law_ 618 = .ok (.ireturn, 1) := by decide +kernel
theorem dL_law__619 : decode cL_law_ 619 = .ok (.iload 5, 2) := by decide +kernel
theorem dL_law__621 : decode cL_law_ 621 = .ok (.ifCond .ne 15, 3) := by decide +kernel
theorem dL_law__624 : decode cL_law_ 624 = .ok (.aload_n 3, 1) := by decide +kernel
theorem dL_law__625 : decode cL_law_ 625 = .ok (.iconst 0, 1) := by decide +kernel
theorem dL_law__626 : decode cL_law_ 626 = .ok (.laload, 1) := by decide +kernel
theorem dL_law__627 : decode cL_law_ 627 = .ok (.iload 6, 2) := by decide +kernel
theorem dL_law__629 : decode cL_law_ 629 = .ok (.i2l, 1) := by decide +kernel
theorem dL_law__630 : decode cL_law_ 630 = .ok (.lcmp, 1) := by decide +kernel
theorem dL_law__631 : decode cL_law_ 631 = .ok (.ifCond .eq 5, 3) := by decide +kernel
theorem dL_law__634 : decode cL_law_ 634 = .ok (.iconst 0, 1) := by decide +kernel
theorem dL_law__635 : decode cL_law_ 635 = .ok (.ireturn, 1) := by decide +kernel
theorem dL_law__636 : decode cL_law_ 636 = .ok (.goto 1759, 3) := by decide +kernel
theorem dL_law__639 : decode cL_law_ 639 = .ok (.aload_n 1, 1) := by decide +kernel
theorem dL_law__640 : decode cL_law_ 640 = .ok (.aload_n 0, 1) := by decide +kernel
theorem dL_law__641 : decode cL_law_ 641 = .ok (.iload 4, 2) := by decide +kernel
theorem dL_law__643 : decode cL_law_ 643 = .ok (.iconst 1, 1) := by decide +kernel
theorem dL_law__644 : decode cL_law_ 644 = .ok (.iadd, 1) := by decide +kernel
theorem dL_law__645 : decode cL_law_ 645 = .ok (.iaload, 1) := by decide +kernel
theorem dL_law__646 : decode cL_law_ 646 = .ok (.aload_n 3, 1) := by decide +kernel
theorem dL_law__647 : decode cL_law_ 647 = .ok (.invokestatic 147, 3) := by decide +kernel
theorem dL_law__650 : decode cL_law_ 650 = .ok (.istore 5, 2) := by decide +kernel
theorem dL_law__652 : decode cL_law_ 652 = .ok (.aload_n 2, 1) := by decide +kernel
theorem dL_law__653 : decode cL_law_ 653 = .ok (.aload_n 0, 1) := by decide +kernel
theorem dL_law__654 : decode cL_law_ 654 = .ok (.iload 4, 2) := by decide +kernel
theorem dL_law__656 : decode cL_law_ 656 = .ok (.iconst 1, 1) := by decide +kernel
theorem dL_law__657 : decode cL_law_ 657 = .ok (.iadd, 1) := by decide +kernel
theorem dL_law__658 : decode cL_law_ 658 = .ok (.iaload, 1) := by decide +kernel
theorem dL_law__659 : decode cL_law_ 659 = .ok (.invokevirtual 149, 3) := by decide +kernel
theorem dL_law__662 : decode cL_law_ 662 = .ok (.istore 6, 2) := by decide +kernel
theorem dL_law__664 : decode cL_law_ 664 = .ok (.aload_n 2, 1) := by decide +kernel
theorem dL_law__665 : decode cL_law_ 665 = .ok (.invokevirtual 126, 3) := by decide +kernel
theorem dL_law__668 : decode cL_law_ 668 = .ok (.iload 5, 2) := by decide +kernel
theorem dL_law__670 : decode cL_law_ 670 = .ok (.if_icmp .eq 5, 3) := by decide +kernel
theorem dL_law__673 : decode cL_law_ 673 = .ok (.iconst 0, 1) := by decide +kernel
theorem dL_law__674 : decode cL_law_ 674 = .ok (.ireturn, 1) := by decide +kernel
theorem dL_law__675 : decode cL_law_ 675 = .ok (.iload 5, 2) := by decide +kernel
theorem dL_law__677 : decode cL_law_ 677 = .ok (.ifCond .ne 15, 3) := by decide +kernel
theorem dL_law__680 : decode cL_law_ 680 = .ok (.aload_n 3, 1) := by decide +kernel
theorem dL_law__681 : decode cL_law_ 681 = .ok (.iconst 0, 1) := by decide +kernel
theorem dL_law__682 : decode cL_law_ 682 = .ok (.laload, 1) := by decide +kernel
theorem dL_law__683 : decode cL_law_ 683 = .ok (.iload 6, 2) := by decide +kernel
theorem dL_law__685 : decode cL_law_ 685 = .ok (.i2l, 1) := by decide +kernel
theorem dL_law__686 : decode cL_law_ 686 = .ok (.lcmp, 1) := by decide +kernel
theorem dL_law__687 : decode cL_law_ 687 = .ok (.ifCond .eq 5, 3) := by decide +kernel
theorem dL_law__690 : decode cL_law_ 690 = .ok (.iconst 0, 1) := by decide +kernel
theorem dL_law__691 : decode cL_law_ 691 = .ok (.ireturn, 1) := by decide +kernel
theorem dL_law__692 : decode cL_law_ 692 = .ok (.goto 1703, 3) := by decide +kernel
theorem dL_law__695 : decode cL_law_ 695 = .ok (.aload_n 1, 1) := by decide +kernel
theorem dL_law__696 : decode cL_law_ 696 = .ok (.aload_n 0, 1) := by decide +kernel
theorem dL_law__697 : decode cL_law_ 697 = .ok (.iload 4, 2) := by decide +kernel
theorem dL_law__699 : decode cL_law_ 699 = .ok (.iconst 1, 1) := by decide +kernel
theorem dL_law__700 : decode cL_law_ 700 = .ok (.iadd, 1) := by decide +kernel
theorem dL_law__701 : decode cL_law_ 701 = .ok (.iaload, 1) := by decide +kernel
theorem dL_law__702 : decode cL_law_ 702 = .ok (.aload_n 3, 1) := by decide +kernel
theorem dL_law__703 : decode cL_law_ 703 = .ok (.invokestatic 150, 3) := by decide +kernel
theorem dL_law__706 : decode cL_law_ 706 = .ok (.istore 5, 2) := by decide +kernel
theorem dL_law__708 : decode cL_law_ 708 = .ok (.aload_n 2, 1) := by decide +kernel
theorem dL_law__709 : decode cL_law_ 709 = .ok (.aload_n 0, 1) := by decide +kernel
theorem dL_law__710 : decode cL_law_ 710 = .ok (.iload 4, 2) := by decide +kernel
theorem dL_law__712 : decode cL_law_ 712 = .ok (.iconst 1, 1) := by decide +kernel
theorem dL_law__713 : decode cL_law_ 713 = .ok (.iadd, 1) := by decide +kernel
theorem dL_law__714 : decode cL_law_ 714 = .ok (.iaload, 1) := by decide +kernel
theorem dL_law__715 : decode cL_law_ 715 = .ok (.invokevirtual 152, 3) := by decide +kernel
theorem dL_law__718 : decode cL_law_ 718 = .ok (.istore 6, 2) := by decide +kernel
theorem dL_law__720 : decode cL_law_ 720 = .ok (.aload_n 2, 1) := by decide +kernel
theorem dL_law__721 : decode cL_law_ 721 = .ok (.invokevirtual 126, 3) := by decide +kernel
theorem dL_law__724 : decode cL_law_ 724 = .ok (.iload 5, 2) := by decide +kernel
theorem dL_law__726 : decode cL_law_ 726 = .ok (.if_icmp .eq 5, 3) := by decide +kernel
theorem dL_law__729 : decode cL_law_ 729 = .ok (.iconst 0, 1) := by decide +kernel
theorem dL_law__730 : decode cL_law_ 730 = .ok (.ireturn, 1) := by decide +kernel
theorem dL_law__731 : decode cL_law_ 731 = .ok (.iload 5, 2) := by decide +kernel
theorem dL_law__733 : decode cL_law_ 733 = .ok (.ifCond .ne 15, 3) := by decide +kernel
theorem dL_law__736 : decode cL_law_ 736 = .ok (.aload_n 3, 1) := by decide +kernel
theorem dL_law__737 : decode cL_law_ 737 = .ok (.iconst 0, 1) := by decide +kernel
theorem dL_law__738 : decode cL_law_ 738 = .ok (.laload, 1) := by decide +kernel
theorem dL_law__739 : decode cL_law_ 739 = .ok (.iload 6, 2) := by decide +kernel
theorem dL_law__741 : decode cL_law_ 741 = .ok (.i2l, 1) := by decide +kernel
theorem dL_law__742 : decode cL_law_ 742 = .ok (.lcmp, 1) := by decide +kernel
theorem dL_law__743 : decode cL_law_ 743 = .ok (.ifCond .eq 5, 3) := by decide +kernel
theorem dL_law__746 : decode cL_law_ 746 = .ok (.iconst 0, 1) := by decide +kernel
theorem dL_law__747 : decode cL_law_ 747 = .ok (.ireturn, 1) := by decide +kernel
theorem dL_law__748 : decode cL_law_ 748 = .ok (.goto 1647, 3) := by decide +kernel
theorem dL_law__751 : decode cL_law_ 751 = .ok (.aload_n 1, 1) := by decide +kernel
theorem dL_law__752 : decode cL_law_ 752 = .ok (.aload_n 0, 1) := by decide +kernel
theorem dL_law__753 : decode cL_law_ 753 = .ok (.iload 4, 2) := by decide +kernel
theorem dL_law__755 : decode cL_law_ 755 = .ok (.iconst 1, 1) := by decide +kernel
theorem dL_law__756 : decode cL_law_ 756 = .ok (.iadd, 1) := by decide +kernel
theorem dL_law__757 : decode cL_law_ 757 = .ok (.iaload, 1) := by decide +kernel
theorem dL_law__758 : decode cL_law_ 758 = .ok (.aload_n 0, 1) := by decide +kernel
theorem dL_law__759 : decode cL_law_ 759 = .ok (.iload 4, 2) := by decide +kernel
theorem dL_law__761 : decode cL_law_ 761 = .ok (.iconst 2, 1) := by decide +kernel
theorem dL_law__762 : decode cL_law_ 762 = .ok (.iadd, 1) := by decide +kernel
theorem dL_law__763 : decode cL_law_ 763 = .ok (.iaload, 1) := by decide +kernel
theorem dL_law__764 : decode cL_law_ 764 = .ok (.aload_n 3, 1) := by decide +kernel
theorem dL_law__765 : decode cL_law_ 765 = .ok (.invokestatic 153, 3) := by decide +kernel
theorem dL_law__768 : decode cL_law_ 768 = .ok (.istore 5, 2) := by decide +kernel
theorem dL_law__770 : decode cL_law_ 770 = .ok (.aload_n 2, 1) := by decide +kernel
theorem dL_law__771 : decode cL_law_ 771 = .ok (.aload_n 0, 1) := by decide +kernel
theorem dL_law__772 : decode cL_law_ 772 = .ok (.iload 4, 2) := by decide +kernel
theorem dL_law__774 : decode cL_law_ 774 = .ok (.iconst 1, 1) := by decide +kernel
theorem dL_law__775 : decode cL_law_ 775 = .ok (.iadd, 1) := by decide +kernel
theorem dL_law__776 : decode cL_law_ 776 = .ok (.iaload, 1) := by decide +kernel
theorem dL_law__777 : decode cL_law_ 777 = .ok (.aload_n 0, 1) := by decide +kernel
theorem dL_law__778 : decode cL_law_ 778 = .ok (.iload 4, 2) := by decide +kernel
theorem dL_law__780 : decode cL_law_ 780 = .ok (.iconst 2, 1) := by decide +kernel
theorem dL_law__781 : decode cL_law_ 781 = .ok (.iadd, 1) := by decide +kernel
theorem dL_law__782 : decode cL_law_ 782 = .ok (.iaload, 1) := by decide +kernel
theorem dL_law__783 : decode cL_law_ 783 = .ok (.invokevirtual 155, 3) := by decide +kernel
theorem dL_law__786 : decode cL_law_ 786 = .ok (.istore 6, 2) := by decide +kernel
theorem dL_law__788 : decode cL_law_ 788 = .ok (.aload_n 2, 1) := by decide +kernel
theorem dL_law__789 : decode cL_law_ 789 = .ok (.invokevirtual 126, 3) := by decide +kernel
theorem dL_law__792 : decode cL_law_ 792 = .ok (.iload 5, 2) := by decide +kernel
theorem dL_law__794 : decode cL_law_ 794 = .ok (.if_icmp .eq 5, 3) := by decide +kernel
theorem dL_law__797 : decode cL_law_ 797 = .ok (.iconst 0, 1) := by decide +kernel
theorem dL_law__798 : decode cL_law_ 798 = .ok (.ireturn, 1) := by decide +kernel
theorem dL_law__799 : decode cL_law_ 799 = .ok (.iload 5, 2) := by decide +kernel
theorem dL_law__801 : decode cL_law_ 801 = .ok (.ifCond .ne 15, 3) := by decide +kernel
theorem dL_law__804 : decode cL_law_ 804 = .ok (.aload_n 3, 1) := by decide +kernel
theorem dL_law__805 : decode cL_law_ 805 = .ok (.iconst 0, 1) := by decide +kernel
theorem dL_law__806 : decode cL_law_ 806 = .ok (.laload, 1) := by decide +kernel
theorem dL_law__807 : decode cL_law_ 807 = .ok (.iload 6, 2) := by decide +kernel
theorem dL_law__809 : decode cL_law_ 809 = .ok (.i2l, 1) := by decide +kernel
theorem dL_law__810 : decode cL_law_ 810 = .ok (.lcmp, 1) := by decide +kernel
theorem dL_law__811 : decode cL_law_ 811 = .ok (.ifCond .eq 5, 3) := by decide +kernel
theorem dL_law__814 : decode cL_law_ 814 = .ok (.iconst 0, 1) := by decide +kernel
theorem dL_law__815 : decode cL_law_ 815 = .ok (.ireturn, 1) := by decide +kernel
theorem dL_law__816 : decode cL_law_ 816 = .ok (.goto 1579, 3) := by decide +kernel
theorem dL_law__819 : decode cL_law_ 819 = .ok (.aload_n 1, 1) := by decide +kernel
theorem dL_law__820 : decode cL_law_ 820 = .ok (.aload_n 0, 1) := by decide +kernel
theorem dL_law__821 : decode cL_law_ 821 = .ok (.iload 4, 2) := by decide +kernel
theorem dL_law__823 : decode cL_law_ 823 = .ok (.iconst 1, 1) := by decide +kernel
theorem dL_law__824 : decode cL_law_ 824 = .ok (.iadd, 1) := by decide +kernel
theorem dL_law__825 : decode cL_law_ 825 = .ok (.iaload, 1) := by decide +kernel
theorem dL_law__826 : decode cL_law_ 826 = .ok (.aload_n 3, 1) := by decide +kernel
theorem dL_law__827 : decode cL_law_ 827 = .ok (.invokestatic 156, 3) := by decide +kernel
theorem dL_law__830 : decode cL_law_ 830 = .ok (.istore 5, 2) := by decide +kernel
theorem dL_law__832 : decode cL_law_ 832 = .ok (.aload_n 2, 1) := by decide +kernel
theorem dL_law__833 : decode cL_law_ 833 = .ok (.aload_n 0, 1) := by decide +kernel
theorem dL_law__834 : decode cL_law_ 834 = .ok (.iload 4, 2) := by decide +kernel
theorem dL_law__836 : decode cL_law_ 836 = .ok (.iconst 1, 1) := by decide +kernel
theorem dL_law__837 : decode cL_law_ 837 = .ok (.iadd, 1) := by decide +kernel
theorem dL_law__838 : decode cL_law_ 838 = .ok (.iaload, 1) := by decide +kernel
theorem dL_law__839 : decode cL_law_ 839 = .ok (.invokevirtual 158, 3) := by decide +kernel
theorem dL_law__842 : decode cL_law_ 842 = .ok (.istore 6, 2) := by decide +kernel
theorem dL_law__844 : decode cL_law_ 844 = .ok (.aload_n 2, 1) := by decide +kernel
theorem dL_law__845 : decode cL_law_ 845 = .ok (.invokevirtual 126, 3) := by decide +kernel
theorem dL_law__848 : decode cL_law_ 848 = .ok (.iload 5, 2) := by decide +kernel
theorem dL_law__850 : decode cL_law_ 850 = .ok (.if_icmp .eq 5, 3) := by decide +kernel
theorem dL_law__853 : decode cL_law_ 853 = .ok (.iconst 0, 1) := by decide +kernel
theorem dL_law__854 : decode cL_law_ 854 = .ok (.ireturn, 1) := by decide +kernel
theorem dL_law__855 : decode cL_law_ 855 = .ok (.iload 5, 2) := by decide +kernel
theorem dL_law__857 : decode cL_law_ 857 = .ok (.ifCond .ne 15, 3) := by decide +kernel
theorem dL_law__860 : decode cL_law_ 860 = .ok (.aload_n 3, 1) := by decide +kernel
theorem dL_law__861 : decode cL_law_ 861 = .ok (.iconst 0, 1) := by decide +kernel
theorem dL_law__862 : decode cL_law_ 862 = .ok (.laload, 1) := by decide +kernel
theorem dL_law__863 : decode cL_law_ 863 = .ok (.iload 6, 2) := by decide +kernel
theorem dL_law__865 : decode cL_law_ 865 = .ok (.i2l, 1) := by decide +kernel
theorem dL_law__866 : decode cL_law_ 866 = .ok (.lcmp, 1) := by decide +kernel
theorem dL_law__867 : decode cL_law_ 867 = .ok (.ifCond .eq 5, 3) := by decide +kernel
theorem dL_law__870 : decode cL_law_ 870 = .ok (.iconst 0, 1) := by decide +kernel
theorem dL_law__871 : decode cL_law_ 871 = .ok (.ireturn, 1) := by decide +kernel
theorem dL_law__872 : decode cL_law_ 872 = .ok (.goto 1523, 3) := by decide +kernel
theorem dL_law__875 : decode cL_law_ 875 = .ok (.aload_n 1, 1) := by decide +kernel
theorem dL_law__876 : decode cL_law_ 876 = .ok (.aload_n 0, 1) := by decide +kernel
theorem dL_law__877 : decode cL_law_ 877 = .ok (.iload 4, 2) := by decide +kernel
theorem dL_law__879 : decode cL_law_ 879 = .ok (.iconst 1, 1) := by decide +kernel
theorem dL_law__880 : decode cL_law_ 880 = .ok (.iadd, 1) := by decide +kernel
theorem dL_law__881 : decode cL_law_ 881 = .ok (.iaload, 1) := by decide +kernel
theorem dL_law__882 : decode cL_law_ 882 = .ok (.aload_n 0, 1) := by decide +kernel
theorem dL_law__883 : decode cL_law_ 883 = .ok (.iload 4, 2) := by decide +kernel
theorem dL_law__885 : decode cL_law_ 885 = .ok (.iconst 2, 1) := by decide +kernel
theorem dL_law__886 : decode cL_law_ 886 = .ok (.iadd, 1) := by decide +kernel
theorem dL_law__887 : decode cL_law_ 887 = .ok (.iaload, 1) := by decide +kernel
theorem dL_law__888 : decode cL_law_ 888 = .ok (.aload_n 3, 1) := by decide +kernel
theorem dL_law__889 : decode cL_law_ 889 = .ok (.invokestatic 159, 3) := by decide +kernel
theorem dL_law__892 : decode cL_law_ 892 = .ok (.istore 5, 2) := by decide +kernel
theorem dL_law__894 : decode cL_law_ 894 = .ok (.aload_n 2, 1) := by decide +kernel
theorem dL_law__895 : decode cL_law_ 895 = .ok (.aload_n 0, 1) := by decide +kernel
theorem dL_law__896 : decode cL_law_ 896 = .ok (.iload 4, 2) := by decide +kernel
theorem dL_law__898 : decode cL_law_ 898 = .ok (.iconst 1, 1) := by decide +kernel
theorem dL_law__899 : decode cL_law_ 899 = .ok (.iadd, 1) := by decide +kernel
theorem dL_law__900 : decode cL_law_ 900 = .ok (.iaload, 1) := by decide +kernel
theorem dL_law__901 : decode cL_law_ 901 = .ok (.aload_n 0, 1) := by decide +kernel
theorem dL_law__902 : decode cL_law_ 902 = .ok (.iload 4, 2) := by decide +kernel
theorem dL_law__904 : decode cL_law_ 904 = .ok (.iconst 2, 1) := by decide +kernel
theorem dL_law__905 : decode cL_law_ 905 = .ok (.iadd, 1) := by decide +kernel
theorem dL_law__906 : decode cL_law_ 906 = .ok (.iaload, 1) := by decide +kernel
theorem dL_law__907 : decode cL_law_ 907 = .ok (.invokevirtual 161, 3) := by decide +kernel
theorem dL_law__910 : decode cL_law_ 910 = .ok (.istore 6, 2) := by decide +kernel
theorem dL_law__912 : decode cL_law_ 912 = .ok (.aload_n 2, 1) := by decide +kernel
theorem dL_law__913 : decode cL_law_ 913 = .ok (.invokevirtual 126, 3) := by decide +kernel
theorem dL_law__916 : decode cL_law_ 916 = .ok (.iload 5, 2) := by decide +kernel
theorem dL_law__918 : decode cL_law_ 918 = .ok (.if_icmp .eq 5, 3) := by decide +kernel
theorem dL_law__921 : decode cL_law_ 921 = .ok (.iconst 0, 1) := by decide +kernel
theorem dL_law__922 : decode cL_law_ 922 = .ok (.ireturn, 1) := by decide +kernel
theorem dL_law__923 : decode cL_law_ 923 = .ok (.iload 5, 2) := by decide +kernel
theorem dL_law__925 : decode cL_law_ 925 = .ok (.ifCond .ne 15, 3) := by decide +kernel
theorem dL_law__928 : decode cL_law_ 928 = .ok (.aload_n 3, 1) := by decide +kernel
theorem dL_law__929 : decode cL_law_ 929 = .ok (.iconst 0, 1) := by decide +kernel
theorem dL_law__930 : decode cL_law_ 930 = .ok (.laload, 1) := by decide +kernel
theorem dL_law__931 : decode cL_law_ 931 = .ok (.iload 6, 2) := by decide +kernel
theorem dL_law__933 : decode cL_law_ 933 = .ok (.i2l, 1) := by decide +kernel
theorem dL_law__934 : decode cL_law_ 934 = .ok (.lcmp, 1) := by decide +kernel
theorem dL_law__935 : decode cL_law_ 935 = .ok (.ifCond .eq 5, 3) := by decide +kernel
theorem dL_law__938 : decode cL_law_ 938 = .ok (.iconst 0, 1) := by decide +kernel
theorem dL_law__939 : decode cL_law_ 939 = .ok (.ireturn, 1) := by decide +kernel
theorem dL_law__940 : decode cL_law_ 940 = .ok (.goto 1455, 3) := by decide +kernel
theorem dL_law__943 : decode cL_law_ 943 = .ok (.aload_n 1, 1) := by decide +kernel
theorem dL_law__944 : decode cL_law_ 944 = .ok (.aload_n 0, 1) := by decide +kernel
theorem dL_law__945 : decode cL_law_ 945 = .ok (.iload 4, 2) := by decide +kernel
theorem dL_law__947 : decode cL_law_ 947 = .ok (.iconst 1, 1) := by decide +kernel
theorem dL_law__948 : decode cL_law_ 948 = .ok (.iadd, 1) := by decide +kernel
theorem dL_law__949 : decode cL_law_ 949 = .ok (.iaload, 1) := by decide +kernel
theorem dL_law__950 : decode cL_law_ 950 = .ok (.aload_n 3, 1) := by decide +kernel
theorem dL_law__951 : decode cL_law_ 951 = .ok (.invokestatic 162, 3) := by decide +kernel
theorem dL_law__954 : decode cL_law_ 954 = .ok (.istore 5, 2) := by decide +kernel
theorem dL_law__956 : decode cL_law_ 956 = .ok (.aload_n 2, 1) := by decide +kernel
theorem dL_law__957 : decode cL_law_ 957 = .ok (.aload_n 0, 1) := by decide +kernel
theorem dL_law__958 : decode cL_law_ 958 = .ok (.iload 4, 2) := by decide +kernel
theorem dL_law__960 : decode cL_law_ 960 = .ok (.iconst 1, 1) := by decide +kernel
theorem dL_law__961 : decode cL_law_ 961 = .ok (.iadd, 1) := by decide +kernel
theorem dL_law__962 : decode cL_law_ 962 = .ok (.iaload, 1) := by decide +kernel
theorem dL_law__963 : decode cL_law_ 963 = .ok (.invokevirtual 164, 3) := by decide +kernel
theorem dL_law__966 : decode cL_law_ 966 = .ok (.istore 6, 2) := by decide +kernel
theorem dL_law__968 : decode cL_law_ 968 = .ok (.aload_n 2, 1) := by decide +kernel
theorem dL_law__969 : decode cL_law_ 969 = .ok (.invokevirtual 126, 3) := by decide +kernel
theorem dL_law__972 : decode cL_law_ 972 = .ok (.iload 5, 2) := by decide +kernel
theorem dL_law__974 : decode cL_law_ 974 = .ok (.if_icmp .eq 5, 3) := by decide +kernel
theorem dL_law__977 : decode cL_law_ 977 = .ok (.iconst 0, 1) := by decide +kernel
theorem dL_law__978 : decode cL_law_ 978 = .ok (.ireturn, 1) := by decide +kernel
theorem dL_law__979 : decode cL_law_ 979 = .ok (.iload 5, 2) := by decide +kernel
theorem dL_law__981 : decode cL_law_ 981 = .ok (.ifCond .ne 15, 3) := by decide +kernel
theorem dL_law__984 : decode cL_law_ 984 = .ok (.aload_n 3, 1) := by decide +kernel
theorem dL_law__985 : decode cL_law_ 985 = .ok (.iconst 0, 1) := by decide +kernel
theorem dL_law__986 : decode cL_law_ 986 = .ok (.laload, 1) := by decide +kernel
theorem dL_law__987 : decode cL_law_ 987 = .ok (.iload 6, 2) := by decide +kernel
theorem dL_law__989 : decode cL_law_ 989 = .ok (.i2l, 1) := by decide +kernel
theorem dL_law__990 : decode cL_law_ 990 = .ok (.lcmp, 1) := by decide +kernel
theorem dL_law__991 : decode cL_law_ 991 = .ok (.ifCond .eq 5, 3) := by decide +kernel
theorem dL_law__994 : decode cL_law_ 994 = .ok (.iconst 0, 1) := by decide +kernel
theorem dL_law__995 : decode cL_law_ 995 = .ok (.ireturn, 1) := by decide +kernel
theorem dL_law__996 : decode cL_law_ 996 = .ok (.goto 1399, 3) := by decide +kernel
theorem dL_law__999 : decode cL_law_ 999 = .ok (.aload_n 1, 1) := by decide +kernel
theorem dL_law__1000 : decode cL_law_ 1000 = .ok (.aload_n 0, 1) := by decide +kernel
theorem dL_law__1001 : decode cL_law_ 1001 = .ok (.iload 4, 2) := by decide +kernel
theorem dL_law__1003 : decode cL_law_ 1003 = .ok (.iconst 1, 1) := by decide +kernel
theorem dL_law__1004 : decode cL_law_ 1004 = .ok (.iadd, 1) := by decide +kernel
theorem dL_law__1005 : decode cL_law_ 1005 = .ok (.iaload, 1) := by decide +kernel
theorem dL_law__1006 : decode cL_law_ 1006 = .ok (.aload_n 3, 1) := by decide +kernel
theorem dL_law__1007 : decode cL_law_ 1007 = .ok (.invokestatic 165, 3) := by decide +kernel
theorem dL_law__1010 : decode cL_law_ 1010 = .ok (.istore 5, 2) := by decide +kernel
theorem dL_law__1012 : decode cL_law_ 1012 = .ok (.aload_n 2, 1) := by decide +kernel
theorem dL_law__1013 : decode cL_law_ 1013 = .ok (.aload_n 0, 1) := by decide +kernel
theorem dL_law__1014 : decode cL_law_ 1014 = .ok (.iload 4, 2) := by decide +kernel
theorem dL_law__1016 : decode cL_law_ 1016 = .ok (.iconst 1, 1) := by decide +kernel
theorem dL_law__1017 : decode cL_law_ 1017 = .ok (.iadd, 1) := by decide +kernel
theorem dL_law__1018 : decode cL_law_ 1018 = .ok (.iaload, 1) := by decide +kernel
theorem dL_law__1019 : decode cL_law_ 1019 = .ok (.invokevirtual 167, 3) := by decide +kernel
theorem dL_law__1022 : decode cL_law_ 1022 = .ok (.istore 6, 2) := by decide +kernel
theorem dL_law__1024 : decode cL_law_ 1024 = .ok (.aload_n 2, 1) := by decide +kernel
theorem dL_law__1025 : decode cL_law_ 1025 = .ok (.invokevirtual 126, 3) := by decide +kernel
theorem dL_law__1028 : decode cL_law_ 1028 = .ok (.iload 5, 2) := by decide +kernel
theorem dL_law__1030 : decode cL_law_ 1030 = .ok (.if_icmp .eq 5, 3) := by decide +kernel
theorem dL_law__1033 : decode cL_law_ 1033 = .ok (.iconst 0, 1) := by decide +kernel
theorem dL_law__1034 : decode cL_law_ 1034 = .ok (.ireturn, 1) := by decide +kernel
theorem dL_law__1035 : decode cL_law_ 1035 = .ok (.iload 5, 2) := by decide +kernel
theorem dL_law__1037 : decode cL_law_ 1037 = .ok (.ifCond .ne 15, 3) := by decide +kernel
theorem dL_law__1040 : decode cL_law_ 1040 = .ok (.aload_n 3, 1) := by decide +kernel
theorem dL_law__1041 : decode cL_law_ 1041 = .ok (.iconst 0, 1) := by decide +kernel
theorem dL_law__1042 : decode cL_law_ 1042 = .ok (.laload, 1) := by decide +kernel
theorem dL_law__1043 : decode cL_law_ 1043 = .ok (.iload 6, 2) := by decide +kernel
theorem dL_law__1045 : decode cL_law_ 1045 = .ok (.i2l, 1) := by decide +kernel
theorem dL_law__1046 : decode cL_law_ 1046 = .ok (.lcmp, 1) := by decide +kernel
theorem dL_law__1047 : decode cL_law_ 1047 = .ok (.ifCond .eq 5, 3) := by decide +kernel
theorem dL_law__1050 : decode cL_law_ 1050 = .ok (.iconst 0, 1) := by decide +kernel
theorem dL_law__1051 : decode cL_law_ 1051 = .ok (.ireturn, 1) := by decide +kernel
theorem dL_law__1052 : decode cL_law_ 1052 = .ok (.goto 1343, 3) := by decide +kernel
theorem dL_law__1055 : decode cL_law_ 1055 = .ok (.aload_n 1, 1) := by decide +kernel
theorem dL_law__1056 : decode cL_law_ 1056 = .ok (.aload_n 0, 1) := by decide +kernel
theorem dL_law__1057 : decode cL_law_ 1057 = .ok (.iload 4, 2) := by decide +kernel
theorem dL_law__1059 : decode cL_law_ 1059 = .ok (.iconst 1, 1) := by decide +kernel
theorem dL_law__1060 : decode cL_law_ 1060 = .ok (.iadd, 1) := by decide +kernel
theorem dL_law__1061 : decode cL_law_ 1061 = .ok (.iaload, 1) := by decide +kernel
theorem dL_law__1062 : decode cL_law_ 1062 = .ok (.aload_n 3, 1) := by decide +kernel
theorem dL_law__1063 : decode cL_law_ 1063 = .ok (.invokestatic 168, 3) := by decide +kernel
theorem dL_law__1066 : decode cL_law_ 1066 = .ok (.istore 5, 2) := by decide +kernel
theorem dL_law__1068 : decode cL_law_ 1068 = .ok (.aload_n 2, 1) := by decide +kernel
theorem dL_law__1069 : decode cL_law_ 1069 = .ok (.aload_n 0, 1) := by decide +kernel
theorem dL_law__1070 : decode cL_law_ 1070 = .ok (.iload 4, 2) := by decide +kernel
theorem dL_law__1072 : decode cL_law_ 1072 = .ok (.iconst 1, 1) := by decide +kernel
theorem dL_law__1073 : decode cL_law_ 1073 = .ok (.iadd, 1) := by decide +kernel
theorem dL_law__1074 : decode cL_law_ 1074 = .ok (.iaload, 1) := by decide +kernel
theorem dL_law__1075 : decode cL_law_ 1075 = .ok (.invokevirtual 170, 3) := by decide +kernel
theorem dL_law__1078 : decode cL_law_ 1078 = .ok (.istore 6, 2) := by decide +kernel
theorem dL_law__1080 : decode cL_law_ 1080 = .ok (.aload_n 2, 1) := by decide +kernel
theorem dL_law__1081 : decode cL_law_ 1081 = .ok (.invokevirtual 126, 3) := by decide +kernel
theorem dL_law__1084 : decode cL_law_ 1084 = .ok (.iload 5, 2) := by decide +kernel
theorem dL_law__1086 : decode cL_law_ 1086 = .ok (.if_icmp .eq 5, 3) := by decide +kernel
theorem dL_law__1089 : decode cL_law_ 1089 = .ok (.iconst 0, 1) := by decide +kernel
theorem dL_law__1090 : decode cL_law_ 1090 = .ok (.ireturn, 1) := by decide +kernel
theorem dL_law__1091 : decode cL_law_ 1091 = .ok (.iload 5, 2) := by decide +kernel
theorem dL_law__1093 : decode cL_law_ 1093 = .ok (.ifCond .ne 15, 3) := by decide +kernel
theorem dL_law__1096 : decode cL_law_ 1096 = .ok (.aload_n 3, 1) := by decide +kernel
theorem dL_law__1097 : decode cL_law_ 1097 = .ok (.iconst 0, 1) := by decide +kernel
theorem dL_law__1098 : decode cL_law_ 1098 = .ok (.laload, 1) := by decide +kernel
theorem dL_law__1099 : decode cL_law_ 1099 = .ok (.iload 6, 2) := by decide +kernel
theorem dL_law__1101 : decode cL_law_ 1101 = .ok (.i2l, 1) := by decide +kernel
theorem dL_law__1102 : decode cL_law_ 1102 = .ok (.lcmp, 1) := by decide +kernel
theorem dL_law__1103 : decode cL_law_ 1103 = .ok (.ifCond .eq 5, 3) := by decide +kernel
theorem dL_law__1106 : decode cL_law_ 1106 = .ok (.iconst 0, 1) := by decide +kernel
theorem dL_law__1107 : decode cL_law_ 1107 = .ok (.ireturn, 1) := by decide +kernel
theorem dL_law__1108 : decode cL_law_ 1108 = .ok (.goto 1287, 3) := by decide +kernel
theorem dL_law__1111 : decode cL_law_ 1111 = .ok (.aload_n 1, 1) := by decide +kernel
theorem dL_law__1112 : decode cL_law_ 1112 = .ok (.invokevirtual 171, 3) := by decide +kernel
theorem dL_law__1115 : decode cL_law_ 1115 = .ok (.aload_n 2, 1) := by decide +kernel
theorem dL_law__1116 : decode cL_law_ 1116 = .ok (.invokevirtual 174, 3) := by decide +kernel
theorem dL_law__1119 : decode cL_law_ 1119 = .ok (.if_icmp .eq 1276, 3) := by decide +kernel
theorem dL_law__1122 : decode cL_law_ 1122 = .ok (.iconst 0, 1) := by decide +kernel
theorem dL_law__1123 : decode cL_law_ 1123 = .ok (.ireturn, 1) := by decide +kernel
theorem dL_law__1124 : decode cL_law_ 1124 = .ok (.aload_n 1, 1) := by decide +kernel
theorem dL_law__1125 : decode cL_law_ 1125 = .ok (.invokevirtual 175, 3) := by decide +kernel
theorem dL_law__1128 : decode cL_law_ 1128 = .ok (.aload_n 2, 1) := by decide +kernel
theorem dL_law__1129 : decode cL_law_ 1129 = .ok (.invokevirtual 178, 3) := by decide +kernel
theorem dL_law__1132 : decode cL_law_ 1132 = .ok (.if_icmp .eq 1263, 3) := by decide +kernel
theorem dL_law__1135 : decode cL_law_ 1135 = .ok (.iconst 0, 1) := by decide +kernel
theorem dL_law__1136 : decode cL_law_ 1136 = .ok (.ireturn, 1) := by decide +kernel
theorem dL_law__1137 : decode cL_law_ 1137 = .ok (.aload_n 1, 1) := by decide +kernel
theorem dL_law__1138 : decode cL_law_ 1138 = .ok (.aload_n 0, 1) := by decide +kernel
theorem dL_law__1139 : decode cL_law_ 1139 = .ok (.iload 4, 2) := by decide +kernel
theorem dL_law__1141 : decode cL_law_ 1141 = .ok (.iconst 1, 1) := by decide +kernel
theorem dL_law__1142 : decode cL_law_ 1142 = .ok (.iadd, 1) := by decide +kernel
theorem dL_law__1143 : decode cL_law_ 1143 = .ok (.iaload, 1) := by decide +kernel
theorem dL_law__1144 : decode cL_law_ 1144 = .ok (.ifCond .eq 7, 3) := by decide +kernel
theorem dL_law__1147 : decode cL_law_ 1147 = .ok (.iconst 1, 1) := by decide +kernel
theorem dL_law__1148 : decode cL_law_ 1148 = .ok (.goto 4, 3) := by decide +kernel
theorem dL_law__1151 : decode cL_law_ 1151 = .ok (.iconst 0, 1) := by decide +kernel
theorem dL_law__1152 : decode cL_law_ 1152 = .ok (.invokevirtual 179, 3) := by decide +kernel
theorem dL_law__1155 : decode cL_law_ 1155 = .ok (.aload_n 2, 1) := by decide +kernel
theorem dL_law__1156 : decode cL_law_ 1156 = .ok (.aload_n 0, 1) := by decide +kernel
theorem dL_law__1157 : decode cL_law_ 1157 = .ok (.iload 4, 2) := by decide +kernel
theorem dL_law__1159 : decode cL_law_ 1159 = .ok (.iconst 1, 1) := by decide +kernel
theorem dL_law__1160 : decode cL_law_ 1160 = .ok (.iadd, 1) := by decide +kernel
theorem dL_law__1161 : decode cL_law_ 1161 = .ok (.iaload, 1) := by decide +kernel
theorem dL_law__1162 : decode cL_law_ 1162 = .ok (.ifCond .eq 7, 3) := by decide +kernel
theorem dL_law__1165 : decode cL_law_ 1165 = .ok (.iconst 1, 1) := by decide +kernel
theorem dL_law__1166 : decode cL_law_ 1166 = .ok (.goto 4, 3) := by decide +kernel
theorem dL_law__1169 : decode cL_law_ 1169 = .ok (.iconst 0, 1) := by decide +kernel
theorem dL_law__1170 : decode cL_law_ 1170 = .ok (.invokevirtual 182, 3) := by decide +kernel
theorem dL_law__1173 : decode cL_law_ 1173 = .ok (.if_icmp .eq 1222, 3) := by decide +kernel
theorem dL_law__1176 : decode cL_law_ 1176 = .ok (.iconst 0, 1) := by decide +kernel
theorem dL_law__1177 : decode cL_law_ 1177 = .ok (.ireturn, 1) := by decide +kernel
theorem dL_law__1178 : decode cL_law_ 1178 = .ok (.aload_n 1, 1) := by decide +kernel
theorem dL_law__1179 : decode cL_law_ 1179 = .ok (.invokevirtual 183, 3) := by decide +kernel
theorem dL_law__1182 : decode cL_law_ 1182 = .ok (.aload_n 2, 1) := by decide +kernel
theorem dL_law__1183 : decode cL_law_ 1183 = .ok (.invokevirtual 186, 3) := by decide +kernel
theorem dL_law__1186 : decode cL_law_ 1186 = .ok (.if_icmp .eq 1209, 3) := by decide +kernel
theorem dL_law__1189 : decode cL_law_ 1189 = .ok (.iconst 0, 1) := by decide +kernel
theorem dL_law__1190 : decode cL_law_ 1190 = .ok (.ireturn, 1) := by decide +kernel
theorem dL_law__1191 : decode cL_law_ 1191 = .ok (.aload_n 1, 1) := by decide +kernel
theorem dL_law__1192 : decode cL_law_ 1192 = .ok (.invokevirtual 187, 3) := by decide +kernel
theorem dL_law__1195 : decode cL_law_ 1195 = .ok (.aload_n 2, 1) := by decide +kernel
theorem dL_law__1196 : decode cL_law_ 1196 = .ok (.invokevirtual 190, 3) := by decide +kernel
theorem dL_law__1199 : decode cL_law_ 1199 = .ok (.if_icmp .eq 1196, 3) := by decide +kernel
theorem dL_law__1202 : decode cL_law_ 1202 = .ok (.iconst 0, 1) := by decide +kernel
theorem dL_law__1203 : decode cL_law_ 1203 = .ok (.ireturn, 1) := by decide +kernel
theorem dL_law__1204 : decode cL_law_ 1204 = .ok (.aload_n 1, 1) := by decide +kernel
theorem dL_law__1205 : decode cL_law_ 1205 = .ok (.aload_n 0, 1) := by decide +kernel
theorem dL_law__1206 : decode cL_law_ 1206 = .ok (.iload 4, 2) := by decide +kernel
theorem dL_law__1208 : decode cL_law_ 1208 = .ok (.iconst 1, 1) := by decide +kernel
theorem dL_law__1209 : decode cL_law_ 1209 = .ok (.iadd, 1) := by decide +kernel
theorem dL_law__1210 : decode cL_law_ 1210 = .ok (.iaload, 1) := by decide +kernel
theorem dL_law__1211 : decode cL_law_ 1211 = .ok (.invokevirtual 191, 3) := by decide +kernel
theorem dL_law__1214 : decode cL_law_ 1214 = .ok (.aload_n 2, 1) := by decide +kernel
theorem dL_law__1215 : decode cL_law_ 1215 = .ok (.aload_n 0, 1) := by decide +kernel
theorem dL_law__1216 : decode cL_law_ 1216 = .ok (.iload 4, 2) := by decide +kernel
theorem dL_law__1218 : decode cL_law_ 1218 = .ok (.iconst 1, 1) := by decide +kernel
theorem dL_law__1219 : decode cL_law_ 1219 = .ok (.iadd, 1) := by decide +kernel
theorem dL_law__1220 : decode cL_law_ 1220 = .ok (.iaload, 1) := by decide +kernel
theorem dL_law__1221 : decode cL_law_ 1221 = .ok (.invokevirtual 194, 3) := by decide +kernel
theorem dL_law__1224 : decode cL_law_ 1224 = .ok (.if_icmp .eq 1171, 3) := by decide +kernel
theorem dL_law__1227 : decode cL_law_ 1227 = .ok (.iconst 0, 1) := by decide +kernel
theorem dL_law__1228 : decode cL_law_ 1228 = .ok (.ireturn, 1) := by decide +kernel
theorem dL_law__1229 : decode cL_law_ 1229 = .ok (.aload_n 1, 1) := by decide +kernel
theorem dL_law__1230 : decode cL_law_ 1230 = .ok (.invokevirtual 195, 3) := by decide +kernel
theorem dL_law__1233 : decode cL_law_ 1233 = .ok (.aload_n 2, 1) := by decide +kernel
theorem dL_law__1234 : decode cL_law_ 1234 = .ok (.invokevirtual 198, 3) := by decide +kernel
theorem dL_law__1237 : decode cL_law_ 1237 = .ok (.if_icmp .eq 1158, 3) := by decide +kernel
theorem dL_law__1240 : decode cL_law_ 1240 = .ok (.iconst 0, 1) := by decide +kernel
theorem dL_law__1241 : decode cL_law_ 1241 = .ok (.ireturn, 1) := by decide +kernel
theorem dL_law__1242 : decode cL_law_ 1242 = .ok (.aload_n 1, 1) := by decide +kernel
theorem dL_law__1243 : decode cL_law_ 1243 = .ok (.invokevirtual 199, 3) := by decide +kernel
theorem dL_law__1246 : decode cL_law_ 1246 = .ok (.aload_n 2, 1) := by decide +kernel
theorem dL_law__1247 : decode cL_law_ 1247 = .ok (.invokevirtual 202, 3) := by decide +kernel
theorem dL_law__1250 : decode cL_law_ 1250 = .ok (.if_icmp .eq 1145, 3) := by decide +kernel
theorem dL_law__1253 : decode cL_law_ 1253 = .ok (.iconst 0, 1) := by decide +kernel
theorem dL_law__1254 : decode cL_law_ 1254 = .ok (.ireturn, 1) := by decide +kernel
theorem dL_law__1255 : decode cL_law_ 1255 = .ok (.aload_n 1, 1) := by decide +kernel
theorem dL_law__1256 : decode cL_law_ 1256 = .ok (.aload_n 0, 1) := by decide +kernel
theorem dL_law__1257 : decode cL_law_ 1257 = .ok (.iload 4, 2) := by decide +kernel
theorem dL_law__1259 : decode cL_law_ 1259 = .ok (.iconst 1, 1) := by decide +kernel
theorem dL_law__1260 : decode cL_law_ 1260 = .ok (.iadd, 1) := by decide +kernel
theorem dL_law__1261 : decode cL_law_ 1261 = .ok (.iaload, 1) := by decide +kernel
theorem dL_law__1262 : decode cL_law_ 1262 = .ok (.aload_n 0, 1) := by decide +kernel
theorem dL_law__1263 : decode cL_law_ 1263 = .ok (.iload 4, 2) := by decide +kernel
theorem dL_law__1265 : decode cL_law_ 1265 = .ok (.iconst 2, 1) := by decide +kernel
theorem dL_law__1266 : decode cL_law_ 1266 = .ok (.iadd, 1) := by decide +kernel
theorem dL_law__1267 : decode cL_law_ 1267 = .ok (.iaload, 1) := by decide +kernel
theorem dL_law__1268 : decode cL_law_ 1268 = .ok (.aload_n 0, 1) := by decide +kernel
theorem dL_law__1269 : decode cL_law_ 1269 = .ok (.iload 4, 2) := by decide +kernel
theorem dL_law__1271 : decode cL_law_ 1271 = .ok (.iconst 3, 1) := by decide +kernel
theorem dL_law__1272 : decode cL_law_ 1272 = .ok (.iadd, 1) := by decide +kernel
theorem dL_law__1273 : decode cL_law_ 1273 = .ok (.iaload, 1) := by decide +kernel
theorem dL_law__1274 : decode cL_law_ 1274 = .ok (.ifCond .eq 7, 3) := by decide +kernel
theorem dL_law__1277 : decode cL_law_ 1277 = .ok (.iconst 1, 1) := by decide +kernel
theorem dL_law__1278 : decode cL_law_ 1278 = .ok (.goto 4, 3) := by decide +kernel
theorem dL_law__1281 : decode cL_law_ 1281 = .ok (.iconst 0, 1) := by decide +kernel
theorem dL_law__1282 : decode cL_law_ 1282 = .ok (.aload_n 3, 1) := by decide +kernel
theorem dL_law__1283 : decode cL_law_ 1283 = .ok (.invokestatic 203, 3) := by decide +kernel
theorem dL_law__1286 : decode cL_law_ 1286 = .ok (.istore 5, 2) := by decide +kernel
theorem dL_law__1288 : decode cL_law_ 1288 = .ok (.aload_n 2, 1) := by decide +kernel
theorem dL_law__1289 : decode cL_law_ 1289 = .ok (.aload_n 0, 1) := by decide +kernel
theorem dL_law__1290 : decode cL_law_ 1290 = .ok (.iload 4, 2) := by decide +kernel
theorem dL_law__1292 : decode cL_law_ 1292 = .ok (.iconst 1, 1) := by decide +kernel
theorem dL_law__1293 : decode cL_law_ 1293 = .ok (.iadd, 1) := by decide +kernel
theorem dL_law__1294 : decode cL_law_ 1294 = .ok (.iaload, 1) := by decide +kernel
theorem dL_law__1295 : decode cL_law_ 1295 = .ok (.aload_n 0, 1) := by decide +kernel
theorem dL_law__1296 : decode cL_law_ 1296 = .ok (.iload 4, 2) := by decide +kernel
theorem dL_law__1298 : decode cL_law_ 1298 = .ok (.iconst 2, 1) := by decide +kernel
theorem dL_law__1299 : decode cL_law_ 1299 = .ok (.iadd, 1) := by decide +kernel
theorem dL_law__1300 : decode cL_law_ 1300 = .ok (.iaload, 1) := by decide +kernel
theorem dL_law__1301 : decode cL_law_ 1301 = .ok (.aload_n 0, 1) := by decide +kernel
theorem dL_law__1302 : decode cL_law_ 1302 = .ok (.iload 4, 2) := by decide +kernel
theorem dL_law__1304 : decode cL_law_ 1304 = .ok (.iconst 3, 1) := by decide +kernel
theorem dL_law__1305 : decode cL_law_ 1305 = .ok (.iadd, 1) := by decide +kernel
theorem dL_law__1306 : decode cL_law_ 1306 = .ok (.iaload, 1) := by decide +kernel
theorem dL_law__1307 : decode cL_law_ 1307 = .ok (.ifCond .eq 7, 3) := by decide +kernel
theorem dL_law__1310 : decode cL_law_ 1310 = .ok (.iconst 1, 1) := by decide +kernel
theorem dL_law__1311 : decode cL_law_ 1311 = .ok (.goto 4, 3) := by decide +kernel
theorem dL_law__1314 : decode cL_law_ 1314 = .ok (.iconst 0, 1) := by decide +kernel
theorem dL_law__1315 : decode cL_law_ 1315 = .ok (.invokevirtual 206, 3) := by decide +kernel
theorem dL_law__1318 : decode cL_law_ 1318 = .ok (.istore 6, 2) := by decide +kernel
theorem dL_law__1320 : decode cL_law_ 1320 = .ok (.aload_n 2, 1) := by decide +kernel
theorem dL_law__1321 : decode cL_law_ 1321 = .ok (.invokevirtual 126, 3) := by decide +kernel
theorem dL_law__1324 : decode cL_law_ 1324 = .ok (.iload 5, 2) := by decide +kernel
theorem dL_law__1326 : decode cL_law_ 1326 = .ok (.if_icmp .eq 5, 3) := by decide +kernel
theorem dL_law__1329 : decode cL_law_ 1329 = .ok (.iconst 0, 1) := by decide +kernel
theorem dL_law__1330 : decode cL_law_ 1330 = .ok (.ireturn, 1) := by decide +kernel
theorem dL_law__1331 : decode cL_law_ 1331 = .ok (.iload 5, 2) := by decide +kernel
theorem dL_law__1333 : decode cL_law_ 1333 = .ok (.ifCond .ne 15, 3) := by decide +kernel
theorem dL_law__1336 : decode cL_law_ 1336 = .ok (.aload_n 3, 1) := by decide +kernel
theorem dL_law__1337 : decode cL_law_ 1337 = .ok (.iconst 0, 1) := by decide +kernel
theorem dL_law__1338 : decode cL_law_ 1338 = .ok (.laload, 1) := by decide +kernel
theorem dL_law__1339 : decode cL_law_ 1339 = .ok (.iload 6, 2) := by decide +kernel
theorem dL_law__1341 : decode cL_law_ 1341 = .ok (.i2l, 1) := by decide +kernel
theorem dL_law__1342 : decode cL_law_ 1342 = .ok (.lcmp, 1) := by decide +kernel
theorem dL_law__1343 : decode cL_law_ 1343 = .ok (.ifCond .eq 5, 3) := by decide +kernel
theorem dL_law__1346 : decode cL_law_ 1346 = .ok (.iconst 0, 1) := by decide +kernel
theorem dL_law__1347 : decode cL_law_ 1347 = .ok (.ireturn, 1) := by decide +kernel
theorem dL_law__1348 : decode cL_law_ 1348 = .ok (.goto 1047, 3) := by decide +kernel
theorem dL_law__1351 : decode cL_law_ 1351 = .ok (.aload_n 1, 1) := by decide +kernel
theorem dL_law__1352 : decode cL_law_ 1352 = .ok (.aload_n 0, 1) := by decide +kernel
theorem dL_law__1353 : decode cL_law_ 1353 = .ok (.iload 4, 2) := by decide +kernel
theorem dL_law__1355 : decode cL_law_ 1355 = .ok (.iconst 1, 1) := by decide +kernel
theorem dL_law__1356 : decode cL_law_ 1356 = .ok (.iadd, 1) := by decide +kernel
theorem dL_law__1357 : decode cL_law_ 1357 = .ok (.iaload, 1) := by decide +kernel
theorem dL_law__1358 : decode cL_law_ 1358 = .ok (.aload_n 3, 1) := by decide +kernel
theorem dL_law__1359 : decode cL_law_ 1359 = .ok (.invokestatic 207, 3) := by decide +kernel
theorem dL_law__1362 : decode cL_law_ 1362 = .ok (.istore 5, 2) := by decide +kernel
theorem dL_law__1364 : decode cL_law_ 1364 = .ok (.aload_n 2, 1) := by decide +kernel
theorem dL_law__1365 : decode cL_law_ 1365 = .ok (.aload_n 0, 1) := by decide +kernel
theorem dL_law__1366 : decode cL_law_ 1366 = .ok (.iload 4, 2) := by decide +kernel
theorem dL_law__1368 : decode cL_law_ 1368 = .ok (.iconst 1, 1) := by decide +kernel
theorem dL_law__1369 : decode cL_law_ 1369 = .ok (.iadd, 1) := by decide +kernel
theorem dL_law__1370 : decode cL_law_ 1370 = .ok (.iaload, 1) := by decide +kernel
theorem dL_law__1371 : decode cL_law_ 1371 = .ok (.invokevirtual 209, 3) := by decide +kernel
theorem dL_law__1374 : decode cL_law_ 1374 = .ok (.istore 6, 2) := by decide +kernel
theorem dL_law__1376 : decode cL_law_ 1376 = .ok (.aload_n 2, 1) := by decide +kernel
theorem dL_law__1377 : decode cL_law_ 1377 = .ok (.invokevirtual 126, 3) := by decide +kernel
theorem dL_law__1380 : decode cL_law_ 1380 = .ok (.iload 5, 2) := by decide +kernel
theorem dL_law__1382 : decode cL_law_ 1382 = .ok (.if_icmp .eq 5, 3) := by decide +kernel
theorem dL_law__1385 : decode cL_law_ 1385 = .ok (.iconst 0, 1) := by decide +kernel
theorem dL_law__1386 : decode cL_law_ 1386 = .ok (.ireturn, 1) := by decide +kernel
theorem dL_law__1387 : decode cL_law_ 1387 = .ok (.iload 5, 2) := by decide +kernel
theorem dL_law__1389 : decode cL_law_ 1389 = .ok (.ifCond .ne 15, 3) := by decide +kernel
theorem dL_law__1392 : decode cL_law_ 1392 = .ok (.aload_n 3, 1) := by decide +kernel
theorem dL_law__1393 : decode cL_law_ 1393 = .ok (.iconst 0, 1) := by decide +kernel
theorem dL_law__1394 : decode cL_law_ 1394 = .ok (.laload, 1) := by decide +kernel
theorem dL_law__1395 : decode cL_law_ 1395 = .ok (.iload 6, 2) := by decide +kernel
theorem dL_law__1397 : decode cL_law_ 1397 = .ok (.i2l, 1) := by decide +kernel
theorem dL_law__1398 : decode cL_law_ 1398 = .ok (.lcmp, 1) := by decide +kernel
theorem dL_law__1399 : decode cL_law_ 1399 = .ok (.ifCond .eq 5, 3) := by decide +kernel
theorem dL_law__1402 : decode cL_law_ 1402 = .ok (.iconst 0, 1) := by decide +kernel
theorem dL_law__1403 : decode cL_law_ 1403 = .ok (.ireturn, 1) := by decide +kernel
theorem dL_law__1404 : decode cL_law_ 1404 = .ok (.goto 991, 3) := by decide +kernel
theorem dL_law__1407 : decode cL_law_ 1407 = .ok (.aload_n 1, 1) := by decide +kernel
theorem dL_law__1408 : decode cL_law_ 1408 = .ok (.aload_n 0, 1) := by decide +kernel
theorem dL_law__1409 : decode cL_law_ 1409 = .ok (.iload 4, 2) := by decide +kernel
theorem dL_law__1411 : decode cL_law_ 1411 = .ok (.iconst 1, 1) := by decide +kernel
theorem dL_law__1412 : decode cL_law_ 1412 = .ok (.iadd, 1) := by decide +kernel
theorem dL_law__1413 : decode cL_law_ 1413 = .ok (.iaload, 1) := by decide +kernel
theorem dL_law__1414 : decode cL_law_ 1414 = .ok (.aload_n 3, 1) := by decide +kernel
theorem dL_law__1415 : decode cL_law_ 1415 = .ok (.invokestatic 210, 3) := by decide +kernel
theorem dL_law__1418 : decode cL_law_ 1418 = .ok (.istore 5, 2) := by decide +kernel
theorem dL_law__1420 : decode cL_law_ 1420 = .ok (.aload_n 2, 1) := by decide +kernel
theorem dL_law__1421 : decode cL_law_ 1421 = .ok (.aload_n 0, 1) := by decide +kernel
theorem dL_law__1422 : decode cL_law_ 1422 = .ok (.iload 4, 2) := by decide +kernel
theorem dL_law__1424 : decode cL_law_ 1424 = .ok (.iconst 1, 1) := by decide +kernel
theorem dL_law__1425 : decode cL_law_ 1425 = .ok (.iadd, 1) := by decide +kernel
theorem dL_law__1426 : decode cL_law_ 1426 = .ok (.iaload, 1) := by decide +kernel
theorem dL_law__1427 : decode cL_law_ 1427 = .ok (.invokevirtual 212, 3) := by decide +kernel
theorem dL_law__1430 : decode cL_law_ 1430 = .ok (.istore 6, 2) := by decide +kernel
theorem dL_law__1432 : decode cL_law_ 1432 = .ok (.aload_n 2, 1) := by decide +kernel
theorem dL_law__1433 : decode cL_law_ 1433 = .ok (.invokevirtual 126, 3) := by decide +kernel
theorem dL_law__1436 : decode cL_law_ 1436 = .ok (.iload 5, 2) := by decide +kernel
theorem dL_law__1438 : decode cL_law_ 1438 = .ok (.if_icmp .eq 5, 3) := by decide +kernel
theorem dL_law__1441 : decode cL_law_ 1441 = .ok (.iconst 0, 1) := by decide +kernel
theorem dL_law__1442 : decode cL_law_ 1442 = .ok (.ireturn, 1) := by decide +kernel
theorem dL_law__1443 : decode cL_law_ 1443 = .ok (.iload 5, 2) := by decide +kernel
theorem dL_law__1445 : decode cL_law_ 1445 = .ok (.ifCond .ne 15, 3) := by decide +kernel
theorem dL_law__1448 : decode cL_law_ 1448 = .ok (.aload_n 3, 1) := by decide +kernel
theorem dL_law__1449 : decode cL_law_ 1449 = .ok (.iconst 0, 1) := by decide +kernel
theorem dL_law__1450 : decode cL_law_ 1450 = .ok (.laload, 1) := by decide +kernel
theorem dL_law__1451 : decode cL_law_ 1451 = .ok (.iload 6, 2) := by decide +kernel
theorem dL_law__1453 : decode cL_law_ 1453 = .ok (.i2l, 1) := by decide +kernel
theorem dL_law__1454 : decode cL_law_ 1454 = .ok (.lcmp, 1) := by decide +kernel
theorem dL_law__1455 : decode cL_law_ 1455 = .ok (.ifCond .eq 5, 3) := by decide +kernel
theorem dL_law__1458 : decode cL_law_ 1458 = .ok (.iconst 0, 1) := by decide +kernel
theorem dL_law__1459 : decode cL_law_ 1459 = .ok (.ireturn, 1) := by decide +kernel
theorem dL_law__1460 : decode cL_law_ 1460 = .ok (.goto 935, 3) := by decide +kernel
theorem dL_law__1463 : decode cL_law_ 1463 = .ok (.aload_n 1, 1) := by decide +kernel
theorem dL_law__1464 : decode cL_law_ 1464 = .ok (.aload_n 0, 1) := by decide +kernel
theorem dL_law__1465 : decode cL_law_ 1465 = .ok (.iload 4, 2) := by decide +kernel
theorem dL_law__1467 : decode cL_law_ 1467 = .ok (.iconst 1, 1) := by decide +kernel
theorem dL_law__1468 : decode cL_law_ 1468 = .ok (.iadd, 1) := by decide +kernel
theorem dL_law__1469 : decode cL_law_ 1469 = .ok (.iaload, 1) := by decide +kernel
theorem dL_law__1470 : decode cL_law_ 1470 = .ok (.ifCond .eq 7, 3) := by decide +kernel
theorem dL_law__1473 : decode cL_law_ 1473 = .ok (.iconst 1, 1) := by decide +kernel
theorem dL_law__1474 : decode cL_law_ 1474 = .ok (.goto 4, 3) := by decide +kernel
theorem dL_law__1477 : decode cL_law_ 1477 = .ok (.iconst 0, 1) := by decide +kernel
theorem dL_law__1478 : decode cL_law_ 1478 = .ok (.aload_n 3, 1) := by decide +kernel
theorem dL_law__1479 : decode cL_law_ 1479 = .ok (.invokestatic 213, 3) := by decide +kernel
theorem dL_law__1482 : decode cL_law_ 1482 = .ok (.istore 5, 2) := by decide +kernel
theorem dL_law__1484 : decode cL_law_ 1484 = .ok (.aload_n 2, 1) := by decide +kernel
theorem dL_law__1485 : decode cL_law_ 1485 = .ok (.aload_n 0, 1) := by decide +kernel
theorem dL_law__1486 : decode cL_law_ 1486 = .ok (.iload 4, 2) := by decide +kernel
theorem dL_law__1488 : decode cL_law_ 1488 = .ok (.iconst 1, 1) := by decide +kernel
theorem dL_law__1489 : decode cL_law_ 1489 = .ok (.iadd, 1) := by decide +kernel
theorem dL_law__1490 : decode cL_law_ 1490 = .ok (.iaload, 1) := by decide +kernel
theorem dL_law__1491 : decode cL_law_ 1491 = .ok (.ifCond .eq 7, 3) := by decide +kernel
theorem dL_law__1494 : decode cL_law_ 1494 = .ok (.iconst 1, 1) := by decide +kernel
theorem dL_law__1495 : decode cL_law_ 1495 = .ok (.goto 4, 3) := by decide +kernel
theorem dL_law__1498 : decode cL_law_ 1498 = .ok (.iconst 0, 1) := by decide +kernel
theorem dL_law__1499 : decode cL_law_ 1499 = .ok (.invokevirtual 216, 3) := by decide +kernel
theorem dL_law__1502 : decode cL_law_ 1502 = .ok (.istore 6, 2) := by decide +kernel
theorem dL_law__1504 : decode cL_law_ 1504 = .ok (.aload_n 2, 1) := by decide +kernel
theorem dL_law__1505 : decode cL_law_ 1505 = .ok (.invokevirtual 126, 3) := by decide +kernel
theorem dL_law__1508 : decode cL_law_ 1508 = .ok (.iload 5, 2) := by decide +kernel
theorem dL_law__1510 : decode cL_law_ 1510 = .ok (.if_icmp .eq 5, 3) := by decide +kernel
theorem dL_law__1513 : decode cL_law_ 1513 = .ok (.iconst 0, 1) := by decide +kernel
theorem dL_law__1514 : decode cL_law_ 1514 = .ok (.ireturn, 1) := by decide +kernel
theorem dL_law__1515 : decode cL_law_ 1515 = .ok (.iload 5, 2) := by decide +kernel
theorem dL_law__1517 : decode cL_law_ 1517 = .ok (.ifCond .ne 15, 3) := by decide +kernel
theorem dL_law__1520 : decode cL_law_ 1520 = .ok (.aload_n 3, 1) := by decide +kernel
theorem dL_law__1521 : decode cL_law_ 1521 = .ok (.iconst 0, 1) := by decide +kernel
theorem dL_law__1522 : decode cL_law_ 1522 = .ok (.laload, 1) := by decide +kernel
theorem dL_law__1523 : decode cL_law_ 1523 = .ok (.iload 6, 2) := by decide +kernel
theorem dL_law__1525 : decode cL_law_ 1525 = .ok (.i2l, 1) := by decide +kernel
theorem dL_law__1526 : decode cL_law_ 1526 = .ok (.lcmp, 1) := by decide +kernel
theorem dL_law__1527 : decode cL_law_ 1527 = .ok (.ifCond .eq 5, 3) := by decide +kernel
theorem dL_law__1530 : decode cL_law_ 1530 = .ok (.iconst 0, 1) := by decide +kernel
theorem dL_law__1531 : decode cL_law_ 1531 = .ok (.ireturn, 1) := by decide +kernel
theorem dL_law__1532 : decode cL_law_ 1532 = .ok (.goto 863, 3) := by decide +kernel
theorem dL_law__1535 : decode cL_law_ 1535 = .ok (.aload_n 1, 1) := by decide +kernel
theorem dL_law__1536 : decode cL_law_ 1536 = .ok (.aload_n 3, 1) := by decide +kernel
theorem dL_law__1537 : decode cL_law_ 1537 = .ok (.invokestatic 217, 3) := by decide +kernel
theorem dL_law__1540 : decode cL_law_ 1540 = .ok (.istore 5, 2) := by decide +kernel
theorem dL_law__1542 : decode cL_law_ 1542 = .ok (.aload_n 2, 1) := by decide +kernel
theorem dL_law__1543 : decode cL_law_ 1543 = .ok (.invokevirtual 219, 3) := by decide +kernel
theorem dL_law__1546 : decode cL_law_ 1546 = .ok (.istore 6, 2) := by decide +kernel
theorem dL_law__1548 : decode cL_law_ 1548 = .ok (.aload_n 2, 1) := by decide +kernel
theorem dL_law__1549 : decode cL_law_ 1549 = .ok (.invokevirtual 126, 3) := by decide +kernel
theorem dL_law__1552 : decode cL_law_ 1552 = .ok (.iload 5, 2) := by decide +kernel
theorem dL_law__1554 : decode cL_law_ 1554 = .ok (.if_icmp .eq 5, 3) := by decide +kernel
theorem dL_law__1557 : decode cL_law_ 1557 = .ok (.iconst 0, 1) := by decide +kernel
theorem dL_law__1558 : decode cL_law_ 1558 = .ok (.ireturn, 1) := by decide +kernel
theorem dL_law__1559 : decode cL_law_ 1559 = .ok (.iload 5, 2) := by decide +kernel
theorem dL_law__1561 : decode cL_law_ 1561 = .ok (.ifCond .ne 15, 3) := by decide +kernel
theorem dL_law__1564 : decode cL_law_ 1564 = .ok (.aload_n 3, 1) := by decide +kernel
theorem dL_law__1565 : decode cL_law_ 1565 = .ok (.iconst 0, 1) := by decide +kernel
theorem dL_law__1566 : decode cL_law_ 1566 = .ok (.laload, 1) := by decide +kernel
theorem dL_law__1567 : decode cL_law_ 1567 = .ok (.iload 6, 2) := by decide +kernel
theorem dL_law__1569 : decode cL_law_ 1569 = .ok (.i2l, 1) := by decide +kernel
theorem dL_law__1570 : decode cL_law_ 1570 = .ok (.lcmp, 1) := by decide +kernel
theorem dL_law__1571 : decode cL_law_ 1571 = .ok (.ifCond .eq 5, 3) := by decide +kernel
theorem dL_law__1574 : decode cL_law_ 1574 = .ok (.iconst 0, 1) := by decide +kernel
theorem dL_law__1575 : decode cL_law_ 1575 = .ok (.ireturn, 1) := by decide +kernel
theorem dL_law__1576 : decode cL_law_ 1576 = .ok (.goto 819, 3) := by decide +kernel
theorem dL_law__1579 : decode cL_law_ 1579 = .ok (.aload_n 1, 1) := by decide +kernel
theorem dL_law__1580 : decode cL_law_ 1580 = .ok (.invokevirtual 220, 3) := by decide +kernel
theorem dL_law__1583 : decode cL_law_ 1583 = .ok (.aload_n 2, 1) := by decide +kernel
theorem dL_law__1584 : decode cL_law_ 1584 = .ok (.invokevirtual 223, 3) := by decide +kernel
theorem dL_law__1587 : decode cL_law_ 1587 = .ok (.if_icmp .eq 808, 3) := by decide +kernel
theorem dL_law__1590 : decode cL_law_ 1590 = .ok (.iconst 0, 1) := by decide +kernel
theorem dL_law__1591 : decode cL_law_ 1591 = .ok (.ireturn, 1) := by decide +kernel
theorem dL_law__1592 : decode cL_law_ 1592 = .ok (.aload_n 1, 1) := by decide +kernel
theorem dL_law__1593 : decode cL_law_ 1593 = .ok (.aload_n 0, 1) := by decide +kernel
theorem dL_law__1594 : decode cL_law_ 1594 = .ok (.iload 4, 2) := by decide +kernel
theorem dL_law__1596 : decode cL_law_ 1596 = .ok (.iconst 1, 1) := by decide +kernel
theorem dL_law__1597 : decode cL_law_ 1597 = .ok (.iadd, 1) := by decide +kernel
theorem dL_law__1598 : decode cL_law_ 1598 = .ok (.iaload, 1) := by decide +kernel
theorem dL_law__1599 : decode cL_law_ 1599 = .ok (.aload_n 3, 1) := by decide +kernel
theorem dL_law__1600 : decode cL_law_ 1600 = .ok (.invokestatic 224, 3) := by decide +kernel
theorem dL_law__1603 : decode cL_law_ 1603 = .ok (.istore 5, 2) := by decide +kernel
theorem dL_law__1605 : decode cL_law_ 1605 = .ok (.aload_n 2, 1) := by decide +kernel
theorem dL_law__1606 : decode cL_law_ 1606 = .ok (.aload_n 0, 1) := by decide +kernel
theorem dL_law__1607 : decode cL_law_ 1607 = .ok (.iload 4, 2) := by decide +kernel
theorem dL_law__1609 : decode cL_law_ 1609 = .ok (.iconst 1, 1) := by decide +kernel
theorem dL_law__1610 : decode cL_law_ 1610 = .ok (.iadd, 1) := by decide +kernel
theorem dL_law__1611 : decode cL_law_ 1611 = .ok (.iaload, 1) := by decide +kernel
theorem dL_law__1612 : decode cL_law_ 1612 = .ok (.invokevirtual 226, 3) := by decide +kernel
theorem dL_law__1615 : decode cL_law_ 1615 = .ok (.istore 6, 2) := by decide +kernel
theorem dL_law__1617 : decode cL_law_ 1617 = .ok (.aload_n 2, 1) := by decide +kernel
theorem dL_law__1618 : decode cL_law_ 1618 = .ok (.invokevirtual 126, 3) := by decide +kernel
theorem dL_law__1621 : decode cL_law_ 1621 = .ok (.iload 5, 2) := by decide +kernel
theorem dL_law__1623 : decode cL_law_ 1623 = .ok (.if_icmp .eq 5, 3) := by decide +kernel
theorem dL_law__1626 : decode cL_law_ 1626 = .ok (.iconst 0, 1) := by decide +kernel
theorem dL_law__1627 : decode cL_law_ 1627 = .ok (.ireturn, 1) := by decide +kernel
theorem dL_law__1628 : decode cL_law_ 1628 = .ok (.iload 5, 2) := by decide +kernel
theorem dL_law__1630 : decode cL_law_ 1630 = .ok (.ifCond .ne 15, 3) := by decide +kernel
theorem dL_law__1633 : decode cL_law_ 1633 = .ok (.aload_n 3, 1) := by decide +kernel
theorem dL_law__1634 : decode cL_law_ 1634 = .ok (.iconst 0, 1) := by decide +kernel
theorem dL_law__1635 : decode cL_law_ 1635 = .ok (.laload, 1) := by decide +kernel
theorem dL_law__1636 : decode cL_law_ 1636 = .ok (.iload 6, 2) := by decide +kernel
theorem dL_law__1638 : decode cL_law_ 1638 = .ok (.i2l, 1) := by decide +kernel
theorem dL_law__1639 : decode cL_law_ 1639 = .ok (.lcmp, 1) := by decide +kernel
theorem dL_law__1640 : decode cL_law_ 1640 = .ok (.ifCond .eq 5, 3) := by decide +kernel
theorem dL_law__1643 : decode cL_law_ 1643 = .ok (.iconst 0, 1) := by decide +kernel
theorem dL_law__1644 : decode cL_law_ 1644 = .ok (.ireturn, 1) := by decide +kernel
theorem dL_law__1645 : decode cL_law_ 1645 = .ok (.goto 750, 3) := by decide +kernel
theorem dL_law__1648 : decode cL_law_ 1648 = .ok (.aload_n 1, 1) := by decide +kernel
theorem dL_law__1649 : decode cL_law_ 1649 = .ok (.invokevirtual 227, 3) := by decide +kernel
theorem dL_law__1652 : decode cL_law_ 1652 = .ok (.aload_n 2, 1) := by decide +kernel
theorem dL_law__1653 : decode cL_law_ 1653 = .ok (.invokevirtual 230, 3) := by decide +kernel
theorem dL_law__1656 : decode cL_law_ 1656 = .ok (.if_icmp .eq 739, 3) := by decide +kernel
theorem dL_law__1659 : decode cL_law_ 1659 = .ok (.iconst 0, 1) := by decide +kernel
theorem dL_law__1660 : decode cL_law_ 1660 = .ok (.ireturn, 1) := by decide +kernel
theorem dL_law__1661 : decode cL_law_ 1661 = .ok (.aload_n 1, 1) := by decide +kernel
theorem dL_law__1662 : decode cL_law_ 1662 = .ok (.invokevirtual 231, 3) := by decide +kernel
theorem dL_law__1665 : decode cL_law_ 1665 = .ok (.aload_n 2, 1) := by decide +kernel
theorem dL_law__1666 : decode cL_law_ 1666 = .ok (.invokevirtual 234, 3) := by decide +kernel
theorem dL_law__1669 : decode cL_law_ 1669 = .ok (.if_icmp .eq 726, 3) := by decide +kernel
theorem dL_law__1672 : decode cL_law_ 1672 = .ok (.iconst 0, 1) := by decide +kernel
theorem dL_law__1673 : decode cL_law_ 1673 = .ok (.ireturn, 1) := by decide +kernel
theorem dL_law__1674 : decode cL_law_ 1674 = .ok (.aload_n 1, 1) := by decide +kernel
theorem dL_law__1675 : decode cL_law_ 1675 = .ok (.invokevirtual 235, 3) := by decide +kernel
theorem dL_law__1678 : decode cL_law_ 1678 = .ok (.aload_n 2, 1) := by decide +kernel
theorem dL_law__1679 : decode cL_law_ 1679 = .ok (.invokevirtual 238, 3) := by decide +kernel
theorem dL_law__1682 : decode cL_law_ 1682 = .ok (.if_icmp .eq 713, 3) := by decide +kernel
theorem dL_law__1685 : decode cL_law_ 1685 = .ok (.iconst 0, 1) := by decide +kernel
theorem dL_law__1686 : decode cL_law_ 1686 = .ok (.ireturn, 1) := by decide +kernel
theorem dL_law__1687 : decode cL_law_ 1687 = .ok (.aload_n 1, 1) := by decide +kernel
theorem dL_law__1688 : decode cL_law_ 1688 = .ok (.aload_n 0, 1) := by decide +kernel
theorem dL_law__1689 : decode cL_law_ 1689 = .ok (.iload 4, 2) := by decide +kernel
theorem dL_law__1691 : decode cL_law_ 1691 = .ok (.iconst 1, 1) := by decide +kernel
theorem dL_law__1692 : decode cL_law_ 1692 = .ok (.iadd, 1) := by decide +kernel
theorem dL_law__1693 : decode cL_law_ 1693 = .ok (.iaload, 1) := by decide +kernel
theorem dL_law__1694 : decode cL_law_ 1694 = .ok (.aload_n 0, 1) := by decide +kernel
theorem dL_law__1695 : decode cL_law_ 1695 = .ok (.iload 4, 2) := by decide +kernel
theorem dL_law__1697 : decode cL_law_ 1697 = .ok (.iconst 2, 1) := by decide +kernel
theorem dL_law__1698 : decode cL_law_ 1698 = .ok (.iadd, 1) := by decide +kernel
theorem dL_law__1699 : decode cL_law_ 1699 = .ok (.iaload, 1) := by decide +kernel
theorem dL_law__1700 : decode cL_law_ 1700 = .ok (.aload_n 3, 1) := by decide +kernel
theorem dL_law__1701 : decode cL_law_ 1701 = .ok (.invokestatic 239, 3) := by decide +kernel
theorem dL_law__1704 : decode cL_law_ 1704 = .ok (.istore 5, 2) := by decide +kernel
theorem dL_law__1706 : decode cL_law_ 1706 = .ok (.aload_n 2, 1) := by decide +kernel
theorem dL_law__1707 : decode cL_law_ 1707 = .ok (.aload_n 0, 1) := by decide +kernel
theorem dL_law__1708 : decode cL_law_ 1708 = .ok (.iload 4, 2) := by decide +kernel
theorem dL_law__1710 : decode cL_law_ 1710 = .ok (.iconst 1, 1) := by decide +kernel
theorem dL_law__1711 : decode cL_law_ 1711 = .ok (.iadd, 1) := by decide +kernel
theorem dL_law__1712 : decode cL_law_ 1712 = .ok (.iaload, 1) := by decide +kernel
theorem dL_law__1713 : decode cL_law_ 1713 = .ok (.aload_n 0, 1) := by decide +kernel
theorem dL_law__1714 : decode cL_law_ 1714 = .ok (.iload 4, 2) := by decide +kernel
theorem dL_law__1716 : decode cL_law_ 1716 = .ok (.iconst 2, 1) := by decide +kernel
theorem dL_law__1717 : decode cL_law_ 1717 = .ok (.iadd, 1) := by decide +kernel
theorem dL_law__1718 : decode cL_law_ 1718 = .ok (.iaload, 1) := by decide +kernel
theorem dL_law__1719 : decode cL_law_ 1719 = .ok (.invokevirtual 241, 3) := by decide +kernel
theorem dL_law__1722 : decode cL_law_ 1722 = .ok (.istore 6, 2) := by decide +kernel
theorem dL_law__1724 : decode cL_law_ 1724 = .ok (.aload_n 2, 1) := by decide +kernel
theorem dL_law__1725 : decode cL_law_ 1725 = .ok (.invokevirtual 126, 3) := by decide +kernel
theorem dL_law__1728 : decode cL_law_ 1728 = .ok (.iload 5, 2) := by decide +kernel
theorem dL_law__1730 : decode cL_law_ 1730 = .ok (.if_icmp .eq 5, 3) := by decide +kernel
theorem dL_law__1733 : decode cL_law_ 1733 = .ok (.iconst 0, 1) := by decide +kernel
theorem dL_law__1734 : decode cL_law_ 1734 = .ok (.ireturn, 1) := by decide +kernel
theorem dL_law__1735 : decode cL_law_ 1735 = .ok (.iload 5, 2) := by decide +kernel
theorem dL_law__1737 : decode cL_law_ 1737 = .ok (.ifCond .ne 15, 3) := by decide +kernel
theorem dL_law__1740 : decode cL_law_ 1740 = .ok (.aload_n 3, 1) := by decide +kernel
theorem dL_law__1741 : decode cL_law_ 1741 = .ok (.iconst 0, 1) := by decide +kernel
theorem dL_law__1742 : decode cL_law_ 1742 = .ok (.laload, 1) := by decide +kernel
theorem dL_law__1743 : decode cL_law_ 1743 = .ok (.iload 6, 2) := by decide +kernel
theorem dL_law__1745 : decode cL_law_ 1745 = .ok (.i2l, 1) := by decide +kernel
theorem dL_law__1746 : decode cL_law_ 1746 = .ok (.lcmp, 1) := by decide +kernel
theorem dL_law__1747 : decode cL_law_ 1747 = .ok (.ifCond .eq 5, 3) := by decide +kernel
theorem dL_law__1750 : decode cL_law_ 1750 = .ok (.iconst 0, 1) := by decide +kernel
theorem dL_law__1751 : decode cL_law_ 1751 = .ok (.ireturn, 1) := by decide +kernel
theorem dL_law__1752 : decode cL_law_ 1752 = .ok (.goto 643, 3) := by decide +kernel
theorem dL_law__1755 : decode cL_law_ 1755 = .ok (.aload_n 1, 1) := by decide +kernel
theorem dL_law__1756 : decode cL_law_ 1756 = .ok (.invokevirtual 242, 3) := by decide +kernel
theorem dL_law__1759 : decode cL_law_ 1759 = .ok (.aload_n 2, 1) := by decide +kernel
theorem dL_law__1760 : decode cL_law_ 1760 = .ok (.invokevirtual 245, 3) := by decide +kernel
theorem dL_law__1763 : decode cL_law_ 1763 = .ok (.if_icmp .eq 632, 3) := by decide +kernel
theorem dL_law__1766 : decode cL_law_ 1766 = .ok (.iconst 0, 1) := by decide +kernel
theorem dL_law__1767 : decode cL_law_ 1767 = .ok (.ireturn, 1) := by decide +kernel
theorem dL_law__1768 : decode cL_law_ 1768 = .ok (.aload_n 1, 1) := by decide +kernel
theorem dL_law__1769 : decode cL_law_ 1769 = .ok (.aload_n 0, 1) := by decide +kernel
theorem dL_law__1770 : decode cL_law_ 1770 = .ok (.iload 4, 2) := by decide +kernel
theorem dL_law__1772 : decode cL_law_ 1772 = .ok (.iconst 1, 1) := by decide +kernel
theorem dL_law__1773 : decode cL_law_ 1773 = .ok (.iadd, 1) := by decide +kernel
theorem dL_law__1774 : decode cL_law_ 1774 = .ok (.iaload, 1) := by decide +kernel
theorem dL_law__1775 : decode cL_law_ 1775 = .ok (.aload_n 0, 1) := by decide +kernel
theorem dL_law__1776 : decode cL_law_ 1776 = .ok (.iload 4, 2) := by decide +kernel
theorem dL_law__1778 : decode cL_law_ 1778 = .ok (.iconst 2, 1) := by decide +kernel
theorem dL_law__1779 : decode cL_law_ 1779 = .ok (.iadd, 1) := by decide +kernel
theorem dL_law__1780 : decode cL_law_ 1780 = .ok (.iaload, 1) := by decide +kernel
theorem dL_law__1781 : decode cL_law_ 1781 = .ok (.aload_n 0, 1) := by decide +kernel
theorem dL_law__1782 : decode cL_law_ 1782 = .ok (.iload 4, 2) := by decide +kernel
theorem dL_law__1784 : decode cL_law_ 1784 = .ok (.iconst 3, 1) := by decide +kernel
theorem dL_law__1785 : decode cL_law_ 1785 = .ok (.iadd, 1) := by decide +kernel
theorem dL_law__1786 : decode cL_law_ 1786 = .ok (.iaload, 1) := by decide +kernel
theorem dL_law__1787 : decode cL_law_ 1787 = .ok (.ifCond .eq 7, 3) := by decide +kernel
theorem dL_law__1790 : decode cL_law_ 1790 = .ok (.iconst 1, 1) := by decide +kernel
theorem dL_law__1791 : decode cL_law_ 1791 = .ok (.goto 4, 3) := by decide +kernel
theorem dL_law__1794 : decode cL_law_ 1794 = .ok (.iconst 0, 1) := by decide +kernel
theorem dL_law__1795 : decode cL_law_ 1795 = .ok (.aload_n 3, 1) := by decide +kernel
theorem dL_law__1796 : decode cL_law_ 1796 = .ok (.invokestatic 246, 3) := by decide +kernel
theorem dL_law__1799 : decode cL_law_ 1799 = .ok (.istore 5, 2) := by decide +kernel
theorem dL_law__1801 : decode cL_law_ 1801 = .ok (.aload_n 2, 1) := by decide +kernel
theorem dL_law__1802 : decode cL_law_ 1802 = .ok (.aload_n 0, 1) := by decide +kernel
theorem dL_law__1803 : decode cL_law_ 1803 = .ok (.iload 4, 2) := by decide +kernel
theorem dL_law__1805 : decode cL_law_ 1805 = .ok (.iconst 1, 1) := by decide +kernel
theorem dL_law__1806 : decode cL_law_ 1806 = .ok (.iadd, 1) := by decide +kernel
theorem dL_law__1807 : decode cL_law_ 1807 = .ok (.iaload, 1) := by decide +kernel
theorem dL_law__1808 : decode cL_law_ 1808 = .ok (.aload_n 0, 1) := by decide +kernel
theorem dL_law__1809 : decode cL_law_ 1809 = .ok (.iload 4, 2) := by decide +kernel
theorem dL_law__1811 : decode cL_law_ 1811 = .ok (.iconst 2, 1) := by decide +kernel
theorem dL_law__1812 : decode cL_law_ 1812 = .ok (.iadd, 1) := by decide +kernel
theorem dL_law__1813 : decode cL_law_ 1813 = .ok (.iaload, 1) := by decide +kernel
theorem dL_law__1814 : decode cL_law_ 1814 = .ok (.aload_n 0, 1) := by decide +kernel
theorem dL_law__1815 : decode cL_law_ 1815 = .ok (.iload 4, 2) := by decide +kernel
theorem dL_law__1817 : decode cL_law_ 1817 = .ok (.iconst 3, 1) := by decide +kernel
theorem dL_law__1818 : decode cL_law_ 1818 = .ok (.iadd, 1) := by decide +kernel
theorem dL_law__1819 : decode cL_law_ 1819 = .ok (.iaload, 1) := by decide +kernel
theorem dL_law__1820 : decode cL_law_ 1820 = .ok (.ifCond .eq 7, 3) := by decide +kernel
theorem dL_law__1823 : decode cL_law_ 1823 = .ok (.iconst 1, 1) := by decide +kernel
theorem dL_law__1824 : decode cL_law_ 1824 = .ok (.goto 4, 3) := by decide +kernel
theorem dL_law__1827 : decode cL_law_ 1827 = .ok (.iconst 0, 1) := by decide +kernel
theorem dL_law__1828 : decode cL_law_ 1828 = .ok (.invokevirtual 248, 3) := by decide +kernel
theorem dL_law__1831 : decode cL_law_ 1831 = .ok (.istore 6, 2) := by decide +kernel
theorem dL_law__1833 : decode cL_law_ 1833 = .ok (.aload_n 2, 1) := by decide +kernel
theorem dL_law__1834 : decode cL_law_ 1834 = .ok (.invokevirtual 126, 3) := by decide +kernel
theorem dL_law__1837 : decode cL_law_ 1837 = .ok (.iload 5, 2) := by decide +kernel
theorem dL_law__1839 : decode cL_law_ 1839 = .ok (.if_icmp .eq 5, 3) := by decide +kernel
theorem dL_law__1842 : decode cL_law_ 1842 = .ok (.iconst 0, 1) := by decide +kernel
theorem dL_law__1843 : decode cL_law_ 1843 = .ok (.ireturn, 1) := by decide +kernel
theorem dL_law__1844 : decode cL_law_ 1844 = .ok (.iload 5, 2) := by decide +kernel
theorem dL_law__1846 : decode cL_law_ 1846 = .ok (.ifCond .ne 15, 3) := by decide +kernel
theorem dL_law__1849 : decode cL_law_ 1849 = .ok (.aload_n 3, 1) := by decide +kernel
theorem dL_law__1850 : decode cL_law_ 1850 = .ok (.iconst 0, 1) := by decide +kernel
theorem dL_law__1851 : decode cL_law_ 1851 = .ok (.laload, 1) := by decide +kernel
theorem dL_law__1852 : decode cL_law_ 1852 = .ok (.iload 6, 2) := by decide +kernel
theorem dL_law__1854 : decode cL_law_ 1854 = .ok (.i2l, 1) := by decide +kernel
theorem dL_law__1855 : decode cL_law_ 1855 = .ok (.lcmp, 1) := by decide +kernel
theorem dL_law__1856 : decode cL_law_ 1856 = .ok (.ifCond .eq 5, 3) := by decide +kernel
theorem dL_law__1859 : decode cL_law_ 1859 = .ok (.iconst 0, 1) := by decide +kernel
theorem dL_law__1860 : decode cL_law_ 1860 = .ok (.ireturn, 1) := by decide +kernel
theorem dL_law__1861 : decode cL_law_ 1861 = .ok (.goto 534, 3) := by decide +kernel
theorem dL_law__1864 : decode cL_law_ 1864 = .ok (.aload_n 1, 1) := by decide +kernel
theorem dL_law__1865 : decode cL_law_ 1865 = .ok (.aload_n 0, 1) := by decide +kernel
theorem dL_law__1866 : decode cL_law_ 1866 = .ok (.iload 4, 2) := by decide +kernel
theorem dL_law__1868 : decode cL_law_ 1868 = .ok (.iconst 1, 1) := by decide +kernel
theorem dL_law__1869 : decode cL_law_ 1869 = .ok (.iadd, 1) := by decide +kernel
theorem dL_law__1870 : decode cL_law_ 1870 = .ok (.iaload, 1) := by decide +kernel
theorem dL_law__1871 : decode cL_law_ 1871 = .ok (.aload_n 0, 1) := by decide +kernel
theorem dL_law__1872 : decode cL_law_ 1872 = .ok (.iload 4, 2) := by decide +kernel
theorem dL_law__1874 : decode cL_law_ 1874 = .ok (.iconst 2, 1) := by decide +kernel
theorem dL_law__1875 : decode cL_law_ 1875 = .ok (.iadd, 1) := by decide +kernel
theorem dL_law__1876 : decode cL_law_ 1876 = .ok (.iaload, 1) := by decide +kernel
theorem dL_law__1877 : decode cL_law_ 1877 = .ok (.aload_n 3, 1) := by decide +kernel
theorem dL_law__1878 : decode cL_law_ 1878 = .ok (.invokestatic 249, 3) := by decide +kernel
theorem dL_law__1881 : decode cL_law_ 1881 = .ok (.istore 5, 2) := by decide +kernel
theorem dL_law__1883 : decode cL_law_ 1883 = .ok (.aload_n 2, 1) := by decide +kernel
theorem dL_law__1884 : decode cL_law_ 1884 = .ok (.aload_n 0, 1) := by decide +kernel
theorem dL_law__1885 : decode cL_law_ 1885 = .ok (.iload 4, 2) := by decide +kernel
theorem dL_law__1887 : decode cL_law_ 1887 = .ok (.iconst 1, 1) := by decide +kernel
theorem dL_law__1888 : decode cL_law_ 1888 = .ok (.iadd, 1) := by decide +kernel
theorem dL_law__1889 : decode cL_law_ 1889 = .ok (.iaload, 1) := by decide +kernel
theorem dL_law__1890 : decode cL_law_ 1890 = .ok (.aload_n 0, 1) := by decide +kernel
theorem dL_law__1891 : decode cL_law_ 1891 = .ok (.iload 4, 2) := by decide +kernel
theorem dL_law__1893 : decode cL_law_ 1893 = .ok (.iconst 2, 1) := by decide +kernel
theorem dL_law__1894 : decode cL_law_ 1894 = .ok (.iadd, 1) := by decide +kernel
theorem dL_law__1895 : decode cL_law_ 1895 = .ok (.iaload, 1) := by decide +kernel
theorem dL_law__1896 : decode cL_law_ 1896 = .ok (.invokevirtual 251, 3) := by decide +kernel
theorem dL_law__1899 : decode cL_law_ 1899 = .ok (.istore 6, 2) := by decide +kernel
theorem dL_law__1901 : decode cL_law_ 1901 = .ok (.aload_n 2, 1) := by decide +kernel
theorem dL_law__1902 : decode cL_law_ 1902 = .ok (.invokevirtual 126, 3) := by decide +kernel
theorem dL_law__1905 : decode cL_law_ 1905 = .ok (.iload 5, 2) := by decide +kernel
theorem dL_law__1907 : decode cL_law_ 1907 = .ok (.if_icmp .eq 5, 3) := by decide +kernel
theorem dL_law__1910 : decode cL_law_ 1910 = .ok (.iconst 0, 1) := by decide +kernel
theorem dL_law__1911 : decode cL_law_ 1911 = .ok (.ireturn, 1) := by decide +kernel
theorem dL_law__1912 : decode cL_law_ 1912 = .ok (.iload 5, 2) := by decide +kernel
theorem dL_law__1914 : decode cL_law_ 1914 = .ok (.ifCond .ne 15, 3) := by decide +kernel
theorem dL_law__1917 : decode cL_law_ 1917 = .ok (.aload_n 3, 1) := by decide +kernel
theorem dL_law__1918 : decode cL_law_ 1918 = .ok (.iconst 0, 1) := by decide +kernel
theorem dL_law__1919 : decode cL_law_ 1919 = .ok (.laload, 1) := by decide +kernel
theorem dL_law__1920 : decode cL_law_ 1920 = .ok (.iload 6, 2) := by decide +kernel
theorem dL_law__1922 : decode cL_law_ 1922 = .ok (.i2l, 1) := by decide +kernel
theorem dL_law__1923 : decode cL_law_ 1923 = .ok (.lcmp, 1) := by decide +kernel
theorem dL_law__1924 : decode cL_law_ 1924 = .ok (.ifCond .eq 5, 3) := by decide +kernel
theorem dL_law__1927 : decode cL_law_ 1927 = .ok (.iconst 0, 1) := by decide +kernel
theorem dL_law__1928 : decode cL_law_ 1928 = .ok (.ireturn, 1) := by decide +kernel
theorem dL_law__1929 : decode cL_law_ 1929 = .ok (.goto 466, 3) := by decide +kernel
theorem dL_law__1932 : decode cL_law_ 1932 = .ok (.aload_n 1, 1) := by decide +kernel
theorem dL_law__1933 : decode cL_law_ 1933 = .ok (.aload_n 0, 1) := by decide +kernel
theorem dL_law__1934 : decode cL_law_ 1934 = .ok (.iload 4, 2) := by decide +kernel
theorem dL_law__1936 : decode cL_law_ 1936 = .ok (.iconst 1, 1) := by decide +kernel
theorem dL_law__1937 : decode cL_law_ 1937 = .ok (.iadd, 1) := by decide +kernel
theorem dL_law__1938 : decode cL_law_ 1938 = .ok (.iaload, 1) := by decide +kernel
theorem dL_law__1939 : decode cL_law_ 1939 = .ok (.aload_n 3, 1) := by decide +kernel
theorem dL_law__1940 : decode cL_law_ 1940 = .ok (.invokestatic 252, 3) := by decide +kernel
theorem dL_law__1943 : decode cL_law_ 1943 = .ok (.istore 5, 2) := by decide +kernel
theorem dL_law__1945 : decode cL_law_ 1945 = .ok (.aload_n 2, 1) := by decide +kernel
theorem dL_law__1946 : decode cL_law_ 1946 = .ok (.aload_n 0, 1) := by decide +kernel
theorem dL_law__1947 : decode cL_law_ 1947 = .ok (.iload 4, 2) := by decide +kernel
theorem dL_law__1949 : decode cL_law_ 1949 = .ok (.iconst 1, 1) := by decide +kernel
theorem dL_law__1950 : decode cL_law_ 1950 = .ok (.iadd, 1) := by decide +kernel
theorem dL_law__1951 : decode cL_law_ 1951 = .ok (.iaload, 1) := by decide +kernel
theorem dL_law__1952 : decode cL_law_ 1952 = .ok (.invokevirtual 254, 3) := by decide +kernel
theorem dL_law__1955 : decode cL_law_ 1955 = .ok (.istore 6, 2) := by decide +kernel
theorem dL_law__1957 : decode cL_law_ 1957 = .ok (.aload_n 2, 1) := by decide +kernel
theorem dL_law__1958 : decode cL_law_ 1958 = .ok (.invokevirtual 126, 3) := by decide +kernel
theorem dL_law__1961 : decode cL_law_ 1961 = .ok (.iload 5, 2) := by decide +kernel
theorem dL_law__1963 : decode cL_law_ 1963 = .ok (.if_icmp .eq 5, 3) := by decide +kernel
theorem dL_law__1966 : decode cL_law_ 1966 = .ok (.iconst 0, 1) := by decide +kernel
theorem dL_law__1967 : decode cL_law_ 1967 = .ok (.ireturn, 1) := by decide +kernel
theorem dL_law__1968 : decode cL_law_ 1968 = .ok (.iload 5, 2) := by decide +kernel
theorem dL_law__1970 : decode cL_law_ 1970 = .ok (.ifCond .ne 15, 3) := by decide +kernel
theorem dL_law__1973 : decode cL_law_ 1973 = .ok (.aload_n 3, 1) := by decide +kernel
theorem dL_law__1974 : decode cL_law_ 1974 = .ok (.iconst 0, 1) := by decide +kernel
theorem dL_law__1975 : decode cL_law_ 1975 = .ok (.laload, 1) := by decide +kernel
theorem dL_law__1976 : decode cL_law_ 1976 = .ok (.iload 6, 2) := by decide +kernel
theorem dL_law__1978 : decode cL_law_ 1978 = .ok (.i2l, 1) := by decide +kernel
theorem dL_law__1979 : decode cL_law_ 1979 = .ok (.lcmp, 1) := by decide +kernel
theorem dL_law__1980 : decode cL_law_ 1980 = .ok (.ifCond .eq 5, 3) := by decide +kernel
theorem dL_law__1983 : decode cL_law_ 1983 = .ok (.iconst 0, 1) := by decide +kernel
theorem dL_law__1984 : decode cL_law_ 1984 = .ok (.ireturn, 1) := by decide +kernel
theorem dL_law__1985 : decode cL_law_ 1985 = .ok (.goto 410, 3) := by decide +kernel
theorem dL_law__1988 : decode cL_law_ 1988 = .ok (.aload_n 1, 1) := by decide +kernel
theorem dL_law__1989 : decode cL_law_ 1989 = .ok (.aload_n 0, 1) := by decide +kernel
theorem dL_law__1990 : decode cL_law_ 1990 = .ok (.iload 4, 2) := by decide +kernel
theorem dL_law__1992 : decode cL_law_ 1992 = .ok (.iconst 1, 1) := by decide +kernel
theorem dL_law__1993 : decode cL_law_ 1993 = .ok (.iadd, 1) := by decide +kernel
theorem dL_law__1994 : decode cL_law_ 1994 = .ok (.iaload, 1) := by decide +kernel
theorem dL_law__1995 : decode cL_law_ 1995 = .ok (.aload_n 0, 1) := by decide +kernel
theorem dL_law__1996 : decode cL_law_ 1996 = .ok (.iload 4, 2) := by decide +kernel
theorem dL_law__1998 : decode cL_law_ 1998 = .ok (.iconst 2, 1) := by decide +kernel
theorem dL_law__1999 : decode cL_law_ 1999 = .ok (.iadd, 1) := by decide +kernel
theorem dL_law__2000 : decode cL_law_ 2000 = .ok (.iaload, 1) := by decide +kernel
theorem dL_law__2001 : decode cL_law_ 2001 = .ok (.ifCond .eq 7, 3) := by decide +kernel
theorem dL_law__2004 : decode cL_law_ 2004 = .ok (.iconst 1, 1) := by decide +kernel
theorem dL_law__2005 : decode cL_law_ 2005 = .ok (.goto 4, 3) := by decide +kernel
theorem dL_law__2008 : decode cL_law_ 2008 = .ok (.iconst 0, 1) := by decide +kernel
theorem dL_law__2009 : decode cL_law_ 2009 = .ok (.aload_n 3, 1) := by decide +kernel
theorem dL_law__2010 : decode cL_law_ 2010 = .ok (.invokestatic 255, 3) := by decide +kernel
theorem dL_law__2013 : decode cL_law_ 2013 = .ok (.istore 5, 2) := by decide +kernel
theorem dL_law__2015 : decode cL_law_ 2015 = .ok (.aload_n 2, 1) := by decide +kernel
theorem dL_law__2016 : decode cL_law_ 2016 = .ok (.aload_n 0, 1) := by decide +kernel
theorem dL_law__2017 : decode cL_law_ 2017 = .ok (.iload 4, 2) := by decide +kernel
theorem dL_law__2019 : decode cL_law_ 2019 = .ok (.iconst 1, 1) := by decide +kernel
theorem dL_law__2020 : decode cL_law_ 2020 = .ok (.iadd, 1) := by decide +kernel
theorem dL_law__2021 : decode cL_law_ 2021 = .ok (.iaload, 1) := by decide +kernel
theorem dL_law__2022 : decode cL_law_ 2022 = .ok (.aload_n 0, 1) := by decide +kernel
theorem dL_law__2023 : decode cL_law_ 2023 = .ok (.iload 4, 2) := by decide +kernel
theorem dL_law__2025 : decode cL_law_ 2025 = .ok (.iconst 2, 1) := by decide +kernel
theorem dL_law__2026 : decode cL_law_ 2026 = .ok (.iadd, 1) := by decide +kernel
theorem dL_law__2027 : decode cL_law_ 2027 = .ok (.iaload, 1) := by decide +kernel
theorem dL_law__2028 : decode cL_law_ 2028 = .ok (.ifCond .eq 7, 3) := by decide +kernel
theorem dL_law__2031 : decode cL_law_ 2031 = .ok (.iconst 1, 1) := by decide +kernel
theorem dL_law__2032 : decode cL_law_ 2032 = .ok (.goto 4, 3) := by decide +kernel
theorem dL_law__2035 : decode cL_law_ 2035 = .ok (.iconst 0, 1) := by decide +kernel
theorem dL_law__2036 : decode cL_law_ 2036 = .ok (.invokevirtual 258, 3) := by decide +kernel
theorem dL_law__2039 : decode cL_law_ 2039 = .ok (.istore 6, 2) := by decide +kernel
theorem dL_law__2041 : decode cL_law_ 2041 = .ok (.aload_n 2, 1) := by decide +kernel
theorem dL_law__2042 : decode cL_law_ 2042 = .ok (.invokevirtual 126, 3) := by decide +kernel
theorem dL_law__2045 : decode cL_law_ 2045 = .ok (.iload 5, 2) := by decide +kernel
theorem dL_law__2047 : decode cL_law_ 2047 = .ok (.if_icmp .eq 5, 3) := by decide +kernel
theorem dL_law__2050 : decode cL_law_ 2050 = .ok (.iconst 0, 1) := by decide +kernel
theorem dL_law__2051 : decode cL_law_ 2051 = .ok (.ireturn, 1) := by decide +kernel
theorem dL_law__2052 : decode cL_law_ 2052 = .ok (.iload 5, 2) := by decide +kernel
theorem dL_law__2054 : decode cL_law_ 2054 = .ok (.ifCond .ne 15, 3) := by decide +kernel
theorem dL_law__2057 : decode cL_law_ 2057 = .ok (.aload_n 3, 1) := by decide +kernel
theorem dL_law__2058 : decode cL_law_ 2058 = .ok (.iconst 0, 1) := by decide +kernel
theorem dL_law__2059 : decode cL_law_ 2059 = .ok (.laload, 1) := by decide +kernel
theorem dL_law__2060 : decode cL_law_ 2060 = .ok (.iload 6, 2) := by decide +kernel
theorem dL_law__2062 : decode cL_law_ 2062 = .ok (.i2l, 1) := by decide +kernel
theorem dL_law__2063 : decode cL_law_ 2063 = .ok (.lcmp, 1) := by decide +kernel
theorem dL_law__2064 : decode cL_law_ 2064 = .ok (.ifCond .eq 5, 3) := by decide +kernel
theorem dL_law__2067 : decode cL_law_ 2067 = .ok (.iconst 0, 1) := by decide +kernel
theorem dL_law__2068 : decode cL_law_ 2068 = .ok (.ireturn, 1) := by decide +kernel
theorem dL_law__2069 : decode cL_law_ 2069 = .ok (.goto 326, 3) := by decide +kernel
theorem dL_law__2072 : decode cL_law_ 2072 = .ok (.aload_n 1, 1) := by decide +kernel
theorem dL_law__2073 : decode cL_law_ 2073 = .ok (.aload_n 0, 1) := by decide +kernel
theorem dL_law__2074 : decode cL_law_ 2074 = .ok (.iload 4, 2) := by decide +kernel
theorem dL_law__2076 : decode cL_law_ 2076 = .ok (.iconst 1, 1) := by decide +kernel
theorem dL_law__2077 : decode cL_law_ 2077 = .ok (.iadd, 1) := by decide +kernel
theorem dL_law__2078 : decode cL_law_ 2078 = .ok (.iaload, 1) := by decide +kernel
theorem dL_law__2079 : decode cL_law_ 2079 = .ok (.aload_n 0, 1) := by decide +kernel
theorem dL_law__2080 : decode cL_law_ 2080 = .ok (.iload 4, 2) := by decide +kernel
theorem dL_law__2082 : decode cL_law_ 2082 = .ok (.iconst 2, 1) := by decide +kernel
theorem dL_law__2083 : decode cL_law_ 2083 = .ok (.iadd, 1) := by decide +kernel
theorem dL_law__2084 : decode cL_law_ 2084 = .ok (.iaload, 1) := by decide +kernel
theorem dL_law__2085 : decode cL_law_ 2085 = .ok (.ifCond .eq 7, 3) := by decide +kernel
theorem dL_law__2088 : decode cL_law_ 2088 = .ok (.iconst 1, 1) := by decide +kernel
theorem dL_law__2089 : decode cL_law_ 2089 = .ok (.goto 4, 3) := by decide +kernel
theorem dL_law__2092 : decode cL_law_ 2092 = .ok (.iconst 0, 1) := by decide +kernel
theorem dL_law__2093 : decode cL_law_ 2093 = .ok (.aload_n 3, 1) := by decide +kernel
theorem dL_law__2094 : decode cL_law_ 2094 = .ok (.invokestatic 259, 3) := by decide +kernel
theorem dL_law__2097 : decode cL_law_ 2097 = .ok (.istore 5, 2) := by decide +kernel
theorem dL_law__2099 : decode cL_law_ 2099 = .ok (.aload_n 2, 1) := by decide +kernel
theorem dL_law__2100 : decode cL_law_ 2100 = .ok (.aload_n 0, 1) := by decide +kernel
theorem dL_law__2101 : decode cL_law_ 2101 = .ok (.iload 4, 2) := by decide +kernel
theorem dL_law__2103 : decode cL_law_ 2103 = .ok (.iconst 1, 1) := by decide +kernel
theorem dL_law__2104 : decode cL_law_ 2104 = .ok (.iadd, 1) := by decide +kernel
theorem dL_law__2105 : decode cL_law_ 2105 = .ok (.iaload, 1) := by decide +kernel
theorem dL_law__2106 : decode cL_law_ 2106 = .ok (.aload_n 0, 1) := by decide +kernel
theorem dL_law__2107 : decode cL_law_ 2107 = .ok (.iload 4, 2) := by decide +kernel
theorem dL_law__2109 : decode cL_law_ 2109 = .ok (.iconst 2, 1) := by decide +kernel
theorem dL_law__2110 : decode cL_law_ 2110 = .ok (.iadd, 1) := by decide +kernel
theorem dL_law__2111 : decode cL_law_ 2111 = .ok (.iaload, 1) := by decide +kernel
theorem dL_law__2112 : decode cL_law_ 2112 = .ok (.ifCond .eq 7, 3) := by decide +kernel
theorem dL_law__2115 : decode cL_law_ 2115 = .ok (.iconst 1, 1) := by decide +kernel
theorem dL_law__2116 : decode cL_law_ 2116 = .ok (.goto 4, 3) := by decide +kernel
theorem dL_law__2119 : decode cL_law_ 2119 = .ok (.iconst 0, 1) := by decide +kernel
theorem dL_law__2120 : decode cL_law_ 2120 = .ok (.invokevirtual 261, 3) := by decide +kernel
theorem dL_law__2123 : decode cL_law_ 2123 = .ok (.istore 6, 2) := by decide +kernel
theorem dL_law__2125 : decode cL_law_ 2125 = .ok (.aload_n 2, 1) := by decide +kernel
theorem dL_law__2126 : decode cL_law_ 2126 = .ok (.invokevirtual 126, 3) := by decide +kernel
theorem dL_law__2129 : decode cL_law_ 2129 = .ok (.iload 5, 2) := by decide +kernel
theorem dL_law__2131 : decode cL_law_ 2131 = .ok (.if_icmp .eq 5, 3) := by decide +kernel
theorem dL_law__2134 : decode cL_law_ 2134 = .ok (.iconst 0, 1) := by decide +kernel
theorem dL_law__2135 : decode cL_law_ 2135 = .ok (.ireturn, 1) := by decide +kernel
theorem dL_law__2136 : decode cL_law_ 2136 = .ok (.iload 5, 2) := by decide +kernel
theorem dL_law__2138 : decode cL_law_ 2138 = .ok (.ifCond .ne 15, 3) := by decide +kernel
theorem dL_law__2141 : decode cL_law_ 2141 = .ok (.aload_n 3, 1) := by decide +kernel
theorem dL_law__2142 : decode cL_law_ 2142 = .ok (.iconst 0, 1) := by decide +kernel
theorem dL_law__2143 : decode cL_law_ 2143 = .ok (.laload, 1) := by decide +kernel
theorem dL_law__2144 : decode cL_law_ 2144 = .ok (.iload 6, 2) := by decide +kernel
theorem dL_law__2146 : decode cL_law_ 2146 = .ok (.i2l, 1) := by decide +kernel
theorem dL_law__2147 : decode cL_law_ 2147 = .ok (.lcmp, 1) := by decide +kernel
theorem dL_law__2148 : decode cL_law_ 2148 = .ok (.ifCond .eq 5, 3) := by decide +kernel
theorem dL_law__2151 : decode cL_law_ 2151 = .ok (.iconst 0, 1) := by decide +kernel
theorem dL_law__2152 : decode cL_law_ 2152 = .ok (.ireturn, 1) := by decide +kernel
theorem dL_law__2153 : decode cL_law_ 2153 = .ok (.goto 242, 3) := by decide +kernel
theorem dL_law__2156 : decode cL_law_ 2156 = .ok (.aload_n 1, 1) := by decide +kernel
theorem dL_law__2157 : decode cL_law_ 2157 = .ok (.aload_n 0, 1) := by decide +kernel
theorem dL_law__2158 : decode cL_law_ 2158 = .ok (.iload 4, 2) := by decide +kernel
theorem dL_law__2160 : decode cL_law_ 2160 = .ok (.iconst 1, 1) := by decide +kernel
theorem dL_law__2161 : decode cL_law_ 2161 = .ok (.iadd, 1) := by decide +kernel
theorem dL_law__2162 : decode cL_law_ 2162 = .ok (.iaload, 1) := by decide +kernel
theorem dL_law__2163 : decode cL_law_ 2163 = .ok (.aload_n 0, 1) := by decide +kernel
theorem dL_law__2164 : decode cL_law_ 2164 = .ok (.iload 4, 2) := by decide +kernel
theorem dL_law__2166 : decode cL_law_ 2166 = .ok (.iconst 2, 1) := by decide +kernel
theorem dL_law__2167 : decode cL_law_ 2167 = .ok (.iadd, 1) := by decide +kernel
theorem dL_law__2168 : decode cL_law_ 2168 = .ok (.iaload, 1) := by decide +kernel
theorem dL_law__2169 : decode cL_law_ 2169 = .ok (.ifCond .eq 7, 3) := by decide +kernel
theorem dL_law__2172 : decode cL_law_ 2172 = .ok (.iconst 1, 1) := by decide +kernel
theorem dL_law__2173 : decode cL_law_ 2173 = .ok (.goto 4, 3) := by decide +kernel
theorem dL_law__2176 : decode cL_law_ 2176 = .ok (.iconst 0, 1) := by decide +kernel
theorem dL_law__2177 : decode cL_law_ 2177 = .ok (.aload_n 3, 1) := by decide +kernel
theorem dL_law__2178 : decode cL_law_ 2178 = .ok (.invokestatic 262, 3) := by decide +kernel
theorem dL_law__2181 : decode cL_law_ 2181 = .ok (.istore 5, 2) := by decide +kernel
theorem dL_law__2183 : decode cL_law_ 2183 = .ok (.aload_n 2, 1) := by decide +kernel
theorem dL_law__2184 : decode cL_law_ 2184 = .ok (.aload_n 0, 1) := by decide +kernel
theorem dL_law__2185 : decode cL_law_ 2185 = .ok (.iload 4, 2) := by decide +kernel
theorem dL_law__2187 : decode cL_law_ 2187 = .ok (.iconst 1, 1) := by decide +kernel
theorem dL_law__2188 : decode cL_law_ 2188 = .ok (.iadd, 1) := by decide +kernel
theorem dL_law__2189 : decode cL_law_ 2189 = .ok (.iaload, 1) := by decide +kernel
theorem dL_law__2190 : decode cL_law_ 2190 = .ok (.aload_n 0, 1) := by decide +kernel
theorem dL_law__2191 : decode cL_law_ 2191 = .ok (.iload 4, 2) := by decide +kernel
theorem dL_law__2193 : decode cL_law_ 2193 = .ok (.iconst 2, 1) := by decide +kernel
theorem dL_law__2194 : decode cL_law_ 2194 = .ok (.iadd, 1) := by decide +kernel
theorem dL_law__2195 : decode cL_law_ 2195 = .ok (.iaload, 1) := by decide +kernel
theorem dL_law__2196 : decode cL_law_ 2196 = .ok (.ifCond .eq 7, 3) := by decide +kernel
theorem dL_law__2199 : decode cL_law_ 2199 = .ok (.iconst 1, 1) := by decide +kernel
theorem dL_law__2200 : decode cL_law_ 2200 = .ok (.goto 4, 3) := by decide +kernel
theorem dL_law__2203 : decode cL_law_ 2203 = .ok (.iconst 0, 1) := by decide +kernel
theorem dL_law__2204 : decode cL_law_ 2204 = .ok (.invokevirtual 264, 3) := by decide +kernel
theorem dL_law__2207 : decode cL_law_ 2207 = .ok (.istore 6, 2) := by decide +kernel
theorem dL_law__2209 : decode cL_law_ 2209 = .ok (.aload_n 2, 1) := by decide +kernel
theorem dL_law__2210 : decode cL_law_ 2210 = .ok (.invokevirtual 126, 3) := by decide +kernel
theorem dL_law__2213 : decode cL_law_ 2213 = .ok (.iload 5, 2) := by decide +kernel
theorem dL_law__2215 : decode cL_law_ 2215 = .ok (.if_icmp .eq 5, 3) := by decide +kernel
theorem dL_law__2218 : decode cL_law_ 2218 = .ok (.iconst 0, 1) := by decide +kernel
theorem dL_law__2219 : decode cL_law_ 2219 = .ok (.ireturn, 1) := by decide +kernel
theorem dL_law__2220 : decode cL_law_ 2220 = .ok (.iload 5, 2) := by decide +kernel
theorem dL_law__2222 : decode cL_law_ 2222 = .ok (.ifCond .ne 15, 3) := by decide +kernel
theorem dL_law__2225 : decode cL_law_ 2225 = .ok (.aload_n 3, 1) := by decide +kernel
theorem dL_law__2226 : decode cL_law_ 2226 = .ok (.iconst 0, 1) := by decide +kernel
theorem dL_law__2227 : decode cL_law_ 2227 = .ok (.laload, 1) := by decide +kernel
theorem dL_law__2228 : decode cL_law_ 2228 = .ok (.iload 6, 2) := by decide +kernel
theorem dL_law__2230 : decode cL_law_ 2230 = .ok (.i2l, 1) := by decide +kernel
theorem dL_law__2231 : decode cL_law_ 2231 = .ok (.lcmp, 1) := by decide +kernel
theorem dL_law__2232 : decode cL_law_ 2232 = .ok (.ifCond .eq 5, 3) := by decide +kernel
theorem dL_law__2235 : decode cL_law_ 2235 = .ok (.iconst 0, 1) := by decide +kernel
theorem dL_law__2236 : decode cL_law_ 2236 = .ok (.ireturn, 1) := by decide +kernel
theorem dL_law__2237 : decode cL_law_ 2237 = .ok (.goto 158, 3) := by decide +kernel
theorem dL_law__2240 : decode cL_law_ 2240 = .ok (.aload_n 1, 1) := by decide +kernel
theorem dL_law__2241 : decode cL_law_ 2241 = .ok (.aload_n 0, 1) := by decide +kernel
theorem dL_law__2242 : decode cL_law_ 2242 = .ok (.iload 4, 2) := by decide +kernel
theorem dL_law__2244 : decode cL_law_ 2244 = .ok (.iconst 1, 1) := by decide +kernel
theorem dL_law__2245 : decode cL_law_ 2245 = .ok (.iadd, 1) := by decide +kernel
theorem dL_law__2246 : decode cL_law_ 2246 = .ok (.iaload, 1) := by decide +kernel
theorem dL_law__2247 : decode cL_law_ 2247 = .ok (.aload_n 0, 1) := by decide +kernel
theorem dL_law__2248 : decode cL_law_ 2248 = .ok (.iload 4, 2) := by decide +kernel
theorem dL_law__2250 : decode cL_law_ 2250 = .ok (.iconst 2, 1) := by decide +kernel
theorem dL_law__2251 : decode cL_law_ 2251 = .ok (.iadd, 1) := by decide +kernel
theorem dL_law__2252 : decode cL_law_ 2252 = .ok (.iaload, 1) := by decide +kernel
theorem dL_law__2253 : decode cL_law_ 2253 = .ok (.aload_n 3, 1) := by decide +kernel
theorem dL_law__2254 : decode cL_law_ 2254 = .ok (.invokestatic 265, 3) := by decide +kernel
theorem dL_law__2257 : decode cL_law_ 2257 = .ok (.istore 5, 2) := by decide +kernel
theorem dL_law__2259 : decode cL_law_ 2259 = .ok (.aload_n 2, 1) := by decide +kernel
theorem dL_law__2260 : decode cL_law_ 2260 = .ok (.aload_n 0, 1) := by decide +kernel
theorem dL_law__2261 : decode cL_law_ 2261 = .ok (.iload 4, 2) := by decide +kernel
theorem dL_law__2263 : decode cL_law_ 2263 = .ok (.iconst 1, 1) := by decide +kernel
theorem dL_law__2264 : decode cL_law_ 2264 = .ok (.iadd, 1) := by decide +kernel
theorem dL_law__2265 : decode cL_law_ 2265 = .ok (.iaload, 1) := by decide +kernel
theorem dL_law__2266 : decode cL_law_ 2266 = .ok (.aload_n 0, 1) := by decide +kernel
theorem dL_law__2267 : decode cL_law_ 2267 = .ok (.iload 4, 2) := by decide +kernel
theorem dL_law__2269 : decode cL_law_ 2269 = .ok (.iconst 2, 1) := by decide +kernel
theorem dL_law__2270 : decode cL_law_ 2270 = .ok (.iadd, 1) := by decide +kernel
theorem dL_law__2271 : decode cL_law_ 2271 = .ok (.iaload, 1) := by decide +kernel
theorem dL_law__2272 : decode cL_law_ 2272 = .ok (.invokevirtual 267, 3) := by decide +kernel
theorem dL_law__2275 : decode cL_law_ 2275 = .ok (.istore 6, 2) := by decide +kernel
theorem dL_law__2277 : decode cL_law_ 2277 = .ok (.aload_n 2, 1) := by decide +kernel
theorem dL_law__2278 : decode cL_law_ 2278 = .ok (.invokevirtual 126, 3) := by decide +kernel
theorem dL_law__2281 : decode cL_law_ 2281 = .ok (.iload 5, 2) := by decide +kernel
theorem dL_law__2283 : decode cL_law_ 2283 = .ok (.if_icmp .eq 5, 3) := by decide +kernel
theorem dL_law__2286 : decode cL_law_ 2286 = .ok (.iconst 0, 1) := by decide +kernel
theorem dL_law__2287 : decode cL_law_ 2287 = .ok (.ireturn, 1) := by decide +kernel
theorem dL_law__2288 : decode cL_law_ 2288 = .ok (.iload 5, 2) := by decide +kernel
theorem dL_law__2290 : decode cL_law_ 2290 = .ok (.ifCond .ne 15, 3) := by decide +kernel
theorem dL_law__2293 : decode cL_law_ 2293 = .ok (.aload_n 3, 1) := by decide +kernel
theorem dL_law__2294 : decode cL_law_ 2294 = .ok (.iconst 0, 1) := by decide +kernel
theorem dL_law__2295 : decode cL_law_ 2295 = .ok (.laload, 1) := by decide +kernel
theorem dL_law__2296 : decode cL_law_ 2296 = .ok (.iload 6, 2) := by decide +kernel
theorem dL_law__2298 : decode cL_law_ 2298 = .ok (.i2l, 1) := by decide +kernel
theorem dL_law__2299 : decode cL_law_ 2299 = .ok (.lcmp, 1) := by decide +kernel
theorem dL_law__2300 : decode cL_law_ 2300 = .ok (.ifCond .eq 5, 3) := by decide +kernel
theorem dL_law__2303 : decode cL_law_ 2303 = .ok (.iconst 0, 1) := by decide +kernel
theorem dL_law__2304 : decode cL_law_ 2304 = .ok (.ireturn, 1) := by decide +kernel
theorem dL_law__2305 : decode cL_law_ 2305 = .ok (.goto 90, 3) := by decide +kernel
theorem dL_law__2308 : decode cL_law_ 2308 = .ok (.aload_n 1, 1) := by decide +kernel
theorem dL_law__2309 : decode cL_law_ 2309 = .ok (.aload_n 0, 1) := by decide +kernel
theorem dL_law__2310 : decode cL_law_ 2310 = .ok (.iload 4, 2) := by decide +kernel
theorem dL_law__2312 : decode cL_law_ 2312 = .ok (.iconst 1, 1) := by decide +kernel
theorem dL_law__2313 : decode cL_law_ 2313 = .ok (.iadd, 1) := by decide +kernel
theorem dL_law__2314 : decode cL_law_ 2314 = .ok (.iaload, 1) := by decide +kernel
theorem dL_law__2315 : decode cL_law_ 2315 = .ok (.invokevirtual 268, 3) := by decide +kernel
theorem dL_law__2318 : decode cL_law_ 2318 = .ok (.aload_n 2, 1) := by decide +kernel
theorem dL_law__2319 : decode cL_law_ 2319 = .ok (.aload_n 0, 1) := by decide +kernel
theorem dL_law__2320 : decode cL_law_ 2320 = .ok (.iload 4, 2) := by decide +kernel
theorem dL_law__2322 : decode cL_law_ 2322 = .ok (.iconst 1, 1) := by decide +kernel
theorem dL_law__2323 : decode cL_law_ 2323 = .ok (.iadd, 1) := by decide +kernel
theorem dL_law__2324 : decode cL_law_ 2324 = .ok (.iaload, 1) := by decide +kernel
theorem dL_law__2325 : decode cL_law_ 2325 = .ok (.invokevirtual 271, 3) := by decide +kernel
theorem dL_law__2328 : decode cL_law_ 2328 = .ok (.if_icmp .eq 67, 3) := by decide +kernel
theorem dL_law__2331 : decode cL_law_ 2331 = .ok (.iconst 0, 1) := by decide +kernel
theorem dL_law__2332 : decode cL_law_ 2332 = .ok (.ireturn, 1) := by decide +kernel
theorem dL_law__2333 : decode cL_law_ 2333 = .ok (.aload_n 1, 1) := by decide +kernel
theorem dL_law__2334 : decode cL_law_ 2334 = .ok (.invokevirtual 272, 3) := by decide +kernel
theorem dL_law__2337 : decode cL_law_ 2337 = .ok (.aload_n 2, 1) := by decide +kernel
theorem dL_law__2338 : decode cL_law_ 2338 = .ok (.invokevirtual 276, 3) := by decide +kernel
theorem dL_law__2341 : decode cL_law_ 2341 = .ok (.if_icmp .eq 54, 3) := by decide +kernel
theorem dL_law__2344 : decode cL_law_ 2344 = .ok (.iconst 0, 1) := by decide +kernel
theorem dL_law__2345 : decode cL_law_ 2345 = .ok (.ireturn, 1) := by decide +kernel
theorem dL_law__2346 : decode cL_law_ 2346 = .ok (.aload_n 1, 1) := by decide +kernel
theorem dL_law__2347 : decode cL_law_ 2347 = .ok (.invokevirtual 277, 3) := by decide +kernel
theorem dL_law__2350 : decode cL_law_ 2350 = .ok (.aload_n 2, 1) := by decide +kernel
theorem dL_law__2351 : decode cL_law_ 2351 = .ok (.invokevirtual 280, 3) := by decide +kernel
theorem dL_law__2354 : decode cL_law_ 2354 = .ok (.goto 41, 3) := by decide +kernel
theorem dL_law__2357 : decode cL_law_ 2357 = .ok (.aload_n 1, 1) := by decide +kernel
theorem dL_law__2358 : decode cL_law_ 2358 = .ok (.invokevirtual 281, 3) := by decide +kernel
theorem dL_law__2361 : decode cL_law_ 2361 = .ok (.aload_n 2, 1) := by decide +kernel
theorem dL_law__2362 : decode cL_law_ 2362 = .ok (.invokevirtual 284, 3) := by decide +kernel
theorem dL_law__2365 : decode cL_law_ 2365 = .ok (.if_icmp .eq 30, 3) := by decide +kernel
theorem dL_law__2368 : decode cL_law_ 2368 = .ok (.iconst 0, 1) := by decide +kernel
theorem dL_law__2369 : decode cL_law_ 2369 = .ok (.ireturn, 1) := by decide +kernel
theorem dL_law__2370 : decode cL_law_ 2370 = .ok (.aload_n 1, 1) := by decide +kernel
theorem dL_law__2371 : decode cL_law_ 2371 = .ok (.aload_n 0, 1) := by decide +kernel
theorem dL_law__2372 : decode cL_law_ 2372 = .ok (.iload 4, 2) := by decide +kernel
theorem dL_law__2374 : decode cL_law_ 2374 = .ok (.iconst 1, 1) := by decide +kernel
theorem dL_law__2375 : decode cL_law_ 2375 = .ok (.iadd, 1) := by decide +kernel
theorem dL_law__2376 : decode cL_law_ 2376 = .ok (.iaload, 1) := by decide +kernel
theorem dL_law__2377 : decode cL_law_ 2377 = .ok (.invokevirtual 285, 3) := by decide +kernel
theorem dL_law__2380 : decode cL_law_ 2380 = .ok (.aload_n 2, 1) := by decide +kernel
theorem dL_law__2381 : decode cL_law_ 2381 = .ok (.aload_n 0, 1) := by decide +kernel
theorem dL_law__2382 : decode cL_law_ 2382 = .ok (.iload 4, 2) := by decide +kernel
theorem dL_law__2384 : decode cL_law_ 2384 = .ok (.iconst 1, 1) := by decide +kernel
theorem dL_law__2385 : decode cL_law_ 2385 = .ok (.iadd, 1) := by decide +kernel
theorem dL_law__2386 : decode cL_law_ 2386 = .ok (.iaload, 1) := by decide +kernel
theorem dL_law__2387 : decode cL_law_ 2387 = .ok (.invokevirtual 288, 3) := by decide +kernel
theorem dL_law__2390 : decode cL_law_ 2390 = .ok (.if_icmp .eq 5, 3) := by decide +kernel
theorem dL_law__2393 : decode cL_law_ 2393 = .ok (.iconst 0, 1) := by decide +kernel
theorem dL_law__2394 : decode cL_law_ 2394 = .ok (.ireturn, 1) := by decide +kernel
theorem dL_law__2395 : decode cL_law_ 2395 = .ok (.iinc 4 6, 3) := by decide +kernel
theorem dL_law__2398 : decode cL_law_ 2398 = .ok (.goto (-2375), 3) := by decide +kernel
theorem dL_law__2401 : decode cL_law_ 2401 = .ok (.iconst 1, 1) := by decide +kernel
theorem dL_law__2402 : decode cL_law_ 2402 = .ok (.ireturn, 1) := by decide +kernel
