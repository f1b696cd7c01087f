theorem dX11_pin_95 : decode cX11_pin 95 = .ok (.iload_n 2, 1) := by decide +kernel
theorem dX11_pin_96 : decode cX11_pin 96 = .ok (.iconst 0, 1) := by decide +kernel
theorem dX11_pin_97 : decode cX11_pin 97 = .ok (.invokevirtual 212, 3) := by decide +kernel
theorem dX11_pin_100 : decode cX11_pin 100 = .ok (.aload_n 0, 1) := by decide +kernel
theorem dX11_pin_101 : decode cX11_pin 101 = .ok (.getfield 54, 3) := by decide +kernel
theorem dX11_pin_104 : decode cX11_pin 104 = .ok (.getfield 216, 3) := by decide +kernel
theorem dX11_pin_107 : decode cX11_pin 107 = .ok (.aload_n 0, 1) := by decide +kernel
theorem dX11_pin_108 : decode cX11_pin 108 = .ok (.getfield 54, 3) := by decide +kernel
theorem dX11_pin_111 : decode cX11_pin 111 = .ok (.getfield 220, 3) := by decide +kernel
theorem dX11_pin_114 : decode cX11_pin 114 = .ok (.iload_n 2, 1) := by decide +kernel
theorem dX11_pin_115 : decode cX11_pin 115 = .ok (.iconst 0, 1) := by decide +kernel
theorem dX11_pin_116 : decode cX11_pin 116 = .ok (.iconst 0, 1) := by decide +kernel
theorem dX11_pin_117 : decode cX11_pin 117 = .ok (.invokevirtual 225, 3) := by decide +kernel
theorem dX11_pin_120 : decode cX11_pin 120 = .ok (.iload_n 2, 1) := by decide +kernel
theorem dX11_pin_121 : decode cX11_pin 121 = .ok (.ireturn, 1) := by decide +kernel
theorem dX11_change_0 : decode cX11_change 0 = .ok (.aload_n 0, 1) := by decide +kernel
theorem dX11_change_1 : decode cX11_change 1 = .ok (.iload_n 1, 1) := by decide +kernel
theorem dX11_change_2 : decode cX11_change 2 = .ok (.invokevirtual 185, 3) := by decide +kernel
theorem dX11_change_5 : decode cX11_change 5 = .ok (.aload_n 0, 1) := by decide +kernel
theorem dX11_change_6 : decode cX11_change 6 = .ok (.getfield 54, 3) := by decide +kernel
theorem dX11_change_9 : decode cX11_change 9 = .ok (.getfield 188, 3) := by decide +kernel
theorem dX11_change_12 : decode cX11_change 12 = .ok (.getfield 192, 3) := by decide +kernel
theorem dX11_change_15 : decode cX11_change 15 = .ok (.iload_n 1, 1) := by decide +kernel
theorem dX11_change_16 : decode cX11_change 16 = .ok (.iaload, 1) := by decide +kernel
theorem dX11_change_17 : decode cX11_change 17 = .ok (.istore_n 2, 1) := by decide +kernel
theorem dX11_change_18 : decode cX11_change 18 = .ok (.aload_n 0, 1) := by decide +kernel
theorem dX11_change_19 : decode cX11_change 19 = .ok (.getfield 54, 3) := by decide +kernel
theorem dX11_change_22 : decode cX11_change 22 = .ok (.iload_n 2, 1) := by decide +kernel
theorem dX11_change_23 : decode cX11_change 23 = .ok (.invokevirtual 148, 3) := by decide +kernel
theorem dX11_change_26 : decode cX11_change 26 = .ok (.ifCond .eq 30, 3) := by decide +kernel
theorem dX11_change_29 : decode cX11_change 29 = .ok (.aload_n 0, 1) := by decide +kernel
theorem dX11_change_30 : decode cX11_change 30 = .ok (.getfield 54, 3) := by decide +kernel
theorem dX11_change_33 : decode cX11_change 33 = .ok (.iload_n 2, 1) := by decide +kernel
theorem dX11_change_34 : decode cX11_change 34 = .ok (.invokevirtual 151, 3) := by decide +kernel
theorem dX11_change_37 : decode cX11_change 37 = .ok (.ifCond .eq 19, 3) := by decide +kernel
theorem dX11_change_40 : decode cX11_change 40 = .ok (.aload_n 0, 1) := by decide +kernel
theorem dX11_change_41 : decode cX11_change 41 = .ok (.getfield 54, 3) := by decide +kernel
theorem dX11_change_44 : decode cX11_change 44 = .ok (.getfield 188, 3) := by decide +kernel
theorem dX11_change_47 : decode cX11_change 47 = .ok (.getfield 200, 3) := by decide +kernel
theorem dX11_change_50 : decode cX11_change 50 = .ok (.iload_n 1, 1) := by decide +kernel
theorem dX11_change_51 : decode cX11_change 51 = .ok (.iaload, 1) := by decide +kernel
theorem dX11_change_52 : decode cX11_change 52 = .ok (.iconst 1, 1) := by decide +kernel
theorem dX11_change_53 : decode cX11_change 53 = .ok (.if_icmp .ge 11, 3) := by decide +kernel
theorem dX11_change_56 : decode cX11_change 56 = .ok (.new 206, 3) := by decide +kernel
theorem dX11_change_59 : decode cX11_change 59 = .ok (.dup, 1) := by decide +kernel
theorem dX11_change_60 : decode cX11_change 60 = .ok (.invokespecial 208, 3) := by decide +kernel
theorem dX11_change_63 : decode cX11_change 63 = .ok (.athrow, 1) := by decide +kernel
theorem dX11_change_64 : decode cX11_change 64 = .ok (.aload_n 0, 1) := by decide +kernel
theorem dX11_change_65 : decode cX11_change 65 = .ok (.getfield 40, 3) := by decide +kernel
theorem dX11_change_68 : decode cX11_change 68 = .ok (.aload_n 0, 1) := by decide +kernel
theorem dX11_change_69 : decode cX11_change 69 = .ok (.getfield 54, 3) := by decide +kernel
theorem dX11_change_72 : decode cX11_change 72 = .ok (.invokevirtual 209, 3) := by decide +kernel
theorem dX11_change_75 : decode cX11_change 75 = .ok (.aload_n 0, 1) := by decide +kernel
theorem dX11_change_76 : decode cX11_change 76 = .ok (.getfield 54, 3) := by decide +kernel
theorem dX11_change_79 : decode cX11_change 79 = .ok (.getfield 154, 3) := by decide +kernel
theorem dX11_change_82 : decode cX11_change 82 = .ok (.iload_n 2, 1) := by decide +kernel
theorem dX11_change_83 : decode cX11_change 83 = .ok (.iaload, 1) := by decide +kernel
theorem dX11_change_84 : decode cX11_change 84 = .ok (.istore_n 3, 1) := by decide +kernel
theorem dX11_change_85 : decode cX11_change 85 = .ok (.aload_n 0, 1) := by decide +kernel
theorem dX11_change_86 : decode cX11_change 86 = .ok (.getfield 54, 3) := by decide +kernel
theorem dX11_change_89 : decode cX11_change 89 = .ok (.getfield 188, 3) := by decide +kernel
theorem dX11_change_92 : decode cX11_change 92 = .ok (.getfield 200, 3) := by decide +kernel
theorem dX11_change_95 : decode cX11_change 95 = .ok (.iload_n 1, 1) := by decide +kernel
theorem dX11_change_96 : decode cX11_change 96 = .ok (.dup2, 1) := by decide +kernel
theorem dX11_change_97 : decode cX11_change 97 = .ok (.iaload, 1) := by decide +kernel
theorem dX11_change_98 : decode cX11_change 98 = .ok (.iconst 1, 1) := by decide +kernel
theorem dX11_change_99 : decode cX11_change 99 = .ok (.isub, 1) := by decide +kernel
theorem dX11_change_100 : decode cX11_change 100 = .ok (.iastore, 1) := by decide +kernel
theorem dX11_change_101 : decode cX11_change 101 = .ok (.aload_n 0, 1) := by decide +kernel
theorem dX11_change_102 : decode cX11_change 102 = .ok (.getfield 54, 3) := by decide +kernel
theorem dX11_change_105 : decode cX11_change 105 = .ok (.iload_n 2, 1) := by decide +kernel
theorem dX11_change_106 : decode cX11_change 106 = .ok (.iconst 0, 1) := by decide +kernel
theorem dX11_change_107 : decode cX11_change 107 = .ok (.invokevirtual 212, 3) := by decide +kernel
theorem dX11_change_110 : decode cX11_change 110 = .ok (.aload_n 0, 1) := by decide +kernel
theorem dX11_change_111 : decode cX11_change 111 = .ok (.getfield 54, 3) := by decide +kernel
theorem dX11_change_114 : decode cX11_change 114 = .ok (.getfield 216, 3) := by decide +kernel
theorem dX11_change_117 : decode cX11_change 117 = .ok (.aload_n 0, 1) := by decide +kernel
theorem dX11_change_118 : decode cX11_change 118 = .ok (.getfield 54, 3) := by decide +kernel
theorem dX11_change_121 : decode cX11_change 121 = .ok (.getfield 220, 3) := by decide +kernel
theorem dX11_change_124 : decode cX11_change 124 = .ok (.iload_n 2, 1) := by decide +kernel
theorem dX11_change_125 : decode cX11_change 125 = .ok (.iconst 1, 1) := by decide +kernel
theorem dX11_change_126 : decode cX11_change 126 = .ok (.iload_n 3, 1) := by decide +kernel
theorem dX11_change_127 : decode cX11_change 127 = .ok (.invokevirtual 225, 3) := by decide +kernel
theorem dX11_change_130 : decode cX11_change 130 = .ok (.iload_n 3, 1) := by decide +kernel
theorem dX11_change_131 : decode cX11_change 131 = .ok (.ireturn, 1) := by decide +kernel
theorem dX11_go_0 : decode cX11_go 0 = .ok (.aload_n 0, 1) := by decide +kernel
theorem dX11_go_1 : decode cX11_go 1 = .ok (.iload_n 1, 1) := by decide +kernel
theorem dX11_go_2 : decode cX11_go 2 = .ok (.invokevirtual 185, 3) := by decide +kernel
theorem dX11_go_5 : decode cX11_go 5 = .ok (.iload_n 2, 1) := by decide +kernel
theorem dX11_go_6 : decode cX11_go 6 = .ok (.invokestatic 136, 3) := by decide +kernel
theorem dX11_go_9 : decode cX11_go 9 = .ok (.aload_n 0, 1) := by decide +kernel
theorem dX11_go_10 : decode cX11_go 10 = .ok (.getfield 54, 3) := by decide +kernel
theorem dX11_go_13 : decode cX11_go 13 = .ok (.getfield 188, 3) := by decide +kernel
theorem dX11_go_16 : decode cX11_go 16 = .ok (.getfield 192, 3) := by decide +kernel
theorem dX11_go_19 : decode cX11_go 19 = .ok (.iload_n 1, 1) := by decide +kernel
theorem dX11_go_20 : decode cX11_go 20 = .ok (.iaload, 1) := by decide +kernel
theorem dX11_go_21 : decode cX11_go 21 = .ok (.iload_n 2, 1) := by decide +kernel
theorem dX11_go_22 : decode cX11_go 22 = .ok (.isub, 1) := by decide +kernel
theorem dX11_go_23 : decode cX11_go 23 = .ok (.invokestatic 228, 3) := by decide +kernel
theorem dX11_go_26 : decode cX11_go 26 = .ok (.istore_n 3, 1) := by decide +kernel
theorem dX11_go_27 : decode cX11_go 27 = .ok (.iload_n 3, 1) := by decide +kernel
theorem dX11_go_28 : decode cX11_go 28 = .ok (.aload_n 0, 1) := by decide +kernel
theorem dX11_go_29 : decode cX11_go 29 = .ok (.getfield 54, 3) := by decide +kernel
theorem dX11_go_32 : decode cX11_go 32 = .ok (.getfield 188, 3) := by decide +kernel
theorem dX11_go_35 : decode cX11_go 35 = .ok (.getfield 197, 3) := by decide +kernel
theorem dX11_go_38 : decode cX11_go 38 = .ok (.iload_n 1, 1) := by decide +kernel
theorem dX11_go_39 : decode cX11_go 39 = .ok (.iaload, 1) := by decide +kernel
theorem dX11_go_40 : decode cX11_go 40 = .ok (.if_icmp .le 11, 3) := by decide +kernel
theorem dX11_go_43 : decode cX11_go 43 = .ok (.new 109, 3) := by decide +kernel
theorem dX11_go_46 : decode cX11_go 46 = .ok (.dup, 1) := by decide +kernel
theorem dX11_go_47 : decode cX11_go 47 = .ok (.invokespecial 111, 3) := by decide +kernel
theorem dX11_go_50 : decode cX11_go 50 = .ok (.athrow, 1) := by decide +kernel
theorem dX11_go_51 : decode cX11_go 51 = .ok (.aload_n 0, 1) := by decide +kernel
theorem dX11_go_52 : decode cX11_go 52 = .ok (.getfield 40, 3) := by decide +kernel
theorem dX11_go_55 : decode cX11_go 55 = .ok (.aload_n 0, 1) := by decide +kernel
theorem dX11_go_56 : decode cX11_go 56 = .ok (.getfield 54, 3) := by decide +kernel
theorem dX11_go_59 : decode cX11_go 59 = .ok (.invokevirtual 209, 3) := by decide +kernel
theorem dX11_go_62 : decode cX11_go 62 = .ok (.aload_n 0, 1) := by decide +kernel
theorem dX11_go_63 : decode cX11_go 63 = .ok (.getfield 54, 3) := by decide +kernel
theorem dX11_go_66 : decode cX11_go 66 = .ok (.getfield 188, 3) := by decide +kernel
theorem dX11_go_69 : decode cX11_go 69 = .ok (.getfield 192, 3) := by decide +kernel
theorem dX11_go_72 : decode cX11_go 72 = .ok (.iload_n 1, 1) := by decide +kernel
theorem dX11_go_73 : decode cX11_go 73 = .ok (.iload_n 2, 1) := by decide +kernel
theorem dX11_go_74 : decode cX11_go 74 = .ok (.iastore, 1) := by decide +kernel
theorem dX11_go_75 : decode cX11_go 75 = .ok (.iload_n 3, 1) := by decide +kernel
theorem dX11_go_76 : decode cX11_go 76 = .ok (.ireturn, 1) := by decide +kernel
theorem dX11_pull_0 : decode cX11_pull 0 = .ok (.iload_n 1, 1) := by decide +kernel
theorem dX11_pull_1 : decode cX11_pull 1 = .ok (.invokestatic 136, 3) := by decide +kernel
theorem dX11_pull_4 : decode cX11_pull 4 = .ok (.aload_n 0, 1) := by decide +kernel
theorem dX11_pull_5 : decode cX11_pull 5 = .ok (.getfield 54, 3) := by decide +kernel
theorem dX11_pull_8 : decode cX11_pull 8 = .ok (.iload_n 1, 1) := by decide +kernel
theorem dX11_pull_9 : decode cX11_pull 9 = .ok (.invokevirtual 151, 3) := by decide +kernel
theorem dX11_pull_12 : decode cX11_pull 12 = .ok (.ifCond .ne 11, 3) := by decide +kernel
theorem dX11_pull_15 : decode cX11_pull 15 = .ok (.new 206, 3) := by decide +kernel
theorem dX11_pull_18 : decode cX11_pull 18 = .ok (.dup, 1) := by decide +kernel
theorem dX11_pull_19 : decode cX11_pull 19 = .ok (.invokespecial 208, 3) := by decide +kernel
theorem dX11_pull_22 : decode cX11_pull 22 = .ok (.athrow, 1) := by decide +kernel
theorem dX11_pull_23 : decode cX11_pull 23 = .ok (.aload_n 0, 1) := by decide +kernel
theorem dX11_pull_24 : decode cX11_pull 24 = .ok (.getfield 40, 3) := by decide +kernel
theorem dX11_pull_27 : decode cX11_pull 27 = .ok (.aload_n 0, 1) := by decide +kernel
theorem dX11_pull_28 : decode cX11_pull 28 = .ok (.getfield 54, 3) := by decide +kernel
theorem dX11_pull_31 : decode cX11_pull 31 = .ok (.invokevirtual 209, 3) := by decide +kernel
theorem dX11_pull_34 : decode cX11_pull 34 = .ok (.aload_n 0, 1) := by decide +kernel
theorem dX11_pull_35 : decode cX11_pull 35 = .ok (.getfield 54, 3) := by decide +kernel
theorem dX11_pull_38 : decode cX11_pull 38 = .ok (.getfield 154, 3) := by decide +kernel
theorem dX11_pull_41 : decode cX11_pull 41 = .ok (.iload_n 1, 1) := by decide +kernel
theorem dX11_pull_42 : decode cX11_pull 42 = .ok (.iaload, 1) := by decide +kernel
theorem dX11_pull_43 : decode cX11_pull 43 = .ok (.istore_n 2, 1) := by decide +kernel
theorem dX11_pull_44 : decode cX11_pull 44 = .ok (.aload_n 0, 1) := by decide +kernel
theorem dX11_pull_45 : decode cX11_pull 45 = .ok (.getfield 54, 3) := by decide +kernel
theorem dX11_pull_48 : decode cX11_pull 48 = .ok (.iload_n 1, 1) := by decide +kernel
theorem dX11_pull_49 : decode cX11_pull 49 = .ok (.invokevirtual 234, 3) := by decide +kernel
theorem dX11_pull_52 : decode cX11_pull 52 = .ok (.aload_n 0, 1) := by decide +kernel
theorem dX11_pull_53 : decode cX11_pull 53 = .ok (.getfield 54, 3) := by decide +kernel
theorem dX11_pull_56 : decode cX11_pull 56 = .ok (.getfield 216, 3) := by decide +kernel
theorem dX11_pull_59 : decode cX11_pull 59 = .ok (.aload_n 0, 1) := by decide +kernel
theorem dX11_pull_60 : decode cX11_pull 60 = .ok (.getfield 54, 3) := by decide +kernel
theorem dX11_pull_63 : decode cX11_pull 63 = .ok (.getfield 220, 3) := by decide +kernel
theorem dX11_pull_66 : decode cX11_pull 66 = .ok (.iload_n 1, 1) := by decide +kernel
theorem dX11_pull_67 : decode cX11_pull 67 = .ok (.iconst 2, 1) := by decide +kernel
theorem dX11_pull_68 : decode cX11_pull 68 = .ok (.iload_n 2, 1) := by decide +kernel
theorem dX11_pull_69 : decode cX11_pull 69 = .ok (.invokevirtual 225, 3) := by decide +kernel
theorem dX11_pull_72 : decode cX11_pull 72 = .ok (.aload_n 0, 1) := by decide +kernel
theorem dX11_pull_73 : decode cX11_pull 73 = .ok (.getfield 54, 3) := by decide +kernel
theorem dX11_pull_76 : decode cX11_pull 76 = .ok (.aload_n 0, 1) := by decide +kernel
theorem dX11_pull_77 : decode cX11_pull 77 = .ok (.getfield 54, 3) := by decide +kernel
theorem dX11_pull_80 : decode cX11_pull 80 = .ok (.getfield 237, 3) := by decide +kernel
theorem dX11_pull_83 : decode cX11_pull 83 = .ok (.iconst 1, 1) := by decide +kernel
theorem dX11_pull_84 : decode cX11_pull 84 = .ok (.iadd, 1) := by decide +kernel
theorem dX11_pull_85 : decode cX11_pull 85 = .ok (.sipush 999, 3) := by decide +kernel
theorem dX11_pull_88 : decode cX11_pull 88 = .ok (.invokestatic 240, 3) := by decide +kernel
theorem dX11_pull_91 : decode cX11_pull 91 = .ok (.putfield 237, 3) := by decide +kernel
theorem dX11_pull_94 : decode cX11_pull 94 = .ok (.iload_n 2, 1) := by decide +kernel
theorem dX11_pull_95 : decode cX11_pull 95 = .ok (.ireturn, 1) := by decide +kernel
theorem dX11_hand_0 : decode cX11_hand 0 = .ok (.aload_n 0, 1) := by decide +kernel
theorem dX11_hand_1 : decode cX11_hand 1 = .ok (.iload_n 1, 1) := by decide +kernel
theorem dX11_hand_2 : decode cX11_hand 2 = .ok (.invokevirtual 185, 3) := by decide +kernel
theorem dX11_hand_5 : decode cX11_hand 5 = .ok (.iload_n 2, 1) := by decide +kernel
theorem dX11_hand_6 : decode cX11_hand 6 = .ok (.iconst 1, 1) := by decide +kernel
theorem dX11_hand_7 : decode cX11_hand 7 = .ok (.bipush 30, 2) := by decide +kernel
theorem dX11_hand_9 : decode cX11_hand 9 = .ok (.invokestatic 244, 3) := by decide +kernel
theorem dX11_hand_12 : decode cX11_hand 12 = .ok (.aload_n 0, 1) := by decide +kernel
theorem dX11_hand_13 : decode cX11_hand 13 = .ok (.getfield 54, 3) := by decide +kernel
theorem dX11_hand_16 : decode cX11_hand 16 = .ok (.getfield 237, 3) := by decide +kernel
theorem dX11_hand_19 : decode cX11_hand 19 = .ok (.iload_n 2, 1) := by decide +kernel
theorem dX11_hand_20 : decode cX11_hand 20 = .ok (.if_icmp .lt 22, 3) := by decide +kernel
theorem dX11_hand_23 : decode cX11_hand 23 = .ok (.aload_n 0, 1) := by decide +kernel
theorem dX11_hand_24 : decode cX11_hand 24 = .ok (.getfield 54, 3) := by decide +kernel
theorem dX11_hand_27 : decode cX11_hand 27 = .ok (.getfield 188, 3) := by decide +kernel
theorem dX11_hand_30 : decode cX11_hand 30 = .ok (.getfield 200, 3) := by decide +kernel
theorem dX11_hand_33 : decode cX11_hand 33 = .ok (.iload_n 1, 1) := by decide +kernel
theorem dX11_hand_34 : decode cX11_hand 34 = .ok (.iaload, 1) := by decide +kernel
theorem dX11_hand_35 : decode cX11_hand 35 = .ok (.iload_n 2, 1) := by decide +kernel
theorem dX11_hand_36 : decode cX11_hand 36 = .ok (.iadd, 1) := by decide +kernel
theorem dX11_hand_37 : decode cX11_hand 37 = .ok (.bipush 30, 2) := by decide +kernel
theorem dX11_hand_39 : decode cX11_hand 39 = .ok (.if_icmp .le 11, 3) := by decide +kernel
theorem dX11_hand_42 : decode cX11_hand 42 = .ok (.new 206, 3) := by decide +kernel
theorem dX11_hand_45 : decode cX11_hand 45 = .ok (.dup, 1) := by decide +kernel
theorem dX11_hand_46 : decode cX11_hand 46 = .ok (.invokespecial 208, 3) := by decide +kernel
theorem dX11_hand_49 : decode cX11_hand 49 = .ok (.athrow, 1) := by decide +kernel
theorem dX11_hand_50 : decode cX11_hand 50 = .ok (.aload_n 0, 1) := by decide +kernel
theorem dX11_hand_51 : decode cX11_hand 51 = .ok (.getfield 40, 3) := by decide +kernel
theorem dX11_hand_54 : decode cX11_hand 54 = .ok (.aload_n 0, 1) := by decide +kernel
theorem dX11_hand_55 : decode cX11_hand 55 = .ok (.getfield 54, 3) := by decide +kernel
theorem dX11_hand_58 : decode cX11_hand 58 = .ok (.invokevirtual 209, 3) := by decide +kernel
theorem dX11_hand_61 : decode cX11_hand 61 = .ok (.aload_n 0, 1) := by decide +kernel
theorem dX11_hand_62 : decode cX11_hand 62 = .ok (.getfield 54, 3) := by decide +kernel
theorem dX11_hand_65 : decode cX11_hand 65 = .ok (.dup, 1) := by decide +kernel
theorem dX11_hand_66 : decode cX11_hand 66 = .ok (.getfield 237, 3) := by decide +kernel
theorem dX11_hand_69 : decode cX11_hand 69 = .ok (.iload_n 2, 1) := by decide +kernel
theorem dX11_hand_70 : decode cX11_hand 70 = .ok (.isub, 1) := by decide +kernel
theorem dX11_hand_71 : decode cX11_hand 71 = .ok (.putfield 237, 3) := by decide +kernel
theorem dX11_hand_74 : decode cX11_hand 74 = .ok (.aload_n 0, 1) := by decide +kernel
theorem dX11_hand_75 : decode cX11_hand 75 = .ok (.getfield 54, 3) := by decide +kernel
theorem dX11_hand_78 : decode cX11_hand 78 = .ok (.getfield 188, 3) := by decide +kernel
theorem dX11_hand_81 : decode cX11_hand 81 = .ok (.getfield 200, 3) := by decide +kernel
theorem dX11_hand_84 : decode cX11_hand 84 = .ok (.iload_n 1, 1) := by decide +kernel
theorem dX11_hand_85 : decode cX11_hand 85 = .ok (.dup2, 1) := by decide +kernel
theorem dX11_hand_86 : decode cX11_hand 86 = .ok (.iaload, 1) := by decide +kernel
theorem dX11_hand_87 : decode cX11_hand 87 = .ok (.iload_n 2, 1) := by decide +kernel
theorem dX11_hand_88 : decode cX11_hand 88 = .ok (.iadd, 1) := by decide +kernel
theorem dX11_hand_89 : decode cX11_hand 89 = .ok (.iastore, 1) := by decide +kernel
theorem dX11_hand_90 : decode cX11_hand 90 = .ok (.aload_n 0, 1) := by decide +kernel
theorem dX11_hand_91 : decode cX11_hand 91 = .ok (.getfield 54, 3) := by decide +kernel
theorem dX11_hand_94 : decode cX11_hand 94 = .ok (.getfield 188, 3) := by decide +kernel
theorem dX11_hand_97 : decode cX11_hand 97 = .ok (.getfield 200, 3) := by decide +kernel
theorem dX11_hand_100 : decode cX11_hand 100 = .ok (.iload_n 1, 1) := by decide +kernel
theorem dX11_hand_101 : decode cX11_hand 101 = .ok (.iaload, 1) := by decide +kernel
theorem dX11_hand_102 : decode cX11_hand 102 = .ok (.ireturn, 1) := by decide +kernel
theorem dX11_fell_0 : decode cX11_fell 0 = .ok (.iload_n 1, 1) := by decide +kernel
theorem dX11_fell_1 : decode cX11_fell 1 = .ok (.invokestatic 136, 3) := by decide +kernel
theorem dX11_fell_4 : decode cX11_fell 4 = .ok (.aload_n 0, 1) := by decide +kernel
theorem dX11_fell_5 : decode cX11_fell 5 = .ok (.getfield 40, 3) := by decide +kernel
theorem dX11_fell_8 : decode cX11_fell 8 = .ok (.aload_n 0, 1) := by decide +kernel
theorem dX11_fell_9 : decode cX11_fell 9 = .ok (.getfield 54, 3) := by decide +kernel
theorem dX11_fell_12 : decode cX11_fell 12 = .ok (.invokevirtual 209, 3) := by decide +kernel
theorem dX11_fell_15 : decode cX11_fell 15 = .ok (.aload_n 0, 1) := by decide +kernel
theorem dX11_fell_16 : decode cX11_fell 16 = .ok (.getfield 54, 3) := by decide +kernel
theorem dX11_fell_19 : decode cX11_fell 19 = .ok (.getfield 145, 3) := by decide +kernel
theorem dX11_fell_22 : decode cX11_fell 22 = .ok (.iload_n 1, 1) := by decide +kernel
theorem dX11_fell_23 : decode cX11_fell 23 = .ok (.iaload, 1) := by decide +kernel
theorem dX11_fell_24 : decode cX11_fell 24 = .ok (.istore_n 2, 1) := by decide +kernel
theorem dX11_fell_25 : decode cX11_fell 25 = .ok (.aload_n 0, 1) := by decide +kernel
theorem dX11_fell_26 : decode cX11_fell 26 = .ok (.getfield 54, 3) := by decide +kernel
theorem dX11_fell_29 : decode cX11_fell 29 = .ok (.getfield 145, 3) := by decide +kernel
theorem dX11_fell_32 : decode cX11_fell 32 = .ok (.iload_n 1, 1) := by decide +kernel
theorem dX11_fell_33 : decode cX11_fell 33 = .ok (.iconst 0, 1) := by decide +kernel
theorem dX11_fell_34 : decode cX11_fell 34 = .ok (.iastore, 1) := by decide +kernel
theorem dX11_fell_35 : decode cX11_fell 35 = .ok (.iload_n 2, 1) := by decide +kernel
theorem dX11_fell_36 : decode cX11_fell 36 = .ok (.ireturn, 1) := by decide +kernel
theorem dX11_height_0 : decode cX11_height 0 = .ok (.iload_n 1, 1) := by decide +kernel
theorem dX11_height_1 : decode cX11_height 1 = .ok (.iconst 1, 1) := by decide +kernel
theorem dX11_height_2 : decode cX11_height 2 = .ok (.bipush 40, 2) := by decide +kernel
theorem dX11_height_4 : decode cX11_height 4 = .ok (.invokestatic 244, 3) := by decide +kernel
theorem dX11_height_7 : decode cX11_height 7 = .ok (.aload_n 0, 1) := by decide +kernel
theorem dX11_height_8 : decode cX11_height 8 = .ok (.getfield 40, 3) := by decide +kernel
theorem dX11_height_11 : decode cX11_height 11 = .ok (.aload_n 0, 1) := by decide +kernel
theorem dX11_height_12 : decode cX11_height 12 = .ok (.getfield 54, 3) := by decide +kernel
theorem dX11_height_15 : decode cX11_height 15 = .ok (.invokevirtual 209, 3) := by decide +kernel
theorem dX11_height_18 : decode cX11_height 18 = .ok (.aload_n 0, 1) := by decide +kernel
theorem dX11_height_19 : decode cX11_height 19 = .ok (.getfield 54, 3) := by decide +kernel
theorem dX11_height_22 : decode cX11_height 22 = .ok (.getfield 169, 3) := by decide +kernel
theorem dX11_height_25 : decode cX11_height 25 = .ok (.istore_n 2, 1) := by decide +kernel
theorem dX11_height_26 : decode cX11_height 26 = .ok (.aload_n 0, 1) := by decide +kernel
theorem dX11_height_27 : decode cX11_height 27 = .ok (.getfield 54, 3) := by decide +kernel
theorem dX11_height_30 : decode cX11_height 30 = .ok (.iload_n 1, 1) := by decide +kernel
theorem dX11_height_31 : decode cX11_height 31 = .ok (.putfield 169, 3) := by decide +kernel
theorem dX11_height_34 : decode cX11_height 34 = .ok (.iload_n 2, 1) := by decide +kernel
theorem dX11_height_35 : decode cX11_height 35 = .ok (.ireturn, 1) := by decide +kernel
theorem dX11_days_0 : decode cX11_days 0 = .ok (.iload_n 1, 1) := by decide +kernel
theorem dX11_days_1 : decode cX11_days 1 = .ok (.iconst 1, 1) := by decide +kernel
theorem dX11_days_2 : decode cX11_days 2 = .ok (.bipush 60, 2) := by decide +kernel
theorem dX11_days_4 : decode cX11_days 4 = .ok (.invokestatic 244, 3) := by decide +kernel
theorem dX11_days_7 : decode cX11_days 7 = .ok (.aload_n 0, 1) := by decide +kernel
theorem dX11_days_8 : decode cX11_days 8 = .ok (.getfield 40, 3) := by decide +kernel
theorem dX11_days_11 : decode cX11_days 11 = .ok (.aload_n 0, 1) := by decide +kernel
theorem dX11_days_12 : decode cX11_days 12 = .ok (.getfield 54, 3) := by decide +kernel
theorem dX11_days_15 : decode cX11_days 15 = .ok (.invokevirtual 209, 3) := by decide +kernel
theorem dX11_days_18 : decode cX11_days 18 = .ok (.aload_n 0, 1) := by decide +kernel
theorem dX11_days_19 : decode cX11_days 19 = .ok (.getfield 19, 3) := by decide +kernel
theorem dX11_days_22 : decode cX11_days 22 = .ok (.aload_n 0, 1) := by decide +kernel
theorem dX11_days_23 : decode cX11_days 23 = .ok (.getfield 54, 3) := by decide +kernel
theorem dX11_days_26 : decode cX11_days 26 = .ok (.iload_n 1, 1) := by decide +kernel
theorem dX11_days_27 : decode cX11_days 27 = .ok (.iconst 1, 1) := by decide +kernel
theorem dX11_days_28 : decode cX11_days 28 = .ok (.invokevirtual 248, 3) := by decide +kernel
theorem dX11_days_31 : decode cX11_days 31 = .ok (.ireturn, 1) := by decide +kernel
theorem dX11_low_0 : decode cX11_low 0 = .ok (.ldc 252, 2) := by decide +kernel
theorem dX11_low_2 : decode cX11_low 2 = .ok (.aload_n 0, 1) := by decide +kernel
theorem dX11_low_3 : decode cX11_low 3 = .ok (.getfield 19, 3) := by decide +kernel
theorem dX11_low_6 : decode cX11_low 6 = .ok (.aload_n 0, 1) := by decide +kernel
theorem dX11_low_7 : decode cX11_low 7 = .ok (.getfield 54, 3) := by decide +kernel
theorem dX11_low_10 : decode cX11_low 10 = .ok (.invokevirtual 179, 3) := by decide +kernel
theorem dX11_low_13 : decode cX11_low 13 = .ok (.iconst (-1), 1) := by decide +kernel
theorem dX11_low_14 : decode cX11_low 14 = .ok (.ixor, 1) := by decide +kernel
theorem dX11_low_15 : decode cX11_low 15 = .ok (.iand, 1) := by decide +kernel
theorem dX11_low_16 : decode cX11_low 16 = .ok (.ireturn, 1) := by decide +kernel
theorem dX11_held_0 : decode cX11_held 0 = .ok (.aload_n 0, 1) := by decide +kernel
theorem dX11_held_1 : decode cX11_held 1 = .ok (.getfield 19, 3) := by decide +kernel
theorem dX11_held_4 : decode cX11_held 4 = .ok (.aload_n 0, 1) := by decide +kernel
theorem dX11_held_5 : decode cX11_held 5 = .ok (.getfield 54, 3) := by decide +kernel
theorem dX11_held_8 : decode cX11_held 8 = .ok (.invokevirtual 161, 3) := by decide +kernel
theorem dX11_held_11 : decode cX11_held 11 = .ok (.ireturn, 1) := by decide +kernel
theorem dX11_gives_0 : decode cX11_gives 0 = .ok (.aload_n 0, 1) := by decide +kernel
theorem dX11_gives_1 : decode cX11_gives 1 = .ok (.getfield 58, 3) := by decide +kernel
theorem dX11_gives_4 : decode cX11_gives 4 = .ok (.aload_n 0, 1) := by decide +kernel
theorem dX11_gives_5 : decode cX11_gives 5 = .ok (.getfield 54, 3) := by decide +kernel
theorem dX11_gives_8 : decode cX11_gives 8 = .ok (.invokevirtual 101, 3) := by decide +kernel
theorem dX11_gives_11 : decode cX11_gives 11 = .ok (.iconst 1, 1) := by decide +kernel
theorem dX11_gives_12 : decode cX11_gives 12 = .ok (.istore_n 2, 1) := by decide +kernel
theorem dX11_gives_13 : decode cX11_gives 13 = .ok (.iload_n 2, 1) := by decide +kernel
theorem dX11_gives_14 : decode cX11_gives 14 = .ok (.bipush 60, 2) := by decide +kernel
theorem dX11_gives_16 : decode cX11_gives 16 = .ok (.if_icmp .gt 36, 3) := by decide +kernel
theorem dX11_gives_19 : decode cX11_gives 19 = .ok (.aload_n 0, 1) := by decide +kernel
theorem dX11_gives_20 : decode cX11_gives 20 = .ok (.getfield 19, 3) := by decide +kernel
theorem dX11_gives_23 : decode cX11_gives 23 = .ok (.aload_n 0, 1) := by decide +kernel
theorem dX11_gives_24 : decode cX11_gives 24 = .ok (.getfield 58, 3) := by decide +kernel
theorem dX11_gives_27 : decode cX11_gives 27 = .ok (.iconst 0, 1) := by decide +kernel
theorem dX11_gives_28 : decode cX11_gives 28 = .ok (.invokevirtual 253, 3) := by decide +kernel
theorem dX11_gives_31 : decode cX11_gives 31 = .ok (.istore_n 3, 1) := by decide +kernel
theorem dX11_gives_32 : decode cX11_gives 32 = .ok (.iload_n 3, 1) := by decide +kernel
theorem dX11_gives_33 : decode cX11_gives 33 = .ok (.ifCond .eq 13, 3) := by decide +kernel
theorem dX11_gives_36 : decode cX11_gives 36 = .ok (.iload_n 1, 1) := by decide +kernel
theorem dX11_gives_37 : decode cX11_gives 37 = .ok (.ifCond .eq 7, 3) := by decide +kernel
theorem dX11_gives_40 : decode cX11_gives 40 = .ok (.iload_n 3, 1) := by decide +kernel
theorem dX11_gives_41 : decode cX11_gives 41 = .ok (.goto 4, 3) := by decide +kernel
theorem dX11_gives_44 : decode cX11_gives 44 = .ok (.iload_n 2, 1) := by decide +kernel
theorem dX11_gives_45 : decode cX11_gives 45 = .ok (.ireturn, 1) := by decide +kernel
theorem dX11_gives_46 : decode cX11_gives 46 = .ok (.iinc 2 1, 3) := by decide +kernel
theorem dX11_gives_49 : decode cX11_gives 49 = .ok (.goto (-36), 3) := by decide +kernel
theorem dX11_gives_52 : decode cX11_gives 52 = .ok (.iload_n 1, 1) := by decide +kernel
theorem dX11_gives_53 : decode cX11_gives 53 = .ok (.ifCond .eq 7, 3) := by decide +kernel
theorem dX11_gives_56 : decode cX11_gives 56 = .ok (.iconst 0, 1) := by decide +kernel
theorem dX11_gives_57 : decode cX11_gives 57 = .ok (.goto 4, 3) := by decide +kernel
theorem dX11_gives_60 : decode cX11_gives 60 = .ok (.iconst (-1), 1) := by decide +kernel
theorem dX11_gives_61 : decode cX11_gives 61 = .ok (.ireturn, 1) := by decide +kernel
theorem dX11_weakest_0 : decode cX11_weakest 0 = .ok (.iconst (-1), 1) := by decide +kernel
theorem dX11_weakest_1 : decode cX11_weakest 1 = .ok (.istore_n 1, 1) := by decide +kernel
theorem dX11_weakest_2 : decode cX11_weakest 2 = .ok (.iconst (-1), 1) := by decide +kernel
theorem dX11_weakest_3 : decode cX11_weakest 3 = .ok (.istore_n 2, 1) := by decide +kernel
theorem dX11_weakest_4 : decode cX11_weakest 4 = .ok (.iconst 0, 1) := by decide +kernel
theorem dX11_weakest_5 : decode cX11_weakest 5 = .ok (.istore_n 3, 1) := by decide +kernel
theorem dX11_weakest_6 : decode cX11_weakest 6 = .ok (.iload_n 3, 1) := by decide +kernel
theorem dX11_weakest_7 : decode cX11_weakest 7 = .ok (.bipush 16, 2) := by decide +kernel
theorem dX11_weakest_9 : decode cX11_weakest 9 = .ok (.if_icmp .ge 55, 3) := by decide +kernel
theorem dX11_weakest_12 : decode cX11_weakest 12 = .ok (.aload_n 0, 1) := by decide +kernel
theorem dX11_weakest_13 : decode cX11_weakest 13 = .ok (.getfield 54, 3) := by decide +kernel
theorem dX11_weakest_16 : decode cX11_weakest 16 = .ok (.iload_n 3, 1) := by decide +kernel
theorem dX11_weakest_17 : decode cX11_weakest 17 = .ok (.invokevirtual 151, 3) := by decide +kernel
theorem dX11_weakest_20 : decode cX11_weakest 20 = .ok (.ifCond .eq 38, 3) := by decide +kernel
theorem dX11_weakest_23 : decode cX11_weakest 23 = .ok (.aload_n 0, 1) := by decide +kernel
theorem dX11_weakest_24 : decode cX11_weakest 24 = .ok (.getfield 54, 3) := by decide +kernel
theorem dX11_weakest_27 : decode cX11_weakest 27 = .ok (.getfield 154, 3) := by decide +kernel
theorem dX11_weakest_30 : decode cX11_weakest 30 = .ok (.iload_n 3, 1) := by decide +kernel
theorem dX11_weakest_31 : decode cX11_weakest 31 = .ok (.iaload, 1) := by decide +kernel
theorem dX11_weakest_32 : decode cX11_weakest 32 = .ok (.aload_n 0, 1) := by decide +kernel
theorem dX11_weakest_33 : decode cX11_weakest 33 = .ok (.getfield 19, 3) := by decide +kernel
theorem dX11_weakest_36 : decode cX11_weakest 36 = .ok (.aload_n 0, 1) := by decide +kernel
theorem dX11_weakest_37 : decode cX11_weakest 37 = .ok (.getfield 54, 3) := by decide +kernel
theorem dX11_weakest_40 : decode cX11_weakest 40 = .ok (.iload_n 3, 1) := by decide +kernel
theorem dX11_weakest_41 : decode cX11_weakest 41 = .ok (.invokevirtual 157, 3) := by decide +kernel
theorem dX11_weakest_44 : decode cX11_weakest 44 = .ok (.iadd, 1) := by decide +kernel
theorem dX11_weakest_45 : decode cX11_weakest 45 = .ok (.istore 4, 2) := by decide +kernel
theorem dX11_weakest_47 : decode cX11_weakest 47 = .ok (.iload 4, 2) := by decide +kernel
theorem dX11_weakest_49 : decode cX11_weakest 49 = .ok (.iload_n 2, 1) := by decide +kernel
theorem dX11_weakest_50 : decode cX11_weakest 50 = .ok (.if_icmp .le 8, 3) := by decide +kernel
theorem dX11_weakest_53 : decode cX11_weakest 53 = .ok (.iload 4, 2) := by decide +kernel
theorem dX11_weakest_55 : decode cX11_weakest 55 = .ok (.istore_n 2, 1) := by decide +kernel
theorem dX11_weakest_56 : decode cX11_weakest 56 = .ok (.iload_n 3, 1) := by decide +kernel
theorem dX11_weakest_57 : decode cX11_weakest 57 = .ok (.istore_n 1, 1) := by decide +kernel
theorem dX11_weakest_58 : decode cX11_weakest 58 = .ok (.iinc 3 1, 3) := by decide +kernel
theorem dX11_weakest_61 : decode cX11_weakest 61 = .ok (.goto (-55), 3) := by decide +kernel
theorem dX11_weakest_64 : decode cX11_weakest 64 = .ok (.iload_n 1, 1) := by decide +kernel
theorem dX11_weakest_65 : decode cX11_weakest 65 = .ok (.ireturn, 1) := by decide +kernel
theorem dX11_key_0 : decode cX11_key 0 = .ok (.aload_n 0, 1) := by decide +kernel
theorem dX11_key_1 : decode cX11_key 1 = .ok (.getfield 19, 3) := by decide +kernel
theorem dX11_key_4 : decode cX11_key 4 = .ok (.aload_n 0, 1) := by decide +kernel
theorem dX11_key_5 : decode cX11_key 5 = .ok (.getfield 54, 3) := by decide +kernel
theorem dX11_key_8 : decode cX11_key 8 = .ok (.invokevirtual 179, 3) := by decide +kernel
theorem dX11_key_11 : decode cX11_key 11 = .ok (.invokestatic 257, 3) := by decide +kernel
theorem dX11_key_14 : decode cX11_key 14 = .ok (.istore_n 1, 1) := by decide +kernel
theorem dX11_key_15 : decode cX11_key 15 = .ok (.iconst 0, 1) := by decide +kernel
theorem dX11_key_16 : decode cX11_key 16 = .ok (.istore_n 2, 1) := by decide +kernel
theorem dX11_key_17 : decode cX11_key 17 = .ok (.iconst 0, 1) := by decide +kernel
theorem dX11_key_18 : decode cX11_key 18 = .ok (.istore_n 3, 1) := by decide +kernel
theorem dX11_key_19 : decode cX11_key 19 = .ok (.iload_n 3, 1) := by decide +kernel
theorem dX11_key_20 : decode cX11_key 20 = .ok (.bipush 16, 2) := by decide +kernel
theorem dX11_key_22 : decode cX11_key 22 = .ok (.if_icmp .ge 38, 3) := by decide +kernel
theorem dX11_key_25 : decode cX11_key 25 = .ok (.aload_n 0, 1) := by decide +kernel
theorem dX11_key_26 : decode cX11_key 26 = .ok (.getfield 54, 3) := by decide +kernel
theorem dX11_key_29 : decode cX11_key 29 = .ok (.iload_n 3, 1) := by decide +kernel
theorem dX11_key_30 : decode cX11_key 30 = .ok (.invokevirtual 151, 3) := by decide +kernel
theorem dX11_key_33 : decode cX11_key 33 = .ok (.ifCond .eq 21, 3) := by decide +kernel
theorem dX11_key_36 : decode cX11_key 36 = .ok (.aload_n 0, 1) := by decide +kernel
theorem dX11_key_37 : decode cX11_key 37 = .ok (.iload_n 3, 1) := by decide +kernel
theorem dX11_key_38 : decode cX11_key 38 = .ok (.invokevirtual 262, 3) := by decide +kernel
theorem dX11_key_41 : decode cX11_key 41 = .ok (.invokestatic 257, 3) := by decide +kernel
theorem dX11_key_44 : decode cX11_key 44 = .ok (.iload_n 1, 1) := by decide +kernel
theorem dX11_key_45 : decode cX11_key 45 = .ok (.if_icmp .ge 9, 3) := by decide +kernel
theorem dX11_key_48 : decode cX11_key 48 = .ok (.iload_n 2, 1) := by decide +kernel
theorem dX11_key_49 : decode cX11_key 49 = .ok (.iconst 1, 1) := by decide +kernel
theorem dX11_key_50 : decode cX11_key 50 = .ok (.iload_n 3, 1) := by decide +kernel
theorem dX11_key_51 : decode cX11_key 51 = .ok (.ishl, 1) := by decide +kernel
theorem dX11_key_52 : decode cX11_key 52 = .ok (.ior, 1) := by decide +kernel
theorem dX11_key_53 : decode cX11_key 53 = .ok (.istore_n 2, 1) := by decide +kernel
theorem dX11_key_54 : decode cX11_key 54 = .ok (.iinc 3 1, 3) := by decide +kernel
theorem dX11_key_57 : decode cX11_key 57 = .ok (.goto (-38), 3) := by decide +kernel
theorem dX11_key_60 : decode cX11_key 60 = .ok (.iload_n 2, 1) := by decide +kernel
theorem dX11_key_61 : decode cX11_key 61 = .ok (.ireturn, 1) := by decide +kernel
theorem dX11_fewest_0 : decode cX11_fewest 0 = .ok (.iload_n 1, 1) := by decide +kernel
theorem dX11_fewest_1 : decode cX11_fewest 1 = .ok (.ldc 252, 2) := by decide +kernel
theorem dX11_fewest_3 : decode cX11_fewest 3 = .ok (.iand, 1) := by decide +kernel
theorem dX11_fewest_4 : decode cX11_fewest 4 = .ok (.istore_n 2, 1) := by decide +kernel
theorem dX11_fewest_5 : decode cX11_fewest 5 = .ok (.iload_n 2, 1) := by decide +kernel
theorem dX11_fewest_6 : decode cX11_fewest 6 = .ok (.aload_n 0, 1) := by decide +kernel
theorem dX11_fewest_7 : decode cX11_fewest 7 = .ok (.getfield 19, 3) := by decide +kernel
theorem dX11_fewest_10 : decode cX11_fewest 10 = .ok (.aload_n 0, 1) := by decide +kernel
theorem dX11_fewest_11 : decode cX11_fewest 11 = .ok (.getfield 54, 3) := by decide +kernel
theorem dX11_fewest_14 : decode cX11_fewest 14 = .ok (.invokevirtual 179, 3) := by decide +kernel
theorem dX11_fewest_17 : decode cX11_fewest 17 = .ok (.iconst (-1), 1) := by decide +kernel
theorem dX11_fewest_18 : decode cX11_fewest 18 = .ok (.ixor, 1) := by decide +kernel
theorem dX11_fewest_19 : decode cX11_fewest 19 = .ok (.iand, 1) := by decide +kernel
theorem dX11_fewest_20 : decode cX11_fewest 20 = .ok (.ifCond .ne 5, 3) := by decide +kernel
theorem dX11_fewest_23 : decode cX11_fewest 23 = .ok (.iconst 0, 1) := by decide +kernel
theorem dX11_fewest_24 : decode cX11_fewest 24 = .ok (.ireturn, 1) := by decide +kernel
theorem dX11_fewest_25 : decode cX11_fewest 25 = .ok (.aload_n 0, 1) := by decide +kernel
theorem dX11_fewest_26 : decode cX11_fewest 26 = .ok (.getfield 54, 3) := by decide +kernel
theorem dX11_fewest_29 : decode cX11_fewest 29 = .ok (.invokevirtual 265, 3) := by decide +kernel
theorem dX11_fewest_32 : decode cX11_fewest 32 = .ok (.istore_n 3, 1) := by decide +kernel
theorem dX11_fewest_33 : decode cX11_fewest 33 = .ok (.iconst 1, 1) := by decide +kernel
theorem dX11_fewest_34 : decode cX11_fewest 34 = .ok (.istore 4, 2) := by decide +kernel
theorem dX11_fewest_36 : decode cX11_fewest 36 = .ok (.iload 4, 2) := by decide +kernel
theorem dX11_fewest_38 : decode cX11_fewest 38 = .ok (.iconst 4, 1) := by decide +kernel
theorem dX11_fewest_39 : decode cX11_fewest 39 = .ok (.if_icmp .gt 28, 3) := by decide +kernel
theorem dX11_fewest_42 : decode cX11_fewest 42 = .ok (.aload_n 0, 1) := by decide +kernel
theorem dX11_fewest_43 : decode cX11_fewest 43 = .ok (.iload 4, 2) := by decide +kernel
theorem dX11_fewest_45 : decode cX11_fewest 45 = .ok (.iload_n 3, 1) := by decide +kernel
theorem dX11_fewest_46 : decode cX11_fewest 46 = .ok (.iload_n 2, 1) := by decide +kernel
theorem dX11_fewest_47 : decode cX11_fewest 47 = .ok (.invokevirtual 269, 3) := by decide +kernel
theorem dX11_fewest_50 : decode cX11_fewest 50 = .ok (.istore 5, 2) := by decide +kernel
theorem dX11_fewest_52 : decode cX11_fewest 52 = .ok (.iload 5, 2) := by decide +kernel
theorem dX11_fewest_54 : decode cX11_fewest 54 = .ok (.iconst (-1), 1) := by decide +kernel
theorem dX11_fewest_55 : decode cX11_fewest 55 = .ok (.if_icmp .eq 6, 3) := by decide +kernel
theorem dX11_fewest_58 : decode cX11_fewest 58 = .ok (.iload 5, 2) := by decide +kernel
theorem dX11_fewest_60 : decode cX11_fewest 60 = .ok (.ireturn, 1) := by decide +kernel
theorem dX11_fewest_61 : decode cX11_fewest 61 = .ok (.iinc 4 1, 3) := by decide +kernel
theorem dX11_fewest_64 : decode cX11_fewest 64 = .ok (.goto (-28), 3) := by decide +kernel
theorem dX11_fewest_67 : decode cX11_fewest 67 = .ok (.iconst (-1), 1) := by decide +kernel
theorem dX11_fewest_68 : decode cX11_fewest 68 = .ok (.ireturn, 1) := by decide +kernel
theorem dX11_first_0 : decode cX11_first 0 = .ok (.aload_n 0, 1) := by decide +kernel
theorem dX11_first_1 : decode cX11_first 1 = .ok (.getfield 19, 3) := by decide +kernel
theorem dX11_first_4 : decode cX11_first 4 = .ok (.invokevirtual 273, 3) := by decide +kernel
theorem dX11_first_7 : decode cX11_first 7 = .ok (.aload_n 0, 1) := by decide +kernel
theorem dX11_first_8 : decode cX11_first 8 = .ok (.getfield 54, 3) := by decide +kernel
theorem dX11_first_11 : decode cX11_first 11 = .ok (.invokevirtual 265, 3) := by decide +kernel
theorem dX11_first_14 : decode cX11_first 14 = .ok (.istore_n 1, 1) := by decide +kernel
theorem dX11_first_15 : decode cX11_first 15 = .ok (.iconst (-1), 1) := by decide +kernel
theorem dX11_first_16 : decode cX11_first 16 = .ok (.istore_n 2, 1) := by decide +kernel
theorem dX11_first_17 : decode cX11_first 17 = .ok (.iconst (-1), 1) := by decide +kernel
theorem dX11_first_18 : decode cX11_first 18 = .ok (.istore_n 3, 1) := by decide +kernel
theorem dX11_first_19 : decode cX11_first 19 = .ok (.iconst 0, 1) := by decide +kernel
theorem dX11_first_20 : decode cX11_first 20 = .ok (.istore 4, 2) := by decide +kernel
theorem dX11_first_22 : decode cX11_first 22 = .ok (.iload 4, 2) := by decide +kernel
theorem dX11_first_24 : decode cX11_first 24 = .ok (.bipush 16, 2) := by decide +kernel
theorem dX11_first_26 : decode cX11_first 26 = .ok (.if_icmp .ge 58, 3) := by decide +kernel
theorem dX11_first_29 : decode cX11_first 29 = .ok (.iload_n 1, 1) := by decide +kernel
theorem dX11_first_30 : decode cX11_first 30 = .ok (.iload 4, 2) := by decide +kernel
theorem dX11_first_32 : decode cX11_first 32 = .ok (.invokestatic 165, 3) := by decide +kernel
theorem dX11_first_35 : decode cX11_first 35 = .ok (.ifCond .eq 43, 3) := by decide +kernel
theorem dX11_first_38 : decode cX11_first 38 = .ok (.aload_n 0, 1) := by decide +kernel
theorem dX11_first_39 : decode cX11_first 39 = .ok (.getfield 19, 3) := by decide +kernel
theorem dX11_first_42 : decode cX11_first 42 = .ok (.aload_n 0, 1) := by decide +kernel
theorem dX11_first_43 : decode cX11_first 43 = .ok (.getfield 54, 3) := by decide +kernel
theorem dX11_first_46 : decode cX11_first 46 = .ok (.aload_n 0, 1) := by decide +kernel
theorem dX11_first_47 : decode cX11_first 47 = .ok (.getfield 54, 3) := by decide +kernel
theorem dX11_first_50 : decode cX11_first 50 = .ok (.getfield 276, 3) := by decide +kernel
theorem dX11_first_53 : decode cX11_first 53 = .ok (.iconst 1, 1) := by decide +kernel
theorem dX11_first_54 : decode cX11_first 54 = .ok (.iload 4, 2) := by decide +kernel
theorem dX11_first_56 : decode cX11_first 56 = .ok (.ishl, 1) := by decide +kernel
theorem dX11_first_57 : decode cX11_first 57 = .ok (.ior, 1) := by decide +kernel
theorem dX11_first_58 : decode cX11_first 58 = .ok (.invokevirtual 279, 3) := by decide +kernel
theorem dX11_first_61 : decode cX11_first 61 = .ok (.invokestatic 257, 3) := by decide +kernel
theorem dX11_first_64 : decode cX11_first 64 = .ok (.istore 5, 2) := by decide +kernel
theorem dX11_first_66 : decode cX11_first 66 = .ok (.iload 5, 2) := by decide +kernel
theorem dX11_first_68 : decode cX11_first 68 = .ok (.iload_n 3, 1) := by decide +kernel
theorem dX11_first_69 : decode cX11_first 69 = .ok (.if_icmp .le 9, 3) := by decide +kernel
theorem dX11_first_72 : decode cX11_first 72 = .ok (.iload 5, 2) := by decide +kernel
theorem dX11_first_74 : decode cX11_first 74 = .ok (.istore_n 3, 1) := by decide +kernel
theorem dX11_first_75 : decode cX11_first 75 = .ok (.iload 4, 2) := by decide +kernel
theorem dX11_first_77 : decode cX11_first 77 = .ok (.istore_n 2, 1) := by decide +kernel
theorem dX11_first_78 : decode cX11_first 78 = .ok (.iinc 4 1, 3) := by decide +kernel
theorem dX11_first_81 : decode cX11_first 81 = .ok (.goto (-59), 3) := by decide +kernel
theorem dX11_first_84 : decode cX11_first 84 = .ok (.iload_n 2, 1) := by decide +kernel
theorem dX11_first_85 : decode cX11_first 85 = .ok (.ireturn, 1) := by decide +kernel
theorem dX11_spare_0 : decode cX11_spare 0 = .ok (.aload_n 0, 1) := by decide +kernel
theorem dX11_spare_1 : decode cX11_spare 1 = .ok (.getfield 19, 3) := by decide +kernel
theorem dX11_spare_4 : decode cX11_spare 4 = .ok (.aload_n 0, 1) := by decide +kernel
theorem dX11_spare_5 : decode cX11_spare 5 = .ok (.getfield 54, 3) := by decide +kernel
theorem dX11_spare_8 : decode cX11_spare 8 = .ok (.invokevirtual 179, 3) := by decide +kernel
theorem dX11_spare_11 : decode cX11_spare 11 = .ok (.istore_n 1, 1) := by decide +kernel
theorem dX11_spare_12 : decode cX11_spare 12 = .ok (.iconst 0, 1) := by decide +kernel
theorem dX11_spare_13 : decode cX11_spare 13 = .ok (.istore_n 2, 1) := by decide +kernel
theorem dX11_spare_14 : decode cX11_spare 14 = .ok (.iconst 0, 1) := by decide +kernel
theorem dX11_spare_15 : decode cX11_spare 15 = .ok (.istore_n 3, 1) := by decide +kernel
theorem dX11_spare_16 : decode cX11_spare 16 = .ok (.iload_n 3, 1) := by decide +kernel
theorem dX11_spare_17 : decode cX11_spare 17 = .ok (.bipush 16, 2) := by decide +kernel
theorem dX11_spare_19 : decode cX11_spare 19 = .ok (.if_icmp .ge 38, 3) := by decide +kernel
theorem dX11_spare_22 : decode cX11_spare 22 = .ok (.aload_n 0, 1) := by decide +kernel
theorem dX11_spare_23 : decode cX11_spare 23 = .ok (.getfield 54, 3) := by decide +kernel
theorem dX11_spare_26 : decode cX11_spare 26 = .ok (.iload_n 3, 1) := by decide +kernel
theorem dX11_spare_27 : decode cX11_spare 27 = .ok (.invokevirtual 151, 3) := by decide +kernel
theorem dX11_spare_30 : decode cX11_spare 30 = .ok (.ifCond .eq 21, 3) := by decide +kernel
theorem dX11_spare_33 : decode cX11_spare 33 = .ok (.iload_n 1, 1) := by decide +kernel
theorem dX11_spare_34 : decode cX11_spare 34 = .ok (.aload_n 0, 1) := by decide +kernel
theorem dX11_spare_35 : decode cX11_spare 35 = .ok (.iload_n 3, 1) := by decide +kernel
theorem dX11_spare_36 : decode cX11_spare 36 = .ok (.invokevirtual 262, 3) := by decide +kernel
theorem dX11_spare_39 : decode cX11_spare 39 = .ok (.iconst (-1), 1) := by decide +kernel
theorem dX11_spare_40 : decode cX11_spare 40 = .ok (.ixor, 1) := by decide +kernel
theorem dX11_spare_41 : decode cX11_spare 41 = .ok (.iand, 1) := by decide +kernel
theorem dX11_spare_42 : decode cX11_spare 42 = .ok (.ifCond .ne 9, 3) := by decide +kernel
theorem dX11_spare_45 : decode cX11_spare 45 = .ok (.iload_n 2, 1) := by decide +kernel
theorem dX11_spare_46 : decode cX11_spare 46 = .ok (.iconst 1, 1) := by decide +kernel
theorem dX11_spare_47 : decode cX11_spare 47 = .ok (.iload_n 3, 1) := by decide +kernel
theorem dX11_spare_48 : decode cX11_spare 48 = .ok (.ishl, 1) := by decide +kernel
theorem dX11_spare_49 : decode cX11_spare 49 = .ok (.ior, 1) := by decide +kernel
theorem dX11_spare_50 : decode cX11_spare 50 = .ok (.istore_n 2, 1) := by decide +kernel
theorem dX11_spare_51 : decode cX11_spare 51 = .ok (.iinc 3 1, 3) := by decide +kernel
theorem dX11_spare_54 : decode cX11_spare 54 = .ok (.goto (-38), 3) := by decide +kernel
theorem dX11_spare_57 : decode cX11_spare 57 = .ok (.iload_n 2, 1) := by decide +kernel
theorem dX11_spare_58 : decode cX11_spare 58 = .ok (.ireturn, 1) := by decide +kernel
theorem dX11_round_0 : decode cX11_round 0 = .ok (.aload_n 0, 1) := by decide +kernel
theorem dX11_round_1 : decode cX11_round 1 = .ok (.iload_n 1, 1) := by decide +kernel
theorem dX11_round_2 : decode cX11_round 2 = .ok (.invokevirtual 185, 3) := by decide +kernel
theorem dX11_round_5 : decode cX11_round 5 = .ok (.aload_n 0, 1) := by decide +kernel
theorem dX11_round_6 : decode cX11_round 6 = .ok (.getfield 54, 3) := by decide +kernel
theorem dX11_round_9 : decode cX11_round 9 = .ok (.getfield 188, 3) := by decide +kernel
theorem dX11_round_12 : decode cX11_round 12 = .ok (.getfield 192, 3) := by decide +kernel
theorem dX11_round_15 : decode cX11_round 15 = .ok (.iload_n 1, 1) := by decide +kernel
theorem dX11_round_16 : decode cX11_round 16 = .ok (.iaload, 1) := by decide +kernel
theorem dX11_round_17 : decode cX11_round 17 = .ok (.istore 4, 2) := by decide +kernel
theorem dX11_round_19 : decode cX11_round 19 = .ok (.iload_n 2, 1) := by decide +kernel
theorem dX11_round_20 : decode cX11_round 20 = .ok (.ldc 252, 2) := by decide +kernel
theorem dX11_round_22 : decode cX11_round 22 = .ok (.iand, 1) := by decide +kernel
theorem dX11_round_23 : decode cX11_round 23 = .ok (.iconst 1, 1) := by decide +kernel
theorem dX11_round_24 : decode cX11_round 24 = .ok (.iload 4, 2) := by decide +kernel
theorem dX11_round_26 : decode cX11_round 26 = .ok (.ishl, 1) := by decide +kernel
theorem dX11_round_27 : decode cX11_round 27 = .ok (.ior, 1) := by decide +kernel
theorem dX11_round_28 : decode cX11_round 28 = .ok (.istore 5, 2) := by decide +kernel
theorem dX11_round_30 : decode cX11_round 30 = .ok (.iload 5, 2) := by decide +kernel
theorem dX11_round_32 : decode cX11_round 32 = .ok (.invokestatic 282, 3) := by decide +kernel
theorem dX11_round_35 : decode cX11_round 35 = .ok (.istore 6, 2) := by decide +kernel
theorem dX11_round_37 : decode cX11_round 37 = .ok (.bipush 31, 2) := by decide +kernel
theorem dX11_round_39 : decode cX11_round 39 = .ok (.iload 5, 2) := by decide +kernel
theorem dX11_round_41 : decode cX11_round 41 = .ok (.invokestatic 285, 3) := by decide +kernel
theorem dX11_round_44 : decode cX11_round 44 = .ok (.isub, 1) := by decide +kernel
theorem dX11_round_45 : decode cX11_round 45 = .ok (.istore 7, 2) := by decide +kernel
theorem dX11_round_47 : decode cX11_round 47 = .ok (.iload 4, 2) := by decide +kernel
theorem dX11_round_49 : decode cX11_round 49 = .ok (.iload 6, 2) := by decide +kernel
theorem dX11_round_51 : decode cX11_round 51 = .ok (.isub, 1) := by decide +kernel
theorem dX11_round_52 : decode cX11_round 52 = .ok (.istore 8, 2) := by decide +kernel
theorem dX11_round_54 : decode cX11_round 54 = .ok (.iload 7, 2) := by decide +kernel
theorem dX11_round_56 : decode cX11_round 56 = .ok (.iload 4, 2) := by decide +kernel
theorem dX11_round_58 : decode cX11_round 58 = .ok (.isub, 1) := by decide +kernel
theorem dX11_round_59 : decode cX11_round 59 = .ok (.istore 9, 2) := by decide +kernel
theorem dX11_round_61 : decode cX11_round 61 = .ok (.iload_n 3, 1) := by decide +kernel
theorem dX11_round_62 : decode cX11_round 62 = .ok (.ifCond .ne 17, 3) := by decide +kernel
theorem dX11_round_65 : decode cX11_round 65 = .ok (.iload 8, 2) := by decide +kernel
theorem dX11_round_67 : decode cX11_round 67 = .ok (.iload 9, 2) := by decide +kernel
theorem dX11_round_69 : decode cX11_round 69 = .ok (.iadd, 1) := by decide +kernel
theorem dX11_round_70 : decode cX11_round 70 = .ok (.iload 8, 2) := by decide +kernel
theorem dX11_round_72 : decode cX11_round 72 = .ok (.iload 9, 2) := by decide +kernel
theorem dX11_round_74 : decode cX11_round 74 = .ok (.invokestatic 240, 3) := by decide +kernel
theorem dX11_round_77 : decode cX11_round 77 = .ok (.iadd, 1) := by decide +kernel
theorem dX11_round_78 : decode cX11_round 78 = .ok (.ireturn, 1) := by decide +kernel
theorem dX11_round_79 : decode cX11_round 79 = .ok (.iload 8, 2) := by decide +kernel
theorem dX11_round_81 : decode cX11_round 81 = .ok (.iload 9, 2) := by decide +kernel
theorem dX11_round_83 : decode cX11_round 83 = .ok (.if_icmp .lt 8, 3) := by decide +kernel
theorem dX11_round_86 : decode cX11_round 86 = .ok (.iload 6, 2) := by decide +kernel
theorem dX11_round_88 : decode cX11_round 88 = .ok (.goto 5, 3) := by decide +kernel
theorem dX11_round_91 : decode cX11_round 91 = .ok (.iload 7, 2) := by decide +kernel
theorem dX11_round_93 : decode cX11_round 93 = .ok (.ireturn, 1) := by decide +kernel
theorem dX11_goes_0 : decode cX11_goes 0 = .ok (.aload_n 0, 1) := by decide +kernel
theorem dX11_goes_1 : decode cX11_goes 1 = .ok (.getfield 10, 3) := by decide +kernel
theorem dX11_goes_4 : decode cX11_goes 4 = .ok (.invokevirtual 288, 3) := by decide +kernel
theorem dX11_goes_7 : decode cX11_goes 7 = .ok (.iload_n 1, 1) := by decide +kernel
theorem dX11_goes_8 : decode cX11_goes 8 = .ok (.iconst (-1), 1) := by decide +kernel
theorem dX11_goes_9 : decode cX11_goes 9 = .ok (.if_icmp .eq 8, 3) := by decide +kernel
theorem dX11_goes_12 : decode cX11_goes 12 = .ok (.aload_n 0, 1) := by decide +kernel
theorem dX11_goes_13 : decode cX11_goes 13 = .ok (.iload_n 1, 1) := by decide +kernel
theorem dX11_goes_14 : decode cX11_goes 14 = .ok (.invokevirtual 185, 3) := by decide +kernel
theorem dX11_goes_17 : decode cX11_goes 17 = .ok (.aload_n 0, 1) := by decide +kernel
theorem dX11_goes_18 : decode cX11_goes 18 = .ok (.getfield 47, 3) := by decide +kernel
theorem dX11_goes_21 : decode cX11_goes 21 = .ok (.aload_n 0, 1) := by decide +kernel
theorem dX11_goes_22 : decode cX11_goes 22 = .ok (.getfield 10, 3) := by decide +kernel
theorem dX11_goes_25 : decode cX11_goes 25 = .ok (.aload_n 0, 1) := by decide +kernel
theorem dX11_goes_26 : decode cX11_goes 26 = .ok (.getfield 54, 3) := by decide +kernel
theorem dX11_goes_29 : decode cX11_goes 29 = .ok (.getfield 188, 3) := by decide +kernel
theorem dX11_goes_32 : decode cX11_goes 32 = .ok (.invokevirtual 291, 3) := by decide +kernel
theorem dX11_goes_35 : decode cX11_goes 35 = .ok (.ifCond .ne 11, 3) := by decide +kernel
theorem dX11_goes_38 : decode cX11_goes 38 = .ok (.new 109, 3) := by decide +kernel
theorem dX11_goes_41 : decode cX11_goes 41 = .ok (.dup, 1) := by decide +kernel
theorem dX11_goes_42 : decode cX11_goes 42 = .ok (.invokespecial 111, 3) := by decide +kernel
theorem dX11_goes_45 : decode cX11_goes 45 = .ok (.athrow, 1) := by decide +kernel
theorem dX11_goes_46 : decode cX11_goes 46 = .ok (.aload_n 0, 1) := by decide +kernel
theorem dX11_goes_47 : decode cX11_goes 47 = .ok (.getfield 47, 3) := by decide +kernel
theorem dX11_goes_50 : decode cX11_goes 50 = .ok (.aload_n 0, 1) := by decide +kernel
theorem dX11_goes_51 : decode cX11_goes 51 = .ok (.getfield 54, 3) := by decide +kernel
theorem dX11_goes_54 : decode cX11_goes 54 = .ok (.getfield 188, 3) := by decide +kernel
theorem dX11_goes_57 : decode cX11_goes 57 = .ok (.invokevirtual 295, 3) := by decide +kernel
theorem dX11_goes_60 : decode cX11_goes 60 = .ok (.iload_n 1, 1) := by decide +kernel
theorem dX11_goes_61 : decode cX11_goes 61 = .ok (.iconst (-1), 1) := by decide +kernel
theorem dX11_goes_62 : decode cX11_goes 62 = .ok (.if_icmp .ne 13, 3) := by decide +kernel
theorem dX11_goes_65 : decode cX11_goes 65 = .ok (.aload_n 0, 1) := by decide +kernel
theorem dX11_goes_66 : decode cX11_goes 66 = .ok (.getfield 47, 3) := by decide +kernel
theorem dX11_goes_69 : decode cX11_goes 69 = .ok (.getfield 299, 3) := by decide +kernel
theorem dX11_goes_72 : decode cX11_goes 72 = .ok (.goto 12, 3) := by decide +kernel
theorem dX11_goes_75 : decode cX11_goes 75 = .ok (.aload_n 0, 1) := by decide +kernel
theorem dX11_goes_76 : decode cX11_goes 76 = .ok (.getfield 47, 3) := by decide +kernel
theorem dX11_goes_79 : decode cX11_goes 79 = .ok (.getfield 302, 3) := by decide +kernel
theorem dX11_goes_82 : decode cX11_goes 82 = .ok (.iload_n 1, 1) := by decide +kernel
theorem dX11_goes_83 : decode cX11_goes 83 = .ok (.iaload, 1) := by decide +kernel
theorem dX11_goes_84 : decode cX11_goes 84 = .ok (.ireturn, 1) := by decide +kernel
theorem dX11_before_0 : decode cX11_before 0 = .ok (.iload_n 1, 1) := by decide +kernel
theorem dX11_before_1 : decode cX11_before 1 = .ok (.iconst 0, 1) := by decide +kernel
theorem dX11_before_2 : decode cX11_before 2 = .ok (.bipush 20, 2) := by decide +kernel
theorem dX11_before_4 : decode cX11_before 4 = .ok (.invokestatic 244, 3) := by decide +kernel
theorem dX11_before_7 : decode cX11_before 7 = .ok (.iconst 0, 1) := by decide +kernel
theorem dX11_before_8 : decode cX11_before 8 = .ok (.istore_n 2, 1) := by decide +kernel
theorem dX11_before_9 : decode cX11_before 9 = .ok (.iconst 0, 1) := by decide +kernel
theorem dX11_before_10 : decode cX11_before 10 = .ok (.istore_n 3, 1) := by decide +kernel
theorem dX11_before_11 : decode cX11_before 11 = .ok (.iload_n 3, 1) := by decide +kernel
theorem dX11_before_12 : decode cX11_before 12 = .ok (.bipush 16, 2) := by decide +kernel
theorem dX11_before_14 : decode cX11_before 14 = .ok (.if_icmp .ge 75, 3) := by decide +kernel
theorem dX11_before_17 : decode cX11_before 17 = .ok (.iconst 0, 1) := by decide +kernel
theorem dX11_before_18 : decode cX11_before 18 = .ok (.istore 4, 2) := by decide +kernel
theorem dX11_before_20 : decode cX11_before 20 = .ok (.iload 4, 2) := by decide +kernel
theorem dX11_before_22 : decode cX11_before 22 = .ok (.aload_n 0, 1) := by decide +kernel
theorem dX11_before_23 : decode cX11_before 23 = .ok (.getfield 54, 3) := by decide +kernel
theorem dX11_before_26 : decode cX11_before 26 = .ok (.getfield 188, 3) := by decide +kernel
theorem dX11_before_29 : decode cX11_before 29 = .ok (.getfield 305, 3) := by decide +kernel
theorem dX11_before_32 : decode cX11_before 32 = .ok (.if_icmp .ge 51, 3) := by decide +kernel
theorem dX11_before_35 : decode cX11_before 35 = .ok (.aload_n 0, 1) := by decide +kernel
theorem dX11_before_36 : decode cX11_before 36 = .ok (.getfield 54, 3) := by decide +kernel
theorem dX11_before_39 : decode cX11_before 39 = .ok (.getfield 188, 3) := by decide +kernel
theorem dX11_before_42 : decode cX11_before 42 = .ok (.getfield 192, 3) := by decide +kernel
theorem dX11_before_45 : decode cX11_before 45 = .ok (.iload 4, 2) := by decide +kernel
theorem dX11_before_47 : decode cX11_before 47 = .ok (.iaload, 1) := by decide +kernel
theorem dX11_before_48 : decode cX11_before 48 = .ok (.iload_n 3, 1) := by decide +kernel
theorem dX11_before_49 : decode cX11_before 49 = .ok (.isub, 1) := by decide +kernel
theorem dX11_before_50 : decode cX11_before 50 = .ok (.invokestatic 228, 3) := by decide +kernel
theorem dX11_before_53 : decode cX11_before 53 = .ok (.aload_n 0, 1) := by decide +kernel
theorem dX11_before_54 : decode cX11_before 54 = .ok (.getfield 54, 3) := by decide +kernel
theorem dX11_before_57 : decode cX11_before 57 = .ok (.getfield 188, 3) := by decide +kernel
theorem dX11_before_60 : decode cX11_before 60 = .ok (.getfield 197, 3) := by decide +kernel
theorem dX11_before_63 : decode cX11_before 63 = .ok (.iload 4, 2) := by decide +kernel
theorem dX11_before_65 : decode cX11_before 65 = .ok (.iaload, 1) := by decide +kernel
theorem dX11_before_66 : decode cX11_before 66 = .ok (.iload_n 1, 1) := by decide +kernel
theorem dX11_before_67 : decode cX11_before 67 = .ok (.imul, 1) := by decide +kernel
theorem dX11_before_68 : decode cX11_before 68 = .ok (.if_icmp .gt 9, 3) := by decide +kernel
theorem dX11_before_71 : decode cX11_before 71 = .ok (.iload_n 2, 1) := by decide +kernel
theorem dX11_before_72 : decode cX11_before 72 = .ok (.iconst 1, 1) := by decide +kernel
theorem dX11_before_73 : decode cX11_before 73 = .ok (.iload_n 3, 1) := by decide +kernel
theorem dX11_before_74 : decode cX11_before 74 = .ok (.ishl, 1) := by decide +kernel
theorem dX11_before_75 : decode cX11_before 75 = .ok (.ior, 1) := by decide +kernel
theorem dX11_before_76 : decode cX11_before 76 = .ok (.istore_n 2, 1) := by decide +kernel
theorem dX11_before_77 : decode cX11_before 77 = .ok (.iinc 4 1, 3) := by decide +kernel
theorem dX11_before_80 : decode cX11_before 80 = .ok (.goto (-60), 3) := by decide +kernel
theorem dX11_before_83 : decode cX11_before 83 = .ok (.iinc 3 1, 3) := by decide +kernel
theorem dX11_before_86 : decode cX11_before 86 = .ok (.goto (-75), 3) := by decide +kernel
theorem dX11_before_89 : decode cX11_before 89 = .ok (.iload_n 2, 1) := by decide +kernel
theorem dX11_before_90 : decode cX11_before 90 = .ok (.ireturn, 1) := by decide +kernel
theorem dX11_seen_0 : decode cX11_seen 0 = .ok (.aload_n 0, 1) := by decide +kernel
theorem dX11_seen_1 : decode cX11_seen 1 = .ok (.getfield 10, 3) := by decide +kernel
theorem dX11_seen_4 : decode cX11_seen 4 = .ok (.invokevirtual 288, 3) := by decide +kernel
theorem dX11_seen_7 : decode cX11_seen 7 = .ok (.aload_n 0, 1) := by decide +kernel
theorem dX11_seen_8 : decode cX11_seen 8 = .ok (.invokevirtual 306, 3) := by decide +kernel
theorem dX11_seen_11 : decode cX11_seen 11 = .ok (.ifCond .ne 11, 3) := by decide +kernel
theorem dX11_seen_14 : decode cX11_seen 14 = .ok (.new 109, 3) := by decide +kernel
theorem dX11_seen_17 : decode cX11_seen 17 = .ok (.dup, 1) := by decide +kernel
theorem dX11_seen_18 : decode cX11_seen 18 = .ok (.invokespecial 111, 3) := by decide +kernel
theorem dX11_seen_21 : decode cX11_seen 21 = .ok (.athrow, 1) := by decide +kernel
theorem dX11_seen_22 : decode cX11_seen 22 = .ok (.aload_n 0, 1) := by decide +kernel
theorem dX11_seen_23 : decode cX11_seen 23 = .ok (.invokevirtual 309, 3) := by decide +kernel
theorem dX11_seen_26 : decode cX11_seen 26 = .ok (.istore_n 2, 1) := by decide +kernel
theorem dX11_seen_27 : decode cX11_seen 27 = .ok (.iload_n 1, 1) := by decide +kernel
theorem dX11_seen_28 : decode cX11_seen 28 = .ok (.ifCond .ne 5, 3) := by decide +kernel
theorem dX11_seen_31 : decode cX11_seen 31 = .ok (.iload_n 2, 1) := by decide +kernel
theorem dX11_seen_32 : decode cX11_seen 32 = .ok (.ireturn, 1) := by decide +kernel
theorem dX11_seen_33 : decode cX11_seen 33 = .ok (.iload_n 2, 1) := by decide +kernel
theorem dX11_seen_34 : decode cX11_seen 34 = .ok (.ifCond .ne 7, 3) := by decide +kernel
theorem dX11_seen_37 : decode cX11_seen 37 = .ok (.iconst 0, 1) := by decide +kernel
theorem dX11_seen_38 : decode cX11_seen 38 = .ok (.goto 10, 3) := by decide +kernel
theorem dX11_seen_41 : decode cX11_seen 41 = .ok (.aload_n 0, 1) := by decide +kernel
theorem dX11_seen_42 : decode cX11_seen 42 = .ok (.getfield 54, 3) := by decide +kernel
theorem dX11_seen_45 : decode cX11_seen 45 = .ok (.getfield 276, 3) := by decide +kernel
theorem dX11_seen_48 : decode cX11_seen 48 = .ok (.istore_n 3, 1) := by decide +kernel
theorem dX11_seen_49 : decode cX11_seen 49 = .ok (.iconst 0, 1) := by decide +kernel
theorem dX11_seen_50 : decode cX11_seen 50 = .ok (.istore 4, 2) := by decide +kernel
theorem dX11_seen_52 : decode cX11_seen 52 = .ok (.iload 4, 2) := by decide +kernel
theorem dX11_seen_54 : decode cX11_seen 54 = .ok (.iload_n 2, 1) := by decide +kernel
theorem dX11_seen_55 : decode cX11_seen 55 = .ok (.if_icmp .ge 19, 3) := by decide +kernel
theorem dX11_seen_58 : decode cX11_seen 58 = .ok (.iload_n 3, 1) := by decide +kernel
theorem dX11_seen_59 : decode cX11_seen 59 = .ok (.aload_n 0, 1) := by decide +kernel
theorem dX11_seen_60 : decode cX11_seen 60 = .ok (.getfield 75, 3) := by decide +kernel
theorem dX11_seen_63 : decode cX11_seen 63 = .ok (.iload 4, 2) := by decide +kernel
theorem dX11_seen_65 : decode cX11_seen 65 = .ok (.iaload, 1) := by decide +kernel
theorem dX11_seen_66 : decode cX11_seen 66 = .ok (.iand, 1) := by decide +kernel
theorem dX11_seen_67 : decode cX11_seen 67 = .ok (.istore_n 3, 1) := by decide +kernel
theorem dX11_seen_68 : decode cX11_seen 68 = .ok (.iinc 4 1, 3) := by decide +kernel
theorem dX11_seen_71 : decode cX11_seen 71 = .ok (.goto (-19), 3) := by decide +kernel
theorem dX11_seen_74 : decode cX11_seen 74 = .ok (.iload_n 3, 1) := by decide +kernel
theorem dX11_seen_75 : decode cX11_seen 75 = .ok (.ireturn, 1) := by decide +kernel
theorem dX11_climb_0 : decode cX11_climb 0 = .ok (.aload_n 0, 1) := by decide +kernel
theorem dX11_climb_1 : decode cX11_climb 1 = .ok (.getfield 10, 3) := by decide +kernel
theorem dX11_climb_4 : decode cX11_climb 4 = .ok (.invokevirtual 288, 3) := by decide +kernel
theorem dX11_climb_7 : decode cX11_climb 7 = .ok (.aload_n 0, 1) := by decide +kernel
theorem dX11_climb_8 : decode cX11_climb 8 = .ok (.invokevirtual 306, 3) := by decide +kernel
theorem dX11_climb_11 : decode cX11_climb 11 = .ok (.ifCond .ne 11, 3) := by decide +kernel
theorem dX11_climb_14 : decode cX11_climb 14 = .ok (.new 109, 3) := by decide +kernel
theorem dX11_climb_17 : decode cX11_climb 17 = .ok (.dup, 1) := by decide +kernel
theorem dX11_climb_18 : decode cX11_climb 18 = .ok (.invokespecial 111, 3) := by decide +kernel
theorem dX11_climb_21 : decode cX11_climb 21 = .ok (.athrow, 1) := by decide +kernel
theorem dX11_climb_22 : decode cX11_climb 22 = .ok (.aload_n 0, 1) := by decide +kernel
theorem dX11_climb_23 : decode cX11_climb 23 = .ok (.invokevirtual 309, 3) := by decide +kernel
theorem dX11_climb_26 : decode cX11_climb 26 = .ok (.istore_n 1, 1) := by decide +kernel
theorem dX11_climb_27 : decode cX11_climb 27 = .ok (.iload_n 1, 1) := by decide +kernel
theorem dX11_climb_28 : decode cX11_climb 28 = .ok (.iconst 2, 1) := by decide +kernel
theorem dX11_climb_29 : decode cX11_climb 29 = .ok (.if_icmp .ge 5, 3) := by decide +kernel
theorem dX11_climb_32 : decode cX11_climb 32 = .ok (.iconst (-1), 1) := by decide +kernel
theorem dX11_climb_33 : decode cX11_climb 33 = .ok (.ireturn, 1) := by decide +kernel
theorem dX11_climb_34 : decode cX11_climb 34 = .ok (.iconst (-1), 1) := by decide +kernel
theorem dX11_climb_35 : decode cX11_climb 35 = .ok (.istore_n 2, 1) := by decide +kernel
theorem dX11_climb_36 : decode cX11_climb 36 = .ok (.sipush 138, 3) := by decide +kernel
theorem dX11_climb_39 : decode cX11_climb 39 = .ok (.istore_n 3, 1) := by decide +kernel
theorem dX11_climb_40 : decode cX11_climb 40 = .ok (.iconst 0, 1) := by decide +kernel
theorem dX11_climb_41 : decode cX11_climb 41 = .ok (.istore 4, 2) := by decide +kernel
theorem dX11_climb_43 : decode cX11_climb 43 = .ok (.iload 4, 2) := by decide +kernel
theorem dX11_climb_45 : decode cX11_climb 45 = .ok (.bipush 16, 2) := by decide +kernel
theorem dX11_climb_47 : decode cX11_climb 47 = .ok (.if_icmp .ge 42, 3) := by decide +kernel
theorem dX11_climb_50 : decode cX11_climb 50 = .ok (.aload_n 0, 1) := by decide +kernel
theorem dX11_climb_51 : decode cX11_climb 51 = .ok (.getfield 54, 3) := by decide +kernel
theorem dX11_climb_54 : decode cX11_climb 54 = .ok (.iload 4, 2) := by decide +kernel
theorem dX11_climb_56 : decode cX11_climb 56 = .ok (.invokevirtual 148, 3) := by decide +kernel
theorem dX11_climb_59 : decode cX11_climb 59 = .ok (.ifCond .eq 24, 3) := by decide +kernel
theorem dX11_climb_62 : decode cX11_climb 62 = .ok (.aload_n 0, 1) := by decide +kernel
theorem dX11_climb_63 : decode cX11_climb 63 = .ok (.iload 4, 2) := by decide +kernel
theorem dX11_climb_65 : decode cX11_climb 65 = .ok (.iload_n 1, 1) := by decide +kernel
theorem dX11_climb_66 : decode cX11_climb 66 = .ok (.invokevirtual 312, 3) := by decide +kernel
theorem dX11_climb_69 : decode cX11_climb 69 = .ok (.istore 5, 2) := by decide +kernel
theorem dX11_climb_71 : decode cX11_climb 71 = .ok (.iload 5, 2) := by decide +kernel
theorem dX11_climb_73 : decode cX11_climb 73 = .ok (.iload_n 3, 1) := by decide +kernel
theorem dX11_climb_74 : decode cX11_climb 74 = .ok (.if_icmp .ge 9, 3) := by decide +kernel
theorem dX11_climb_77 : decode cX11_climb 77 = .ok (.iload 5, 2) := by decide +kernel
theorem dX11_climb_79 : decode cX11_climb 79 = .ok (.istore_n 3, 1) := by decide +kernel
theorem dX11_climb_80 : decode cX11_climb 80 = .ok (.iload 4, 2) := by decide +kernel
theorem dX11_climb_82 : decode cX11_climb 82 = .ok (.istore_n 2, 1) := by decide +kernel
theorem dX11_climb_83 : decode cX11_climb 83 = .ok (.iinc 4 1, 3) := by decide +kernel
theorem dX11_climb_86 : decode cX11_climb 86 = .ok (.goto (-43), 3) := by decide +kernel
theorem dX11_climb_89 : decode cX11_climb 89 = .ok (.iload_n 2, 1) := by decide +kernel
theorem dX11_climb_90 : decode cX11_climb 90 = .ok (.ireturn, 1) := by decide +kernel
theorem dX11_duke_0 : decode cX11_duke 0 = .ok (.aload_n 0, 1) := by decide +kernel
theorem dX11_duke_1 : decode cX11_duke 1 = .ok (.getfield 54, 3) := by decide +kernel
theorem dX11_duke_4 : decode cX11_duke 4 = .ok (.invokevirtual 265, 3) := by decide +kernel
theorem dX11_duke_7 : decode cX11_duke 7 = .ok (.istore_n 1, 1) := by decide +kernel
theorem dX11_duke_8 : decode cX11_duke 8 = .ok (.aload_n 0, 1) := by decide +kernel
theorem dX11_duke_9 : decode cX11_duke 9 = .ok (.iload_n 1, 1) := by decide +kernel
theorem dX11_duke_10 : decode cX11_duke 10 = .ok (.invokevirtual 315, 3) := by decide +kernel
theorem dX11_duke_13 : decode cX11_duke 13 = .ok (.iconst 0, 1) := by decide +kernel
theorem dX11_duke_14 : decode cX11_duke 14 = .ok (.istore_n 2, 1) := by decide +kernel
theorem dX11_duke_15 : decode cX11_duke 15 = .ok (.iconst (-1), 1) := by decide +kernel
theorem dX11_duke_16 : decode cX11_duke 16 = .ok (.istore_n 3, 1) := by decide +kernel
theorem dX11_duke_17 : decode cX11_duke 17 = .ok (.iload_n 3, 1) := by decide +kernel
theorem dX11_duke_18 : decode cX11_duke 18 = .ok (.bipush 16, 2) := by decide +kernel
theorem dX11_duke_20 : decode cX11_duke 20 = .ok (.if_icmp .ge 72, 3) := by decide +kernel
theorem dX11_duke_23 : decode cX11_duke 23 = .ok (.iconst (-1), 1) := by decide +kernel
theorem dX11_duke_24 : decode cX11_duke 24 = .ok (.istore 4, 2) := by decide +kernel
theorem dX11_duke_26 : decode cX11_duke 26 = .ok (.iload 4, 2) := by decide +kernel
theorem dX11_duke_28 : decode cX11_duke 28 = .ok (.bipush 16, 2) := by decide +kernel
theorem dX11_duke_30 : decode cX11_duke 30 = .ok (.if_icmp .ge 56, 3) := by decide +kernel
theorem dX11_duke_33 : decode cX11_duke 33 = .ok (.aload_n 0, 1) := by decide +kernel
theorem dX11_duke_34 : decode cX11_duke 34 = .ok (.getfield 54, 3) := by decide +kernel
theorem dX11_duke_37 : decode cX11_duke 37 = .ok (.getfield 276, 3) := by decide +kernel
theorem dX11_duke_40 : decode cX11_duke 40 = .ok (.iload_n 3, 1) := by decide +kernel
theorem dX11_duke_41 : decode cX11_duke 41 = .ok (.invokestatic 318, 3) := by decide +kernel
theorem dX11_duke_44 : decode cX11_duke 44 = .ok (.ifCond .eq 36, 3) := by decide +kernel
theorem dX11_duke_47 : decode cX11_duke 47 = .ok (.iload_n 1, 1) := by decide +kernel
theorem dX11_duke_48 : decode cX11_duke 48 = .ok (.iload 4, 2) := by decide +kernel
theorem dX11_duke_50 : decode cX11_duke 50 = .ok (.invokestatic 318, 3) := by decide +kernel
theorem dX11_duke_53 : decode cX11_duke 53 = .ok (.ifCond .eq 27, 3) := by decide +kernel
theorem dX11_duke_56 : decode cX11_duke 56 = .ok (.aload_n 0, 1) := by decide +kernel
theorem dX11_duke_57 : decode cX11_duke 57 = .ok (.iload_n 3, 1) := by decide +kernel
theorem dX11_duke_58 : decode cX11_duke 58 = .ok (.iload 4, 2) := by decide +kernel
theorem dX11_duke_60 : decode cX11_duke 60 = .ok (.invokevirtual 321, 3) := by decide +kernel
theorem dX11_duke_63 : decode cX11_duke 63 = .ok (.ifCond .eq 17, 3) := by decide +kernel
theorem dX11_duke_66 : decode cX11_duke 66 = .ok (.aload_n 0, 1) := by decide +kernel
theorem dX11_duke_67 : decode cX11_duke 67 = .ok (.iload_n 3, 1) := by decide +kernel
theorem dX11_duke_68 : decode cX11_duke 68 = .ok (.iload 4, 2) := by decide +kernel
theorem dX11_duke_70 : decode cX11_duke 70 = .ok (.iload_n 1, 1) := by decide +kernel
theorem dX11_duke_71 : decode cX11_duke 71 = .ok (.invokevirtual 324, 3) := by decide +kernel
theorem dX11_duke_74 : decode cX11_duke 74 = .ok (.ifCond .eq 6, 3) := by decide +kernel
theorem dX11_duke_77 : decode cX11_duke 77 = .ok (.iinc 2 1, 3) := by decide +kernel
theorem dX11_duke_80 : decode cX11_duke 80 = .ok (.iinc 4 1, 3) := by decide +kernel
theorem dX11_duke_83 : decode cX11_duke 83 = .ok (.goto (-57), 3) := by decide +kernel
theorem dX11_duke_86 : decode cX11_duke 86 = .ok (.iinc 3 1, 3) := by decide +kernel
theorem dX11_duke_89 : decode cX11_duke 89 = .ok (.goto (-72), 3) := by decide +kernel
theorem dX11_duke_92 : decode cX11_duke 92 = .ok (.iload_n 2, 1) := by decide +kernel
theorem dX11_duke_93 : decode cX11_duke 93 = .ok (.ireturn, 1) := by decide +kernel
theorem dX11_pay_0 : decode cX11_pay 0 = .ok (.iload_n 1, 1) := by decide +kernel
theorem dX11_pay_1 : decode cX11_pay 1 = .ok (.iconst 0, 1) := by decide +kernel
theorem dX11_pay_2 : decode cX11_pay 2 = .ok (.aload_n 0, 1) := by decide +kernel
theorem dX11_pay_3 : decode cX11_pay 3 = .ok (.getfield 54, 3) := by decide +kernel
theorem dX11_pay_6 : decode cX11_pay 6 = .ok (.getfield 169, 3) := by decide +kernel
theorem dX11_pay_9 : decode cX11_pay 9 = .ok (.iconst 1, 1) := by decide +kernel
theorem dX11_pay_10 : decode cX11_pay 10 = .ok (.isub, 1) := by decide +kernel
theorem dX11_pay_11 : decode cX11_pay 11 = .ok (.invokestatic 244, 3) := by decide +kernel
theorem dX11_pay_14 : decode cX11_pay 14 = .ok (.aload_n 0, 1) := by decide +kernel
theorem dX11_pay_15 : decode cX11_pay 15 = .ok (.getfield 19, 3) := by decide +kernel
theorem dX11_pay_18 : decode cX11_pay 18 = .ok (.aload_n 0, 1) := by decide +kernel
theorem dX11_pay_19 : decode cX11_pay 19 = .ok (.getfield 54, 3) := by decide +kernel
theorem dX11_pay_22 : decode cX11_pay 22 = .ok (.invokevirtual 161, 3) := by decide +kernel
theorem dX11_pay_25 : decode cX11_pay 25 = .ok (.istore_n 2, 1) := by decide +kernel
theorem dX11_pay_26 : decode cX11_pay 26 = .ok (.aload_n 0, 1) := by decide +kernel
theorem dX11_pay_27 : decode cX11_pay 27 = .ok (.getfield 54, 3) := by decide +kernel
theorem dX11_pay_30 : decode cX11_pay 30 = .ok (.iload_n 2, 1) := by decide +kernel
theorem dX11_pay_31 : decode cX11_pay 31 = .ok (.aload_n 0, 1) := by decide +kernel
theorem dX11_pay_32 : decode cX11_pay 32 = .ok (.getfield 54, 3) := by decide +kernel
theorem dX11_pay_35 : decode cX11_pay 35 = .ok (.getfield 169, 3) := by decide +kernel
theorem dX11_pay_38 : decode cX11_pay 38 = .ok (.aload_n 0, 1) := by decide +kernel
theorem dX11_pay_39 : decode cX11_pay 39 = .ok (.getfield 54, 3) := by decide +kernel
theorem dX11_pay_42 : decode cX11_pay 42 = .ok (.getfield 172, 3) := by decide +kernel
theorem dX11_pay_45 : decode cX11_pay 45 = .ok (.invokevirtual 328, 3) := by decide +kernel
theorem dX11_pay_48 : decode cX11_pay 48 = .ok (.istore_n 3, 1) := by decide +kernel
theorem dX11_pay_49 : decode cX11_pay 49 = .ok (.iload_n 3, 1) := by decide +kernel
theorem dX11_pay_50 : decode cX11_pay 50 = .ok (.aload_n 0, 1) := by decide +kernel
theorem dX11_pay_51 : decode cX11_pay 51 = .ok (.getfield 54, 3) := by decide +kernel
theorem dX11_pay_54 : decode cX11_pay 54 = .ok (.iload_n 2, 1) := by decide +kernel
theorem dX11_pay_55 : decode cX11_pay 55 = .ok (.aload_n 0, 1) := by decide +kernel
theorem dX11_pay_56 : decode cX11_pay 56 = .ok (.getfield 54, 3) := by decide +kernel
theorem dX11_pay_59 : decode cX11_pay 59 = .ok (.getfield 169, 3) := by decide +kernel
theorem dX11_pay_62 : decode cX11_pay 62 = .ok (.iload_n 1, 1) := by decide +kernel
theorem dX11_pay_63 : decode cX11_pay 63 = .ok (.isub, 1) := by decide +kernel
theorem dX11_pay_64 : decode cX11_pay 64 = .ok (.aload_n 0, 1) := by decide +kernel
theorem dX11_pay_65 : decode cX11_pay 65 = .ok (.getfield 54, 3) := by decide +kernel
theorem dX11_pay_68 : decode cX11_pay 68 = .ok (.getfield 172, 3) := by decide +kernel
theorem dX11_pay_71 : decode cX11_pay 71 = .ok (.invokevirtual 328, 3) := by decide +kernel
theorem dX11_pay_74 : decode cX11_pay 74 = .ok (.iconst (-1), 1) := by decide +kernel
theorem dX11_pay_75 : decode cX11_pay 75 = .ok (.ixor, 1) := by decide +kernel
theorem dX11_pay_76 : decode cX11_pay 76 = .ok (.iand, 1) := by decide +kernel
theorem dX11_pay_77 : decode cX11_pay 77 = .ok (.invokestatic 257, 3) := by decide +kernel
theorem dX11_pay_80 : decode cX11_pay 80 = .ok (.ireturn, 1) := by decide +kernel
theorem dX11_season_0 : decode cX11_season 0 = .ok (.aload_n 0, 1) := by decide +kernel
theorem dX11_season_1 : decode cX11_season 1 = .ok (.getfield 19, 3) := by decide +kernel
theorem dX11_season_4 : decode cX11_season 4 = .ok (.aload_n 0, 1) := by decide +kernel
theorem dX11_season_5 : decode cX11_season 5 = .ok (.getfield 54, 3) := by decide +kernel
theorem dX11_season_8 : decode cX11_season 8 = .ok (.invokevirtual 161, 3) := by decide +kernel
theorem dX11_season_11 : decode cX11_season 11 = .ok (.istore_n 1, 1) := by decide +kernel
theorem dX11_season_12 : decode cX11_season 12 = .ok (.iconst 0, 1) := by decide +kernel
theorem dX11_season_13 : decode cX11_season 13 = .ok (.istore_n 2, 1) := by decide +kernel
theorem dX11_season_14 : decode cX11_season 14 = .ok (.iconst (-1), 1) := by decide +kernel
theorem dX11_season_15 : decode cX11_season 15 = .ok (.istore_n 3, 1) := by decide +kernel
theorem dX11_season_16 : decode cX11_season 16 = .ok (.iconst 0, 1) := by decide +kernel
theorem dX11_season_17 : decode cX11_season 17 = .ok (.istore 4, 2) := by decide +kernel
theorem dX11_season_19 : decode cX11_season 19 = .ok (.iload 4, 2) := by decide +kernel
theorem dX11_season_21 : decode cX11_season 21 = .ok (.bipush 9, 2) := by decide +kernel
theorem dX11_season_23 : decode cX11_season 23 = .ok (.if_icmp .gt 43, 3) := by decide +kernel
theorem dX11_season_26 : decode cX11_season 26 = .ok (.aload_n 0, 1) := by decide +kernel
theorem dX11_season_27 : decode cX11_season 27 = .ok (.getfield 54, 3) := by decide +kernel
theorem dX11_season_30 : decode cX11_season 30 = .ok (.iload_n 1, 1) := by decide +kernel
theorem dX11_season_31 : decode cX11_season 31 = .ok (.aload_n 0, 1) := by decide +kernel
theorem dX11_season_32 : decode cX11_season 32 = .ok (.getfield 54, 3) := by decide +kernel
theorem dX11_season_35 : decode cX11_season 35 = .ok (.getfield 169, 3) := by decide +kernel
theorem dX11_season_38 : decode cX11_season 38 = .ok (.iload 4, 2) := by decide +kernel
theorem dX11_season_40 : decode cX11_season 40 = .ok (.invokevirtual 328, 3) := by decide +kernel
theorem dX11_season_43 : decode cX11_season 43 = .ok (.invokestatic 257, 3) := by decide +kernel
theorem dX11_season_46 : decode cX11_season 46 = .ok (.istore 5, 2) := by decide +kernel
theorem dX11_season_48 : decode cX11_season 48 = .ok (.iload 5, 2) := by decide +kernel
theorem dX11_season_50 : decode cX11_season 50 = .ok (.iload_n 3, 1) := by decide +kernel
theorem dX11_season_51 : decode cX11_season 51 = .ok (.if_icmp .le 9, 3) := by decide +kernel
theorem dX11_season_54 : decode cX11_season 54 = .ok (.iload 5, 2) := by decide +kernel
theorem dX11_season_56 : decode cX11_season 56 = .ok (.istore_n 3, 1) := by decide +kernel
theorem dX11_season_57 : decode cX11_season 57 = .ok (.iload 4, 2) := by decide +kernel
theorem dX11_season_59 : decode cX11_season 59 = .ok (.istore_n 2, 1) := by decide +kernel
theorem dX11_season_60 : decode cX11_season 60 = .ok (.iinc 4 1, 3) := by decide +kernel
theorem dX11_season_63 : decode cX11_season 63 = .ok (.goto (-44), 3) := by decide +kernel
theorem dX11_season_66 : decode cX11_season 66 = .ok (.iload_n 2, 1) := by decide +kernel
theorem dX11_season_67 : decode cX11_season 67 = .ok (.ireturn, 1) := by decide +kernel
theorem dX11_best_0 : decode cX11_best 0 = .ok (.aload_n 0, 1) := by decide +kernel
theorem dX11_best_1 : decode cX11_best 1 = .ok (.getfield 19, 3) := by decide +kernel
theorem dX11_best_4 : decode cX11_best 4 = .ok (.aload_n 0, 1) := by decide +kernel
theorem dX11_best_5 : decode cX11_best 5 = .ok (.getfield 54, 3) := by decide +kernel
theorem dX11_best_8 : decode cX11_best 8 = .ok (.invokevirtual 161, 3) := by decide +kernel
theorem dX11_best_11 : decode cX11_best 11 = .ok (.istore_n 1, 1) := by decide +kernel
theorem dX11_best_12 : decode cX11_best 12 = .ok (.aload_n 0, 1) := by decide +kernel
theorem dX11_best_13 : decode cX11_best 13 = .ok (.getfield 54, 3) := by decide +kernel
theorem dX11_best_16 : decode cX11_best 16 = .ok (.iload_n 1, 1) := by decide +kernel
theorem dX11_best_17 : decode cX11_best 17 = .ok (.bipush 40, 2) := by decide +kernel
theorem dX11_best_19 : decode cX11_best 19 = .ok (.aload_n 0, 1) := by decide +kernel
theorem dX11_best_20 : decode cX11_best 20 = .ok (.getfield 54, 3) := by decide +kernel
theorem dX11_best_23 : decode cX11_best 23 = .ok (.getfield 172, 3) := by decide +kernel
theorem dX11_best_26 : decode cX11_best 26 = .ok (.invokevirtual 328, 3) := by decide +kernel
theorem dX11_best_29 : decode cX11_best 29 = .ok (.istore_n 2, 1) := by decide +kernel
theorem dX11_best_30 : decode cX11_best 30 = .ok (.iconst 1, 1) := by decide +kernel
theorem dX11_best_31 : decode cX11_best 31 = .ok (.istore_n 3, 1) := by decide +kernel
theorem dX11_best_32 : decode cX11_best 32 = .ok (.iload_n 3, 1) := by decide +kernel
theorem dX11_best_33 : decode cX11_best 33 = .ok (.bipush 40, 2) := by decide +kernel
theorem dX11_best_35 : decode cX11_best 35 = .ok (.if_icmp .ge 34, 3) := by decide +kernel
theorem dX11_best_38 : decode cX11_best 38 = .ok (.iload_n 2, 1) := by decide +kernel
theorem dX11_best_39 : decode cX11_best 39 = .ok (.aload_n 0, 1) := by decide +kernel
theorem dX11_best_40 : decode cX11_best 40 = .ok (.getfield 54, 3) := by decide +kernel
theorem dX11_best_43 : decode cX11_best 43 = .ok (.iload_n 1, 1) := by decide +kernel
theorem dX11_best_44 : decode cX11_best 44 = .ok (.iload_n 3, 1) := by decide +kernel
theorem dX11_best_45 : decode cX11_best 45 = .ok (.aload_n 0, 1) := by decide +kernel
theorem dX11_best_46 : decode cX11_best 46 = .ok (.getfield 54, 3) := by decide +kernel
theorem dX11_best_49 : decode cX11_best 49 = .ok (.getfield 172, 3) := by decide +kernel
theorem dX11_best_52 : decode cX11_best 52 = .ok (.invokevirtual 328, 3) := by decide +kernel
theorem dX11_best_55 : decode cX11_best 55 = .ok (.iconst (-1), 1) := by decide +kernel
theorem dX11_best_56 : decode cX11_best 56 = .ok (.ixor, 1) := by decide +kernel
theorem dX11_best_57 : decode cX11_best 57 = .ok (.iand, 1) := by decide +kernel
theorem dX11_best_58 : decode cX11_best 58 = .ok (.ifCond .ne 5, 3) := by decide +kernel
theorem dX11_best_61 : decode cX11_best 61 = .ok (.iload_n 3, 1) := by decide +kernel
theorem dX11_best_62 : decode cX11_best 62 = .ok (.ireturn, 1) := by decide +kernel
theorem dX11_best_63 : decode cX11_best 63 = .ok (.iinc 3 1, 3) := by decide +kernel
theorem dX11_best_66 : decode cX11_best 66 = .ok (.goto (-34), 3) := by decide +kernel
theorem dX11_best_69 : decode cX11_best 69 = .ok (.bipush 40, 2) := by decide +kernel
theorem dX11_best_71 : decode cX11_best 71 = .ok (.ireturn, 1) := by decide +kernel
theorem dX11_lasts_0 : decode cX11_lasts 0 = .ok (.aload_n 0, 1) := by decide +kernel
theorem dX11_lasts_1 : decode cX11_lasts 1 = .ok (.getfield 19, 3) := by decide +kernel
theorem dX11_lasts_4 : decode cX11_lasts 4 = .ok (.aload_n 0, 1) := by decide +kernel
theorem dX11_lasts_5 : decode cX11_lasts 5 = .ok (.getfield 54, 3) := by decide +kernel
theorem dX11_lasts_8 : decode cX11_lasts 8 = .ok (.invokevirtual 179, 3) := by decide +kernel
theorem dX11_lasts_11 : decode cX11_lasts 11 = .ok (.istore_n 1, 1) := by decide +kernel
theorem dX11_lasts_12 : decode cX11_lasts 12 = .ok (.aload_n 0, 1) := by decide +kernel
theorem dX11_lasts_13 : decode cX11_lasts 13 = .ok (.getfield 58, 3) := by decide +kernel
theorem dX11_lasts_16 : decode cX11_lasts 16 = .ok (.aload_n 0, 1) := by decide +kernel
theorem dX11_lasts_17 : decode cX11_lasts 17 = .ok (.getfield 54, 3) := by decide +kernel
theorem dX11_lasts_20 : decode cX11_lasts 20 = .ok (.invokevirtual 101, 3) := by decide +kernel
theorem dX11_lasts_23 : decode cX11_lasts 23 = .ok (.iconst 1, 1) := by decide +kernel
theorem dX11_lasts_24 : decode cX11_lasts 24 = .ok (.istore_n 2, 1) := by decide +kernel
theorem dX11_lasts_25 : decode cX11_lasts 25 = .ok (.iload_n 2, 1) := by decide +kernel
theorem dX11_lasts_26 : decode cX11_lasts 26 = .ok (.bipush 60, 2) := by decide +kernel
theorem dX11_lasts_28 : decode cX11_lasts 28 = .ok (.if_icmp .gt 42, 3) := by decide +kernel
theorem dX11_lasts_31 : decode cX11_lasts 31 = .ok (.aload_n 0, 1) := by decide +kernel
theorem dX11_lasts_32 : decode cX11_lasts 32 = .ok (.getfield 19, 3) := by decide +kernel
theorem dX11_lasts_35 : decode cX11_lasts 35 = .ok (.aload_n 0, 1) := by decide +kernel
theorem dX11_lasts_36 : decode cX11_lasts 36 = .ok (.getfield 58, 3) := by decide +kernel
theorem dX11_lasts_39 : decode cX11_lasts 39 = .ok (.iconst 0, 1) := by decide +kernel
theorem dX11_lasts_40 : decode cX11_lasts 40 = .ok (.invokevirtual 253, 3) := by decide +kernel
theorem dX11_lasts_43 : decode cX11_lasts 43 = .ok (.pop, 1) := by decide +kernel
theorem dX11_lasts_44 : decode cX11_lasts 44 = .ok (.iload_n 1, 1) := by decide +kernel
theorem dX11_lasts_45 : decode cX11_lasts 45 = .ok (.aload_n 0, 1) := by decide +kernel
theorem dX11_lasts_46 : decode cX11_lasts 46 = .ok (.getfield 19, 3) := by decide +kernel
theorem dX11_lasts_49 : decode cX11_lasts 49 = .ok (.aload_n 0, 1) := by decide +kernel
theorem dX11_lasts_50 : decode cX11_lasts 50 = .ok (.getfield 58, 3) := by decide +kernel
theorem dX11_lasts_53 : decode cX11_lasts 53 = .ok (.invokevirtual 179, 3) := by decide +kernel
theorem dX11_lasts_56 : decode cX11_lasts 56 = .ok (.iconst (-1), 1) := by decide +kernel
theorem dX11_lasts_57 : decode cX11_lasts 57 = .ok (.ixor, 1) := by decide +kernel
theorem dX11_lasts_58 : decode cX11_lasts 58 = .ok (.iand, 1) := by decide +kernel
theorem dX11_lasts_59 : decode cX11_lasts 59 = .ok (.ifCond .eq 5, 3) := by decide +kernel
theorem dX11_lasts_62 : decode cX11_lasts 62 = .ok (.iload_n 2, 1) := by decide +kernel
theorem dX11_lasts_63 : decode cX11_lasts 63 = .ok (.ireturn, 1) := by decide +kernel
theorem dX11_lasts_64 : decode cX11_lasts 64 = .ok (.iinc 2 1, 3) := by decide +kernel
theorem dX11_lasts_67 : decode cX11_lasts 67 = .ok (.goto (-42), 3) := by decide +kernel
theorem dX11_lasts_70 : decode cX11_lasts 70 = .ok (.iconst (-1), 1) := by decide +kernel
theorem dX11_lasts_71 : decode cX11_lasts 71 = .ok (.ireturn, 1) := by decide +kernel
theorem dX11_stars_0 : decode cX11_stars 0 = .ok (.iload_n 1, 1) := by decide +kernel
theorem dX11_stars_1 : decode cX11_stars 1 = .ok (.invokestatic 136, 3) := by decide +kernel
theorem dX11_stars_4 : decode cX11_stars 4 = .ok (.iload_n 2, 1) := by decide +kernel
theorem dX11_stars_5 : decode cX11_stars 5 = .ok (.invokestatic 136, 3) := by decide +kernel
theorem dX11_stars_8 : decode cX11_stars 8 = .ok (.iload_n 1, 1) := by decide +kernel
theorem dX11_stars_9 : decode cX11_stars 9 = .ok (.iload_n 2, 1) := by decide +kernel
theorem dX11_stars_10 : decode cX11_stars 10 = .ok (.if_icmp .le 11, 3) := by decide +kernel
theorem dX11_stars_13 : decode cX11_stars 13 = .ok (.new 109, 3) := by decide +kernel
theorem dX11_stars_16 : decode cX11_stars 16 = .ok (.dup, 1) := by decide +kernel
theorem dX11_stars_17 : decode cX11_stars 17 = .ok (.invokespecial 111, 3) := by decide +kernel
theorem dX11_stars_20 : decode cX11_stars 20 = .ok (.athrow, 1) := by decide +kernel
theorem dX11_stars_21 : decode cX11_stars 21 = .ok (.iconst 2, 1) := by decide +kernel
theorem dX11_stars_22 : decode cX11_stars 22 = .ok (.iload_n 2, 1) := by decide +kernel
theorem dX11_stars_23 : decode cX11_stars 23 = .ok (.ishl, 1) := by decide +kernel
theorem dX11_stars_24 : decode cX11_stars 24 = .ok (.iconst 1, 1) := by decide +kernel
theorem dX11_stars_25 : decode cX11_stars 25 = .ok (.isub, 1) := by decide +kernel
theorem dX11_stars_26 : decode cX11_stars 26 = .ok (.istore_n 3, 1) := by decide +kernel
theorem dX11_stars_27 : decode cX11_stars 27 = .ok (.iconst 1, 1) := by decide +kernel
theorem dX11_stars_28 : decode cX11_stars 28 = .ok (.iload_n 1, 1) := by decide +kernel
theorem dX11_stars_29 : decode cX11_stars 29 = .ok (.ishl, 1) := by decide +kernel
theorem dX11_stars_30 : decode cX11_stars 30 = .ok (.iconst 1, 1) := by decide +kernel
theorem dX11_stars_31 : decode cX11_stars 31 = .ok (.isub, 1) := by decide +kernel
theorem dX11_stars_32 : decode cX11_stars 32 = .ok (.istore 4, 2) := by decide +kernel
theorem dX11_stars_34 : decode cX11_stars 34 = .ok (.aload_n 0, 1) := by decide +kernel
theorem dX11_stars_35 : decode cX11_stars 35 = .ok (.getfield 19, 3) := by decide +kernel
theorem dX11_stars_38 : decode cX11_stars 38 = .ok (.aload_n 0, 1) := by decide +kernel
theorem dX11_stars_39 : decode cX11_stars 39 = .ok (.getfield 54, 3) := by decide +kernel
theorem dX11_stars_42 : decode cX11_stars 42 = .ok (.invokevirtual 161, 3) := by decide +kernel
theorem dX11_stars_45 : decode cX11_stars 45 = .ok (.iload_n 3, 1) := by decide +kernel
theorem dX11_stars_46 : decode cX11_stars 46 = .ok (.iand, 1) := by decide +kernel
theorem dX11_stars_47 : decode cX11_stars 47 = .ok (.iload 4, 2) := by decide +kernel
theorem dX11_stars_49 : decode cX11_stars 49 = .ok (.iconst (-1), 1) := by decide +kernel
theorem dX11_stars_50 : decode cX11_stars 50 = .ok (.ixor, 1) := by decide +kernel
theorem dX11_stars_51 : decode cX11_stars 51 = .ok (.iand, 1) := by decide +kernel
theorem dX11_stars_52 : decode cX11_stars 52 = .ok (.invokestatic 257, 3) := by decide +kernel
theorem dX11_stars_55 : decode cX11_stars 55 = .ok (.ireturn, 1) := by decide +kernel
theorem dX11_longest_0 : decode cX11_longest 0 = .ok (.aload_n 0, 1) := by decide +kernel
theorem dX11_longest_1 : decode cX11_longest 1 = .ok (.getfield 19, 3) := by decide +kernel
theorem dX11_longest_4 : decode cX11_longest 4 = .ok (.aload_n 0, 1) := by decide +kernel
theorem dX11_longest_5 : decode cX11_longest 5 = .ok (.getfield 54, 3) := by decide +kernel
theorem dX11_longest_8 : decode cX11_longest 8 = .ok (.invokevirtual 161, 3) := by decide +kernel
theorem dX11_longest_11 : decode cX11_longest 11 = .ok (.istore_n 1, 1) := by decide +kernel
theorem dX11_longest_12 : decode cX11_longest 12 = .ok (.iconst 0, 1) := by decide +kernel
theorem dX11_longest_13 : decode cX11_longest 13 = .ok (.istore_n 2, 1) := by decide +kernel
theorem dX11_longest_14 : decode cX11_longest 14 = .ok (.iconst 0, 1) := by decide +kernel
theorem dX11_longest_15 : decode cX11_longest 15 = .ok (.istore_n 3, 1) := by decide +kernel
theorem dX11_longest_16 : decode cX11_longest 16 = .ok (.iconst 0, 1) := by decide +kernel
theorem dX11_longest_17 : decode cX11_longest 17 = .ok (.istore 4, 2) := by decide +kernel
theorem dX11_longest_19 : decode cX11_longest 19 = .ok (.iload 4, 2) := by decide +kernel
theorem dX11_longest_21 : decode cX11_longest 21 = .ok (.bipush 16, 2) := by decide +kernel
theorem dX11_longest_23 : decode cX11_longest 23 = .ok (.if_icmp .ge 32, 3) := by decide +kernel
theorem dX11_longest_26 : decode cX11_longest 26 = .ok (.iload_n 1, 1) := by decide +kernel
theorem dX11_longest_27 : decode cX11_longest 27 = .ok (.iload 4, 2) := by decide +kernel
theorem dX11_longest_29 : decode cX11_longest 29 = .ok (.invokestatic 165, 3) := by decide +kernel
theorem dX11_longest_32 : decode cX11_longest 32 = .ok (.ifCond .eq 7, 3) := by decide +kernel
theorem dX11_longest_35 : decode cX11_longest 35 = .ok (.iconst 0, 1) := by decide +kernel
theorem dX11_longest_36 : decode cX11_longest 36 = .ok (.goto 6, 3) := by decide +kernel
theorem dX11_longest_39 : decode cX11_longest 39 = .ok (.iload_n 3, 1) := by decide +kernel
theorem dX11_longest_40 : decode cX11_longest 40 = .ok (.iconst 1, 1) := by decide +kernel
theorem dX11_longest_41 : decode cX11_longest 41 = .ok (.iadd, 1) := by decide +kernel
theorem dX11_longest_42 : decode cX11_longest 42 = .ok (.istore_n 3, 1) := by decide +kernel
theorem dX11_longest_43 : decode cX11_longest 43 = .ok (.iload_n 2, 1) := by decide +kernel
theorem dX11_longest_44 : decode cX11_longest 44 = .ok (.iload_n 3, 1) := by decide +kernel
theorem dX11_longest_45 : decode cX11_longest 45 = .ok (.invokestatic 330, 3) := by decide +kernel
theorem dX11_longest_48 : decode cX11_longest 48 = .ok (.istore_n 2, 1) := by decide +kernel
theorem dX11_longest_49 : decode cX11_longest 49 = .ok (.iinc 4 1, 3) := by decide +kernel
theorem dX11_longest_52 : decode cX11_longest 52 = .ok (.goto (-33), 3) := by decide +kernel
theorem dX11_longest_55 : decode cX11_longest 55 = .ok (.iload_n 2, 1) := by decide +kernel
theorem dX11_longest_56 : decode cX11_longest 56 = .ok (.ireturn, 1) := by decide +kernel
theorem dX11_ahead_0 : decode cX11_ahead 0 = .ok (.iload_n 1, 1) := by decide +kernel
theorem dX11_ahead_1 : decode cX11_ahead 1 = .ok (.invokestatic 136, 3) := by decide +kernel
theorem dX11_ahead_4 : decode cX11_ahead 4 = .ok (.iload_n 2, 1) := by decide +kernel
theorem dX11_ahead_5 : decode cX11_ahead 5 = .ok (.iconst 0, 1) := by decide +kernel
theorem dX11_ahead_6 : decode cX11_ahead 6 = .ok (.bipush 60, 2) := by decide +kernel
theorem dX11_ahead_8 : decode cX11_ahead 8 = .ok (.invokestatic 244, 3) := by decide +kernel
theorem dX11_ahead_11 : decode cX11_ahead 11 = .ok (.aload_n 0, 1) := by decide +kernel
theorem dX11_ahead_12 : decode cX11_ahead 12 = .ok (.getfield 58, 3) := by decide +kernel
theorem dX11_ahead_15 : decode cX11_ahead 15 = .ok (.aload_n 0, 1) := by decide +kernel
theorem dX11_ahead_16 : decode cX11_ahead 16 = .ok (.getfield 54, 3) := by decide +kernel
theorem dX11_ahead_19 : decode cX11_ahead 19 = .ok (.invokevirtual 101, 3) := by decide +kernel
theorem dX11_ahead_22 : decode cX11_ahead 22 = .ok (.aload_n 0, 1) := by decide +kernel
theorem dX11_ahead_23 : decode cX11_ahead 23 = .ok (.getfield 19, 3) := by decide +kernel
theorem dX11_ahead_26 : decode cX11_ahead 26 = .ok (.aload_n 0, 1) := by decide +kernel
theorem dX11_ahead_27 : decode cX11_ahead 27 = .ok (.getfield 58, 3) := by decide +kernel
theorem dX11_ahead_30 : decode cX11_ahead 30 = .ok (.iload_n 2, 1) := by decide +kernel
theorem dX11_ahead_31 : decode cX11_ahead 31 = .ok (.iconst 0, 1) := by decide +kernel
theorem dX11_ahead_32 : decode cX11_ahead 32 = .ok (.invokevirtual 248, 3) := by decide +kernel
theorem dX11_ahead_35 : decode cX11_ahead 35 = .ok (.pop, 1) := by decide +kernel
theorem dX11_ahead_36 : decode cX11_ahead 36 = .ok (.iload_n 3, 1) := by decide +kernel
theorem dX11_ahead_37 : decode cX11_ahead 37 = .ok (.ifCond .eq 13, 3) := by decide +kernel
theorem dX11_ahead_40 : decode cX11_ahead 40 = .ok (.aload_n 0, 1) := by decide +kernel
theorem dX11_ahead_41 : decode cX11_ahead 41 = .ok (.getfield 58, 3) := by decide +kernel
theorem dX11_ahead_44 : decode cX11_ahead 44 = .ok (.getfield 154, 3) := by decide +kernel
theorem dX11_ahead_47 : decode cX11_ahead 47 = .ok (.iload_n 1, 1) := by decide +kernel
theorem dX11_ahead_48 : decode cX11_ahead 48 = .ok (.iaload, 1) := by decide +kernel
theorem dX11_ahead_49 : decode cX11_ahead 49 = .ok (.ireturn, 1) := by decide +kernel
theorem dX11_ahead_50 : decode cX11_ahead 50 = .ok (.aload_n 0, 1) := by decide +kernel
theorem dX11_ahead_51 : decode cX11_ahead 51 = .ok (.getfield 58, 3) := by decide +kernel
theorem dX11_ahead_54 : decode cX11_ahead 54 = .ok (.iload_n 1, 1) := by decide +kernel
theorem dX11_ahead_55 : decode cX11_ahead 55 = .ok (.aload_n 0, 1) := by decide +kernel
theorem dX11_ahead_56 : decode cX11_ahead 56 = .ok (.getfield 19, 3) := by decide +kernel
theorem dX11_ahead_59 : decode cX11_ahead 59 = .ok (.aload_n 0, 1) := by decide +kernel
theorem dX11_ahead_60 : decode cX11_ahead 60 = .ok (.getfield 58, 3) := by decide +kernel
theorem dX11_ahead_63 : decode cX11_ahead 63 = .ok (.invokevirtual 161, 3) := by decide +kernel
theorem dX11_ahead_66 : decode cX11_ahead 66 = .ok (.aload_n 0, 1) := by decide +kernel
theorem dX11_ahead_67 : decode cX11_ahead 67 = .ok (.getfield 58, 3) := by decide +kernel
theorem dX11_ahead_70 : decode cX11_ahead 70 = .ok (.getfield 169, 3) := by decide +kernel
theorem dX11_ahead_73 : decode cX11_ahead 73 = .ok (.aload_n 0, 1) := by decide +kernel
theorem dX11_ahead_74 : decode cX11_ahead 74 = .ok (.getfield 58, 3) := by decide +kernel
theorem dX11_ahead_77 : decode cX11_ahead 77 = .ok (.getfield 172, 3) := by decide +kernel
theorem dX11_ahead_80 : decode cX11_ahead 80 = .ok (.invokevirtual 175, 3) := by decide +kernel
theorem dX11_ahead_83 : decode cX11_ahead 83 = .ok (.ireturn, 1) := by decide +kernel
theorem dX11_odds_0 : decode cX11_odds 0 = .ok (.iload_n 1, 1) := by decide +kernel
theorem dX11_odds_1 : decode cX11_odds 1 = .ok (.iconst 0, 1) := by decide +kernel
theorem dX11_odds_2 : decode cX11_odds 2 = .ok (.bipush 6, 2) := by decide +kernel
theorem dX11_odds_4 : decode cX11_odds 4 = .ok (.invokestatic 244, 3) := by decide +kernel
theorem dX11_odds_7 : decode cX11_odds 7 = .ok (.iload_n 2, 1) := by decide +kernel
theorem dX11_odds_8 : decode cX11_odds 8 = .ok (.iconst 0, 1) := by decide +kernel
theorem dX11_odds_9 : decode cX11_odds 9 = .ok (.bipush 6, 2) := by decide +kernel
theorem dX11_odds_11 : decode cX11_odds 11 = .ok (.invokestatic 244, 3) := by decide +kernel
theorem dX11_odds_14 : decode cX11_odds 14 = .ok (.lconst 0, 1) := by decide +kernel
theorem dX11_odds_15 : decode cX11_odds 15 = .ok (.lstore_n 3, 1) := by decide +kernel
theorem dX11_odds_16 : decode cX11_odds 16 = .ok (.iload_n 2, 1) := by decide +kernel
theorem dX11_odds_17 : decode cX11_odds 17 = .ok (.istore 5, 2) := by decide +kernel
theorem dX11_odds_19 : decode cX11_odds 19 = .ok (.iload 5, 2) := by decide +kernel
theorem dX11_odds_21 : decode cX11_odds 21 = .ok (.iload_n 1, 1) := by decide +kernel
theorem dX11_odds_22 : decode cX11_odds 22 = .ok (.if_icmp .gt 51, 3) := by decide +kernel
theorem dX11_odds_25 : decode cX11_odds 25 = .ok (.lload_n 3, 1) := by decide +kernel
theorem dX11_odds_26 : decode cX11_odds 26 = .ok (.iload_n 1, 1) := by decide +kernel
theorem dX11_odds_27 : decode cX11_odds 27 = .ok (.iload 5, 2) := by decide +kernel
theorem dX11_odds_29 : decode cX11_odds 29 = .ok (.invokestatic 333, 3) := by decide +kernel
theorem dX11_odds_32 : decode cX11_odds 32 = .ok (.aload_n 0, 1) := by decide +kernel
theorem dX11_odds_33 : decode cX11_odds 33 = .ok (.getfield 54, 3) := by decide +kernel
theorem dX11_odds_36 : decode cX11_odds 36 = .ok (.getfield 337, 3) := by decide +kernel
theorem dX11_odds_39 : decode cX11_odds 39 = .ok (.i2l, 1) := by decide +kernel
theorem dX11_odds_40 : decode cX11_odds 40 = .ok (.iload 5, 2) := by decide +kernel
theorem dX11_odds_42 : decode cX11_odds 42 = .ok (.invokestatic 340, 3) := by decide +kernel
theorem dX11_odds_45 : decode cX11_odds 45 = .ok (.lmul, 1) := by decide +kernel
theorem dX11_odds_46 : decode cX11_odds 46 = .ok (.bipush 100, 2) := by decide +kernel
theorem dX11_odds_48 : decode cX11_odds 48 = .ok (.aload_n 0, 1) := by decide +kernel
theorem dX11_odds_49 : decode cX11_odds 49 = .ok (.getfield 54, 3) := by decide +kernel
theorem dX11_odds_52 : decode cX11_odds 52 = .ok (.getfield 337, 3) := by decide +kernel
theorem dX11_odds_55 : decode cX11_odds 55 = .ok (.isub, 1) := by decide +kernel
theorem dX11_odds_56 : decode cX11_odds 56 = .ok (.i2l, 1) := by decide +kernel
theorem dX11_odds_57 : decode cX11_odds 57 = .ok (.iload_n 1, 1) := by decide +kernel
theorem dX11_odds_58 : decode cX11_odds 58 = .ok (.iload 5, 2) := by decide +kernel
theorem dX11_odds_60 : decode cX11_odds 60 = .ok (.isub, 1) := by decide +kernel
theorem dX11_odds_61 : decode cX11_odds 61 = .ok (.invokestatic 340, 3) := by decide +kernel
theorem dX11_odds_64 : decode cX11_odds 64 = .ok (.lmul, 1) := by decide +kernel
theorem dX11_odds_65 : decode cX11_odds 65 = .ok (.ladd, 1) := by decide +kernel
theorem dX11_odds_66 : decode cX11_odds 66 = .ok (.lstore_n 3, 1) := by decide +kernel
theorem dX11_odds_67 : decode cX11_odds 67 = .ok (.iinc 5 1, 3) := by decide +kernel
theorem dX11_odds_70 : decode cX11_odds 70 = .ok (.goto (-51), 3) := by decide +kernel
theorem dX11_odds_73 : decode cX11_odds 73 = .ok (.ldc2_w 344, 3) := by decide +kernel
theorem dX11_odds_76 : decode cX11_odds 76 = .ok (.iload_n 1, 1) := by decide +kernel
theorem dX11_odds_77 : decode cX11_odds 77 = .ok (.invokestatic 340, 3) := by decide +kernel
theorem dX11_odds_80 : decode cX11_odds 80 = .ok (.lstore 5, 2) := by decide +kernel
theorem dX11_odds_82 : decode cX11_odds 82 = .ok (.lload 5, 2) := by decide +kernel
theorem dX11_odds_84 : decode cX11_odds 84 = .ok (.lconst 1, 1) := by decide +kernel
theorem dX11_odds_85 : decode cX11_odds 85 = .ok (.lcmp, 1) := by decide +kernel
theorem dX11_odds_86 : decode cX11_odds 86 = .ok (.ifCond .ge 7, 3) := by decide +kernel
theorem dX11_odds_89 : decode cX11_odds 89 = .ok (.iconst 0, 1) := by decide +kernel
theorem dX11_odds_90 : decode cX11_odds 90 = .ok (.goto 12, 3) := by decide +kernel
theorem dX11_odds_93 : decode cX11_odds 93 = .ok (.lload_n 3, 1) := by decide +kernel
theorem dX11_odds_94 : decode cX11_odds 94 = .ok (.ldc2_w 346, 3) := by decide +kernel
theorem dX11_odds_97 : decode cX11_odds 97 = .ok (.lmul, 1) := by decide +kernel
theorem dX11_odds_98 : decode cX11_odds 98 = .ok (.lload 5, 2) := by decide +kernel
theorem dX11_odds_100 : decode cX11_odds 100 = .ok (.ldiv, 1) := by decide +kernel
theorem dX11_odds_101 : decode cX11_odds 101 = .ok (.l2i, 1) := by decide +kernel
theorem dX11_odds_102 : decode cX11_odds 102 = .ok (.ireturn, 1) := by decide +kernel
theorem dX11_needs_0 : decode cX11_needs 0 = .ok (.iload_n 1, 1) := by decide +kernel
theorem dX11_needs_1 : decode cX11_needs 1 = .ok (.iconst 0, 1) := by decide +kernel
theorem dX11_needs_2 : decode cX11_needs 2 = .ok (.bipush 60, 2) := by decide +kernel
theorem dX11_needs_4 : decode cX11_needs 4 = .ok (.invokestatic 244, 3) := by decide +kernel
theorem dX11_needs_7 : decode cX11_needs 7 = .ok (.aload_n 0, 1) := by decide +kernel
theorem dX11_needs_8 : decode cX11_needs 8 = .ok (.getfield 58, 3) := by decide +kernel
theorem dX11_needs_11 : decode cX11_needs 11 = .ok (.aload_n 0, 1) := by decide +kernel
theorem dX11_needs_12 : decode cX11_needs 12 = .ok (.getfield 54, 3) := by decide +kernel
theorem dX11_needs_15 : decode cX11_needs 15 = .ok (.invokevirtual 101, 3) := by decide +kernel
theorem dX11_needs_18 : decode cX11_needs 18 = .ok (.aload_n 0, 1) := by decide +kernel
theorem dX11_needs_19 : decode cX11_needs 19 = .ok (.getfield 19, 3) := by decide +kernel
theorem dX11_needs_22 : decode cX11_needs 22 = .ok (.aload_n 0, 1) := by decide +kernel
theorem dX11_needs_23 : decode cX11_needs 23 = .ok (.getfield 58, 3) := by decide +kernel
theorem dX11_needs_26 : decode cX11_needs 26 = .ok (.iload_n 1, 1) := by decide +kernel
theorem dX11_needs_27 : decode cX11_needs 27 = .ok (.iconst 0, 1) := by decide +kernel
theorem dX11_needs_28 : decode cX11_needs 28 = .ok (.invokevirtual 248, 3) := by decide +kernel
theorem dX11_needs_31 : decode cX11_needs 31 = .ok (.ireturn, 1) := by decide +kernel
theorem dX11_trial_0 : decode cX11_trial 0 = .ok (.iload_n 1, 1) := by decide +kernel
theorem dX11_trial_1 : decode cX11_trial 1 = .ok (.iconst 0, 1) := by decide +kernel
theorem dX11_trial_2 : decode cX11_trial 2 = .ok (.bipush 60, 2) := by decide +kernel
theorem dX11_trial_4 : decode cX11_trial 4 = .ok (.invokestatic 244, 3) := by decide +kernel
theorem dX11_trial_7 : decode cX11_trial 7 = .ok (.aload_n 0, 1) := by decide +kernel
theorem dX11_trial_8 : decode cX11_trial 8 = .ok (.getfield 58, 3) := by decide +kernel
theorem dX11_trial_11 : decode cX11_trial 11 = .ok (.aload_n 0, 1) := by decide +kernel
theorem dX11_trial_12 : decode cX11_trial 12 = .ok (.getfield 54, 3) := by decide +kernel
theorem dX11_trial_15 : decode cX11_trial 15 = .ok (.invokevirtual 101, 3) := by decide +kernel
theorem dX11_trial_18 : decode cX11_trial 18 = .ok (.aload_n 0, 1) := by decide +kernel
theorem dX11_trial_19 : decode cX11_trial 19 = .ok (.getfield 19, 3) := by decide +kernel
theorem dX11_trial_22 : decode cX11_trial 22 = .ok (.aload_n 0, 1) := by decide +kernel
theorem dX11_trial_23 : decode cX11_trial 23 = .ok (.getfield 58, 3) := by decide +kernel
theorem dX11_trial_26 : decode cX11_trial 26 = .ok (.iload_n 1, 1) := by decide +kernel
theorem dX11_trial_27 : decode cX11_trial 27 = .ok (.iconst 1, 1) := by decide +kernel
theorem dX11_trial_28 : decode cX11_trial 28 = .ok (.invokevirtual 248, 3) := by decide +kernel
theorem dX11_trial_31 : decode cX11_trial 31 = .ok (.istore_n 3, 1) := by decide +kernel
theorem dX11_trial_32 : decode cX11_trial 32 = .ok (.iload_n 2, 1) := by decide +kernel
theorem dX11_trial_33 : decode cX11_trial 33 = .ok (.ifCond .eq 20, 3) := by decide +kernel
theorem dX11_trial_36 : decode cX11_trial 36 = .ok (.aload_n 0, 1) := by decide +kernel
theorem dX11_trial_37 : decode cX11_trial 37 = .ok (.getfield 19, 3) := by decide +kernel
theorem dX11_trial_40 : decode cX11_trial 40 = .ok (.aload_n 0, 1) := by decide +kernel
theorem dX11_trial_41 : decode cX11_trial 41 = .ok (.getfield 58, 3) := by decide +kernel
theorem dX11_trial_44 : decode cX11_trial 44 = .ok (.invokevirtual 179, 3) := by decide +kernel
theorem dX11_trial_47 : decode cX11_trial 47 = .ok (.invokestatic 257, 3) := by decide +kernel
theorem dX11_trial_50 : decode cX11_trial 50 = .ok (.goto 4, 3) := by decide +kernel
theorem dX11_trial_53 : decode cX11_trial 53 = .ok (.iload_n 3, 1) := by decide +kernel
theorem dX11_trial_54 : decode cX11_trial 54 = .ok (.ireturn, 1) := by decide +kernel
theorem dX11_span_0 : decode cX11_span 0 = .ok (.iload_n 1, 1) := by decide +kernel
theorem dX11_span_1 : decode cX11_span 1 = .ok (.iconst 0, 1) := by decide +kernel
theorem dX11_span_2 : decode cX11_span 2 = .ok (.bipush 60, 2) := by decide +kernel
theorem dX11_span_4 : decode cX11_span 4 = .ok (.invokestatic 244, 3) := by decide +kernel
theorem dX11_span_7 : decode cX11_span 7 = .ok (.bipush 16, 2) := by decide +kernel
theorem dX11_span_9 : decode cX11_span 9 = .ok (.istore_n 3, 1) := by decide +kernel
theorem dX11_span_10 : decode cX11_span 10 = .ok (.iconst 0, 1) := by decide +kernel
theorem dX11_span_11 : decode cX11_span 11 = .ok (.istore 4, 2) := by decide +kernel
theorem dX11_span_13 : decode cX11_span 13 = .ok (.iconst 1, 1) := by decide +kernel
theorem dX11_span_14 : decode cX11_span 14 = .ok (.istore 5, 2) := by decide +kernel
theorem dX11_span_16 : decode cX11_span 16 = .ok (.iload 5, 2) := by decide +kernel
theorem dX11_span_18 : decode cX11_span 18 = .ok (.bipush 6, 2) := by decide +kernel
theorem dX11_span_20 : decode cX11_span 20 = .ok (.if_icmp .gt 60, 3) := by decide +kernel
theorem dX11_span_23 : decode cX11_span 23 = .ok (.aload_n 0, 1) := by decide +kernel
theorem dX11_span_24 : decode cX11_span 24 = .ok (.getfield 58, 3) := by decide +kernel
theorem dX11_span_27 : decode cX11_span 27 = .ok (.aload_n 0, 1) := by decide +kernel
theorem dX11_span_28 : decode cX11_span 28 = .ok (.getfield 54, 3) := by decide +kernel
theorem dX11_span_31 : decode cX11_span 31 = .ok (.invokevirtual 101, 3) := by decide +kernel
theorem dX11_span_34 : decode cX11_span 34 = .ok (.aload_n 0, 1) := by decide +kernel
theorem dX11_span_35 : decode cX11_span 35 = .ok (.getfield 58, 3) := by decide +kernel
theorem dX11_span_38 : decode cX11_span 38 = .ok (.iload 5, 2) := by decide +kernel
theorem dX11_span_40 : decode cX11_span 40 = .ok (.putfield 348, 3) := by decide +kernel
theorem dX11_span_43 : decode cX11_span 43 = .ok (.aload_n 0, 1) := by decide +kernel
theorem dX11_span_44 : decode cX11_span 44 = .ok (.getfield 19, 3) := by decide +kernel
theorem dX11_span_47 : decode cX11_span 47 = .ok (.aload_n 0, 1) := by decide +kernel
theorem dX11_span_48 : decode cX11_span 48 = .ok (.getfield 58, 3) := by decide +kernel
theorem dX11_span_51 : decode cX11_span 51 = .ok (.iload_n 1, 1) := by decide +kernel
theorem dX11_span_52 : decode cX11_span 52 = .ok (.iconst 1, 1) := by decide +kernel
theorem dX11_span_53 : decode cX11_span 53 = .ok (.invokevirtual 248, 3) := by decide +kernel
theorem dX11_span_56 : decode cX11_span 56 = .ok (.istore 6, 2) := by decide +kernel
theorem dX11_span_58 : decode cX11_span 58 = .ok (.iload_n 3, 1) := by decide +kernel
theorem dX11_span_59 : decode cX11_span 59 = .ok (.iload 6, 2) := by decide +kernel
theorem dX11_span_61 : decode cX11_span 61 = .ok (.invokestatic 240, 3) := by decide +kernel
theorem dX11_span_64 : decode cX11_span 64 = .ok (.istore_n 3, 1) := by decide +kernel
theorem dX11_span_65 : decode cX11_span 65 = .ok (.iload 4, 2) := by decide +kernel
theorem dX11_span_67 : decode cX11_span 67 = .ok (.iload 6, 2) := by decide +kernel
theorem dX11_span_69 : decode cX11_span 69 = .ok (.invokestatic 330, 3) := by decide +kernel
theorem dX11_span_72 : decode cX11_span 72 = .ok (.istore 4, 2) := by decide +kernel
theorem dX11_span_74 : decode cX11_span 74 = .ok (.iinc 5 1, 3) := by decide +kernel
theorem dX11_span_77 : decode cX11_span 77 = .ok (.goto (-61), 3) := by decide +kernel
theorem dX11_span_80 : decode cX11_span 80 = .ok (.iload_n 2, 1) := by decide +kernel
theorem dX11_span_81 : decode cX11_span 81 = .ok (.ifCond .eq 8, 3) := by decide +kernel
theorem dX11_span_84 : decode cX11_span 84 = .ok (.iload 4, 2) := by decide +kernel
theorem dX11_span_86 : decode cX11_span 86 = .ok (.goto 4, 3) := by decide +kernel
theorem dX11_span_89 : decode cX11_span 89 = .ok (.iload_n 3, 1) := by decide +kernel
theorem dX11_span_90 : decode cX11_span 90 = .ok (.ireturn, 1) := by decide +kernel
theorem dX11_led_0 : decode cX11_led 0 = .ok (.iload_n 1, 1) := by decide +kernel
theorem dX11_led_1 : decode cX11_led 1 = .ok (.invokestatic 136, 3) := by decide +kernel
theorem dX11_led_4 : decode cX11_led 4 = .ok (.iload_n 2, 1) := by decide +kernel
theorem dX11_led_5 : decode cX11_led 5 = .ok (.ifCond .eq 17, 3) := by decide +kernel
theorem dX11_led_8 : decode cX11_led 8 = .ok (.aload_n 0, 1) := by decide +kernel
theorem dX11_led_9 : decode cX11_led 9 = .ok (.getfield 54, 3) := by decide +kernel
theorem dX11_led_12 : decode cX11_led 12 = .ok (.getfield 216, 3) := by decide +kernel
theorem dX11_led_15 : decode cX11_led 15 = .ok (.iload_n 1, 1) := by decide +kernel
theorem dX11_led_16 : decode cX11_led 16 = .ok (.invokevirtual 351, 3) := by decide +kernel
theorem dX11_led_19 : decode cX11_led 19 = .ok (.goto 14, 3) := by decide +kernel
theorem dX11_led_22 : decode cX11_led 22 = .ok (.aload_n 0, 1) := by decide +kernel
theorem dX11_led_23 : decode cX11_led 23 = .ok (.getfield 54, 3) := by decide +kernel
theorem dX11_led_26 : decode cX11_led 26 = .ok (.getfield 216, 3) := by decide +kernel
theorem dX11_led_29 : decode cX11_led 29 = .ok (.iload_n 1, 1) := by decide +kernel
theorem dX11_led_30 : decode cX11_led 30 = .ok (.invokevirtual 354, 3) := by decide +kernel
theorem dX11_led_33 : decode cX11_led 33 = .ok (.ireturn, 1) := by decide +kernel
theorem dX11_log_0 : decode cX11_log 0 = .ok (.iload_n 2, 1) := by decide +kernel
theorem dX11_log_1 : decode cX11_log 1 = .ok (.ifCond .lt 8, 3) := by decide +kernel
theorem dX11_log_4 : decode cX11_log 4 = .ok (.iload_n 2, 1) := by decide +kernel
theorem dX11_log_5 : decode cX11_log 5 = .ok (.iconst 3, 1) := by decide +kernel
theorem dX11_log_6 : decode cX11_log 6 = .ok (.if_icmp .le 11, 3) := by decide +kernel
theorem dX11_log_9 : decode cX11_log 9 = .ok (.new 182, 3) := by decide +kernel
theorem dX11_log_12 : decode cX11_log 12 = .ok (.dup, 1) := by decide +kernel
theorem dX11_log_13 : decode cX11_log 13 = .ok (.invokespecial 184, 3) := by decide +kernel
theorem dX11_log_16 : decode cX11_log 16 = .ok (.athrow, 1) := by decide +kernel
theorem dX11_log_17 : decode cX11_log 17 = .ok (.aload_n 0, 1) := by decide +kernel
theorem dX11_log_18 : decode cX11_log 18 = .ok (.getfield 54, 3) := by decide +kernel
theorem dX11_log_21 : decode cX11_log 21 = .ok (.getfield 216, 3) := by decide +kernel
theorem dX11_log_24 : decode cX11_log 24 = .ok (.iload_n 1, 1) := by decide +kernel
theorem dX11_log_25 : decode cX11_log 25 = .ok (.iload_n 2, 1) := by decide +kernel
theorem dX11_log_26 : decode cX11_log 26 = .ok (.invokevirtual 357, 3) := by decide +kernel
theorem dX11_log_29 : decode cX11_log 29 = .ok (.ireturn, 1) := by decide +kernel
theorem dX11_seed_0 : decode cX11_seed 0 = .ok (.aload_n 0, 1) := by decide +kernel
theorem dX11_seed_1 : decode cX11_seed 1 = .ok (.getfield 54, 3) := by decide +kernel
theorem dX11_seed_4 : decode cX11_seed 4 = .ok (.getfield 348, 3) := by decide +kernel
theorem dX11_seed_7 : decode cX11_seed 7 = .ok (.istore_n 2, 1) := by decide +kernel
theorem dX11_seed_8 : decode cX11_seed 8 = .ok (.aload_n 0, 1) := by decide +kernel
theorem dX11_seed_9 : decode cX11_seed 9 = .ok (.getfield 54, 3) := by decide +kernel
theorem dX11_seed_12 : decode cX11_seed 12 = .ok (.iload_n 1, 1) := by decide +kernel
theorem dX11_seed_13 : decode cX11_seed 13 = .ok (.putfield 348, 3) := by decide +kernel
theorem dX11_seed_16 : decode cX11_seed 16 = .ok (.iload_n 2, 1) := by decide +kernel
theorem dX11_seed_17 : decode cX11_seed 17 = .ok (.ireturn, 1) := by decide +kernel
theorem dX11_undo_0 : decode cX11_undo 0 = .ok (.aload_n 0, 1) := by decide +kernel
theorem dX11_undo_1 : decode cX11_undo 1 = .ok (.getfield 40, 3) := by decide +kernel
theorem dX11_undo_4 : decode cX11_undo 4 = .ok (.aload_n 0, 1) := by decide +kernel
theorem dX11_undo_5 : decode cX11_undo 5 = .ok (.getfield 54, 3) := by decide +kernel
theorem dX11_undo_8 : decode cX11_undo 8 = .ok (.invokevirtual 360, 3) := by decide +kernel
theorem dX11_undo_11 : decode cX11_undo 11 = .ok (.ireturn, 1) := by decide +kernel
theorem dX11_image_0 : decode cX11_image 0 = .ok (.aload_n 0, 1) := by decide +kernel
theorem dX11_image_1 : decode cX11_image 1 = .ok (.getfield 61, 3) := by decide +kernel
theorem dX11_image_4 : decode cX11_image 4 = .ok (.aload_n 0, 1) := by decide +kernel
theorem dX11_image_5 : decode cX11_image 5 = .ok (.getfield 54, 3) := by decide +kernel
theorem dX11_image_8 : decode cX11_image 8 = .ok (.invokevirtual 101, 3) := by decide +kernel
theorem dX11_image_11 : decode cX11_image 11 = .ok (.aload_n 0, 1) := by decide +kernel
theorem dX11_image_12 : decode cX11_image 12 = .ok (.getfield 67, 3) := by decide +kernel
theorem dX11_image_15 : decode cX11_image 15 = .ok (.aload_n 0, 1) := by decide +kernel
theorem dX11_image_16 : decode cX11_image 16 = .ok (.getfield 19, 3) := by decide +kernel
theorem dX11_image_19 : decode cX11_image 19 = .ok (.getfield 127, 3) := by decide +kernel
theorem dX11_image_22 : decode cX11_image 22 = .ok (.invokevirtual 130, 3) := by decide +kernel
theorem dX11_image_25 : decode cX11_image 25 = .ok (.aload_n 0, 1) := by decide +kernel
theorem dX11_image_26 : decode cX11_image 26 = .ok (.iconst 1, 1) := by decide +kernel
theorem dX11_image_27 : decode cX11_image 27 = .ok (.putfield 364, 3) := by decide +kernel
theorem dX11_image_30 : decode cX11_image 30 = .ok (.return_, 1) := by decide +kernel
theorem dX11_back_0 : decode cX11_back 0 = .ok (.aload_n 0, 1) := by decide +kernel
theorem dX11_back_1 : decode cX11_back 1 = .ok (.getfield 364, 3) := by decide +kernel
theorem dX11_back_4 : decode cX11_back 4 = .ok (.ifCond .ne 5, 3) := by decide +kernel
theorem dX11_back_7 : decode cX11_back 7 = .ok (.iconst 0, 1) := by decide +kernel
theorem dX11_back_8 : decode cX11_back 8 = .ok (.ireturn, 1) := by decide +kernel
theorem dX11_back_9 : decode cX11_back 9 = .ok (.aload_n 0, 1) := by decide +kernel
theorem dX11_back_10 : decode cX11_back 10 = .ok (.getfield 54, 3) := by decide +kernel
theorem dX11_back_13 : decode cX11_back 13 = .ok (.aload_n 0, 1) := by decide +kernel
theorem dX11_back_14 : decode cX11_back 14 = .ok (.getfield 61, 3) := by decide +kernel
theorem dX11_back_17 : decode cX11_back 17 = .ok (.invokevirtual 101, 3) := by decide +kernel
theorem dX11_back_20 : decode cX11_back 20 = .ok (.aload_n 0, 1) := by decide +kernel
theorem dX11_back_21 : decode cX11_back 21 = .ok (.getfield 19, 3) := by decide +kernel
theorem dX11_back_24 : decode cX11_back 24 = .ok (.getfield 127, 3) := by decide +kernel
theorem dX11_back_27 : decode cX11_back 27 = .ok (.aload_n 0, 1) := by decide +kernel
theorem dX11_back_28 : decode cX11_back 28 = .ok (.getfield 67, 3) := by decide +kernel
theorem dX11_back_31 : decode cX11_back 31 = .ok (.invokevirtual 130, 3) := by decide +kernel
theorem dX11_back_34 : decode cX11_back 34 = .ok (.aload_n 0, 1) := by decide +kernel
theorem dX11_back_35 : decode cX11_back 35 = .ok (.getfield 40, 3) := by decide +kernel
theorem dX11_back_38 : decode cX11_back 38 = .ok (.invokevirtual 118, 3) := by decide +kernel
theorem dX11_back_41 : decode cX11_back 41 = .ok (.iconst 1, 1) := by decide +kernel
theorem dX11_back_42 : decode cX11_back 42 = .ok (.ireturn, 1) := by decide +kernel
theorem dX11_count_0 : decode cX11_count 0 = .ok (.iload_n 1, 1) := by decide +kernel
theorem dX11_count_1 : decode cX11_count 1 = .ok (.tableswitch 171 0 11 #[63, 74, 82, 93, 101, 109, 117, 125, 133, 144, 152, 163], 63) := by decide +kernel
theorem dX11_count_64 : decode cX11_count 64 = .ok (.aload_n 0, 1) := by decide +kernel
theorem dX11_count_65 : decode cX11_count 65 = .ok (.getfield 54, 3) := by decide +kernel
theorem dX11_count_68 : decode cX11_count 68 = .ok (.getfield 188, 3) := by decide +kernel
theorem dX11_count_71 : decode cX11_count 71 = .ok (.getfield 305, 3) := by decide +kernel
theorem dX11_count_74 : decode cX11_count 74 = .ok (.ireturn, 1) := by decide +kernel
theorem dX11_count_75 : decode cX11_count 75 = .ok (.aload_n 0, 1) := by decide +kernel
theorem dX11_count_76 : decode cX11_count 76 = .ok (.getfield 54, 3) := by decide +kernel
theorem dX11_count_79 : decode cX11_count 79 = .ok (.getfield 112, 3) := by decide +kernel
theorem dX11_count_82 : decode cX11_count 82 = .ok (.ireturn, 1) := by decide +kernel
theorem dX11_count_83 : decode cX11_count 83 = .ok (.aload_n 0, 1) := by decide +kernel
theorem dX11_count_84 : decode cX11_count 84 = .ok (.getfield 19, 3) := by decide +kernel
theorem dX11_count_87 : decode cX11_count 87 = .ok (.getfield 127, 3) := by decide +kernel
theorem dX11_count_90 : decode cX11_count 90 = .ok (.getfield 133, 3) := by decide +kernel
theorem dX11_count_93 : decode cX11_count 93 = .ok (.ireturn, 1) := by decide +kernel
theorem dX11_count_94 : decode cX11_count 94 = .ok (.aload_n 0, 1) := by decide +kernel
theorem dX11_count_95 : decode cX11_count 95 = .ok (.getfield 54, 3) := by decide +kernel
theorem dX11_count_98 : decode cX11_count 98 = .ok (.getfield 220, 3) := by decide +kernel
theorem dX11_count_101 : decode cX11_count 101 = .ok (.ireturn, 1) := by decide +kernel
theorem dX11_count_102 : decode cX11_count 102 = .ok (.aload_n 0, 1) := by decide +kernel
theorem dX11_count_103 : decode cX11_count 103 = .ok (.getfield 54, 3) := by decide +kernel
theorem dX11_count_106 : decode cX11_count 106 = .ok (.getfield 169, 3) := by decide +kernel
theorem dX11_count_109 : decode cX11_count 109 = .ok (.ireturn, 1) := by decide +kernel
theorem dX11_count_110 : decode cX11_count 110 = .ok (.aload_n 0, 1) := by decide +kernel
theorem dX11_count_111 : decode cX11_count 111 = .ok (.getfield 54, 3) := by decide +kernel
theorem dX11_count_114 : decode cX11_count 114 = .ok (.getfield 172, 3) := by decide +kernel
theorem dX11_count_117 : decode cX11_count 117 = .ok (.ireturn, 1) := by decide +kernel
theorem dX11_count_118 : decode cX11_count 118 = .ok (.aload_n 0, 1) := by decide +kernel
theorem dX11_count_119 : decode cX11_count 119 = .ok (.getfield 54, 3) := by decide +kernel
theorem dX11_count_122 : decode cX11_count 122 = .ok (.getfield 237, 3) := by decide +kernel
theorem dX11_count_125 : decode cX11_count 125 = .ok (.ireturn, 1) := by decide +kernel
theorem dX11_count_126 : decode cX11_count 126 = .ok (.aload_n 0, 1) := by decide +kernel
theorem dX11_count_127 : decode cX11_count 127 = .ok (.getfield 54, 3) := by decide +kernel
theorem dX11_count_130 : decode cX11_count 130 = .ok (.getfield 276, 3) := by decide +kernel
theorem dX11_count_133 : decode cX11_count 133 = .ok (.ireturn, 1) := by decide +kernel
theorem dX11_count_134 : decode cX11_count 134 = .ok (.aload_n 0, 1) := by decide +kernel
theorem dX11_count_135 : decode cX11_count 135 = .ok (.getfield 54, 3) := by decide +kernel
theorem dX11_count_138 : decode cX11_count 138 = .ok (.getfield 188, 3) := by decide +kernel
theorem dX11_count_141 : decode cX11_count 141 = .ok (.invokevirtual 368, 3) := by decide +kernel
theorem dX11_count_144 : decode cX11_count 144 = .ok (.ireturn, 1) := by decide +kernel
theorem dX11_count_145 : decode cX11_count 145 = .ok (.aload_n 0, 1) := by decide +kernel
theorem dX11_count_146 : decode cX11_count 146 = .ok (.getfield 54, 3) := by decide +kernel
theorem dX11_count_149 : decode cX11_count 149 = .ok (.getfield 371, 3) := by decide +kernel
theorem dX11_count_152 : decode cX11_count 152 = .ok (.ireturn, 1) := by decide +kernel
theorem dX11_count_153 : decode cX11_count 153 = .ok (.aload_n 0, 1) := by decide +kernel
theorem dX11_count_154 : decode cX11_count 154 = .ok (.getfield 54, 3) := by decide +kernel
theorem dX11_count_157 : decode cX11_count 157 = .ok (.getfield 216, 3) := by decide +kernel
theorem dX11_count_160 : decode cX11_count 160 = .ok (.getfield 374, 3) := by decide +kernel
theorem dX11_count_163 : decode cX11_count 163 = .ok (.ireturn, 1) := by decide +kernel
theorem dX11_count_164 : decode cX11_count 164 = .ok (.aload_n 0, 1) := by decide +kernel
theorem dX11_count_165 : decode cX11_count 165 = .ok (.getfield 40, 3) := by decide +kernel
theorem dX11_count_168 : decode cX11_count 168 = .ok (.getfield 375, 3) := by decide +kernel
theorem dX11_count_171 : decode cX11_count 171 = .ok (.ireturn, 1) := by decide +kernel
theorem dX11_count_172 : decode cX11_count 172 = .ok (.iconst (-1), 1) := by decide +kernel
theorem dX11_count_173 : decode cX11_count 173 = .ok (.ireturn, 1) := by decide +kernel
theorem dX11_checkPlace_0 : decode cX11_checkPlace 0 = .ok (.iload_n 0, 1) := by decide +kernel
theorem dX11_checkPlace_1 : decode cX11_checkPlace 1 = .ok (.ifCond .lt 9, 3) := by decide +kernel
theorem dX11_checkPlace_4 : decode cX11_checkPlace 4 = .ok (.iload_n 0, 1) := by decide +kernel
theorem dX11_checkPlace_5 : decode cX11_checkPlace 5 = .ok (.bipush 16, 2) := by decide +kernel
theorem dX11_checkPlace_7 : decode cX11_checkPlace 7 = .ok (.if_icmp .lt 11, 3) := by decide +kernel
theorem dX11_checkPlace_10 : decode cX11_checkPlace 10 = .ok (.new 376, 3) := by decide +kernel
theorem dX11_checkPlace_13 : decode cX11_checkPlace 13 = .ok (.dup, 1) := by decide +kernel
theorem dX11_checkPlace_14 : decode cX11_checkPlace 14 = .ok (.invokespecial 378, 3) := by decide +kernel
theorem dX11_checkPlace_17 : decode cX11_checkPlace 17 = .ok (.athrow, 1) := by decide +kernel
theorem dX11_checkPlace_18 : decode cX11_checkPlace 18 = .ok (.return_, 1) := by decide +kernel
theorem dX11_checkPinner_0 : decode cX11_checkPinner 0 = .ok (.iload_n 1, 1) := by decide +kernel
theorem dX11_checkPinner_1 : decode cX11_checkPinner 1 = .ok (.ifCond .lt 17, 3) := by decide +kernel
theorem dX11_checkPinner_4 : decode cX11_checkPinner 4 = .ok (.iload_n 1, 1) := by decide +kernel
theorem dX11_checkPinner_5 : decode cX11_checkPinner 5 = .ok (.aload_n 0, 1) := by decide +kernel
theorem dX11_checkPinner_6 : decode cX11_checkPinner 6 = .ok (.getfield 54, 3) := by decide +kernel
theorem dX11_checkPinner_9 : decode cX11_checkPinner 9 = .ok (.getfield 188, 3) := by decide +kernel
theorem dX11_checkPinner_12 : decode cX11_checkPinner 12 = .ok (.getfield 305, 3) := by decide +kernel
theorem dX11_checkPinner_15 : decode cX11_checkPinner 15 = .ok (.if_icmp .lt 11, 3) := by decide +kernel
theorem dX11_checkPinner_18 : decode cX11_checkPinner 18 = .ok (.new 376, 3) := by decide +kernel
theorem dX11_checkPinner_21 : decode cX11_checkPinner 21 = .ok (.dup, 1) := by decide +kernel
theorem dX11_checkPinner_22 : decode cX11_checkPinner 22 = .ok (.invokespecial 378, 3) := by decide +kernel
theorem dX11_checkPinner_25 : decode cX11_checkPinner 25 = .ok (.athrow, 1) := by decide +kernel
theorem dX11_checkPinner_26 : decode cX11_checkPinner 26 = .ok (.return_, 1) := by decide +kernel
theorem dX11_checkNumber_0 : decode cX11_checkNumber 0 = .ok (.iload_n 0, 1) := by decide +kernel
theorem dX11_checkNumber_1 : decode cX11_checkNumber 1 = .ok (.iload_n 1, 1) := by decide +kernel
theorem dX11_checkNumber_2 : decode cX11_checkNumber 2 = .ok (.if_icmp .lt 8, 3) := by decide +kernel
theorem dX11_checkNumber_5 : decode cX11_checkNumber 5 = .ok (.iload_n 0, 1) := by decide +kernel
theorem dX11_checkNumber_6 : decode cX11_checkNumber 6 = .ok (.iload_n 2, 1) := by decide +kernel
theorem dX11_checkNumber_7 : decode cX11_checkNumber 7 = .ok (.if_icmp .le 11, 3) := by decide +kernel
theorem dX11_checkNumber_10 : decode cX11_checkNumber 10 = .ok (.new 109, 3) := by decide +kernel
theorem dX11_checkNumber_13 : decode cX11_checkNumber 13 = .ok (.dup, 1) := by decide +kernel
theorem dX11_checkNumber_14 : decode cX11_checkNumber 14 = .ok (.invokespecial 111, 3) := by decide +kernel
theorem dX11_checkNumber_17 : decode cX11_checkNumber 17 = .ok (.athrow, 1) := by decide +kernel
theorem dX11_checkNumber_18 : decode cX11_checkNumber 18 = .ok (.return_, 1) := by decide +kernel
theorem dX11_has_0 : decode cX11_has 0 = .ok (.iload_n 0, 1) := by decide +kernel
theorem dX11_has_1 : decode cX11_has 1 = .ok (.iload_n 1, 1) := by decide +kernel
theorem dX11_has_2 : decode cX11_has 2 = .ok (.iushr, 1) := by decide +kernel
theorem dX11_has_3 : decode cX11_has 3 = .ok (.iconst 1, 1) := by decide +kernel
theorem dX11_has_4 : decode cX11_has 4 = .ok (.iand, 1) := by decide +kernel
theorem dX11_has_5 : decode cX11_has 5 = .ok (.ifCond .eq 7, 3) := by decide +kernel
theorem dX11_has_8 : decode cX11_has 8 = .ok (.iconst 1, 1) := by decide +kernel
theorem dX11_has_9 : decode cX11_has 9 = .ok (.goto 4, 3) := by decide +kernel
theorem dX11_has_12 : decode cX11_has 12 = .ok (.iconst 0, 1) := by decide +kernel
theorem dX11_has_13 : decode cX11_has 13 = .ok (.ireturn, 1) := by decide +kernel
theorem dX11_distance_0 : decode cX11_distance 0 = .ok (.iconst 1, 1) := by decide +kernel
theorem dX11_distance_1 : decode cX11_distance 1 = .ok (.iload_n 1, 1) := by decide +kernel
theorem dX11_distance_2 : decode cX11_distance 2 = .ok (.ishl, 1) := by decide +kernel
theorem dX11_distance_3 : decode cX11_distance 3 = .ok (.istore_n 2, 1) := by decide +kernel
theorem dX11_distance_4 : decode cX11_distance 4 = .ok (.iconst 0, 1) := by decide +kernel
theorem dX11_distance_5 : decode cX11_distance 5 = .ok (.istore_n 3, 1) := by decide +kernel
theorem dX11_distance_6 : decode cX11_distance 6 = .ok (.iload_n 3, 1) := by decide +kernel
theorem dX11_distance_7 : decode cX11_distance 7 = .ok (.bipush 16, 2) := by decide +kernel
theorem dX11_distance_9 : decode cX11_distance 9 = .ok (.if_icmp .ge 23, 3) := by decide +kernel
theorem dX11_distance_12 : decode cX11_distance 12 = .ok (.iload_n 0, 1) := by decide +kernel
theorem dX11_distance_13 : decode cX11_distance 13 = .ok (.iload_n 2, 1) := by decide +kernel
theorem dX11_distance_14 : decode cX11_distance 14 = .ok (.iload_n 3, 1) := by decide +kernel
theorem dX11_distance_15 : decode cX11_distance 15 = .ok (.ishl, 1) := by decide +kernel
theorem dX11_distance_16 : decode cX11_distance 16 = .ok (.iload_n 2, 1) := by decide +kernel
theorem dX11_distance_17 : decode cX11_distance 17 = .ok (.iload_n 3, 1) := by decide +kernel
theorem dX11_distance_18 : decode cX11_distance 18 = .ok (.iushr, 1) := by decide +kernel
theorem dX11_distance_19 : decode cX11_distance 19 = .ok (.ior, 1) := by decide +kernel
theorem dX11_distance_20 : decode cX11_distance 20 = .ok (.iand, 1) := by decide +kernel
theorem dX11_distance_21 : decode cX11_distance 21 = .ok (.ifCond .eq 5, 3) := by decide +kernel
theorem dX11_distance_24 : decode cX11_distance 24 = .ok (.iload_n 3, 1) := by decide +kernel
theorem dX11_distance_25 : decode cX11_distance 25 = .ok (.ireturn, 1) := by decide +kernel
theorem dX11_distance_26 : decode cX11_distance 26 = .ok (.iinc 3 1, 3) := by decide +kernel
theorem dX11_distance_29 : decode cX11_distance 29 = .ok (.goto (-23), 3) := by decide +kernel
theorem dX11_distance_32 : decode cX11_distance 32 = .ok (.bipush 16, 2) := by decide +kernel
theorem dX11_distance_34 : decode cX11_distance 34 = .ok (.ireturn, 1) := by decide +kernel
theorem dX11_bitOf_0 : decode cX11_bitOf 0 = .ok (.iload_n 0, 1) := by decide +kernel
theorem dX11_bitOf_1 : decode cX11_bitOf 1 = .ok (.iconst (-1), 1) := by decide +kernel
theorem dX11_bitOf_2 : decode cX11_bitOf 2 = .ok (.if_icmp .ne 7, 3) := by decide +kernel
theorem dX11_bitOf_5 : decode cX11_bitOf 5 = .ok (.iconst 0, 1) := by decide +kernel
theorem dX11_bitOf_6 : decode cX11_bitOf 6 = .ok (.goto 6, 3) := by decide +kernel
theorem dX11_bitOf_9 : decode cX11_bitOf 9 = .ok (.iconst 1, 1) := by decide +kernel
theorem dX11_bitOf_10 : decode cX11_bitOf 10 = .ok (.iload_n 0, 1) := by decide +kernel
theorem dX11_bitOf_11 : decode cX11_bitOf 11 = .ok (.ishl, 1) := by decide +kernel
theorem dX11_bitOf_12 : decode cX11_bitOf 12 = .ok (.ireturn, 1) := by decide +kernel
theorem dX11_standingWithout_0 : decode cX11_standingWithout 0 = .ok (.aload_n 0, 1) := by decide +kernel
theorem dX11_standingWithout_1 : decode cX11_standingWithout 1 = .ok (.getfield 19, 3) := by decide +kernel
theorem dX11_standingWithout_4 : decode cX11_standingWithout 4 = .ok (.aload_n 0, 1) := by decide +kernel
theorem dX11_standingWithout_5 : decode cX11_standingWithout 5 = .ok (.getfield 54, 3) := by decide +kernel
theorem dX11_standingWithout_8 : decode cX11_standingWithout 8 = .ok (.aload_n 0, 1) := by decide +kernel
theorem dX11_standingWithout_9 : decode cX11_standingWithout 9 = .ok (.getfield 54, 3) := by decide +kernel
theorem dX11_standingWithout_12 : decode cX11_standingWithout 12 = .ok (.getfield 276, 3) := by decide +kernel
theorem dX11_standingWithout_15 : decode cX11_standingWithout 15 = .ok (.iconst 1, 1) := by decide +kernel
theorem dX11_standingWithout_16 : decode cX11_standingWithout 16 = .ok (.iload_n 1, 1) := by decide +kernel
theorem dX11_standingWithout_17 : decode cX11_standingWithout 17 = .ok (.ishl, 1) := by decide +kernel
theorem dX11_standingWithout_18 : decode cX11_standingWithout 18 = .ok (.iconst (-1), 1) := by decide +kernel
theorem dX11_standingWithout_19 : decode cX11_standingWithout 19 = .ok (.ixor, 1) := by decide +kernel
theorem dX11_standingWithout_20 : decode cX11_standingWithout 20 = .ok (.iand, 1) := by decide +kernel
theorem dX11_standingWithout_21 : decode cX11_standingWithout 21 = .ok (.invokevirtual 279, 3) := by decide +kernel
theorem dX11_standingWithout_24 : decode cX11_standingWithout 24 = .ok (.ireturn, 1) := by decide +kernel
theorem dX11_leastPins_0 : decode cX11_leastPins 0 = .ok (.iconst 1, 1) := by decide +kernel
theorem dX11_leastPins_1 : decode cX11_leastPins 1 = .ok (.iload_n 1, 1) := by decide +kernel
theorem dX11_leastPins_2 : decode cX11_leastPins 2 = .ok (.ishl, 1) := by decide +kernel
theorem dX11_leastPins_3 : decode cX11_leastPins 3 = .ok (.iconst 1, 1) := by decide +kernel
theorem dX11_leastPins_4 : decode cX11_leastPins 4 = .ok (.isub, 1) := by decide +kernel
theorem dX11_leastPins_5 : decode cX11_leastPins 5 = .ok (.istore 4, 2) := by decide +kernel
theorem dX11_leastPins_7 : decode cX11_leastPins 7 = .ok (.iconst 0, 1) := by decide +kernel
theorem dX11_leastPins_8 : decode cX11_leastPins 8 = .ok (.istore 5, 2) := by decide +kernel
theorem dX11_leastPins_10 : decode cX11_leastPins 10 = .ok (.iload 5, 2) := by decide +kernel
theorem dX11_leastPins_12 : decode cX11_leastPins 12 = .ok (.ldc 252, 2) := by decide +kernel
theorem dX11_leastPins_14 : decode cX11_leastPins 14 = .ok (.if_icmp .ge 63, 3) := by decide +kernel
theorem dX11_leastPins_17 : decode cX11_leastPins 17 = .ok (.iload 4, 2) := by decide +kernel
theorem dX11_leastPins_19 : decode cX11_leastPins 19 = .ok (.ldc 252, 2) := by decide +kernel
theorem dX11_leastPins_21 : decode cX11_leastPins 21 = .ok (.if_icmp .gt 56, 3) := by decide +kernel
theorem dX11_leastPins_24 : decode cX11_leastPins 24 = .ok (.iload 4, 2) := by decide +kernel
theorem dX11_leastPins_26 : decode cX11_leastPins 26 = .ok (.iload_n 2, 1) := by decide +kernel
theorem dX11_leastPins_27 : decode cX11_leastPins 27 = .ok (.iconst (-1), 1) := by decide +kernel
theorem dX11_leastPins_28 : decode cX11_leastPins 28 = .ok (.ixor, 1) := by decide +kernel
theorem dX11_leastPins_29 : decode cX11_leastPins 29 = .ok (.iand, 1) := by decide +kernel
theorem dX11_leastPins_30 : decode cX11_leastPins 30 = .ok (.ifCond .ne 34, 3) := by decide +kernel
theorem dX11_leastPins_33 : decode cX11_leastPins 33 = .ok (.iload_n 3, 1) := by decide +kernel
theorem dX11_leastPins_34 : decode cX11_leastPins 34 = .ok (.aload_n 0, 1) := by decide +kernel
theorem dX11_leastPins_35 : decode cX11_leastPins 35 = .ok (.getfield 19, 3) := by decide +kernel
theorem dX11_leastPins_38 : decode cX11_leastPins 38 = .ok (.aload_n 0, 1) := by decide +kernel
theorem dX11_leastPins_39 : decode cX11_leastPins 39 = .ok (.getfield 54, 3) := by decide +kernel
theorem dX11_leastPins_42 : decode cX11_leastPins 42 = .ok (.aload_n 0, 1) := by decide +kernel
theorem dX11_leastPins_43 : decode cX11_leastPins 43 = .ok (.getfield 54, 3) := by decide +kernel
theorem dX11_leastPins_46 : decode cX11_leastPins 46 = .ok (.getfield 276, 3) := by decide +kernel
theorem dX11_leastPins_49 : decode cX11_leastPins 49 = .ok (.iload 4, 2) := by decide +kernel
theorem dX11_leastPins_51 : decode cX11_leastPins 51 = .ok (.ior, 1) := by decide +kernel
theorem dX11_leastPins_52 : decode cX11_leastPins 52 = .ok (.invokevirtual 279, 3) := by decide +kernel
theorem dX11_leastPins_55 : decode cX11_leastPins 55 = .ok (.iconst (-1), 1) := by decide +kernel
theorem dX11_leastPins_56 : decode cX11_leastPins 56 = .ok (.ixor, 1) := by decide +kernel
theorem dX11_leastPins_57 : decode cX11_leastPins 57 = .ok (.iand, 1) := by decide +kernel
theorem dX11_leastPins_58 : decode cX11_leastPins 58 = .ok (.ifCond .ne 6, 3) := by decide +kernel
theorem dX11_leastPins_61 : decode cX11_leastPins 61 = .ok (.iload 4, 2) := by decide +kernel
theorem dX11_leastPins_63 : decode cX11_leastPins 63 = .ok (.ireturn, 1) := by decide +kernel
theorem dX11_leastPins_64 : decode cX11_leastPins 64 = .ok (.iload 4, 2) := by decide +kernel
theorem dX11_leastPins_66 : decode cX11_leastPins 66 = .ok (.invokestatic 379, 3) := by decide +kernel
theorem dX11_leastPins_69 : decode cX11_leastPins 69 = .ok (.istore 4, 2) := by decide +kernel
theorem dX11_leastPins_71 : decode cX11_leastPins 71 = .ok (.iinc 5 1, 3) := by decide +kernel
theorem dX11_leastPins_74 : decode cX11_leastPins 74 = .ok (.goto (-64), 3) := by decide +kernel
theorem dX11_leastPins_77 : decode cX11_leastPins 77 = .ok (.iconst (-1), 1) := by decide +kernel
theorem dX11_leastPins_78 : decode cX11_leastPins 78 = .ok (.ireturn, 1) := by decide +kernel
theorem dX11_nextOfSameSize_0 : decode cX11_nextOfSameSize 0 = .ok (.iload_n 0, 1) := by decide +kernel
theorem dX11_nextOfSameSize_1 : decode cX11_nextOfSameSize 1 = .ok (.iload_n 0, 1) := by decide +kernel
theorem dX11_nextOfSameSize_2 : decode cX11_nextOfSameSize 2 = .ok (.iload_n 0, 1) := by decide +kernel
theorem dX11_nextOfSameSize_3 : decode cX11_nextOfSameSize 3 = .ok (.ineg, 1) := by decide +kernel
theorem dX11_nextOfSameSize_4 : decode cX11_nextOfSameSize 4 = .ok (.iand, 1) := by decide +kernel
theorem dX11_nextOfSameSize_5 : decode cX11_nextOfSameSize 5 = .ok (.iadd, 1) := by decide +kernel
theorem dX11_nextOfSameSize_6 : decode cX11_nextOfSameSize 6 = .ok (.istore_n 1, 1) := by decide +kernel
theorem dX11_nextOfSameSize_7 : decode cX11_nextOfSameSize 7 = .ok (.iload_n 1, 1) := by decide +kernel
theorem dX11_nextOfSameSize_8 : decode cX11_nextOfSameSize 8 = .ok (.iload_n 0, 1) := by decide +kernel
theorem dX11_nextOfSameSize_9 : decode cX11_nextOfSameSize 9 = .ok (.iload_n 1, 1) := by decide +kernel
theorem dX11_nextOfSameSize_10 : decode cX11_nextOfSameSize 10 = .ok (.ixor, 1) := by decide +kernel
theorem dX11_nextOfSameSize_11 : decode cX11_nextOfSameSize 11 = .ok (.iconst 2, 1) := by decide +kernel
theorem dX11_nextOfSameSize_12 : decode cX11_nextOfSameSize 12 = .ok (.iload_n 0, 1) := by decide +kernel
theorem dX11_nextOfSameSize_13 : decode cX11_nextOfSameSize 13 = .ok (.invokestatic 282, 3) := by decide +kernel
theorem dX11_nextOfSameSize_16 : decode cX11_nextOfSameSize 16 = .ok (.iadd, 1) := by decide +kernel
theorem dX11_nextOfSameSize_17 : decode cX11_nextOfSameSize 17 = .ok (.iushr, 1) := by decide +kernel
theorem dX11_nextOfSameSize_18 : decode cX11_nextOfSameSize 18 = .ok (.ior, 1) := by decide +kernel
theorem dX11_nextOfSameSize_19 : decode cX11_nextOfSameSize 19 = .ok (.ireturn, 1) := by decide +kernel
theorem dX11_tellsHeights_0 : decode cX11_tellsHeights 0 = .ok (.aload_n 0, 1) := by decide +kernel
theorem dX11_tellsHeights_1 : decode cX11_tellsHeights 1 = .ok (.getfield 10, 3) := by decide +kernel
theorem dX11_tellsHeights_4 : decode cX11_tellsHeights 4 = .ok (.getfield 382, 3) := by decide +kernel
theorem dX11_tellsHeights_7 : decode cX11_tellsHeights 7 = .ok (.bipush 40, 2) := by decide +kernel
theorem dX11_tellsHeights_9 : decode cX11_tellsHeights 9 = .ok (.if_icmp .gt 15, 3) := by decide +kernel
theorem dX11_tellsHeights_12 : decode cX11_tellsHeights 12 = .ok (.aload_n 0, 1) := by decide +kernel
theorem dX11_tellsHeights_13 : decode cX11_tellsHeights 13 = .ok (.getfield 10, 3) := by decide +kernel
theorem dX11_tellsHeights_16 : decode cX11_tellsHeights 16 = .ok (.getfield 382, 3) := by decide +kernel
theorem dX11_tellsHeights_19 : decode cX11_tellsHeights 19 = .ok (.iconst 2, 1) := by decide +kernel
theorem dX11_tellsHeights_20 : decode cX11_tellsHeights 20 = .ok (.irem, 1) := by decide +kernel
theorem dX11_tellsHeights_21 : decode cX11_tellsHeights 21 = .ok (.ifCond .eq 5, 3) := by decide +kernel
theorem dX11_tellsHeights_24 : decode cX11_tellsHeights 24 = .ok (.iconst 0, 1) := by decide +kernel
theorem dX11_tellsHeights_25 : decode cX11_tellsHeights 25 = .ok (.ireturn, 1) := by decide +kernel
theorem dX11_tellsHeights_26 : decode cX11_tellsHeights 26 = .ok (.iconst 0, 1) := by decide +kernel
theorem dX11_tellsHeights_27 : decode cX11_tellsHeights 27 = .ok (.istore_n 1, 1) := by decide +kernel
theorem dX11_tellsHeights_28 : decode cX11_tellsHeights 28 = .ok (.iload_n 1, 1) := by decide +kernel
theorem dX11_tellsHeights_29 : decode cX11_tellsHeights 29 = .ok (.aload_n 0, 1) := by decide +kernel
theorem dX11_tellsHeights_30 : decode cX11_tellsHeights 30 = .ok (.getfield 10, 3) := by decide +kernel
theorem dX11_tellsHeights_33 : decode cX11_tellsHeights 33 = .ok (.getfield 382, 3) := by decide +kernel
theorem dX11_tellsHeights_36 : decode cX11_tellsHeights 36 = .ok (.if_icmp .ge 24, 3) := by decide +kernel
theorem dX11_tellsHeights_39 : decode cX11_tellsHeights 39 = .ok (.aload_n 0, 1) := by decide +kernel
theorem dX11_tellsHeights_40 : decode cX11_tellsHeights 40 = .ok (.getfield 10, 3) := by decide +kernel
theorem dX11_tellsHeights_43 : decode cX11_tellsHeights 43 = .ok (.iload_n 1, 1) := by decide +kernel
theorem dX11_tellsHeights_44 : decode cX11_tellsHeights 44 = .ok (.invokevirtual 385, 3) := by decide +kernel
theorem dX11_tellsHeights_47 : decode cX11_tellsHeights 47 = .ok (.bipush 15, 2) := by decide +kernel
theorem dX11_tellsHeights_49 : decode cX11_tellsHeights 49 = .ok (.if_icmp .le 5, 3) := by decide +kernel
theorem dX11_tellsHeights_52 : decode cX11_tellsHeights 52 = .ok (.iconst 0, 1) := by decide +kernel
theorem dX11_tellsHeights_53 : decode cX11_tellsHeights 53 = .ok (.ireturn, 1) := by decide +kernel
theorem dX11_tellsHeights_54 : decode cX11_tellsHeights 54 = .ok (.iinc 1 2, 3) := by decide +kernel
theorem dX11_tellsHeights_57 : decode cX11_tellsHeights 57 = .ok (.goto (-29), 3) := by decide +kernel
theorem dX11_tellsHeights_60 : decode cX11_tellsHeights 60 = .ok (.iconst 1, 1) := by decide +kernel
theorem dX11_tellsHeights_61 : decode cX11_tellsHeights 61 = .ok (.ireturn, 1) := by decide +kernel
theorem dX11_findFits_0 : decode cX11_findFits 0 = .ok (.aload_n 0, 1) := by decide +kernel
theorem dX11_findFits_1 : decode cX11_findFits 1 = .ok (.getfield 19, 3) := by decide +kernel
theorem dX11_findFits_4 : decode cX11_findFits 4 = .ok (.invokevirtual 273, 3) := by decide +kernel
theorem dX11_findFits_7 : decode cX11_findFits 7 = .ok (.iconst 0, 1) := by decide +kernel
theorem dX11_findFits_8 : decode cX11_findFits 8 = .ok (.istore_n 1, 1) := by decide +kernel
theorem dX11_findFits_9 : decode cX11_findFits 9 = .ok (.iconst (-1), 1) := by decide +kernel
theorem dX11_findFits_10 : decode cX11_findFits 10 = .ok (.istore_n 2, 1) := by decide +kernel
theorem dX11_findFits_11 : decode cX11_findFits 11 = .ok (.iload_n 2, 1) := by decide +kernel
theorem dX11_findFits_12 : decode cX11_findFits 12 = .ok (.bipush 16, 2) := by decide +kernel
theorem dX11_findFits_14 : decode cX11_findFits 14 = .ok (.if_icmp .ge 90, 3) := by decide +kernel
theorem dX11_findFits_17 : decode cX11_findFits 17 = .ok (.iload_n 2, 1) := by decide +kernel
theorem dX11_findFits_18 : decode cX11_findFits 18 = .ok (.iconst (-1), 1) := by decide +kernel
theorem dX11_findFits_19 : decode cX11_findFits 19 = .ok (.if_icmp .ne 7, 3) := by decide +kernel
theorem dX11_findFits_22 : decode cX11_findFits 22 = .ok (.iconst 0, 1) := by decide +kernel
theorem dX11_findFits_23 : decode cX11_findFits 23 = .ok (.goto 5, 3) := by decide +kernel
theorem dX11_findFits_26 : decode cX11_findFits 26 = .ok (.bipush 16, 2) := by decide +kernel
theorem dX11_findFits_28 : decode cX11_findFits 28 = .ok (.istore_n 3, 1) := by decide +kernel
theorem dX11_findFits_29 : decode cX11_findFits 29 = .ok (.iload_n 2, 1) := by decide +kernel
theorem dX11_findFits_30 : decode cX11_findFits 30 = .ok (.istore 4, 2) := by decide +kernel
theorem dX11_findFits_32 : decode cX11_findFits 32 = .ok (.iload 4, 2) := by decide +kernel
theorem dX11_findFits_34 : decode cX11_findFits 34 = .ok (.iload_n 3, 1) := by decide +kernel
theorem dX11_findFits_35 : decode cX11_findFits 35 = .ok (.if_icmp .ge 63, 3) := by decide +kernel
theorem dX11_findFits_38 : decode cX11_findFits 38 = .ok (.iload_n 2, 1) := by decide +kernel
theorem dX11_findFits_39 : decode cX11_findFits 39 = .ok (.invokestatic 388, 3) := by decide +kernel
theorem dX11_findFits_42 : decode cX11_findFits 42 = .ok (.iload 4, 2) := by decide +kernel
theorem dX11_findFits_44 : decode cX11_findFits 44 = .ok (.invokestatic 388, 3) := by decide +kernel
theorem dX11_findFits_47 : decode cX11_findFits 47 = .ok (.ior, 1) := by decide +kernel
theorem dX11_findFits_48 : decode cX11_findFits 48 = .ok (.istore 5, 2) := by decide +kernel
theorem dX11_findFits_50 : decode cX11_findFits 50 = .ok (.iload 5, 2) := by decide +kernel
theorem dX11_findFits_52 : decode cX11_findFits 52 = .ok (.aload_n 0, 1) := by decide +kernel
theorem dX11_findFits_53 : decode cX11_findFits 53 = .ok (.getfield 54, 3) := by decide +kernel
theorem dX11_findFits_56 : decode cX11_findFits 56 = .ok (.getfield 276, 3) := by decide +kernel
theorem dX11_findFits_59 : decode cX11_findFits 59 = .ok (.iconst (-1), 1) := by decide +kernel
theorem dX11_findFits_60 : decode cX11_findFits 60 = .ok (.ixor, 1) := by decide +kernel
theorem dX11_findFits_61 : decode cX11_findFits 61 = .ok (.iand, 1) := by decide +kernel
theorem dX11_findFits_62 : decode cX11_findFits 62 = .ok (.ifCond .ne 30, 3) := by decide +kernel
theorem dX11_findFits_65 : decode cX11_findFits 65 = .ok (.iload_n 1, 1) := by decide +kernel
theorem dX11_findFits_66 : decode cX11_findFits 66 = .ok (.sipush 137, 3) := by decide +kernel
theorem dX11_findFits_69 : decode cX11_findFits 69 = .ok (.if_icmp .ge 23, 3) := by decide +kernel
theorem dX11_findFits_72 : decode cX11_findFits 72 = .ok (.aload_n 0, 1) := by decide +kernel
theorem dX11_findFits_73 : decode cX11_findFits 73 = .ok (.iload 5, 2) := by decide +kernel
theorem dX11_findFits_75 : decode cX11_findFits 75 = .ok (.invokevirtual 391, 3) := by decide +kernel
theorem dX11_findFits_78 : decode cX11_findFits 78 = .ok (.ifCond .eq 14, 3) := by decide +kernel
theorem dX11_findFits_81 : decode cX11_findFits 81 = .ok (.aload_n 0, 1) := by decide +kernel
theorem dX11_findFits_82 : decode cX11_findFits 82 = .ok (.getfield 75, 3) := by decide +kernel
theorem dX11_findFits_85 : decode cX11_findFits 85 = .ok (.iload_n 1, 1) := by decide +kernel
theorem dX11_findFits_86 : decode cX11_findFits 86 = .ok (.iload 5, 2) := by decide +kernel
theorem dX11_findFits_88 : decode cX11_findFits 88 = .ok (.iastore, 1) := by decide +kernel
theorem dX11_findFits_89 : decode cX11_findFits 89 = .ok (.iinc 1 1, 3) := by decide +kernel
theorem dX11_findFits_92 : decode cX11_findFits 92 = .ok (.iinc 4 1, 3) := by decide +kernel
theorem dX11_findFits_95 : decode cX11_findFits 95 = .ok (.goto (-63), 3) := by decide +kernel
theorem dX11_findFits_98 : decode cX11_findFits 98 = .ok (.iinc 2 1, 3) := by decide +kernel
theorem dX11_findFits_101 : decode cX11_findFits 101 = .ok (.goto (-90), 3) := by decide +kernel
theorem dX11_findFits_104 : decode cX11_findFits 104 = .ok (.iload_n 1, 1) := by decide +kernel
theorem dX11_findFits_105 : decode cX11_findFits 105 = .ok (.ireturn, 1) := by decide +kernel
theorem dX11_explains_0 : decode cX11_explains 0 = .ok (.aload_n 0, 1) := by decide +kernel
theorem dX11_explains_1 : decode cX11_explains 1 = .ok (.getfield 19, 3) := by decide +kernel
theorem dX11_explains_4 : decode cX11_explains 4 = .ok (.aload_n 0, 1) := by decide +kernel
theorem dX11_explains_5 : decode cX11_explains 5 = .ok (.getfield 54, 3) := by decide +kernel
theorem dX11_explains_8 : decode cX11_explains 8 = .ok (.aload_n 0, 1) := by decide +kernel
theorem dX11_explains_9 : decode cX11_explains 9 = .ok (.getfield 54, 3) := by decide +kernel
theorem dX11_explains_12 : decode cX11_explains 12 = .ok (.getfield 276, 3) := by decide +kernel
theorem dX11_explains_15 : decode cX11_explains 15 = .ok (.iload_n 1, 1) := by decide +kernel
theorem dX11_explains_16 : decode cX11_explains 16 = .ok (.iconst (-1), 1) := by decide +kernel
theorem dX11_explains_17 : decode cX11_explains 17 = .ok (.ixor, 1) := by decide +kernel
theorem dX11_explains_18 : decode cX11_explains 18 = .ok (.iand, 1) := by decide +kernel
theorem dX11_explains_19 : decode cX11_explains 19 = .ok (.invokevirtual 394, 3) := by decide +kernel
theorem dX11_explains_22 : decode cX11_explains 22 = .ok (.istore_n 2, 1) := by decide +kernel
theorem dX11_explains_23 : decode cX11_explains 23 = .ok (.iconst 0, 1) := by decide +kernel
theorem dX11_explains_24 : decode cX11_explains 24 = .ok (.istore_n 3, 1) := by decide +kernel
theorem dX11_explains_25 : decode cX11_explains 25 = .ok (.iload_n 3, 1) := by decide +kernel
theorem dX11_explains_26 : decode cX11_explains 26 = .ok (.aload_n 0, 1) := by decide +kernel
theorem dX11_explains_27 : decode cX11_explains 27 = .ok (.getfield 10, 3) := by decide +kernel
theorem dX11_explains_30 : decode cX11_explains 30 = .ok (.getfield 382, 3) := by decide +kernel
theorem dX11_explains_33 : decode cX11_explains 33 = .ok (.if_icmp .ge 70, 3) := by decide +kernel
theorem dX11_explains_36 : decode cX11_explains 36 = .ok (.aload_n 0, 1) := by decide +kernel
theorem dX11_explains_37 : decode cX11_explains 37 = .ok (.getfield 10, 3) := by decide +kernel
theorem dX11_explains_40 : decode cX11_explains 40 = .ok (.iload_n 3, 1) := by decide +kernel
theorem dX11_explains_41 : decode cX11_explains 41 = .ok (.invokevirtual 385, 3) := by decide +kernel
theorem dX11_explains_44 : decode cX11_explains 44 = .ok (.istore 4, 2) := by decide +kernel
theorem dX11_explains_46 : decode cX11_explains 46 = .ok (.iload 4, 2) := by decide +kernel
theorem dX11_explains_48 : decode cX11_explains 48 = .ok (.ifCond .lt 47, 3) := by decide +kernel
theorem dX11_explains_51 : decode cX11_explains 51 = .ok (.iload 4, 2) := by decide +kernel
theorem dX11_explains_53 : decode cX11_explains 53 = .ok (.bipush 15, 2) := by decide +kernel
theorem dX11_explains_55 : decode cX11_explains 55 = .ok (.if_icmp .gt 40, 3) := by decide +kernel
theorem dX11_explains_58 : decode cX11_explains 58 = .ok (.aload_n 0, 1) := by decide +kernel
theorem dX11_explains_59 : decode cX11_explains 59 = .ok (.getfield 54, 3) := by decide +kernel
theorem dX11_explains_62 : decode cX11_explains 62 = .ok (.iload 4, 2) := by decide +kernel
theorem dX11_explains_64 : decode cX11_explains 64 = .ok (.iload_n 2, 1) := by decide +kernel
theorem dX11_explains_65 : decode cX11_explains 65 = .ok (.aload_n 0, 1) := by decide +kernel
theorem dX11_explains_66 : decode cX11_explains 66 = .ok (.getfield 54, 3) := by decide +kernel
theorem dX11_explains_69 : decode cX11_explains 69 = .ok (.getfield 169, 3) := by decide +kernel
theorem dX11_explains_72 : decode cX11_explains 72 = .ok (.aload_n 0, 1) := by decide +kernel
theorem dX11_explains_73 : decode cX11_explains 73 = .ok (.getfield 54, 3) := by decide +kernel
theorem dX11_explains_76 : decode cX11_explains 76 = .ok (.getfield 172, 3) := by decide +kernel
theorem dX11_explains_79 : decode cX11_explains 79 = .ok (.invokevirtual 175, 3) := by decide +kernel
theorem dX11_explains_82 : decode cX11_explains 82 = .ok (.aload_n 0, 1) := by decide +kernel
theorem dX11_explains_83 : decode cX11_explains 83 = .ok (.getfield 10, 3) := by decide +kernel
theorem dX11_explains_86 : decode cX11_explains 86 = .ok (.iload_n 3, 1) := by decide +kernel
theorem dX11_explains_87 : decode cX11_explains 87 = .ok (.iconst 1, 1) := by decide +kernel
theorem dX11_explains_88 : decode cX11_explains 88 = .ok (.iadd, 1) := by decide +kernel
theorem dX11_explains_89 : decode cX11_explains 89 = .ok (.invokevirtual 385, 3) := by decide +kernel
theorem dX11_explains_92 : decode cX11_explains 92 = .ok (.if_icmp .eq 5, 3) := by decide +kernel
theorem dX11_explains_95 : decode cX11_explains 95 = .ok (.iconst 0, 1) := by decide +kernel
theorem dX11_explains_96 : decode cX11_explains 96 = .ok (.ireturn, 1) := by decide +kernel
theorem dX11_explains_97 : decode cX11_explains 97 = .ok (.iinc 3 2, 3) := by decide +kernel
theorem dX11_explains_100 : decode cX11_explains 100 = .ok (.goto (-75), 3) := by decide +kernel
theorem dX11_explains_103 : decode cX11_explains 103 = .ok (.iconst 1, 1) := by decide +kernel
theorem dX11_explains_104 : decode cX11_explains 104 = .ok (.ireturn, 1) := by decide +kernel
theorem dX11_greatestPart_0 : decode cX11_greatestPart 0 = .ok (.aload_n 0, 1) := by decide +kernel
theorem dX11_greatestPart_1 : decode cX11_greatestPart 1 = .ok (.getfield 79, 3) := by decide +kernel
theorem dX11_greatestPart_4 : decode cX11_greatestPart 4 = .ok (.iconst 0, 1) := by decide +kernel
theorem dX11_greatestPart_5 : decode cX11_greatestPart 5 = .ok (.invokestatic 397, 3) := by decide +kernel
theorem dX11_greatestPart_8 : decode cX11_greatestPart 8 = .ok (.iconst 0, 1) := by decide +kernel
theorem dX11_greatestPart_9 : decode cX11_greatestPart 9 = .ok (.istore_n 3, 1) := by decide +kernel
theorem dX11_greatestPart_10 : decode cX11_greatestPart 10 = .ok (.iconst 0, 1) := by decide +kernel
theorem dX11_greatestPart_11 : decode cX11_greatestPart 11 = .ok (.istore 4, 2) := by decide +kernel
theorem dX11_greatestPart_13 : decode cX11_greatestPart 13 = .ok (.iload 4, 2) := by decide +kernel
theorem dX11_greatestPart_15 : decode cX11_greatestPart 15 = .ok (.iload_n 2, 1) := by decide +kernel
theorem dX11_greatestPart_16 : decode cX11_greatestPart 16 = .ok (.if_icmp .ge 100, 3) := by decide +kernel
theorem dX11_greatestPart_19 : decode cX11_greatestPart 19 = .ok (.aload_n 0, 1) := by decide +kernel
theorem dX11_greatestPart_20 : decode cX11_greatestPart 20 = .ok (.getfield 19, 3) := by decide +kernel
theorem dX11_greatestPart_23 : decode cX11_greatestPart 23 = .ok (.aload_n 0, 1) := by decide +kernel
theorem dX11_greatestPart_24 : decode cX11_greatestPart 24 = .ok (.getfield 54, 3) := by decide +kernel
theorem dX11_greatestPart_27 : decode cX11_greatestPart 27 = .ok (.aload_n 0, 1) := by decide +kernel
theorem dX11_greatestPart_28 : decode cX11_greatestPart 28 = .ok (.getfield 54, 3) := by decide +kernel
theorem dX11_greatestPart_31 : decode cX11_greatestPart 31 = .ok (.getfield 276, 3) := by decide +kernel
theorem dX11_greatestPart_34 : decode cX11_greatestPart 34 = .ok (.aload_n 0, 1) := by decide +kernel
theorem dX11_greatestPart_35 : decode cX11_greatestPart 35 = .ok (.getfield 75, 3) := by decide +kernel
theorem dX11_greatestPart_38 : decode cX11_greatestPart 38 = .ok (.iload 4, 2) := by decide +kernel
theorem dX11_greatestPart_40 : decode cX11_greatestPart 40 = .ok (.iaload, 1) := by decide +kernel
theorem dX11_greatestPart_41 : decode cX11_greatestPart 41 = .ok (.iconst (-1), 1) := by decide +kernel
theorem dX11_greatestPart_42 : decode cX11_greatestPart 42 = .ok (.ixor, 1) := by decide +kernel
theorem dX11_greatestPart_43 : decode cX11_greatestPart 43 = .ok (.iand, 1) := by decide +kernel
theorem dX11_greatestPart_44 : decode cX11_greatestPart 44 = .ok (.invokevirtual 394, 3) := by decide +kernel
theorem dX11_greatestPart_47 : decode cX11_greatestPart 47 = .ok (.istore 5, 2) := by decide +kernel
theorem dX11_greatestPart_49 : decode cX11_greatestPart 49 = .ok (.aload_n 0, 1) := by decide +kernel
theorem dX11_greatestPart_50 : decode cX11_greatestPart 50 = .ok (.getfield 54, 3) := by decide +kernel
theorem dX11_greatestPart_53 : decode cX11_greatestPart 53 = .ok (.iload_n 1, 1) := by decide +kernel
theorem dX11_greatestPart_54 : decode cX11_greatestPart 54 = .ok (.iload 5, 2) := by decide +kernel
theorem dX11_greatestPart_56 : decode cX11_greatestPart 56 = .ok (.aload_n 0, 1) := by decide +kernel
theorem dX11_greatestPart_57 : decode cX11_greatestPart 57 = .ok (.getfield 54, 3) := by decide +kernel
theorem dX11_greatestPart_60 : decode cX11_greatestPart 60 = .ok (.getfield 169, 3) := by decide +kernel
theorem dX11_greatestPart_63 : decode cX11_greatestPart 63 = .ok (.aload_n 0, 1) := by decide +kernel
theorem dX11_greatestPart_64 : decode cX11_greatestPart 64 = .ok (.getfield 54, 3) := by decide +kernel
theorem dX11_greatestPart_67 : decode cX11_greatestPart 67 = .ok (.getfield 172, 3) := by decide +kernel
theorem dX11_greatestPart_70 : decode cX11_greatestPart 70 = .ok (.invokevirtual 175, 3) := by decide +kernel
theorem dX11_greatestPart_73 : decode cX11_greatestPart 73 = .ok (.istore 6, 2) := by decide +kernel
theorem dX11_greatestPart_75 : decode cX11_greatestPart 75 = .ok (.iload 6, 2) := by decide +kernel
theorem dX11_greatestPart_77 : decode cX11_greatestPart 77 = .ok (.ifCond .lt 33, 3) := by decide +kernel
theorem dX11_greatestPart_80 : decode cX11_greatestPart 80 = .ok (.iload 6, 2) := by decide +kernel
theorem dX11_greatestPart_82 : decode cX11_greatestPart 82 = .ok (.bipush 40, 2) := by decide +kernel
theorem dX11_greatestPart_84 : decode cX11_greatestPart 84 = .ok (.if_icmp .gt 26, 3) := by decide +kernel
theorem dX11_greatestPart_87 : decode cX11_greatestPart 87 = .ok (.aload_n 0, 1) := by decide +kernel
theorem dX11_greatestPart_88 : decode cX11_greatestPart 88 = .ok (.getfield 79, 3) := by decide +kernel
theorem dX11_greatestPart_91 : decode cX11_greatestPart 91 = .ok (.iload 6, 2) := by decide +kernel
theorem dX11_greatestPart_93 : decode cX11_greatestPart 93 = .ok (.dup2, 1) := by decide +kernel
theorem dX11_greatestPart_94 : decode cX11_greatestPart 94 = .ok (.iaload, 1) := by decide +kernel
theorem dX11_greatestPart_95 : decode cX11_greatestPart 95 = .ok (.iconst 1, 1) := by decide +kernel
theorem dX11_greatestPart_96 : decode cX11_greatestPart 96 = .ok (.iadd, 1) := by decide +kernel
theorem dX11_greatestPart_97 : decode cX11_greatestPart 97 = .ok (.iastore, 1) := by decide +kernel
theorem dX11_greatestPart_98 : decode cX11_greatestPart 98 = .ok (.iload_n 3, 1) := by decide +kernel
theorem dX11_greatestPart_99 : decode cX11_greatestPart 99 = .ok (.aload_n 0, 1) := by decide +kernel
theorem dX11_greatestPart_100 : decode cX11_greatestPart 100 = .ok (.getfield 79, 3) := by decide +kernel
theorem dX11_greatestPart_103 : decode cX11_greatestPart 103 = .ok (.iload 6, 2) := by decide +kernel
theorem dX11_greatestPart_105 : decode cX11_greatestPart 105 = .ok (.iaload, 1) := by decide +kernel
theorem dX11_greatestPart_106 : decode cX11_greatestPart 106 = .ok (.invokestatic 330, 3) := by decide +kernel
theorem dX11_greatestPart_109 : decode cX11_greatestPart 109 = .ok (.istore_n 3, 1) := by decide +kernel
theorem dX11_greatestPart_110 : decode cX11_greatestPart 110 = .ok (.iinc 4 1, 3) := by decide +kernel
theorem dX11_greatestPart_113 : decode cX11_greatestPart 113 = .ok (.goto (-100), 3) := by decide +kernel
theorem dX11_greatestPart_116 : decode cX11_greatestPart 116 = .ok (.iload_n 3, 1) := by decide +kernel
theorem dX11_greatestPart_117 : decode cX11_greatestPart 117 = .ok (.ireturn, 1) := by decide +kernel
theorem dX11_canChoose_0 : decode cX11_canChoose 0 = .ok (.iload_n 1, 1) := by decide +kernel
theorem dX11_canChoose_1 : decode cX11_canChoose 1 = .ok (.iconst (-1), 1) := by decide +kernel
theorem dX11_canChoose_2 : decode cX11_canChoose 2 = .ok (.if_icmp .eq 11, 3) := by decide +kernel
theorem dX11_canChoose_5 : decode cX11_canChoose 5 = .ok (.iload_n 0, 1) := by decide +kernel
theorem dX11_canChoose_6 : decode cX11_canChoose 6 = .ok (.iload_n 1, 1) := by decide +kernel
theorem dX11_canChoose_7 : decode cX11_canChoose 7 = .ok (.invokestatic 165, 3) := by decide +kernel
theorem dX11_canChoose_10 : decode cX11_canChoose 10 = .ok (.ifCond .eq 7, 3) := by decide +kernel
theorem dX11_canChoose_13 : decode cX11_canChoose 13 = .ok (.iconst 1, 1) := by decide +kernel
theorem dX11_canChoose_14 : decode cX11_canChoose 14 = .ok (.goto 4, 3) := by decide +kernel
theorem dX11_canChoose_17 : decode cX11_canChoose 17 = .ok (.iconst 0, 1) := by decide +kernel
theorem dX11_canChoose_18 : decode cX11_canChoose 18 = .ok (.ireturn, 1) := by decide +kernel
theorem dX11_pair_0 : decode cX11_pair 0 = .ok (.iload_n 0, 1) := by decide +kernel
theorem dX11_pair_1 : decode cX11_pair 1 = .ok (.iconst 1, 1) := by decide +kernel
theorem dX11_pair_2 : decode cX11_pair 2 = .ok (.iadd, 1) := by decide +kernel
theorem dX11_pair_3 : decode cX11_pair 3 = .ok (.bipush 17, 2) := by decide +kernel
theorem dX11_pair_5 : decode cX11_pair 5 = .ok (.imul, 1) := by decide +kernel
theorem dX11_pair_6 : decode cX11_pair 6 = .ok (.iload_n 1, 1) := by decide +kernel
theorem dX11_pair_7 : decode cX11_pair 7 = .ok (.iadd, 1) := by decide +kernel
theorem dX11_pair_8 : decode cX11_pair 8 = .ok (.iconst 1, 1) := by decide +kernel
theorem dX11_pair_9 : decode cX11_pair 9 = .ok (.iadd, 1) := by decide +kernel
theorem dX11_pair_10 : decode cX11_pair 10 = .ok (.ireturn, 1) := by decide +kernel
theorem dX11_playGame_0 : decode cX11_playGame 0 = .ok (.aload_n 0, 1) := by decide +kernel
theorem dX11_playGame_1 : decode cX11_playGame 1 = .ok (.getfield 19, 3) := by decide +kernel
theorem dX11_playGame_4 : decode cX11_playGame 4 = .ok (.invokevirtual 273, 3) := by decide +kernel
theorem dX11_playGame_7 : decode cX11_playGame 7 = .ok (.iconst (-1), 1) := by decide +kernel
theorem dX11_playGame_8 : decode cX11_playGame 8 = .ok (.istore_n 2, 1) := by decide +kernel
theorem dX11_playGame_9 : decode cX11_playGame 9 = .ok (.iload_n 2, 1) := by decide +kernel
theorem dX11_playGame_10 : decode cX11_playGame 10 = .ok (.bipush 16, 2) := by decide +kernel
theorem dX11_playGame_12 : decode cX11_playGame 12 = .ok (.if_icmp .ge 92, 3) := by decide +kernel
theorem dX11_playGame_15 : decode cX11_playGame 15 = .ok (.iconst (-1), 1) := by decide +kernel
theorem dX11_playGame_16 : decode cX11_playGame 16 = .ok (.istore_n 3, 1) := by decide +kernel
theorem dX11_playGame_17 : decode cX11_playGame 17 = .ok (.iload_n 3, 1) := by decide +kernel
theorem dX11_playGame_18 : decode cX11_playGame 18 = .ok (.bipush 16, 2) := by decide +kernel
theorem dX11_playGame_20 : decode cX11_playGame 20 = .ok (.if_icmp .ge 78, 3) := by decide +kernel
theorem dX11_playGame_23 : decode cX11_playGame 23 = .ok (.aload_n 0, 1) := by decide +kernel
theorem dX11_playGame_24 : decode cX11_playGame 24 = .ok (.getfield 54, 3) := by decide +kernel
theorem dX11_playGame_27 : decode cX11_playGame 27 = .ok (.getfield 276, 3) := by decide +kernel
theorem dX11_playGame_30 : decode cX11_playGame 30 = .ok (.iload_n 2, 1) := by decide +kernel
theorem dX11_playGame_31 : decode cX11_playGame 31 = .ok (.invokestatic 318, 3) := by decide +kernel
theorem dX11_playGame_34 : decode cX11_playGame 34 = .ok (.ifCond .eq 58, 3) := by decide +kernel
theorem dX11_playGame_37 : decode cX11_playGame 37 = .ok (.iload_n 1, 1) := by decide +kernel
theorem dX11_playGame_38 : decode cX11_playGame 38 = .ok (.iload_n 3, 1) := by decide +kernel
theorem dX11_playGame_39 : decode cX11_playGame 39 = .ok (.invokestatic 318, 3) := by decide +kernel
theorem dX11_playGame_42 : decode cX11_playGame 42 = .ok (.ifCond .eq 50, 3) := by decide +kernel
theorem dX11_playGame_45 : decode cX11_playGame 45 = .ok (.aload_n 0, 1) := by decide +kernel
theorem dX11_playGame_46 : decode cX11_playGame 46 = .ok (.getfield 54, 3) := by decide +kernel
theorem dX11_playGame_49 : decode cX11_playGame 49 = .ok (.getfield 276, 3) := by decide +kernel
theorem dX11_playGame_52 : decode cX11_playGame 52 = .ok (.iload_n 2, 1) := by decide +kernel
theorem dX11_playGame_53 : decode cX11_playGame 53 = .ok (.invokestatic 388, 3) := by decide +kernel
theorem dX11_playGame_56 : decode cX11_playGame 56 = .ok (.iconst (-1), 1) := by decide +kernel
theorem dX11_playGame_57 : decode cX11_playGame 57 = .ok (.ixor, 1) := by decide +kernel
theorem dX11_playGame_58 : decode cX11_playGame 58 = .ok (.iand, 1) := by decide +kernel
theorem dX11_playGame_59 : decode cX11_playGame 59 = .ok (.iload_n 3, 1) := by decide +kernel
theorem dX11_playGame_60 : decode cX11_playGame 60 = .ok (.invokestatic 388, 3) := by decide +kernel
theorem dX11_playGame_63 : decode cX11_playGame 63 = .ok (.ior, 1) := by decide +kernel
theorem dX11_playGame_64 : decode cX11_playGame 64 = .ok (.istore 4, 2) := by decide +kernel
theorem dX11_playGame_66 : decode cX11_playGame 66 = .ok (.aload_n 0, 1) := by decide +kernel
theorem dX11_playGame_67 : decode cX11_playGame 67 = .ok (.getfield 82, 3) := by decide +kernel
theorem dX11_playGame_70 : decode cX11_playGame 70 = .ok (.iload_n 2, 1) := by decide +kernel
theorem dX11_playGame_71 : decode cX11_playGame 71 = .ok (.iload_n 3, 1) := by decide +kernel
theorem dX11_playGame_72 : decode cX11_playGame 72 = .ok (.invokestatic 403, 3) := by decide +kernel
theorem dX11_playGame_75 : decode cX11_playGame 75 = .ok (.aload_n 0, 1) := by decide +kernel
theorem dX11_playGame_76 : decode cX11_playGame 76 = .ok (.getfield 19, 3) := by decide +kernel
theorem dX11_playGame_79 : decode cX11_playGame 79 = .ok (.aload_n 0, 1) := by decide +kernel
theorem dX11_playGame_80 : decode cX11_playGame 80 = .ok (.getfield 54, 3) := by decide +kernel
theorem dX11_playGame_83 : decode cX11_playGame 83 = .ok (.iload 4, 2) := by decide +kernel
theorem dX11_playGame_85 : decode cX11_playGame 85 = .ok (.invokevirtual 279, 3) := by decide +kernel
theorem dX11_playGame_88 : decode cX11_playGame 88 = .ok (.invokestatic 257, 3) := by decide +kernel
theorem dX11_playGame_91 : decode cX11_playGame 91 = .ok (.iastore, 1) := by decide +kernel
theorem dX11_playGame_92 : decode cX11_playGame 92 = .ok (.iinc 3 1, 3) := by decide +kernel
theorem dX11_playGame_95 : decode cX11_playGame 95 = .ok (.goto (-78), 3) := by decide +kernel
theorem dX11_playGame_98 : decode cX11_playGame 98 = .ok (.iinc 2 1, 3) := by decide +kernel
theorem dX11_playGame_101 : decode cX11_playGame 101 = .ok (.goto (-92), 3) := by decide +kernel
theorem dX11_playGame_104 : decode cX11_playGame 104 = .ok (.return_, 1) := by decide +kernel
theorem dX11_dukeRests_0 : decode cX11_dukeRests 0 = .ok (.aload_n 0, 1) := by decide +kernel
theorem dX11_dukeRests_1 : decode cX11_dukeRests 1 = .ok (.getfield 82, 3) := by decide +kernel
theorem dX11_dukeRests_4 : decode cX11_dukeRests 4 = .ok (.iload_n 1, 1) := by decide +kernel
theorem dX11_dukeRests_5 : decode cX11_dukeRests 5 = .ok (.iload_n 2, 1) := by decide +kernel
theorem dX11_dukeRests_6 : decode cX11_dukeRests 6 = .ok (.invokestatic 403, 3) := by decide +kernel
theorem dX11_dukeRests_9 : decode cX11_dukeRests 9 = .ok (.iaload, 1) := by decide +kernel
theorem dX11_dukeRests_10 : decode cX11_dukeRests 10 = .ok (.istore_n 3, 1) := by decide +kernel
theorem dX11_dukeRests_11 : decode cX11_dukeRests 11 = .ok (.iconst (-1), 1) := by decide +kernel
theorem dX11_dukeRests_12 : decode cX11_dukeRests 12 = .ok (.istore 4, 2) := by decide +kernel
theorem dX11_dukeRests_14 : decode cX11_dukeRests 14 = .ok (.iload 4, 2) := by decide +kernel
theorem dX11_dukeRests_16 : decode cX11_dukeRests 16 = .ok (.bipush 16, 2) := by decide +kernel
theorem dX11_dukeRests_18 : decode cX11_dukeRests 18 = .ok (.if_icmp .ge 41, 3) := by decide +kernel
theorem dX11_dukeRests_21 : decode cX11_dukeRests 21 = .ok (.aload_n 0, 1) := by decide +kernel
theorem dX11_dukeRests_22 : decode cX11_dukeRests 22 = .ok (.getfield 54, 3) := by decide +kernel
theorem dX11_dukeRests_25 : decode cX11_dukeRests 25 = .ok (.getfield 276, 3) := by decide +kernel
theorem dX11_dukeRests_28 : decode cX11_dukeRests 28 = .ok (.iload 4, 2) := by decide +kernel
theorem dX11_dukeRests_30 : decode cX11_dukeRests 30 = .ok (.invokestatic 318, 3) := by decide +kernel
theorem dX11_dukeRests_33 : decode cX11_dukeRests 33 = .ok (.ifCond .eq 20, 3) := by decide +kernel
theorem dX11_dukeRests_36 : decode cX11_dukeRests 36 = .ok (.aload_n 0, 1) := by decide +kernel
theorem dX11_dukeRests_37 : decode cX11_dukeRests 37 = .ok (.getfield 82, 3) := by decide +kernel
theorem dX11_dukeRests_40 : decode cX11_dukeRests 40 = .ok (.iload 4, 2) := by decide +kernel
theorem dX11_dukeRests_42 : decode cX11_dukeRests 42 = .ok (.iload_n 2, 1) := by decide +kernel
theorem dX11_dukeRests_43 : decode cX11_dukeRests 43 = .ok (.invokestatic 403, 3) := by decide +kernel
theorem dX11_dukeRests_46 : decode cX11_dukeRests 46 = .ok (.iaload, 1) := by decide +kernel
theorem dX11_dukeRests_47 : decode cX11_dukeRests 47 = .ok (.iload_n 3, 1) := by decide +kernel
theorem dX11_dukeRests_48 : decode cX11_dukeRests 48 = .ok (.if_icmp .ge 5, 3) := by decide +kernel
theorem dX11_dukeRests_51 : decode cX11_dukeRests 51 = .ok (.iconst 0, 1) := by decide +kernel
theorem dX11_dukeRests_52 : decode cX11_dukeRests 52 = .ok (.ireturn, 1) := by decide +kernel
theorem dX11_dukeRests_53 : decode cX11_dukeRests 53 = .ok (.iinc 4 1, 3) := by decide +kernel
theorem dX11_dukeRests_56 : decode cX11_dukeRests 56 = .ok (.goto (-42), 3) := by decide +kernel
theorem dX11_dukeRests_59 : decode cX11_dukeRests 59 = .ok (.iconst 1, 1) := by decide +kernel
theorem dX11_dukeRests_60 : decode cX11_dukeRests 60 = .ok (.ireturn, 1) := by decide +kernel
theorem dX11_guildRests_0 : decode cX11_guildRests 0 = .ok (.aload_n 0, 1) := by decide +kernel
theorem dX11_guildRests_1 : decode cX11_guildRests 1 = .ok (.getfield 82, 3) := by decide +kernel
theorem dX11_guildRests_4 : decode cX11_guildRests 4 = .ok (.iload_n 1, 1) := by decide +kernel
theorem dX11_guildRests_5 : decode cX11_guildRests 5 = .ok (.iload_n 2, 1) := by decide +kernel
theorem dX11_guildRests_6 : decode cX11_guildRests 6 = .ok (.invokestatic 403, 3) := by decide +kernel
theorem dX11_guildRests_9 : decode cX11_guildRests 9 = .ok (.iaload, 1) := by decide +kernel
theorem dX11_guildRests_10 : decode cX11_guildRests 10 = .ok (.istore 4, 2) := by decide +kernel
theorem dX11_guildRests_12 : decode cX11_guildRests 12 = .ok (.iconst (-1), 1) := by decide +kernel
theorem dX11_guildRests_13 : decode cX11_guildRests 13 = .ok (.istore 5, 2) := by decide +kernel
theorem dX11_guildRests_15 : decode cX11_guildRests 15 = .ok (.iload 5, 2) := by decide +kernel
theorem dX11_guildRests_17 : decode cX11_guildRests 17 = .ok (.bipush 16, 2) := by decide +kernel
theorem dX11_guildRests_19 : decode cX11_guildRests 19 = .ok (.if_icmp .ge 36, 3) := by decide +kernel
theorem dX11_guildRests_22 : decode cX11_guildRests 22 = .ok (.iload_n 3, 1) := by decide +kernel
theorem dX11_guildRests_23 : decode cX11_guildRests 23 = .ok (.iload 5, 2) := by decide +kernel
theorem dX11_guildRests_25 : decode cX11_guildRests 25 = .ok (.invokestatic 318, 3) := by decide +kernel
theorem dX11_guildRests_28 : decode cX11_guildRests 28 = .ok (.ifCond .eq 21, 3) := by decide +kernel
theorem dX11_guildRests_31 : decode cX11_guildRests 31 = .ok (.aload_n 0, 1) := by decide +kernel
theorem dX11_guildRests_32 : decode cX11_guildRests 32 = .ok (.getfield 82, 3) := by decide +kernel
theorem dX11_guildRests_35 : decode cX11_guildRests 35 = .ok (.iload_n 1, 1) := by decide +kernel
theorem dX11_guildRests_36 : decode cX11_guildRests 36 = .ok (.iload 5, 2) := by decide +kernel
theorem dX11_guildRests_38 : decode cX11_guildRests 38 = .ok (.invokestatic 403, 3) := by decide +kernel
theorem dX11_guildRests_41 : decode cX11_guildRests 41 = .ok (.iaload, 1) := by decide +kernel
theorem dX11_guildRests_42 : decode cX11_guildRests 42 = .ok (.iload 4, 2) := by decide +kernel
theorem dX11_guildRests_44 : decode cX11_guildRests 44 = .ok (.if_icmp .le 5, 3) := by decide +kernel
theorem dX11_guildRests_47 : decode cX11_guildRests 47 = .ok (.iconst 0, 1) := by decide +kernel
theorem dX11_guildRests_48 : decode cX11_guildRests 48 = .ok (.ireturn, 1) := by decide +kernel
theorem dX11_guildRests_49 : decode cX11_guildRests 49 = .ok (.iinc 5 1, 3) := by decide +kernel
theorem dX11_guildRests_52 : decode cX11_guildRests 52 = .ok (.goto (-37), 3) := by decide +kernel
theorem dX11_guildRests_55 : decode cX11_guildRests 55 = .ok (.iconst 1, 1) := by decide +kernel
theorem dX11_guildRests_56 : decode cX11_guildRests 56 = .ok (.ireturn, 1) := by decide +kernel
theorem dX11_power_0 : decode cX11_power 0 = .ok (.lconst 1, 1) := by decide +kernel
theorem dX11_power_1 : decode cX11_power 1 = .ok (.lstore_n 3, 1) := by decide +kernel
theorem dX11_power_2 : decode cX11_power 2 = .ok (.iconst 0, 1) := by decide +kernel
theorem dX11_power_3 : decode cX11_power 3 = .ok (.istore 5, 2) := by decide +kernel
theorem dX11_power_5 : decode cX11_power 5 = .ok (.iload 5, 2) := by decide +kernel
theorem dX11_power_7 : decode cX11_power 7 = .ok (.iload_n 2, 1) := by decide +kernel
theorem dX11_power_8 : decode cX11_power 8 = .ok (.if_icmp .ge 13, 3) := by decide +kernel
theorem dX11_power_11 : decode cX11_power 11 = .ok (.lload_n 3, 1) := by decide +kernel
theorem dX11_power_12 : decode cX11_power 12 = .ok (.lload_n 0, 1) := by decide +kernel
theorem dX11_power_13 : decode cX11_power 13 = .ok (.lmul, 1) := by decide +kernel
theorem dX11_power_14 : decode cX11_power 14 = .ok (.lstore_n 3, 1) := by decide +kernel
theorem dX11_power_15 : decode cX11_power 15 = .ok (.iinc 5 1, 3) := by decide +kernel
theorem dX11_power_18 : decode cX11_power 18 = .ok (.goto (-13), 3) := by decide +kernel
theorem dX11_power_21 : decode cX11_power 21 = .ok (.lload_n 3, 1) := by decide +kernel
theorem dX11_power_22 : decode cX11_power 22 = .ok (.lreturn, 1) := by decide +kernel
theorem dX11_choices_0 : decode cX11_choices 0 = .ok (.lconst 1, 1) := by decide +kernel
theorem dX11_choices_1 : decode cX11_choices 1 = .ok (.lstore_n 2, 1) := by decide +kernel
theorem dX11_choices_2 : decode cX11_choices 2 = .ok (.iconst 1, 1) := by decide +kernel
theorem dX11_choices_3 : decode cX11_choices 3 = .ok (.istore 4, 2) := by decide +kernel
theorem dX11_choices_5 : decode cX11_choices 5 = .ok (.iload 4, 2) := by decide +kernel
theorem dX11_choices_7 : decode cX11_choices 7 = .ok (.iload_n 1, 1) := by decide +kernel
theorem dX11_choices_8 : decode cX11_choices 8 = .ok (.if_icmp .gt 23, 3) := by decide +kernel
theorem dX11_choices_11 : decode cX11_choices 11 = .ok (.lload_n 2, 1) := by decide +kernel
theorem dX11_choices_12 : decode cX11_choices 12 = .ok (.iload_n 0, 1) := by decide +kernel
theorem dX11_choices_13 : decode cX11_choices 13 = .ok (.iload 4, 2) := by decide +kernel
theorem dX11_choices_15 : decode cX11_choices 15 = .ok (.isub, 1) := by decide +kernel
theorem dX11_choices_16 : decode cX11_choices 16 = .ok (.iconst 1, 1) := by decide +kernel
theorem dX11_choices_17 : decode cX11_choices 17 = .ok (.iadd, 1) := by decide +kernel
theorem dX11_choices_18 : decode cX11_choices 18 = .ok (.i2l, 1) := by decide +kernel
theorem dX11_choices_19 : decode cX11_choices 19 = .ok (.lmul, 1) := by decide +kernel
theorem dX11_choices_20 : decode cX11_choices 20 = .ok (.iload 4, 2) := by decide +kernel
theorem dX11_choices_22 : decode cX11_choices 22 = .ok (.i2l, 1) := by decide +kernel
theorem dX11_choices_23 : decode cX11_choices 23 = .ok (.ldiv, 1) := by decide +kernel
theorem dX11_choices_24 : decode cX11_choices 24 = .ok (.lstore_n 2, 1) := by decide +kernel
theorem dX11_choices_25 : decode cX11_choices 25 = .ok (.iinc 4 1, 3) := by decide +kernel
theorem dX11_choices_28 : decode cX11_choices 28 = .ok (.goto (-23), 3) := by decide +kernel
theorem dX11_choices_31 : decode cX11_choices 31 = .ok (.lload_n 2, 1) := by decide +kernel
theorem dX11_choices_32 : decode cX11_choices 32 = .ok (.lreturn, 1) := by decide +kernel
theorem dX12_thrown_0 : decode cX12_thrown 0 = .ok (.aload_n 0, 1) := by decide +kernel
theorem dX12_thrown_1 : decode cX12_thrown 1 = .ok (.getfield 3, 3) := by decide +kernel
theorem dX12_thrown_4 : decode cX12_thrown 4 = .ok (.ireturn, 1) := by decide +kernel
theorem dX12_throwsIf_0 : decode cX12_throwsIf 0 = .ok (.iload_n 1, 1) := by decide +kernel
theorem dX12_throwsIf_1 : decode cX12_throwsIf 1 = .ok (.ifCond .eq 8, 3) := by decide +kernel
theorem dX12_throwsIf_4 : decode cX12_throwsIf 4 = .ok (.aload_n 0, 1) := by decide +kernel
theorem dX12_throwsIf_5 : decode cX12_throwsIf 5 = .ok (.iload_n 2, 1) := by decide +kernel
theorem dX12_throwsIf_6 : decode cX12_throwsIf 6 = .ok (.putfield 3, 3) := by decide +kernel
theorem dX12_throwsIf_9 : decode cX12_throwsIf 9 = .ok (.iload_n 1, 1) := by decide +kernel
theorem dX12_throwsIf_10 : decode cX12_throwsIf 10 = .ok (.ireturn, 1) := by decide +kernel
theorem dX12_in_0 : decode cX12_in 0 = .ok (.iload_n 0, 1) := by decide +kernel
theorem dX12_in_1 : decode cX12_in 1 = .ok (.iload_n 1, 1) := by decide +kernel
theorem dX12_in_2 : decode cX12_in 2 = .ok (.if_icmp .lt 12, 3) := by decide +kernel
theorem dX12_in_5 : decode cX12_in 5 = .ok (.iload_n 0, 1) := by decide +kernel
theorem dX12_in_6 : decode cX12_in 6 = .ok (.iload_n 2, 1) := by decide +kernel
theorem dX12_in_7 : decode cX12_in 7 = .ok (.if_icmp .gt 7, 3) := by decide +kernel
theorem dX12_in_10 : decode cX12_in 10 = .ok (.iconst 1, 1) := by decide +kernel
theorem dX12_in_11 : decode cX12_in 11 = .ok (.goto 4, 3) := by decide +kernel
theorem dX12_in_14 : decode cX12_in 14 = .ok (.iconst 0, 1) := by decide +kernel
theorem dX12_in_15 : decode cX12_in 15 = .ok (.ireturn, 1) := by decide +kernel
theorem dX12_has_0 : decode cX12_has 0 = .ok (.iload_n 0, 1) := by decide +kernel
theorem dX12_has_1 : decode cX12_has 1 = .ok (.iload_n 1, 1) := by decide +kernel
theorem dX12_has_2 : decode cX12_has 2 = .ok (.ishr, 1) := by decide +kernel
theorem dX12_has_3 : decode cX12_has 3 = .ok (.iconst 1, 1) := by decide +kernel
theorem dX12_has_4 : decode cX12_has 4 = .ok (.iand, 1) := by decide +kernel
theorem dX12_has_5 : decode cX12_has 5 = .ok (.iconst 1, 1) := by decide +kernel
theorem dX12_has_6 : decode cX12_has 6 = .ok (.if_icmp .ne 7, 3) := by decide +kernel
theorem dX12_has_9 : decode cX12_has 9 = .ok (.iconst 1, 1) := by decide +kernel
theorem dX12_has_10 : decode cX12_has 10 = .ok (.goto 4, 3) := by decide +kernel
theorem dX12_has_13 : decode cX12_has 13 = .ok (.iconst 0, 1) := by decide +kernel
theorem dX12_has_14 : decode cX12_has 14 = .ok (.ireturn, 1) := by decide +kernel
theorem dX12_init_0 : decode cX12_init 0 = .ok (.aload_n 0, 1) := by decide +kernel
theorem dX12_init_1 : decode cX12_init 1 = .ok (.invokespecial 7, 3) := by decide +kernel
theorem dX12_init_4 : decode cX12_init 4 = .ok (.aload_n 0, 1) := by decide +kernel
theorem dX12_init_5 : decode cX12_init 5 = .ok (.sipush 2031, 3) := by decide +kernel
theorem dX12_init_8 : decode cX12_init 8 = .ok (.newarray .int, 2) := by decide +kernel
theorem dX12_init_10 : decode cX12_init 10 = .ok (.putfield 13, 3) := by decide +kernel
theorem dX12_init_13 : decode cX12_init 13 = .ok (.aload_n 0, 1) := by decide +kernel
theorem dX12_init_14 : decode cX12_init 14 = .ok (.sipush 1182, 3) := by decide +kernel
theorem dX12_init_17 : decode cX12_init 17 = .ok (.newarray .int, 2) := by decide +kernel
theorem dX12_init_19 : decode cX12_init 19 = .ok (.putfield 17, 3) := by decide +kernel
theorem dX12_init_22 : decode cX12_init 22 = .ok (.aload_n 0, 1) := by decide +kernel
theorem dX12_init_23 : decode cX12_init 23 = .ok (.sipush 1182, 3) := by decide +kernel
theorem dX12_init_26 : decode cX12_init 26 = .ok (.newarray .int, 2) := by decide +kernel
theorem dX12_init_28 : decode cX12_init 28 = .ok (.putfield 20, 3) := by decide +kernel
theorem dX12_init_31 : decode cX12_init 31 = .ok (.aload_n 0, 1) := by decide +kernel
theorem dX12_init_32 : decode cX12_init 32 = .ok (.sipush 333, 3) := by decide +kernel
theorem dX12_init_35 : decode cX12_init 35 = .ok (.newarray .int, 2) := by decide +kernel
theorem dX12_init_37 : decode cX12_init 37 = .ok (.putfield 23, 3) := by decide +kernel
theorem dX12_init_40 : decode cX12_init 40 = .ok (.aload_n 0, 1) := by decide +kernel
theorem dX12_init_41 : decode cX12_init 41 = .ok (.sipush 3996, 3) := by decide +kernel
theorem dX12_init_44 : decode cX12_init 44 = .ok (.newarray .int, 2) := by decide +kernel
theorem dX12_init_46 : decode cX12_init 46 = .ok (.putfield 26, 3) := by decide +kernel
theorem dX12_init_49 : decode cX12_init 49 = .ok (.aload_n 0, 1) := by decide +kernel
theorem dX12_init_50 : decode cX12_init 50 = .ok (.sipush 400, 3) := by decide +kernel
theorem dX12_init_53 : decode cX12_init 53 = .ok (.newarray .byte, 2) := by decide +kernel
theorem dX12_init_55 : decode cX12_init 55 = .ok (.putfield 29, 3) := by decide +kernel
theorem dX12_init_58 : decode cX12_init 58 = .ok (.aload_n 0, 1) := by decide +kernel
theorem dX12_init_59 : decode cX12_init 59 = .ok (.iconst (-1), 1) := by decide +kernel
theorem dX12_init_60 : decode cX12_init 60 = .ok (.putfield 33, 3) := by decide +kernel
theorem dX12_init_63 : decode cX12_init 63 = .ok (.aload_n 0, 1) := by decide +kernel
theorem dX12_init_64 : decode cX12_init 64 = .ok (.iconst 5, 1) := by decide +kernel
theorem dX12_init_65 : decode cX12_init 65 = .ok (.newarray .int, 2) := by decide +kernel
theorem dX12_init_67 : decode cX12_init 67 = .ok (.putfield 36, 3) := by decide +kernel
theorem dX12_init_70 : decode cX12_init 70 = .ok (.aload_n 0, 1) := by decide +kernel
theorem dX12_init_71 : decode cX12_init 71 = .ok (.sipush 400, 3) := by decide +kernel
theorem dX12_init_74 : decode cX12_init 74 = .ok (.newarray .int, 2) := by decide +kernel
theorem dX12_init_76 : decode cX12_init 76 = .ok (.putfield 39, 3) := by decide +kernel
theorem dX12_init_79 : decode cX12_init 79 = .ok (.aload_n 0, 1) := by decide +kernel
theorem dX12_init_80 : decode cX12_init 80 = .ok (.sipush 192, 3) := by decide +kernel
theorem dX12_init_83 : decode cX12_init 83 = .ok (.newarray .int, 2) := by decide +kernel
theorem dX12_init_85 : decode cX12_init 85 = .ok (.putfield 42, 3) := by decide +kernel
theorem dX12_init_88 : decode cX12_init 88 = .ok (.aload_n 0, 1) := by decide +kernel
theorem dX12_init_89 : decode cX12_init 89 = .ok (.sipush 273, 3) := by decide +kernel
theorem dX12_init_92 : decode cX12_init 92 = .ok (.newarray .int, 2) := by decide +kernel
theorem dX12_init_94 : decode cX12_init 94 = .ok (.putfield 45, 3) := by decide +kernel
theorem dX12_init_97 : decode cX12_init 97 = .ok (.aload_n 0, 1) := by decide +kernel
theorem dX12_init_98 : decode cX12_init 98 = .ok (.sipush 4368, 3) := by decide +kernel
theorem dX12_init_101 : decode cX12_init 101 = .ok (.newarray .int, 2) := by decide +kernel
theorem dX12_init_103 : decode cX12_init 103 = .ok (.putfield 48, 3) := by decide +kernel
theorem dX12_init_106 : decode cX12_init 106 = .ok (.aload_n 0, 1) := by decide +kernel
theorem dX12_init_107 : decode cX12_init 107 = .ok (.sipush 289, 3) := by decide +kernel
theorem dX12_init_110 : decode cX12_init 110 = .ok (.newarray .int, 2) := by decide +kernel
theorem dX12_init_112 : decode cX12_init 112 = .ok (.putfield 51, 3) := by decide +kernel
theorem dX12_init_115 : decode cX12_init 115 = .ok (.aload_n 0, 1) := by decide +kernel
theorem dX12_init_116 : decode cX12_init 116 = .ok (.getfield 13, 3) := by decide +kernel
theorem dX12_init_119 : decode cX12_init 119 = .ok (.iconst 4, 1) := by decide +kernel
theorem dX12_init_120 : decode cX12_init 120 = .ok (.bipush 20, 2) := by decide +kernel
theorem dX12_init_122 : decode cX12_init 122 = .ok (.iastore, 1) := by decide +kernel
theorem dX12_init_123 : decode cX12_init 123 = .ok (.aload_n 0, 1) := by decide +kernel
theorem dX12_init_124 : decode cX12_init 124 = .ok (.getfield 13, 3) := by decide +kernel
theorem dX12_init_127 : decode cX12_init 127 = .ok (.iconst 5, 1) := by decide +kernel
theorem dX12_init_128 : decode cX12_init 128 = .ok (.iconst 3, 1) := by decide +kernel
theorem dX12_init_129 : decode cX12_init 129 = .ok (.iastore, 1) := by decide +kernel
theorem dX12_init_130 : decode cX12_init 130 = .ok (.aload_n 0, 1) := by decide +kernel
theorem dX12_init_131 : decode cX12_init 131 = .ok (.getfield 13, 3) := by decide +kernel
theorem dX12_init_134 : decode cX12_init 134 = .ok (.bipush 12, 2) := by decide +kernel
theorem dX12_init_136 : decode cX12_init 136 = .ok (.iconst 1, 1) := by decide +kernel
theorem dX12_init_137 : decode cX12_init 137 = .ok (.iastore, 1) := by decide +kernel
theorem dX12_init_138 : decode cX12_init 138 = .ok (.return_, 1) := by decide +kernel
theorem dX12_image_0 : decode cX12_image 0 = .ok (.aload_n 0, 1) := by decide +kernel
theorem dX12_image_1 : decode cX12_image 1 = .ok (.iconst 0, 1) := by decide +kernel
theorem dX12_image_2 : decode cX12_image 2 = .ok (.putfield 3, 3) := by decide +kernel
theorem dX12_image_5 : decode cX12_image 5 = .ok (.iconst 0, 1) := by decide +kernel
theorem dX12_image_6 : decode cX12_image 6 = .ok (.istore_n 1, 1) := by decide +kernel
theorem dX12_image_7 : decode cX12_image 7 = .ok (.iload_n 1, 1) := by decide +kernel
theorem dX12_image_8 : decode cX12_image 8 = .ok (.sipush 1182, 3) := by decide +kernel
theorem dX12_image_11 : decode cX12_image 11 = .ok (.if_icmp .ge 21, 3) := by decide +kernel
theorem dX12_image_14 : decode cX12_image 14 = .ok (.aload_n 0, 1) := by decide +kernel
theorem dX12_image_15 : decode cX12_image 15 = .ok (.getfield 17, 3) := by decide +kernel
theorem dX12_image_18 : decode cX12_image 18 = .ok (.iload_n 1, 1) := by decide +kernel
theorem dX12_image_19 : decode cX12_image 19 = .ok (.aload_n 0, 1) := by decide +kernel
theorem dX12_image_20 : decode cX12_image 20 = .ok (.getfield 13, 3) := by decide +kernel
theorem dX12_image_23 : decode cX12_image 23 = .ok (.iload_n 1, 1) := by decide +kernel
theorem dX12_image_24 : decode cX12_image 24 = .ok (.iaload, 1) := by decide +kernel
theorem dX12_image_25 : decode cX12_image 25 = .ok (.iastore, 1) := by decide +kernel
theorem dX12_image_26 : decode cX12_image 26 = .ok (.iinc 1 1, 3) := by decide +kernel
theorem dX12_image_29 : decode cX12_image 29 = .ok (.goto (-22), 3) := by decide +kernel
theorem dX12_image_32 : decode cX12_image 32 = .ok (.aload_n 0, 1) := by decide +kernel
theorem dX12_image_33 : decode cX12_image 33 = .ok (.iconst 1, 1) := by decide +kernel
theorem dX12_image_34 : decode cX12_image 34 = .ok (.putfield 54, 3) := by decide +kernel
theorem dX12_image_37 : decode cX12_image 37 = .ok (.return_, 1) := by decide +kernel
theorem dX12_back_0 : decode cX12_back 0 = .ok (.aload_n 0, 1) := by decide +kernel
theorem dX12_back_1 : decode cX12_back 1 = .ok (.iconst 0, 1) := by decide +kernel
theorem dX12_back_2 : decode cX12_back 2 = .ok (.putfield 3, 3) := by decide +kernel
theorem dX12_back_5 : decode cX12_back 5 = .ok (.aload_n 0, 1) := by decide +kernel
theorem dX12_back_6 : decode cX12_back 6 = .ok (.getfield 54, 3) := by decide +kernel
theorem dX12_back_9 : decode cX12_back 9 = .ok (.ifCond .ne 5, 3) := by decide +kernel
theorem dX12_back_12 : decode cX12_back 12 = .ok (.iconst 0, 1) := by decide +kernel
theorem dX12_back_13 : decode cX12_back 13 = .ok (.ireturn, 1) := by decide +kernel
theorem dX12_back_14 : decode cX12_back 14 = .ok (.iconst 0, 1) := by decide +kernel
theorem dX12_back_15 : decode cX12_back 15 = .ok (.istore_n 1, 1) := by decide +kernel
theorem dX12_back_16 : decode cX12_back 16 = .ok (.iload_n 1, 1) := by decide +kernel
theorem dX12_back_17 : decode cX12_back 17 = .ok (.sipush 1182, 3) := by decide +kernel
theorem dX12_back_20 : decode cX12_back 20 = .ok (.if_icmp .ge 21, 3) := by decide +kernel
theorem dX12_back_23 : decode cX12_back 23 = .ok (.aload_n 0, 1) := by decide +kernel
theorem dX12_back_24 : decode cX12_back 24 = .ok (.getfield 13, 3) := by decide +kernel
theorem dX12_back_27 : decode cX12_back 27 = .ok (.iload_n 1, 1) := by decide +kernel
theorem dX12_back_28 : decode cX12_back 28 = .ok (.aload_n 0, 1) := by decide +kernel
theorem dX12_back_29 : decode cX12_back 29 = .ok (.getfield 17, 3) := by decide +kernel
theorem dX12_back_32 : decode cX12_back 32 = .ok (.iload_n 1, 1) := by decide +kernel
theorem dX12_back_33 : decode cX12_back 33 = .ok (.iaload, 1) := by decide +kernel
theorem dX12_back_34 : decode cX12_back 34 = .ok (.iastore, 1) := by decide +kernel
theorem dX12_back_35 : decode cX12_back 35 = .ok (.iinc 1 1, 3) := by decide +kernel
theorem dX12_back_38 : decode cX12_back 38 = .ok (.goto (-22), 3) := by decide +kernel
theorem dX12_back_41 : decode cX12_back 41 = .ok (.aload_n 0, 1) := by decide +kernel
theorem dX12_back_42 : decode cX12_back 42 = .ok (.iconst 0, 1) := by decide +kernel
theorem dX12_back_43 : decode cX12_back 43 = .ok (.putfield 58, 3) := by decide +kernel
theorem dX12_back_46 : decode cX12_back 46 = .ok (.iconst 1, 1) := by decide +kernel
theorem dX12_back_47 : decode cX12_back 47 = .ok (.ireturn, 1) := by decide +kernel
theorem dX12_remembers_0 : decode cX12_remembers 0 = .ok (.aload_n 0, 1) := by decide +kernel
theorem dX12_remembers_1 : decode cX12_remembers 1 = .ok (.getfield 58, 3) := by decide +kernel
theorem dX12_remembers_4 : decode cX12_remembers 4 = .ok (.bipush 12, 2) := by decide +kernel
theorem dX12_remembers_6 : decode cX12_remembers 6 = .ok (.if_icmp .ne 37, 3) := by decide +kernel
theorem dX12_remembers_9 : decode cX12_remembers 9 = .ok (.iconst 0, 1) := by decide +kernel
theorem dX12_remembers_10 : decode cX12_remembers 10 = .ok (.istore_n 1, 1) := by decide +kernel
theorem dX12_remembers_11 : decode cX12_remembers 11 = .ok (.iload_n 1, 1) := by decide +kernel
theorem dX12_remembers_12 : decode cX12_remembers 12 = .ok (.sipush 3663, 3) := by decide +kernel
theorem dX12_remembers_15 : decode cX12_remembers 15 = .ok (.if_icmp .ge 25, 3) := by decide +kernel
theorem dX12_remembers_18 : decode cX12_remembers 18 = .ok (.aload_n 0, 1) := by decide +kernel
theorem dX12_remembers_19 : decode cX12_remembers 19 = .ok (.getfield 26, 3) := by decide +kernel
theorem dX12_remembers_22 : decode cX12_remembers 22 = .ok (.iload_n 1, 1) := by decide +kernel
theorem dX12_remembers_23 : decode cX12_remembers 23 = .ok (.aload_n 0, 1) := by decide +kernel
theorem dX12_remembers_24 : decode cX12_remembers 24 = .ok (.getfield 26, 3) := by decide +kernel
theorem dX12_remembers_27 : decode cX12_remembers 27 = .ok (.iload_n 1, 1) := by decide +kernel
theorem dX12_remembers_28 : decode cX12_remembers 28 = .ok (.sipush 333, 3) := by decide +kernel
theorem dX12_remembers_31 : decode cX12_remembers 31 = .ok (.iadd, 1) := by decide +kernel
theorem dX12_remembers_32 : decode cX12_remembers 32 = .ok (.iaload, 1) := by decide +kernel
theorem dX12_remembers_33 : decode cX12_remembers 33 = .ok (.iastore, 1) := by decide +kernel
theorem dX12_remembers_34 : decode cX12_remembers 34 = .ok (.iinc 1 1, 3) := by decide +kernel
theorem dX12_remembers_37 : decode cX12_remembers 37 = .ok (.goto (-26), 3) := by decide +kernel
theorem dX12_remembers_40 : decode cX12_remembers 40 = .ok (.goto 13, 3) := by decide +kernel
theorem dX12_remembers_43 : decode cX12_remembers 43 = .ok (.aload_n 0, 1) := by decide +kernel
theorem dX12_remembers_44 : decode cX12_remembers 44 = .ok (.dup, 1) := by decide +kernel
theorem dX12_remembers_45 : decode cX12_remembers 45 = .ok (.getfield 58, 3) := by decide +kernel
theorem dX12_remembers_48 : decode cX12_remembers 48 = .ok (.iconst 1, 1) := by decide +kernel
theorem dX12_remembers_49 : decode cX12_remembers 49 = .ok (.iadd, 1) := by decide +kernel
theorem dX12_remembers_50 : decode cX12_remembers 50 = .ok (.putfield 58, 3) := by decide +kernel
theorem dX12_remembers_53 : decode cX12_remembers 53 = .ok (.iconst 0, 1) := by decide +kernel
theorem dX12_remembers_54 : decode cX12_remembers 54 = .ok (.istore_n 1, 1) := by decide +kernel
theorem dX12_remembers_55 : decode cX12_remembers 55 = .ok (.iload_n 1, 1) := by decide +kernel
theorem dX12_remembers_56 : decode cX12_remembers 56 = .ok (.sipush 333, 3) := by decide +kernel
theorem dX12_remembers_59 : decode cX12_remembers 59 = .ok (.if_icmp .ge 32, 3) := by decide +kernel
theorem dX12_remembers_62 : decode cX12_remembers 62 = .ok (.aload_n 0, 1) := by decide +kernel
theorem dX12_remembers_63 : decode cX12_remembers 63 = .ok (.getfield 26, 3) := by decide +kernel
theorem dX12_remembers_66 : decode cX12_remembers 66 = .ok (.sipush 333, 3) := by decide +kernel
theorem dX12_remembers_69 : decode cX12_remembers 69 = .ok (.aload_n 0, 1) := by decide +kernel
theorem dX12_remembers_70 : decode cX12_remembers 70 = .ok (.getfield 58, 3) := by decide +kernel
theorem dX12_remembers_73 : decode cX12_remembers 73 = .ok (.iconst 1, 1) := by decide +kernel
theorem dX12_remembers_74 : decode cX12_remembers 74 = .ok (.isub, 1) := by decide +kernel
theorem dX12_remembers_75 : decode cX12_remembers 75 = .ok (.imul, 1) := by decide +kernel
theorem dX12_remembers_76 : decode cX12_remembers 76 = .ok (.iload_n 1, 1) := by decide +kernel
theorem dX12_remembers_77 : decode cX12_remembers 77 = .ok (.iadd, 1) := by decide +kernel
theorem dX12_remembers_78 : decode cX12_remembers 78 = .ok (.aload_n 0, 1) := by decide +kernel
theorem dX12_remembers_79 : decode cX12_remembers 79 = .ok (.getfield 13, 3) := by decide +kernel
theorem dX12_remembers_82 : decode cX12_remembers 82 = .ok (.iload_n 1, 1) := by decide +kernel
theorem dX12_remembers_83 : decode cX12_remembers 83 = .ok (.iaload, 1) := by decide +kernel
theorem dX12_remembers_84 : decode cX12_remembers 84 = .ok (.iastore, 1) := by decide +kernel
theorem dX12_remembers_85 : decode cX12_remembers 85 = .ok (.iinc 1 1, 3) := by decide +kernel
theorem dX12_remembers_88 : decode cX12_remembers 88 = .ok (.goto (-33), 3) := by decide +kernel
theorem dX12_remembers_91 : decode cX12_remembers 91 = .ok (.return_, 1) := by decide +kernel
theorem dX12_undo_0 : decode cX12_undo 0 = .ok (.aload_n 0, 1) := by decide +kernel
theorem dX12_undo_1 : decode cX12_undo 1 = .ok (.iconst 0, 1) := by decide +kernel
theorem dX12_undo_2 : decode cX12_undo 2 = .ok (.putfield 3, 3) := by decide +kernel
theorem dX12_undo_5 : decode cX12_undo 5 = .ok (.aload_n 0, 1) := by decide +kernel
theorem dX12_undo_6 : decode cX12_undo 6 = .ok (.getfield 58, 3) := by decide +kernel
theorem dX12_undo_9 : decode cX12_undo 9 = .ok (.ifCond .ne 5, 3) := by decide +kernel
theorem dX12_undo_12 : decode cX12_undo 12 = .ok (.iconst 0, 1) := by decide +kernel
theorem dX12_undo_13 : decode cX12_undo 13 = .ok (.ireturn, 1) := by decide +kernel
theorem dX12_undo_14 : decode cX12_undo 14 = .ok (.aload_n 0, 1) := by decide +kernel
theorem dX12_undo_15 : decode cX12_undo 15 = .ok (.dup, 1) := by decide +kernel
theorem dX12_undo_16 : decode cX12_undo 16 = .ok (.getfield 58, 3) := by decide +kernel
theorem dX12_undo_19 : decode cX12_undo 19 = .ok (.iconst 1, 1) := by decide +kernel
theorem dX12_undo_20 : decode cX12_undo 20 = .ok (.isub, 1) := by decide +kernel
theorem dX12_undo_21 : decode cX12_undo 21 = .ok (.putfield 58, 3) := by decide +kernel
theorem dX12_undo_24 : decode cX12_undo 24 = .ok (.iconst 0, 1) := by decide +kernel
theorem dX12_undo_25 : decode cX12_undo 25 = .ok (.istore_n 1, 1) := by decide +kernel
theorem dX12_undo_26 : decode cX12_undo 26 = .ok (.iload_n 1, 1) := by decide +kernel
theorem dX12_undo_27 : decode cX12_undo 27 = .ok (.sipush 333, 3) := by decide +kernel
theorem dX12_undo_30 : decode cX12_undo 30 = .ok (.if_icmp .ge 30, 3) := by decide +kernel
theorem dX12_undo_33 : decode cX12_undo 33 = .ok (.aload_n 0, 1) := by decide +kernel
theorem dX12_undo_34 : decode cX12_undo 34 = .ok (.getfield 13, 3) := by decide +kernel
theorem dX12_undo_37 : decode cX12_undo 37 = .ok (.iload_n 1, 1) := by decide +kernel
theorem dX12_undo_38 : decode cX12_undo 38 = .ok (.aload_n 0, 1) := by decide +kernel
theorem dX12_undo_39 : decode cX12_undo 39 = .ok (.getfield 26, 3) := by decide +kernel
theorem dX12_undo_42 : decode cX12_undo 42 = .ok (.sipush 333, 3) := by decide +kernel
theorem dX12_undo_45 : decode cX12_undo 45 = .ok (.aload_n 0, 1) := by decide +kernel
theorem dX12_undo_46 : decode cX12_undo 46 = .ok (.getfield 58, 3) := by decide +kernel
theorem dX12_undo_49 : decode cX12_undo 49 = .ok (.imul, 1) := by decide +kernel
theorem dX12_undo_50 : decode cX12_undo 50 = .ok (.iload_n 1, 1) := by decide +kernel
theorem dX12_undo_51 : decode cX12_undo 51 = .ok (.iadd, 1) := by decide +kernel
theorem dX12_undo_52 : decode cX12_undo 52 = .ok (.iaload, 1) := by decide +kernel
theorem dX12_undo_53 : decode cX12_undo 53 = .ok (.iastore, 1) := by decide +kernel
theorem dX12_undo_54 : decode cX12_undo 54 = .ok (.iinc 1 1, 3) := by decide +kernel
theorem dX12_undo_57 : decode cX12_undo 57 = .ok (.goto (-31), 3) := by decide +kernel
theorem dX12_undo_60 : decode cX12_undo 60 = .ok (.iconst 1, 1) := by decide +kernel
theorem dX12_undo_61 : decode cX12_undo 61 = .ok (.ireturn, 1) := by decide +kernel
theorem dX12_pinners_0 : decode cX12_pinners 0 = .ok (.aload_n 0, 1) := by decide +kernel
theorem dX12_pinners_1 : decode cX12_pinners 1 = .ok (.getfield 13, 3) := by decide +kernel
theorem dX12_pinners_4 : decode cX12_pinners 4 = .ok (.iconst 0, 1) := by decide +kernel
theorem dX12_pinners_5 : decode cX12_pinners 5 = .ok (.iaload, 1) := by decide +kernel
theorem dX12_pinners_6 : decode cX12_pinners 6 = .ok (.ireturn, 1) := by decide +kernel
theorem dX12_at_0 : decode cX12_at 0 = .ok (.bipush 78, 2) := by decide +kernel
theorem dX12_at_2 : decode cX12_at 2 = .ok (.iconst 3, 1) := by decide +kernel
theorem dX12_at_3 : decode cX12_at 3 = .ok (.iload_n 0, 1) := by decide +kernel
theorem dX12_at_4 : decode cX12_at 4 = .ok (.imul, 1) := by decide +kernel
theorem dX12_at_5 : decode cX12_at 5 = .ok (.iadd, 1) := by decide +kernel
theorem dX12_at_6 : decode cX12_at 6 = .ok (.iload_n 1, 1) := by decide +kernel
theorem dX12_at_7 : decode cX12_at 7 = .ok (.iadd, 1) := by decide +kernel
theorem dX12_at_8 : decode cX12_at 8 = .ok (.ireturn, 1) := by decide +kernel
theorem dX12_of_0 : decode cX12_of 0 = .ok (.aload_n 0, 1) := by decide +kernel
theorem dX12_of_1 : decode cX12_of 1 = .ok (.getfield 13, 3) := by decide +kernel
theorem dX12_of_4 : decode cX12_of 4 = .ok (.iload_n 1, 1) := by decide +kernel
theorem dX12_of_5 : decode cX12_of 5 = .ok (.iload_n 2, 1) := by decide +kernel
theorem dX12_of_6 : decode cX12_of 6 = .ok (.invokestatic 61, 3) := by decide +kernel
theorem dX12_of_9 : decode cX12_of 9 = .ok (.iaload, 1) := by decide +kernel
theorem dX12_of_10 : decode cX12_of 10 = .ok (.ireturn, 1) := by decide +kernel
theorem dX12_pins_0 : decode cX12_pins 0 = .ok (.aload_n 0, 1) := by decide +kernel
theorem dX12_pins_1 : decode cX12_pins 1 = .ok (.getfield 13, 3) := by decide +kernel
theorem dX12_pins_4 : decode cX12_pins 4 = .ok (.bipush 7, 2) := by decide +kernel
theorem dX12_pins_6 : decode cX12_pins 6 = .ok (.iaload, 1) := by decide +kernel
theorem dX12_pins_7 : decode cX12_pins 7 = .ok (.ireturn, 1) := by decide +kernel
theorem dX12_hasPin_0 : decode cX12_hasPin 0 = .ok (.aload_n 0, 1) := by decide +kernel
theorem dX12_hasPin_1 : decode cX12_hasPin 1 = .ok (.invokevirtual 65, 3) := by decide +kernel
theorem dX12_hasPin_4 : decode cX12_hasPin 4 = .ok (.iload_n 1, 1) := by decide +kernel
theorem dX12_hasPin_5 : decode cX12_hasPin 5 = .ok (.invokestatic 69, 3) := by decide +kernel
theorem dX12_hasPin_8 : decode cX12_hasPin 8 = .ok (.ireturn, 1) := by decide +kernel
theorem dX12_hasLadder_0 : decode cX12_hasLadder 0 = .ok (.aload_n 0, 1) := by decide +kernel
theorem dX12_hasLadder_1 : decode cX12_hasLadder 1 = .ok (.getfield 13, 3) := by decide +kernel
theorem dX12_hasLadder_4 : decode cX12_hasLadder 4 = .ok (.bipush 13, 2) := by decide +kernel
theorem dX12_hasLadder_6 : decode cX12_hasLadder 6 = .ok (.iaload, 1) := by decide +kernel
theorem dX12_hasLadder_7 : decode cX12_hasLadder 7 = .ok (.iload_n 1, 1) := by decide +kernel
theorem dX12_hasLadder_8 : decode cX12_hasLadder 8 = .ok (.invokestatic 69, 3) := by decide +kernel
theorem dX12_hasLadder_11 : decode cX12_hasLadder 11 = .ok (.ifCond .ne 7, 3) := by decide +kernel
theorem dX12_hasLadder_14 : decode cX12_hasLadder 14 = .ok (.iconst 1, 1) := by decide +kernel
theorem dX12_hasLadder_15 : decode cX12_hasLadder 15 = .ok (.goto 4, 3) := by decide +kernel
theorem dX12_hasLadder_18 : decode cX12_hasLadder 18 = .ok (.iconst 0, 1) := by decide +kernel
theorem dX12_hasLadder_19 : decode cX12_hasLadder 19 = .ok (.ireturn, 1) := by decide +kernel
theorem dX12_noPinner_0 : decode cX12_noPinner 0 = .ok (.iload_n 1, 1) := by decide +kernel
theorem dX12_noPinner_1 : decode cX12_noPinner 1 = .ok (.iconst 0, 1) := by decide +kernel
theorem dX12_noPinner_2 : decode cX12_noPinner 2 = .ok (.aload_n 0, 1) := by decide +kernel
theorem dX12_noPinner_3 : decode cX12_noPinner 3 = .ok (.invokevirtual 73, 3) := by decide +kernel
theorem dX12_noPinner_6 : decode cX12_noPinner 6 = .ok (.iconst 1, 1) := by decide +kernel
theorem dX12_noPinner_7 : decode cX12_noPinner 7 = .ok (.isub, 1) := by decide +kernel
theorem dX12_noPinner_8 : decode cX12_noPinner 8 = .ok (.invokestatic 76, 3) := by decide +kernel
theorem dX12_noPinner_11 : decode cX12_noPinner 11 = .ok (.ifCond .ne 7, 3) := by decide +kernel
theorem dX12_noPinner_14 : decode cX12_noPinner 14 = .ok (.iconst 1, 1) := by decide +kernel
theorem dX12_noPinner_15 : decode cX12_noPinner 15 = .ok (.goto 4, 3) := by decide +kernel
theorem dX12_noPinner_18 : decode cX12_noPinner 18 = .ok (.iconst 0, 1) := by decide +kernel
theorem dX12_noPinner_19 : decode cX12_noPinner 19 = .ok (.ireturn, 1) := by decide +kernel
theorem dX12_noPlace_0 : decode cX12_noPlace 0 = .ok (.iload_n 0, 1) := by decide +kernel
theorem dX12_noPlace_1 : decode cX12_noPlace 1 = .ok (.iconst 0, 1) := by decide +kernel
theorem dX12_noPlace_2 : decode cX12_noPlace 2 = .ok (.bipush 15, 2) := by decide +kernel
theorem dX12_noPlace_4 : decode cX12_noPlace 4 = .ok (.invokestatic 76, 3) := by decide +kernel
theorem dX12_noPlace_7 : decode cX12_noPlace 7 = .ok (.ifCond .ne 7, 3) := by decide +kernel
theorem dX12_noPlace_10 : decode cX12_noPlace 10 = .ok (.iconst 1, 1) := by decide +kernel
theorem dX12_noPlace_11 : decode cX12_noPlace 11 = .ok (.goto 4, 3) := by decide +kernel
theorem dX12_noPlace_14 : decode cX12_noPlace 14 = .ok (.iconst 0, 1) := by decide +kernel
theorem dX12_noPlace_15 : decode cX12_noPlace 15 = .ok (.ireturn, 1) := by decide +kernel
theorem dX12_openPlaces_0 : decode cX12_openPlaces 0 = .ok (.ldc 80, 2) := by decide +kernel
theorem dX12_openPlaces_2 : decode cX12_openPlaces 2 = .ok (.aload_n 0, 1) := by decide +kernel
theorem dX12_openPlaces_3 : decode cX12_openPlaces 3 = .ok (.getfield 13, 3) := by decide +kernel
theorem dX12_openPlaces_6 : decode cX12_openPlaces 6 = .ok (.bipush 13, 2) := by decide +kernel
theorem dX12_openPlaces_8 : decode cX12_openPlaces 8 = .ok (.iaload, 1) := by decide +kernel
theorem dX12_openPlaces_9 : decode cX12_openPlaces 9 = .ok (.iconst (-1), 1) := by decide +kernel
theorem dX12_openPlaces_10 : decode cX12_openPlaces 10 = .ok (.ixor, 1) := by decide +kernel
theorem dX12_openPlaces_11 : decode cX12_openPlaces 11 = .ok (.iand, 1) := by decide +kernel
theorem dX12_openPlaces_12 : decode cX12_openPlaces 12 = .ok (.aload_n 0, 1) := by decide +kernel
theorem dX12_openPlaces_13 : decode cX12_openPlaces 13 = .ok (.invokevirtual 65, 3) := by decide +kernel
theorem dX12_openPlaces_16 : decode cX12_openPlaces 16 = .ok (.iconst (-1), 1) := by decide +kernel
theorem dX12_openPlaces_17 : decode cX12_openPlaces 17 = .ok (.ixor, 1) := by decide +kernel
theorem dX12_openPlaces_18 : decode cX12_openPlaces 18 = .ok (.iand, 1) := by decide +kernel
theorem dX12_openPlaces_19 : decode cX12_openPlaces 19 = .ok (.ireturn, 1) := by decide +kernel
theorem dX12_drawn_0 : decode cX12_drawn 0 = .ok (.aload_n 0, 1) := by decide +kernel
theorem dX12_drawn_1 : decode cX12_drawn 1 = .ok (.getfield 13, 3) := by decide +kernel
theorem dX12_drawn_4 : decode cX12_drawn 4 = .ok (.bipush 12, 2) := by decide +kernel
theorem dX12_drawn_6 : decode cX12_drawn 6 = .ok (.ldc 81, 2) := by decide +kernel
theorem dX12_drawn_8 : decode cX12_drawn 8 = .ok (.aload_n 0, 1) := by decide +kernel
theorem dX12_drawn_9 : decode cX12_drawn 9 = .ok (.getfield 13, 3) := by decide +kernel
theorem dX12_drawn_12 : decode cX12_drawn 12 = .ok (.bipush 12, 2) := by decide +kernel
theorem dX12_drawn_14 : decode cX12_drawn 14 = .ok (.iaload, 1) := by decide +kernel
theorem dX12_drawn_15 : decode cX12_drawn 15 = .ok (.imul, 1) := by decide +kernel
theorem dX12_drawn_16 : decode cX12_drawn 16 = .ok (.sipush 12345, 3) := by decide +kernel
theorem dX12_drawn_19 : decode cX12_drawn 19 = .ok (.iadd, 1) := by decide +kernel
theorem dX12_drawn_20 : decode cX12_drawn 20 = .ok (.iastore, 1) := by decide +kernel
theorem dX12_drawn_21 : decode cX12_drawn 21 = .ok (.aload_n 0, 1) := by decide +kernel
theorem dX12_drawn_22 : decode cX12_drawn 22 = .ok (.getfield 13, 3) := by decide +kernel
theorem dX12_drawn_25 : decode cX12_drawn 25 = .ok (.bipush 12, 2) := by decide +kernel
theorem dX12_drawn_27 : decode cX12_drawn 27 = .ok (.iaload, 1) := by decide +kernel
theorem dX12_drawn_28 : decode cX12_drawn 28 = .ok (.bipush 16, 2) := by decide +kernel
theorem dX12_drawn_30 : decode cX12_drawn 30 = .ok (.ishr, 1) := by decide +kernel
theorem dX12_drawn_31 : decode cX12_drawn 31 = .ok (.sipush 32767, 3) := by decide +kernel
theorem dX12_drawn_34 : decode cX12_drawn 34 = .ok (.iand, 1) := by decide +kernel
theorem dX12_drawn_35 : decode cX12_drawn 35 = .ok (.iload_n 1, 1) := by decide +kernel
theorem dX12_drawn_36 : decode cX12_drawn 36 = .ok (.irem, 1) := by decide +kernel
theorem dX12_drawn_37 : decode cX12_drawn 37 = .ok (.ireturn, 1) := by decide +kernel
theorem dX12_feed_0 : decode cX12_feed 0 = .ok (.aload_n 0, 1) := by decide +kernel
theorem dX12_feed_1 : decode cX12_feed 1 = .ok (.iconst 0, 1) := by decide +kernel
theorem dX12_feed_2 : decode cX12_feed 2 = .ok (.putfield 3, 3) := by decide +kernel
theorem dX12_feed_5 : decode cX12_feed 5 = .ok (.aload_n 0, 1) := by decide +kernel
theorem dX12_feed_6 : decode cX12_feed 6 = .ok (.getfield 82, 3) := by decide +kernel
theorem dX12_feed_9 : decode cX12_feed 9 = .ok (.bipush 20, 2) := by decide +kernel
theorem dX12_feed_11 : decode cX12_feed 11 = .ok (.iadd, 1) := by decide +kernel
theorem dX12_feed_12 : decode cX12_feed 12 = .ok (.sipush 400, 3) := by decide +kernel
theorem dX12_feed_15 : decode cX12_feed 15 = .ok (.if_icmp .le 5, 3) := by decide +kernel
theorem dX12_feed_18 : decode cX12_feed 18 = .ok (.iconst (-1), 1) := by decide +kernel
theorem dX12_feed_19 : decode cX12_feed 19 = .ok (.ireturn, 1) := by decide +kernel
theorem dX12_feed_20 : decode cX12_feed 20 = .ok (.aload_n 0, 1) := by decide +kernel
theorem dX12_feed_21 : decode cX12_feed 21 = .ok (.getfield 36, 3) := by decide +kernel
theorem dX12_feed_24 : decode cX12_feed 24 = .ok (.iconst 0, 1) := by decide +kernel
theorem dX12_feed_25 : decode cX12_feed 25 = .ok (.iload_n 1, 1) := by decide +kernel
theorem dX12_feed_26 : decode cX12_feed 26 = .ok (.iastore, 1) := by decide +kernel
theorem dX12_feed_27 : decode cX12_feed 27 = .ok (.aload_n 0, 1) := by decide +kernel
theorem dX12_feed_28 : decode cX12_feed 28 = .ok (.getfield 36, 3) := by decide +kernel
theorem dX12_feed_31 : decode cX12_feed 31 = .ok (.iconst 1, 1) := by decide +kernel
theorem dX12_feed_32 : decode cX12_feed 32 = .ok (.iload_n 2, 1) := by decide +kernel
theorem dX12_feed_33 : decode cX12_feed 33 = .ok (.iastore, 1) := by decide +kernel
theorem dX12_feed_34 : decode cX12_feed 34 = .ok (.aload_n 0, 1) := by decide +kernel
theorem dX12_feed_35 : decode cX12_feed 35 = .ok (.getfield 36, 3) := by decide +kernel
theorem dX12_feed_38 : decode cX12_feed 38 = .ok (.iconst 2, 1) := by decide +kernel
theorem dX12_feed_39 : decode cX12_feed 39 = .ok (.iload_n 3, 1) := by decide +kernel
theorem dX12_feed_40 : decode cX12_feed 40 = .ok (.iastore, 1) := by decide +kernel
theorem dX12_feed_41 : decode cX12_feed 41 = .ok (.aload_n 0, 1) := by decide +kernel
theorem dX12_feed_42 : decode cX12_feed 42 = .ok (.getfield 36, 3) := by decide +kernel
theorem dX12_feed_45 : decode cX12_feed 45 = .ok (.iconst 3, 1) := by decide +kernel
theorem dX12_feed_46 : decode cX12_feed 46 = .ok (.iload 4, 2) := by decide +kernel
theorem dX12_feed_48 : decode cX12_feed 48 = .ok (.iastore, 1) := by decide +kernel
theorem dX12_feed_49 : decode cX12_feed 49 = .ok (.aload_n 0, 1) := by decide +kernel
theorem dX12_feed_50 : decode cX12_feed 50 = .ok (.getfield 36, 3) := by decide +kernel
theorem dX12_feed_53 : decode cX12_feed 53 = .ok (.iconst 4, 1) := by decide +kernel
theorem dX12_feed_54 : decode cX12_feed 54 = .ok (.iload 5, 2) := by decide +kernel
theorem dX12_feed_56 : decode cX12_feed 56 = .ok (.iastore, 1) := by decide +kernel
theorem dX12_feed_57 : decode cX12_feed 57 = .ok (.iconst 0, 1) := by decide +kernel
theorem dX12_feed_58 : decode cX12_feed 58 = .ok (.istore 6, 2) := by decide +kernel
theorem dX12_feed_60 : decode cX12_feed 60 = .ok (.iload 6, 2) := by decide +kernel
theorem dX12_feed_62 : decode cX12_feed 62 = .ok (.bipush 20, 2) := by decide +kernel
theorem dX12_feed_64 : decode cX12_feed 64 = .ok (.if_icmp .ge 42, 3) := by decide +kernel
theorem dX12_feed_67 : decode cX12_feed 67 = .ok (.aload_n 0, 1) := by decide +kernel
theorem dX12_feed_68 : decode cX12_feed 68 = .ok (.getfield 29, 3) := by decide +kernel
theorem dX12_feed_71 : decode cX12_feed 71 = .ok (.aload_n 0, 1) := by decide +kernel
theorem dX12_feed_72 : decode cX12_feed 72 = .ok (.getfield 82, 3) := by decide +kernel
theorem dX12_feed_75 : decode cX12_feed 75 = .ok (.iload 6, 2) := by decide +kernel
theorem dX12_feed_77 : decode cX12_feed 77 = .ok (.iadd, 1) := by decide +kernel
theorem dX12_feed_78 : decode cX12_feed 78 = .ok (.aload_n 0, 1) := by decide +kernel
theorem dX12_feed_79 : decode cX12_feed 79 = .ok (.getfield 36, 3) := by decide +kernel
theorem dX12_feed_82 : decode cX12_feed 82 = .ok (.iload 6, 2) := by decide +kernel
theorem dX12_feed_84 : decode cX12_feed 84 = .ok (.iconst 4, 1) := by decide +kernel
theorem dX12_feed_85 : decode cX12_feed 85 = .ok (.idiv, 1) := by decide +kernel
theorem dX12_feed_86 : decode cX12_feed 86 = .ok (.iaload, 1) := by decide +kernel
theorem dX12_feed_87 : decode cX12_feed 87 = .ok (.bipush 24, 2) := by decide +kernel
theorem dX12_feed_89 : decode cX12_feed 89 = .ok (.bipush 8, 2) := by decide +kernel
theorem dX12_feed_91 : decode cX12_feed 91 = .ok (.iload 6, 2) := by decide +kernel
theorem dX12_feed_93 : decode cX12_feed 93 = .ok (.iconst 4, 1) := by decide +kernel
theorem dX12_feed_94 : decode cX12_feed 94 = .ok (.irem, 1) := by decide +kernel
theorem dX12_feed_95 : decode cX12_feed 95 = .ok (.imul, 1) := by decide +kernel
theorem dX12_feed_96 : decode cX12_feed 96 = .ok (.isub, 1) := by decide +kernel
theorem dX12_feed_97 : decode cX12_feed 97 = .ok (.ishr, 1) := by decide +kernel
theorem dX12_feed_98 : decode cX12_feed 98 = .ok (.i2b, 1) := by decide +kernel
theorem dX12_feed_99 : decode cX12_feed 99 = .ok (.bastore, 1) := by decide +kernel
theorem dX12_feed_100 : decode cX12_feed 100 = .ok (.iinc 6 1, 3) := by decide +kernel
theorem dX12_feed_103 : decode cX12_feed 103 = .ok (.goto (-43), 3) := by decide +kernel
theorem dX12_feed_106 : decode cX12_feed 106 = .ok (.aload_n 0, 1) := by decide +kernel
theorem dX12_feed_107 : decode cX12_feed 107 = .ok (.dup, 1) := by decide +kernel
theorem dX12_feed_108 : decode cX12_feed 108 = .ok (.getfield 82, 3) := by decide +kernel
theorem dX12_feed_111 : decode cX12_feed 111 = .ok (.bipush 20, 2) := by decide +kernel
theorem dX12_feed_113 : decode cX12_feed 113 = .ok (.iadd, 1) := by decide +kernel
theorem dX12_feed_114 : decode cX12_feed 114 = .ok (.putfield 82, 3) := by decide +kernel
theorem dX12_feed_117 : decode cX12_feed 117 = .ok (.aload_n 0, 1) := by decide +kernel
theorem dX12_feed_118 : decode cX12_feed 118 = .ok (.getfield 82, 3) := by decide +kernel
theorem dX12_feed_121 : decode cX12_feed 121 = .ok (.ireturn, 1) := by decide +kernel
theorem dX12_end_0 : decode cX12_end 0 = .ok (.aload_n 0, 1) := by decide +kernel
theorem dX12_end_1 : decode cX12_end 1 = .ok (.iconst 0, 1) := by decide +kernel
theorem dX12_end_2 : decode cX12_end 2 = .ok (.putfield 3, 3) := by decide +kernel
theorem dX12_end_5 : decode cX12_end 5 = .ok (.iload_n 1, 1) := by decide +kernel
theorem dX12_end_6 : decode cX12_end 6 = .ok (.ifCond .lt 11, 3) := by decide +kernel
theorem dX12_end_9 : decode cX12_end 9 = .ok (.iload_n 1, 1) := by decide +kernel
theorem dX12_end_10 : decode cX12_end 10 = .ok (.aload_n 0, 1) := by decide +kernel
theorem dX12_end_11 : decode cX12_end 11 = .ok (.getfield 82, 3) := by decide +kernel
theorem dX12_end_14 : decode cX12_end 14 = .ok (.if_icmp .le 5, 3) := by decide +kernel
theorem dX12_end_17 : decode cX12_end 17 = .ok (.iconst 0, 1) := by decide +kernel
theorem dX12_end_18 : decode cX12_end 18 = .ok (.ireturn, 1) := by decide +kernel
theorem dX12_end_19 : decode cX12_end 19 = .ok (.aload_n 0, 1) := by decide +kernel
theorem dX12_end_20 : decode cX12_end 20 = .ok (.iload_n 1, 1) := by decide +kernel
theorem dX12_end_21 : decode cX12_end 21 = .ok (.putfield 82, 3) := by decide +kernel
theorem dX12_end_24 : decode cX12_end 24 = .ok (.iconst 1, 1) := by decide +kernel
theorem dX12_end_25 : decode cX12_end 25 = .ok (.ireturn, 1) := by decide +kernel
theorem dX12_isAt_0 : decode cX12_isAt 0 = .ok (.aload_n 0, 1) := by decide +kernel
theorem dX12_isAt_1 : decode cX12_isAt 1 = .ok (.getfield 85, 3) := by decide +kernel
theorem dX12_isAt_4 : decode cX12_isAt 4 = .ok (.aload_n 0, 1) := by decide +kernel
theorem dX12_isAt_5 : decode cX12_isAt 5 = .ok (.getfield 88, 3) := by decide +kernel
theorem dX12_isAt_8 : decode cX12_isAt 8 = .ok (.if_icmp .ge 33, 3) := by decide +kernel
theorem dX12_isAt_11 : decode cX12_isAt 11 = .ok (.aload_n 0, 1) := by decide +kernel
theorem dX12_isAt_12 : decode cX12_isAt 12 = .ok (.getfield 29, 3) := by decide +kernel
theorem dX12_isAt_15 : decode cX12_isAt 15 = .ok (.aload_n 0, 1) := by decide +kernel
theorem dX12_isAt_16 : decode cX12_isAt 16 = .ok (.getfield 85, 3) := by decide +kernel
theorem dX12_isAt_19 : decode cX12_isAt 19 = .ok (.baload, 1) := by decide +kernel
theorem dX12_isAt_20 : decode cX12_isAt 20 = .ok (.iload_n 1, 1) := by decide +kernel
theorem dX12_isAt_21 : decode cX12_isAt 21 = .ok (.if_icmp .lt 20, 3) := by decide +kernel
theorem dX12_isAt_24 : decode cX12_isAt 24 = .ok (.aload_n 0, 1) := by decide +kernel
theorem dX12_isAt_25 : decode cX12_isAt 25 = .ok (.getfield 29, 3) := by decide +kernel
theorem dX12_isAt_28 : decode cX12_isAt 28 = .ok (.aload_n 0, 1) := by decide +kernel
theorem dX12_isAt_29 : decode cX12_isAt 29 = .ok (.getfield 85, 3) := by decide +kernel
theorem dX12_isAt_32 : decode cX12_isAt 32 = .ok (.baload, 1) := by decide +kernel
theorem dX12_isAt_33 : decode cX12_isAt 33 = .ok (.iload_n 2, 1) := by decide +kernel
theorem dX12_isAt_34 : decode cX12_isAt 34 = .ok (.if_icmp .gt 7, 3) := by decide +kernel
theorem dX12_isAt_37 : decode cX12_isAt 37 = .ok (.iconst 1, 1) := by decide +kernel
theorem dX12_isAt_38 : decode cX12_isAt 38 = .ok (.goto 4, 3) := by decide +kernel
theorem dX12_isAt_41 : decode cX12_isAt 41 = .ok (.iconst 0, 1) := by decide +kernel
theorem dX12_isAt_42 : decode cX12_isAt 42 = .ok (.ireturn, 1) := by decide +kernel
theorem dX12_blanks_0 : decode cX12_blanks 0 = .ok (.aload_n 0, 1) := by decide +kernel
theorem dX12_blanks_1 : decode cX12_blanks 1 = .ok (.bipush 32, 2) := by decide +kernel
theorem dX12_blanks_3 : decode cX12_blanks 3 = .ok (.bipush 32, 2) := by decide +kernel
theorem dX12_blanks_5 : decode cX12_blanks 5 = .ok (.invokevirtual 91, 3) := by decide +kernel
theorem dX12_blanks_8 : decode cX12_blanks 8 = .ok (.ifCond .eq 16, 3) := by decide +kernel
theorem dX12_blanks_11 : decode cX12_blanks 11 = .ok (.aload_n 0, 1) := by decide +kernel
theorem dX12_blanks_12 : decode cX12_blanks 12 = .ok (.dup, 1) := by decide +kernel
theorem dX12_blanks_13 : decode cX12_blanks 13 = .ok (.getfield 85, 3) := by decide +kernel
theorem dX12_blanks_16 : decode cX12_blanks 16 = .ok (.iconst 1, 1) := by decide +kernel
theorem dX12_blanks_17 : decode cX12_blanks 17 = .ok (.iadd, 1) := by decide +kernel
theorem dX12_blanks_18 : decode cX12_blanks 18 = .ok (.putfield 85, 3) := by decide +kernel
theorem dX12_blanks_21 : decode cX12_blanks 21 = .ok (.goto (-21), 3) := by decide +kernel
theorem dX12_blanks_24 : decode cX12_blanks 24 = .ok (.aload_n 0, 1) := by decide +kernel
theorem dX12_blanks_25 : decode cX12_blanks 25 = .ok (.aload_n 0, 1) := by decide +kernel
theorem dX12_blanks_26 : decode cX12_blanks 26 = .ok (.getfield 85, 3) := by decide +kernel
theorem dX12_blanks_29 : decode cX12_blanks 29 = .ok (.putfield 94, 3) := by decide +kernel
theorem dX12_blanks_32 : decode cX12_blanks 32 = .ok (.return_, 1) := by decide +kernel
theorem dX12_letters_0 : decode cX12_letters 0 = .ok (.aload_n 0, 1) := by decide +kernel
theorem dX12_letters_1 : decode cX12_letters 1 = .ok (.invokevirtual 97, 3) := by decide +kernel
theorem dX12_letters_4 : decode cX12_letters 4 = .ok (.aload_n 0, 1) := by decide +kernel
theorem dX12_letters_5 : decode cX12_letters 5 = .ok (.bipush 97, 2) := by decide +kernel
theorem dX12_letters_7 : decode cX12_letters 7 = .ok (.bipush 122, 2) := by decide +kernel
theorem dX12_letters_9 : decode cX12_letters 9 = .ok (.invokevirtual 91, 3) := by decide +kernel
theorem dX12_letters_12 : decode cX12_letters 12 = .ok (.ifCond .eq 16, 3) := by decide +kernel
theorem dX12_letters_15 : decode cX12_letters 15 = .ok (.aload_n 0, 1) := by decide +kernel
theorem dX12_letters_16 : decode cX12_letters 16 = .ok (.dup, 1) := by decide +kernel
theorem dX12_letters_17 : decode cX12_letters 17 = .ok (.getfield 85, 3) := by decide +kernel
theorem dX12_letters_20 : decode cX12_letters 20 = .ok (.iconst 1, 1) := by decide +kernel
theorem dX12_letters_21 : decode cX12_letters 21 = .ok (.iadd, 1) := by decide +kernel
theorem dX12_letters_22 : decode cX12_letters 22 = .ok (.putfield 85, 3) := by decide +kernel
theorem dX12_letters_25 : decode cX12_letters 25 = .ok (.goto (-21), 3) := by decide +kernel
theorem dX12_letters_28 : decode cX12_letters 28 = .ok (.return_, 1) := by decide +kernel
theorem dX12_isWord_0 : decode cX12_isWord 0 = .ok (.aload_n 0, 1) := by decide +kernel
theorem dX12_isWord_1 : decode cX12_isWord 1 = .ok (.getfield 85, 3) := by decide +kernel
theorem dX12_isWord_4 : decode cX12_isWord 4 = .ok (.aload_n 0, 1) := by decide +kernel
theorem dX12_isWord_5 : decode cX12_isWord 5 = .ok (.getfield 94, 3) := by decide +kernel
theorem dX12_isWord_8 : decode cX12_isWord 8 = .ok (.isub, 1) := by decide +kernel
theorem dX12_isWord_9 : decode cX12_isWord 9 = .ok (.aload_n 1, 1) := by decide +kernel
theorem dX12_isWord_10 : decode cX12_isWord 10 = .ok (.invokevirtual 100, 3) := by decide +kernel
theorem dX12_isWord_13 : decode cX12_isWord 13 = .ok (.if_icmp .ne 7, 3) := by decide +kernel
theorem dX12_isWord_16 : decode cX12_isWord 16 = .ok (.iconst 1, 1) := by decide +kernel
theorem dX12_isWord_17 : decode cX12_isWord 17 = .ok (.goto 4, 3) := by decide +kernel
theorem dX12_isWord_20 : decode cX12_isWord 20 = .ok (.iconst 0, 1) := by decide +kernel
theorem dX12_isWord_21 : decode cX12_isWord 21 = .ok (.istore_n 2, 1) := by decide +kernel
theorem dX12_isWord_22 : decode cX12_isWord 22 = .ok (.iconst 0, 1) := by decide +kernel
theorem dX12_isWord_23 : decode cX12_isWord 23 = .ok (.istore_n 3, 1) := by decide +kernel
theorem dX12_isWord_24 : decode cX12_isWord 24 = .ok (.iload_n 2, 1) := by decide +kernel
theorem dX12_isWord_25 : decode cX12_isWord 25 = .ok (.ifCond .eq 42, 3) := by decide +kernel
theorem dX12_isWord_28 : decode cX12_isWord 28 = .ok (.iload_n 3, 1) := by decide +kernel
theorem dX12_isWord_29 : decode cX12_isWord 29 = .ok (.aload_n 1, 1) := by decide +kernel
theorem dX12_isWord_30 : decode cX12_isWord 30 = .ok (.invokevirtual 100, 3) := by decide +kernel
theorem dX12_isWord_33 : decode cX12_isWord 33 = .ok (.if_icmp .ge 34, 3) := by decide +kernel
theorem dX12_isWord_36 : decode cX12_isWord 36 = .ok (.aload_n 0, 1) := by decide +kernel
theorem dX12_isWord_37 : decode cX12_isWord 37 = .ok (.getfield 29, 3) := by decide +kernel
theorem dX12_isWord_40 : decode cX12_isWord 40 = .ok (.aload_n 0, 1) := by decide +kernel
theorem dX12_isWord_41 : decode cX12_isWord 41 = .ok (.getfield 94, 3) := by decide +kernel
theorem dX12_isWord_44 : decode cX12_isWord 44 = .ok (.iload_n 3, 1) := by decide +kernel
theorem dX12_isWord_45 : decode cX12_isWord 45 = .ok (.iadd, 1) := by decide +kernel
theorem dX12_isWord_46 : decode cX12_isWord 46 = .ok (.baload, 1) := by decide +kernel
theorem dX12_isWord_47 : decode cX12_isWord 47 = .ok (.aload_n 1, 1) := by decide +kernel
theorem dX12_isWord_48 : decode cX12_isWord 48 = .ok (.iload_n 3, 1) := by decide +kernel
theorem dX12_isWord_49 : decode cX12_isWord 49 = .ok (.invokevirtual 105, 3) := by decide +kernel
theorem dX12_isWord_52 : decode cX12_isWord 52 = .ok (.if_icmp .ne 7, 3) := by decide +kernel
theorem dX12_isWord_55 : decode cX12_isWord 55 = .ok (.iconst 1, 1) := by decide +kernel
theorem dX12_isWord_56 : decode cX12_isWord 56 = .ok (.goto 4, 3) := by decide +kernel
theorem dX12_isWord_59 : decode cX12_isWord 59 = .ok (.iconst 0, 1) := by decide +kernel
theorem dX12_isWord_60 : decode cX12_isWord 60 = .ok (.istore_n 2, 1) := by decide +kernel
theorem dX12_isWord_61 : decode cX12_isWord 61 = .ok (.iinc 3 1, 3) := by decide +kernel
theorem dX12_isWord_64 : decode cX12_isWord 64 = .ok (.goto (-40), 3) := by decide +kernel
theorem dX12_isWord_67 : decode cX12_isWord 67 = .ok (.iload_n 2, 1) := by decide +kernel
theorem dX12_isWord_68 : decode cX12_isWord 68 = .ok (.ireturn, 1) := by decide +kernel
theorem dX12_passes_0 : decode cX12_passes 0 = .ok (.aload_n 0, 1) := by decide +kernel
theorem dX12_passes_1 : decode cX12_passes 1 = .ok (.invokevirtual 109, 3) := by decide +kernel
theorem dX12_passes_4 : decode cX12_passes 4 = .ok (.aload_n 0, 1) := by decide +kernel
theorem dX12_passes_5 : decode cX12_passes 5 = .ok (.aload_n 1, 1) := by decide +kernel
theorem dX12_passes_6 : decode cX12_passes 6 = .ok (.invokevirtual 112, 3) := by decide +kernel
theorem dX12_passes_9 : decode cX12_passes 9 = .ok (.ifCond .eq 5, 3) := by decide +kernel
theorem dX12_passes_12 : decode cX12_passes 12 = .ok (.iconst 1, 1) := by decide +kernel
theorem dX12_passes_13 : decode cX12_passes 13 = .ok (.ireturn, 1) := by decide +kernel
theorem dX12_passes_14 : decode cX12_passes 14 = .ok (.aload_n 0, 1) := by decide +kernel
theorem dX12_passes_15 : decode cX12_passes 15 = .ok (.aload_n 0, 1) := by decide +kernel
theorem dX12_passes_16 : decode cX12_passes 16 = .ok (.getfield 94, 3) := by decide +kernel
theorem dX12_passes_19 : decode cX12_passes 19 = .ok (.putfield 85, 3) := by decide +kernel
theorem dX12_passes_22 : decode cX12_passes 22 = .ok (.iconst 0, 1) := by decide +kernel
theorem dX12_passes_23 : decode cX12_passes 23 = .ok (.ireturn, 1) := by decide +kernel
theorem dX12_sign_0 : decode cX12_sign 0 = .ok (.aload_n 0, 1) := by decide +kernel
theorem dX12_sign_1 : decode cX12_sign 1 = .ok (.invokevirtual 97, 3) := by decide +kernel
theorem dX12_sign_4 : decode cX12_sign 4 = .ok (.aload_n 0, 1) := by decide +kernel
theorem dX12_sign_5 : decode cX12_sign 5 = .ok (.iload_n 1, 1) := by decide +kernel
theorem dX12_sign_6 : decode cX12_sign 6 = .ok (.iload_n 1, 1) := by decide +kernel
theorem dX12_sign_7 : decode cX12_sign 7 = .ok (.invokevirtual 91, 3) := by decide +kernel
theorem dX12_sign_10 : decode cX12_sign 10 = .ok (.ifCond .ne 5, 3) := by decide +kernel
theorem dX12_sign_13 : decode cX12_sign 13 = .ok (.iconst 0, 1) := by decide +kernel
theorem dX12_sign_14 : decode cX12_sign 14 = .ok (.ireturn, 1) := by decide +kernel
theorem dX12_sign_15 : decode cX12_sign 15 = .ok (.aload_n 0, 1) := by decide +kernel
theorem dX12_sign_16 : decode cX12_sign 16 = .ok (.dup, 1) := by decide +kernel
theorem dX12_sign_17 : decode cX12_sign 17 = .ok (.getfield 85, 3) := by decide +kernel
theorem dX12_sign_20 : decode cX12_sign 20 = .ok (.iconst 1, 1) := by decide +kernel
theorem dX12_sign_21 : decode cX12_sign 21 = .ok (.iadd, 1) := by decide +kernel
theorem dX12_sign_22 : decode cX12_sign 22 = .ok (.putfield 85, 3) := by decide +kernel
theorem dX12_sign_25 : decode cX12_sign 25 = .ok (.iconst 1, 1) := by decide +kernel
theorem dX12_sign_26 : decode cX12_sign 26 = .ok (.ireturn, 1) := by decide +kernel
theorem dX12_number_0 : decode cX12_number 0 = .ok (.aload_n 0, 1) := by decide +kernel
theorem dX12_number_1 : decode cX12_number 1 = .ok (.invokevirtual 97, 3) := by decide +kernel
theorem dX12_number_4 : decode cX12_number 4 = .ok (.iconst 0, 1) := by decide +kernel
theorem dX12_number_5 : decode cX12_number 5 = .ok (.istore_n 3, 1) := by decide +kernel
theorem dX12_number_6 : decode cX12_number 6 = .ok (.aload_n 0, 1) := by decide +kernel
theorem dX12_number_7 : decode cX12_number 7 = .ok (.bipush 48, 2) := by decide +kernel
theorem dX12_number_9 : decode cX12_number 9 = .ok (.bipush 57, 2) := by decide +kernel
theorem dX12_number_11 : decode cX12_number 11 = .ok (.invokevirtual 91, 3) := by decide +kernel
theorem dX12_number_14 : decode cX12_number 14 = .ok (.ifCond .eq 51, 3) := by decide +kernel
theorem dX12_number_17 : decode cX12_number 17 = .ok (.aload_n 0, 1) := by decide +kernel
theorem dX12_number_18 : decode cX12_number 18 = .ok (.getfield 85, 3) := by decide +kernel
theorem dX12_number_21 : decode cX12_number 21 = .ok (.aload_n 0, 1) := by decide +kernel
theorem dX12_number_22 : decode cX12_number 22 = .ok (.getfield 94, 3) := by decide +kernel
theorem dX12_number_25 : decode cX12_number 25 = .ok (.isub, 1) := by decide +kernel
theorem dX12_number_26 : decode cX12_number 26 = .ok (.iconst 3, 1) := by decide +kernel
theorem dX12_number_27 : decode cX12_number 27 = .ok (.if_icmp .ge 23, 3) := by decide +kernel
theorem dX12_number_30 : decode cX12_number 30 = .ok (.bipush 10, 2) := by decide +kernel
theorem dX12_number_32 : decode cX12_number 32 = .ok (.iload_n 3, 1) := by decide +kernel
theorem dX12_number_33 : decode cX12_number 33 = .ok (.imul, 1) := by decide +kernel
theorem dX12_number_34 : decode cX12_number 34 = .ok (.aload_n 0, 1) := by decide +kernel
theorem dX12_number_35 : decode cX12_number 35 = .ok (.getfield 29, 3) := by decide +kernel
theorem dX12_number_38 : decode cX12_number 38 = .ok (.aload_n 0, 1) := by decide +kernel
theorem dX12_number_39 : decode cX12_number 39 = .ok (.getfield 85, 3) := by decide +kernel
theorem dX12_number_42 : decode cX12_number 42 = .ok (.baload, 1) := by decide +kernel
theorem dX12_number_43 : decode cX12_number 43 = .ok (.iadd, 1) := by decide +kernel
theorem dX12_number_44 : decode cX12_number 44 = .ok (.bipush 48, 2) := by decide +kernel
theorem dX12_number_46 : decode cX12_number 46 = .ok (.isub, 1) := by decide +kernel
theorem dX12_number_47 : decode cX12_number 47 = .ok (.goto 4, 3) := by decide +kernel
theorem dX12_number_50 : decode cX12_number 50 = .ok (.iload_n 3, 1) := by decide +kernel
theorem dX12_number_51 : decode cX12_number 51 = .ok (.istore_n 3, 1) := by decide +kernel
theorem dX12_number_52 : decode cX12_number 52 = .ok (.aload_n 0, 1) := by decide +kernel
theorem dX12_number_53 : decode cX12_number 53 = .ok (.dup, 1) := by decide +kernel
theorem dX12_number_54 : decode cX12_number 54 = .ok (.getfield 85, 3) := by decide +kernel
theorem dX12_number_57 : decode cX12_number 57 = .ok (.iconst 1, 1) := by decide +kernel
theorem dX12_number_58 : decode cX12_number 58 = .ok (.iadd, 1) := by decide +kernel
theorem dX12_number_59 : decode cX12_number 59 = .ok (.putfield 85, 3) := by decide +kernel
theorem dX12_number_62 : decode cX12_number 62 = .ok (.goto (-56), 3) := by decide +kernel
theorem dX12_number_65 : decode cX12_number 65 = .ok (.aload_n 0, 1) := by decide +kernel
theorem dX12_number_66 : decode cX12_number 66 = .ok (.getfield 85, 3) := by decide +kernel
theorem dX12_number_69 : decode cX12_number 69 = .ok (.aload_n 0, 1) := by decide +kernel
theorem dX12_number_70 : decode cX12_number 70 = .ok (.getfield 94, 3) := by decide +kernel
theorem dX12_number_73 : decode cX12_number 73 = .ok (.if_icmp .eq 26, 3) := by decide +kernel
theorem dX12_number_76 : decode cX12_number 76 = .ok (.aload_n 0, 1) := by decide +kernel
theorem dX12_number_77 : decode cX12_number 77 = .ok (.getfield 85, 3) := by decide +kernel
theorem dX12_number_80 : decode cX12_number 80 = .ok (.aload_n 0, 1) := by decide +kernel
theorem dX12_number_81 : decode cX12_number 81 = .ok (.getfield 94, 3) := by decide +kernel
theorem dX12_number_84 : decode cX12_number 84 = .ok (.isub, 1) := by decide +kernel
theorem dX12_number_85 : decode cX12_number 85 = .ok (.iconst 3, 1) := by decide +kernel
theorem dX12_number_86 : decode cX12_number 86 = .ok (.if_icmp .gt 13, 3) := by decide +kernel
theorem dX12_number_89 : decode cX12_number 89 = .ok (.iload_n 3, 1) := by decide +kernel
theorem dX12_number_90 : decode cX12_number 90 = .ok (.iload_n 1, 1) := by decide +kernel
theorem dX12_number_91 : decode cX12_number 91 = .ok (.if_icmp .lt 8, 3) := by decide +kernel
theorem dX12_number_94 : decode cX12_number 94 = .ok (.iload_n 3, 1) := by decide +kernel
theorem dX12_number_95 : decode cX12_number 95 = .ok (.iload_n 2, 1) := by decide +kernel
theorem dX12_number_96 : decode cX12_number 96 = .ok (.if_icmp .le 7, 3) := by decide +kernel
theorem dX12_number_99 : decode cX12_number 99 = .ok (.iconst (-1), 1) := by decide +kernel
theorem dX12_number_100 : decode cX12_number 100 = .ok (.goto 4, 3) := by decide +kernel
theorem dX12_number_103 : decode cX12_number 103 = .ok (.iload_n 3, 1) := by decide +kernel
theorem dX12_number_104 : decode cX12_number 104 = .ok (.ireturn, 1) := by decide +kernel
theorem dX12_after_0 : decode cX12_after 0 = .ok (.aload_n 0, 1) := by decide +kernel
theorem dX12_after_1 : decode cX12_after 1 = .ok (.invokevirtual 109, 3) := by decide +kernel
theorem dX12_after_4 : decode cX12_after 4 = .ok (.aload_n 0, 1) := by decide +kernel
theorem dX12_after_5 : decode cX12_after 5 = .ok (.aload_n 1, 1) := by decide +kernel
theorem dX12_after_6 : decode cX12_after 6 = .ok (.invokevirtual 112, 3) := by decide +kernel
theorem dX12_after_9 : decode cX12_after 9 = .ok (.ifCond .eq 12, 3) := by decide +kernel
theorem dX12_after_12 : decode cX12_after 12 = .ok (.aload_n 0, 1) := by decide +kernel
theorem dX12_after_13 : decode cX12_after 13 = .ok (.iload_n 2, 1) := by decide +kernel
theorem dX12_after_14 : decode cX12_after 14 = .ok (.iload_n 3, 1) := by decide +kernel
theorem dX12_after_15 : decode cX12_after 15 = .ok (.invokevirtual 116, 3) := by decide +kernel
theorem dX12_after_18 : decode cX12_after 18 = .ok (.goto 4, 3) := by decide +kernel
theorem dX12_after_21 : decode cX12_after 21 = .ok (.iconst (-1), 1) := by decide +kernel
theorem dX12_after_22 : decode cX12_after 22 = .ok (.ireturn, 1) := by decide +kernel
theorem dX12_fault_0 : decode cX12_fault 0 = .ok (.aload_n 0, 1) := by decide +kernel
theorem dX12_fault_1 : decode cX12_fault 1 = .ok (.iconst 0, 1) := by decide +kernel
theorem dX12_fault_2 : decode cX12_fault 2 = .ok (.putfield 3, 3) := by decide +kernel
theorem dX12_fault_5 : decode cX12_fault 5 = .ok (.aload_n 0, 1) := by decide +kernel
theorem dX12_fault_6 : decode cX12_fault 6 = .ok (.getfield 33, 3) := by decide +kernel
theorem dX12_fault_9 : decode cX12_fault 9 = .ok (.ireturn, 1) := by decide +kernel
theorem dX12_uses_0 : decode cX12_uses 0 = .ok (.aload_n 0, 1) := by decide +kernel
theorem dX12_uses_1 : decode cX12_uses 1 = .ok (.iconst 0, 1) := by decide +kernel
theorem dX12_uses_2 : decode cX12_uses 2 = .ok (.putfield 3, 3) := by decide +kernel
theorem dX12_uses_5 : decode cX12_uses 5 = .ok (.aload_n 0, 1) := by decide +kernel
theorem dX12_uses_6 : decode cX12_uses 6 = .ok (.aload_n 0, 1) := by decide +kernel
theorem dX12_uses_7 : decode cX12_uses 7 = .ok (.getfield 82, 3) := by decide +kernel
theorem dX12_uses_10 : decode cX12_uses 10 = .ok (.putfield 88, 3) := by decide +kernel
theorem dX12_uses_13 : decode cX12_uses 13 = .ok (.aload_n 0, 1) := by decide +kernel
theorem dX12_uses_14 : decode cX12_uses 14 = .ok (.iconst 0, 1) := by decide +kernel
theorem dX12_uses_15 : decode cX12_uses 15 = .ok (.putfield 82, 3) := by decide +kernel
theorem dX12_uses_18 : decode cX12_uses 18 = .ok (.aload_n 0, 1) := by decide +kernel
theorem dX12_uses_19 : decode cX12_uses 19 = .ok (.iconst 0, 1) := by decide +kernel
theorem dX12_uses_20 : decode cX12_uses 20 = .ok (.putfield 85, 3) := by decide +kernel
theorem dX12_uses_23 : decode cX12_uses 23 = .ok (.return_, 1) := by decide +kernel
theorem dX12_placeTold_0 : decode cX12_placeTold 0 = .ok (.aload_n 0, 1) := by decide +kernel
theorem dX12_placeTold_1 : decode cX12_placeTold 1 = .ok (.iconst 0, 1) := by decide +kernel
theorem dX12_placeTold_2 : decode cX12_placeTold 2 = .ok (.bipush 15, 2) := by decide +kernel
theorem dX12_placeTold_4 : decode cX12_placeTold 4 = .ok (.invokevirtual 116, 3) := by decide +kernel
theorem dX12_placeTold_7 : decode cX12_placeTold 7 = .ok (.ireturn, 1) := by decide +kernel
theorem dX12_readPin_0 : decode cX12_readPin 0 = .ok (.aload_n 0, 1) := by decide +kernel
theorem dX12_readPin_1 : decode cX12_readPin 1 = .ok (.invokevirtual 119, 3) := by decide +kernel
theorem dX12_readPin_4 : decode cX12_readPin 4 = .ok (.istore_n 1, 1) := by decide +kernel
theorem dX12_readPin_5 : decode cX12_readPin 5 = .ok (.iload_n 1, 1) := by decide +kernel
theorem dX12_readPin_6 : decode cX12_readPin 6 = .ok (.ifCond .lt 11, 3) := by decide +kernel
theorem dX12_readPin_9 : decode cX12_readPin 9 = .ok (.aload_n 0, 1) := by decide +kernel
theorem dX12_readPin_10 : decode cX12_readPin 10 = .ok (.iload_n 1, 1) := by decide +kernel
theorem dX12_readPin_11 : decode cX12_readPin 11 = .ok (.invokevirtual 122, 3) := by decide +kernel
theorem dX12_readPin_14 : decode cX12_readPin 14 = .ok (.ifCond .eq 5, 3) := by decide +kernel
theorem dX12_readPin_17 : decode cX12_readPin 17 = .ok (.iconst 0, 1) := by decide +kernel
theorem dX12_readPin_18 : decode cX12_readPin 18 = .ok (.ireturn, 1) := by decide +kernel
theorem dX12_readPin_19 : decode cX12_readPin 19 = .ok (.aload_n 0, 1) := by decide +kernel
theorem dX12_readPin_20 : decode cX12_readPin 20 = .ok (.ldc 126, 2) := by decide +kernel
theorem dX12_readPin_22 : decode cX12_readPin 22 = .ok (.invokevirtual 128, 3) := by decide +kernel
theorem dX12_readPin_25 : decode cX12_readPin 25 = .ok (.ifCond .eq 13, 3) := by decide +kernel
theorem dX12_readPin_28 : decode cX12_readPin 28 = .ok (.aload_n 0, 1) := by decide +kernel
theorem dX12_readPin_29 : decode cX12_readPin 29 = .ok (.iconst 0, 1) := by decide +kernel
theorem dX12_readPin_30 : decode cX12_readPin 30 = .ok (.bipush 99, 2) := by decide +kernel
theorem dX12_readPin_32 : decode cX12_readPin 32 = .ok (.invokevirtual 116, 3) := by decide +kernel
theorem dX12_readPin_35 : decode cX12_readPin 35 = .ok (.goto 4, 3) := by decide +kernel
theorem dX12_readPin_38 : decode cX12_readPin 38 = .ok (.iconst 0, 1) := by decide +kernel
theorem dX12_readPin_39 : decode cX12_readPin 39 = .ok (.istore_n 2, 1) := by decide +kernel
theorem dX12_readPin_40 : decode cX12_readPin 40 = .ok (.iload_n 2, 1) := by decide +kernel
theorem dX12_readPin_41 : decode cX12_readPin 41 = .ok (.ifCond .ge 5, 3) := by decide +kernel
theorem dX12_readPin_44 : decode cX12_readPin 44 = .ok (.iconst 0, 1) := by decide +kernel
theorem dX12_readPin_45 : decode cX12_readPin 45 = .ok (.ireturn, 1) := by decide +kernel
theorem dX12_readPin_46 : decode cX12_readPin 46 = .ok (.aload_n 0, 1) := by decide +kernel
theorem dX12_readPin_47 : decode cX12_readPin 47 = .ok (.getfield 13, 3) := by decide +kernel
theorem dX12_readPin_50 : decode cX12_readPin 50 = .ok (.bipush 7, 2) := by decide +kernel
theorem dX12_readPin_52 : decode cX12_readPin 52 = .ok (.dup2, 1) := by decide +kernel
theorem dX12_readPin_53 : decode cX12_readPin 53 = .ok (.iaload, 1) := by decide +kernel
theorem dX12_readPin_54 : decode cX12_readPin 54 = .ok (.iconst 1, 1) := by decide +kernel
theorem dX12_readPin_55 : decode cX12_readPin 55 = .ok (.iload_n 1, 1) := by decide +kernel
theorem dX12_readPin_56 : decode cX12_readPin 56 = .ok (.ishl, 1) := by decide +kernel
theorem dX12_readPin_57 : decode cX12_readPin 57 = .ok (.ior, 1) := by decide +kernel
theorem dX12_readPin_58 : decode cX12_readPin 58 = .ok (.iastore, 1) := by decide +kernel
theorem dX12_readPin_59 : decode cX12_readPin 59 = .ok (.aload_n 0, 1) := by decide +kernel
theorem dX12_readPin_60 : decode cX12_readPin 60 = .ok (.getfield 13, 3) := by decide +kernel
theorem dX12_readPin_63 : decode cX12_readPin 63 = .ok (.bipush 62, 2) := by decide +kernel
theorem dX12_readPin_65 : decode cX12_readPin 65 = .ok (.iload_n 1, 1) := by decide +kernel
theorem dX12_readPin_66 : decode cX12_readPin 66 = .ok (.iadd, 1) := by decide +kernel
theorem dX12_readPin_67 : decode cX12_readPin 67 = .ok (.iload_n 2, 1) := by decide +kernel
theorem dX12_readPin_68 : decode cX12_readPin 68 = .ok (.iastore, 1) := by decide +kernel
theorem dX12_readPin_69 : decode cX12_readPin 69 = .ok (.iconst 1, 1) := by decide +kernel
theorem dX12_readPin_70 : decode cX12_readPin 70 = .ok (.ireturn, 1) := by decide +kernel
theorem dX12_readAt_0 : decode cX12_readAt 0 = .ok (.aload_n 0, 1) := by decide +kernel
theorem dX12_readAt_1 : decode cX12_readAt 1 = .ok (.invokevirtual 119, 3) := by decide +kernel
theorem dX12_readAt_4 : decode cX12_readAt 4 = .ok (.istore_n 3, 1) := by decide +kernel
theorem dX12_readAt_5 : decode cX12_readAt 5 = .ok (.iload_n 3, 1) := by decide +kernel
theorem dX12_readAt_6 : decode cX12_readAt 6 = .ok (.ifCond .lt 19, 3) := by decide +kernel
theorem dX12_readAt_9 : decode cX12_readAt 9 = .ok (.aload_n 0, 1) := by decide +kernel
theorem dX12_readAt_10 : decode cX12_readAt 10 = .ok (.iload_n 1, 1) := by decide +kernel
theorem dX12_readAt_11 : decode cX12_readAt 11 = .ok (.iload_n 3, 1) := by decide +kernel
theorem dX12_readAt_12 : decode cX12_readAt 12 = .ok (.iadd, 1) := by decide +kernel
theorem dX12_readAt_13 : decode cX12_readAt 13 = .ok (.iconst 0, 1) := by decide +kernel
theorem dX12_readAt_14 : decode cX12_readAt 14 = .ok (.iload_n 2, 1) := by decide +kernel
theorem dX12_readAt_15 : decode cX12_readAt 15 = .ok (.invokevirtual 131, 3) := by decide +kernel
theorem dX12_readAt_18 : decode cX12_readAt 18 = .ok (.ifCond .eq 7, 3) := by decide +kernel
theorem dX12_readAt_21 : decode cX12_readAt 21 = .ok (.iconst 1, 1) := by decide +kernel
theorem dX12_readAt_22 : decode cX12_readAt 22 = .ok (.goto 4, 3) := by decide +kernel
theorem dX12_readAt_25 : decode cX12_readAt 25 = .ok (.iconst 0, 1) := by decide +kernel
theorem dX12_readAt_26 : decode cX12_readAt 26 = .ok (.ireturn, 1) := by decide +kernel
theorem dX12_readNumber_0 : decode cX12_readNumber 0 = .ok (.aload_n 0, 1) := by decide +kernel
theorem dX12_readNumber_1 : decode cX12_readNumber 1 = .ok (.iload_n 2, 1) := by decide +kernel
theorem dX12_readNumber_2 : decode cX12_readNumber 2 = .ok (.iload_n 3, 1) := by decide +kernel
theorem dX12_readNumber_3 : decode cX12_readNumber 3 = .ok (.invokevirtual 116, 3) := by decide +kernel
theorem dX12_readNumber_6 : decode cX12_readNumber 6 = .ok (.istore 4, 2) := by decide +kernel
theorem dX12_readNumber_8 : decode cX12_readNumber 8 = .ok (.aload_n 0, 1) := by decide +kernel
theorem dX12_readNumber_9 : decode cX12_readNumber 9 = .ok (.getfield 13, 3) := by decide +kernel
theorem dX12_readNumber_12 : decode cX12_readNumber 12 = .ok (.iload_n 1, 1) := by decide +kernel
theorem dX12_readNumber_13 : decode cX12_readNumber 13 = .ok (.iload 4, 2) := by decide +kernel
theorem dX12_readNumber_15 : decode cX12_readNumber 15 = .ok (.ifCond .ge 12, 3) := by decide +kernel
theorem dX12_readNumber_18 : decode cX12_readNumber 18 = .ok (.aload_n 0, 1) := by decide +kernel
theorem dX12_readNumber_19 : decode cX12_readNumber 19 = .ok (.getfield 13, 3) := by decide +kernel
theorem dX12_readNumber_22 : decode cX12_readNumber 22 = .ok (.iload_n 1, 1) := by decide +kernel
theorem dX12_readNumber_23 : decode cX12_readNumber 23 = .ok (.iaload, 1) := by decide +kernel
theorem dX12_readNumber_24 : decode cX12_readNumber 24 = .ok (.goto 5, 3) := by decide +kernel
theorem dX12_readNumber_27 : decode cX12_readNumber 27 = .ok (.iload 4, 2) := by decide +kernel
theorem dX12_readNumber_29 : decode cX12_readNumber 29 = .ok (.iastore, 1) := by decide +kernel
theorem dX12_readNumber_30 : decode cX12_readNumber 30 = .ok (.iload 4, 2) := by decide +kernel
theorem dX12_readNumber_32 : decode cX12_readNumber 32 = .ok (.ifCond .lt 7, 3) := by decide +kernel
theorem dX12_readNumber_35 : decode cX12_readNumber 35 = .ok (.iconst 1, 1) := by decide +kernel
theorem dX12_readNumber_36 : decode cX12_readNumber 36 = .ok (.goto 4, 3) := by decide +kernel
theorem dX12_readNumber_39 : decode cX12_readNumber 39 = .ok (.iconst 0, 1) := by decide +kernel
theorem dX12_readNumber_40 : decode cX12_readNumber 40 = .ok (.ireturn, 1) := by decide +kernel
theorem dX12_readBare_0 : decode cX12_readBare 0 = .ok (.aload_n 0, 1) := by decide +kernel
theorem dX12_readBare_1 : decode cX12_readBare 1 = .ok (.invokevirtual 119, 3) := by decide +kernel
theorem dX12_readBare_4 : decode cX12_readBare 4 = .ok (.istore_n 1, 1) := by decide +kernel
theorem dX12_readBare_5 : decode cX12_readBare 5 = .ok (.iload_n 1, 1) := by decide +kernel
theorem dX12_readBare_6 : decode cX12_readBare 6 = .ok (.ifCond .lt 16, 3) := by decide +kernel
theorem dX12_readBare_9 : decode cX12_readBare 9 = .ok (.aload_n 0, 1) := by decide +kernel
theorem dX12_readBare_10 : decode cX12_readBare 10 = .ok (.getfield 13, 3) := by decide +kernel
theorem dX12_readBare_13 : decode cX12_readBare 13 = .ok (.bipush 13, 2) := by decide +kernel
theorem dX12_readBare_15 : decode cX12_readBare 15 = .ok (.dup2, 1) := by decide +kernel
theorem dX12_readBare_16 : decode cX12_readBare 16 = .ok (.iaload, 1) := by decide +kernel
theorem dX12_readBare_17 : decode cX12_readBare 17 = .ok (.iconst 1, 1) := by decide +kernel
theorem dX12_readBare_18 : decode cX12_readBare 18 = .ok (.iload_n 1, 1) := by decide +kernel
theorem dX12_readBare_19 : decode cX12_readBare 19 = .ok (.ishl, 1) := by decide +kernel
theorem dX12_readBare_20 : decode cX12_readBare 20 = .ok (.ior, 1) := by decide +kernel
theorem dX12_readBare_21 : decode cX12_readBare 21 = .ok (.iastore, 1) := by decide +kernel
theorem dX12_readBare_22 : decode cX12_readBare 22 = .ok (.iload_n 1, 1) := by decide +kernel
theorem dX12_readBare_23 : decode cX12_readBare 23 = .ok (.ifCond .lt 7, 3) := by decide +kernel
theorem dX12_readBare_26 : decode cX12_readBare 26 = .ok (.iconst 1, 1) := by decide +kernel
theorem dX12_readBare_27 : decode cX12_readBare 27 = .ok (.goto 4, 3) := by decide +kernel
theorem dX12_readBare_30 : decode cX12_readBare 30 = .ok (.iconst 0, 1) := by decide +kernel
theorem dX12_readBare_31 : decode cX12_readBare 31 = .ok (.ireturn, 1) := by decide +kernel
theorem dX12_readPinner_0 : decode cX12_readPinner 0 = .ok (.aload_n 0, 1) := by decide +kernel
theorem dX12_readPinner_1 : decode cX12_readPinner 1 = .ok (.invokevirtual 73, 3) := by decide +kernel
theorem dX12_readPinner_4 : decode cX12_readPinner 4 = .ok (.istore_n 1, 1) := by decide +kernel
theorem dX12_readPinner_5 : decode cX12_readPinner 5 = .ok (.iload_n 1, 1) := by decide +kernel
theorem dX12_readPinner_6 : decode cX12_readPinner 6 = .ok (.iconst 5, 1) := by decide +kernel
theorem dX12_readPinner_7 : decode cX12_readPinner 7 = .ok (.if_icmp .ne 5, 3) := by decide +kernel
theorem dX12_readPinner_10 : decode cX12_readPinner 10 = .ok (.iconst 0, 1) := by decide +kernel
theorem dX12_readPinner_11 : decode cX12_readPinner 11 = .ok (.ireturn, 1) := by decide +kernel
theorem dX12_readPinner_12 : decode cX12_readPinner 12 = .ok (.aload_n 0, 1) := by decide +kernel
theorem dX12_readPinner_13 : decode cX12_readPinner 13 = .ok (.invokevirtual 119, 3) := by decide +kernel
theorem dX12_readPinner_16 : decode cX12_readPinner 16 = .ok (.istore_n 2, 1) := by decide +kernel
theorem dX12_readPinner_17 : decode cX12_readPinner 17 = .ok (.iload_n 2, 1) := by decide +kernel
theorem dX12_readPinner_18 : decode cX12_readPinner 18 = .ok (.ifCond .ge 7, 3) := by decide +kernel
theorem dX12_readPinner_21 : decode cX12_readPinner 21 = .ok (.iconst (-1), 1) := by decide +kernel
theorem dX12_readPinner_22 : decode cX12_readPinner 22 = .ok (.goto 12, 3) := by decide +kernel
theorem dX12_readPinner_25 : decode cX12_readPinner 25 = .ok (.aload_n 0, 1) := by decide +kernel
theorem dX12_readPinner_26 : decode cX12_readPinner 26 = .ok (.ldc 134, 2) := by decide +kernel
theorem dX12_readPinner_28 : decode cX12_readPinner 28 = .ok (.iconst 1, 1) := by decide +kernel
theorem dX12_readPinner_29 : decode cX12_readPinner 29 = .ok (.bipush 9, 2) := by decide +kernel
theorem dX12_readPinner_31 : decode cX12_readPinner 31 = .ok (.invokevirtual 136, 3) := by decide +kernel
theorem dX12_readPinner_34 : decode cX12_readPinner 34 = .ok (.istore_n 3, 1) := by decide +kernel
theorem dX12_readPinner_35 : decode cX12_readPinner 35 = .ok (.iload_n 3, 1) := by decide +kernel
theorem dX12_readPinner_36 : decode cX12_readPinner 36 = .ok (.ifCond .ge 7, 3) := by decide +kernel
theorem dX12_readPinner_39 : decode cX12_readPinner 39 = .ok (.iconst (-1), 1) := by decide +kernel
theorem dX12_readPinner_40 : decode cX12_readPinner 40 = .ok (.goto 12, 3) := by decide +kernel
theorem dX12_readPinner_43 : decode cX12_readPinner 43 = .ok (.aload_n 0, 1) := by decide +kernel
theorem dX12_readPinner_44 : decode cX12_readPinner 44 = .ok (.ldc 140, 2) := by decide +kernel
theorem dX12_readPinner_46 : decode cX12_readPinner 46 = .ok (.iconst 0, 1) := by decide +kernel
theorem dX12_readPinner_47 : decode cX12_readPinner 47 = .ok (.bipush 30, 2) := by decide +kernel
theorem dX12_readPinner_49 : decode cX12_readPinner 49 = .ok (.invokevirtual 136, 3) := by decide +kernel
theorem dX12_readPinner_52 : decode cX12_readPinner 52 = .ok (.istore 4, 2) := by decide +kernel
theorem dX12_readPinner_54 : decode cX12_readPinner 54 = .ok (.iload 4, 2) := by decide +kernel
theorem dX12_readPinner_56 : decode cX12_readPinner 56 = .ok (.ifCond .ge 5, 3) := by decide +kernel
theorem dX12_readPinner_59 : decode cX12_readPinner 59 = .ok (.iconst 0, 1) := by decide +kernel
theorem dX12_readPinner_60 : decode cX12_readPinner 60 = .ok (.ireturn, 1) := by decide +kernel
theorem dX12_readPinner_61 : decode cX12_readPinner 61 = .ok (.aload_n 0, 1) := by decide +kernel
theorem dX12_readPinner_62 : decode cX12_readPinner 62 = .ok (.getfield 13, 3) := by decide +kernel
theorem dX12_readPinner_65 : decode cX12_readPinner 65 = .ok (.iload_n 1, 1) := by decide +kernel
theorem dX12_readPinner_66 : decode cX12_readPinner 66 = .ok (.iconst 0, 1) := by decide +kernel
theorem dX12_readPinner_67 : decode cX12_readPinner 67 = .ok (.invokestatic 61, 3) := by decide +kernel
theorem dX12_readPinner_70 : decode cX12_readPinner 70 = .ok (.iload_n 2, 1) := by decide +kernel
theorem dX12_readPinner_71 : decode cX12_readPinner 71 = .ok (.iastore, 1) := by decide +kernel
theorem dX12_readPinner_72 : decode cX12_readPinner 72 = .ok (.aload_n 0, 1) := by decide +kernel
theorem dX12_readPinner_73 : decode cX12_readPinner 73 = .ok (.getfield 13, 3) := by decide +kernel
theorem dX12_readPinner_76 : decode cX12_readPinner 76 = .ok (.iload_n 1, 1) := by decide +kernel
theorem dX12_readPinner_77 : decode cX12_readPinner 77 = .ok (.iconst 1, 1) := by decide +kernel
theorem dX12_readPinner_78 : decode cX12_readPinner 78 = .ok (.invokestatic 61, 3) := by decide +kernel
theorem dX12_readPinner_81 : decode cX12_readPinner 81 = .ok (.iload_n 3, 1) := by decide +kernel
theorem dX12_readPinner_82 : decode cX12_readPinner 82 = .ok (.iastore, 1) := by decide +kernel
theorem dX12_readPinner_83 : decode cX12_readPinner 83 = .ok (.aload_n 0, 1) := by decide +kernel
theorem dX12_readPinner_84 : decode cX12_readPinner 84 = .ok (.getfield 13, 3) := by decide +kernel
theorem dX12_readPinner_87 : decode cX12_readPinner 87 = .ok (.iload_n 1, 1) := by decide +kernel
theorem dX12_readPinner_88 : decode cX12_readPinner 88 = .ok (.iconst 2, 1) := by decide +kernel
theorem dX12_readPinner_89 : decode cX12_readPinner 89 = .ok (.invokestatic 61, 3) := by decide +kernel
theorem dX12_readPinner_92 : decode cX12_readPinner 92 = .ok (.iload 4, 2) := by decide +kernel
theorem dX12_readPinner_94 : decode cX12_readPinner 94 = .ok (.iastore, 1) := by decide +kernel
theorem dX12_readPinner_95 : decode cX12_readPinner 95 = .ok (.aload_n 0, 1) := by decide +kernel
theorem dX12_readPinner_96 : decode cX12_readPinner 96 = .ok (.getfield 13, 3) := by decide +kernel
theorem dX12_readPinner_99 : decode cX12_readPinner 99 = .ok (.iconst 0, 1) := by decide +kernel
theorem dX12_readPinner_100 : decode cX12_readPinner 100 = .ok (.dup2, 1) := by decide +kernel
theorem dX12_readPinner_101 : decode cX12_readPinner 101 = .ok (.iaload, 1) := by decide +kernel
theorem dX12_readPinner_102 : decode cX12_readPinner 102 = .ok (.iconst 1, 1) := by decide +kernel
theorem dX12_readPinner_103 : decode cX12_readPinner 103 = .ok (.iadd, 1) := by decide +kernel
theorem dX12_readPinner_104 : decode cX12_readPinner 104 = .ok (.iastore, 1) := by decide +kernel
theorem dX12_readPinner_105 : decode cX12_readPinner 105 = .ok (.iconst 1, 1) := by decide +kernel
theorem dX12_readPinner_106 : decode cX12_readPinner 106 = .ok (.ireturn, 1) := by decide +kernel
theorem dX12_readSkyLine_0 : decode cX12_readSkyLine 0 = .ok (.aload_n 0, 1) := by decide +kernel
theorem dX12_readSkyLine_1 : decode cX12_readSkyLine 1 = .ok (.ldc 142, 2) := by decide +kernel
theorem dX12_readSkyLine_3 : decode cX12_readSkyLine 3 = .ok (.invokevirtual 112, 3) := by decide +kernel
theorem dX12_readSkyLine_6 : decode cX12_readSkyLine 6 = .ok (.ifCond .eq 8, 3) := by decide +kernel
theorem dX12_readSkyLine_9 : decode cX12_readSkyLine 9 = .ok (.aload_n 0, 1) := by decide +kernel
theorem dX12_readSkyLine_10 : decode cX12_readSkyLine 10 = .ok (.invokevirtual 144, 3) := by decide +kernel
theorem dX12_readSkyLine_13 : decode cX12_readSkyLine 13 = .ok (.ireturn, 1) := by decide +kernel
theorem dX12_readSkyLine_14 : decode cX12_readSkyLine 14 = .ok (.aload_n 0, 1) := by decide +kernel
theorem dX12_readSkyLine_15 : decode cX12_readSkyLine 15 = .ok (.ldc 148, 2) := by decide +kernel
theorem dX12_readSkyLine_17 : decode cX12_readSkyLine 17 = .ok (.invokevirtual 112, 3) := by decide +kernel
theorem dX12_readSkyLine_20 : decode cX12_readSkyLine 20 = .ok (.ifCond .eq 12, 3) := by decide +kernel
theorem dX12_readSkyLine_23 : decode cX12_readSkyLine 23 = .ok (.aload_n 0, 1) := by decide +kernel
theorem dX12_readSkyLine_24 : decode cX12_readSkyLine 24 = .ok (.bipush 14, 2) := by decide +kernel
theorem dX12_readSkyLine_26 : decode cX12_readSkyLine 26 = .ok (.bipush 9, 2) := by decide +kernel
theorem dX12_readSkyLine_28 : decode cX12_readSkyLine 28 = .ok (.invokevirtual 150, 3) := by decide +kernel
theorem dX12_readSkyLine_31 : decode cX12_readSkyLine 31 = .ok (.ireturn, 1) := by decide +kernel
theorem dX12_readSkyLine_32 : decode cX12_readSkyLine 32 = .ok (.aload_n 0, 1) := by decide +kernel
theorem dX12_readSkyLine_33 : decode cX12_readSkyLine 33 = .ok (.ldc 153, 2) := by decide +kernel
theorem dX12_readSkyLine_35 : decode cX12_readSkyLine 35 = .ok (.invokevirtual 112, 3) := by decide +kernel
theorem dX12_readSkyLine_38 : decode cX12_readSkyLine 38 = .ok (.ifCond .eq 12, 3) := by decide +kernel
theorem dX12_readSkyLine_41 : decode cX12_readSkyLine 41 = .ok (.aload_n 0, 1) := by decide +kernel
theorem dX12_readSkyLine_42 : decode cX12_readSkyLine 42 = .ok (.bipush 30, 2) := by decide +kernel
theorem dX12_readSkyLine_44 : decode cX12_readSkyLine 44 = .ok (.bipush 20, 2) := by decide +kernel
theorem dX12_readSkyLine_46 : decode cX12_readSkyLine 46 = .ok (.invokevirtual 150, 3) := by decide +kernel
theorem dX12_readSkyLine_49 : decode cX12_readSkyLine 49 = .ok (.ireturn, 1) := by decide +kernel
theorem dX12_readSkyLine_50 : decode cX12_readSkyLine 50 = .ok (.aload_n 0, 1) := by decide +kernel
theorem dX12_readSkyLine_51 : decode cX12_readSkyLine 51 = .ok (.ldc 155, 2) := by decide +kernel
theorem dX12_readSkyLine_53 : decode cX12_readSkyLine 53 = .ok (.invokevirtual 112, 3) := by decide +kernel
theorem dX12_readSkyLine_56 : decode cX12_readSkyLine 56 = .ok (.ifCond .eq 12, 3) := by decide +kernel
theorem dX12_readSkyLine_59 : decode cX12_readSkyLine 59 = .ok (.aload_n 0, 1) := by decide +kernel
theorem dX12_readSkyLine_60 : decode cX12_readSkyLine 60 = .ok (.bipush 46, 2) := by decide +kernel
theorem dX12_readSkyLine_62 : decode cX12_readSkyLine 62 = .ok (.bipush 9, 2) := by decide +kernel
theorem dX12_readSkyLine_64 : decode cX12_readSkyLine 64 = .ok (.invokevirtual 150, 3) := by decide +kernel
theorem dX12_readSkyLine_67 : decode cX12_readSkyLine 67 = .ok (.ireturn, 1) := by decide +kernel
theorem dX12_readSkyLine_68 : decode cX12_readSkyLine 68 = .ok (.aload_n 0, 1) := by decide +kernel
theorem dX12_readSkyLine_69 : decode cX12_readSkyLine 69 = .ok (.ldc 157, 2) := by decide +kernel
theorem dX12_readSkyLine_71 : decode cX12_readSkyLine 71 = .ok (.invokevirtual 112, 3) := by decide +kernel
theorem dX12_readSkyLine_74 : decode cX12_readSkyLine 74 = .ok (.ifCond .eq 8, 3) := by decide +kernel
theorem dX12_readSkyLine_77 : decode cX12_readSkyLine 77 = .ok (.aload_n 0, 1) := by decide +kernel
theorem dX12_readSkyLine_78 : decode cX12_readSkyLine 78 = .ok (.invokevirtual 159, 3) := by decide +kernel
theorem dX12_readSkyLine_81 : decode cX12_readSkyLine 81 = .ok (.ireturn, 1) := by decide +kernel
theorem dX12_readSkyLine_82 : decode cX12_readSkyLine 82 = .ok (.aload_n 0, 1) := by decide +kernel
theorem dX12_readSkyLine_83 : decode cX12_readSkyLine 83 = .ok (.ldc 162, 2) := by decide +kernel
theorem dX12_readSkyLine_85 : decode cX12_readSkyLine 85 = .ok (.invokevirtual 112, 3) := by decide +kernel
theorem dX12_readSkyLine_88 : decode cX12_readSkyLine 88 = .ok (.ifCond .eq 8, 3) := by decide +kernel
theorem dX12_readSkyLine_91 : decode cX12_readSkyLine 91 = .ok (.aload_n 0, 1) := by decide +kernel
theorem dX12_readSkyLine_92 : decode cX12_readSkyLine 92 = .ok (.invokevirtual 164, 3) := by decide +kernel
theorem dX12_readSkyLine_95 : decode cX12_readSkyLine 95 = .ok (.ireturn, 1) := by decide +kernel
theorem dX12_readSkyLine_96 : decode cX12_readSkyLine 96 = .ok (.aload_n 0, 1) := by decide +kernel
theorem dX12_readSkyLine_97 : decode cX12_readSkyLine 97 = .ok (.ldc 167, 2) := by decide +kernel
theorem dX12_readSkyLine_99 : decode cX12_readSkyLine 99 = .ok (.invokevirtual 112, 3) := by decide +kernel
theorem dX12_readSkyLine_102 : decode cX12_readSkyLine 102 = .ok (.ifCond .eq 12, 3) := by decide +kernel
theorem dX12_readSkyLine_105 : decode cX12_readSkyLine 105 = .ok (.aload_n 0, 1) := by decide +kernel
theorem dX12_readSkyLine_106 : decode cX12_readSkyLine 106 = .ok (.iconst 4, 1) := by decide +kernel
theorem dX12_readSkyLine_107 : decode cX12_readSkyLine 107 = .ok (.iconst 1, 1) := by decide +kernel
theorem dX12_readSkyLine_108 : decode cX12_readSkyLine 108 = .ok (.bipush 40, 2) := by decide +kernel
theorem dX12_readSkyLine_110 : decode cX12_readSkyLine 110 = .ok (.invokevirtual 131, 3) := by decide +kernel
theorem dX12_readSkyLine_113 : decode cX12_readSkyLine 113 = .ok (.ireturn, 1) := by decide +kernel
theorem dX12_readSkyLine_114 : decode cX12_readSkyLine 114 = .ok (.aload_n 0, 1) := by decide +kernel
theorem dX12_readSkyLine_115 : decode cX12_readSkyLine 115 = .ok (.ldc 169, 2) := by decide +kernel
theorem dX12_readSkyLine_117 : decode cX12_readSkyLine 117 = .ok (.invokevirtual 112, 3) := by decide +kernel
theorem dX12_readSkyLine_120 : decode cX12_readSkyLine 120 = .ok (.ifCond .eq 12, 3) := by decide +kernel
theorem dX12_readSkyLine_123 : decode cX12_readSkyLine 123 = .ok (.aload_n 0, 1) := by decide +kernel
theorem dX12_readSkyLine_124 : decode cX12_readSkyLine 124 = .ok (.iconst 5, 1) := by decide +kernel
theorem dX12_readSkyLine_125 : decode cX12_readSkyLine 125 = .ok (.iconst 0, 1) := by decide +kernel
theorem dX12_readSkyLine_126 : decode cX12_readSkyLine 126 = .ok (.bipush 9, 2) := by decide +kernel
theorem dX12_readSkyLine_128 : decode cX12_readSkyLine 128 = .ok (.invokevirtual 131, 3) := by decide +kernel
theorem dX12_readSkyLine_131 : decode cX12_readSkyLine 131 = .ok (.ireturn, 1) := by decide +kernel
theorem dX12_readSkyLine_132 : decode cX12_readSkyLine 132 = .ok (.aload_n 0, 1) := by decide +kernel
theorem dX12_readSkyLine_133 : decode cX12_readSkyLine 133 = .ok (.ldc 171, 2) := by decide +kernel
theorem dX12_readSkyLine_135 : decode cX12_readSkyLine 135 = .ok (.invokevirtual 112, 3) := by decide +kernel
theorem dX12_readSkyLine_138 : decode cX12_readSkyLine 138 = .ok (.ifCond .eq 13, 3) := by decide +kernel
theorem dX12_readSkyLine_141 : decode cX12_readSkyLine 141 = .ok (.aload_n 0, 1) := by decide +kernel
theorem dX12_readSkyLine_142 : decode cX12_readSkyLine 142 = .ok (.bipush 8, 2) := by decide +kernel
theorem dX12_readSkyLine_144 : decode cX12_readSkyLine 144 = .ok (.iconst 0, 1) := by decide +kernel
theorem dX12_readSkyLine_145 : decode cX12_readSkyLine 145 = .ok (.bipush 100, 2) := by decide +kernel
theorem dX12_readSkyLine_147 : decode cX12_readSkyLine 147 = .ok (.invokevirtual 131, 3) := by decide +kernel
theorem dX12_readSkyLine_150 : decode cX12_readSkyLine 150 = .ok (.ireturn, 1) := by decide +kernel
theorem dX12_readSkyLine_151 : decode cX12_readSkyLine 151 = .ok (.aload_n 0, 1) := by decide +kernel
theorem dX12_readSkyLine_152 : decode cX12_readSkyLine 152 = .ok (.ldc 173, 2) := by decide +kernel
theorem dX12_readSkyLine_154 : decode cX12_readSkyLine 154 = .ok (.invokevirtual 112, 3) := by decide +kernel
theorem dX12_readSkyLine_157 : decode cX12_readSkyLine 157 = .ok (.ifCond .eq 13, 3) := by decide +kernel
theorem dX12_readSkyLine_160 : decode cX12_readSkyLine 160 = .ok (.aload_n 0, 1) := by decide +kernel
