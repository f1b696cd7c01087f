theorem dX12_readSkyLine_161 : decode cX12_readSkyLine 161 = .ok (.bipush 9, 2) := by decide +kernel
theorem dX12_readSkyLine_163 : decode cX12_readSkyLine 163 = .ok (.iconst 0, 1) := by decide +kernel
theorem dX12_readSkyLine_164 : decode cX12_readSkyLine 164 = .ok (.bipush 100, 2) := by decide +kernel
theorem dX12_readSkyLine_166 : decode cX12_readSkyLine 166 = .ok (.invokevirtual 131, 3) := by decide +kernel
theorem dX12_readSkyLine_169 : decode cX12_readSkyLine 169 = .ok (.ireturn, 1) := by decide +kernel
theorem dX12_readSkyLine_170 : decode cX12_readSkyLine 170 = .ok (.aload_n 0, 1) := by decide +kernel
theorem dX12_readSkyLine_171 : decode cX12_readSkyLine 171 = .ok (.ldc 175, 2) := by decide +kernel
theorem dX12_readSkyLine_173 : decode cX12_readSkyLine 173 = .ok (.invokevirtual 112, 3) := by decide +kernel
theorem dX12_readSkyLine_176 : decode cX12_readSkyLine 176 = .ok (.ifCond .eq 20, 3) := by decide +kernel
theorem dX12_readSkyLine_179 : decode cX12_readSkyLine 179 = .ok (.aload_n 0, 1) := by decide +kernel
theorem dX12_readSkyLine_180 : decode cX12_readSkyLine 180 = .ok (.bipush 6, 2) := by decide +kernel
theorem dX12_readSkyLine_182 : decode cX12_readSkyLine 182 = .ok (.iconst 0, 1) := by decide +kernel
theorem dX12_readSkyLine_183 : decode cX12_readSkyLine 183 = .ok (.sipush 999, 3) := by decide +kernel
theorem dX12_readSkyLine_186 : decode cX12_readSkyLine 186 = .ok (.invokevirtual 131, 3) := by decide +kernel
theorem dX12_readSkyLine_189 : decode cX12_readSkyLine 189 = .ok (.ifCond .eq 7, 3) := by decide +kernel
theorem dX12_readSkyLine_192 : decode cX12_readSkyLine 192 = .ok (.iconst 1, 1) := by decide +kernel
theorem dX12_readSkyLine_193 : decode cX12_readSkyLine 193 = .ok (.goto 4, 3) := by decide +kernel
theorem dX12_readSkyLine_196 : decode cX12_readSkyLine 196 = .ok (.iconst 0, 1) := by decide +kernel
theorem dX12_readSkyLine_197 : decode cX12_readSkyLine 197 = .ok (.ireturn, 1) := by decide +kernel
theorem dX12_emits_0 : decode cX12_emits 0 = .ok (.aload_n 0, 1) := by decide +kernel
theorem dX12_emits_1 : decode cX12_emits 1 = .ok (.getfield 13, 3) := by decide +kernel
theorem dX12_emits_4 : decode cX12_emits 4 = .ok (.sipush 1231, 3) := by decide +kernel
theorem dX12_emits_7 : decode cX12_emits 7 = .ok (.iconst 2, 1) := by decide +kernel
theorem dX12_emits_8 : decode cX12_emits 8 = .ok (.aload_n 0, 1) := by decide +kernel
theorem dX12_emits_9 : decode cX12_emits 9 = .ok (.getfield 177, 3) := by decide +kernel
theorem dX12_emits_12 : decode cX12_emits 12 = .ok (.imul, 1) := by decide +kernel
theorem dX12_emits_13 : decode cX12_emits 13 = .ok (.iadd, 1) := by decide +kernel
theorem dX12_emits_14 : decode cX12_emits 14 = .ok (.iload_n 1, 1) := by decide +kernel
theorem dX12_emits_15 : decode cX12_emits 15 = .ok (.iastore, 1) := by decide +kernel
theorem dX12_emits_16 : decode cX12_emits 16 = .ok (.aload_n 0, 1) := by decide +kernel
theorem dX12_emits_17 : decode cX12_emits 17 = .ok (.getfield 13, 3) := by decide +kernel
theorem dX12_emits_20 : decode cX12_emits 20 = .ok (.sipush 1231, 3) := by decide +kernel
theorem dX12_emits_23 : decode cX12_emits 23 = .ok (.iconst 2, 1) := by decide +kernel
theorem dX12_emits_24 : decode cX12_emits 24 = .ok (.aload_n 0, 1) := by decide +kernel
theorem dX12_emits_25 : decode cX12_emits 25 = .ok (.getfield 177, 3) := by decide +kernel
theorem dX12_emits_28 : decode cX12_emits 28 = .ok (.imul, 1) := by decide +kernel
theorem dX12_emits_29 : decode cX12_emits 29 = .ok (.iadd, 1) := by decide +kernel
theorem dX12_emits_30 : decode cX12_emits 30 = .ok (.iconst 1, 1) := by decide +kernel
theorem dX12_emits_31 : decode cX12_emits 31 = .ok (.iadd, 1) := by decide +kernel
theorem dX12_emits_32 : decode cX12_emits 32 = .ok (.iload_n 2, 1) := by decide +kernel
theorem dX12_emits_33 : decode cX12_emits 33 = .ok (.iastore, 1) := by decide +kernel
theorem dX12_emits_34 : decode cX12_emits 34 = .ok (.aload_n 0, 1) := by decide +kernel
theorem dX12_emits_35 : decode cX12_emits 35 = .ok (.dup, 1) := by decide +kernel
theorem dX12_emits_36 : decode cX12_emits 36 = .ok (.getfield 177, 3) := by decide +kernel
theorem dX12_emits_39 : decode cX12_emits 39 = .ok (.iconst 1, 1) := by decide +kernel
theorem dX12_emits_40 : decode cX12_emits 40 = .ok (.iadd, 1) := by decide +kernel
theorem dX12_emits_41 : decode cX12_emits 41 = .ok (.putfield 177, 3) := by decide +kernel
theorem dX12_emits_44 : decode cX12_emits 44 = .ok (.return_, 1) := by decide +kernel
theorem dX12_readPart_0 : decode cX12_readPart 0 = .ok (.aload_n 0, 1) := by decide +kernel
theorem dX12_readPart_1 : decode cX12_readPart 1 = .ok (.invokevirtual 109, 3) := by decide +kernel
theorem dX12_readPart_4 : decode cX12_readPart 4 = .ok (.aload_n 0, 1) := by decide +kernel
theorem dX12_readPart_5 : decode cX12_readPart 5 = .ok (.getfield 85, 3) := by decide +kernel
theorem dX12_readPart_8 : decode cX12_readPart 8 = .ok (.aload_n 0, 1) := by decide +kernel
theorem dX12_readPart_9 : decode cX12_readPart 9 = .ok (.getfield 94, 3) := by decide +kernel
theorem dX12_readPart_12 : decode cX12_readPart 12 = .ok (.if_icmp .ne 22, 3) := by decide +kernel
theorem dX12_readPart_15 : decode cX12_readPart 15 = .ok (.aload_n 0, 1) := by decide +kernel
theorem dX12_readPart_16 : decode cX12_readPart 16 = .ok (.iconst 0, 1) := by decide +kernel
theorem dX12_readPart_17 : decode cX12_readPart 17 = .ok (.sipush 999, 3) := by decide +kernel
theorem dX12_readPart_20 : decode cX12_readPart 20 = .ok (.invokevirtual 116, 3) := by decide +kernel
theorem dX12_readPart_23 : decode cX12_readPart 23 = .ok (.istore_n 1, 1) := by decide +kernel
theorem dX12_readPart_24 : decode cX12_readPart 24 = .ok (.aload_n 0, 1) := by decide +kernel
theorem dX12_readPart_25 : decode cX12_readPart 25 = .ok (.bipush 8, 2) := by decide +kernel
theorem dX12_readPart_27 : decode cX12_readPart 27 = .ok (.iload_n 1, 1) := by decide +kernel
theorem dX12_readPart_28 : decode cX12_readPart 28 = .ok (.invokevirtual 180, 3) := by decide +kernel
theorem dX12_readPart_31 : decode cX12_readPart 31 = .ok (.goto 89, 3) := by decide +kernel
theorem dX12_readPart_34 : decode cX12_readPart 34 = .ok (.aload_n 0, 1) := by decide +kernel
theorem dX12_readPart_35 : decode cX12_readPart 35 = .ok (.ldc 184, 2) := by decide +kernel
theorem dX12_readPart_37 : decode cX12_readPart 37 = .ok (.invokevirtual 112, 3) := by decide +kernel
theorem dX12_readPart_40 : decode cX12_readPart 40 = .ok (.ifCond .eq 7, 3) := by decide +kernel
theorem dX12_readPart_43 : decode cX12_readPart 43 = .ok (.iconst 0, 1) := by decide +kernel
theorem dX12_readPart_44 : decode cX12_readPart 44 = .ok (.goto 69, 3) := by decide +kernel
theorem dX12_readPart_47 : decode cX12_readPart 47 = .ok (.aload_n 0, 1) := by decide +kernel
theorem dX12_readPart_48 : decode cX12_readPart 48 = .ok (.ldc 155, 2) := by decide +kernel
theorem dX12_readPart_50 : decode cX12_readPart 50 = .ok (.invokevirtual 112, 3) := by decide +kernel
theorem dX12_readPart_53 : decode cX12_readPart 53 = .ok (.ifCond .eq 7, 3) := by decide +kernel
theorem dX12_readPart_56 : decode cX12_readPart 56 = .ok (.iconst 1, 1) := by decide +kernel
theorem dX12_readPart_57 : decode cX12_readPart 57 = .ok (.goto 56, 3) := by decide +kernel
theorem dX12_readPart_60 : decode cX12_readPart 60 = .ok (.aload_n 0, 1) := by decide +kernel
theorem dX12_readPart_61 : decode cX12_readPart 61 = .ok (.ldc 126, 2) := by decide +kernel
theorem dX12_readPart_63 : decode cX12_readPart 63 = .ok (.invokevirtual 112, 3) := by decide +kernel
theorem dX12_readPart_66 : decode cX12_readPart 66 = .ok (.ifCond .eq 7, 3) := by decide +kernel
theorem dX12_readPart_69 : decode cX12_readPart 69 = .ok (.iconst 2, 1) := by decide +kernel
theorem dX12_readPart_70 : decode cX12_readPart 70 = .ok (.goto 43, 3) := by decide +kernel
theorem dX12_readPart_73 : decode cX12_readPart 73 = .ok (.aload_n 0, 1) := by decide +kernel
theorem dX12_readPart_74 : decode cX12_readPart 74 = .ok (.ldc 148, 2) := by decide +kernel
theorem dX12_readPart_76 : decode cX12_readPart 76 = .ok (.invokevirtual 112, 3) := by decide +kernel
theorem dX12_readPart_79 : decode cX12_readPart 79 = .ok (.ifCond .eq 7, 3) := by decide +kernel
theorem dX12_readPart_82 : decode cX12_readPart 82 = .ok (.iconst 3, 1) := by decide +kernel
theorem dX12_readPart_83 : decode cX12_readPart 83 = .ok (.goto 30, 3) := by decide +kernel
theorem dX12_readPart_86 : decode cX12_readPart 86 = .ok (.aload_n 0, 1) := by decide +kernel
theorem dX12_readPart_87 : decode cX12_readPart 87 = .ok (.ldc 186, 2) := by decide +kernel
theorem dX12_readPart_89 : decode cX12_readPart 89 = .ok (.invokevirtual 112, 3) := by decide +kernel
theorem dX12_readPart_92 : decode cX12_readPart 92 = .ok (.ifCond .eq 7, 3) := by decide +kernel
theorem dX12_readPart_95 : decode cX12_readPart 95 = .ok (.iconst 4, 1) := by decide +kernel
theorem dX12_readPart_96 : decode cX12_readPart 96 = .ok (.goto 17, 3) := by decide +kernel
theorem dX12_readPart_99 : decode cX12_readPart 99 = .ok (.aload_n 0, 1) := by decide +kernel
theorem dX12_readPart_100 : decode cX12_readPart 100 = .ok (.ldc 188, 2) := by decide +kernel
theorem dX12_readPart_102 : decode cX12_readPart 102 = .ok (.invokevirtual 112, 3) := by decide +kernel
theorem dX12_readPart_105 : decode cX12_readPart 105 = .ok (.ifCond .eq 7, 3) := by decide +kernel
theorem dX12_readPart_108 : decode cX12_readPart 108 = .ok (.iconst 5, 1) := by decide +kernel
theorem dX12_readPart_109 : decode cX12_readPart 109 = .ok (.goto 4, 3) := by decide +kernel
theorem dX12_readPart_112 : decode cX12_readPart 112 = .ok (.iconst (-1), 1) := by decide +kernel
theorem dX12_readPart_113 : decode cX12_readPart 113 = .ok (.istore_n 1, 1) := by decide +kernel
theorem dX12_readPart_114 : decode cX12_readPart 114 = .ok (.aload_n 0, 1) := by decide +kernel
theorem dX12_readPart_115 : decode cX12_readPart 115 = .ok (.iload_n 1, 1) := by decide +kernel
theorem dX12_readPart_116 : decode cX12_readPart 116 = .ok (.iconst 0, 1) := by decide +kernel
theorem dX12_readPart_117 : decode cX12_readPart 117 = .ok (.invokevirtual 180, 3) := by decide +kernel
theorem dX12_readPart_120 : decode cX12_readPart 120 = .ok (.iload_n 1, 1) := by decide +kernel
theorem dX12_readPart_121 : decode cX12_readPart 121 = .ok (.ifCond .lt 7, 3) := by decide +kernel
theorem dX12_readPart_124 : decode cX12_readPart 124 = .ok (.iconst 1, 1) := by decide +kernel
theorem dX12_readPart_125 : decode cX12_readPart 125 = .ok (.goto 4, 3) := by decide +kernel
theorem dX12_readPart_128 : decode cX12_readPart 128 = .ok (.iconst 0, 1) := by decide +kernel
theorem dX12_readPart_129 : decode cX12_readPart 129 = .ok (.ireturn, 1) := by decide +kernel
theorem dX12_readSum_0 : decode cX12_readSum 0 = .ok (.aload_n 0, 1) := by decide +kernel
theorem dX12_readSum_1 : decode cX12_readSum 1 = .ok (.invokevirtual 190, 3) := by decide +kernel
theorem dX12_readSum_4 : decode cX12_readSum 4 = .ok (.ifCond .ne 5, 3) := by decide +kernel
theorem dX12_readSum_7 : decode cX12_readSum 7 = .ok (.iconst 0, 1) := by decide +kernel
theorem dX12_readSum_8 : decode cX12_readSum 8 = .ok (.ireturn, 1) := by decide +kernel
theorem dX12_readSum_9 : decode cX12_readSum 9 = .ok (.aload_n 0, 1) := by decide +kernel
theorem dX12_readSum_10 : decode cX12_readSum 10 = .ok (.bipush 43, 2) := by decide +kernel
theorem dX12_readSum_12 : decode cX12_readSum 12 = .ok (.invokevirtual 193, 3) := by decide +kernel
theorem dX12_readSum_15 : decode cX12_readSum 15 = .ok (.ifCond .eq 22, 3) := by decide +kernel
theorem dX12_readSum_18 : decode cX12_readSum 18 = .ok (.aload_n 0, 1) := by decide +kernel
theorem dX12_readSum_19 : decode cX12_readSum 19 = .ok (.invokevirtual 190, 3) := by decide +kernel
theorem dX12_readSum_22 : decode cX12_readSum 22 = .ok (.ifCond .ne 5, 3) := by decide +kernel
theorem dX12_readSum_25 : decode cX12_readSum 25 = .ok (.iconst 0, 1) := by decide +kernel
theorem dX12_readSum_26 : decode cX12_readSum 26 = .ok (.ireturn, 1) := by decide +kernel
theorem dX12_readSum_27 : decode cX12_readSum 27 = .ok (.aload_n 0, 1) := by decide +kernel
theorem dX12_readSum_28 : decode cX12_readSum 28 = .ok (.bipush 9, 2) := by decide +kernel
theorem dX12_readSum_30 : decode cX12_readSum 30 = .ok (.iconst 0, 1) := by decide +kernel
theorem dX12_readSum_31 : decode cX12_readSum 31 = .ok (.invokevirtual 180, 3) := by decide +kernel
theorem dX12_readSum_34 : decode cX12_readSum 34 = .ok (.goto (-25), 3) := by decide +kernel
theorem dX12_readSum_37 : decode cX12_readSum 37 = .ok (.iconst 1, 1) := by decide +kernel
theorem dX12_readSum_38 : decode cX12_readSum 38 = .ok (.ireturn, 1) := by decide +kernel
theorem dX12_readTag_0 : decode cX12_readTag 0 = .ok (.aload_n 0, 1) := by decide +kernel
theorem dX12_readTag_1 : decode cX12_readTag 1 = .ok (.invokevirtual 109, 3) := by decide +kernel
theorem dX12_readTag_4 : decode cX12_readTag 4 = .ok (.aload_n 0, 1) := by decide +kernel
theorem dX12_readTag_5 : decode cX12_readTag 5 = .ok (.ldc 196, 2) := by decide +kernel
theorem dX12_readTag_7 : decode cX12_readTag 7 = .ok (.invokevirtual 112, 3) := by decide +kernel
theorem dX12_readTag_10 : decode cX12_readTag 10 = .ok (.ifCond .eq 8, 3) := by decide +kernel
theorem dX12_readTag_13 : decode cX12_readTag 13 = .ok (.bipush 6, 2) := by decide +kernel
theorem dX12_readTag_15 : decode cX12_readTag 15 = .ok (.goto 18, 3) := by decide +kernel
theorem dX12_readTag_18 : decode cX12_readTag 18 = .ok (.aload_n 0, 1) := by decide +kernel
theorem dX12_readTag_19 : decode cX12_readTag 19 = .ok (.ldc 198, 2) := by decide +kernel
theorem dX12_readTag_21 : decode cX12_readTag 21 = .ok (.invokevirtual 112, 3) := by decide +kernel
theorem dX12_readTag_24 : decode cX12_readTag 24 = .ok (.ifCond .eq 8, 3) := by decide +kernel
theorem dX12_readTag_27 : decode cX12_readTag 27 = .ok (.bipush 7, 2) := by decide +kernel
theorem dX12_readTag_29 : decode cX12_readTag 29 = .ok (.goto 4, 3) := by decide +kernel
theorem dX12_readTag_32 : decode cX12_readTag 32 = .ok (.iconst (-1), 1) := by decide +kernel
theorem dX12_readTag_33 : decode cX12_readTag 33 = .ok (.istore_n 1, 1) := by decide +kernel
theorem dX12_readTag_34 : decode cX12_readTag 34 = .ok (.iload_n 1, 1) := by decide +kernel
theorem dX12_readTag_35 : decode cX12_readTag 35 = .ok (.ifCond .lt 12, 3) := by decide +kernel
theorem dX12_readTag_38 : decode cX12_readTag 38 = .ok (.aload_n 0, 1) := by decide +kernel
theorem dX12_readTag_39 : decode cX12_readTag 39 = .ok (.iload_n 1, 1) := by decide +kernel
theorem dX12_readTag_40 : decode cX12_readTag 40 = .ok (.iconst 0, 1) := by decide +kernel
theorem dX12_readTag_41 : decode cX12_readTag 41 = .ok (.invokevirtual 180, 3) := by decide +kernel
theorem dX12_readTag_44 : decode cX12_readTag 44 = .ok (.goto 11, 3) := by decide +kernel
theorem dX12_readTag_47 : decode cX12_readTag 47 = .ok (.aload_n 0, 1) := by decide +kernel
theorem dX12_readTag_48 : decode cX12_readTag 48 = .ok (.aload_n 0, 1) := by decide +kernel
theorem dX12_readTag_49 : decode cX12_readTag 49 = .ok (.getfield 94, 3) := by decide +kernel
theorem dX12_readTag_52 : decode cX12_readTag 52 = .ok (.putfield 85, 3) := by decide +kernel
theorem dX12_readTag_55 : decode cX12_readTag 55 = .ok (.iload_n 1, 1) := by decide +kernel
theorem dX12_readTag_56 : decode cX12_readTag 56 = .ok (.ifCond .lt 7, 3) := by decide +kernel
theorem dX12_readTag_59 : decode cX12_readTag 59 = .ok (.iconst 1, 1) := by decide +kernel
theorem dX12_readTag_60 : decode cX12_readTag 60 = .ok (.goto 4, 3) := by decide +kernel
theorem dX12_readTag_63 : decode cX12_readTag 63 = .ok (.iconst 0, 1) := by decide +kernel
theorem dX12_readTag_64 : decode cX12_readTag 64 = .ok (.ireturn, 1) := by decide +kernel
theorem dX12_readAtom_0 : decode cX12_readAtom 0 = .ok (.aload_n 0, 1) := by decide +kernel
theorem dX12_readAtom_1 : decode cX12_readAtom 1 = .ok (.bipush 40, 2) := by decide +kernel
theorem dX12_readAtom_3 : decode cX12_readAtom 3 = .ok (.invokevirtual 193, 3) := by decide +kernel
theorem dX12_readAtom_6 : decode cX12_readAtom 6 = .ok (.ifCond .eq 50, 3) := by decide +kernel
theorem dX12_readAtom_9 : decode cX12_readAtom 9 = .ok (.aload_n 0, 1) := by decide +kernel
theorem dX12_readAtom_10 : decode cX12_readAtom 10 = .ok (.getfield 200, 3) := by decide +kernel
theorem dX12_readAtom_13 : decode cX12_readAtom 13 = .ok (.bipush 6, 2) := by decide +kernel
theorem dX12_readAtom_15 : decode cX12_readAtom 15 = .ok (.if_icmp .ne 5, 3) := by decide +kernel
theorem dX12_readAtom_18 : decode cX12_readAtom 18 = .ok (.iconst 0, 1) := by decide +kernel
theorem dX12_readAtom_19 : decode cX12_readAtom 19 = .ok (.ireturn, 1) := by decide +kernel
theorem dX12_readAtom_20 : decode cX12_readAtom 20 = .ok (.aload_n 0, 1) := by decide +kernel
theorem dX12_readAtom_21 : decode cX12_readAtom 21 = .ok (.dup, 1) := by decide +kernel
theorem dX12_readAtom_22 : decode cX12_readAtom 22 = .ok (.getfield 200, 3) := by decide +kernel
theorem dX12_readAtom_25 : decode cX12_readAtom 25 = .ok (.iconst 1, 1) := by decide +kernel
theorem dX12_readAtom_26 : decode cX12_readAtom 26 = .ok (.iadd, 1) := by decide +kernel
theorem dX12_readAtom_27 : decode cX12_readAtom 27 = .ok (.putfield 200, 3) := by decide +kernel
theorem dX12_readAtom_30 : decode cX12_readAtom 30 = .ok (.aload_n 0, 1) := by decide +kernel
theorem dX12_readAtom_31 : decode cX12_readAtom 31 = .ok (.invokevirtual 203, 3) := by decide +kernel
theorem dX12_readAtom_34 : decode cX12_readAtom 34 = .ok (.ifCond .ne 5, 3) := by decide +kernel
theorem dX12_readAtom_37 : decode cX12_readAtom 37 = .ok (.iconst 0, 1) := by decide +kernel
theorem dX12_readAtom_38 : decode cX12_readAtom 38 = .ok (.ireturn, 1) := by decide +kernel
theorem dX12_readAtom_39 : decode cX12_readAtom 39 = .ok (.aload_n 0, 1) := by decide +kernel
theorem dX12_readAtom_40 : decode cX12_readAtom 40 = .ok (.dup, 1) := by decide +kernel
theorem dX12_readAtom_41 : decode cX12_readAtom 41 = .ok (.getfield 200, 3) := by decide +kernel
theorem dX12_readAtom_44 : decode cX12_readAtom 44 = .ok (.iconst 1, 1) := by decide +kernel
theorem dX12_readAtom_45 : decode cX12_readAtom 45 = .ok (.isub, 1) := by decide +kernel
theorem dX12_readAtom_46 : decode cX12_readAtom 46 = .ok (.putfield 200, 3) := by decide +kernel
theorem dX12_readAtom_49 : decode cX12_readAtom 49 = .ok (.aload_n 0, 1) := by decide +kernel
theorem dX12_readAtom_50 : decode cX12_readAtom 50 = .ok (.bipush 41, 2) := by decide +kernel
theorem dX12_readAtom_52 : decode cX12_readAtom 52 = .ok (.invokevirtual 193, 3) := by decide +kernel
theorem dX12_readAtom_55 : decode cX12_readAtom 55 = .ok (.ireturn, 1) := by decide +kernel
theorem dX12_readAtom_56 : decode cX12_readAtom 56 = .ok (.aload_n 0, 1) := by decide +kernel
theorem dX12_readAtom_57 : decode cX12_readAtom 57 = .ok (.ldc 206, 2) := by decide +kernel
theorem dX12_readAtom_59 : decode cX12_readAtom 59 = .ok (.invokevirtual 128, 3) := by decide +kernel
theorem dX12_readAtom_62 : decode cX12_readAtom 62 = .ok (.ifCond .eq 52, 3) := by decide +kernel
theorem dX12_readAtom_65 : decode cX12_readAtom 65 = .ok (.aload_n 0, 1) := by decide +kernel
theorem dX12_readAtom_66 : decode cX12_readAtom 66 = .ok (.getfield 200, 3) := by decide +kernel
theorem dX12_readAtom_69 : decode cX12_readAtom 69 = .ok (.bipush 6, 2) := by decide +kernel
theorem dX12_readAtom_71 : decode cX12_readAtom 71 = .ok (.if_icmp .ne 5, 3) := by decide +kernel
theorem dX12_readAtom_74 : decode cX12_readAtom 74 = .ok (.iconst 0, 1) := by decide +kernel
theorem dX12_readAtom_75 : decode cX12_readAtom 75 = .ok (.ireturn, 1) := by decide +kernel
theorem dX12_readAtom_76 : decode cX12_readAtom 76 = .ok (.aload_n 0, 1) := by decide +kernel
theorem dX12_readAtom_77 : decode cX12_readAtom 77 = .ok (.dup, 1) := by decide +kernel
theorem dX12_readAtom_78 : decode cX12_readAtom 78 = .ok (.getfield 200, 3) := by decide +kernel
theorem dX12_readAtom_81 : decode cX12_readAtom 81 = .ok (.iconst 1, 1) := by decide +kernel
theorem dX12_readAtom_82 : decode cX12_readAtom 82 = .ok (.iadd, 1) := by decide +kernel
theorem dX12_readAtom_83 : decode cX12_readAtom 83 = .ok (.putfield 200, 3) := by decide +kernel
theorem dX12_readAtom_86 : decode cX12_readAtom 86 = .ok (.aload_n 0, 1) := by decide +kernel
theorem dX12_readAtom_87 : decode cX12_readAtom 87 = .ok (.invokevirtual 208, 3) := by decide +kernel
theorem dX12_readAtom_90 : decode cX12_readAtom 90 = .ok (.ifCond .ne 5, 3) := by decide +kernel
theorem dX12_readAtom_93 : decode cX12_readAtom 93 = .ok (.iconst 0, 1) := by decide +kernel
theorem dX12_readAtom_94 : decode cX12_readAtom 94 = .ok (.ireturn, 1) := by decide +kernel
theorem dX12_readAtom_95 : decode cX12_readAtom 95 = .ok (.aload_n 0, 1) := by decide +kernel
theorem dX12_readAtom_96 : decode cX12_readAtom 96 = .ok (.dup, 1) := by decide +kernel
theorem dX12_readAtom_97 : decode cX12_readAtom 97 = .ok (.getfield 200, 3) := by decide +kernel
theorem dX12_readAtom_100 : decode cX12_readAtom 100 = .ok (.iconst 1, 1) := by decide +kernel
theorem dX12_readAtom_101 : decode cX12_readAtom 101 = .ok (.isub, 1) := by decide +kernel
theorem dX12_readAtom_102 : decode cX12_readAtom 102 = .ok (.putfield 200, 3) := by decide +kernel
theorem dX12_readAtom_105 : decode cX12_readAtom 105 = .ok (.aload_n 0, 1) := by decide +kernel
theorem dX12_readAtom_106 : decode cX12_readAtom 106 = .ok (.bipush 12, 2) := by decide +kernel
theorem dX12_readAtom_108 : decode cX12_readAtom 108 = .ok (.iconst 0, 1) := by decide +kernel
theorem dX12_readAtom_109 : decode cX12_readAtom 109 = .ok (.invokevirtual 180, 3) := by decide +kernel
theorem dX12_readAtom_112 : decode cX12_readAtom 112 = .ok (.iconst 1, 1) := by decide +kernel
theorem dX12_readAtom_113 : decode cX12_readAtom 113 = .ok (.ireturn, 1) := by decide +kernel
theorem dX12_readAtom_114 : decode cX12_readAtom 114 = .ok (.aload_n 0, 1) := by decide +kernel
theorem dX12_readAtom_115 : decode cX12_readAtom 115 = .ok (.invokevirtual 211, 3) := by decide +kernel
theorem dX12_readAtom_118 : decode cX12_readAtom 118 = .ok (.ifCond .eq 5, 3) := by decide +kernel
theorem dX12_readAtom_121 : decode cX12_readAtom 121 = .ok (.iconst 1, 1) := by decide +kernel
theorem dX12_readAtom_122 : decode cX12_readAtom 122 = .ok (.ireturn, 1) := by decide +kernel
theorem dX12_readAtom_123 : decode cX12_readAtom 123 = .ok (.aload_n 0, 1) := by decide +kernel
theorem dX12_readAtom_124 : decode cX12_readAtom 124 = .ok (.invokevirtual 214, 3) := by decide +kernel
theorem dX12_readAtom_127 : decode cX12_readAtom 127 = .ok (.ifCond .ne 5, 3) := by decide +kernel
theorem dX12_readAtom_130 : decode cX12_readAtom 130 = .ok (.iconst 0, 1) := by decide +kernel
theorem dX12_readAtom_131 : decode cX12_readAtom 131 = .ok (.ireturn, 1) := by decide +kernel
theorem dX12_readAtom_132 : decode cX12_readAtom 132 = .ok (.aload_n 0, 1) := by decide +kernel
theorem dX12_readAtom_133 : decode cX12_readAtom 133 = .ok (.bipush 60, 2) := by decide +kernel
theorem dX12_readAtom_135 : decode cX12_readAtom 135 = .ok (.invokevirtual 193, 3) := by decide +kernel
theorem dX12_readAtom_138 : decode cX12_readAtom 138 = .ok (.istore_n 1, 1) := by decide +kernel
theorem dX12_readAtom_139 : decode cX12_readAtom 139 = .ok (.iload_n 1, 1) := by decide +kernel
theorem dX12_readAtom_140 : decode cX12_readAtom 140 = .ok (.ifCond .ne 12, 3) := by decide +kernel
theorem dX12_readAtom_143 : decode cX12_readAtom 143 = .ok (.aload_n 0, 1) := by decide +kernel
theorem dX12_readAtom_144 : decode cX12_readAtom 144 = .ok (.bipush 62, 2) := by decide +kernel
theorem dX12_readAtom_146 : decode cX12_readAtom 146 = .ok (.invokevirtual 193, 3) := by decide +kernel
theorem dX12_readAtom_149 : decode cX12_readAtom 149 = .ok (.ifCond .eq 10, 3) := by decide +kernel
theorem dX12_readAtom_152 : decode cX12_readAtom 152 = .ok (.aload_n 0, 1) := by decide +kernel
theorem dX12_readAtom_153 : decode cX12_readAtom 153 = .ok (.invokevirtual 214, 3) := by decide +kernel
theorem dX12_readAtom_156 : decode cX12_readAtom 156 = .ok (.ifCond .ne 5, 3) := by decide +kernel
theorem dX12_readAtom_159 : decode cX12_readAtom 159 = .ok (.iconst 0, 1) := by decide +kernel
theorem dX12_readAtom_160 : decode cX12_readAtom 160 = .ok (.ireturn, 1) := by decide +kernel
theorem dX12_readAtom_161 : decode cX12_readAtom 161 = .ok (.aload_n 0, 1) := by decide +kernel
theorem dX12_readAtom_162 : decode cX12_readAtom 162 = .ok (.iload_n 1, 1) := by decide +kernel
theorem dX12_readAtom_163 : decode cX12_readAtom 163 = .ok (.ifCond .eq 8, 3) := by decide +kernel
theorem dX12_readAtom_166 : decode cX12_readAtom 166 = .ok (.bipush 10, 2) := by decide +kernel
theorem dX12_readAtom_168 : decode cX12_readAtom 168 = .ok (.goto 5, 3) := by decide +kernel
theorem dX12_readAtom_171 : decode cX12_readAtom 171 = .ok (.bipush 11, 2) := by decide +kernel
theorem dX12_readAtom_173 : decode cX12_readAtom 173 = .ok (.iconst 0, 1) := by decide +kernel
theorem dX12_readAtom_174 : decode cX12_readAtom 174 = .ok (.invokevirtual 180, 3) := by decide +kernel
theorem dX12_readAtom_177 : decode cX12_readAtom 177 = .ok (.iconst 1, 1) := by decide +kernel
theorem dX12_readAtom_178 : decode cX12_readAtom 178 = .ok (.ireturn, 1) := by decide +kernel
theorem dX12_readAllOf_0 : decode cX12_readAllOf 0 = .ok (.aload_n 0, 1) := by decide +kernel
theorem dX12_readAllOf_1 : decode cX12_readAllOf 1 = .ok (.invokevirtual 208, 3) := by decide +kernel
theorem dX12_readAllOf_4 : decode cX12_readAllOf 4 = .ok (.ifCond .ne 5, 3) := by decide +kernel
theorem dX12_readAllOf_7 : decode cX12_readAllOf 7 = .ok (.iconst 0, 1) := by decide +kernel
theorem dX12_readAllOf_8 : decode cX12_readAllOf 8 = .ok (.ireturn, 1) := by decide +kernel
theorem dX12_readAllOf_9 : decode cX12_readAllOf 9 = .ok (.aload_n 0, 1) := by decide +kernel
theorem dX12_readAllOf_10 : decode cX12_readAllOf 10 = .ok (.ldc 217, 2) := by decide +kernel
theorem dX12_readAllOf_12 : decode cX12_readAllOf 12 = .ok (.invokevirtual 128, 3) := by decide +kernel
theorem dX12_readAllOf_15 : decode cX12_readAllOf 15 = .ok (.ifCond .eq 22, 3) := by decide +kernel
theorem dX12_readAllOf_18 : decode cX12_readAllOf 18 = .ok (.aload_n 0, 1) := by decide +kernel
theorem dX12_readAllOf_19 : decode cX12_readAllOf 19 = .ok (.invokevirtual 208, 3) := by decide +kernel
theorem dX12_readAllOf_22 : decode cX12_readAllOf 22 = .ok (.ifCond .ne 5, 3) := by decide +kernel
theorem dX12_readAllOf_25 : decode cX12_readAllOf 25 = .ok (.iconst 0, 1) := by decide +kernel
theorem dX12_readAllOf_26 : decode cX12_readAllOf 26 = .ok (.ireturn, 1) := by decide +kernel
theorem dX12_readAllOf_27 : decode cX12_readAllOf 27 = .ok (.aload_n 0, 1) := by decide +kernel
theorem dX12_readAllOf_28 : decode cX12_readAllOf 28 = .ok (.bipush 13, 2) := by decide +kernel
theorem dX12_readAllOf_30 : decode cX12_readAllOf 30 = .ok (.iconst 0, 1) := by decide +kernel
theorem dX12_readAllOf_31 : decode cX12_readAllOf 31 = .ok (.invokevirtual 180, 3) := by decide +kernel
theorem dX12_readAllOf_34 : decode cX12_readAllOf 34 = .ok (.goto (-25), 3) := by decide +kernel
theorem dX12_readAllOf_37 : decode cX12_readAllOf 37 = .ok (.iconst 1, 1) := by decide +kernel
theorem dX12_readAllOf_38 : decode cX12_readAllOf 38 = .ok (.ireturn, 1) := by decide +kernel
theorem dX12_readCond_0 : decode cX12_readCond 0 = .ok (.aload_n 0, 1) := by decide +kernel
theorem dX12_readCond_1 : decode cX12_readCond 1 = .ok (.invokevirtual 219, 3) := by decide +kernel
theorem dX12_readCond_4 : decode cX12_readCond 4 = .ok (.ifCond .ne 5, 3) := by decide +kernel
theorem dX12_readCond_7 : decode cX12_readCond 7 = .ok (.iconst 0, 1) := by decide +kernel
theorem dX12_readCond_8 : decode cX12_readCond 8 = .ok (.ireturn, 1) := by decide +kernel
theorem dX12_readCond_9 : decode cX12_readCond 9 = .ok (.aload_n 0, 1) := by decide +kernel
theorem dX12_readCond_10 : decode cX12_readCond 10 = .ok (.ldc 222, 2) := by decide +kernel
theorem dX12_readCond_12 : decode cX12_readCond 12 = .ok (.invokevirtual 128, 3) := by decide +kernel
theorem dX12_readCond_15 : decode cX12_readCond 15 = .ok (.ifCond .eq 22, 3) := by decide +kernel
theorem dX12_readCond_18 : decode cX12_readCond 18 = .ok (.aload_n 0, 1) := by decide +kernel
theorem dX12_readCond_19 : decode cX12_readCond 19 = .ok (.invokevirtual 219, 3) := by decide +kernel
theorem dX12_readCond_22 : decode cX12_readCond 22 = .ok (.ifCond .ne 5, 3) := by decide +kernel
theorem dX12_readCond_25 : decode cX12_readCond 25 = .ok (.iconst 0, 1) := by decide +kernel
theorem dX12_readCond_26 : decode cX12_readCond 26 = .ok (.ireturn, 1) := by decide +kernel
theorem dX12_readCond_27 : decode cX12_readCond 27 = .ok (.aload_n 0, 1) := by decide +kernel
theorem dX12_readCond_28 : decode cX12_readCond 28 = .ok (.bipush 14, 2) := by decide +kernel
theorem dX12_readCond_30 : decode cX12_readCond 30 = .ok (.iconst 0, 1) := by decide +kernel
theorem dX12_readCond_31 : decode cX12_readCond 31 = .ok (.invokevirtual 180, 3) := by decide +kernel
theorem dX12_readCond_34 : decode cX12_readCond 34 = .ok (.goto (-25), 3) := by decide +kernel
theorem dX12_readCond_37 : decode cX12_readCond 37 = .ok (.iconst 1, 1) := by decide +kernel
theorem dX12_readCond_38 : decode cX12_readCond 38 = .ok (.ireturn, 1) := by decide +kernel
theorem dX12_readLawLine_0 : decode cX12_readLawLine 0 = .ok (.sipush 1183, 3) := by decide +kernel
theorem dX12_readLawLine_3 : decode cX12_readLawLine 3 = .ok (.iconst 4, 1) := by decide +kernel
theorem dX12_readLawLine_4 : decode cX12_readLawLine 4 = .ok (.iload_n 1, 1) := by decide +kernel
theorem dX12_readLawLine_5 : decode cX12_readLawLine 5 = .ok (.imul, 1) := by decide +kernel
theorem dX12_readLawLine_6 : decode cX12_readLawLine 6 = .ok (.iadd, 1) := by decide +kernel
theorem dX12_readLawLine_7 : decode cX12_readLawLine 7 = .ok (.istore_n 2, 1) := by decide +kernel
theorem dX12_readLawLine_8 : decode cX12_readLawLine 8 = .ok (.aload_n 0, 1) := by decide +kernel
theorem dX12_readLawLine_9 : decode cX12_readLawLine 9 = .ok (.getfield 13, 3) := by decide +kernel
theorem dX12_readLawLine_12 : decode cX12_readLawLine 12 = .ok (.iload_n 2, 1) := by decide +kernel
theorem dX12_readLawLine_13 : decode cX12_readLawLine 13 = .ok (.aload_n 0, 1) := by decide +kernel
theorem dX12_readLawLine_14 : decode cX12_readLawLine 14 = .ok (.ldc 224, 2) := by decide +kernel
theorem dX12_readLawLine_16 : decode cX12_readLawLine 16 = .ok (.invokevirtual 112, 3) := by decide +kernel
theorem dX12_readLawLine_19 : decode cX12_readLawLine 19 = .ok (.ifCond .eq 7, 3) := by decide +kernel
theorem dX12_readLawLine_22 : decode cX12_readLawLine 22 = .ok (.iconst 0, 1) := by decide +kernel
theorem dX12_readLawLine_23 : decode cX12_readLawLine 23 = .ok (.goto 30, 3) := by decide +kernel
theorem dX12_readLawLine_26 : decode cX12_readLawLine 26 = .ok (.aload_n 0, 1) := by decide +kernel
theorem dX12_readLawLine_27 : decode cX12_readLawLine 27 = .ok (.ldc 126, 2) := by decide +kernel
theorem dX12_readLawLine_29 : decode cX12_readLawLine 29 = .ok (.invokevirtual 112, 3) := by decide +kernel
theorem dX12_readLawLine_32 : decode cX12_readLawLine 32 = .ok (.ifCond .eq 7, 3) := by decide +kernel
theorem dX12_readLawLine_35 : decode cX12_readLawLine 35 = .ok (.iconst 1, 1) := by decide +kernel
theorem dX12_readLawLine_36 : decode cX12_readLawLine 36 = .ok (.goto 17, 3) := by decide +kernel
theorem dX12_readLawLine_39 : decode cX12_readLawLine 39 = .ok (.aload_n 0, 1) := by decide +kernel
theorem dX12_readLawLine_40 : decode cX12_readLawLine 40 = .ok (.ldc 226, 2) := by decide +kernel
theorem dX12_readLawLine_42 : decode cX12_readLawLine 42 = .ok (.invokevirtual 112, 3) := by decide +kernel
theorem dX12_readLawLine_45 : decode cX12_readLawLine 45 = .ok (.ifCond .eq 7, 3) := by decide +kernel
theorem dX12_readLawLine_48 : decode cX12_readLawLine 48 = .ok (.iconst 2, 1) := by decide +kernel
theorem dX12_readLawLine_49 : decode cX12_readLawLine 49 = .ok (.goto 4, 3) := by decide +kernel
theorem dX12_readLawLine_52 : decode cX12_readLawLine 52 = .ok (.iconst (-1), 1) := by decide +kernel
theorem dX12_readLawLine_53 : decode cX12_readLawLine 53 = .ok (.iastore, 1) := by decide +kernel
theorem dX12_readLawLine_54 : decode cX12_readLawLine 54 = .ok (.aload_n 0, 1) := by decide +kernel
theorem dX12_readLawLine_55 : decode cX12_readLawLine 55 = .ok (.getfield 13, 3) := by decide +kernel
theorem dX12_readLawLine_58 : decode cX12_readLawLine 58 = .ok (.iload_n 2, 1) := by decide +kernel
theorem dX12_readLawLine_59 : decode cX12_readLawLine 59 = .ok (.iaload, 1) := by decide +kernel
theorem dX12_readLawLine_60 : decode cX12_readLawLine 60 = .ok (.ifCond .ge 5, 3) := by decide +kernel
theorem dX12_readLawLine_63 : decode cX12_readLawLine 63 = .ok (.iconst 0, 1) := by decide +kernel
theorem dX12_readLawLine_64 : decode cX12_readLawLine 64 = .ok (.ireturn, 1) := by decide +kernel
theorem dX12_readLawLine_65 : decode cX12_readLawLine 65 = .ok (.aload_n 0, 1) := by decide +kernel
theorem dX12_readLawLine_66 : decode cX12_readLawLine 66 = .ok (.getfield 13, 3) := by decide +kernel
theorem dX12_readLawLine_69 : decode cX12_readLawLine 69 = .ok (.iload_n 2, 1) := by decide +kernel
theorem dX12_readLawLine_70 : decode cX12_readLawLine 70 = .ok (.iconst 1, 1) := by decide +kernel
theorem dX12_readLawLine_71 : decode cX12_readLawLine 71 = .ok (.iadd, 1) := by decide +kernel
theorem dX12_readLawLine_72 : decode cX12_readLawLine 72 = .ok (.aload_n 0, 1) := by decide +kernel
theorem dX12_readLawLine_73 : decode cX12_readLawLine 73 = .ok (.getfield 13, 3) := by decide +kernel
theorem dX12_readLawLine_76 : decode cX12_readLawLine 76 = .ok (.iload_n 2, 1) := by decide +kernel
theorem dX12_readLawLine_77 : decode cX12_readLawLine 77 = .ok (.iaload, 1) := by decide +kernel
theorem dX12_readLawLine_78 : decode cX12_readLawLine 78 = .ok (.iconst 2, 1) := by decide +kernel
theorem dX12_readLawLine_79 : decode cX12_readLawLine 79 = .ok (.if_icmp .ne 7, 3) := by decide +kernel
theorem dX12_readLawLine_82 : decode cX12_readLawLine 82 = .ok (.iconst 1, 1) := by decide +kernel
theorem dX12_readLawLine_83 : decode cX12_readLawLine 83 = .ok (.goto 10, 3) := by decide +kernel
theorem dX12_readLawLine_86 : decode cX12_readLawLine 86 = .ok (.aload_n 0, 1) := by decide +kernel
theorem dX12_readLawLine_87 : decode cX12_readLawLine 87 = .ok (.iconst 0, 1) := by decide +kernel
theorem dX12_readLawLine_88 : decode cX12_readLawLine 88 = .ok (.bipush 30, 2) := by decide +kernel
theorem dX12_readLawLine_90 : decode cX12_readLawLine 90 = .ok (.invokevirtual 116, 3) := by decide +kernel
theorem dX12_readLawLine_93 : decode cX12_readLawLine 93 = .ok (.iastore, 1) := by decide +kernel
theorem dX12_readLawLine_94 : decode cX12_readLawLine 94 = .ok (.aload_n 0, 1) := by decide +kernel
theorem dX12_readLawLine_95 : decode cX12_readLawLine 95 = .ok (.getfield 13, 3) := by decide +kernel
theorem dX12_readLawLine_98 : decode cX12_readLawLine 98 = .ok (.iload_n 2, 1) := by decide +kernel
theorem dX12_readLawLine_99 : decode cX12_readLawLine 99 = .ok (.iconst 1, 1) := by decide +kernel
theorem dX12_readLawLine_100 : decode cX12_readLawLine 100 = .ok (.iadd, 1) := by decide +kernel
theorem dX12_readLawLine_101 : decode cX12_readLawLine 101 = .ok (.iaload, 1) := by decide +kernel
theorem dX12_readLawLine_102 : decode cX12_readLawLine 102 = .ok (.ifCond .ge 5, 3) := by decide +kernel
theorem dX12_readLawLine_105 : decode cX12_readLawLine 105 = .ok (.iconst 0, 1) := by decide +kernel
theorem dX12_readLawLine_106 : decode cX12_readLawLine 106 = .ok (.ireturn, 1) := by decide +kernel
theorem dX12_readLawLine_107 : decode cX12_readLawLine 107 = .ok (.aload_n 0, 1) := by decide +kernel
theorem dX12_readLawLine_108 : decode cX12_readLawLine 108 = .ok (.getfield 13, 3) := by decide +kernel
theorem dX12_readLawLine_111 : decode cX12_readLawLine 111 = .ok (.iload_n 2, 1) := by decide +kernel
theorem dX12_readLawLine_112 : decode cX12_readLawLine 112 = .ok (.iconst 2, 1) := by decide +kernel
theorem dX12_readLawLine_113 : decode cX12_readLawLine 113 = .ok (.iadd, 1) := by decide +kernel
theorem dX12_readLawLine_114 : decode cX12_readLawLine 114 = .ok (.aload_n 0, 1) := by decide +kernel
theorem dX12_readLawLine_115 : decode cX12_readLawLine 115 = .ok (.getfield 177, 3) := by decide +kernel
theorem dX12_readLawLine_118 : decode cX12_readLawLine 118 = .ok (.iastore, 1) := by decide +kernel
theorem dX12_readLawLine_119 : decode cX12_readLawLine 119 = .ok (.aload_n 0, 1) := by decide +kernel
theorem dX12_readLawLine_120 : decode cX12_readLawLine 120 = .ok (.iconst 0, 1) := by decide +kernel
theorem dX12_readLawLine_121 : decode cX12_readLawLine 121 = .ok (.putfield 200, 3) := by decide +kernel
theorem dX12_readLawLine_124 : decode cX12_readLawLine 124 = .ok (.aload_n 0, 1) := by decide +kernel
theorem dX12_readLawLine_125 : decode cX12_readLawLine 125 = .ok (.ldc 228, 2) := by decide +kernel
theorem dX12_readLawLine_127 : decode cX12_readLawLine 127 = .ok (.invokevirtual 128, 3) := by decide +kernel
theorem dX12_readLawLine_130 : decode cX12_readLawLine 130 = .ok (.ifCond .eq 12, 3) := by decide +kernel
theorem dX12_readLawLine_133 : decode cX12_readLawLine 133 = .ok (.aload_n 0, 1) := by decide +kernel
theorem dX12_readLawLine_134 : decode cX12_readLawLine 134 = .ok (.invokevirtual 203, 3) := by decide +kernel
theorem dX12_readLawLine_137 : decode cX12_readLawLine 137 = .ok (.ifCond .ne 5, 3) := by decide +kernel
theorem dX12_readLawLine_140 : decode cX12_readLawLine 140 = .ok (.iconst 0, 1) := by decide +kernel
theorem dX12_readLawLine_141 : decode cX12_readLawLine 141 = .ok (.ireturn, 1) := by decide +kernel
theorem dX12_readLawLine_142 : decode cX12_readLawLine 142 = .ok (.aload_n 0, 1) := by decide +kernel
theorem dX12_readLawLine_143 : decode cX12_readLawLine 143 = .ok (.getfield 13, 3) := by decide +kernel
theorem dX12_readLawLine_146 : decode cX12_readLawLine 146 = .ok (.iload_n 2, 1) := by decide +kernel
theorem dX12_readLawLine_147 : decode cX12_readLawLine 147 = .ok (.iconst 3, 1) := by decide +kernel
theorem dX12_readLawLine_148 : decode cX12_readLawLine 148 = .ok (.iadd, 1) := by decide +kernel
theorem dX12_readLawLine_149 : decode cX12_readLawLine 149 = .ok (.aload_n 0, 1) := by decide +kernel
theorem dX12_readLawLine_150 : decode cX12_readLawLine 150 = .ok (.getfield 177, 3) := by decide +kernel
theorem dX12_readLawLine_153 : decode cX12_readLawLine 153 = .ok (.iastore, 1) := by decide +kernel
theorem dX12_readLawLine_154 : decode cX12_readLawLine 154 = .ok (.iconst 1, 1) := by decide +kernel
theorem dX12_readLawLine_155 : decode cX12_readLawLine 155 = .ok (.ireturn, 1) := by decide +kernel
theorem dX12_readLine_0 : decode cX12_readLine 0 = .ok (.aload_n 0, 1) := by decide +kernel
theorem dX12_readLine_1 : decode cX12_readLine 1 = .ok (.invokevirtual 109, 3) := by decide +kernel
theorem dX12_readLine_4 : decode cX12_readLine 4 = .ok (.iload_n 2, 1) := by decide +kernel
theorem dX12_readLine_5 : decode cX12_readLine 5 = .ok (.iload_n 1, 1) := by decide +kernel
theorem dX12_readLine_6 : decode cX12_readLine 6 = .ok (.ifCond .eq 8, 3) := by decide +kernel
theorem dX12_readLine_9 : decode cX12_readLine 9 = .ok (.bipush 14, 2) := by decide +kernel
theorem dX12_readLine_11 : decode cX12_readLine 11 = .ok (.goto 5, 3) := by decide +kernel
theorem dX12_readLine_14 : decode cX12_readLine 14 = .ok (.bipush 12, 2) := by decide +kernel
theorem dX12_readLine_16 : decode cX12_readLine 16 = .ok (.if_icmp .ge 29, 3) := by decide +kernel
theorem dX12_readLine_19 : decode cX12_readLine 19 = .ok (.iload_n 1, 1) := by decide +kernel
theorem dX12_readLine_20 : decode cX12_readLine 20 = .ok (.ifCond .eq 13, 3) := by decide +kernel
theorem dX12_readLine_23 : decode cX12_readLine 23 = .ok (.aload_n 0, 1) := by decide +kernel
theorem dX12_readLine_24 : decode cX12_readLine 24 = .ok (.invokevirtual 230, 3) := by decide +kernel
theorem dX12_readLine_27 : decode cX12_readLine 27 = .ok (.ifCond .eq 18, 3) := by decide +kernel
theorem dX12_readLine_30 : decode cX12_readLine 30 = .ok (.goto 11, 3) := by decide +kernel
theorem dX12_readLine_33 : decode cX12_readLine 33 = .ok (.aload_n 0, 1) := by decide +kernel
theorem dX12_readLine_34 : decode cX12_readLine 34 = .ok (.iload_n 2, 1) := by decide +kernel
theorem dX12_readLine_35 : decode cX12_readLine 35 = .ok (.invokevirtual 233, 3) := by decide +kernel
theorem dX12_readLine_38 : decode cX12_readLine 38 = .ok (.ifCond .eq 7, 3) := by decide +kernel
theorem dX12_readLine_41 : decode cX12_readLine 41 = .ok (.iconst 1, 1) := by decide +kernel
theorem dX12_readLine_42 : decode cX12_readLine 42 = .ok (.goto 4, 3) := by decide +kernel
theorem dX12_readLine_45 : decode cX12_readLine 45 = .ok (.iconst 0, 1) := by decide +kernel
theorem dX12_readLine_46 : decode cX12_readLine 46 = .ok (.ireturn, 1) := by decide +kernel
theorem dX12_readAll_0 : decode cX12_readAll 0 = .ok (.aload_n 0, 1) := by decide +kernel
theorem dX12_readAll_1 : decode cX12_readAll 1 = .ok (.invokevirtual 236, 3) := by decide +kernel
theorem dX12_readAll_4 : decode cX12_readAll 4 = .ok (.aload_n 0, 1) := by decide +kernel
theorem dX12_readAll_5 : decode cX12_readAll 5 = .ok (.iconst 0, 1) := by decide +kernel
theorem dX12_readAll_6 : decode cX12_readAll 6 = .ok (.putfield 177, 3) := by decide +kernel
theorem dX12_readAll_9 : decode cX12_readAll 9 = .ok (.aload_n 0, 1) := by decide +kernel
theorem dX12_readAll_10 : decode cX12_readAll 10 = .ok (.invokevirtual 97, 3) := by decide +kernel
theorem dX12_readAll_13 : decode cX12_readAll 13 = .ok (.aload_n 0, 1) := by decide +kernel
theorem dX12_readAll_14 : decode cX12_readAll 14 = .ok (.getfield 85, 3) := by decide +kernel
theorem dX12_readAll_17 : decode cX12_readAll 17 = .ok (.aload_n 0, 1) := by decide +kernel
theorem dX12_readAll_18 : decode cX12_readAll 18 = .ok (.getfield 88, 3) := by decide +kernel
theorem dX12_readAll_21 : decode cX12_readAll 21 = .ok (.if_icmp .ne 5, 3) := by decide +kernel
theorem dX12_readAll_24 : decode cX12_readAll 24 = .ok (.iconst 0, 1) := by decide +kernel
theorem dX12_readAll_25 : decode cX12_readAll 25 = .ok (.ireturn, 1) := by decide +kernel
theorem dX12_readAll_26 : decode cX12_readAll 26 = .ok (.iconst 0, 1) := by decide +kernel
theorem dX12_readAll_27 : decode cX12_readAll 27 = .ok (.istore_n 2, 1) := by decide +kernel
theorem dX12_readAll_28 : decode cX12_readAll 28 = .ok (.aload_n 0, 1) := by decide +kernel
theorem dX12_readAll_29 : decode cX12_readAll 29 = .ok (.iload_n 1, 1) := by decide +kernel
theorem dX12_readAll_30 : decode cX12_readAll 30 = .ok (.iload_n 2, 1) := by decide +kernel
theorem dX12_readAll_31 : decode cX12_readAll 31 = .ok (.invokevirtual 239, 3) := by decide +kernel
theorem dX12_readAll_34 : decode cX12_readAll 34 = .ok (.ifCond .ne 5, 3) := by decide +kernel
theorem dX12_readAll_37 : decode cX12_readAll 37 = .ok (.iconst (-1), 1) := by decide +kernel
theorem dX12_readAll_38 : decode cX12_readAll 38 = .ok (.ireturn, 1) := by decide +kernel
theorem dX12_readAll_39 : decode cX12_readAll 39 = .ok (.aload_n 0, 1) := by decide +kernel
theorem dX12_readAll_40 : decode cX12_readAll 40 = .ok (.invokevirtual 97, 3) := by decide +kernel
theorem dX12_readAll_43 : decode cX12_readAll 43 = .ok (.aload_n 0, 1) := by decide +kernel
theorem dX12_readAll_44 : decode cX12_readAll 44 = .ok (.getfield 85, 3) := by decide +kernel
theorem dX12_readAll_47 : decode cX12_readAll 47 = .ok (.aload_n 0, 1) := by decide +kernel
theorem dX12_readAll_48 : decode cX12_readAll 48 = .ok (.getfield 88, 3) := by decide +kernel
theorem dX12_readAll_51 : decode cX12_readAll 51 = .ok (.if_icmp .ne 7, 3) := by decide +kernel
theorem dX12_readAll_54 : decode cX12_readAll 54 = .ok (.iload_n 2, 1) := by decide +kernel
theorem dX12_readAll_55 : decode cX12_readAll 55 = .ok (.iconst 1, 1) := by decide +kernel
theorem dX12_readAll_56 : decode cX12_readAll 56 = .ok (.iadd, 1) := by decide +kernel
theorem dX12_readAll_57 : decode cX12_readAll 57 = .ok (.ireturn, 1) := by decide +kernel
theorem dX12_readAll_58 : decode cX12_readAll 58 = .ok (.aload_n 0, 1) := by decide +kernel
theorem dX12_readAll_59 : decode cX12_readAll 59 = .ok (.bipush 59, 2) := by decide +kernel
theorem dX12_readAll_61 : decode cX12_readAll 61 = .ok (.bipush 59, 2) := by decide +kernel
theorem dX12_readAll_63 : decode cX12_readAll 63 = .ok (.invokevirtual 91, 3) := by decide +kernel
theorem dX12_readAll_66 : decode cX12_readAll 66 = .ok (.ifCond .ne 5, 3) := by decide +kernel
theorem dX12_readAll_69 : decode cX12_readAll 69 = .ok (.iconst (-1), 1) := by decide +kernel
theorem dX12_readAll_70 : decode cX12_readAll 70 = .ok (.ireturn, 1) := by decide +kernel
theorem dX12_readAll_71 : decode cX12_readAll 71 = .ok (.aload_n 0, 1) := by decide +kernel
theorem dX12_readAll_72 : decode cX12_readAll 72 = .ok (.dup, 1) := by decide +kernel
theorem dX12_readAll_73 : decode cX12_readAll 73 = .ok (.getfield 85, 3) := by decide +kernel
theorem dX12_readAll_76 : decode cX12_readAll 76 = .ok (.iconst 1, 1) := by decide +kernel
theorem dX12_readAll_77 : decode cX12_readAll 77 = .ok (.iadd, 1) := by decide +kernel
theorem dX12_readAll_78 : decode cX12_readAll 78 = .ok (.putfield 85, 3) := by decide +kernel
theorem dX12_readAll_81 : decode cX12_readAll 81 = .ok (.iinc 2 1, 3) := by decide +kernel
theorem dX12_readAll_84 : decode cX12_readAll 84 = .ok (.goto (-56), 3) := by decide +kernel
theorem dX12_sky_0 : decode cX12_sky 0 = .ok (.iconst 0, 1) := by decide +kernel
theorem dX12_sky_1 : decode cX12_sky 1 = .ok (.istore_n 1, 1) := by decide +kernel
theorem dX12_sky_2 : decode cX12_sky 2 = .ok (.iload_n 1, 1) := by decide +kernel
theorem dX12_sky_3 : decode cX12_sky 3 = .ok (.sipush 1182, 3) := by decide +kernel
theorem dX12_sky_6 : decode cX12_sky 6 = .ok (.if_icmp .ge 21, 3) := by decide +kernel
theorem dX12_sky_9 : decode cX12_sky 9 = .ok (.aload_n 0, 1) := by decide +kernel
theorem dX12_sky_10 : decode cX12_sky 10 = .ok (.getfield 20, 3) := by decide +kernel
theorem dX12_sky_13 : decode cX12_sky 13 = .ok (.iload_n 1, 1) := by decide +kernel
theorem dX12_sky_14 : decode cX12_sky 14 = .ok (.aload_n 0, 1) := by decide +kernel
theorem dX12_sky_15 : decode cX12_sky 15 = .ok (.getfield 13, 3) := by decide +kernel
theorem dX12_sky_18 : decode cX12_sky 18 = .ok (.iload_n 1, 1) := by decide +kernel
theorem dX12_sky_19 : decode cX12_sky 19 = .ok (.iaload, 1) := by decide +kernel
theorem dX12_sky_20 : decode cX12_sky 20 = .ok (.iastore, 1) := by decide +kernel
theorem dX12_sky_21 : decode cX12_sky 21 = .ok (.iinc 1 1, 3) := by decide +kernel
theorem dX12_sky_24 : decode cX12_sky 24 = .ok (.goto (-22), 3) := by decide +kernel
theorem dX12_sky_27 : decode cX12_sky 27 = .ok (.aload_n 0, 1) := by decide +kernel
theorem dX12_sky_28 : decode cX12_sky 28 = .ok (.iconst 1, 1) := by decide +kernel
theorem dX12_sky_29 : decode cX12_sky 29 = .ok (.invokevirtual 243, 3) := by decide +kernel
theorem dX12_sky_32 : decode cX12_sky 32 = .ok (.istore_n 1, 1) := by decide +kernel
theorem dX12_sky_33 : decode cX12_sky 33 = .ok (.aload_n 0, 1) := by decide +kernel
theorem dX12_sky_34 : decode cX12_sky 34 = .ok (.iload_n 1, 1) := by decide +kernel
theorem dX12_sky_35 : decode cX12_sky 35 = .ok (.ifCond .ge 10, 3) := by decide +kernel
theorem dX12_sky_38 : decode cX12_sky 38 = .ok (.aload_n 0, 1) := by decide +kernel
theorem dX12_sky_39 : decode cX12_sky 39 = .ok (.getfield 94, 3) := by decide +kernel
theorem dX12_sky_42 : decode cX12_sky 42 = .ok (.goto 4, 3) := by decide +kernel
theorem dX12_sky_45 : decode cX12_sky 45 = .ok (.iconst (-1), 1) := by decide +kernel
theorem dX12_sky_46 : decode cX12_sky 46 = .ok (.putfield 33, 3) := by decide +kernel
theorem dX12_sky_49 : decode cX12_sky 49 = .ok (.aload_n 0, 1) := by decide +kernel
theorem dX12_sky_50 : decode cX12_sky 50 = .ok (.iload_n 1, 1) := by decide +kernel
theorem dX12_sky_51 : decode cX12_sky 51 = .ok (.ifCond .ge 7, 3) := by decide +kernel
theorem dX12_sky_54 : decode cX12_sky 54 = .ok (.iconst 1, 1) := by decide +kernel
theorem dX12_sky_55 : decode cX12_sky 55 = .ok (.goto 4, 3) := by decide +kernel
theorem dX12_sky_58 : decode cX12_sky 58 = .ok (.iconst 0, 1) := by decide +kernel
theorem dX12_sky_59 : decode cX12_sky 59 = .ok (.iconst 1, 1) := by decide +kernel
theorem dX12_sky_60 : decode cX12_sky 60 = .ok (.invokevirtual 247, 3) := by decide +kernel
theorem dX12_sky_63 : decode cX12_sky 63 = .ok (.ifCond .ne 27, 3) := by decide +kernel
theorem dX12_sky_66 : decode cX12_sky 66 = .ok (.aload_n 0, 1) := by decide +kernel
theorem dX12_sky_67 : decode cX12_sky 67 = .ok (.aload_n 0, 1) := by decide +kernel
theorem dX12_sky_68 : decode cX12_sky 68 = .ok (.getfield 13, 3) := by decide +kernel
theorem dX12_sky_71 : decode cX12_sky 71 = .ok (.iconst 1, 1) := by decide +kernel
theorem dX12_sky_72 : decode cX12_sky 72 = .ok (.iaload, 1) := by decide +kernel
theorem dX12_sky_73 : decode cX12_sky 73 = .ok (.bipush 12, 2) := by decide +kernel
theorem dX12_sky_75 : decode cX12_sky 75 = .ok (.if_icmp .ne 7, 3) := by decide +kernel
theorem dX12_sky_78 : decode cX12_sky 78 = .ok (.iconst 1, 1) := by decide +kernel
theorem dX12_sky_79 : decode cX12_sky 79 = .ok (.goto 4, 3) := by decide +kernel
theorem dX12_sky_82 : decode cX12_sky 82 = .ok (.iconst 0, 1) := by decide +kernel
theorem dX12_sky_83 : decode cX12_sky 83 = .ok (.iconst 2, 1) := by decide +kernel
theorem dX12_sky_84 : decode cX12_sky 84 = .ok (.invokevirtual 247, 3) := by decide +kernel
theorem dX12_sky_87 : decode cX12_sky 87 = .ok (.ifCond .eq 32, 3) := by decide +kernel
theorem dX12_sky_90 : decode cX12_sky 90 = .ok (.iconst 0, 1) := by decide +kernel
theorem dX12_sky_91 : decode cX12_sky 91 = .ok (.istore_n 2, 1) := by decide +kernel
theorem dX12_sky_92 : decode cX12_sky 92 = .ok (.iload_n 2, 1) := by decide +kernel
theorem dX12_sky_93 : decode cX12_sky 93 = .ok (.sipush 1182, 3) := by decide +kernel
theorem dX12_sky_96 : decode cX12_sky 96 = .ok (.if_icmp .ge 21, 3) := by decide +kernel
theorem dX12_sky_99 : decode cX12_sky 99 = .ok (.aload_n 0, 1) := by decide +kernel
theorem dX12_sky_100 : decode cX12_sky 100 = .ok (.getfield 13, 3) := by decide +kernel
theorem dX12_sky_103 : decode cX12_sky 103 = .ok (.iload_n 2, 1) := by decide +kernel
theorem dX12_sky_104 : decode cX12_sky 104 = .ok (.aload_n 0, 1) := by decide +kernel
theorem dX12_sky_105 : decode cX12_sky 105 = .ok (.getfield 20, 3) := by decide +kernel
theorem dX12_sky_108 : decode cX12_sky 108 = .ok (.iload_n 2, 1) := by decide +kernel
theorem dX12_sky_109 : decode cX12_sky 109 = .ok (.iaload, 1) := by decide +kernel
theorem dX12_sky_110 : decode cX12_sky 110 = .ok (.iastore, 1) := by decide +kernel
theorem dX12_sky_111 : decode cX12_sky 111 = .ok (.iinc 2 1, 3) := by decide +kernel
theorem dX12_sky_114 : decode cX12_sky 114 = .ok (.goto (-22), 3) := by decide +kernel
theorem dX12_sky_117 : decode cX12_sky 117 = .ok (.iconst 0, 1) := by decide +kernel
theorem dX12_sky_118 : decode cX12_sky 118 = .ok (.ireturn, 1) := by decide +kernel
theorem dX12_sky_119 : decode cX12_sky 119 = .ok (.aload_n 0, 1) := by decide +kernel
theorem dX12_sky_120 : decode cX12_sky 120 = .ok (.getfield 13, 3) := by decide +kernel
theorem dX12_sky_123 : decode cX12_sky 123 = .ok (.iconst 1, 1) := by decide +kernel
theorem dX12_sky_124 : decode cX12_sky 124 = .ok (.dup2, 1) := by decide +kernel
theorem dX12_sky_125 : decode cX12_sky 125 = .ok (.iaload, 1) := by decide +kernel
theorem dX12_sky_126 : decode cX12_sky 126 = .ok (.iconst 1, 1) := by decide +kernel
theorem dX12_sky_127 : decode cX12_sky 127 = .ok (.iadd, 1) := by decide +kernel
theorem dX12_sky_128 : decode cX12_sky 128 = .ok (.iastore, 1) := by decide +kernel
theorem dX12_sky_129 : decode cX12_sky 129 = .ok (.aload_n 0, 1) := by decide +kernel
theorem dX12_sky_130 : decode cX12_sky 130 = .ok (.iconst 0, 1) := by decide +kernel
theorem dX12_sky_131 : decode cX12_sky 131 = .ok (.putfield 58, 3) := by decide +kernel
theorem dX12_sky_134 : decode cX12_sky 134 = .ok (.aload_n 0, 1) := by decide +kernel
theorem dX12_sky_135 : decode cX12_sky 135 = .ok (.getfield 13, 3) := by decide +kernel
theorem dX12_sky_138 : decode cX12_sky 138 = .ok (.iconst 1, 1) := by decide +kernel
theorem dX12_sky_139 : decode cX12_sky 139 = .ok (.iaload, 1) := by decide +kernel
theorem dX12_sky_140 : decode cX12_sky 140 = .ok (.ireturn, 1) := by decide +kernel
theorem dX12_law_0 : decode cX12_law 0 = .ok (.aload_n 0, 1) := by decide +kernel
theorem dX12_law_1 : decode cX12_law 1 = .ok (.iconst 0, 1) := by decide +kernel
theorem dX12_law_2 : decode cX12_law 2 = .ok (.invokevirtual 243, 3) := by decide +kernel
theorem dX12_law_5 : decode cX12_law 5 = .ok (.istore_n 1, 1) := by decide +kernel
theorem dX12_law_6 : decode cX12_law 6 = .ok (.aload_n 0, 1) := by decide +kernel
theorem dX12_law_7 : decode cX12_law 7 = .ok (.iload_n 1, 1) := by decide +kernel
theorem dX12_law_8 : decode cX12_law 8 = .ok (.ifCond .ge 10, 3) := by decide +kernel
theorem dX12_law_11 : decode cX12_law 11 = .ok (.aload_n 0, 1) := by decide +kernel
theorem dX12_law_12 : decode cX12_law 12 = .ok (.getfield 94, 3) := by decide +kernel
theorem dX12_law_15 : decode cX12_law 15 = .ok (.goto 4, 3) := by decide +kernel
theorem dX12_law_18 : decode cX12_law 18 = .ok (.iconst (-1), 1) := by decide +kernel
theorem dX12_law_19 : decode cX12_law 19 = .ok (.putfield 33, 3) := by decide +kernel
theorem dX12_law_22 : decode cX12_law 22 = .ok (.aload_n 0, 1) := by decide +kernel
theorem dX12_law_23 : decode cX12_law 23 = .ok (.iload_n 1, 1) := by decide +kernel
theorem dX12_law_24 : decode cX12_law 24 = .ok (.ifCond .ge 7, 3) := by decide +kernel
theorem dX12_law_27 : decode cX12_law 27 = .ok (.iconst 1, 1) := by decide +kernel
theorem dX12_law_28 : decode cX12_law 28 = .ok (.goto 4, 3) := by decide +kernel
theorem dX12_law_31 : decode cX12_law 31 = .ok (.iconst 0, 1) := by decide +kernel
theorem dX12_law_32 : decode cX12_law 32 = .ok (.iconst 1, 1) := by decide +kernel
theorem dX12_law_33 : decode cX12_law 33 = .ok (.invokevirtual 247, 3) := by decide +kernel
theorem dX12_law_36 : decode cX12_law 36 = .ok (.ifCond .eq 5, 3) := by decide +kernel
theorem dX12_law_39 : decode cX12_law 39 = .ok (.iconst 0, 1) := by decide +kernel
theorem dX12_law_40 : decode cX12_law 40 = .ok (.ireturn, 1) := by decide +kernel
theorem dX12_law_41 : decode cX12_law 41 = .ok (.aload_n 0, 1) := by decide +kernel
theorem dX12_law_42 : decode cX12_law 42 = .ok (.getfield 13, 3) := by decide +kernel
theorem dX12_law_45 : decode cX12_law 45 = .ok (.sipush 1182, 3) := by decide +kernel
theorem dX12_law_48 : decode cX12_law 48 = .ok (.iload_n 1, 1) := by decide +kernel
theorem dX12_law_49 : decode cX12_law 49 = .ok (.iastore, 1) := by decide +kernel
theorem dX12_law_50 : decode cX12_law 50 = .ok (.iconst 0, 1) := by decide +kernel
theorem dX12_law_51 : decode cX12_law 51 = .ok (.istore_n 2, 1) := by decide +kernel
theorem dX12_law_52 : decode cX12_law 52 = .ok (.iload_n 2, 1) := by decide +kernel
theorem dX12_law_53 : decode cX12_law 53 = .ok (.sipush 849, 3) := by decide +kernel
theorem dX12_law_56 : decode cX12_law 56 = .ok (.if_icmp .ge 29, 3) := by decide +kernel
theorem dX12_law_59 : decode cX12_law 59 = .ok (.aload_n 0, 1) := by decide +kernel
theorem dX12_law_60 : decode cX12_law 60 = .ok (.getfield 13, 3) := by decide +kernel
theorem dX12_law_63 : decode cX12_law 63 = .ok (.sipush 333, 3) := by decide +kernel
theorem dX12_law_66 : decode cX12_law 66 = .ok (.iload_n 2, 1) := by decide +kernel
theorem dX12_law_67 : decode cX12_law 67 = .ok (.iadd, 1) := by decide +kernel
theorem dX12_law_68 : decode cX12_law 68 = .ok (.aload_n 0, 1) := by decide +kernel
theorem dX12_law_69 : decode cX12_law 69 = .ok (.getfield 13, 3) := by decide +kernel
theorem dX12_law_72 : decode cX12_law 72 = .ok (.sipush 1182, 3) := by decide +kernel
theorem dX12_law_75 : decode cX12_law 75 = .ok (.iload_n 2, 1) := by decide +kernel
theorem dX12_law_76 : decode cX12_law 76 = .ok (.iadd, 1) := by decide +kernel
theorem dX12_law_77 : decode cX12_law 77 = .ok (.iaload, 1) := by decide +kernel
theorem dX12_law_78 : decode cX12_law 78 = .ok (.iastore, 1) := by decide +kernel
theorem dX12_law_79 : decode cX12_law 79 = .ok (.iinc 2 1, 3) := by decide +kernel
theorem dX12_law_82 : decode cX12_law 82 = .ok (.goto (-30), 3) := by decide +kernel
theorem dX12_law_85 : decode cX12_law 85 = .ok (.aload_n 0, 1) := by decide +kernel
theorem dX12_law_86 : decode cX12_law 86 = .ok (.getfield 13, 3) := by decide +kernel
theorem dX12_law_89 : decode cX12_law 89 = .ok (.iconst 2, 1) := by decide +kernel
theorem dX12_law_90 : decode cX12_law 90 = .ok (.iconst 1, 1) := by decide +kernel
theorem dX12_law_91 : decode cX12_law 91 = .ok (.iastore, 1) := by decide +kernel
theorem dX12_law_92 : decode cX12_law 92 = .ok (.aload_n 0, 1) := by decide +kernel
theorem dX12_law_93 : decode cX12_law 93 = .ok (.iconst 0, 1) := by decide +kernel
theorem dX12_law_94 : decode cX12_law 94 = .ok (.putfield 58, 3) := by decide +kernel
theorem dX12_law_97 : decode cX12_law 97 = .ok (.iload_n 1, 1) := by decide +kernel
theorem dX12_law_98 : decode cX12_law 98 = .ok (.ireturn, 1) := by decide +kernel
theorem dX12_gapOf_0 : decode cX12_gapOf 0 = .ok (.bipush 16, 2) := by decide +kernel
theorem dX12_gapOf_2 : decode cX12_gapOf 2 = .ok (.istore_n 2, 1) := by decide +kernel
theorem dX12_gapOf_3 : decode cX12_gapOf 3 = .ok (.iconst 0, 1) := by decide +kernel
theorem dX12_gapOf_4 : decode cX12_gapOf 4 = .ok (.istore_n 3, 1) := by decide +kernel
theorem dX12_gapOf_5 : decode cX12_gapOf 5 = .ok (.iload_n 3, 1) := by decide +kernel
theorem dX12_gapOf_6 : decode cX12_gapOf 6 = .ok (.bipush 16, 2) := by decide +kernel
theorem dX12_gapOf_8 : decode cX12_gapOf 8 = .ok (.if_icmp .ge 40, 3) := by decide +kernel
theorem dX12_gapOf_11 : decode cX12_gapOf 11 = .ok (.iload_n 3, 1) := by decide +kernel
theorem dX12_gapOf_12 : decode cX12_gapOf 12 = .ok (.iload_n 1, 1) := by decide +kernel
theorem dX12_gapOf_13 : decode cX12_gapOf 13 = .ok (.if_icmp .eq 27, 3) := by decide +kernel
theorem dX12_gapOf_16 : decode cX12_gapOf 16 = .ok (.aload_n 0, 1) := by decide +kernel
theorem dX12_gapOf_17 : decode cX12_gapOf 17 = .ok (.getfield 250, 3) := by decide +kernel
theorem dX12_gapOf_20 : decode cX12_gapOf 20 = .ok (.iload_n 3, 1) := by decide +kernel
theorem dX12_gapOf_21 : decode cX12_gapOf 21 = .ok (.invokestatic 69, 3) := by decide +kernel
theorem dX12_gapOf_24 : decode cX12_gapOf 24 = .ok (.ifCond .eq 16, 3) := by decide +kernel
theorem dX12_gapOf_27 : decode cX12_gapOf 27 = .ok (.iload_n 2, 1) := by decide +kernel
theorem dX12_gapOf_28 : decode cX12_gapOf 28 = .ok (.iload_n 1, 1) := by decide +kernel
theorem dX12_gapOf_29 : decode cX12_gapOf 29 = .ok (.iload_n 3, 1) := by decide +kernel
theorem dX12_gapOf_30 : decode cX12_gapOf 30 = .ok (.isub, 1) := by decide +kernel
theorem dX12_gapOf_31 : decode cX12_gapOf 31 = .ok (.invokestatic 253, 3) := by decide +kernel
theorem dX12_gapOf_34 : decode cX12_gapOf 34 = .ok (.invokestatic 259, 3) := by decide +kernel
theorem dX12_gapOf_37 : decode cX12_gapOf 37 = .ok (.goto 4, 3) := by decide +kernel
theorem dX12_gapOf_40 : decode cX12_gapOf 40 = .ok (.iload_n 2, 1) := by decide +kernel
theorem dX12_gapOf_41 : decode cX12_gapOf 41 = .ok (.istore_n 2, 1) := by decide +kernel
theorem dX12_gapOf_42 : decode cX12_gapOf 42 = .ok (.iinc 3 1, 3) := by decide +kernel
theorem dX12_gapOf_45 : decode cX12_gapOf 45 = .ok (.goto (-40), 3) := by decide +kernel
theorem dX12_gapOf_48 : decode cX12_gapOf 48 = .ok (.iload_n 2, 1) := by decide +kernel
theorem dX12_gapOf_49 : decode cX12_gapOf 49 = .ok (.ireturn, 1) := by decide +kernel
theorem dX12_rustOf_0 : decode cX12_rustOf 0 = .ok (.aload_n 0, 1) := by decide +kernel
theorem dX12_rustOf_1 : decode cX12_rustOf 1 = .ok (.iload_n 1, 1) := by decide +kernel
theorem dX12_rustOf_2 : decode cX12_rustOf 2 = .ok (.invokevirtual 122, 3) := by decide +kernel
theorem dX12_rustOf_5 : decode cX12_rustOf 5 = .ok (.ifCond .eq 26, 3) := by decide +kernel
theorem dX12_rustOf_8 : decode cX12_rustOf 8 = .ok (.aload_n 0, 1) := by decide +kernel
theorem dX12_rustOf_9 : decode cX12_rustOf 9 = .ok (.getfield 250, 3) := by decide +kernel
theorem dX12_rustOf_12 : decode cX12_rustOf 12 = .ok (.iload_n 1, 1) := by decide +kernel
theorem dX12_rustOf_13 : decode cX12_rustOf 13 = .ok (.invokestatic 69, 3) := by decide +kernel
theorem dX12_rustOf_16 : decode cX12_rustOf 16 = .ok (.ifCond .eq 15, 3) := by decide +kernel
theorem dX12_rustOf_19 : decode cX12_rustOf 19 = .ok (.aload_n 0, 1) := by decide +kernel
theorem dX12_rustOf_20 : decode cX12_rustOf 20 = .ok (.getfield 13, 3) := by decide +kernel
theorem dX12_rustOf_23 : decode cX12_rustOf 23 = .ok (.bipush 62, 2) := by decide +kernel
theorem dX12_rustOf_25 : decode cX12_rustOf 25 = .ok (.iload_n 1, 1) := by decide +kernel
theorem dX12_rustOf_26 : decode cX12_rustOf 26 = .ok (.iadd, 1) := by decide +kernel
theorem dX12_rustOf_27 : decode cX12_rustOf 27 = .ok (.iaload, 1) := by decide +kernel
theorem dX12_rustOf_28 : decode cX12_rustOf 28 = .ok (.goto 4, 3) := by decide +kernel
theorem dX12_rustOf_31 : decode cX12_rustOf 31 = .ok (.iconst 0, 1) := by decide +kernel
theorem dX12_rustOf_32 : decode cX12_rustOf 32 = .ok (.ireturn, 1) := by decide +kernel
theorem dX12_factOf_0 : decode cX12_factOf 0 = .ok (.iload_n 1, 1) := by decide +kernel
theorem dX12_factOf_1 : decode cX12_factOf 1 = .ok (.tableswitch 119 0 7 #[47, 49, 59, 65, 75, 81, 88, 105], 47) := by decide +kernel
theorem dX12_factOf_48 : decode cX12_factOf 48 = .ok (.iload_n 3, 1) := by decide +kernel
theorem dX12_factOf_49 : decode cX12_factOf 49 = .ok (.ireturn, 1) := by decide +kernel
theorem dX12_factOf_50 : decode cX12_factOf 50 = .ok (.aload_n 0, 1) := by decide +kernel
theorem dX12_factOf_51 : decode cX12_factOf 51 = .ok (.getfield 13, 3) := by decide +kernel
theorem dX12_factOf_54 : decode cX12_factOf 54 = .ok (.bipush 46, 2) := by decide +kernel
theorem dX12_factOf_56 : decode cX12_factOf 56 = .ok (.iload_n 3, 1) := by decide +kernel
theorem dX12_factOf_57 : decode cX12_factOf 57 = .ok (.iadd, 1) := by decide +kernel
theorem dX12_factOf_58 : decode cX12_factOf 58 = .ok (.iaload, 1) := by decide +kernel
theorem dX12_factOf_59 : decode cX12_factOf 59 = .ok (.ireturn, 1) := by decide +kernel
theorem dX12_factOf_60 : decode cX12_factOf 60 = .ok (.aload_n 0, 1) := by decide +kernel
theorem dX12_factOf_61 : decode cX12_factOf 61 = .ok (.iload_n 3, 1) := by decide +kernel
theorem dX12_factOf_62 : decode cX12_factOf 62 = .ok (.invokevirtual 262, 3) := by decide +kernel
theorem dX12_factOf_65 : decode cX12_factOf 65 = .ok (.ireturn, 1) := by decide +kernel
theorem dX12_factOf_66 : decode cX12_factOf 66 = .ok (.aload_n 0, 1) := by decide +kernel
theorem dX12_factOf_67 : decode cX12_factOf 67 = .ok (.getfield 13, 3) := by decide +kernel
theorem dX12_factOf_70 : decode cX12_factOf 70 = .ok (.bipush 14, 2) := by decide +kernel
theorem dX12_factOf_72 : decode cX12_factOf 72 = .ok (.iload_n 3, 1) := by decide +kernel
theorem dX12_factOf_73 : decode cX12_factOf 73 = .ok (.iadd, 1) := by decide +kernel
theorem dX12_factOf_74 : decode cX12_factOf 74 = .ok (.iaload, 1) := by decide +kernel
theorem dX12_factOf_75 : decode cX12_factOf 75 = .ok (.ireturn, 1) := by decide +kernel
theorem dX12_factOf_76 : decode cX12_factOf 76 = .ok (.aload_n 0, 1) := by decide +kernel
theorem dX12_factOf_77 : decode cX12_factOf 77 = .ok (.iload_n 3, 1) := by decide +kernel
theorem dX12_factOf_78 : decode cX12_factOf 78 = .ok (.invokevirtual 265, 3) := by decide +kernel
theorem dX12_factOf_81 : decode cX12_factOf 81 = .ok (.ireturn, 1) := by decide +kernel
theorem dX12_factOf_82 : decode cX12_factOf 82 = .ok (.aload_n 0, 1) := by decide +kernel
theorem dX12_factOf_83 : decode cX12_factOf 83 = .ok (.getfield 13, 3) := by decide +kernel
theorem dX12_factOf_86 : decode cX12_factOf 86 = .ok (.iconst 3, 1) := by decide +kernel
theorem dX12_factOf_87 : decode cX12_factOf 87 = .ok (.iaload, 1) := by decide +kernel
theorem dX12_factOf_88 : decode cX12_factOf 88 = .ok (.ireturn, 1) := by decide +kernel
theorem dX12_factOf_89 : decode cX12_factOf 89 = .ok (.aload_n 0, 1) := by decide +kernel
theorem dX12_factOf_90 : decode cX12_factOf 90 = .ok (.getfield 250, 3) := by decide +kernel
theorem dX12_factOf_93 : decode cX12_factOf 93 = .ok (.iload_n 3, 1) := by decide +kernel
theorem dX12_factOf_94 : decode cX12_factOf 94 = .ok (.invokestatic 69, 3) := by decide +kernel
theorem dX12_factOf_97 : decode cX12_factOf 97 = .ok (.ifCond .eq 7, 3) := by decide +kernel
theorem dX12_factOf_100 : decode cX12_factOf 100 = .ok (.iconst 1, 1) := by decide +kernel
theorem dX12_factOf_101 : decode cX12_factOf 101 = .ok (.goto 4, 3) := by decide +kernel
theorem dX12_factOf_104 : decode cX12_factOf 104 = .ok (.iconst 0, 1) := by decide +kernel
theorem dX12_factOf_105 : decode cX12_factOf 105 = .ok (.ireturn, 1) := by decide +kernel
theorem dX12_factOf_106 : decode cX12_factOf 106 = .ok (.aload_n 0, 1) := by decide +kernel
theorem dX12_factOf_107 : decode cX12_factOf 107 = .ok (.iload_n 3, 1) := by decide +kernel
theorem dX12_factOf_108 : decode cX12_factOf 108 = .ok (.invokevirtual 268, 3) := by decide +kernel
theorem dX12_factOf_111 : decode cX12_factOf 111 = .ok (.ifCond .eq 7, 3) := by decide +kernel
theorem dX12_factOf_114 : decode cX12_factOf 114 = .ok (.iconst 1, 1) := by decide +kernel
theorem dX12_factOf_115 : decode cX12_factOf 115 = .ok (.goto 4, 3) := by decide +kernel
theorem dX12_factOf_118 : decode cX12_factOf 118 = .ok (.iconst 0, 1) := by decide +kernel
theorem dX12_factOf_119 : decode cX12_factOf 119 = .ok (.ireturn, 1) := by decide +kernel
theorem dX12_factOf_120 : decode cX12_factOf 120 = .ok (.iload_n 2, 1) := by decide +kernel
theorem dX12_factOf_121 : decode cX12_factOf 121 = .ok (.ireturn, 1) := by decide +kernel
theorem dX12_holdsLine_0 : decode cX12_holdsLine 0 = .ok (.iconst 0, 1) := by decide +kernel
theorem dX12_holdsLine_1 : decode cX12_holdsLine 1 = .ok (.istore_n 3, 1) := by decide +kernel
theorem dX12_holdsLine_2 : decode cX12_holdsLine 2 = .ok (.sipush 334, 3) := by decide +kernel
theorem dX12_holdsLine_5 : decode cX12_holdsLine 5 = .ok (.iconst 4, 1) := by decide +kernel
theorem dX12_holdsLine_6 : decode cX12_holdsLine 6 = .ok (.iload_n 1, 1) := by decide +kernel
theorem dX12_holdsLine_7 : decode cX12_holdsLine 7 = .ok (.imul, 1) := by decide +kernel
theorem dX12_holdsLine_8 : decode cX12_holdsLine 8 = .ok (.iadd, 1) := by decide +kernel
theorem dX12_holdsLine_9 : decode cX12_holdsLine 9 = .ok (.istore 4, 2) := by decide +kernel
theorem dX12_holdsLine_11 : decode cX12_holdsLine 11 = .ok (.aload_n 0, 1) := by decide +kernel
theorem dX12_holdsLine_12 : decode cX12_holdsLine 12 = .ok (.getfield 13, 3) := by decide +kernel
theorem dX12_holdsLine_15 : decode cX12_holdsLine 15 = .ok (.iload 4, 2) := by decide +kernel
theorem dX12_holdsLine_17 : decode cX12_holdsLine 17 = .ok (.iconst 2, 1) := by decide +kernel
theorem dX12_holdsLine_18 : decode cX12_holdsLine 18 = .ok (.iadd, 1) := by decide +kernel
theorem dX12_holdsLine_19 : decode cX12_holdsLine 19 = .ok (.iaload, 1) := by decide +kernel
theorem dX12_holdsLine_20 : decode cX12_holdsLine 20 = .ok (.istore 5, 2) := by decide +kernel
theorem dX12_holdsLine_22 : decode cX12_holdsLine 22 = .ok (.iload 5, 2) := by decide +kernel
theorem dX12_holdsLine_24 : decode cX12_holdsLine 24 = .ok (.aload_n 0, 1) := by decide +kernel
theorem dX12_holdsLine_25 : decode cX12_holdsLine 25 = .ok (.getfield 13, 3) := by decide +kernel
theorem dX12_holdsLine_28 : decode cX12_holdsLine 28 = .ok (.iload 4, 2) := by decide +kernel
theorem dX12_holdsLine_30 : decode cX12_holdsLine 30 = .ok (.iconst 3, 1) := by decide +kernel
theorem dX12_holdsLine_31 : decode cX12_holdsLine 31 = .ok (.iadd, 1) := by decide +kernel
theorem dX12_holdsLine_32 : decode cX12_holdsLine 32 = .ok (.iaload, 1) := by decide +kernel
theorem dX12_holdsLine_33 : decode cX12_holdsLine 33 = .ok (.if_icmp .ge 230, 3) := by decide +kernel
theorem dX12_holdsLine_36 : decode cX12_holdsLine 36 = .ok (.aload_n 0, 1) := by decide +kernel
theorem dX12_holdsLine_37 : decode cX12_holdsLine 37 = .ok (.getfield 13, 3) := by decide +kernel
theorem dX12_holdsLine_40 : decode cX12_holdsLine 40 = .ok (.sipush 382, 3) := by decide +kernel
theorem dX12_holdsLine_43 : decode cX12_holdsLine 43 = .ok (.iconst 2, 1) := by decide +kernel
theorem dX12_holdsLine_44 : decode cX12_holdsLine 44 = .ok (.iload 5, 2) := by decide +kernel
theorem dX12_holdsLine_46 : decode cX12_holdsLine 46 = .ok (.imul, 1) := by decide +kernel
theorem dX12_holdsLine_47 : decode cX12_holdsLine 47 = .ok (.iadd, 1) := by decide +kernel
theorem dX12_holdsLine_48 : decode cX12_holdsLine 48 = .ok (.iaload, 1) := by decide +kernel
theorem dX12_holdsLine_49 : decode cX12_holdsLine 49 = .ok (.istore 6, 2) := by decide +kernel
theorem dX12_holdsLine_51 : decode cX12_holdsLine 51 = .ok (.iload 6, 2) := by decide +kernel
theorem dX12_holdsLine_53 : decode cX12_holdsLine 53 = .ok (.bipush 8, 2) := by decide +kernel
theorem dX12_holdsLine_55 : decode cX12_holdsLine 55 = .ok (.if_icmp .gt 37, 3) := by decide +kernel
theorem dX12_holdsLine_58 : decode cX12_holdsLine 58 = .ok (.aload_n 0, 1) := by decide +kernel
theorem dX12_holdsLine_59 : decode cX12_holdsLine 59 = .ok (.getfield 39, 3) := by decide +kernel
theorem dX12_holdsLine_62 : decode cX12_holdsLine 62 = .ok (.iload_n 3, 1) := by decide +kernel
theorem dX12_holdsLine_63 : decode cX12_holdsLine 63 = .ok (.aload_n 0, 1) := by decide +kernel
theorem dX12_holdsLine_64 : decode cX12_holdsLine 64 = .ok (.iload 6, 2) := by decide +kernel
theorem dX12_holdsLine_66 : decode cX12_holdsLine 66 = .ok (.aload_n 0, 1) := by decide +kernel
theorem dX12_holdsLine_67 : decode cX12_holdsLine 67 = .ok (.getfield 13, 3) := by decide +kernel
theorem dX12_holdsLine_70 : decode cX12_holdsLine 70 = .ok (.sipush 382, 3) := by decide +kernel
theorem dX12_holdsLine_73 : decode cX12_holdsLine 73 = .ok (.iconst 2, 1) := by decide +kernel
theorem dX12_holdsLine_74 : decode cX12_holdsLine 74 = .ok (.iload 5, 2) := by decide +kernel
theorem dX12_holdsLine_76 : decode cX12_holdsLine 76 = .ok (.imul, 1) := by decide +kernel
theorem dX12_holdsLine_77 : decode cX12_holdsLine 77 = .ok (.iadd, 1) := by decide +kernel
theorem dX12_holdsLine_78 : decode cX12_holdsLine 78 = .ok (.iconst 1, 1) := by decide +kernel
theorem dX12_holdsLine_79 : decode cX12_holdsLine 79 = .ok (.iadd, 1) := by decide +kernel
theorem dX12_holdsLine_80 : decode cX12_holdsLine 80 = .ok (.iaload, 1) := by decide +kernel
theorem dX12_holdsLine_81 : decode cX12_holdsLine 81 = .ok (.iload_n 2, 1) := by decide +kernel
theorem dX12_holdsLine_82 : decode cX12_holdsLine 82 = .ok (.invokevirtual 271, 3) := by decide +kernel
theorem dX12_holdsLine_85 : decode cX12_holdsLine 85 = .ok (.iastore, 1) := by decide +kernel
theorem dX12_holdsLine_86 : decode cX12_holdsLine 86 = .ok (.iinc 3 1, 3) := by decide +kernel
theorem dX12_holdsLine_89 : decode cX12_holdsLine 89 = .ok (.goto 168, 3) := by decide +kernel
theorem dX12_holdsLine_92 : decode cX12_holdsLine 92 = .ok (.iload 6, 2) := by decide +kernel
theorem dX12_holdsLine_94 : decode cX12_holdsLine 94 = .ok (.bipush 12, 2) := by decide +kernel
theorem dX12_holdsLine_96 : decode cX12_holdsLine 96 = .ok (.if_icmp .ne 24, 3) := by decide +kernel
theorem dX12_holdsLine_99 : decode cX12_holdsLine 99 = .ok (.aload_n 0, 1) := by decide +kernel
theorem dX12_holdsLine_100 : decode cX12_holdsLine 100 = .ok (.getfield 39, 3) := by decide +kernel
theorem dX12_holdsLine_103 : decode cX12_holdsLine 103 = .ok (.iload_n 3, 1) := by decide +kernel
theorem dX12_holdsLine_104 : decode cX12_holdsLine 104 = .ok (.iconst 1, 1) := by decide +kernel
theorem dX12_holdsLine_105 : decode cX12_holdsLine 105 = .ok (.isub, 1) := by decide +kernel
theorem dX12_holdsLine_106 : decode cX12_holdsLine 106 = .ok (.iconst 1, 1) := by decide +kernel
theorem dX12_holdsLine_107 : decode cX12_holdsLine 107 = .ok (.aload_n 0, 1) := by decide +kernel
theorem dX12_holdsLine_108 : decode cX12_holdsLine 108 = .ok (.getfield 39, 3) := by decide +kernel
theorem dX12_holdsLine_111 : decode cX12_holdsLine 111 = .ok (.iload_n 3, 1) := by decide +kernel
theorem dX12_holdsLine_112 : decode cX12_holdsLine 112 = .ok (.iconst 1, 1) := by decide +kernel
theorem dX12_holdsLine_113 : decode cX12_holdsLine 113 = .ok (.isub, 1) := by decide +kernel
theorem dX12_holdsLine_114 : decode cX12_holdsLine 114 = .ok (.iaload, 1) := by decide +kernel
theorem dX12_holdsLine_115 : decode cX12_holdsLine 115 = .ok (.isub, 1) := by decide +kernel
theorem dX12_holdsLine_116 : decode cX12_holdsLine 116 = .ok (.iastore, 1) := by decide +kernel
theorem dX12_holdsLine_117 : decode cX12_holdsLine 117 = .ok (.goto 140, 3) := by decide +kernel
theorem dX12_holdsLine_120 : decode cX12_holdsLine 120 = .ok (.iinc 3 (-1), 3) := by decide +kernel
theorem dX12_holdsLine_123 : decode cX12_holdsLine 123 = .ok (.aload_n 0, 1) := by decide +kernel
theorem dX12_holdsLine_124 : decode cX12_holdsLine 124 = .ok (.getfield 39, 3) := by decide +kernel
theorem dX12_holdsLine_127 : decode cX12_holdsLine 127 = .ok (.iload_n 3, 1) := by decide +kernel
theorem dX12_holdsLine_128 : decode cX12_holdsLine 128 = .ok (.iconst 1, 1) := by decide +kernel
theorem dX12_holdsLine_129 : decode cX12_holdsLine 129 = .ok (.isub, 1) := by decide +kernel
theorem dX12_holdsLine_130 : decode cX12_holdsLine 130 = .ok (.iaload, 1) := by decide +kernel
theorem dX12_holdsLine_131 : decode cX12_holdsLine 131 = .ok (.istore 7, 2) := by decide +kernel
theorem dX12_holdsLine_133 : decode cX12_holdsLine 133 = .ok (.aload_n 0, 1) := by decide +kernel
theorem dX12_holdsLine_134 : decode cX12_holdsLine 134 = .ok (.getfield 39, 3) := by decide +kernel
theorem dX12_holdsLine_137 : decode cX12_holdsLine 137 = .ok (.iload_n 3, 1) := by decide +kernel
theorem dX12_holdsLine_138 : decode cX12_holdsLine 138 = .ok (.iaload, 1) := by decide +kernel
theorem dX12_holdsLine_139 : decode cX12_holdsLine 139 = .ok (.istore 8, 2) := by decide +kernel
theorem dX12_holdsLine_141 : decode cX12_holdsLine 141 = .ok (.iload 6, 2) := by decide +kernel
theorem dX12_holdsLine_143 : decode cX12_holdsLine 143 = .ok (.bipush 10, 2) := by decide +kernel
theorem dX12_holdsLine_145 : decode cX12_holdsLine 145 = .ok (.if_icmp .ne 18, 3) := by decide +kernel
theorem dX12_holdsLine_148 : decode cX12_holdsLine 148 = .ok (.iload 7, 2) := by decide +kernel
theorem dX12_holdsLine_150 : decode cX12_holdsLine 150 = .ok (.iload 8, 2) := by decide +kernel
theorem dX12_holdsLine_152 : decode cX12_holdsLine 152 = .ok (.if_icmp .ge 7, 3) := by decide +kernel
theorem dX12_holdsLine_155 : decode cX12_holdsLine 155 = .ok (.iconst 1, 1) := by decide +kernel
theorem dX12_holdsLine_156 : decode cX12_holdsLine 156 = .ok (.goto 66, 3) := by decide +kernel
theorem dX12_holdsLine_159 : decode cX12_holdsLine 159 = .ok (.iconst 0, 1) := by decide +kernel
theorem dX12_holdsLine_160 : decode cX12_holdsLine 160 = .ok (.goto 62, 3) := by decide +kernel
theorem dX12_holdsLine_163 : decode cX12_holdsLine 163 = .ok (.iload 6, 2) := by decide +kernel
theorem dX12_holdsLine_165 : decode cX12_holdsLine 165 = .ok (.bipush 11, 2) := by decide +kernel
theorem dX12_holdsLine_167 : decode cX12_holdsLine 167 = .ok (.if_icmp .ne 18, 3) := by decide +kernel
theorem dX12_holdsLine_170 : decode cX12_holdsLine 170 = .ok (.iload 7, 2) := by decide +kernel
theorem dX12_holdsLine_172 : decode cX12_holdsLine 172 = .ok (.iload 8, 2) := by decide +kernel
theorem dX12_holdsLine_174 : decode cX12_holdsLine 174 = .ok (.if_icmp .le 7, 3) := by decide +kernel
theorem dX12_holdsLine_177 : decode cX12_holdsLine 177 = .ok (.iconst 1, 1) := by decide +kernel
theorem dX12_holdsLine_178 : decode cX12_holdsLine 178 = .ok (.goto 44, 3) := by decide +kernel
theorem dX12_holdsLine_181 : decode cX12_holdsLine 181 = .ok (.iconst 0, 1) := by decide +kernel
theorem dX12_holdsLine_182 : decode cX12_holdsLine 182 = .ok (.goto 40, 3) := by decide +kernel
theorem dX12_holdsLine_185 : decode cX12_holdsLine 185 = .ok (.iload 6, 2) := by decide +kernel
theorem dX12_holdsLine_187 : decode cX12_holdsLine 187 = .ok (.bipush 13, 2) := by decide +kernel
theorem dX12_holdsLine_189 : decode cX12_holdsLine 189 = .ok (.if_icmp .ne 20, 3) := by decide +kernel
theorem dX12_holdsLine_192 : decode cX12_holdsLine 192 = .ok (.iload 7, 2) := by decide +kernel
theorem dX12_holdsLine_194 : decode cX12_holdsLine 194 = .ok (.iload 8, 2) := by decide +kernel
theorem dX12_holdsLine_196 : decode cX12_holdsLine 196 = .ok (.iadd, 1) := by decide +kernel
theorem dX12_holdsLine_197 : decode cX12_holdsLine 197 = .ok (.iconst 2, 1) := by decide +kernel
theorem dX12_holdsLine_198 : decode cX12_holdsLine 198 = .ok (.if_icmp .ne 7, 3) := by decide +kernel
theorem dX12_holdsLine_201 : decode cX12_holdsLine 201 = .ok (.iconst 1, 1) := by decide +kernel
theorem dX12_holdsLine_202 : decode cX12_holdsLine 202 = .ok (.goto 20, 3) := by decide +kernel
theorem dX12_holdsLine_205 : decode cX12_holdsLine 205 = .ok (.iconst 0, 1) := by decide +kernel
theorem dX12_holdsLine_206 : decode cX12_holdsLine 206 = .ok (.goto 16, 3) := by decide +kernel
theorem dX12_holdsLine_209 : decode cX12_holdsLine 209 = .ok (.iload 7, 2) := by decide +kernel
theorem dX12_holdsLine_211 : decode cX12_holdsLine 211 = .ok (.iload 8, 2) := by decide +kernel
theorem dX12_holdsLine_213 : decode cX12_holdsLine 213 = .ok (.iadd, 1) := by decide +kernel
theorem dX12_holdsLine_214 : decode cX12_holdsLine 214 = .ok (.ifCond .le 7, 3) := by decide +kernel
theorem dX12_holdsLine_217 : decode cX12_holdsLine 217 = .ok (.iconst 1, 1) := by decide +kernel
theorem dX12_holdsLine_218 : decode cX12_holdsLine 218 = .ok (.goto 4, 3) := by decide +kernel
theorem dX12_holdsLine_221 : decode cX12_holdsLine 221 = .ok (.iconst 0, 1) := by decide +kernel
theorem dX12_holdsLine_222 : decode cX12_holdsLine 222 = .ok (.istore 9, 2) := by decide +kernel
theorem dX12_holdsLine_224 : decode cX12_holdsLine 224 = .ok (.aload_n 0, 1) := by decide +kernel
theorem dX12_holdsLine_225 : decode cX12_holdsLine 225 = .ok (.getfield 39, 3) := by decide +kernel
theorem dX12_holdsLine_228 : decode cX12_holdsLine 228 = .ok (.iload_n 3, 1) := by decide +kernel
theorem dX12_holdsLine_229 : decode cX12_holdsLine 229 = .ok (.iconst 1, 1) := by decide +kernel
theorem dX12_holdsLine_230 : decode cX12_holdsLine 230 = .ok (.isub, 1) := by decide +kernel
theorem dX12_holdsLine_231 : decode cX12_holdsLine 231 = .ok (.iload 6, 2) := by decide +kernel
theorem dX12_holdsLine_233 : decode cX12_holdsLine 233 = .ok (.bipush 9, 2) := by decide +kernel
theorem dX12_holdsLine_235 : decode cX12_holdsLine 235 = .ok (.if_icmp .ne 11, 3) := by decide +kernel
theorem dX12_holdsLine_238 : decode cX12_holdsLine 238 = .ok (.iload 7, 2) := by decide +kernel
theorem dX12_holdsLine_240 : decode cX12_holdsLine 240 = .ok (.iload 8, 2) := by decide +kernel
theorem dX12_holdsLine_242 : decode cX12_holdsLine 242 = .ok (.iadd, 1) := by decide +kernel
theorem dX12_holdsLine_243 : decode cX12_holdsLine 243 = .ok (.goto 13, 3) := by decide +kernel
theorem dX12_holdsLine_246 : decode cX12_holdsLine 246 = .ok (.iload 9, 2) := by decide +kernel
theorem dX12_holdsLine_248 : decode cX12_holdsLine 248 = .ok (.ifCond .eq 7, 3) := by decide +kernel
theorem dX12_holdsLine_251 : decode cX12_holdsLine 251 = .ok (.iconst 1, 1) := by decide +kernel
theorem dX12_holdsLine_252 : decode cX12_holdsLine 252 = .ok (.goto 4, 3) := by decide +kernel
theorem dX12_holdsLine_255 : decode cX12_holdsLine 255 = .ok (.iconst 0, 1) := by decide +kernel
theorem dX12_holdsLine_256 : decode cX12_holdsLine 256 = .ok (.iastore, 1) := by decide +kernel
theorem dX12_holdsLine_257 : decode cX12_holdsLine 257 = .ok (.iinc 5 1, 3) := by decide +kernel
theorem dX12_holdsLine_260 : decode cX12_holdsLine 260 = .ok (.goto (-238), 3) := by decide +kernel
theorem dX12_holdsLine_263 : decode cX12_holdsLine 263 = .ok (.iload_n 3, 1) := by decide +kernel
theorem dX12_holdsLine_264 : decode cX12_holdsLine 264 = .ok (.ifCond .eq 13, 3) := by decide +kernel
theorem dX12_holdsLine_267 : decode cX12_holdsLine 267 = .ok (.aload_n 0, 1) := by decide +kernel
theorem dX12_holdsLine_268 : decode cX12_holdsLine 268 = .ok (.getfield 39, 3) := by decide +kernel
theorem dX12_holdsLine_271 : decode cX12_holdsLine 271 = .ok (.iconst 0, 1) := by decide +kernel
theorem dX12_holdsLine_272 : decode cX12_holdsLine 272 = .ok (.iaload, 1) := by decide +kernel
theorem dX12_holdsLine_273 : decode cX12_holdsLine 273 = .ok (.iconst 1, 1) := by decide +kernel
theorem dX12_holdsLine_274 : decode cX12_holdsLine 274 = .ok (.if_icmp .ne 7, 3) := by decide +kernel
theorem dX12_holdsLine_277 : decode cX12_holdsLine 277 = .ok (.iconst 1, 1) := by decide +kernel
theorem dX12_holdsLine_278 : decode cX12_holdsLine 278 = .ok (.goto 4, 3) := by decide +kernel
theorem dX12_holdsLine_281 : decode cX12_holdsLine 281 = .ok (.iconst 0, 1) := by decide +kernel
theorem dX12_holdsLine_282 : decode cX12_holdsLine 282 = .ok (.ireturn, 1) := by decide +kernel
theorem dX12_hasLaw_0 : decode cX12_hasLaw 0 = .ok (.aload_n 0, 1) := by decide +kernel
theorem dX12_hasLaw_1 : decode cX12_hasLaw 1 = .ok (.getfield 13, 3) := by decide +kernel
theorem dX12_hasLaw_4 : decode cX12_hasLaw 4 = .ok (.iconst 2, 1) := by decide +kernel
theorem dX12_hasLaw_5 : decode cX12_hasLaw 5 = .ok (.iaload, 1) := by decide +kernel
theorem dX12_hasLaw_6 : decode cX12_hasLaw 6 = .ok (.iconst 1, 1) := by decide +kernel
theorem dX12_hasLaw_7 : decode cX12_hasLaw 7 = .ok (.if_icmp .ne 7, 3) := by decide +kernel
theorem dX12_hasLaw_10 : decode cX12_hasLaw 10 = .ok (.iconst 1, 1) := by decide +kernel
theorem dX12_hasLaw_11 : decode cX12_hasLaw 11 = .ok (.goto 4, 3) := by decide +kernel
theorem dX12_hasLaw_14 : decode cX12_hasLaw 14 = .ok (.iconst 0, 1) := by decide +kernel
theorem dX12_hasLaw_15 : decode cX12_hasLaw 15 = .ok (.ireturn, 1) := by decide +kernel
theorem dX12_sumOf_0 : decode cX12_sumOf 0 = .ok (.iconst 0, 1) := by decide +kernel
theorem dX12_sumOf_1 : decode cX12_sumOf 1 = .ok (.istore_n 3, 1) := by decide +kernel
theorem dX12_sumOf_2 : decode cX12_sumOf 2 = .ok (.iconst 0, 1) := by decide +kernel
theorem dX12_sumOf_3 : decode cX12_sumOf 3 = .ok (.istore 4, 2) := by decide +kernel
theorem dX12_sumOf_5 : decode cX12_sumOf 5 = .ok (.aload_n 0, 1) := by decide +kernel
theorem dX12_sumOf_6 : decode cX12_sumOf 6 = .ok (.invokevirtual 275, 3) := by decide +kernel
theorem dX12_sumOf_9 : decode cX12_sumOf 9 = .ok (.ifCond .eq 67, 3) := by decide +kernel
theorem dX12_sumOf_12 : decode cX12_sumOf 12 = .ok (.iload 4, 2) := by decide +kernel
theorem dX12_sumOf_14 : decode cX12_sumOf 14 = .ok (.aload_n 0, 1) := by decide +kernel
theorem dX12_sumOf_15 : decode cX12_sumOf 15 = .ok (.getfield 13, 3) := by decide +kernel
theorem dX12_sumOf_18 : decode cX12_sumOf 18 = .ok (.sipush 333, 3) := by decide +kernel
theorem dX12_sumOf_21 : decode cX12_sumOf 21 = .ok (.iaload, 1) := by decide +kernel
theorem dX12_sumOf_22 : decode cX12_sumOf 22 = .ok (.if_icmp .ge 54, 3) := by decide +kernel
theorem dX12_sumOf_25 : decode cX12_sumOf 25 = .ok (.aload_n 0, 1) := by decide +kernel
theorem dX12_sumOf_26 : decode cX12_sumOf 26 = .ok (.getfield 13, 3) := by decide +kernel
theorem dX12_sumOf_29 : decode cX12_sumOf 29 = .ok (.sipush 334, 3) := by decide +kernel
theorem dX12_sumOf_32 : decode cX12_sumOf 32 = .ok (.iconst 4, 1) := by decide +kernel
theorem dX12_sumOf_33 : decode cX12_sumOf 33 = .ok (.iload 4, 2) := by decide +kernel
theorem dX12_sumOf_35 : decode cX12_sumOf 35 = .ok (.imul, 1) := by decide +kernel
theorem dX12_sumOf_36 : decode cX12_sumOf 36 = .ok (.iadd, 1) := by decide +kernel
theorem dX12_sumOf_37 : decode cX12_sumOf 37 = .ok (.iaload, 1) := by decide +kernel
theorem dX12_sumOf_38 : decode cX12_sumOf 38 = .ok (.iload_n 1, 1) := by decide +kernel
theorem dX12_sumOf_39 : decode cX12_sumOf 39 = .ok (.if_icmp .ne 31, 3) := by decide +kernel
theorem dX12_sumOf_42 : decode cX12_sumOf 42 = .ok (.aload_n 0, 1) := by decide +kernel
theorem dX12_sumOf_43 : decode cX12_sumOf 43 = .ok (.iload 4, 2) := by decide +kernel
theorem dX12_sumOf_45 : decode cX12_sumOf 45 = .ok (.iload_n 2, 1) := by decide +kernel
theorem dX12_sumOf_46 : decode cX12_sumOf 46 = .ok (.invokevirtual 278, 3) := by decide +kernel
theorem dX12_sumOf_49 : decode cX12_sumOf 49 = .ok (.ifCond .eq 21, 3) := by decide +kernel
theorem dX12_sumOf_52 : decode cX12_sumOf 52 = .ok (.iload_n 3, 1) := by decide +kernel
theorem dX12_sumOf_53 : decode cX12_sumOf 53 = .ok (.aload_n 0, 1) := by decide +kernel
theorem dX12_sumOf_54 : decode cX12_sumOf 54 = .ok (.getfield 13, 3) := by decide +kernel
theorem dX12_sumOf_57 : decode cX12_sumOf 57 = .ok (.sipush 334, 3) := by decide +kernel
theorem dX12_sumOf_60 : decode cX12_sumOf 60 = .ok (.iconst 4, 1) := by decide +kernel
theorem dX12_sumOf_61 : decode cX12_sumOf 61 = .ok (.iload 4, 2) := by decide +kernel
theorem dX12_sumOf_63 : decode cX12_sumOf 63 = .ok (.imul, 1) := by decide +kernel
theorem dX12_sumOf_64 : decode cX12_sumOf 64 = .ok (.iadd, 1) := by decide +kernel
theorem dX12_sumOf_65 : decode cX12_sumOf 65 = .ok (.iconst 1, 1) := by decide +kernel
theorem dX12_sumOf_66 : decode cX12_sumOf 66 = .ok (.iadd, 1) := by decide +kernel
theorem dX12_sumOf_67 : decode cX12_sumOf 67 = .ok (.iaload, 1) := by decide +kernel
theorem dX12_sumOf_68 : decode cX12_sumOf 68 = .ok (.iadd, 1) := by decide +kernel
theorem dX12_sumOf_69 : decode cX12_sumOf 69 = .ok (.istore_n 3, 1) := by decide +kernel
theorem dX12_sumOf_70 : decode cX12_sumOf 70 = .ok (.iinc 4 1, 3) := by decide +kernel
theorem dX12_sumOf_73 : decode cX12_sumOf 73 = .ok (.goto (-68), 3) := by decide +kernel
theorem dX12_sumOf_76 : decode cX12_sumOf 76 = .ok (.iload_n 3, 1) := by decide +kernel
theorem dX12_sumOf_77 : decode cX12_sumOf 77 = .ok (.ireturn, 1) := by decide +kernel
theorem dX12_strainOf_0 : decode cX12_strainOf 0 = .ok (.aload_n 0, 1) := by decide +kernel
theorem dX12_strainOf_1 : decode cX12_strainOf 1 = .ok (.getfield 13, 3) := by decide +kernel
theorem dX12_strainOf_4 : decode cX12_strainOf 4 = .ok (.bipush 46, 2) := by decide +kernel
theorem dX12_strainOf_6 : decode cX12_strainOf 6 = .ok (.iload_n 1, 1) := by decide +kernel
theorem dX12_strainOf_7 : decode cX12_strainOf 7 = .ok (.iadd, 1) := by decide +kernel
theorem dX12_strainOf_8 : decode cX12_strainOf 8 = .ok (.iaload, 1) := by decide +kernel
theorem dX12_strainOf_9 : decode cX12_strainOf 9 = .ok (.aload_n 0, 1) := by decide +kernel
theorem dX12_strainOf_10 : decode cX12_strainOf 10 = .ok (.iconst 0, 1) := by decide +kernel
theorem dX12_strainOf_11 : decode cX12_strainOf 11 = .ok (.iload_n 1, 1) := by decide +kernel
theorem dX12_strainOf_12 : decode cX12_strainOf 12 = .ok (.invokevirtual 281, 3) := by decide +kernel
theorem dX12_strainOf_15 : decode cX12_strainOf 15 = .ok (.iadd, 1) := by decide +kernel
theorem dX12_strainOf_16 : decode cX12_strainOf 16 = .ok (.ireturn, 1) := by decide +kernel
theorem dX12_rustsBy_0 : decode cX12_rustsBy 0 = .ok (.aload_n 0, 1) := by decide +kernel
theorem dX12_rustsBy_1 : decode cX12_rustsBy 1 = .ok (.invokevirtual 275, 3) := by decide +kernel
theorem dX12_rustsBy_4 : decode cX12_rustsBy 4 = .ok (.ifCond .eq 12, 3) := by decide +kernel
theorem dX12_rustsBy_7 : decode cX12_rustsBy 7 = .ok (.aload_n 0, 1) := by decide +kernel
theorem dX12_rustsBy_8 : decode cX12_rustsBy 8 = .ok (.iconst 1, 1) := by decide +kernel
theorem dX12_rustsBy_9 : decode cX12_rustsBy 9 = .ok (.iload_n 1, 1) := by decide +kernel
theorem dX12_rustsBy_10 : decode cX12_rustsBy 10 = .ok (.invokevirtual 281, 3) := by decide +kernel
theorem dX12_rustsBy_13 : decode cX12_rustsBy 13 = .ok (.goto 4, 3) := by decide +kernel
theorem dX12_rustsBy_16 : decode cX12_rustsBy 16 = .ok (.iconst 1, 1) := by decide +kernel
theorem dX12_rustsBy_17 : decode cX12_rustsBy 17 = .ok (.ireturn, 1) := by decide +kernel
theorem dX12_doesHold_0 : decode cX12_doesHold 0 = .ok (.aload_n 0, 1) := by decide +kernel
theorem dX12_doesHold_1 : decode cX12_doesHold 1 = .ok (.iload_n 1, 1) := by decide +kernel
theorem dX12_doesHold_2 : decode cX12_doesHold 2 = .ok (.invokevirtual 262, 3) := by decide +kernel
theorem dX12_doesHold_5 : decode cX12_doesHold 5 = .ok (.aload_n 0, 1) := by decide +kernel
theorem dX12_doesHold_6 : decode cX12_doesHold 6 = .ok (.iload_n 1, 1) := by decide +kernel
theorem dX12_doesHold_7 : decode cX12_doesHold 7 = .ok (.invokevirtual 284, 3) := by decide +kernel
theorem dX12_doesHold_10 : decode cX12_doesHold 10 = .ok (.iadd, 1) := by decide +kernel
theorem dX12_doesHold_11 : decode cX12_doesHold 11 = .ok (.bipush 60, 2) := by decide +kernel
theorem dX12_doesHold_13 : decode cX12_doesHold 13 = .ok (.if_icmp .lt 12, 3) := by decide +kernel
theorem dX12_doesHold_16 : decode cX12_doesHold 16 = .ok (.aload_n 0, 1) := by decide +kernel
theorem dX12_doesHold_17 : decode cX12_doesHold 17 = .ok (.iconst 2, 1) := by decide +kernel
theorem dX12_doesHold_18 : decode cX12_doesHold 18 = .ok (.iload_n 1, 1) := by decide +kernel
theorem dX12_doesHold_19 : decode cX12_doesHold 19 = .ok (.invokevirtual 281, 3) := by decide +kernel
theorem dX12_doesHold_22 : decode cX12_doesHold 22 = .ok (.ifCond .le 7, 3) := by decide +kernel
theorem dX12_doesHold_25 : decode cX12_doesHold 25 = .ok (.iconst 1, 1) := by decide +kernel
theorem dX12_doesHold_26 : decode cX12_doesHold 26 = .ok (.goto 4, 3) := by decide +kernel
theorem dX12_doesHold_29 : decode cX12_doesHold 29 = .ok (.iconst 0, 1) := by decide +kernel
theorem dX12_doesHold_30 : decode cX12_doesHold 30 = .ok (.ireturn, 1) := by decide +kernel
theorem dX12_holdingOf_0 : decode cX12_holdingOf 0 = .ok (.aload_n 0, 1) := by decide +kernel
theorem dX12_holdingOf_1 : decode cX12_holdingOf 1 = .ok (.iload_n 1, 1) := by decide +kernel
theorem dX12_holdingOf_2 : decode cX12_holdingOf 2 = .ok (.putfield 250, 3) := by decide +kernel
theorem dX12_holdingOf_5 : decode cX12_holdingOf 5 = .ok (.iconst 0, 1) := by decide +kernel
theorem dX12_holdingOf_6 : decode cX12_holdingOf 6 = .ok (.istore_n 2, 1) := by decide +kernel
theorem dX12_holdingOf_7 : decode cX12_holdingOf 7 = .ok (.iconst 0, 1) := by decide +kernel
theorem dX12_holdingOf_8 : decode cX12_holdingOf 8 = .ok (.istore_n 3, 1) := by decide +kernel
theorem dX12_holdingOf_9 : decode cX12_holdingOf 9 = .ok (.iload_n 3, 1) := by decide +kernel
theorem dX12_holdingOf_10 : decode cX12_holdingOf 10 = .ok (.bipush 16, 2) := by decide +kernel
theorem dX12_holdingOf_12 : decode cX12_holdingOf 12 = .ok (.if_icmp .ge 35, 3) := by decide +kernel
theorem dX12_holdingOf_15 : decode cX12_holdingOf 15 = .ok (.iload_n 2, 1) := by decide +kernel
theorem dX12_holdingOf_16 : decode cX12_holdingOf 16 = .ok (.iload_n 1, 1) := by decide +kernel
theorem dX12_holdingOf_17 : decode cX12_holdingOf 17 = .ok (.iload_n 3, 1) := by decide +kernel
theorem dX12_holdingOf_18 : decode cX12_holdingOf 18 = .ok (.invokestatic 69, 3) := by decide +kernel
theorem dX12_holdingOf_21 : decode cX12_holdingOf 21 = .ok (.ifCond .eq 17, 3) := by decide +kernel
theorem dX12_holdingOf_24 : decode cX12_holdingOf 24 = .ok (.aload_n 0, 1) := by decide +kernel
theorem dX12_holdingOf_25 : decode cX12_holdingOf 25 = .ok (.iload_n 3, 1) := by decide +kernel
theorem dX12_holdingOf_26 : decode cX12_holdingOf 26 = .ok (.invokevirtual 287, 3) := by decide +kernel
theorem dX12_holdingOf_29 : decode cX12_holdingOf 29 = .ok (.ifCond .eq 9, 3) := by decide +kernel
theorem dX12_holdingOf_32 : decode cX12_holdingOf 32 = .ok (.iconst 1, 1) := by decide +kernel
theorem dX12_holdingOf_33 : decode cX12_holdingOf 33 = .ok (.iload_n 3, 1) := by decide +kernel
theorem dX12_holdingOf_34 : decode cX12_holdingOf 34 = .ok (.ishl, 1) := by decide +kernel
theorem dX12_holdingOf_35 : decode cX12_holdingOf 35 = .ok (.goto 4, 3) := by decide +kernel
theorem dX12_holdingOf_38 : decode cX12_holdingOf 38 = .ok (.iconst 0, 1) := by decide +kernel
theorem dX12_holdingOf_39 : decode cX12_holdingOf 39 = .ok (.ior, 1) := by decide +kernel
theorem dX12_holdingOf_40 : decode cX12_holdingOf 40 = .ok (.istore_n 2, 1) := by decide +kernel
theorem dX12_holdingOf_41 : decode cX12_holdingOf 41 = .ok (.iinc 3 1, 3) := by decide +kernel
theorem dX12_holdingOf_44 : decode cX12_holdingOf 44 = .ok (.goto (-35), 3) := by decide +kernel
theorem dX12_holdingOf_47 : decode cX12_holdingOf 47 = .ok (.iload_n 2, 1) := by decide +kernel
theorem dX12_holdingOf_48 : decode cX12_holdingOf 48 = .ok (.ireturn, 1) := by decide +kernel
theorem dX12_holdingNow_0 : decode cX12_holdingNow 0 = .ok (.aload_n 0, 1) := by decide +kernel
theorem dX12_holdingNow_1 : decode cX12_holdingNow 1 = .ok (.aload_n 0, 1) := by decide +kernel
theorem dX12_holdingNow_2 : decode cX12_holdingNow 2 = .ok (.invokevirtual 65, 3) := by decide +kernel
theorem dX12_holdingNow_5 : decode cX12_holdingNow 5 = .ok (.invokevirtual 290, 3) := by decide +kernel
theorem dX12_holdingNow_8 : decode cX12_holdingNow 8 = .ok (.ireturn, 1) := by decide +kernel
theorem dX12_skyBy_0 : decode cX12_skyBy 0 = .ok (.iconst 0, 1) := by decide +kernel
theorem dX12_skyBy_1 : decode cX12_skyBy 1 = .ok (.istore_n 3, 1) := by decide +kernel
theorem dX12_skyBy_2 : decode cX12_skyBy 2 = .ok (.iconst 0, 1) := by decide +kernel
theorem dX12_skyBy_3 : decode cX12_skyBy 3 = .ok (.istore 4, 2) := by decide +kernel
theorem dX12_skyBy_5 : decode cX12_skyBy 5 = .ok (.iload 4, 2) := by decide +kernel
theorem dX12_skyBy_7 : decode cX12_skyBy 7 = .ok (.bipush 16, 2) := by decide +kernel
theorem dX12_skyBy_9 : decode cX12_skyBy 9 = .ok (.if_icmp .ge 48, 3) := by decide +kernel
theorem dX12_skyBy_12 : decode cX12_skyBy 12 = .ok (.iload_n 1, 1) := by decide +kernel
theorem dX12_skyBy_13 : decode cX12_skyBy 13 = .ok (.iload 4, 2) := by decide +kernel
theorem dX12_skyBy_15 : decode cX12_skyBy 15 = .ok (.invokestatic 69, 3) := by decide +kernel
theorem dX12_skyBy_18 : decode cX12_skyBy 18 = .ok (.ifCond .eq 31, 3) := by decide +kernel
theorem dX12_skyBy_21 : decode cX12_skyBy 21 = .ok (.iload_n 3, 1) := by decide +kernel
theorem dX12_skyBy_22 : decode cX12_skyBy 22 = .ok (.aload_n 0, 1) := by decide +kernel
theorem dX12_skyBy_23 : decode cX12_skyBy 23 = .ok (.getfield 13, 3) := by decide +kernel
theorem dX12_skyBy_26 : decode cX12_skyBy 26 = .ok (.iconst 4, 1) := by decide +kernel
theorem dX12_skyBy_27 : decode cX12_skyBy 27 = .ok (.iaload, 1) := by decide +kernel
theorem dX12_skyBy_28 : decode cX12_skyBy 28 = .ok (.aload_n 0, 1) := by decide +kernel
theorem dX12_skyBy_29 : decode cX12_skyBy 29 = .ok (.getfield 13, 3) := by decide +kernel
theorem dX12_skyBy_32 : decode cX12_skyBy 32 = .ok (.iconst 5, 1) := by decide +kernel
theorem dX12_skyBy_33 : decode cX12_skyBy 33 = .ok (.iaload, 1) := by decide +kernel
theorem dX12_skyBy_34 : decode cX12_skyBy 34 = .ok (.iload_n 2, 1) := by decide +kernel
theorem dX12_skyBy_35 : decode cX12_skyBy 35 = .ok (.iload 4, 2) := by decide +kernel
theorem dX12_skyBy_37 : decode cX12_skyBy 37 = .ok (.isub, 1) := by decide +kernel
theorem dX12_skyBy_38 : decode cX12_skyBy 38 = .ok (.invokestatic 253, 3) := by decide +kernel
theorem dX12_skyBy_41 : decode cX12_skyBy 41 = .ok (.imul, 1) := by decide +kernel
theorem dX12_skyBy_42 : decode cX12_skyBy 42 = .ok (.isub, 1) := by decide +kernel
theorem dX12_skyBy_43 : decode cX12_skyBy 43 = .ok (.invokestatic 293, 3) := by decide +kernel
theorem dX12_skyBy_46 : decode cX12_skyBy 46 = .ok (.goto 4, 3) := by decide +kernel
theorem dX12_skyBy_49 : decode cX12_skyBy 49 = .ok (.iload_n 3, 1) := by decide +kernel
theorem dX12_skyBy_50 : decode cX12_skyBy 50 = .ok (.istore_n 3, 1) := by decide +kernel
theorem dX12_skyBy_51 : decode cX12_skyBy 51 = .ok (.iinc 4 1, 3) := by decide +kernel
theorem dX12_skyBy_54 : decode cX12_skyBy 54 = .ok (.goto (-49), 3) := by decide +kernel
theorem dX12_skyBy_57 : decode cX12_skyBy 57 = .ok (.iconst 0, 1) := by decide +kernel
theorem dX12_skyBy_58 : decode cX12_skyBy 58 = .ok (.iload_n 3, 1) := by decide +kernel
theorem dX12_skyBy_59 : decode cX12_skyBy 59 = .ok (.iconst 2, 1) := by decide +kernel
theorem dX12_skyBy_60 : decode cX12_skyBy 60 = .ok (.aload_n 0, 1) := by decide +kernel
theorem dX12_skyBy_61 : decode cX12_skyBy 61 = .ok (.getfield 13, 3) := by decide +kernel
theorem dX12_skyBy_64 : decode cX12_skyBy 64 = .ok (.bipush 46, 2) := by decide +kernel
theorem dX12_skyBy_66 : decode cX12_skyBy 66 = .ok (.iload_n 2, 1) := by decide +kernel
theorem dX12_skyBy_67 : decode cX12_skyBy 67 = .ok (.iadd, 1) := by decide +kernel
theorem dX12_skyBy_68 : decode cX12_skyBy 68 = .ok (.iaload, 1) := by decide +kernel
theorem dX12_skyBy_69 : decode cX12_skyBy 69 = .ok (.imul, 1) := by decide +kernel
theorem dX12_skyBy_70 : decode cX12_skyBy 70 = .ok (.isub, 1) := by decide +kernel
theorem dX12_skyBy_71 : decode cX12_skyBy 71 = .ok (.invokestatic 293, 3) := by decide +kernel
theorem dX12_skyBy_74 : decode cX12_skyBy 74 = .ok (.ireturn, 1) := by decide +kernel
theorem dX12_standingBy_0 : decode cX12_standingBy 0 = .ok (.iconst 0, 1) := by decide +kernel
theorem dX12_standingBy_1 : decode cX12_standingBy 1 = .ok (.istore_n 2, 1) := by decide +kernel
theorem dX12_standingBy_2 : decode cX12_standingBy 2 = .ok (.iconst 0, 1) := by decide +kernel
theorem dX12_standingBy_3 : decode cX12_standingBy 3 = .ok (.istore_n 3, 1) := by decide +kernel
theorem dX12_standingBy_4 : decode cX12_standingBy 4 = .ok (.iload_n 3, 1) := by decide +kernel
theorem dX12_standingBy_5 : decode cX12_standingBy 5 = .ok (.bipush 16, 2) := by decide +kernel
theorem dX12_standingBy_7 : decode cX12_standingBy 7 = .ok (.if_icmp .ge 47, 3) := by decide +kernel
theorem dX12_standingBy_10 : decode cX12_standingBy 10 = .ok (.iload_n 2, 1) := by decide +kernel
theorem dX12_standingBy_11 : decode cX12_standingBy 11 = .ok (.aload_n 0, 1) := by decide +kernel
theorem dX12_standingBy_12 : decode cX12_standingBy 12 = .ok (.iload_n 1, 1) := by decide +kernel
theorem dX12_standingBy_13 : decode cX12_standingBy 13 = .ok (.iload_n 3, 1) := by decide +kernel
theorem dX12_standingBy_14 : decode cX12_standingBy 14 = .ok (.invokevirtual 296, 3) := by decide +kernel
theorem dX12_standingBy_17 : decode cX12_standingBy 17 = .ok (.aload_n 0, 1) := by decide +kernel
theorem dX12_standingBy_18 : decode cX12_standingBy 18 = .ok (.getfield 13, 3) := by decide +kernel
theorem dX12_standingBy_21 : decode cX12_standingBy 21 = .ok (.bipush 14, 2) := by decide +kernel
theorem dX12_standingBy_23 : decode cX12_standingBy 23 = .ok (.iload_n 3, 1) := by decide +kernel
theorem dX12_standingBy_24 : decode cX12_standingBy 24 = .ok (.iadd, 1) := by decide +kernel
theorem dX12_standingBy_25 : decode cX12_standingBy 25 = .ok (.iaload, 1) := by decide +kernel
theorem dX12_standingBy_26 : decode cX12_standingBy 26 = .ok (.isub, 1) := by decide +kernel
theorem dX12_standingBy_27 : decode cX12_standingBy 27 = .ok (.aload_n 0, 1) := by decide +kernel
theorem dX12_standingBy_28 : decode cX12_standingBy 28 = .ok (.getfield 13, 3) := by decide +kernel
theorem dX12_standingBy_31 : decode cX12_standingBy 31 = .ok (.bipush 30, 2) := by decide +kernel
theorem dX12_standingBy_33 : decode cX12_standingBy 33 = .ok (.iload_n 3, 1) := by decide +kernel
theorem dX12_standingBy_34 : decode cX12_standingBy 34 = .ok (.iadd, 1) := by decide +kernel
theorem dX12_standingBy_35 : decode cX12_standingBy 35 = .ok (.iaload, 1) := by decide +kernel
theorem dX12_standingBy_36 : decode cX12_standingBy 36 = .ok (.if_icmp .lt 9, 3) := by decide +kernel
theorem dX12_standingBy_39 : decode cX12_standingBy 39 = .ok (.iconst 1, 1) := by decide +kernel
theorem dX12_standingBy_40 : decode cX12_standingBy 40 = .ok (.iload_n 3, 1) := by decide +kernel
theorem dX12_standingBy_41 : decode cX12_standingBy 41 = .ok (.ishl, 1) := by decide +kernel
theorem dX12_standingBy_42 : decode cX12_standingBy 42 = .ok (.goto 4, 3) := by decide +kernel
theorem dX12_standingBy_45 : decode cX12_standingBy 45 = .ok (.iconst 0, 1) := by decide +kernel
theorem dX12_standingBy_46 : decode cX12_standingBy 46 = .ok (.ior, 1) := by decide +kernel
theorem dX12_standingBy_47 : decode cX12_standingBy 47 = .ok (.istore_n 2, 1) := by decide +kernel
theorem dX12_standingBy_48 : decode cX12_standingBy 48 = .ok (.iinc 3 1, 3) := by decide +kernel
theorem dX12_standingBy_51 : decode cX12_standingBy 51 = .ok (.goto (-47), 3) := by decide +kernel
theorem dX12_standingBy_54 : decode cX12_standingBy 54 = .ok (.iload_n 2, 1) := by decide +kernel
theorem dX12_standingBy_55 : decode cX12_standingBy 55 = .ok (.ireturn, 1) := by decide +kernel
theorem dX12_standingWith_0 : decode cX12_standingWith 0 = .ok (.aload_n 0, 1) := by decide +kernel
theorem dX12_standingWith_1 : decode cX12_standingWith 1 = .ok (.aload_n 0, 1) := by decide +kernel
theorem dX12_standingWith_2 : decode cX12_standingWith 2 = .ok (.iload_n 1, 1) := by decide +kernel
theorem dX12_standingWith_3 : decode cX12_standingWith 3 = .ok (.invokevirtual 290, 3) := by decide +kernel
theorem dX12_standingWith_6 : decode cX12_standingWith 6 = .ok (.invokevirtual 299, 3) := by decide +kernel
theorem dX12_standingWith_9 : decode cX12_standingWith 9 = .ok (.ireturn, 1) := by decide +kernel
theorem dX12_standingNow_0 : decode cX12_standingNow 0 = .ok (.aload_n 0, 1) := by decide +kernel
theorem dX12_standingNow_1 : decode cX12_standingNow 1 = .ok (.aload_n 0, 1) := by decide +kernel
theorem dX12_standingNow_2 : decode cX12_standingNow 2 = .ok (.invokevirtual 65, 3) := by decide +kernel
theorem dX12_standingNow_5 : decode cX12_standingNow 5 = .ok (.invokevirtual 302, 3) := by decide +kernel
theorem dX12_standingNow_8 : decode cX12_standingNow 8 = .ok (.ireturn, 1) := by decide +kernel
theorem dX12_place_0 : decode cX12_place 0 = .ok (.aload_n 0, 1) := by decide +kernel
theorem dX12_place_1 : decode cX12_place 1 = .ok (.iconst 0, 1) := by decide +kernel
theorem dX12_place_2 : decode cX12_place 2 = .ok (.putfield 3, 3) := by decide +kernel
theorem dX12_place_5 : decode cX12_place 5 = .ok (.aload_n 0, 1) := by decide +kernel
theorem dX12_place_6 : decode cX12_place 6 = .ok (.iload_n 1, 1) := by decide +kernel
theorem dX12_place_7 : decode cX12_place 7 = .ok (.invokestatic 305, 3) := by decide +kernel
theorem dX12_place_10 : decode cX12_place 10 = .ok (.iconst 1, 1) := by decide +kernel
theorem dX12_place_11 : decode cX12_place 11 = .ok (.invokevirtual 247, 3) := by decide +kernel
theorem dX12_place_14 : decode cX12_place 14 = .ok (.ifCond .ne 26, 3) := by decide +kernel
theorem dX12_place_17 : decode cX12_place 17 = .ok (.aload_n 0, 1) := by decide +kernel
theorem dX12_place_18 : decode cX12_place 18 = .ok (.iload_n 2, 1) := by decide +kernel
theorem dX12_place_19 : decode cX12_place 19 = .ok (.iconst 0, 1) := by decide +kernel
theorem dX12_place_20 : decode cX12_place 20 = .ok (.bipush 9, 2) := by decide +kernel
theorem dX12_place_22 : decode cX12_place 22 = .ok (.invokestatic 76, 3) := by decide +kernel
theorem dX12_place_25 : decode cX12_place 25 = .ok (.ifCond .ne 7, 3) := by decide +kernel
theorem dX12_place_28 : decode cX12_place 28 = .ok (.iconst 1, 1) := by decide +kernel
theorem dX12_place_29 : decode cX12_place 29 = .ok (.goto 4, 3) := by decide +kernel
theorem dX12_place_32 : decode cX12_place 32 = .ok (.iconst 0, 1) := by decide +kernel
theorem dX12_place_33 : decode cX12_place 33 = .ok (.iconst 2, 1) := by decide +kernel
theorem dX12_place_34 : decode cX12_place 34 = .ok (.invokevirtual 247, 3) := by decide +kernel
theorem dX12_place_37 : decode cX12_place 37 = .ok (.ifCond .eq 5, 3) := by decide +kernel
theorem dX12_place_40 : decode cX12_place 40 = .ok (.iconst 0, 1) := by decide +kernel
theorem dX12_place_41 : decode cX12_place 41 = .ok (.ireturn, 1) := by decide +kernel
theorem dX12_place_42 : decode cX12_place 42 = .ok (.aload_n 0, 1) := by decide +kernel
theorem dX12_place_43 : decode cX12_place 43 = .ok (.invokevirtual 308, 3) := by decide +kernel
theorem dX12_place_46 : decode cX12_place 46 = .ok (.istore_n 3, 1) := by decide +kernel
theorem dX12_place_47 : decode cX12_place 47 = .ok (.iload_n 2, 1) := by decide +kernel
theorem dX12_place_48 : decode cX12_place 48 = .ok (.tableswitch 135 0 8 #[52, 62, 72, 82, 96, 110, 116, 122, 128], 52) := by decide +kernel
theorem dX12_place_100 : decode cX12_place 100 = .ok (.aload_n 0, 1) := by decide +kernel
theorem dX12_place_101 : decode cX12_place 101 = .ok (.getfield 13, 3) := by decide +kernel
theorem dX12_place_104 : decode cX12_place 104 = .ok (.bipush 14, 2) := by decide +kernel
theorem dX12_place_106 : decode cX12_place 106 = .ok (.iload_n 1, 1) := by decide +kernel
theorem dX12_place_107 : decode cX12_place 107 = .ok (.iadd, 1) := by decide +kernel
theorem dX12_place_108 : decode cX12_place 108 = .ok (.iaload, 1) := by decide +kernel
theorem dX12_place_109 : decode cX12_place 109 = .ok (.ireturn, 1) := by decide +kernel
theorem dX12_place_110 : decode cX12_place 110 = .ok (.aload_n 0, 1) := by decide +kernel
theorem dX12_place_111 : decode cX12_place 111 = .ok (.getfield 13, 3) := by decide +kernel
theorem dX12_place_114 : decode cX12_place 114 = .ok (.bipush 30, 2) := by decide +kernel
theorem dX12_place_116 : decode cX12_place 116 = .ok (.iload_n 1, 1) := by decide +kernel
theorem dX12_place_117 : decode cX12_place 117 = .ok (.iadd, 1) := by decide +kernel
theorem dX12_place_118 : decode cX12_place 118 = .ok (.iaload, 1) := by decide +kernel
theorem dX12_place_119 : decode cX12_place 119 = .ok (.ireturn, 1) := by decide +kernel
theorem dX12_place_120 : decode cX12_place 120 = .ok (.aload_n 0, 1) := by decide +kernel
theorem dX12_place_121 : decode cX12_place 121 = .ok (.getfield 13, 3) := by decide +kernel
theorem dX12_place_124 : decode cX12_place 124 = .ok (.bipush 46, 2) := by decide +kernel
theorem dX12_place_126 : decode cX12_place 126 = .ok (.iload_n 1, 1) := by decide +kernel
theorem dX12_place_127 : decode cX12_place 127 = .ok (.iadd, 1) := by decide +kernel
theorem dX12_place_128 : decode cX12_place 128 = .ok (.iaload, 1) := by decide +kernel
theorem dX12_place_129 : decode cX12_place 129 = .ok (.ireturn, 1) := by decide +kernel
theorem dX12_place_130 : decode cX12_place 130 = .ok (.aload_n 0, 1) := by decide +kernel
theorem dX12_place_131 : decode cX12_place 131 = .ok (.iload_n 1, 1) := by decide +kernel
theorem dX12_place_132 : decode cX12_place 132 = .ok (.invokevirtual 268, 3) := by decide +kernel
theorem dX12_place_135 : decode cX12_place 135 = .ok (.ifCond .eq 7, 3) := by decide +kernel
theorem dX12_place_138 : decode cX12_place 138 = .ok (.iconst 1, 1) := by decide +kernel
theorem dX12_place_139 : decode cX12_place 139 = .ok (.goto 4, 3) := by decide +kernel
theorem dX12_place_142 : decode cX12_place 142 = .ok (.iconst 0, 1) := by decide +kernel
theorem dX12_place_143 : decode cX12_place 143 = .ok (.ireturn, 1) := by decide +kernel
theorem dX12_place_144 : decode cX12_place 144 = .ok (.aload_n 0, 1) := by decide +kernel
theorem dX12_place_145 : decode cX12_place 145 = .ok (.iload_n 1, 1) := by decide +kernel
theorem dX12_place_146 : decode cX12_place 146 = .ok (.invokevirtual 122, 3) := by decide +kernel
theorem dX12_place_149 : decode cX12_place 149 = .ok (.ifCond .eq 7, 3) := by decide +kernel
theorem dX12_place_152 : decode cX12_place 152 = .ok (.iconst 1, 1) := by decide +kernel
theorem dX12_place_153 : decode cX12_place 153 = .ok (.goto 4, 3) := by decide +kernel
theorem dX12_place_156 : decode cX12_place 156 = .ok (.iconst 0, 1) := by decide +kernel
theorem dX12_place_157 : decode cX12_place 157 = .ok (.ireturn, 1) := by decide +kernel
theorem dX12_place_158 : decode cX12_place 158 = .ok (.aload_n 0, 1) := by decide +kernel
theorem dX12_place_159 : decode cX12_place 159 = .ok (.iload_n 1, 1) := by decide +kernel
theorem dX12_place_160 : decode cX12_place 160 = .ok (.invokevirtual 262, 3) := by decide +kernel
theorem dX12_place_163 : decode cX12_place 163 = .ok (.ireturn, 1) := by decide +kernel
theorem dX12_place_164 : decode cX12_place 164 = .ok (.aload_n 0, 1) := by decide +kernel
theorem dX12_place_165 : decode cX12_place 165 = .ok (.iload_n 1, 1) := by decide +kernel
theorem dX12_place_166 : decode cX12_place 166 = .ok (.invokevirtual 284, 3) := by decide +kernel
theorem dX12_place_169 : decode cX12_place 169 = .ok (.ireturn, 1) := by decide +kernel
theorem dX12_place_170 : decode cX12_place 170 = .ok (.iload_n 3, 1) := by decide +kernel
theorem dX12_place_171 : decode cX12_place 171 = .ok (.iload_n 1, 1) := by decide +kernel
theorem dX12_place_172 : decode cX12_place 172 = .ok (.ishr, 1) := by decide +kernel
theorem dX12_place_173 : decode cX12_place 173 = .ok (.iconst 1, 1) := by decide +kernel
theorem dX12_place_174 : decode cX12_place 174 = .ok (.iand, 1) := by decide +kernel
theorem dX12_place_175 : decode cX12_place 175 = .ok (.ireturn, 1) := by decide +kernel
theorem dX12_place_176 : decode cX12_place 176 = .ok (.aload_n 0, 1) := by decide +kernel
theorem dX12_place_177 : decode cX12_place 177 = .ok (.iload_n 3, 1) := by decide +kernel
theorem dX12_place_178 : decode cX12_place 178 = .ok (.iload_n 1, 1) := by decide +kernel
theorem dX12_place_179 : decode cX12_place 179 = .ok (.invokevirtual 296, 3) := by decide +kernel
theorem dX12_place_182 : decode cX12_place 182 = .ok (.ireturn, 1) := by decide +kernel
theorem dX12_place_183 : decode cX12_place 183 = .ok (.aload_n 0, 1) := by decide +kernel
theorem dX12_place_184 : decode cX12_place 184 = .ok (.iload_n 3, 1) := by decide +kernel
theorem dX12_place_185 : decode cX12_place 185 = .ok (.invokevirtual 299, 3) := by decide +kernel
theorem dX12_place_188 : decode cX12_place 188 = .ok (.iload_n 1, 1) := by decide +kernel
theorem dX12_place_189 : decode cX12_place 189 = .ok (.ishr, 1) := by decide +kernel
theorem dX12_place_190 : decode cX12_place 190 = .ok (.iconst 1, 1) := by decide +kernel
theorem dX12_place_191 : decode cX12_place 191 = .ok (.iand, 1) := by decide +kernel
theorem dX12_place_192 : decode cX12_place 192 = .ok (.ireturn, 1) := by decide +kernel
theorem dX12_pinner_0 : decode cX12_pinner 0 = .ok (.aload_n 0, 1) := by decide +kernel
theorem dX12_pinner_1 : decode cX12_pinner 1 = .ok (.iconst 0, 1) := by decide +kernel
theorem dX12_pinner_2 : decode cX12_pinner 2 = .ok (.putfield 3, 3) := by decide +kernel
theorem dX12_pinner_5 : decode cX12_pinner 5 = .ok (.aload_n 0, 1) := by decide +kernel
theorem dX12_pinner_6 : decode cX12_pinner 6 = .ok (.aload_n 0, 1) := by decide +kernel
theorem dX12_pinner_7 : decode cX12_pinner 7 = .ok (.iload_n 1, 1) := by decide +kernel
theorem dX12_pinner_8 : decode cX12_pinner 8 = .ok (.invokevirtual 311, 3) := by decide +kernel
theorem dX12_pinner_11 : decode cX12_pinner 11 = .ok (.iconst 1, 1) := by decide +kernel
theorem dX12_pinner_12 : decode cX12_pinner 12 = .ok (.invokevirtual 247, 3) := by decide +kernel
theorem dX12_pinner_15 : decode cX12_pinner 15 = .ok (.ifCond .ne 25, 3) := by decide +kernel
theorem dX12_pinner_18 : decode cX12_pinner 18 = .ok (.aload_n 0, 1) := by decide +kernel
theorem dX12_pinner_19 : decode cX12_pinner 19 = .ok (.iload_n 2, 1) := by decide +kernel
theorem dX12_pinner_20 : decode cX12_pinner 20 = .ok (.iconst 0, 1) := by decide +kernel
theorem dX12_pinner_21 : decode cX12_pinner 21 = .ok (.iconst 2, 1) := by decide +kernel
theorem dX12_pinner_22 : decode cX12_pinner 22 = .ok (.invokestatic 76, 3) := by decide +kernel
theorem dX12_pinner_25 : decode cX12_pinner 25 = .ok (.ifCond .ne 7, 3) := by decide +kernel
theorem dX12_pinner_28 : decode cX12_pinner 28 = .ok (.iconst 1, 1) := by decide +kernel
theorem dX12_pinner_29 : decode cX12_pinner 29 = .ok (.goto 4, 3) := by decide +kernel
theorem dX12_pinner_32 : decode cX12_pinner 32 = .ok (.iconst 0, 1) := by decide +kernel
theorem dX12_pinner_33 : decode cX12_pinner 33 = .ok (.iconst 2, 1) := by decide +kernel
theorem dX12_pinner_34 : decode cX12_pinner 34 = .ok (.invokevirtual 247, 3) := by decide +kernel
theorem dX12_pinner_37 : decode cX12_pinner 37 = .ok (.ifCond .eq 7, 3) := by decide +kernel
theorem dX12_pinner_40 : decode cX12_pinner 40 = .ok (.iconst 0, 1) := by decide +kernel
theorem dX12_pinner_41 : decode cX12_pinner 41 = .ok (.goto 9, 3) := by decide +kernel
theorem dX12_pinner_44 : decode cX12_pinner 44 = .ok (.aload_n 0, 1) := by decide +kernel
theorem dX12_pinner_45 : decode cX12_pinner 45 = .ok (.iload_n 1, 1) := by decide +kernel
theorem dX12_pinner_46 : decode cX12_pinner 46 = .ok (.iload_n 2, 1) := by decide +kernel
theorem dX12_pinner_47 : decode cX12_pinner 47 = .ok (.invokevirtual 314, 3) := by decide +kernel
theorem dX12_pinner_50 : decode cX12_pinner 50 = .ok (.ireturn, 1) := by decide +kernel
theorem dX12_rusts_0 : decode cX12_rusts 0 = .ok (.aload_n 0, 1) := by decide +kernel
theorem dX12_rusts_1 : decode cX12_rusts 1 = .ok (.iconst 0, 1) := by decide +kernel
theorem dX12_rusts_2 : decode cX12_rusts 2 = .ok (.putfield 3, 3) := by decide +kernel
theorem dX12_rusts_5 : decode cX12_rusts 5 = .ok (.aload_n 0, 1) := by decide +kernel
theorem dX12_rusts_6 : decode cX12_rusts 6 = .ok (.iload_n 1, 1) := by decide +kernel
theorem dX12_rusts_7 : decode cX12_rusts 7 = .ok (.invokestatic 305, 3) := by decide +kernel
theorem dX12_rusts_10 : decode cX12_rusts 10 = .ok (.iconst 1, 1) := by decide +kernel
theorem dX12_rusts_11 : decode cX12_rusts 11 = .ok (.invokevirtual 247, 3) := by decide +kernel
theorem dX12_rusts_14 : decode cX12_rusts 14 = .ok (.ifCond .ne 11, 3) := by decide +kernel
theorem dX12_rusts_17 : decode cX12_rusts 17 = .ok (.aload_n 0, 1) := by decide +kernel
theorem dX12_rusts_18 : decode cX12_rusts 18 = .ok (.iload_n 1, 1) := by decide +kernel
theorem dX12_rusts_19 : decode cX12_rusts 19 = .ok (.invokevirtual 122, 3) := by decide +kernel
theorem dX12_rusts_22 : decode cX12_rusts 22 = .ok (.ifCond .ne 5, 3) := by decide +kernel
theorem dX12_rusts_25 : decode cX12_rusts 25 = .ok (.iconst 0, 1) := by decide +kernel
theorem dX12_rusts_26 : decode cX12_rusts 26 = .ok (.ireturn, 1) := by decide +kernel
theorem dX12_rusts_27 : decode cX12_rusts 27 = .ok (.aload_n 0, 1) := by decide +kernel
theorem dX12_rusts_28 : decode cX12_rusts 28 = .ok (.aload_n 0, 1) := by decide +kernel
theorem dX12_rusts_29 : decode cX12_rusts 29 = .ok (.invokevirtual 65, 3) := by decide +kernel
theorem dX12_rusts_32 : decode cX12_rusts 32 = .ok (.putfield 250, 3) := by decide +kernel
theorem dX12_rusts_35 : decode cX12_rusts 35 = .ok (.aload_n 0, 1) := by decide +kernel
theorem dX12_rusts_36 : decode cX12_rusts 36 = .ok (.iload_n 1, 1) := by decide +kernel
theorem dX12_rusts_37 : decode cX12_rusts 37 = .ok (.invokevirtual 317, 3) := by decide +kernel
theorem dX12_rusts_40 : decode cX12_rusts 40 = .ok (.ireturn, 1) := by decide +kernel
theorem dX12_low_0 : decode cX12_low 0 = .ok (.aload_n 0, 1) := by decide +kernel
theorem dX12_low_1 : decode cX12_low 1 = .ok (.iconst 0, 1) := by decide +kernel
theorem dX12_low_2 : decode cX12_low 2 = .ok (.putfield 3, 3) := by decide +kernel
theorem dX12_low_5 : decode cX12_low 5 = .ok (.ldc 80, 2) := by decide +kernel
theorem dX12_low_7 : decode cX12_low 7 = .ok (.aload_n 0, 1) := by decide +kernel
theorem dX12_low_8 : decode cX12_low 8 = .ok (.invokevirtual 320, 3) := by decide +kernel
theorem dX12_low_11 : decode cX12_low 11 = .ok (.iconst (-1), 1) := by decide +kernel
theorem dX12_low_12 : decode cX12_low 12 = .ok (.ixor, 1) := by decide +kernel
theorem dX12_low_13 : decode cX12_low 13 = .ok (.iand, 1) := by decide +kernel
theorem dX12_low_14 : decode cX12_low 14 = .ok (.ireturn, 1) := by decide +kernel
theorem dX12_held_0 : decode cX12_held 0 = .ok (.aload_n 0, 1) := by decide +kernel
theorem dX12_held_1 : decode cX12_held 1 = .ok (.iconst 0, 1) := by decide +kernel
theorem dX12_held_2 : decode cX12_held 2 = .ok (.putfield 3, 3) := by decide +kernel
theorem dX12_held_5 : decode cX12_held 5 = .ok (.aload_n 0, 1) := by decide +kernel
theorem dX12_held_6 : decode cX12_held 6 = .ok (.invokevirtual 308, 3) := by decide +kernel
theorem dX12_held_9 : decode cX12_held 9 = .ok (.ireturn, 1) := by decide +kernel
theorem dX12_tells_0 : decode cX12_tells 0 = .ok (.sipush 239, 3) := by decide +kernel
theorem dX12_tells_3 : decode cX12_tells 3 = .ok (.istore 4, 2) := by decide +kernel
theorem dX12_tells_5 : decode cX12_tells 5 = .ok (.iload 4, 2) := by decide +kernel
theorem dX12_tells_7 : decode cX12_tells 7 = .ok (.iconst 4, 1) := by decide +kernel
theorem dX12_tells_8 : decode cX12_tells 8 = .ok (.if_icmp .lt 31, 3) := by decide +kernel
theorem dX12_tells_11 : decode cX12_tells 11 = .ok (.aload_n 0, 1) := by decide +kernel
theorem dX12_tells_12 : decode cX12_tells 12 = .ok (.getfield 13, 3) := by decide +kernel
theorem dX12_tells_15 : decode cX12_tells 15 = .ok (.bipush 93, 2) := by decide +kernel
theorem dX12_tells_17 : decode cX12_tells 17 = .ok (.iload 4, 2) := by decide +kernel
theorem dX12_tells_19 : decode cX12_tells 19 = .ok (.iadd, 1) := by decide +kernel
theorem dX12_tells_20 : decode cX12_tells 20 = .ok (.aload_n 0, 1) := by decide +kernel
theorem dX12_tells_21 : decode cX12_tells 21 = .ok (.getfield 13, 3) := by decide +kernel
theorem dX12_tells_24 : decode cX12_tells 24 = .ok (.bipush 93, 2) := by decide +kernel
theorem dX12_tells_26 : decode cX12_tells 26 = .ok (.iload 4, 2) := by decide +kernel
theorem dX12_tells_28 : decode cX12_tells 28 = .ok (.iadd, 1) := by decide +kernel
theorem dX12_tells_29 : decode cX12_tells 29 = .ok (.iconst 4, 1) := by decide +kernel
theorem dX12_tells_30 : decode cX12_tells 30 = .ok (.isub, 1) := by decide +kernel
theorem dX12_tells_31 : decode cX12_tells 31 = .ok (.iaload, 1) := by decide +kernel
theorem dX12_tells_32 : decode cX12_tells 32 = .ok (.iastore, 1) := by decide +kernel
theorem dX12_tells_33 : decode cX12_tells 33 = .ok (.iinc 4 (-1), 3) := by decide +kernel
theorem dX12_tells_36 : decode cX12_tells 36 = .ok (.goto (-31), 3) := by decide +kernel
theorem dX12_tells_39 : decode cX12_tells 39 = .ok (.aload_n 0, 1) := by decide +kernel
theorem dX12_tells_40 : decode cX12_tells 40 = .ok (.getfield 13, 3) := by decide +kernel
theorem dX12_tells_43 : decode cX12_tells 43 = .ok (.bipush 93, 2) := by decide +kernel
theorem dX12_tells_45 : decode cX12_tells 45 = .ok (.aload_n 0, 1) := by decide +kernel
theorem dX12_tells_46 : decode cX12_tells 46 = .ok (.getfield 13, 3) := by decide +kernel
theorem dX12_tells_49 : decode cX12_tells 49 = .ok (.iconst 3, 1) := by decide +kernel
theorem dX12_tells_50 : decode cX12_tells 50 = .ok (.iaload, 1) := by decide +kernel
theorem dX12_tells_51 : decode cX12_tells 51 = .ok (.iastore, 1) := by decide +kernel
theorem dX12_tells_52 : decode cX12_tells 52 = .ok (.aload_n 0, 1) := by decide +kernel
theorem dX12_tells_53 : decode cX12_tells 53 = .ok (.getfield 13, 3) := by decide +kernel
theorem dX12_tells_56 : decode cX12_tells 56 = .ok (.bipush 94, 2) := by decide +kernel
theorem dX12_tells_58 : decode cX12_tells 58 = .ok (.iload_n 1, 1) := by decide +kernel
theorem dX12_tells_59 : decode cX12_tells 59 = .ok (.iastore, 1) := by decide +kernel
theorem dX12_tells_60 : decode cX12_tells 60 = .ok (.aload_n 0, 1) := by decide +kernel
theorem dX12_tells_61 : decode cX12_tells 61 = .ok (.getfield 13, 3) := by decide +kernel
theorem dX12_tells_64 : decode cX12_tells 64 = .ok (.bipush 95, 2) := by decide +kernel
theorem dX12_tells_66 : decode cX12_tells 66 = .ok (.iload_n 2, 1) := by decide +kernel
theorem dX12_tells_67 : decode cX12_tells 67 = .ok (.iastore, 1) := by decide +kernel
theorem dX12_tells_68 : decode cX12_tells 68 = .ok (.aload_n 0, 1) := by decide +kernel
theorem dX12_tells_69 : decode cX12_tells 69 = .ok (.getfield 13, 3) := by decide +kernel
theorem dX12_tells_72 : decode cX12_tells 72 = .ok (.bipush 96, 2) := by decide +kernel
theorem dX12_tells_74 : decode cX12_tells 74 = .ok (.iload_n 3, 1) := by decide +kernel
theorem dX12_tells_75 : decode cX12_tells 75 = .ok (.iastore, 1) := by decide +kernel
theorem dX12_tells_76 : decode cX12_tells 76 = .ok (.aload_n 0, 1) := by decide +kernel
theorem dX12_tells_77 : decode cX12_tells 77 = .ok (.getfield 13, 3) := by decide +kernel
theorem dX12_tells_80 : decode cX12_tells 80 = .ok (.bipush 11, 2) := by decide +kernel
theorem dX12_tells_82 : decode cX12_tells 82 = .ok (.bipush 60, 2) := by decide +kernel
theorem dX12_tells_84 : decode cX12_tells 84 = .ok (.aload_n 0, 1) := by decide +kernel
theorem dX12_tells_85 : decode cX12_tells 85 = .ok (.getfield 13, 3) := by decide +kernel
theorem dX12_tells_88 : decode cX12_tells 88 = .ok (.bipush 11, 2) := by decide +kernel
theorem dX12_tells_90 : decode cX12_tells 90 = .ok (.iaload, 1) := by decide +kernel
theorem dX12_tells_91 : decode cX12_tells 91 = .ok (.iconst 1, 1) := by decide +kernel
theorem dX12_tells_92 : decode cX12_tells 92 = .ok (.iadd, 1) := by decide +kernel
theorem dX12_tells_93 : decode cX12_tells 93 = .ok (.invokestatic 259, 3) := by decide +kernel
theorem dX12_tells_96 : decode cX12_tells 96 = .ok (.iastore, 1) := by decide +kernel
theorem dX12_tells_97 : decode cX12_tells 97 = .ok (.return_, 1) := by decide +kernel
theorem dX12_takesOut_0 : decode cX12_takesOut 0 = .ok (.aload_n 0, 1) := by decide +kernel
theorem dX12_takesOut_1 : decode cX12_takesOut 1 = .ok (.iload_n 1, 1) := by decide +kernel
theorem dX12_takesOut_2 : decode cX12_takesOut 2 = .ok (.iload_n 2, 1) := by decide +kernel
theorem dX12_takesOut_3 : decode cX12_takesOut 3 = .ok (.aload_n 0, 1) := by decide +kernel
theorem dX12_takesOut_4 : decode cX12_takesOut 4 = .ok (.getfield 13, 3) := by decide +kernel
theorem dX12_takesOut_7 : decode cX12_takesOut 7 = .ok (.bipush 62, 2) := by decide +kernel
theorem dX12_takesOut_9 : decode cX12_takesOut 9 = .ok (.iload_n 1, 1) := by decide +kernel
theorem dX12_takesOut_10 : decode cX12_takesOut 10 = .ok (.iadd, 1) := by decide +kernel
theorem dX12_takesOut_11 : decode cX12_takesOut 11 = .ok (.iaload, 1) := by decide +kernel
theorem dX12_takesOut_12 : decode cX12_takesOut 12 = .ok (.invokevirtual 323, 3) := by decide +kernel
theorem dX12_takesOut_15 : decode cX12_takesOut 15 = .ok (.aload_n 0, 1) := by decide +kernel
theorem dX12_takesOut_16 : decode cX12_takesOut 16 = .ok (.getfield 13, 3) := by decide +kernel
theorem dX12_takesOut_19 : decode cX12_takesOut 19 = .ok (.bipush 7, 2) := by decide +kernel
theorem dX12_takesOut_21 : decode cX12_takesOut 21 = .ok (.dup2, 1) := by decide +kernel
theorem dX12_takesOut_22 : decode cX12_takesOut 22 = .ok (.iaload, 1) := by decide +kernel
theorem dX12_takesOut_23 : decode cX12_takesOut 23 = .ok (.iconst 1, 1) := by decide +kernel
theorem dX12_takesOut_24 : decode cX12_takesOut 24 = .ok (.iload_n 1, 1) := by decide +kernel
theorem dX12_takesOut_25 : decode cX12_takesOut 25 = .ok (.ishl, 1) := by decide +kernel
theorem dX12_takesOut_26 : decode cX12_takesOut 26 = .ok (.iconst (-1), 1) := by decide +kernel
theorem dX12_takesOut_27 : decode cX12_takesOut 27 = .ok (.ixor, 1) := by decide +kernel
theorem dX12_takesOut_28 : decode cX12_takesOut 28 = .ok (.iand, 1) := by decide +kernel
theorem dX12_takesOut_29 : decode cX12_takesOut 29 = .ok (.iastore, 1) := by decide +kernel
theorem dX12_takesOut_30 : decode cX12_takesOut 30 = .ok (.aload_n 0, 1) := by decide +kernel
theorem dX12_takesOut_31 : decode cX12_takesOut 31 = .ok (.getfield 13, 3) := by decide +kernel
theorem dX12_takesOut_34 : decode cX12_takesOut 34 = .ok (.bipush 62, 2) := by decide +kernel
theorem dX12_takesOut_36 : decode cX12_takesOut 36 = .ok (.iload_n 1, 1) := by decide +kernel
theorem dX12_takesOut_37 : decode cX12_takesOut 37 = .ok (.iadd, 1) := by decide +kernel
theorem dX12_takesOut_38 : decode cX12_takesOut 38 = .ok (.iconst 0, 1) := by decide +kernel
theorem dX12_takesOut_39 : decode cX12_takesOut 39 = .ok (.iastore, 1) := by decide +kernel
theorem dX12_takesOut_40 : decode cX12_takesOut 40 = .ok (.return_, 1) := by decide +kernel
theorem dX12_pin_0 : decode cX12_pin 0 = .ok (.aload_n 0, 1) := by decide +kernel
theorem dX12_pin_1 : decode cX12_pin 1 = .ok (.iconst 0, 1) := by decide +kernel
theorem dX12_pin_2 : decode cX12_pin 2 = .ok (.putfield 3, 3) := by decide +kernel
theorem dX12_pin_5 : decode cX12_pin 5 = .ok (.aload_n 0, 1) := by decide +kernel
theorem dX12_pin_6 : decode cX12_pin 6 = .ok (.aload_n 0, 1) := by decide +kernel
theorem dX12_pin_7 : decode cX12_pin 7 = .ok (.iload_n 1, 1) := by decide +kernel
theorem dX12_pin_8 : decode cX12_pin 8 = .ok (.invokevirtual 311, 3) := by decide +kernel
theorem dX12_pin_11 : decode cX12_pin 11 = .ok (.iconst 1, 1) := by decide +kernel
theorem dX12_pin_12 : decode cX12_pin 12 = .ok (.invokevirtual 247, 3) := by decide +kernel
theorem dX12_pin_15 : decode cX12_pin 15 = .ok (.ifCond .eq 5, 3) := by decide +kernel
theorem dX12_pin_18 : decode cX12_pin 18 = .ok (.iconst 0, 1) := by decide +kernel
theorem dX12_pin_19 : decode cX12_pin 19 = .ok (.ireturn, 1) := by decide +kernel
theorem dX12_pin_20 : decode cX12_pin 20 = .ok (.aload_n 0, 1) := by decide +kernel
theorem dX12_pin_21 : decode cX12_pin 21 = .ok (.iload_n 1, 1) := by decide +kernel
theorem dX12_pin_22 : decode cX12_pin 22 = .ok (.iconst 0, 1) := by decide +kernel
theorem dX12_pin_23 : decode cX12_pin 23 = .ok (.invokevirtual 314, 3) := by decide +kernel
theorem dX12_pin_26 : decode cX12_pin 26 = .ok (.istore_n 2, 1) := by decide +kernel
theorem dX12_pin_27 : decode cX12_pin 27 = .ok (.aload_n 0, 1) := by decide +kernel
theorem dX12_pin_28 : decode cX12_pin 28 = .ok (.aload_n 0, 1) := by decide +kernel
theorem dX12_pin_29 : decode cX12_pin 29 = .ok (.iload_n 2, 1) := by decide +kernel
theorem dX12_pin_30 : decode cX12_pin 30 = .ok (.invokevirtual 268, 3) := by decide +kernel
theorem dX12_pin_33 : decode cX12_pin 33 = .ok (.ifCond .eq 20, 3) := by decide +kernel
theorem dX12_pin_36 : decode cX12_pin 36 = .ok (.aload_n 0, 1) := by decide +kernel
theorem dX12_pin_37 : decode cX12_pin 37 = .ok (.iload_n 2, 1) := by decide +kernel
theorem dX12_pin_38 : decode cX12_pin 38 = .ok (.invokevirtual 122, 3) := by decide +kernel
theorem dX12_pin_41 : decode cX12_pin 41 = .ok (.ifCond .ne 12, 3) := by decide +kernel
theorem dX12_pin_44 : decode cX12_pin 44 = .ok (.aload_n 0, 1) := by decide +kernel
theorem dX12_pin_45 : decode cX12_pin 45 = .ok (.iload_n 1, 1) := by decide +kernel
theorem dX12_pin_46 : decode cX12_pin 46 = .ok (.iconst 2, 1) := by decide +kernel
theorem dX12_pin_47 : decode cX12_pin 47 = .ok (.invokevirtual 314, 3) := by decide +kernel
theorem dX12_pin_50 : decode cX12_pin 50 = .ok (.ifCond .ne 7, 3) := by decide +kernel
theorem dX12_pin_53 : decode cX12_pin 53 = .ok (.iconst 1, 1) := by decide +kernel
theorem dX12_pin_54 : decode cX12_pin 54 = .ok (.goto 4, 3) := by decide +kernel
theorem dX12_pin_57 : decode cX12_pin 57 = .ok (.iconst 0, 1) := by decide +kernel
theorem dX12_pin_58 : decode cX12_pin 58 = .ok (.iconst 2, 1) := by decide +kernel
theorem dX12_pin_59 : decode cX12_pin 59 = .ok (.invokevirtual 247, 3) := by decide +kernel
theorem dX12_pin_62 : decode cX12_pin 62 = .ok (.ifCond .eq 5, 3) := by decide +kernel
theorem dX12_pin_65 : decode cX12_pin 65 = .ok (.iconst 0, 1) := by decide +kernel
theorem dX12_pin_66 : decode cX12_pin 66 = .ok (.ireturn, 1) := by decide +kernel
theorem dX12_pin_67 : decode cX12_pin 67 = .ok (.aload_n 0, 1) := by decide +kernel
theorem dX12_pin_68 : decode cX12_pin 68 = .ok (.invokevirtual 327, 3) := by decide +kernel
theorem dX12_pin_71 : decode cX12_pin 71 = .ok (.aload_n 0, 1) := by decide +kernel
theorem dX12_pin_72 : decode cX12_pin 72 = .ok (.getfield 13, 3) := by decide +kernel
theorem dX12_pin_75 : decode cX12_pin 75 = .ok (.iload_n 1, 1) := by decide +kernel
theorem dX12_pin_76 : decode cX12_pin 76 = .ok (.iconst 2, 1) := by decide +kernel
theorem dX12_pin_77 : decode cX12_pin 77 = .ok (.invokestatic 61, 3) := by decide +kernel
theorem dX12_pin_80 : decode cX12_pin 80 = .ok (.dup2, 1) := by decide +kernel
theorem dX12_pin_81 : decode cX12_pin 81 = .ok (.iaload, 1) := by decide +kernel
theorem dX12_pin_82 : decode cX12_pin 82 = .ok (.iconst 1, 1) := by decide +kernel
theorem dX12_pin_83 : decode cX12_pin 83 = .ok (.isub, 1) := by decide +kernel
theorem dX12_pin_84 : decode cX12_pin 84 = .ok (.iastore, 1) := by decide +kernel
theorem dX12_pin_85 : decode cX12_pin 85 = .ok (.aload_n 0, 1) := by decide +kernel
theorem dX12_pin_86 : decode cX12_pin 86 = .ok (.getfield 13, 3) := by decide +kernel
theorem dX12_pin_89 : decode cX12_pin 89 = .ok (.bipush 7, 2) := by decide +kernel
theorem dX12_pin_91 : decode cX12_pin 91 = .ok (.dup2, 1) := by decide +kernel
theorem dX12_pin_92 : decode cX12_pin 92 = .ok (.iaload, 1) := by decide +kernel
theorem dX12_pin_93 : decode cX12_pin 93 = .ok (.iconst 1, 1) := by decide +kernel
theorem dX12_pin_94 : decode cX12_pin 94 = .ok (.iload_n 2, 1) := by decide +kernel
theorem dX12_pin_95 : decode cX12_pin 95 = .ok (.ishl, 1) := by decide +kernel
theorem dX12_pin_96 : decode cX12_pin 96 = .ok (.ior, 1) := by decide +kernel
theorem dX12_pin_97 : decode cX12_pin 97 = .ok (.iastore, 1) := by decide +kernel
theorem dX12_pin_98 : decode cX12_pin 98 = .ok (.aload_n 0, 1) := by decide +kernel
theorem dX12_pin_99 : decode cX12_pin 99 = .ok (.getfield 13, 3) := by decide +kernel
theorem dX12_pin_102 : decode cX12_pin 102 = .ok (.bipush 62, 2) := by decide +kernel
theorem dX12_pin_104 : decode cX12_pin 104 = .ok (.iload_n 2, 1) := by decide +kernel
theorem dX12_pin_105 : decode cX12_pin 105 = .ok (.iadd, 1) := by decide +kernel
theorem dX12_pin_106 : decode cX12_pin 106 = .ok (.iconst 0, 1) := by decide +kernel
theorem dX12_pin_107 : decode cX12_pin 107 = .ok (.iastore, 1) := by decide +kernel
theorem dX12_pin_108 : decode cX12_pin 108 = .ok (.aload_n 0, 1) := by decide +kernel
theorem dX12_pin_109 : decode cX12_pin 109 = .ok (.iload_n 2, 1) := by decide +kernel
theorem dX12_pin_110 : decode cX12_pin 110 = .ok (.iconst 0, 1) := by decide +kernel
theorem dX12_pin_111 : decode cX12_pin 111 = .ok (.iconst 0, 1) := by decide +kernel
theorem dX12_pin_112 : decode cX12_pin 112 = .ok (.invokevirtual 323, 3) := by decide +kernel
theorem dX12_pin_115 : decode cX12_pin 115 = .ok (.iload_n 2, 1) := by decide +kernel
theorem dX12_pin_116 : decode cX12_pin 116 = .ok (.ireturn, 1) := by decide +kernel
theorem dX12_change_0 : decode cX12_change 0 = .ok (.aload_n 0, 1) := by decide +kernel
theorem dX12_change_1 : decode cX12_change 1 = .ok (.iconst 0, 1) := by decide +kernel
theorem dX12_change_2 : decode cX12_change 2 = .ok (.putfield 3, 3) := by decide +kernel
theorem dX12_change_5 : decode cX12_change 5 = .ok (.aload_n 0, 1) := by decide +kernel
theorem dX12_change_6 : decode cX12_change 6 = .ok (.aload_n 0, 1) := by decide +kernel
theorem dX12_change_7 : decode cX12_change 7 = .ok (.iload_n 1, 1) := by decide +kernel
theorem dX12_change_8 : decode cX12_change 8 = .ok (.invokevirtual 311, 3) := by decide +kernel
theorem dX12_change_11 : decode cX12_change 11 = .ok (.iconst 1, 1) := by decide +kernel
theorem dX12_change_12 : decode cX12_change 12 = .ok (.invokevirtual 247, 3) := by decide +kernel
theorem dX12_change_15 : decode cX12_change 15 = .ok (.ifCond .eq 5, 3) := by decide +kernel
theorem dX12_change_18 : decode cX12_change 18 = .ok (.iconst 0, 1) := by decide +kernel
theorem dX12_change_19 : decode cX12_change 19 = .ok (.ireturn, 1) := by decide +kernel
theorem dX12_change_20 : decode cX12_change 20 = .ok (.aload_n 0, 1) := by decide +kernel
theorem dX12_change_21 : decode cX12_change 21 = .ok (.iload_n 1, 1) := by decide +kernel
theorem dX12_change_22 : decode cX12_change 22 = .ok (.iconst 0, 1) := by decide +kernel
theorem dX12_change_23 : decode cX12_change 23 = .ok (.invokevirtual 314, 3) := by decide +kernel
theorem dX12_change_26 : decode cX12_change 26 = .ok (.istore_n 2, 1) := by decide +kernel
theorem dX12_change_27 : decode cX12_change 27 = .ok (.aload_n 0, 1) := by decide +kernel
theorem dX12_change_28 : decode cX12_change 28 = .ok (.aload_n 0, 1) := by decide +kernel
theorem dX12_change_29 : decode cX12_change 29 = .ok (.iload_n 2, 1) := by decide +kernel
theorem dX12_change_30 : decode cX12_change 30 = .ok (.invokevirtual 268, 3) := by decide +kernel
theorem dX12_change_33 : decode cX12_change 33 = .ok (.ifCond .eq 20, 3) := by decide +kernel
theorem dX12_change_36 : decode cX12_change 36 = .ok (.aload_n 0, 1) := by decide +kernel
theorem dX12_change_37 : decode cX12_change 37 = .ok (.iload_n 2, 1) := by decide +kernel
theorem dX12_change_38 : decode cX12_change 38 = .ok (.invokevirtual 122, 3) := by decide +kernel
theorem dX12_change_41 : decode cX12_change 41 = .ok (.ifCond .eq 12, 3) := by decide +kernel
theorem dX12_change_44 : decode cX12_change 44 = .ok (.aload_n 0, 1) := by decide +kernel
theorem dX12_change_45 : decode cX12_change 45 = .ok (.iload_n 1, 1) := by decide +kernel
theorem dX12_change_46 : decode cX12_change 46 = .ok (.iconst 2, 1) := by decide +kernel
theorem dX12_change_47 : decode cX12_change 47 = .ok (.invokevirtual 314, 3) := by decide +kernel
theorem dX12_change_50 : decode cX12_change 50 = .ok (.ifCond .ne 7, 3) := by decide +kernel
theorem dX12_change_53 : decode cX12_change 53 = .ok (.iconst 1, 1) := by decide +kernel
theorem dX12_change_54 : decode cX12_change 54 = .ok (.goto 4, 3) := by decide +kernel
theorem dX12_change_57 : decode cX12_change 57 = .ok (.iconst 0, 1) := by decide +kernel
theorem dX12_change_58 : decode cX12_change 58 = .ok (.iconst 2, 1) := by decide +kernel
theorem dX12_change_59 : decode cX12_change 59 = .ok (.invokevirtual 247, 3) := by decide +kernel
theorem dX12_change_62 : decode cX12_change 62 = .ok (.ifCond .eq 5, 3) := by decide +kernel
theorem dX12_change_65 : decode cX12_change 65 = .ok (.iconst 0, 1) := by decide +kernel
theorem dX12_change_66 : decode cX12_change 66 = .ok (.ireturn, 1) := by decide +kernel
theorem dX12_change_67 : decode cX12_change 67 = .ok (.aload_n 0, 1) := by decide +kernel
theorem dX12_change_68 : decode cX12_change 68 = .ok (.invokevirtual 327, 3) := by decide +kernel
theorem dX12_change_71 : decode cX12_change 71 = .ok (.aload_n 0, 1) := by decide +kernel
theorem dX12_change_72 : decode cX12_change 72 = .ok (.getfield 13, 3) := by decide +kernel
theorem dX12_change_75 : decode cX12_change 75 = .ok (.bipush 62, 2) := by decide +kernel
theorem dX12_change_77 : decode cX12_change 77 = .ok (.iload_n 2, 1) := by decide +kernel
theorem dX12_change_78 : decode cX12_change 78 = .ok (.iadd, 1) := by decide +kernel
theorem dX12_change_79 : decode cX12_change 79 = .ok (.iaload, 1) := by decide +kernel
theorem dX12_change_80 : decode cX12_change 80 = .ok (.istore_n 3, 1) := by decide +kernel
theorem dX12_change_81 : decode cX12_change 81 = .ok (.aload_n 0, 1) := by decide +kernel
theorem dX12_change_82 : decode cX12_change 82 = .ok (.getfield 13, 3) := by decide +kernel
theorem dX12_change_85 : decode cX12_change 85 = .ok (.iload_n 1, 1) := by decide +kernel
theorem dX12_change_86 : decode cX12_change 86 = .ok (.iconst 2, 1) := by decide +kernel
theorem dX12_change_87 : decode cX12_change 87 = .ok (.invokestatic 61, 3) := by decide +kernel
theorem dX12_change_90 : decode cX12_change 90 = .ok (.dup2, 1) := by decide +kernel
theorem dX12_change_91 : decode cX12_change 91 = .ok (.iaload, 1) := by decide +kernel
theorem dX12_change_92 : decode cX12_change 92 = .ok (.iconst 1, 1) := by decide +kernel
theorem dX12_change_93 : decode cX12_change 93 = .ok (.isub, 1) := by decide +kernel
theorem dX12_change_94 : decode cX12_change 94 = .ok (.iastore, 1) := by decide +kernel
theorem dX12_change_95 : decode cX12_change 95 = .ok (.aload_n 0, 1) := by decide +kernel
theorem dX12_change_96 : decode cX12_change 96 = .ok (.getfield 13, 3) := by decide +kernel
theorem dX12_change_99 : decode cX12_change 99 = .ok (.bipush 62, 2) := by decide +kernel
theorem dX12_change_101 : decode cX12_change 101 = .ok (.iload_n 2, 1) := by decide +kernel
theorem dX12_change_102 : decode cX12_change 102 = .ok (.iadd, 1) := by decide +kernel
theorem dX12_change_103 : decode cX12_change 103 = .ok (.iconst 0, 1) := by decide +kernel
theorem dX12_change_104 : decode cX12_change 104 = .ok (.iastore, 1) := by decide +kernel
theorem dX12_change_105 : decode cX12_change 105 = .ok (.aload_n 0, 1) := by decide +kernel
theorem dX12_change_106 : decode cX12_change 106 = .ok (.iload_n 2, 1) := by decide +kernel
theorem dX12_change_107 : decode cX12_change 107 = .ok (.iconst 1, 1) := by decide +kernel
theorem dX12_change_108 : decode cX12_change 108 = .ok (.iload_n 3, 1) := by decide +kernel
theorem dX12_change_109 : decode cX12_change 109 = .ok (.invokevirtual 323, 3) := by decide +kernel
theorem dX12_change_112 : decode cX12_change 112 = .ok (.iload_n 3, 1) := by decide +kernel
theorem dX12_change_113 : decode cX12_change 113 = .ok (.ireturn, 1) := by decide +kernel
theorem dX12_go_0 : decode cX12_go 0 = .ok (.aload_n 0, 1) := by decide +kernel
theorem dX12_go_1 : decode cX12_go 1 = .ok (.iconst 0, 1) := by decide +kernel
theorem dX12_go_2 : decode cX12_go 2 = .ok (.putfield 3, 3) := by decide +kernel
theorem dX12_go_5 : decode cX12_go 5 = .ok (.aload_n 0, 1) := by decide +kernel
theorem dX12_go_6 : decode cX12_go 6 = .ok (.aload_n 0, 1) := by decide +kernel
theorem dX12_go_7 : decode cX12_go 7 = .ok (.iload_n 1, 1) := by decide +kernel
theorem dX12_go_8 : decode cX12_go 8 = .ok (.invokevirtual 311, 3) := by decide +kernel
theorem dX12_go_11 : decode cX12_go 11 = .ok (.ifCond .ne 10, 3) := by decide +kernel
theorem dX12_go_14 : decode cX12_go 14 = .ok (.iload_n 2, 1) := by decide +kernel
theorem dX12_go_15 : decode cX12_go 15 = .ok (.invokestatic 305, 3) := by decide +kernel
theorem dX12_go_18 : decode cX12_go 18 = .ok (.ifCond .eq 7, 3) := by decide +kernel
theorem dX12_go_21 : decode cX12_go 21 = .ok (.iconst 1, 1) := by decide +kernel
theorem dX12_go_22 : decode cX12_go 22 = .ok (.goto 4, 3) := by decide +kernel
theorem dX12_go_25 : decode cX12_go 25 = .ok (.iconst 0, 1) := by decide +kernel
theorem dX12_go_26 : decode cX12_go 26 = .ok (.iconst 1, 1) := by decide +kernel
theorem dX12_go_27 : decode cX12_go 27 = .ok (.invokevirtual 247, 3) := by decide +kernel
theorem dX12_go_30 : decode cX12_go 30 = .ok (.ifCond .eq 5, 3) := by decide +kernel
theorem dX12_go_33 : decode cX12_go 33 = .ok (.iconst 0, 1) := by decide +kernel
theorem dX12_go_34 : decode cX12_go 34 = .ok (.ireturn, 1) := by decide +kernel
theorem dX12_go_35 : decode cX12_go 35 = .ok (.aload_n 0, 1) := by decide +kernel
theorem dX12_go_36 : decode cX12_go 36 = .ok (.iload_n 1, 1) := by decide +kernel
theorem dX12_go_37 : decode cX12_go 37 = .ok (.iconst 0, 1) := by decide +kernel
theorem dX12_go_38 : decode cX12_go 38 = .ok (.invokevirtual 314, 3) := by decide +kernel
theorem dX12_go_41 : decode cX12_go 41 = .ok (.iload_n 2, 1) := by decide +kernel
theorem dX12_go_42 : decode cX12_go 42 = .ok (.isub, 1) := by decide +kernel
theorem dX12_go_43 : decode cX12_go 43 = .ok (.invokestatic 253, 3) := by decide +kernel
theorem dX12_go_46 : decode cX12_go 46 = .ok (.istore_n 3, 1) := by decide +kernel
theorem dX12_go_47 : decode cX12_go 47 = .ok (.aload_n 0, 1) := by decide +kernel
theorem dX12_go_48 : decode cX12_go 48 = .ok (.iload_n 3, 1) := by decide +kernel
theorem dX12_go_49 : decode cX12_go 49 = .ok (.aload_n 0, 1) := by decide +kernel
theorem dX12_go_50 : decode cX12_go 50 = .ok (.iload_n 1, 1) := by decide +kernel
theorem dX12_go_51 : decode cX12_go 51 = .ok (.iconst 1, 1) := by decide +kernel
theorem dX12_go_52 : decode cX12_go 52 = .ok (.invokevirtual 314, 3) := by decide +kernel
theorem dX12_go_55 : decode cX12_go 55 = .ok (.if_icmp .le 7, 3) := by decide +kernel
theorem dX12_go_58 : decode cX12_go 58 = .ok (.iconst 1, 1) := by decide +kernel
theorem dX12_go_59 : decode cX12_go 59 = .ok (.goto 4, 3) := by decide +kernel
theorem dX12_go_62 : decode cX12_go 62 = .ok (.iconst 0, 1) := by decide +kernel
theorem dX12_go_63 : decode cX12_go 63 = .ok (.iconst 2, 1) := by decide +kernel
theorem dX12_go_64 : decode cX12_go 64 = .ok (.invokevirtual 247, 3) := by decide +kernel
theorem dX12_go_67 : decode cX12_go 67 = .ok (.ifCond .eq 5, 3) := by decide +kernel
theorem dX12_go_70 : decode cX12_go 70 = .ok (.iconst 0, 1) := by decide +kernel
theorem dX12_go_71 : decode cX12_go 71 = .ok (.ireturn, 1) := by decide +kernel
theorem dX12_go_72 : decode cX12_go 72 = .ok (.aload_n 0, 1) := by decide +kernel
theorem dX12_go_73 : decode cX12_go 73 = .ok (.invokevirtual 327, 3) := by decide +kernel
theorem dX12_go_76 : decode cX12_go 76 = .ok (.aload_n 0, 1) := by decide +kernel
theorem dX12_go_77 : decode cX12_go 77 = .ok (.getfield 13, 3) := by decide +kernel
theorem dX12_go_80 : decode cX12_go 80 = .ok (.iload_n 1, 1) := by decide +kernel
theorem dX12_go_81 : decode cX12_go 81 = .ok (.iconst 0, 1) := by decide +kernel
theorem dX12_go_82 : decode cX12_go 82 = .ok (.invokestatic 61, 3) := by decide +kernel
theorem dX12_go_85 : decode cX12_go 85 = .ok (.iload_n 2, 1) := by decide +kernel
theorem dX12_go_86 : decode cX12_go 86 = .ok (.iastore, 1) := by decide +kernel
theorem dX12_go_87 : decode cX12_go 87 = .ok (.iload_n 3, 1) := by decide +kernel
theorem dX12_go_88 : decode cX12_go 88 = .ok (.ireturn, 1) := by decide +kernel
theorem dX12_pull_0 : decode cX12_pull 0 = .ok (.aload_n 0, 1) := by decide +kernel
theorem dX12_pull_1 : decode cX12_pull 1 = .ok (.iconst 0, 1) := by decide +kernel
theorem dX12_pull_2 : decode cX12_pull 2 = .ok (.putfield 3, 3) := by decide +kernel
theorem dX12_pull_5 : decode cX12_pull 5 = .ok (.aload_n 0, 1) := by decide +kernel
theorem dX12_pull_6 : decode cX12_pull 6 = .ok (.iload_n 1, 1) := by decide +kernel
theorem dX12_pull_7 : decode cX12_pull 7 = .ok (.invokestatic 305, 3) := by decide +kernel
theorem dX12_pull_10 : decode cX12_pull 10 = .ok (.iconst 1, 1) := by decide +kernel
theorem dX12_pull_11 : decode cX12_pull 11 = .ok (.invokevirtual 247, 3) := by decide +kernel
theorem dX12_pull_14 : decode cX12_pull 14 = .ok (.ifCond .ne 24, 3) := by decide +kernel
theorem dX12_pull_17 : decode cX12_pull 17 = .ok (.aload_n 0, 1) := by decide +kernel
theorem dX12_pull_18 : decode cX12_pull 18 = .ok (.aload_n 0, 1) := by decide +kernel
theorem dX12_pull_19 : decode cX12_pull 19 = .ok (.iload_n 1, 1) := by decide +kernel
theorem dX12_pull_20 : decode cX12_pull 20 = .ok (.invokevirtual 122, 3) := by decide +kernel
theorem dX12_pull_23 : decode cX12_pull 23 = .ok (.ifCond .ne 7, 3) := by decide +kernel
theorem dX12_pull_26 : decode cX12_pull 26 = .ok (.iconst 1, 1) := by decide +kernel
theorem dX12_pull_27 : decode cX12_pull 27 = .ok (.goto 4, 3) := by decide +kernel
theorem dX12_pull_30 : decode cX12_pull 30 = .ok (.iconst 0, 1) := by decide +kernel
theorem dX12_pull_31 : decode cX12_pull 31 = .ok (.iconst 2, 1) := by decide +kernel
theorem dX12_pull_32 : decode cX12_pull 32 = .ok (.invokevirtual 247, 3) := by decide +kernel
theorem dX12_pull_35 : decode cX12_pull 35 = .ok (.ifCond .eq 5, 3) := by decide +kernel
theorem dX12_pull_38 : decode cX12_pull 38 = .ok (.iconst 0, 1) := by decide +kernel
theorem dX12_pull_39 : decode cX12_pull 39 = .ok (.ireturn, 1) := by decide +kernel
theorem dX12_pull_40 : decode cX12_pull 40 = .ok (.aload_n 0, 1) := by decide +kernel
theorem dX12_pull_41 : decode cX12_pull 41 = .ok (.invokevirtual 327, 3) := by decide +kernel
theorem dX12_pull_44 : decode cX12_pull 44 = .ok (.aload_n 0, 1) := by decide +kernel
theorem dX12_pull_45 : decode cX12_pull 45 = .ok (.getfield 13, 3) := by decide +kernel
theorem dX12_pull_48 : decode cX12_pull 48 = .ok (.bipush 62, 2) := by decide +kernel
theorem dX12_pull_50 : decode cX12_pull 50 = .ok (.iload_n 1, 1) := by decide +kernel
theorem dX12_pull_51 : decode cX12_pull 51 = .ok (.iadd, 1) := by decide +kernel
theorem dX12_pull_52 : decode cX12_pull 52 = .ok (.iaload, 1) := by decide +kernel
theorem dX12_pull_53 : decode cX12_pull 53 = .ok (.istore_n 2, 1) := by decide +kernel
theorem dX12_pull_54 : decode cX12_pull 54 = .ok (.aload_n 0, 1) := by decide +kernel
theorem dX12_pull_55 : decode cX12_pull 55 = .ok (.iload_n 1, 1) := by decide +kernel
theorem dX12_pull_56 : decode cX12_pull 56 = .ok (.iconst 2, 1) := by decide +kernel
theorem dX12_pull_57 : decode cX12_pull 57 = .ok (.invokevirtual 330, 3) := by decide +kernel
theorem dX12_pull_60 : decode cX12_pull 60 = .ok (.aload_n 0, 1) := by decide +kernel
theorem dX12_pull_61 : decode cX12_pull 61 = .ok (.getfield 13, 3) := by decide +kernel
theorem dX12_pull_64 : decode cX12_pull 64 = .ok (.bipush 6, 2) := by decide +kernel
theorem dX12_pull_66 : decode cX12_pull 66 = .ok (.sipush 999, 3) := by decide +kernel
theorem dX12_pull_69 : decode cX12_pull 69 = .ok (.aload_n 0, 1) := by decide +kernel
theorem dX12_pull_70 : decode cX12_pull 70 = .ok (.getfield 13, 3) := by decide +kernel
theorem dX12_pull_73 : decode cX12_pull 73 = .ok (.bipush 6, 2) := by decide +kernel
theorem dX12_pull_75 : decode cX12_pull 75 = .ok (.iaload, 1) := by decide +kernel
theorem dX12_pull_76 : decode cX12_pull 76 = .ok (.iconst 1, 1) := by decide +kernel
theorem dX12_pull_77 : decode cX12_pull 77 = .ok (.iadd, 1) := by decide +kernel
theorem dX12_pull_78 : decode cX12_pull 78 = .ok (.invokestatic 259, 3) := by decide +kernel
theorem dX12_pull_81 : decode cX12_pull 81 = .ok (.iastore, 1) := by decide +kernel
theorem dX12_pull_82 : decode cX12_pull 82 = .ok (.iload_n 2, 1) := by decide +kernel
theorem dX12_pull_83 : decode cX12_pull 83 = .ok (.ireturn, 1) := by decide +kernel
theorem dX12_hand_0 : decode cX12_hand 0 = .ok (.aload_n 0, 1) := by decide +kernel
theorem dX12_hand_1 : decode cX12_hand 1 = .ok (.iconst 0, 1) := by decide +kernel
theorem dX12_hand_2 : decode cX12_hand 2 = .ok (.putfield 3, 3) := by decide +kernel
theorem dX12_hand_5 : decode cX12_hand 5 = .ok (.aload_n 0, 1) := by decide +kernel
theorem dX12_hand_6 : decode cX12_hand 6 = .ok (.aload_n 0, 1) := by decide +kernel
theorem dX12_hand_7 : decode cX12_hand 7 = .ok (.iload_n 1, 1) := by decide +kernel
theorem dX12_hand_8 : decode cX12_hand 8 = .ok (.invokevirtual 311, 3) := by decide +kernel
theorem dX12_hand_11 : decode cX12_hand 11 = .ok (.iconst 1, 1) := by decide +kernel
theorem dX12_hand_12 : decode cX12_hand 12 = .ok (.invokevirtual 247, 3) := by decide +kernel
theorem dX12_hand_15 : decode cX12_hand 15 = .ok (.ifCond .ne 63, 3) := by decide +kernel
theorem dX12_hand_18 : decode cX12_hand 18 = .ok (.aload_n 0, 1) := by decide +kernel
theorem dX12_hand_19 : decode cX12_hand 19 = .ok (.iload_n 2, 1) := by decide +kernel
theorem dX12_hand_20 : decode cX12_hand 20 = .ok (.iconst 1, 1) := by decide +kernel
theorem dX12_hand_21 : decode cX12_hand 21 = .ok (.bipush 30, 2) := by decide +kernel
theorem dX12_hand_23 : decode cX12_hand 23 = .ok (.invokestatic 76, 3) := by decide +kernel
theorem dX12_hand_26 : decode cX12_hand 26 = .ok (.ifCond .ne 7, 3) := by decide +kernel
theorem dX12_hand_29 : decode cX12_hand 29 = .ok (.iconst 1, 1) := by decide +kernel
theorem dX12_hand_30 : decode cX12_hand 30 = .ok (.goto 4, 3) := by decide +kernel
theorem dX12_hand_33 : decode cX12_hand 33 = .ok (.iconst 0, 1) := by decide +kernel
theorem dX12_hand_34 : decode cX12_hand 34 = .ok (.iconst 2, 1) := by decide +kernel
theorem dX12_hand_35 : decode cX12_hand 35 = .ok (.invokevirtual 247, 3) := by decide +kernel
theorem dX12_hand_38 : decode cX12_hand 38 = .ok (.ifCond .ne 40, 3) := by decide +kernel
theorem dX12_hand_41 : decode cX12_hand 41 = .ok (.aload_n 0, 1) := by decide +kernel
theorem dX12_hand_42 : decode cX12_hand 42 = .ok (.aload_n 0, 1) := by decide +kernel
theorem dX12_hand_43 : decode cX12_hand 43 = .ok (.getfield 13, 3) := by decide +kernel
theorem dX12_hand_46 : decode cX12_hand 46 = .ok (.bipush 6, 2) := by decide +kernel
theorem dX12_hand_48 : decode cX12_hand 48 = .ok (.iaload, 1) := by decide +kernel
theorem dX12_hand_49 : decode cX12_hand 49 = .ok (.iload_n 2, 1) := by decide +kernel
theorem dX12_hand_50 : decode cX12_hand 50 = .ok (.if_icmp .lt 16, 3) := by decide +kernel
theorem dX12_hand_53 : decode cX12_hand 53 = .ok (.aload_n 0, 1) := by decide +kernel
theorem dX12_hand_54 : decode cX12_hand 54 = .ok (.iload_n 1, 1) := by decide +kernel
theorem dX12_hand_55 : decode cX12_hand 55 = .ok (.iconst 2, 1) := by decide +kernel
theorem dX12_hand_56 : decode cX12_hand 56 = .ok (.invokevirtual 314, 3) := by decide +kernel
theorem dX12_hand_59 : decode cX12_hand 59 = .ok (.iload_n 2, 1) := by decide +kernel
theorem dX12_hand_60 : decode cX12_hand 60 = .ok (.iadd, 1) := by decide +kernel
theorem dX12_hand_61 : decode cX12_hand 61 = .ok (.bipush 30, 2) := by decide +kernel
theorem dX12_hand_63 : decode cX12_hand 63 = .ok (.if_icmp .le 7, 3) := by decide +kernel
theorem dX12_hand_66 : decode cX12_hand 66 = .ok (.iconst 1, 1) := by decide +kernel
theorem dX12_hand_67 : decode cX12_hand 67 = .ok (.goto 4, 3) := by decide +kernel
theorem dX12_hand_70 : decode cX12_hand 70 = .ok (.iconst 0, 1) := by decide +kernel
theorem dX12_hand_71 : decode cX12_hand 71 = .ok (.iconst 3, 1) := by decide +kernel
theorem dX12_hand_72 : decode cX12_hand 72 = .ok (.invokevirtual 247, 3) := by decide +kernel
theorem dX12_hand_75 : decode cX12_hand 75 = .ok (.ifCond .eq 5, 3) := by decide +kernel
theorem dX12_hand_78 : decode cX12_hand 78 = .ok (.iconst 0, 1) := by decide +kernel
theorem dX12_hand_79 : decode cX12_hand 79 = .ok (.ireturn, 1) := by decide +kernel
theorem dX12_hand_80 : decode cX12_hand 80 = .ok (.aload_n 0, 1) := by decide +kernel
theorem dX12_hand_81 : decode cX12_hand 81 = .ok (.invokevirtual 327, 3) := by decide +kernel
theorem dX12_hand_84 : decode cX12_hand 84 = .ok (.aload_n 0, 1) := by decide +kernel
theorem dX12_hand_85 : decode cX12_hand 85 = .ok (.getfield 13, 3) := by decide +kernel
theorem dX12_hand_88 : decode cX12_hand 88 = .ok (.bipush 6, 2) := by decide +kernel
theorem dX12_hand_90 : decode cX12_hand 90 = .ok (.dup2, 1) := by decide +kernel
theorem dX12_hand_91 : decode cX12_hand 91 = .ok (.iaload, 1) := by decide +kernel
theorem dX12_hand_92 : decode cX12_hand 92 = .ok (.iload_n 2, 1) := by decide +kernel
theorem dX12_hand_93 : decode cX12_hand 93 = .ok (.isub, 1) := by decide +kernel
theorem dX12_hand_94 : decode cX12_hand 94 = .ok (.iastore, 1) := by decide +kernel
theorem dX12_hand_95 : decode cX12_hand 95 = .ok (.aload_n 0, 1) := by decide +kernel
theorem dX12_hand_96 : decode cX12_hand 96 = .ok (.getfield 13, 3) := by decide +kernel
theorem dX12_hand_99 : decode cX12_hand 99 = .ok (.iload_n 1, 1) := by decide +kernel
theorem dX12_hand_100 : decode cX12_hand 100 = .ok (.iconst 2, 1) := by decide +kernel
theorem dX12_hand_101 : decode cX12_hand 101 = .ok (.invokestatic 61, 3) := by decide +kernel
theorem dX12_hand_104 : decode cX12_hand 104 = .ok (.dup2, 1) := by decide +kernel
theorem dX12_hand_105 : decode cX12_hand 105 = .ok (.iaload, 1) := by decide +kernel
theorem dX12_hand_106 : decode cX12_hand 106 = .ok (.iload_n 2, 1) := by decide +kernel
theorem dX12_hand_107 : decode cX12_hand 107 = .ok (.iadd, 1) := by decide +kernel
theorem dX12_hand_108 : decode cX12_hand 108 = .ok (.iastore, 1) := by decide +kernel
theorem dX12_hand_109 : decode cX12_hand 109 = .ok (.aload_n 0, 1) := by decide +kernel
theorem dX12_hand_110 : decode cX12_hand 110 = .ok (.iload_n 1, 1) := by decide +kernel
theorem dX12_hand_111 : decode cX12_hand 111 = .ok (.iconst 2, 1) := by decide +kernel
theorem dX12_hand_112 : decode cX12_hand 112 = .ok (.invokevirtual 314, 3) := by decide +kernel
theorem dX12_hand_115 : decode cX12_hand 115 = .ok (.ireturn, 1) := by decide +kernel
theorem dX12_fell_0 : decode cX12_fell 0 = .ok (.aload_n 0, 1) := by decide +kernel
theorem dX12_fell_1 : decode cX12_fell 1 = .ok (.iconst 0, 1) := by decide +kernel
theorem dX12_fell_2 : decode cX12_fell 2 = .ok (.putfield 3, 3) := by decide +kernel
theorem dX12_fell_5 : decode cX12_fell 5 = .ok (.aload_n 0, 1) := by decide +kernel
theorem dX12_fell_6 : decode cX12_fell 6 = .ok (.iload_n 1, 1) := by decide +kernel
theorem dX12_fell_7 : decode cX12_fell 7 = .ok (.invokestatic 305, 3) := by decide +kernel
theorem dX12_fell_10 : decode cX12_fell 10 = .ok (.iconst 1, 1) := by decide +kernel
theorem dX12_fell_11 : decode cX12_fell 11 = .ok (.invokevirtual 247, 3) := by decide +kernel
theorem dX12_fell_14 : decode cX12_fell 14 = .ok (.ifCond .eq 5, 3) := by decide +kernel
theorem dX12_fell_17 : decode cX12_fell 17 = .ok (.iconst 0, 1) := by decide +kernel
theorem dX12_fell_18 : decode cX12_fell 18 = .ok (.ireturn, 1) := by decide +kernel
theorem dX12_fell_19 : decode cX12_fell 19 = .ok (.aload_n 0, 1) := by decide +kernel
theorem dX12_fell_20 : decode cX12_fell 20 = .ok (.invokevirtual 327, 3) := by decide +kernel
theorem dX12_fell_23 : decode cX12_fell 23 = .ok (.aload_n 0, 1) := by decide +kernel
theorem dX12_fell_24 : decode cX12_fell 24 = .ok (.getfield 13, 3) := by decide +kernel
theorem dX12_fell_27 : decode cX12_fell 27 = .ok (.bipush 46, 2) := by decide +kernel
theorem dX12_fell_29 : decode cX12_fell 29 = .ok (.iload_n 1, 1) := by decide +kernel
theorem dX12_fell_30 : decode cX12_fell 30 = .ok (.iadd, 1) := by decide +kernel
theorem dX12_fell_31 : decode cX12_fell 31 = .ok (.iaload, 1) := by decide +kernel
theorem dX12_fell_32 : decode cX12_fell 32 = .ok (.istore_n 2, 1) := by decide +kernel
theorem dX12_fell_33 : decode cX12_fell 33 = .ok (.aload_n 0, 1) := by decide +kernel
theorem dX12_fell_34 : decode cX12_fell 34 = .ok (.getfield 13, 3) := by decide +kernel
theorem dX12_fell_37 : decode cX12_fell 37 = .ok (.bipush 46, 2) := by decide +kernel
theorem dX12_fell_39 : decode cX12_fell 39 = .ok (.iload_n 1, 1) := by decide +kernel
theorem dX12_fell_40 : decode cX12_fell 40 = .ok (.iadd, 1) := by decide +kernel
theorem dX12_fell_41 : decode cX12_fell 41 = .ok (.iconst 0, 1) := by decide +kernel
theorem dX12_fell_42 : decode cX12_fell 42 = .ok (.iastore, 1) := by decide +kernel
theorem dX12_fell_43 : decode cX12_fell 43 = .ok (.iload_n 2, 1) := by decide +kernel
theorem dX12_fell_44 : decode cX12_fell 44 = .ok (.ireturn, 1) := by decide +kernel
theorem dX12_height_0 : decode cX12_height 0 = .ok (.aload_n 0, 1) := by decide +kernel
theorem dX12_height_1 : decode cX12_height 1 = .ok (.iconst 0, 1) := by decide +kernel
theorem dX12_height_2 : decode cX12_height 2 = .ok (.putfield 3, 3) := by decide +kernel
theorem dX12_height_5 : decode cX12_height 5 = .ok (.aload_n 0, 1) := by decide +kernel
theorem dX12_height_6 : decode cX12_height 6 = .ok (.iload_n 1, 1) := by decide +kernel
theorem dX12_height_7 : decode cX12_height 7 = .ok (.iconst 1, 1) := by decide +kernel
theorem dX12_height_8 : decode cX12_height 8 = .ok (.bipush 40, 2) := by decide +kernel
theorem dX12_height_10 : decode cX12_height 10 = .ok (.invokestatic 76, 3) := by decide +kernel
theorem dX12_height_13 : decode cX12_height 13 = .ok (.ifCond .ne 7, 3) := by decide +kernel
theorem dX12_height_16 : decode cX12_height 16 = .ok (.iconst 1, 1) := by decide +kernel
theorem dX12_height_17 : decode cX12_height 17 = .ok (.goto 4, 3) := by decide +kernel
theorem dX12_height_20 : decode cX12_height 20 = .ok (.iconst 0, 1) := by decide +kernel
theorem dX12_height_21 : decode cX12_height 21 = .ok (.iconst 1, 1) := by decide +kernel
theorem dX12_height_22 : decode cX12_height 22 = .ok (.invokevirtual 247, 3) := by decide +kernel
theorem dX12_height_25 : decode cX12_height 25 = .ok (.ifCond .eq 5, 3) := by decide +kernel
theorem dX12_height_28 : decode cX12_height 28 = .ok (.iconst 0, 1) := by decide +kernel
theorem dX12_height_29 : decode cX12_height 29 = .ok (.ireturn, 1) := by decide +kernel
theorem dX12_height_30 : decode cX12_height 30 = .ok (.aload_n 0, 1) := by decide +kernel
theorem dX12_height_31 : decode cX12_height 31 = .ok (.invokevirtual 327, 3) := by decide +kernel
theorem dX12_height_34 : decode cX12_height 34 = .ok (.aload_n 0, 1) := by decide +kernel
theorem dX12_height_35 : decode cX12_height 35 = .ok (.getfield 13, 3) := by decide +kernel
theorem dX12_height_38 : decode cX12_height 38 = .ok (.iconst 4, 1) := by decide +kernel
theorem dX12_height_39 : decode cX12_height 39 = .ok (.iaload, 1) := by decide +kernel
theorem dX12_height_40 : decode cX12_height 40 = .ok (.istore_n 2, 1) := by decide +kernel
theorem dX12_height_41 : decode cX12_height 41 = .ok (.aload_n 0, 1) := by decide +kernel
theorem dX12_height_42 : decode cX12_height 42 = .ok (.getfield 13, 3) := by decide +kernel
theorem dX12_height_45 : decode cX12_height 45 = .ok (.iconst 4, 1) := by decide +kernel
theorem dX12_height_46 : decode cX12_height 46 = .ok (.iload_n 1, 1) := by decide +kernel
theorem dX12_height_47 : decode cX12_height 47 = .ok (.iastore, 1) := by decide +kernel
theorem dX12_height_48 : decode cX12_height 48 = .ok (.iload_n 2, 1) := by decide +kernel
theorem dX12_height_49 : decode cX12_height 49 = .ok (.ireturn, 1) := by decide +kernel
theorem dX12_isGone_0 : decode cX12_isGone 0 = .ok (.aload_n 0, 1) := by decide +kernel
theorem dX12_isGone_1 : decode cX12_isGone 1 = .ok (.iload_n 1, 1) := by decide +kernel
theorem dX12_isGone_2 : decode cX12_isGone 2 = .ok (.iconst 3, 1) := by decide +kernel
theorem dX12_isGone_3 : decode cX12_isGone 3 = .ok (.invokevirtual 330, 3) := by decide +kernel
theorem dX12_isGone_6 : decode cX12_isGone 6 = .ok (.aload_n 0, 1) := by decide +kernel
theorem dX12_isGone_7 : decode cX12_isGone 7 = .ok (.getfield 13, 3) := by decide +kernel
theorem dX12_isGone_10 : decode cX12_isGone 10 = .ok (.bipush 10, 2) := by decide +kernel
theorem dX12_isGone_12 : decode cX12_isGone 12 = .ok (.dup2, 1) := by decide +kernel
theorem dX12_isGone_13 : decode cX12_isGone 13 = .ok (.iaload, 1) := by decide +kernel
theorem dX12_isGone_14 : decode cX12_isGone 14 = .ok (.iconst 1, 1) := by decide +kernel
theorem dX12_isGone_15 : decode cX12_isGone 15 = .ok (.iadd, 1) := by decide +kernel
theorem dX12_isGone_16 : decode cX12_isGone 16 = .ok (.iastore, 1) := by decide +kernel
theorem dX12_isGone_17 : decode cX12_isGone 17 = .ok (.return_, 1) := by decide +kernel
theorem dX12_blows_0 : decode cX12_blows 0 = .ok (.aload_n 0, 1) := by decide +kernel
theorem dX12_blows_1 : decode cX12_blows 1 = .ok (.bipush 100, 2) := by decide +kernel
theorem dX12_blows_3 : decode cX12_blows 3 = .ok (.invokevirtual 333, 3) := by decide +kernel
theorem dX12_blows_6 : decode cX12_blows 6 = .ok (.aload_n 0, 1) := by decide +kernel
theorem dX12_blows_7 : decode cX12_blows 7 = .ok (.getfield 13, 3) := by decide +kernel
theorem dX12_blows_10 : decode cX12_blows 10 = .ok (.bipush 8, 2) := by decide +kernel
theorem dX12_blows_12 : decode cX12_blows 12 = .ok (.iaload, 1) := by decide +kernel
theorem dX12_blows_13 : decode cX12_blows 13 = .ok (.if_icmp .ge 23, 3) := by decide +kernel
theorem dX12_blows_16 : decode cX12_blows 16 = .ok (.aload_n 0, 1) := by decide +kernel
theorem dX12_blows_17 : decode cX12_blows 17 = .ok (.bipush 16, 2) := by decide +kernel
theorem dX12_blows_19 : decode cX12_blows 19 = .ok (.invokevirtual 333, 3) := by decide +kernel
theorem dX12_blows_22 : decode cX12_blows 22 = .ok (.istore_n 1, 1) := by decide +kernel
theorem dX12_blows_23 : decode cX12_blows 23 = .ok (.aload_n 0, 1) := by decide +kernel
theorem dX12_blows_24 : decode cX12_blows 24 = .ok (.iload_n 1, 1) := by decide +kernel
theorem dX12_blows_25 : decode cX12_blows 25 = .ok (.invokevirtual 122, 3) := by decide +kernel
theorem dX12_blows_28 : decode cX12_blows 28 = .ok (.ifCond .eq 8, 3) := by decide +kernel
theorem dX12_blows_31 : decode cX12_blows 31 = .ok (.aload_n 0, 1) := by decide +kernel
theorem dX12_blows_32 : decode cX12_blows 32 = .ok (.iload_n 1, 1) := by decide +kernel
theorem dX12_blows_33 : decode cX12_blows 33 = .ok (.invokevirtual 336, 3) := by decide +kernel
theorem dX12_blows_36 : decode cX12_blows 36 = .ok (.aload_n 0, 1) := by decide +kernel
theorem dX12_blows_37 : decode cX12_blows 37 = .ok (.bipush 100, 2) := by decide +kernel
theorem dX12_blows_39 : decode cX12_blows 39 = .ok (.invokevirtual 333, 3) := by decide +kernel
theorem dX12_blows_42 : decode cX12_blows 42 = .ok (.aload_n 0, 1) := by decide +kernel
theorem dX12_blows_43 : decode cX12_blows 43 = .ok (.getfield 13, 3) := by decide +kernel
theorem dX12_blows_46 : decode cX12_blows 46 = .ok (.bipush 9, 2) := by decide +kernel
theorem dX12_blows_48 : decode cX12_blows 48 = .ok (.iaload, 1) := by decide +kernel
theorem dX12_blows_49 : decode cX12_blows 49 = .ok (.if_icmp .ge 44, 3) := by decide +kernel
theorem dX12_blows_52 : decode cX12_blows 52 = .ok (.aload_n 0, 1) := by decide +kernel
theorem dX12_blows_53 : decode cX12_blows 53 = .ok (.bipush 16, 2) := by decide +kernel
theorem dX12_blows_55 : decode cX12_blows 55 = .ok (.invokevirtual 333, 3) := by decide +kernel
theorem dX12_blows_58 : decode cX12_blows 58 = .ok (.istore_n 1, 1) := by decide +kernel
theorem dX12_blows_59 : decode cX12_blows 59 = .ok (.aload_n 0, 1) := by decide +kernel
theorem dX12_blows_60 : decode cX12_blows 60 = .ok (.iload_n 1, 1) := by decide +kernel
theorem dX12_blows_61 : decode cX12_blows 61 = .ok (.invokevirtual 122, 3) := by decide +kernel
theorem dX12_blows_64 : decode cX12_blows 64 = .ok (.ifCond .eq 29, 3) := by decide +kernel
theorem dX12_blows_67 : decode cX12_blows 67 = .ok (.aload_n 0, 1) := by decide +kernel
theorem dX12_blows_68 : decode cX12_blows 68 = .ok (.getfield 13, 3) := by decide +kernel
theorem dX12_blows_71 : decode cX12_blows 71 = .ok (.bipush 62, 2) := by decide +kernel
theorem dX12_blows_73 : decode cX12_blows 73 = .ok (.iload_n 1, 1) := by decide +kernel
theorem dX12_blows_74 : decode cX12_blows 74 = .ok (.iadd, 1) := by decide +kernel
theorem dX12_blows_75 : decode cX12_blows 75 = .ok (.bipush 99, 2) := by decide +kernel
theorem dX12_blows_77 : decode cX12_blows 77 = .ok (.aload_n 0, 1) := by decide +kernel
theorem dX12_blows_78 : decode cX12_blows 78 = .ok (.getfield 13, 3) := by decide +kernel
theorem dX12_blows_81 : decode cX12_blows 81 = .ok (.bipush 62, 2) := by decide +kernel
theorem dX12_blows_83 : decode cX12_blows 83 = .ok (.iload_n 1, 1) := by decide +kernel
theorem dX12_blows_84 : decode cX12_blows 84 = .ok (.iadd, 1) := by decide +kernel
theorem dX12_blows_85 : decode cX12_blows 85 = .ok (.iaload, 1) := by decide +kernel
theorem dX12_blows_86 : decode cX12_blows 86 = .ok (.bipush 20, 2) := by decide +kernel
theorem dX12_blows_88 : decode cX12_blows 88 = .ok (.iadd, 1) := by decide +kernel
theorem dX12_blows_89 : decode cX12_blows 89 = .ok (.invokestatic 259, 3) := by decide +kernel
theorem dX12_blows_92 : decode cX12_blows 92 = .ok (.iastore, 1) := by decide +kernel
theorem dX12_blows_93 : decode cX12_blows 93 = .ok (.return_, 1) := by decide +kernel
theorem dX12_oneDay_0 : decode cX12_oneDay 0 = .ok (.aload_n 0, 1) := by decide +kernel
theorem dX12_oneDay_1 : decode cX12_oneDay 1 = .ok (.aload_n 0, 1) := by decide +kernel
theorem dX12_oneDay_2 : decode cX12_oneDay 2 = .ok (.invokevirtual 65, 3) := by decide +kernel
theorem dX12_oneDay_5 : decode cX12_oneDay 5 = .ok (.putfield 250, 3) := by decide +kernel
theorem dX12_oneDay_8 : decode cX12_oneDay 8 = .ok (.iconst 0, 1) := by decide +kernel
theorem dX12_oneDay_9 : decode cX12_oneDay 9 = .ok (.istore_n 2, 1) := by decide +kernel
theorem dX12_oneDay_10 : decode cX12_oneDay 10 = .ok (.iload_n 2, 1) := by decide +kernel
theorem dX12_oneDay_11 : decode cX12_oneDay 11 = .ok (.bipush 16, 2) := by decide +kernel
theorem dX12_oneDay_13 : decode cX12_oneDay 13 = .ok (.if_icmp .ge 46, 3) := by decide +kernel
theorem dX12_oneDay_16 : decode cX12_oneDay 16 = .ok (.aload_n 0, 1) := by decide +kernel
theorem dX12_oneDay_17 : decode cX12_oneDay 17 = .ok (.iload_n 2, 1) := by decide +kernel
theorem dX12_oneDay_18 : decode cX12_oneDay 18 = .ok (.invokevirtual 122, 3) := by decide +kernel
theorem dX12_oneDay_21 : decode cX12_oneDay 21 = .ok (.ifCond .eq 32, 3) := by decide +kernel
theorem dX12_oneDay_24 : decode cX12_oneDay 24 = .ok (.aload_n 0, 1) := by decide +kernel
theorem dX12_oneDay_25 : decode cX12_oneDay 25 = .ok (.getfield 13, 3) := by decide +kernel
theorem dX12_oneDay_28 : decode cX12_oneDay 28 = .ok (.bipush 62, 2) := by decide +kernel
theorem dX12_oneDay_30 : decode cX12_oneDay 30 = .ok (.iload_n 2, 1) := by decide +kernel
theorem dX12_oneDay_31 : decode cX12_oneDay 31 = .ok (.iadd, 1) := by decide +kernel
theorem dX12_oneDay_32 : decode cX12_oneDay 32 = .ok (.bipush 99, 2) := by decide +kernel
theorem dX12_oneDay_34 : decode cX12_oneDay 34 = .ok (.aload_n 0, 1) := by decide +kernel
theorem dX12_oneDay_35 : decode cX12_oneDay 35 = .ok (.getfield 13, 3) := by decide +kernel
theorem dX12_oneDay_38 : decode cX12_oneDay 38 = .ok (.bipush 62, 2) := by decide +kernel
theorem dX12_oneDay_40 : decode cX12_oneDay 40 = .ok (.iload_n 2, 1) := by decide +kernel
theorem dX12_oneDay_41 : decode cX12_oneDay 41 = .ok (.iadd, 1) := by decide +kernel
theorem dX12_oneDay_42 : decode cX12_oneDay 42 = .ok (.iaload, 1) := by decide +kernel
theorem dX12_oneDay_43 : decode cX12_oneDay 43 = .ok (.aload_n 0, 1) := by decide +kernel
theorem dX12_oneDay_44 : decode cX12_oneDay 44 = .ok (.iload_n 2, 1) := by decide +kernel
theorem dX12_oneDay_45 : decode cX12_oneDay 45 = .ok (.invokevirtual 317, 3) := by decide +kernel
theorem dX12_oneDay_48 : decode cX12_oneDay 48 = .ok (.iadd, 1) := by decide +kernel
theorem dX12_oneDay_49 : decode cX12_oneDay 49 = .ok (.invokestatic 259, 3) := by decide +kernel
theorem dX12_oneDay_52 : decode cX12_oneDay 52 = .ok (.iastore, 1) := by decide +kernel
theorem dX12_oneDay_53 : decode cX12_oneDay 53 = .ok (.iinc 2 1, 3) := by decide +kernel
theorem dX12_oneDay_56 : decode cX12_oneDay 56 = .ok (.goto (-46), 3) := by decide +kernel
theorem dX12_oneDay_59 : decode cX12_oneDay 59 = .ok (.iload_n 1, 1) := by decide +kernel
theorem dX12_oneDay_60 : decode cX12_oneDay 60 = .ok (.ifCond .ne 7, 3) := by decide +kernel
theorem dX12_oneDay_63 : decode cX12_oneDay 63 = .ok (.aload_n 0, 1) := by decide +kernel
theorem dX12_oneDay_64 : decode cX12_oneDay 64 = .ok (.invokevirtual 340, 3) := by decide +kernel
theorem dX12_oneDay_67 : decode cX12_oneDay 67 = .ok (.aload_n 0, 1) := by decide +kernel
theorem dX12_oneDay_68 : decode cX12_oneDay 68 = .ok (.invokevirtual 65, 3) := by decide +kernel
theorem dX12_oneDay_71 : decode cX12_oneDay 71 = .ok (.aload_n 0, 1) := by decide +kernel
theorem dX12_oneDay_72 : decode cX12_oneDay 72 = .ok (.invokevirtual 308, 3) := by decide +kernel
theorem dX12_oneDay_75 : decode cX12_oneDay 75 = .ok (.iconst (-1), 1) := by decide +kernel
theorem dX12_oneDay_76 : decode cX12_oneDay 76 = .ok (.ixor, 1) := by decide +kernel
theorem dX12_oneDay_77 : decode cX12_oneDay 77 = .ok (.iand, 1) := by decide +kernel
theorem dX12_oneDay_78 : decode cX12_oneDay 78 = .ok (.istore_n 2, 1) := by decide +kernel
theorem dX12_oneDay_79 : decode cX12_oneDay 79 = .ok (.iconst 0, 1) := by decide +kernel
theorem dX12_oneDay_80 : decode cX12_oneDay 80 = .ok (.istore_n 3, 1) := by decide +kernel
theorem dX12_oneDay_81 : decode cX12_oneDay 81 = .ok (.iload_n 3, 1) := by decide +kernel
theorem dX12_oneDay_82 : decode cX12_oneDay 82 = .ok (.bipush 16, 2) := by decide +kernel
theorem dX12_oneDay_84 : decode cX12_oneDay 84 = .ok (.if_icmp .ge 22, 3) := by decide +kernel
theorem dX12_oneDay_87 : decode cX12_oneDay 87 = .ok (.iload_n 2, 1) := by decide +kernel
theorem dX12_oneDay_88 : decode cX12_oneDay 88 = .ok (.iload_n 3, 1) := by decide +kernel
theorem dX12_oneDay_89 : decode cX12_oneDay 89 = .ok (.invokestatic 69, 3) := by decide +kernel
theorem dX12_oneDay_92 : decode cX12_oneDay 92 = .ok (.ifCond .eq 8, 3) := by decide +kernel
theorem dX12_oneDay_95 : decode cX12_oneDay 95 = .ok (.aload_n 0, 1) := by decide +kernel
theorem dX12_oneDay_96 : decode cX12_oneDay 96 = .ok (.iload_n 3, 1) := by decide +kernel
theorem dX12_oneDay_97 : decode cX12_oneDay 97 = .ok (.invokevirtual 336, 3) := by decide +kernel
theorem dX12_oneDay_100 : decode cX12_oneDay 100 = .ok (.iinc 3 1, 3) := by decide +kernel
theorem dX12_oneDay_103 : decode cX12_oneDay 103 = .ok (.goto (-22), 3) := by decide +kernel
theorem dX12_oneDay_106 : decode cX12_oneDay 106 = .ok (.aload_n 0, 1) := by decide +kernel
theorem dX12_oneDay_107 : decode cX12_oneDay 107 = .ok (.getfield 13, 3) := by decide +kernel
theorem dX12_oneDay_110 : decode cX12_oneDay 110 = .ok (.iconst 3, 1) := by decide +kernel
theorem dX12_oneDay_111 : decode cX12_oneDay 111 = .ok (.sipush 9999, 3) := by decide +kernel
theorem dX12_oneDay_114 : decode cX12_oneDay 114 = .ok (.aload_n 0, 1) := by decide +kernel
theorem dX12_oneDay_115 : decode cX12_oneDay 115 = .ok (.getfield 13, 3) := by decide +kernel
theorem dX12_oneDay_118 : decode cX12_oneDay 118 = .ok (.iconst 3, 1) := by decide +kernel
theorem dX12_oneDay_119 : decode cX12_oneDay 119 = .ok (.iaload, 1) := by decide +kernel
theorem dX12_oneDay_120 : decode cX12_oneDay 120 = .ok (.iconst 1, 1) := by decide +kernel
theorem dX12_oneDay_121 : decode cX12_oneDay 121 = .ok (.iadd, 1) := by decide +kernel
theorem dX12_oneDay_122 : decode cX12_oneDay 122 = .ok (.invokestatic 259, 3) := by decide +kernel
theorem dX12_oneDay_125 : decode cX12_oneDay 125 = .ok (.iastore, 1) := by decide +kernel
theorem dX12_oneDay_126 : decode cX12_oneDay 126 = .ok (.return_, 1) := by decide +kernel
theorem dX12_keepsAll_0 : decode cX12_keepsAll 0 = .ok (.iconst 0, 1) := by decide +kernel
theorem dX12_keepsAll_1 : decode cX12_keepsAll 1 = .ok (.istore_n 1, 1) := by decide +kernel
theorem dX12_keepsAll_2 : decode cX12_keepsAll 2 = .ok (.iload_n 1, 1) := by decide +kernel
theorem dX12_keepsAll_3 : decode cX12_keepsAll 3 = .ok (.sipush 333, 3) := by decide +kernel
theorem dX12_keepsAll_6 : decode cX12_keepsAll 6 = .ok (.if_icmp .ge 21, 3) := by decide +kernel
theorem dX12_keepsAll_9 : decode cX12_keepsAll 9 = .ok (.aload_n 0, 1) := by decide +kernel
theorem dX12_keepsAll_10 : decode cX12_keepsAll 10 = .ok (.getfield 23, 3) := by decide +kernel
theorem dX12_keepsAll_13 : decode cX12_keepsAll 13 = .ok (.iload_n 1, 1) := by decide +kernel
theorem dX12_keepsAll_14 : decode cX12_keepsAll 14 = .ok (.aload_n 0, 1) := by decide +kernel
theorem dX12_keepsAll_15 : decode cX12_keepsAll 15 = .ok (.getfield 13, 3) := by decide +kernel
theorem dX12_keepsAll_18 : decode cX12_keepsAll 18 = .ok (.iload_n 1, 1) := by decide +kernel
theorem dX12_keepsAll_19 : decode cX12_keepsAll 19 = .ok (.iaload, 1) := by decide +kernel
theorem dX12_keepsAll_20 : decode cX12_keepsAll 20 = .ok (.iastore, 1) := by decide +kernel
theorem dX12_keepsAll_21 : decode cX12_keepsAll 21 = .ok (.iinc 1 1, 3) := by decide +kernel
theorem dX12_keepsAll_24 : decode cX12_keepsAll 24 = .ok (.goto (-22), 3) := by decide +kernel
theorem dX12_keepsAll_27 : decode cX12_keepsAll 27 = .ok (.return_, 1) := by decide +kernel
theorem dX12_bringsBack_0 : decode cX12_bringsBack 0 = .ok (.iconst 0, 1) := by decide +kernel
theorem dX12_bringsBack_1 : decode cX12_bringsBack 1 = .ok (.istore_n 1, 1) := by decide +kernel
theorem dX12_bringsBack_2 : decode cX12_bringsBack 2 = .ok (.iload_n 1, 1) := by decide +kernel
theorem dX12_bringsBack_3 : decode cX12_bringsBack 3 = .ok (.sipush 333, 3) := by decide +kernel
theorem dX12_bringsBack_6 : decode cX12_bringsBack 6 = .ok (.if_icmp .ge 21, 3) := by decide +kernel
theorem dX12_bringsBack_9 : decode cX12_bringsBack 9 = .ok (.aload_n 0, 1) := by decide +kernel
theorem dX12_bringsBack_10 : decode cX12_bringsBack 10 = .ok (.getfield 13, 3) := by decide +kernel
theorem dX12_bringsBack_13 : decode cX12_bringsBack 13 = .ok (.iload_n 1, 1) := by decide +kernel
theorem dX12_bringsBack_14 : decode cX12_bringsBack 14 = .ok (.aload_n 0, 1) := by decide +kernel
theorem dX12_bringsBack_15 : decode cX12_bringsBack 15 = .ok (.getfield 23, 3) := by decide +kernel
theorem dX12_bringsBack_18 : decode cX12_bringsBack 18 = .ok (.iload_n 1, 1) := by decide +kernel
theorem dX12_bringsBack_19 : decode cX12_bringsBack 19 = .ok (.iaload, 1) := by decide +kernel
theorem dX12_bringsBack_20 : decode cX12_bringsBack 20 = .ok (.iastore, 1) := by decide +kernel
theorem dX12_bringsBack_21 : decode cX12_bringsBack 21 = .ok (.iinc 1 1, 3) := by decide +kernel
theorem dX12_bringsBack_24 : decode cX12_bringsBack 24 = .ok (.goto (-22), 3) := by decide +kernel
theorem dX12_bringsBack_27 : decode cX12_bringsBack 27 = .ok (.return_, 1) := by decide +kernel
theorem dX12_goesAhead_0 : decode cX12_goesAhead 0 = .ok (.aload_n 0, 1) := by decide +kernel
theorem dX12_goesAhead_1 : decode cX12_goesAhead 1 = .ok (.invokevirtual 343, 3) := by decide +kernel
theorem dX12_goesAhead_4 : decode cX12_goesAhead 4 = .ok (.iconst 0, 1) := by decide +kernel
theorem dX12_goesAhead_5 : decode cX12_goesAhead 5 = .ok (.istore_n 2, 1) := by decide +kernel
theorem dX12_goesAhead_6 : decode cX12_goesAhead 6 = .ok (.iload_n 2, 1) := by decide +kernel
theorem dX12_goesAhead_7 : decode cX12_goesAhead 7 = .ok (.iload_n 1, 1) := by decide +kernel
theorem dX12_goesAhead_8 : decode cX12_goesAhead 8 = .ok (.if_icmp .ge 14, 3) := by decide +kernel
theorem dX12_goesAhead_11 : decode cX12_goesAhead 11 = .ok (.aload_n 0, 1) := by decide +kernel
theorem dX12_goesAhead_12 : decode cX12_goesAhead 12 = .ok (.iconst 1, 1) := by decide +kernel
theorem dX12_goesAhead_13 : decode cX12_goesAhead 13 = .ok (.invokevirtual 346, 3) := by decide +kernel
theorem dX12_goesAhead_16 : decode cX12_goesAhead 16 = .ok (.iinc 2 1, 3) := by decide +kernel
theorem dX12_goesAhead_19 : decode cX12_goesAhead 19 = .ok (.goto (-13), 3) := by decide +kernel
theorem dX12_goesAhead_22 : decode cX12_goesAhead 22 = .ok (.aload_n 0, 1) := by decide +kernel
theorem dX12_goesAhead_23 : decode cX12_goesAhead 23 = .ok (.getfield 13, 3) := by decide +kernel
theorem dX12_goesAhead_26 : decode cX12_goesAhead 26 = .ok (.bipush 10, 2) := by decide +kernel
theorem dX12_goesAhead_28 : decode cX12_goesAhead 28 = .ok (.iaload, 1) := by decide +kernel
theorem dX12_goesAhead_29 : decode cX12_goesAhead 29 = .ok (.aload_n 0, 1) := by decide +kernel
theorem dX12_goesAhead_30 : decode cX12_goesAhead 30 = .ok (.getfield 23, 3) := by decide +kernel
theorem dX12_goesAhead_33 : decode cX12_goesAhead 33 = .ok (.bipush 10, 2) := by decide +kernel
theorem dX12_goesAhead_35 : decode cX12_goesAhead 35 = .ok (.iaload, 1) := by decide +kernel
theorem dX12_goesAhead_36 : decode cX12_goesAhead 36 = .ok (.isub, 1) := by decide +kernel
theorem dX12_goesAhead_37 : decode cX12_goesAhead 37 = .ok (.ireturn, 1) := by decide +kernel
theorem dX12_days_0 : decode cX12_days 0 = .ok (.aload_n 0, 1) := by decide +kernel
theorem dX12_days_1 : decode cX12_days 1 = .ok (.iconst 0, 1) := by decide +kernel
theorem dX12_days_2 : decode cX12_days 2 = .ok (.putfield 3, 3) := by decide +kernel
theorem dX12_days_5 : decode cX12_days 5 = .ok (.aload_n 0, 1) := by decide +kernel
theorem dX12_days_6 : decode cX12_days 6 = .ok (.iload_n 1, 1) := by decide +kernel
theorem dX12_days_7 : decode cX12_days 7 = .ok (.iconst 1, 1) := by decide +kernel
theorem dX12_days_8 : decode cX12_days 8 = .ok (.bipush 60, 2) := by decide +kernel
theorem dX12_days_10 : decode cX12_days 10 = .ok (.invokestatic 76, 3) := by decide +kernel
theorem dX12_days_13 : decode cX12_days 13 = .ok (.ifCond .ne 7, 3) := by decide +kernel
theorem dX12_days_16 : decode cX12_days 16 = .ok (.iconst 1, 1) := by decide +kernel
theorem dX12_days_17 : decode cX12_days 17 = .ok (.goto 4, 3) := by decide +kernel
theorem dX12_days_20 : decode cX12_days 20 = .ok (.iconst 0, 1) := by decide +kernel
theorem dX12_days_21 : decode cX12_days 21 = .ok (.iconst 1, 1) := by decide +kernel
theorem dX12_days_22 : decode cX12_days 22 = .ok (.invokevirtual 247, 3) := by decide +kernel
theorem dX12_days_25 : decode cX12_days 25 = .ok (.ifCond .eq 5, 3) := by decide +kernel
theorem dX12_days_28 : decode cX12_days 28 = .ok (.iconst 0, 1) := by decide +kernel
theorem dX12_days_29 : decode cX12_days 29 = .ok (.ireturn, 1) := by decide +kernel
theorem dX12_days_30 : decode cX12_days 30 = .ok (.aload_n 0, 1) := by decide +kernel
theorem dX12_days_31 : decode cX12_days 31 = .ok (.invokevirtual 327, 3) := by decide +kernel
theorem dX12_days_34 : decode cX12_days 34 = .ok (.aload_n 0, 1) := by decide +kernel
theorem dX12_days_35 : decode cX12_days 35 = .ok (.getfield 13, 3) := by decide +kernel
theorem dX12_days_38 : decode cX12_days 38 = .ok (.bipush 10, 2) := by decide +kernel
theorem dX12_days_40 : decode cX12_days 40 = .ok (.iaload, 1) := by decide +kernel
theorem dX12_days_41 : decode cX12_days 41 = .ok (.istore_n 2, 1) := by decide +kernel
theorem dX12_days_42 : decode cX12_days 42 = .ok (.iconst 0, 1) := by decide +kernel
theorem dX12_days_43 : decode cX12_days 43 = .ok (.istore_n 3, 1) := by decide +kernel
theorem dX12_days_44 : decode cX12_days 44 = .ok (.iload_n 3, 1) := by decide +kernel
theorem dX12_days_45 : decode cX12_days 45 = .ok (.iload_n 1, 1) := by decide +kernel
theorem dX12_days_46 : decode cX12_days 46 = .ok (.if_icmp .ge 14, 3) := by decide +kernel
theorem dX12_days_49 : decode cX12_days 49 = .ok (.aload_n 0, 1) := by decide +kernel
theorem dX12_days_50 : decode cX12_days 50 = .ok (.iconst 0, 1) := by decide +kernel
theorem dX12_days_51 : decode cX12_days 51 = .ok (.invokevirtual 346, 3) := by decide +kernel
theorem dX12_days_54 : decode cX12_days 54 = .ok (.iinc 3 1, 3) := by decide +kernel
theorem dX12_days_57 : decode cX12_days 57 = .ok (.goto (-13), 3) := by decide +kernel
theorem dX12_days_60 : decode cX12_days 60 = .ok (.aload_n 0, 1) := by decide +kernel
theorem dX12_days_61 : decode cX12_days 61 = .ok (.getfield 13, 3) := by decide +kernel
theorem dX12_days_64 : decode cX12_days 64 = .ok (.bipush 10, 2) := by decide +kernel
theorem dX12_days_66 : decode cX12_days 66 = .ok (.iaload, 1) := by decide +kernel
theorem dX12_days_67 : decode cX12_days 67 = .ok (.iload_n 2, 1) := by decide +kernel
theorem dX12_days_68 : decode cX12_days 68 = .ok (.isub, 1) := by decide +kernel
theorem dX12_days_69 : decode cX12_days 69 = .ok (.ireturn, 1) := by decide +kernel
theorem dX12_ahead_0 : decode cX12_ahead 0 = .ok (.aload_n 0, 1) := by decide +kernel
theorem dX12_ahead_1 : decode cX12_ahead 1 = .ok (.iconst 0, 1) := by decide +kernel
theorem dX12_ahead_2 : decode cX12_ahead 2 = .ok (.putfield 3, 3) := by decide +kernel
theorem dX12_ahead_5 : decode cX12_ahead 5 = .ok (.aload_n 0, 1) := by decide +kernel
theorem dX12_ahead_6 : decode cX12_ahead 6 = .ok (.iload_n 1, 1) := by decide +kernel
theorem dX12_ahead_7 : decode cX12_ahead 7 = .ok (.invokestatic 305, 3) := by decide +kernel
theorem dX12_ahead_10 : decode cX12_ahead 10 = .ok (.iconst 1, 1) := by decide +kernel
theorem dX12_ahead_11 : decode cX12_ahead 11 = .ok (.invokevirtual 247, 3) := by decide +kernel
theorem dX12_ahead_14 : decode cX12_ahead 14 = .ok (.ifCond .ne 26, 3) := by decide +kernel
theorem dX12_ahead_17 : decode cX12_ahead 17 = .ok (.aload_n 0, 1) := by decide +kernel
theorem dX12_ahead_18 : decode cX12_ahead 18 = .ok (.iload_n 2, 1) := by decide +kernel
theorem dX12_ahead_19 : decode cX12_ahead 19 = .ok (.iconst 0, 1) := by decide +kernel
theorem dX12_ahead_20 : decode cX12_ahead 20 = .ok (.bipush 60, 2) := by decide +kernel
theorem dX12_ahead_22 : decode cX12_ahead 22 = .ok (.invokestatic 76, 3) := by decide +kernel
theorem dX12_ahead_25 : decode cX12_ahead 25 = .ok (.ifCond .ne 7, 3) := by decide +kernel
theorem dX12_ahead_28 : decode cX12_ahead 28 = .ok (.iconst 1, 1) := by decide +kernel
theorem dX12_ahead_29 : decode cX12_ahead 29 = .ok (.goto 4, 3) := by decide +kernel
theorem dX12_ahead_32 : decode cX12_ahead 32 = .ok (.iconst 0, 1) := by decide +kernel
theorem dX12_ahead_33 : decode cX12_ahead 33 = .ok (.iconst 2, 1) := by decide +kernel
theorem dX12_ahead_34 : decode cX12_ahead 34 = .ok (.invokevirtual 247, 3) := by decide +kernel
theorem dX12_ahead_37 : decode cX12_ahead 37 = .ok (.ifCond .eq 5, 3) := by decide +kernel
theorem dX12_ahead_40 : decode cX12_ahead 40 = .ok (.iconst 0, 1) := by decide +kernel
theorem dX12_ahead_41 : decode cX12_ahead 41 = .ok (.ireturn, 1) := by decide +kernel
theorem dX12_ahead_42 : decode cX12_ahead 42 = .ok (.aload_n 0, 1) := by decide +kernel
theorem dX12_ahead_43 : decode cX12_ahead 43 = .ok (.iload_n 2, 1) := by decide +kernel
theorem dX12_ahead_44 : decode cX12_ahead 44 = .ok (.invokevirtual 350, 3) := by decide +kernel
theorem dX12_ahead_47 : decode cX12_ahead 47 = .ok (.pop, 1) := by decide +kernel
theorem dX12_ahead_48 : decode cX12_ahead 48 = .ok (.iload_n 3, 1) := by decide +kernel
theorem dX12_ahead_49 : decode cX12_ahead 49 = .ok (.ifCond .eq 15, 3) := by decide +kernel
theorem dX12_ahead_52 : decode cX12_ahead 52 = .ok (.aload_n 0, 1) := by decide +kernel
theorem dX12_ahead_53 : decode cX12_ahead 53 = .ok (.getfield 13, 3) := by decide +kernel
theorem dX12_ahead_56 : decode cX12_ahead 56 = .ok (.bipush 62, 2) := by decide +kernel
theorem dX12_ahead_58 : decode cX12_ahead 58 = .ok (.iload_n 1, 1) := by decide +kernel
theorem dX12_ahead_59 : decode cX12_ahead 59 = .ok (.iadd, 1) := by decide +kernel
theorem dX12_ahead_60 : decode cX12_ahead 60 = .ok (.iaload, 1) := by decide +kernel
theorem dX12_ahead_61 : decode cX12_ahead 61 = .ok (.goto 12, 3) := by decide +kernel
theorem dX12_ahead_64 : decode cX12_ahead 64 = .ok (.aload_n 0, 1) := by decide +kernel
theorem dX12_ahead_65 : decode cX12_ahead 65 = .ok (.aload_n 0, 1) := by decide +kernel
theorem dX12_ahead_66 : decode cX12_ahead 66 = .ok (.invokevirtual 308, 3) := by decide +kernel
theorem dX12_ahead_69 : decode cX12_ahead 69 = .ok (.iload_n 1, 1) := by decide +kernel
theorem dX12_ahead_70 : decode cX12_ahead 70 = .ok (.invokevirtual 296, 3) := by decide +kernel
theorem dX12_ahead_73 : decode cX12_ahead 73 = .ok (.istore 4, 2) := by decide +kernel
theorem dX12_ahead_75 : decode cX12_ahead 75 = .ok (.aload_n 0, 1) := by decide +kernel
theorem dX12_ahead_76 : decode cX12_ahead 76 = .ok (.invokevirtual 353, 3) := by decide +kernel
theorem dX12_ahead_79 : decode cX12_ahead 79 = .ok (.iload 4, 2) := by decide +kernel
theorem dX12_ahead_81 : decode cX12_ahead 81 = .ok (.ireturn, 1) := by decide +kernel
theorem dX12_needs_0 : decode cX12_needs 0 = .ok (.aload_n 0, 1) := by decide +kernel
theorem dX12_needs_1 : decode cX12_needs 1 = .ok (.iconst 0, 1) := by decide +kernel
theorem dX12_needs_2 : decode cX12_needs 2 = .ok (.putfield 3, 3) := by decide +kernel
theorem dX12_needs_5 : decode cX12_needs 5 = .ok (.aload_n 0, 1) := by decide +kernel
theorem dX12_needs_6 : decode cX12_needs 6 = .ok (.iload_n 1, 1) := by decide +kernel
theorem dX12_needs_7 : decode cX12_needs 7 = .ok (.iconst 0, 1) := by decide +kernel
theorem dX12_needs_8 : decode cX12_needs 8 = .ok (.bipush 60, 2) := by decide +kernel
theorem dX12_needs_10 : decode cX12_needs 10 = .ok (.invokestatic 76, 3) := by decide +kernel
theorem dX12_needs_13 : decode cX12_needs 13 = .ok (.ifCond .ne 7, 3) := by decide +kernel
theorem dX12_needs_16 : decode cX12_needs 16 = .ok (.iconst 1, 1) := by decide +kernel
theorem dX12_needs_17 : decode cX12_needs 17 = .ok (.goto 4, 3) := by decide +kernel
theorem dX12_needs_20 : decode cX12_needs 20 = .ok (.iconst 0, 1) := by decide +kernel
theorem dX12_needs_21 : decode cX12_needs 21 = .ok (.iconst 1, 1) := by decide +kernel
theorem dX12_needs_22 : decode cX12_needs 22 = .ok (.invokevirtual 247, 3) := by decide +kernel
theorem dX12_needs_25 : decode cX12_needs 25 = .ok (.ifCond .eq 5, 3) := by decide +kernel
theorem dX12_needs_28 : decode cX12_needs 28 = .ok (.iconst 0, 1) := by decide +kernel
theorem dX12_needs_29 : decode cX12_needs 29 = .ok (.ireturn, 1) := by decide +kernel
theorem dX12_needs_30 : decode cX12_needs 30 = .ok (.aload_n 0, 1) := by decide +kernel
theorem dX12_needs_31 : decode cX12_needs 31 = .ok (.iload_n 1, 1) := by decide +kernel
theorem dX12_needs_32 : decode cX12_needs 32 = .ok (.invokevirtual 350, 3) := by decide +kernel
theorem dX12_needs_35 : decode cX12_needs 35 = .ok (.istore_n 2, 1) := by decide +kernel
theorem dX12_needs_36 : decode cX12_needs 36 = .ok (.aload_n 0, 1) := by decide +kernel
theorem dX12_needs_37 : decode cX12_needs 37 = .ok (.invokevirtual 353, 3) := by decide +kernel
theorem dX12_needs_40 : decode cX12_needs 40 = .ok (.iload_n 2, 1) := by decide +kernel
theorem dX12_needs_41 : decode cX12_needs 41 = .ok (.ireturn, 1) := by decide +kernel
theorem dX12_gives_0 : decode cX12_gives 0 = .ok (.aload_n 0, 1) := by decide +kernel
theorem dX12_gives_1 : decode cX12_gives 1 = .ok (.iconst 0, 1) := by decide +kernel
theorem dX12_gives_2 : decode cX12_gives 2 = .ok (.putfield 3, 3) := by decide +kernel
theorem dX12_gives_5 : decode cX12_gives 5 = .ok (.aload_n 0, 1) := by decide +kernel
theorem dX12_gives_6 : decode cX12_gives 6 = .ok (.invokevirtual 65, 3) := by decide +kernel
theorem dX12_gives_9 : decode cX12_gives 9 = .ok (.istore_n 2, 1) := by decide +kernel
theorem dX12_gives_10 : decode cX12_gives 10 = .ok (.iconst (-1), 1) := by decide +kernel
theorem dX12_gives_11 : decode cX12_gives 11 = .ok (.istore_n 3, 1) := by decide +kernel
theorem dX12_gives_12 : decode cX12_gives 12 = .ok (.aload_n 0, 1) := by decide +kernel
theorem dX12_gives_13 : decode cX12_gives 13 = .ok (.invokevirtual 343, 3) := by decide +kernel
theorem dX12_gives_16 : decode cX12_gives 16 = .ok (.iconst 1, 1) := by decide +kernel
theorem dX12_gives_17 : decode cX12_gives 17 = .ok (.istore 4, 2) := by decide +kernel
theorem dX12_gives_19 : decode cX12_gives 19 = .ok (.iload 4, 2) := by decide +kernel
theorem dX12_gives_21 : decode cX12_gives 21 = .ok (.bipush 60, 2) := by decide +kernel
theorem dX12_gives_23 : decode cX12_gives 23 = .ok (.if_icmp .gt 33, 3) := by decide +kernel
theorem dX12_gives_26 : decode cX12_gives 26 = .ok (.iload_n 3, 1) := by decide +kernel
theorem dX12_gives_27 : decode cX12_gives 27 = .ok (.ifCond .ge 29, 3) := by decide +kernel
theorem dX12_gives_30 : decode cX12_gives 30 = .ok (.aload_n 0, 1) := by decide +kernel
theorem dX12_gives_31 : decode cX12_gives 31 = .ok (.iconst 1, 1) := by decide +kernel
theorem dX12_gives_32 : decode cX12_gives 32 = .ok (.invokevirtual 346, 3) := by decide +kernel
theorem dX12_gives_35 : decode cX12_gives 35 = .ok (.aload_n 0, 1) := by decide +kernel
theorem dX12_gives_36 : decode cX12_gives 36 = .ok (.invokevirtual 65, 3) := by decide +kernel
theorem dX12_gives_39 : decode cX12_gives 39 = .ok (.iload_n 2, 1) := by decide +kernel
theorem dX12_gives_40 : decode cX12_gives 40 = .ok (.if_icmp .eq 8, 3) := by decide +kernel
theorem dX12_gives_43 : decode cX12_gives 43 = .ok (.iload 4, 2) := by decide +kernel
theorem dX12_gives_45 : decode cX12_gives 45 = .ok (.goto 4, 3) := by decide +kernel
theorem dX12_gives_48 : decode cX12_gives 48 = .ok (.iconst (-1), 1) := by decide +kernel
theorem dX12_gives_49 : decode cX12_gives 49 = .ok (.istore_n 3, 1) := by decide +kernel
theorem dX12_gives_50 : decode cX12_gives 50 = .ok (.iinc 4 1, 3) := by decide +kernel
theorem dX12_gives_53 : decode cX12_gives 53 = .ok (.goto (-34), 3) := by decide +kernel
theorem dX12_gives_56 : decode cX12_gives 56 = .ok (.iload_n 2, 1) := by decide +kernel
theorem dX12_gives_57 : decode cX12_gives 57 = .ok (.aload_n 0, 1) := by decide +kernel
theorem dX12_gives_58 : decode cX12_gives 58 = .ok (.invokevirtual 65, 3) := by decide +kernel
theorem dX12_gives_61 : decode cX12_gives 61 = .ok (.iconst (-1), 1) := by decide +kernel
theorem dX12_gives_62 : decode cX12_gives 62 = .ok (.ixor, 1) := by decide +kernel
theorem dX12_gives_63 : decode cX12_gives 63 = .ok (.iand, 1) := by decide +kernel
theorem dX12_gives_64 : decode cX12_gives 64 = .ok (.istore 4, 2) := by decide +kernel
theorem dX12_gives_66 : decode cX12_gives 66 = .ok (.aload_n 0, 1) := by decide +kernel
theorem dX12_gives_67 : decode cX12_gives 67 = .ok (.invokevirtual 353, 3) := by decide +kernel
theorem dX12_gives_70 : decode cX12_gives 70 = .ok (.iload_n 1, 1) := by decide +kernel
theorem dX12_gives_71 : decode cX12_gives 71 = .ok (.ifCond .eq 8, 3) := by decide +kernel
theorem dX12_gives_74 : decode cX12_gives 74 = .ok (.iload 4, 2) := by decide +kernel
theorem dX12_gives_76 : decode cX12_gives 76 = .ok (.goto 4, 3) := by decide +kernel
theorem dX12_gives_79 : decode cX12_gives 79 = .ok (.iload_n 3, 1) := by decide +kernel
theorem dX12_gives_80 : decode cX12_gives 80 = .ok (.ireturn, 1) := by decide +kernel
theorem dX12_lasts_0 : decode cX12_lasts 0 = .ok (.aload_n 0, 1) := by decide +kernel
theorem dX12_lasts_1 : decode cX12_lasts 1 = .ok (.iconst 0, 1) := by decide +kernel
theorem dX12_lasts_2 : decode cX12_lasts 2 = .ok (.putfield 3, 3) := by decide +kernel
theorem dX12_lasts_5 : decode cX12_lasts 5 = .ok (.aload_n 0, 1) := by decide +kernel
theorem dX12_lasts_6 : decode cX12_lasts 6 = .ok (.invokevirtual 320, 3) := by decide +kernel
theorem dX12_lasts_9 : decode cX12_lasts 9 = .ok (.istore_n 1, 1) := by decide +kernel
theorem dX12_lasts_10 : decode cX12_lasts 10 = .ok (.iconst (-1), 1) := by decide +kernel
theorem dX12_lasts_11 : decode cX12_lasts 11 = .ok (.istore_n 2, 1) := by decide +kernel
theorem dX12_lasts_12 : decode cX12_lasts 12 = .ok (.aload_n 0, 1) := by decide +kernel
theorem dX12_lasts_13 : decode cX12_lasts 13 = .ok (.invokevirtual 343, 3) := by decide +kernel
theorem dX12_lasts_16 : decode cX12_lasts 16 = .ok (.iconst 1, 1) := by decide +kernel
theorem dX12_lasts_17 : decode cX12_lasts 17 = .ok (.istore_n 3, 1) := by decide +kernel
theorem dX12_lasts_18 : decode cX12_lasts 18 = .ok (.iload_n 3, 1) := by decide +kernel
theorem dX12_lasts_19 : decode cX12_lasts 19 = .ok (.bipush 60, 2) := by decide +kernel
theorem dX12_lasts_21 : decode cX12_lasts 21 = .ok (.if_icmp .gt 35, 3) := by decide +kernel
theorem dX12_lasts_24 : decode cX12_lasts 24 = .ok (.iload_n 2, 1) := by decide +kernel
theorem dX12_lasts_25 : decode cX12_lasts 25 = .ok (.ifCond .ge 31, 3) := by decide +kernel
theorem dX12_lasts_28 : decode cX12_lasts 28 = .ok (.aload_n 0, 1) := by decide +kernel
theorem dX12_lasts_29 : decode cX12_lasts 29 = .ok (.iconst 1, 1) := by decide +kernel
theorem dX12_lasts_30 : decode cX12_lasts 30 = .ok (.invokevirtual 346, 3) := by decide +kernel
theorem dX12_lasts_33 : decode cX12_lasts 33 = .ok (.iload_n 1, 1) := by decide +kernel
theorem dX12_lasts_34 : decode cX12_lasts 34 = .ok (.aload_n 0, 1) := by decide +kernel
theorem dX12_lasts_35 : decode cX12_lasts 35 = .ok (.invokevirtual 320, 3) := by decide +kernel
theorem dX12_lasts_38 : decode cX12_lasts 38 = .ok (.iconst (-1), 1) := by decide +kernel
theorem dX12_lasts_39 : decode cX12_lasts 39 = .ok (.ixor, 1) := by decide +kernel
theorem dX12_lasts_40 : decode cX12_lasts 40 = .ok (.iand, 1) := by decide +kernel
theorem dX12_lasts_41 : decode cX12_lasts 41 = .ok (.ifCond .eq 7, 3) := by decide +kernel
theorem dX12_lasts_44 : decode cX12_lasts 44 = .ok (.iload_n 3, 1) := by decide +kernel
theorem dX12_lasts_45 : decode cX12_lasts 45 = .ok (.goto 4, 3) := by decide +kernel
theorem dX12_lasts_48 : decode cX12_lasts 48 = .ok (.iconst (-1), 1) := by decide +kernel
theorem dX12_lasts_49 : decode cX12_lasts 49 = .ok (.istore_n 2, 1) := by decide +kernel
theorem dX12_lasts_50 : decode cX12_lasts 50 = .ok (.iinc 3 1, 3) := by decide +kernel
theorem dX12_lasts_53 : decode cX12_lasts 53 = .ok (.goto (-35), 3) := by decide +kernel
theorem dX12_lasts_56 : decode cX12_lasts 56 = .ok (.aload_n 0, 1) := by decide +kernel
theorem dX12_lasts_57 : decode cX12_lasts 57 = .ok (.invokevirtual 353, 3) := by decide +kernel
theorem dX12_lasts_60 : decode cX12_lasts 60 = .ok (.iload_n 2, 1) := by decide +kernel
theorem dX12_lasts_61 : decode cX12_lasts 61 = .ok (.ireturn, 1) := by decide +kernel
theorem dX12_weakest_0 : decode cX12_weakest 0 = .ok (.aload_n 0, 1) := by decide +kernel
theorem dX12_weakest_1 : decode cX12_weakest 1 = .ok (.iconst 0, 1) := by decide +kernel
theorem dX12_weakest_2 : decode cX12_weakest 2 = .ok (.putfield 3, 3) := by decide +kernel
theorem dX12_weakest_5 : decode cX12_weakest 5 = .ok (.iconst (-1), 1) := by decide +kernel
theorem dX12_weakest_6 : decode cX12_weakest 6 = .ok (.istore_n 1, 1) := by decide +kernel
theorem dX12_weakest_7 : decode cX12_weakest 7 = .ok (.iconst (-1), 1) := by decide +kernel
theorem dX12_weakest_8 : decode cX12_weakest 8 = .ok (.istore_n 2, 1) := by decide +kernel
theorem dX12_weakest_9 : decode cX12_weakest 9 = .ok (.aload_n 0, 1) := by decide +kernel
theorem dX12_weakest_10 : decode cX12_weakest 10 = .ok (.aload_n 0, 1) := by decide +kernel
theorem dX12_weakest_11 : decode cX12_weakest 11 = .ok (.invokevirtual 65, 3) := by decide +kernel
theorem dX12_weakest_14 : decode cX12_weakest 14 = .ok (.putfield 250, 3) := by decide +kernel
theorem dX12_weakest_17 : decode cX12_weakest 17 = .ok (.iconst 0, 1) := by decide +kernel
theorem dX12_weakest_18 : decode cX12_weakest 18 = .ok (.istore_n 3, 1) := by decide +kernel
theorem dX12_weakest_19 : decode cX12_weakest 19 = .ok (.iload_n 3, 1) := by decide +kernel
theorem dX12_weakest_20 : decode cX12_weakest 20 = .ok (.bipush 16, 2) := by decide +kernel
theorem dX12_weakest_22 : decode cX12_weakest 22 = .ok (.if_icmp .ge 53, 3) := by decide +kernel
theorem dX12_weakest_25 : decode cX12_weakest 25 = .ok (.aload_n 0, 1) := by decide +kernel
theorem dX12_weakest_26 : decode cX12_weakest 26 = .ok (.iload_n 3, 1) := by decide +kernel
theorem dX12_weakest_27 : decode cX12_weakest 27 = .ok (.invokevirtual 122, 3) := by decide +kernel
theorem dX12_weakest_30 : decode cX12_weakest 30 = .ok (.ifCond .eq 17, 3) := by decide +kernel
theorem dX12_weakest_33 : decode cX12_weakest 33 = .ok (.aload_n 0, 1) := by decide +kernel
theorem dX12_weakest_34 : decode cX12_weakest 34 = .ok (.iload_n 3, 1) := by decide +kernel
theorem dX12_weakest_35 : decode cX12_weakest 35 = .ok (.invokevirtual 262, 3) := by decide +kernel
theorem dX12_weakest_38 : decode cX12_weakest 38 = .ok (.aload_n 0, 1) := by decide +kernel
theorem dX12_weakest_39 : decode cX12_weakest 39 = .ok (.iload_n 3, 1) := by decide +kernel
theorem dX12_weakest_40 : decode cX12_weakest 40 = .ok (.invokevirtual 284, 3) := by decide +kernel
theorem dX12_weakest_43 : decode cX12_weakest 43 = .ok (.iadd, 1) := by decide +kernel
theorem dX12_weakest_44 : decode cX12_weakest 44 = .ok (.goto 4, 3) := by decide +kernel
theorem dX12_weakest_47 : decode cX12_weakest 47 = .ok (.iconst (-1), 1) := by decide +kernel
theorem dX12_weakest_48 : decode cX12_weakest 48 = .ok (.istore 4, 2) := by decide +kernel
theorem dX12_weakest_50 : decode cX12_weakest 50 = .ok (.iload 4, 2) := by decide +kernel
theorem dX12_weakest_52 : decode cX12_weakest 52 = .ok (.iload_n 2, 1) := by decide +kernel
theorem dX12_weakest_53 : decode cX12_weakest 53 = .ok (.if_icmp .le 7, 3) := by decide +kernel
theorem dX12_weakest_56 : decode cX12_weakest 56 = .ok (.iload_n 3, 1) := by decide +kernel
theorem dX12_weakest_57 : decode cX12_weakest 57 = .ok (.goto 4, 3) := by decide +kernel
theorem dX12_weakest_60 : decode cX12_weakest 60 = .ok (.iload_n 1, 1) := by decide +kernel
theorem dX12_weakest_61 : decode cX12_weakest 61 = .ok (.istore_n 1, 1) := by decide +kernel
theorem dX12_weakest_62 : decode cX12_weakest 62 = .ok (.iload_n 2, 1) := by decide +kernel
theorem dX12_weakest_63 : decode cX12_weakest 63 = .ok (.iload 4, 2) := by decide +kernel
theorem dX12_weakest_65 : decode cX12_weakest 65 = .ok (.invokestatic 293, 3) := by decide +kernel
theorem dX12_weakest_68 : decode cX12_weakest 68 = .ok (.istore_n 2, 1) := by decide +kernel
theorem dX12_weakest_69 : decode cX12_weakest 69 = .ok (.iinc 3 1, 3) := by decide +kernel
theorem dX12_weakest_72 : decode cX12_weakest 72 = .ok (.goto (-53), 3) := by decide +kernel
theorem dX12_weakest_75 : decode cX12_weakest 75 = .ok (.iload_n 1, 1) := by decide +kernel
theorem dX12_weakest_76 : decode cX12_weakest 76 = .ok (.ireturn, 1) := by decide +kernel
theorem dX12_key_0 : decode cX12_key 0 = .ok (.aload_n 0, 1) := by decide +kernel
theorem dX12_key_1 : decode cX12_key 1 = .ok (.iconst 0, 1) := by decide +kernel
theorem dX12_key_2 : decode cX12_key 2 = .ok (.putfield 3, 3) := by decide +kernel
theorem dX12_key_5 : decode cX12_key 5 = .ok (.aload_n 0, 1) := by decide +kernel
theorem dX12_key_6 : decode cX12_key 6 = .ok (.invokevirtual 320, 3) := by decide +kernel
theorem dX12_key_9 : decode cX12_key 9 = .ok (.invokestatic 356, 3) := by decide +kernel
theorem dX12_key_12 : decode cX12_key 12 = .ok (.istore_n 1, 1) := by decide +kernel
theorem dX12_key_13 : decode cX12_key 13 = .ok (.iconst 0, 1) := by decide +kernel
theorem dX12_key_14 : decode cX12_key 14 = .ok (.istore_n 2, 1) := by decide +kernel
theorem dX12_key_15 : decode cX12_key 15 = .ok (.iconst 0, 1) := by decide +kernel
theorem dX12_key_16 : decode cX12_key 16 = .ok (.istore_n 3, 1) := by decide +kernel
theorem dX12_key_17 : decode cX12_key 17 = .ok (.iload_n 3, 1) := by decide +kernel
theorem dX12_key_18 : decode cX12_key 18 = .ok (.bipush 16, 2) := by decide +kernel
theorem dX12_key_20 : decode cX12_key 20 = .ok (.if_icmp .ge 48, 3) := by decide +kernel
theorem dX12_key_23 : decode cX12_key 23 = .ok (.iload_n 2, 1) := by decide +kernel
theorem dX12_key_24 : decode cX12_key 24 = .ok (.aload_n 0, 1) := by decide +kernel
theorem dX12_key_25 : decode cX12_key 25 = .ok (.iload_n 3, 1) := by decide +kernel
theorem dX12_key_26 : decode cX12_key 26 = .ok (.invokevirtual 122, 3) := by decide +kernel
theorem dX12_key_29 : decode cX12_key 29 = .ok (.ifCond .eq 30, 3) := by decide +kernel
theorem dX12_key_32 : decode cX12_key 32 = .ok (.aload_n 0, 1) := by decide +kernel
theorem dX12_key_33 : decode cX12_key 33 = .ok (.aload_n 0, 1) := by decide +kernel
theorem dX12_key_34 : decode cX12_key 34 = .ok (.invokevirtual 65, 3) := by decide +kernel
theorem dX12_key_37 : decode cX12_key 37 = .ok (.iconst 1, 1) := by decide +kernel
theorem dX12_key_38 : decode cX12_key 38 = .ok (.iload_n 3, 1) := by decide +kernel
theorem dX12_key_39 : decode cX12_key 39 = .ok (.ishl, 1) := by decide +kernel
theorem dX12_key_40 : decode cX12_key 40 = .ok (.iconst (-1), 1) := by decide +kernel
theorem dX12_key_41 : decode cX12_key 41 = .ok (.ixor, 1) := by decide +kernel
theorem dX12_key_42 : decode cX12_key 42 = .ok (.iand, 1) := by decide +kernel
theorem dX12_key_43 : decode cX12_key 43 = .ok (.invokevirtual 302, 3) := by decide +kernel
theorem dX12_key_46 : decode cX12_key 46 = .ok (.invokestatic 356, 3) := by decide +kernel
theorem dX12_key_49 : decode cX12_key 49 = .ok (.iload_n 1, 1) := by decide +kernel
theorem dX12_key_50 : decode cX12_key 50 = .ok (.if_icmp .ge 9, 3) := by decide +kernel
theorem dX12_key_53 : decode cX12_key 53 = .ok (.iconst 1, 1) := by decide +kernel
theorem dX12_key_54 : decode cX12_key 54 = .ok (.iload_n 3, 1) := by decide +kernel
theorem dX12_key_55 : decode cX12_key 55 = .ok (.ishl, 1) := by decide +kernel
theorem dX12_key_56 : decode cX12_key 56 = .ok (.goto 4, 3) := by decide +kernel
theorem dX12_key_59 : decode cX12_key 59 = .ok (.iconst 0, 1) := by decide +kernel
theorem dX12_key_60 : decode cX12_key 60 = .ok (.ior, 1) := by decide +kernel
theorem dX12_key_61 : decode cX12_key 61 = .ok (.istore_n 2, 1) := by decide +kernel
theorem dX12_key_62 : decode cX12_key 62 = .ok (.iinc 3 1, 3) := by decide +kernel
theorem dX12_key_65 : decode cX12_key 65 = .ok (.goto (-48), 3) := by decide +kernel
theorem dX12_key_68 : decode cX12_key 68 = .ok (.iload_n 2, 1) := by decide +kernel
theorem dX12_key_69 : decode cX12_key 69 = .ok (.ireturn, 1) := by decide +kernel
theorem dX12_spare_0 : decode cX12_spare 0 = .ok (.aload_n 0, 1) := by decide +kernel
theorem dX12_spare_1 : decode cX12_spare 1 = .ok (.iconst 0, 1) := by decide +kernel
theorem dX12_spare_2 : decode cX12_spare 2 = .ok (.putfield 3, 3) := by decide +kernel
theorem dX12_spare_5 : decode cX12_spare 5 = .ok (.aload_n 0, 1) := by decide +kernel
theorem dX12_spare_6 : decode cX12_spare 6 = .ok (.invokevirtual 320, 3) := by decide +kernel
theorem dX12_spare_9 : decode cX12_spare 9 = .ok (.istore_n 1, 1) := by decide +kernel
theorem dX12_spare_10 : decode cX12_spare 10 = .ok (.iconst 0, 1) := by decide +kernel
theorem dX12_spare_11 : decode cX12_spare 11 = .ok (.istore_n 2, 1) := by decide +kernel
theorem dX12_spare_12 : decode cX12_spare 12 = .ok (.iconst 0, 1) := by decide +kernel
theorem dX12_spare_13 : decode cX12_spare 13 = .ok (.istore_n 3, 1) := by decide +kernel
theorem dX12_spare_14 : decode cX12_spare 14 = .ok (.iload_n 3, 1) := by decide +kernel
theorem dX12_spare_15 : decode cX12_spare 15 = .ok (.bipush 16, 2) := by decide +kernel
theorem dX12_spare_17 : decode cX12_spare 17 = .ok (.if_icmp .ge 48, 3) := by decide +kernel
theorem dX12_spare_20 : decode cX12_spare 20 = .ok (.iload_n 2, 1) := by decide +kernel
theorem dX12_spare_21 : decode cX12_spare 21 = .ok (.aload_n 0, 1) := by decide +kernel
theorem dX12_spare_22 : decode cX12_spare 22 = .ok (.iload_n 3, 1) := by decide +kernel
theorem dX12_spare_23 : decode cX12_spare 23 = .ok (.invokevirtual 122, 3) := by decide +kernel
theorem dX12_spare_26 : decode cX12_spare 26 = .ok (.ifCond .eq 30, 3) := by decide +kernel
theorem dX12_spare_29 : decode cX12_spare 29 = .ok (.iload_n 1, 1) := by decide +kernel
theorem dX12_spare_30 : decode cX12_spare 30 = .ok (.aload_n 0, 1) := by decide +kernel
theorem dX12_spare_31 : decode cX12_spare 31 = .ok (.aload_n 0, 1) := by decide +kernel
theorem dX12_spare_32 : decode cX12_spare 32 = .ok (.invokevirtual 65, 3) := by decide +kernel
theorem dX12_spare_35 : decode cX12_spare 35 = .ok (.iconst 1, 1) := by decide +kernel
theorem dX12_spare_36 : decode cX12_spare 36 = .ok (.iload_n 3, 1) := by decide +kernel
theorem dX12_spare_37 : decode cX12_spare 37 = .ok (.ishl, 1) := by decide +kernel
theorem dX12_spare_38 : decode cX12_spare 38 = .ok (.iconst (-1), 1) := by decide +kernel
theorem dX12_spare_39 : decode cX12_spare 39 = .ok (.ixor, 1) := by decide +kernel
theorem dX12_spare_40 : decode cX12_spare 40 = .ok (.iand, 1) := by decide +kernel
theorem dX12_spare_41 : decode cX12_spare 41 = .ok (.invokevirtual 302, 3) := by decide +kernel
theorem dX12_spare_44 : decode cX12_spare 44 = .ok (.iconst (-1), 1) := by decide +kernel
theorem dX12_spare_45 : decode cX12_spare 45 = .ok (.ixor, 1) := by decide +kernel
theorem dX12_spare_46 : decode cX12_spare 46 = .ok (.iand, 1) := by decide +kernel
theorem dX12_spare_47 : decode cX12_spare 47 = .ok (.ifCond .ne 9, 3) := by decide +kernel
theorem dX12_spare_50 : decode cX12_spare 50 = .ok (.iconst 1, 1) := by decide +kernel
theorem dX12_spare_51 : decode cX12_spare 51 = .ok (.iload_n 3, 1) := by decide +kernel
theorem dX12_spare_52 : decode cX12_spare 52 = .ok (.ishl, 1) := by decide +kernel
theorem dX12_spare_53 : decode cX12_spare 53 = .ok (.goto 4, 3) := by decide +kernel
theorem dX12_spare_56 : decode cX12_spare 56 = .ok (.iconst 0, 1) := by decide +kernel
theorem dX12_spare_57 : decode cX12_spare 57 = .ok (.ior, 1) := by decide +kernel
theorem dX12_spare_58 : decode cX12_spare 58 = .ok (.istore_n 2, 1) := by decide +kernel
theorem dX12_spare_59 : decode cX12_spare 59 = .ok (.iinc 3 1, 3) := by decide +kernel
theorem dX12_spare_62 : decode cX12_spare 62 = .ok (.goto (-48), 3) := by decide +kernel
theorem dX12_spare_65 : decode cX12_spare 65 = .ok (.iload_n 2, 1) := by decide +kernel
theorem dX12_spare_66 : decode cX12_spare 66 = .ok (.ireturn, 1) := by decide +kernel
theorem dX12_first_0 : decode cX12_first 0 = .ok (.aload_n 0, 1) := by decide +kernel
theorem dX12_first_1 : decode cX12_first 1 = .ok (.iconst 0, 1) := by decide +kernel
theorem dX12_first_2 : decode cX12_first 2 = .ok (.putfield 3, 3) := by decide +kernel
theorem dX12_first_5 : decode cX12_first 5 = .ok (.iconst (-1), 1) := by decide +kernel
theorem dX12_first_6 : decode cX12_first 6 = .ok (.istore_n 1, 1) := by decide +kernel
theorem dX12_first_7 : decode cX12_first 7 = .ok (.iconst (-1), 1) := by decide +kernel
theorem dX12_first_8 : decode cX12_first 8 = .ok (.istore_n 2, 1) := by decide +kernel
theorem dX12_first_9 : decode cX12_first 9 = .ok (.iconst 0, 1) := by decide +kernel
theorem dX12_first_10 : decode cX12_first 10 = .ok (.istore_n 3, 1) := by decide +kernel
theorem dX12_first_11 : decode cX12_first 11 = .ok (.iload_n 3, 1) := by decide +kernel
theorem dX12_first_12 : decode cX12_first 12 = .ok (.bipush 16, 2) := by decide +kernel
theorem dX12_first_14 : decode cX12_first 14 = .ok (.if_icmp .ge 60, 3) := by decide +kernel
theorem dX12_first_17 : decode cX12_first 17 = .ok (.aload_n 0, 1) := by decide +kernel
theorem dX12_first_18 : decode cX12_first 18 = .ok (.invokevirtual 361, 3) := by decide +kernel
theorem dX12_first_21 : decode cX12_first 21 = .ok (.iload_n 3, 1) := by decide +kernel
theorem dX12_first_22 : decode cX12_first 22 = .ok (.invokestatic 69, 3) := by decide +kernel
theorem dX12_first_25 : decode cX12_first 25 = .ok (.ifCond .eq 21, 3) := by decide +kernel
theorem dX12_first_28 : decode cX12_first 28 = .ok (.aload_n 0, 1) := by decide +kernel
theorem dX12_first_29 : decode cX12_first 29 = .ok (.aload_n 0, 1) := by decide +kernel
theorem dX12_first_30 : decode cX12_first 30 = .ok (.invokevirtual 65, 3) := by decide +kernel
theorem dX12_first_33 : decode cX12_first 33 = .ok (.iconst 1, 1) := by decide +kernel
theorem dX12_first_34 : decode cX12_first 34 = .ok (.iload_n 3, 1) := by decide +kernel
theorem dX12_first_35 : decode cX12_first 35 = .ok (.ishl, 1) := by decide +kernel
theorem dX12_first_36 : decode cX12_first 36 = .ok (.ior, 1) := by decide +kernel
theorem dX12_first_37 : decode cX12_first 37 = .ok (.invokevirtual 302, 3) := by decide +kernel
theorem dX12_first_40 : decode cX12_first 40 = .ok (.invokestatic 356, 3) := by decide +kernel
theorem dX12_first_43 : decode cX12_first 43 = .ok (.goto 4, 3) := by decide +kernel
theorem dX12_first_46 : decode cX12_first 46 = .ok (.iconst (-1), 1) := by decide +kernel
theorem dX12_first_47 : decode cX12_first 47 = .ok (.istore 4, 2) := by decide +kernel
theorem dX12_first_49 : decode cX12_first 49 = .ok (.iload 4, 2) := by decide +kernel
theorem dX12_first_51 : decode cX12_first 51 = .ok (.iload_n 2, 1) := by decide +kernel
theorem dX12_first_52 : decode cX12_first 52 = .ok (.if_icmp .le 7, 3) := by decide +kernel
theorem dX12_first_55 : decode cX12_first 55 = .ok (.iload_n 3, 1) := by decide +kernel
theorem dX12_first_56 : decode cX12_first 56 = .ok (.goto 4, 3) := by decide +kernel
theorem dX12_first_59 : decode cX12_first 59 = .ok (.iload_n 1, 1) := by decide +kernel
theorem dX12_first_60 : decode cX12_first 60 = .ok (.istore_n 1, 1) := by decide +kernel
theorem dX12_first_61 : decode cX12_first 61 = .ok (.iload_n 2, 1) := by decide +kernel
theorem dX12_first_62 : decode cX12_first 62 = .ok (.iload 4, 2) := by decide +kernel
theorem dX12_first_64 : decode cX12_first 64 = .ok (.invokestatic 293, 3) := by decide +kernel
theorem dX12_first_67 : decode cX12_first 67 = .ok (.istore_n 2, 1) := by decide +kernel
theorem dX12_first_68 : decode cX12_first 68 = .ok (.iinc 3 1, 3) := by decide +kernel
theorem dX12_first_71 : decode cX12_first 71 = .ok (.goto (-60), 3) := by decide +kernel
theorem dX12_first_74 : decode cX12_first 74 = .ok (.iload_n 1, 1) := by decide +kernel
theorem dX12_first_75 : decode cX12_first 75 = .ok (.ireturn, 1) := by decide +kernel
theorem dX12_fewest_0 : decode cX12_fewest 0 = .ok (.aload_n 0, 1) := by decide +kernel
theorem dX12_fewest_1 : decode cX12_fewest 1 = .ok (.iconst 0, 1) := by decide +kernel
theorem dX12_fewest_2 : decode cX12_fewest 2 = .ok (.putfield 3, 3) := by decide +kernel
theorem dX12_fewest_5 : decode cX12_fewest 5 = .ok (.iload_n 1, 1) := by decide +kernel
theorem dX12_fewest_6 : decode cX12_fewest 6 = .ok (.ldc 80, 2) := by decide +kernel
theorem dX12_fewest_8 : decode cX12_fewest 8 = .ok (.iand, 1) := by decide +kernel
theorem dX12_fewest_9 : decode cX12_fewest 9 = .ok (.istore_n 2, 1) := by decide +kernel
theorem dX12_fewest_10 : decode cX12_fewest 10 = .ok (.aload_n 0, 1) := by decide +kernel
theorem dX12_fewest_11 : decode cX12_fewest 11 = .ok (.invokevirtual 361, 3) := by decide +kernel
theorem dX12_fewest_14 : decode cX12_fewest 14 = .ok (.istore_n 3, 1) := by decide +kernel
theorem dX12_fewest_15 : decode cX12_fewest 15 = .ok (.iconst (-1), 1) := by decide +kernel
theorem dX12_fewest_16 : decode cX12_fewest 16 = .ok (.istore 4, 2) := by decide +kernel
theorem dX12_fewest_18 : decode cX12_fewest 18 = .ok (.iconst 5, 1) := by decide +kernel
theorem dX12_fewest_19 : decode cX12_fewest 19 = .ok (.istore 5, 2) := by decide +kernel
theorem dX12_fewest_21 : decode cX12_fewest 21 = .ok (.iconst 0, 1) := by decide +kernel
theorem dX12_fewest_22 : decode cX12_fewest 22 = .ok (.istore 6, 2) := by decide +kernel
theorem dX12_fewest_24 : decode cX12_fewest 24 = .ok (.iload 6, 2) := by decide +kernel
theorem dX12_fewest_26 : decode cX12_fewest 26 = .ok (.ldc 80, 2) := by decide +kernel
theorem dX12_fewest_28 : decode cX12_fewest 28 = .ok (.if_icmp .gt 60, 3) := by decide +kernel
theorem dX12_fewest_31 : decode cX12_fewest 31 = .ok (.iload 6, 2) := by decide +kernel
theorem dX12_fewest_33 : decode cX12_fewest 33 = .ok (.iload_n 3, 1) := by decide +kernel
theorem dX12_fewest_34 : decode cX12_fewest 34 = .ok (.iconst (-1), 1) := by decide +kernel
theorem dX12_fewest_35 : decode cX12_fewest 35 = .ok (.ixor, 1) := by decide +kernel
theorem dX12_fewest_36 : decode cX12_fewest 36 = .ok (.iand, 1) := by decide +kernel
theorem dX12_fewest_37 : decode cX12_fewest 37 = .ok (.ifCond .ne 45, 3) := by decide +kernel
theorem dX12_fewest_40 : decode cX12_fewest 40 = .ok (.iload 6, 2) := by decide +kernel
theorem dX12_fewest_42 : decode cX12_fewest 42 = .ok (.invokestatic 356, 3) := by decide +kernel
theorem dX12_fewest_45 : decode cX12_fewest 45 = .ok (.iload 5, 2) := by decide +kernel
theorem dX12_fewest_47 : decode cX12_fewest 47 = .ok (.if_icmp .ge 35, 3) := by decide +kernel
theorem dX12_fewest_50 : decode cX12_fewest 50 = .ok (.iload_n 2, 1) := by decide +kernel
theorem dX12_fewest_51 : decode cX12_fewest 51 = .ok (.aload_n 0, 1) := by decide +kernel
theorem dX12_fewest_52 : decode cX12_fewest 52 = .ok (.aload_n 0, 1) := by decide +kernel
theorem dX12_fewest_53 : decode cX12_fewest 53 = .ok (.invokevirtual 65, 3) := by decide +kernel
theorem dX12_fewest_56 : decode cX12_fewest 56 = .ok (.iload 6, 2) := by decide +kernel
theorem dX12_fewest_58 : decode cX12_fewest 58 = .ok (.ior, 1) := by decide +kernel
theorem dX12_fewest_59 : decode cX12_fewest 59 = .ok (.invokevirtual 302, 3) := by decide +kernel
theorem dX12_fewest_62 : decode cX12_fewest 62 = .ok (.iconst (-1), 1) := by decide +kernel
theorem dX12_fewest_63 : decode cX12_fewest 63 = .ok (.ixor, 1) := by decide +kernel
theorem dX12_fewest_64 : decode cX12_fewest 64 = .ok (.iand, 1) := by decide +kernel
theorem dX12_fewest_65 : decode cX12_fewest 65 = .ok (.ifCond .eq 6, 3) := by decide +kernel
theorem dX12_fewest_68 : decode cX12_fewest 68 = .ok (.goto 14, 3) := by decide +kernel
theorem dX12_fewest_71 : decode cX12_fewest 71 = .ok (.iload 6, 2) := by decide +kernel
theorem dX12_fewest_73 : decode cX12_fewest 73 = .ok (.istore 4, 2) := by decide +kernel
theorem dX12_fewest_75 : decode cX12_fewest 75 = .ok (.iload 6, 2) := by decide +kernel
theorem dX12_fewest_77 : decode cX12_fewest 77 = .ok (.invokestatic 356, 3) := by decide +kernel
theorem dX12_fewest_80 : decode cX12_fewest 80 = .ok (.istore 5, 2) := by decide +kernel
theorem dX12_fewest_82 : decode cX12_fewest 82 = .ok (.iinc 6 1, 3) := by decide +kernel
theorem dX12_fewest_85 : decode cX12_fewest 85 = .ok (.goto (-61), 3) := by decide +kernel
theorem dX12_fewest_88 : decode cX12_fewest 88 = .ok (.iload 4, 2) := by decide +kernel
theorem dX12_fewest_90 : decode cX12_fewest 90 = .ok (.ireturn, 1) := by decide +kernel
theorem dX12_lowestOf_0 : decode cX12_lowestOf 0 = .ok (.iload_n 1, 1) := by decide +kernel
theorem dX12_lowestOf_1 : decode cX12_lowestOf 1 = .ok (.ifCond .ne 7, 3) := by decide +kernel
theorem dX12_lowestOf_4 : decode cX12_lowestOf 4 = .ok (.iload_n 2, 1) := by decide +kernel
theorem dX12_lowestOf_5 : decode cX12_lowestOf 5 = .ok (.goto 11, 3) := by decide +kernel
theorem dX12_lowestOf_8 : decode cX12_lowestOf 8 = .ok (.iload_n 2, 1) := by decide +kernel
theorem dX12_lowestOf_9 : decode cX12_lowestOf 9 = .ok (.iload_n 1, 1) := by decide +kernel
theorem dX12_lowestOf_10 : decode cX12_lowestOf 10 = .ok (.invokestatic 364, 3) := by decide +kernel
theorem dX12_lowestOf_13 : decode cX12_lowestOf 13 = .ok (.invokestatic 259, 3) := by decide +kernel
theorem dX12_lowestOf_16 : decode cX12_lowestOf 16 = .ok (.ireturn, 1) := by decide +kernel
theorem dX12_highestOf_0 : decode cX12_highestOf 0 = .ok (.iload_n 1, 1) := by decide +kernel
theorem dX12_highestOf_1 : decode cX12_highestOf 1 = .ok (.ifCond .ne 7, 3) := by decide +kernel
theorem dX12_highestOf_4 : decode cX12_highestOf 4 = .ok (.iload_n 2, 1) := by decide +kernel
theorem dX12_highestOf_5 : decode cX12_highestOf 5 = .ok (.goto 14, 3) := by decide +kernel
theorem dX12_highestOf_8 : decode cX12_highestOf 8 = .ok (.iload_n 2, 1) := by decide +kernel
theorem dX12_highestOf_9 : decode cX12_highestOf 9 = .ok (.bipush 31, 2) := by decide +kernel
theorem dX12_highestOf_11 : decode cX12_highestOf 11 = .ok (.iload_n 1, 1) := by decide +kernel
theorem dX12_highestOf_12 : decode cX12_highestOf 12 = .ok (.invokestatic 367, 3) := by decide +kernel
theorem dX12_highestOf_15 : decode cX12_highestOf 15 = .ok (.isub, 1) := by decide +kernel
theorem dX12_highestOf_16 : decode cX12_highestOf 16 = .ok (.invokestatic 293, 3) := by decide +kernel
theorem dX12_highestOf_19 : decode cX12_highestOf 19 = .ok (.ireturn, 1) := by decide +kernel
theorem dX12_round_0 : decode cX12_round 0 = .ok (.aload_n 0, 1) := by decide +kernel
theorem dX12_round_1 : decode cX12_round 1 = .ok (.iconst 0, 1) := by decide +kernel
theorem dX12_round_2 : decode cX12_round 2 = .ok (.putfield 3, 3) := by decide +kernel
theorem dX12_round_5 : decode cX12_round 5 = .ok (.aload_n 0, 1) := by decide +kernel
theorem dX12_round_6 : decode cX12_round 6 = .ok (.aload_n 0, 1) := by decide +kernel
theorem dX12_round_7 : decode cX12_round 7 = .ok (.iload_n 1, 1) := by decide +kernel
theorem dX12_round_8 : decode cX12_round 8 = .ok (.invokevirtual 311, 3) := by decide +kernel
theorem dX12_round_11 : decode cX12_round 11 = .ok (.iconst 1, 1) := by decide +kernel
theorem dX12_round_12 : decode cX12_round 12 = .ok (.invokevirtual 247, 3) := by decide +kernel
theorem dX12_round_15 : decode cX12_round 15 = .ok (.ifCond .eq 5, 3) := by decide +kernel
theorem dX12_round_18 : decode cX12_round 18 = .ok (.iconst 0, 1) := by decide +kernel
theorem dX12_round_19 : decode cX12_round 19 = .ok (.ireturn, 1) := by decide +kernel
theorem dX12_round_20 : decode cX12_round 20 = .ok (.aload_n 0, 1) := by decide +kernel
theorem dX12_round_21 : decode cX12_round 21 = .ok (.iload_n 1, 1) := by decide +kernel
theorem dX12_round_22 : decode cX12_round 22 = .ok (.iconst 0, 1) := by decide +kernel
theorem dX12_round_23 : decode cX12_round 23 = .ok (.invokevirtual 314, 3) := by decide +kernel
theorem dX12_round_26 : decode cX12_round 26 = .ok (.istore 4, 2) := by decide +kernel
theorem dX12_round_28 : decode cX12_round 28 = .ok (.iload_n 2, 1) := by decide +kernel
theorem dX12_round_29 : decode cX12_round 29 = .ok (.ldc 80, 2) := by decide +kernel
theorem dX12_round_31 : decode cX12_round 31 = .ok (.iand, 1) := by decide +kernel
theorem dX12_round_32 : decode cX12_round 32 = .ok (.istore 5, 2) := by decide +kernel
theorem dX12_round_34 : decode cX12_round 34 = .ok (.aload_n 0, 1) := by decide +kernel
theorem dX12_round_35 : decode cX12_round 35 = .ok (.iload 5, 2) := by decide +kernel
theorem dX12_round_37 : decode cX12_round 37 = .ok (.iload 4, 2) := by decide +kernel
theorem dX12_round_39 : decode cX12_round 39 = .ok (.invokevirtual 370, 3) := by decide +kernel
theorem dX12_round_42 : decode cX12_round 42 = .ok (.istore 6, 2) := by decide +kernel
theorem dX12_round_44 : decode cX12_round 44 = .ok (.aload_n 0, 1) := by decide +kernel
theorem dX12_round_45 : decode cX12_round 45 = .ok (.iload 5, 2) := by decide +kernel
theorem dX12_round_47 : decode cX12_round 47 = .ok (.iload 4, 2) := by decide +kernel
theorem dX12_round_49 : decode cX12_round 49 = .ok (.invokevirtual 373, 3) := by decide +kernel
theorem dX12_round_52 : decode cX12_round 52 = .ok (.istore 7, 2) := by decide +kernel
theorem dX12_round_54 : decode cX12_round 54 = .ok (.iload 4, 2) := by decide +kernel
theorem dX12_round_56 : decode cX12_round 56 = .ok (.iload 6, 2) := by decide +kernel
theorem dX12_round_58 : decode cX12_round 58 = .ok (.isub, 1) := by decide +kernel
theorem dX12_round_59 : decode cX12_round 59 = .ok (.istore 8, 2) := by decide +kernel
theorem dX12_round_61 : decode cX12_round 61 = .ok (.iload 7, 2) := by decide +kernel
theorem dX12_round_63 : decode cX12_round 63 = .ok (.iload 4, 2) := by decide +kernel
theorem dX12_round_65 : decode cX12_round 65 = .ok (.isub, 1) := by decide +kernel
theorem dX12_round_66 : decode cX12_round 66 = .ok (.istore 9, 2) := by decide +kernel
theorem dX12_round_68 : decode cX12_round 68 = .ok (.iload_n 3, 1) := by decide +kernel
theorem dX12_round_69 : decode cX12_round 69 = .ok (.ifCond .ne 17, 3) := by decide +kernel
theorem dX12_round_72 : decode cX12_round 72 = .ok (.iload 8, 2) := by decide +kernel
theorem dX12_round_74 : decode cX12_round 74 = .ok (.iload 9, 2) := by decide +kernel
theorem dX12_round_76 : decode cX12_round 76 = .ok (.iadd, 1) := by decide +kernel
theorem dX12_round_77 : decode cX12_round 77 = .ok (.iload 8, 2) := by decide +kernel
theorem dX12_round_79 : decode cX12_round 79 = .ok (.iload 9, 2) := by decide +kernel
theorem dX12_round_81 : decode cX12_round 81 = .ok (.invokestatic 259, 3) := by decide +kernel
theorem dX12_round_84 : decode cX12_round 84 = .ok (.iadd, 1) := by decide +kernel
theorem dX12_round_85 : decode cX12_round 85 = .ok (.ireturn, 1) := by decide +kernel
theorem dX12_round_86 : decode cX12_round 86 = .ok (.iload 8, 2) := by decide +kernel
theorem dX12_round_88 : decode cX12_round 88 = .ok (.ifCond .ne 8, 3) := by decide +kernel
theorem dX12_round_91 : decode cX12_round 91 = .ok (.iload 7, 2) := by decide +kernel
theorem dX12_round_93 : decode cX12_round 93 = .ok (.goto 22, 3) := by decide +kernel
theorem dX12_round_96 : decode cX12_round 96 = .ok (.iload 9, 2) := by decide +kernel
theorem dX12_round_98 : decode cX12_round 98 = .ok (.ifCond .eq 10, 3) := by decide +kernel
theorem dX12_round_101 : decode cX12_round 101 = .ok (.iload 9, 2) := by decide +kernel
theorem dX12_round_103 : decode cX12_round 103 = .ok (.iload 8, 2) := by decide +kernel
theorem dX12_round_105 : decode cX12_round 105 = .ok (.if_icmp .gt 8, 3) := by decide +kernel
theorem dX12_round_108 : decode cX12_round 108 = .ok (.iload 6, 2) := by decide +kernel
theorem dX12_round_110 : decode cX12_round 110 = .ok (.goto 5, 3) := by decide +kernel
theorem dX12_round_113 : decode cX12_round 113 = .ok (.iload 7, 2) := by decide +kernel
theorem dX12_round_115 : decode cX12_round 115 = .ok (.ireturn, 1) := by decide +kernel
theorem dX12_daysOf_0 : decode cX12_daysOf 0 = .ok (.aload_n 0, 1) := by decide +kernel
theorem dX12_daysOf_1 : decode cX12_daysOf 1 = .ok (.iload_n 1, 1) := by decide +kernel
theorem dX12_daysOf_2 : decode cX12_daysOf 2 = .ok (.iconst 0, 1) := by decide +kernel
theorem dX12_daysOf_3 : decode cX12_daysOf 3 = .ok (.invokevirtual 314, 3) := by decide +kernel
theorem dX12_daysOf_6 : decode cX12_daysOf 6 = .ok (.iload_n 2, 1) := by decide +kernel
theorem dX12_daysOf_7 : decode cX12_daysOf 7 = .ok (.isub, 1) := by decide +kernel
theorem dX12_daysOf_8 : decode cX12_daysOf 8 = .ok (.invokestatic 253, 3) := by decide +kernel
theorem dX12_daysOf_11 : decode cX12_daysOf 11 = .ok (.aload_n 0, 1) := by decide +kernel
theorem dX12_daysOf_12 : decode cX12_daysOf 12 = .ok (.iload_n 1, 1) := by decide +kernel
theorem dX12_daysOf_13 : decode cX12_daysOf 13 = .ok (.iconst 1, 1) := by decide +kernel
theorem dX12_daysOf_14 : decode cX12_daysOf 14 = .ok (.invokevirtual 314, 3) := by decide +kernel
theorem dX12_daysOf_17 : decode cX12_daysOf 17 = .ok (.iadd, 1) := by decide +kernel
theorem dX12_daysOf_18 : decode cX12_daysOf 18 = .ok (.iconst 1, 1) := by decide +kernel
theorem dX12_daysOf_19 : decode cX12_daysOf 19 = .ok (.isub, 1) := by decide +kernel
theorem dX12_daysOf_20 : decode cX12_daysOf 20 = .ok (.aload_n 0, 1) := by decide +kernel
theorem dX12_daysOf_21 : decode cX12_daysOf 21 = .ok (.iload_n 1, 1) := by decide +kernel
theorem dX12_daysOf_22 : decode cX12_daysOf 22 = .ok (.iconst 1, 1) := by decide +kernel
theorem dX12_daysOf_23 : decode cX12_daysOf 23 = .ok (.invokevirtual 314, 3) := by decide +kernel
theorem dX12_daysOf_26 : decode cX12_daysOf 26 = .ok (.idiv, 1) := by decide +kernel
theorem dX12_daysOf_27 : decode cX12_daysOf 27 = .ok (.ireturn, 1) := by decide +kernel
theorem dX12_leastOf_0 : decode cX12_leastOf 0 = .ok (.aload_n 0, 1) := by decide +kernel
theorem dX12_leastOf_1 : decode cX12_leastOf 1 = .ok (.getfield 42, 3) := by decide +kernel
theorem dX12_leastOf_4 : decode cX12_leastOf 4 = .ok (.iload_n 1, 1) := by decide +kernel
theorem dX12_leastOf_5 : decode cX12_leastOf 5 = .ok (.iconst 5, 1) := by decide +kernel
theorem dX12_leastOf_6 : decode cX12_leastOf 6 = .ok (.ishl, 1) := by decide +kernel
theorem dX12_leastOf_7 : decode cX12_leastOf 7 = .ok (.iload_n 2, 1) := by decide +kernel
theorem dX12_leastOf_8 : decode cX12_leastOf 8 = .ok (.iadd, 1) := by decide +kernel
theorem dX12_leastOf_9 : decode cX12_leastOf 9 = .ok (.iaload, 1) := by decide +kernel
theorem dX12_leastOf_10 : decode cX12_leastOf 10 = .ok (.ireturn, 1) := by decide +kernel
theorem dX12_leastBy_0 : decode cX12_leastBy 0 = .ok (.aload_n 0, 1) := by decide +kernel
theorem dX12_leastBy_1 : decode cX12_leastBy 1 = .ok (.iload_n 1, 1) := by decide +kernel
theorem dX12_leastBy_2 : decode cX12_leastBy 2 = .ok (.aload_n 0, 1) := by decide +kernel
theorem dX12_leastBy_3 : decode cX12_leastBy 3 = .ok (.getfield 29, 3) := by decide +kernel
theorem dX12_leastBy_6 : decode cX12_leastBy 6 = .ok (.iload_n 3, 1) := by decide +kernel
theorem dX12_leastBy_7 : decode cX12_leastBy 7 = .ok (.baload, 1) := by decide +kernel
theorem dX12_leastBy_8 : decode cX12_leastBy 8 = .ok (.invokevirtual 376, 3) := by decide +kernel
theorem dX12_leastBy_11 : decode cX12_leastBy 11 = .ok (.aload_n 0, 1) := by decide +kernel
theorem dX12_leastBy_12 : decode cX12_leastBy 12 = .ok (.iload_n 1, 1) := by decide +kernel
theorem dX12_leastBy_13 : decode cX12_leastBy 13 = .ok (.iconst 1, 1) := by decide +kernel
theorem dX12_leastBy_14 : decode cX12_leastBy 14 = .ok (.iadd, 1) := by decide +kernel
theorem dX12_leastBy_15 : decode cX12_leastBy 15 = .ok (.iload_n 2, 1) := by decide +kernel
theorem dX12_leastBy_16 : decode cX12_leastBy 16 = .ok (.iconst 1, 1) := by decide +kernel
theorem dX12_leastBy_17 : decode cX12_leastBy 17 = .ok (.iload_n 3, 1) := by decide +kernel
theorem dX12_leastBy_18 : decode cX12_leastBy 18 = .ok (.ishl, 1) := by decide +kernel
theorem dX12_leastBy_19 : decode cX12_leastBy 19 = .ok (.ior, 1) := by decide +kernel
theorem dX12_leastBy_20 : decode cX12_leastBy 20 = .ok (.invokevirtual 379, 3) := by decide +kernel
theorem dX12_leastBy_23 : decode cX12_leastBy 23 = .ok (.invokestatic 293, 3) := by decide +kernel
theorem dX12_leastBy_26 : decode cX12_leastBy 26 = .ok (.ireturn, 1) := by decide +kernel
theorem dX12_laysLeast_0 : decode cX12_laysLeast 0 = .ok (.iconst 0, 1) := by decide +kernel
theorem dX12_laysLeast_1 : decode cX12_laysLeast 1 = .ok (.istore_n 1, 1) := by decide +kernel
theorem dX12_laysLeast_2 : decode cX12_laysLeast 2 = .ok (.iload_n 1, 1) := by decide +kernel
theorem dX12_laysLeast_3 : decode cX12_laysLeast 3 = .ok (.bipush 32, 2) := by decide +kernel
theorem dX12_laysLeast_5 : decode cX12_laysLeast 5 = .ok (.if_icmp .ge 23, 3) := by decide +kernel
theorem dX12_laysLeast_8 : decode cX12_laysLeast 8 = .ok (.aload_n 0, 1) := by decide +kernel
theorem dX12_laysLeast_9 : decode cX12_laysLeast 9 = .ok (.getfield 42, 3) := by decide +kernel
theorem dX12_laysLeast_12 : decode cX12_laysLeast 12 = .ok (.aload_n 0, 1) := by decide +kernel
theorem dX12_laysLeast_13 : decode cX12_laysLeast 13 = .ok (.invokevirtual 73, 3) := by decide +kernel
theorem dX12_laysLeast_16 : decode cX12_laysLeast 16 = .ok (.iconst 5, 1) := by decide +kernel
theorem dX12_laysLeast_17 : decode cX12_laysLeast 17 = .ok (.ishl, 1) := by decide +kernel
theorem dX12_laysLeast_18 : decode cX12_laysLeast 18 = .ok (.iload_n 1, 1) := by decide +kernel
theorem dX12_laysLeast_19 : decode cX12_laysLeast 19 = .ok (.iadd, 1) := by decide +kernel
theorem dX12_laysLeast_20 : decode cX12_laysLeast 20 = .ok (.iconst 0, 1) := by decide +kernel
theorem dX12_laysLeast_21 : decode cX12_laysLeast 21 = .ok (.iastore, 1) := by decide +kernel
theorem dX12_laysLeast_22 : decode cX12_laysLeast 22 = .ok (.iinc 1 1, 3) := by decide +kernel
theorem dX12_laysLeast_25 : decode cX12_laysLeast 25 = .ok (.goto (-23), 3) := by decide +kernel
theorem dX12_laysLeast_28 : decode cX12_laysLeast 28 = .ok (.aload_n 0, 1) := by decide +kernel
theorem dX12_laysLeast_29 : decode cX12_laysLeast 29 = .ok (.invokevirtual 73, 3) := by decide +kernel
theorem dX12_laysLeast_32 : decode cX12_laysLeast 32 = .ok (.iconst 1, 1) := by decide +kernel
theorem dX12_laysLeast_33 : decode cX12_laysLeast 33 = .ok (.isub, 1) := by decide +kernel
theorem dX12_laysLeast_34 : decode cX12_laysLeast 34 = .ok (.istore_n 1, 1) := by decide +kernel
theorem dX12_laysLeast_35 : decode cX12_laysLeast 35 = .ok (.iload_n 1, 1) := by decide +kernel
theorem dX12_laysLeast_36 : decode cX12_laysLeast 36 = .ok (.ifCond .lt 78, 3) := by decide +kernel
theorem dX12_laysLeast_39 : decode cX12_laysLeast 39 = .ok (.iconst 0, 1) := by decide +kernel
theorem dX12_laysLeast_40 : decode cX12_laysLeast 40 = .ok (.istore_n 2, 1) := by decide +kernel
theorem dX12_laysLeast_41 : decode cX12_laysLeast 41 = .ok (.iload_n 2, 1) := by decide +kernel
theorem dX12_laysLeast_42 : decode cX12_laysLeast 42 = .ok (.bipush 32, 2) := by decide +kernel
theorem dX12_laysLeast_44 : decode cX12_laysLeast 44 = .ok (.if_icmp .ge 64, 3) := by decide +kernel
theorem dX12_laysLeast_47 : decode cX12_laysLeast 47 = .ok (.ldc_w 382, 3) := by decide +kernel
theorem dX12_laysLeast_50 : decode cX12_laysLeast 50 = .ok (.istore_n 3, 1) := by decide +kernel
theorem dX12_laysLeast_51 : decode cX12_laysLeast 51 = .ok (.iconst 0, 1) := by decide +kernel
theorem dX12_laysLeast_52 : decode cX12_laysLeast 52 = .ok (.istore 4, 2) := by decide +kernel
theorem dX12_laysLeast_54 : decode cX12_laysLeast 54 = .ok (.iload 4, 2) := by decide +kernel
theorem dX12_laysLeast_56 : decode cX12_laysLeast 56 = .ok (.aload_n 0, 1) := by decide +kernel
theorem dX12_laysLeast_57 : decode cX12_laysLeast 57 = .ok (.invokevirtual 73, 3) := by decide +kernel
theorem dX12_laysLeast_60 : decode cX12_laysLeast 60 = .ok (.if_icmp .ge 31, 3) := by decide +kernel
theorem dX12_laysLeast_63 : decode cX12_laysLeast 63 = .ok (.iload_n 2, 1) := by decide +kernel
theorem dX12_laysLeast_64 : decode cX12_laysLeast 64 = .ok (.iload 4, 2) := by decide +kernel
theorem dX12_laysLeast_66 : decode cX12_laysLeast 66 = .ok (.invokestatic 69, 3) := by decide +kernel
theorem dX12_laysLeast_69 : decode cX12_laysLeast 69 = .ok (.ifCond .ne 16, 3) := by decide +kernel
theorem dX12_laysLeast_72 : decode cX12_laysLeast 72 = .ok (.iload_n 3, 1) := by decide +kernel
theorem dX12_laysLeast_73 : decode cX12_laysLeast 73 = .ok (.aload_n 0, 1) := by decide +kernel
theorem dX12_laysLeast_74 : decode cX12_laysLeast 74 = .ok (.iload_n 1, 1) := by decide +kernel
theorem dX12_laysLeast_75 : decode cX12_laysLeast 75 = .ok (.iload_n 2, 1) := by decide +kernel
theorem dX12_laysLeast_76 : decode cX12_laysLeast 76 = .ok (.iload 4, 2) := by decide +kernel
theorem dX12_laysLeast_78 : decode cX12_laysLeast 78 = .ok (.invokevirtual 383, 3) := by decide +kernel
theorem dX12_laysLeast_81 : decode cX12_laysLeast 81 = .ok (.invokestatic 259, 3) := by decide +kernel
theorem dX12_laysLeast_84 : decode cX12_laysLeast 84 = .ok (.istore_n 3, 1) := by decide +kernel
theorem dX12_laysLeast_85 : decode cX12_laysLeast 85 = .ok (.iinc 4 1, 3) := by decide +kernel
theorem dX12_laysLeast_88 : decode cX12_laysLeast 88 = .ok (.goto (-34), 3) := by decide +kernel
theorem dX12_laysLeast_91 : decode cX12_laysLeast 91 = .ok (.aload_n 0, 1) := by decide +kernel
theorem dX12_laysLeast_92 : decode cX12_laysLeast 92 = .ok (.getfield 42, 3) := by decide +kernel
theorem dX12_laysLeast_95 : decode cX12_laysLeast 95 = .ok (.iload_n 1, 1) := by decide +kernel
theorem dX12_laysLeast_96 : decode cX12_laysLeast 96 = .ok (.iconst 5, 1) := by decide +kernel
theorem dX12_laysLeast_97 : decode cX12_laysLeast 97 = .ok (.ishl, 1) := by decide +kernel
theorem dX12_laysLeast_98 : decode cX12_laysLeast 98 = .ok (.iload_n 2, 1) := by decide +kernel
theorem dX12_laysLeast_99 : decode cX12_laysLeast 99 = .ok (.iadd, 1) := by decide +kernel
theorem dX12_laysLeast_100 : decode cX12_laysLeast 100 = .ok (.iload_n 3, 1) := by decide +kernel
theorem dX12_laysLeast_101 : decode cX12_laysLeast 101 = .ok (.iastore, 1) := by decide +kernel
theorem dX12_laysLeast_102 : decode cX12_laysLeast 102 = .ok (.iinc 2 1, 3) := by decide +kernel
theorem dX12_laysLeast_105 : decode cX12_laysLeast 105 = .ok (.goto (-64), 3) := by decide +kernel
theorem dX12_laysLeast_108 : decode cX12_laysLeast 108 = .ok (.iinc 1 (-1), 3) := by decide +kernel
theorem dX12_laysLeast_111 : decode cX12_laysLeast 111 = .ok (.goto (-76), 3) := by decide +kernel
theorem dX12_laysLeast_114 : decode cX12_laysLeast 114 = .ok (.return_, 1) := by decide +kernel
theorem dX12_goes_0 : decode cX12_goes 0 = .ok (.aload_n 0, 1) := by decide +kernel
theorem dX12_goes_1 : decode cX12_goes 1 = .ok (.invokevirtual 236, 3) := by decide +kernel
theorem dX12_goes_4 : decode cX12_goes 4 = .ok (.aload_n 0, 1) := by decide +kernel
theorem dX12_goes_5 : decode cX12_goes 5 = .ok (.iload_n 1, 1) := by decide +kernel
theorem dX12_goes_6 : decode cX12_goes 6 = .ok (.iconst (-1), 1) := by decide +kernel
theorem dX12_goes_7 : decode cX12_goes 7 = .ok (.if_icmp .eq 15, 3) := by decide +kernel
theorem dX12_goes_10 : decode cX12_goes 10 = .ok (.aload_n 0, 1) := by decide +kernel
theorem dX12_goes_11 : decode cX12_goes 11 = .ok (.iload_n 1, 1) := by decide +kernel
theorem dX12_goes_12 : decode cX12_goes 12 = .ok (.invokevirtual 311, 3) := by decide +kernel
theorem dX12_goes_15 : decode cX12_goes 15 = .ok (.ifCond .eq 7, 3) := by decide +kernel
theorem dX12_goes_18 : decode cX12_goes 18 = .ok (.iconst 1, 1) := by decide +kernel
theorem dX12_goes_19 : decode cX12_goes 19 = .ok (.goto 4, 3) := by decide +kernel
theorem dX12_goes_22 : decode cX12_goes 22 = .ok (.iconst 0, 1) := by decide +kernel
theorem dX12_goes_23 : decode cX12_goes 23 = .ok (.iconst 1, 1) := by decide +kernel
theorem dX12_goes_24 : decode cX12_goes 24 = .ok (.invokevirtual 247, 3) := by decide +kernel
theorem dX12_goes_27 : decode cX12_goes 27 = .ok (.ifCond .eq 5, 3) := by decide +kernel
theorem dX12_goes_30 : decode cX12_goes 30 = .ok (.iconst 0, 1) := by decide +kernel
theorem dX12_goes_31 : decode cX12_goes 31 = .ok (.ireturn, 1) := by decide +kernel
theorem dX12_goes_32 : decode cX12_goes 32 = .ok (.aload_n 0, 1) := by decide +kernel
theorem dX12_goes_33 : decode cX12_goes 33 = .ok (.getfield 88, 3) := by decide +kernel
theorem dX12_goes_36 : decode cX12_goes 36 = .ok (.aload_n 0, 1) := by decide +kernel
theorem dX12_goes_37 : decode cX12_goes 37 = .ok (.invokevirtual 73, 3) := by decide +kernel
theorem dX12_goes_40 : decode cX12_goes 40 = .ok (.if_icmp .ne 7, 3) := by decide +kernel
theorem dX12_goes_43 : decode cX12_goes 43 = .ok (.iconst 1, 1) := by decide +kernel
theorem dX12_goes_44 : decode cX12_goes 44 = .ok (.goto 4, 3) := by decide +kernel
theorem dX12_goes_47 : decode cX12_goes 47 = .ok (.iconst 0, 1) := by decide +kernel
theorem dX12_goes_48 : decode cX12_goes 48 = .ok (.istore_n 2, 1) := by decide +kernel
theorem dX12_goes_49 : decode cX12_goes 49 = .ok (.iconst 0, 1) := by decide +kernel
theorem dX12_goes_50 : decode cX12_goes 50 = .ok (.istore_n 3, 1) := by decide +kernel
theorem dX12_goes_51 : decode cX12_goes 51 = .ok (.iload_n 3, 1) := by decide +kernel
theorem dX12_goes_52 : decode cX12_goes 52 = .ok (.aload_n 0, 1) := by decide +kernel
theorem dX12_goes_53 : decode cX12_goes 53 = .ok (.getfield 88, 3) := by decide +kernel
theorem dX12_goes_56 : decode cX12_goes 56 = .ok (.if_icmp .ge 31, 3) := by decide +kernel
theorem dX12_goes_59 : decode cX12_goes 59 = .ok (.iload_n 2, 1) := by decide +kernel
theorem dX12_goes_60 : decode cX12_goes 60 = .ok (.ifCond .eq 27, 3) := by decide +kernel
theorem dX12_goes_63 : decode cX12_goes 63 = .ok (.aload_n 0, 1) := by decide +kernel
theorem dX12_goes_64 : decode cX12_goes 64 = .ok (.getfield 29, 3) := by decide +kernel
theorem dX12_goes_67 : decode cX12_goes 67 = .ok (.iload_n 3, 1) := by decide +kernel
theorem dX12_goes_68 : decode cX12_goes 68 = .ok (.baload, 1) := by decide +kernel
theorem dX12_goes_69 : decode cX12_goes 69 = .ok (.invokestatic 305, 3) := by decide +kernel
theorem dX12_goes_72 : decode cX12_goes 72 = .ok (.ifCond .ne 7, 3) := by decide +kernel
theorem dX12_goes_75 : decode cX12_goes 75 = .ok (.iconst 1, 1) := by decide +kernel
theorem dX12_goes_76 : decode cX12_goes 76 = .ok (.goto 4, 3) := by decide +kernel
theorem dX12_goes_79 : decode cX12_goes 79 = .ok (.iconst 0, 1) := by decide +kernel
theorem dX12_goes_80 : decode cX12_goes 80 = .ok (.istore_n 2, 1) := by decide +kernel
theorem dX12_goes_81 : decode cX12_goes 81 = .ok (.iinc 3 1, 3) := by decide +kernel
theorem dX12_goes_84 : decode cX12_goes 84 = .ok (.goto (-33), 3) := by decide +kernel
theorem dX12_goes_87 : decode cX12_goes 87 = .ok (.aload_n 0, 1) := by decide +kernel
theorem dX12_goes_88 : decode cX12_goes 88 = .ok (.iload_n 2, 1) := by decide +kernel
theorem dX12_goes_89 : decode cX12_goes 89 = .ok (.ifCond .ne 7, 3) := by decide +kernel
theorem dX12_goes_92 : decode cX12_goes 92 = .ok (.iconst 1, 1) := by decide +kernel
theorem dX12_goes_93 : decode cX12_goes 93 = .ok (.goto 4, 3) := by decide +kernel
theorem dX12_goes_96 : decode cX12_goes 96 = .ok (.iconst 0, 1) := by decide +kernel
theorem dX12_goes_97 : decode cX12_goes 97 = .ok (.iconst 2, 1) := by decide +kernel
theorem dX12_goes_98 : decode cX12_goes 98 = .ok (.invokevirtual 247, 3) := by decide +kernel
theorem dX12_goes_101 : decode cX12_goes 101 = .ok (.ifCond .eq 5, 3) := by decide +kernel
theorem dX12_goes_104 : decode cX12_goes 104 = .ok (.iconst 0, 1) := by decide +kernel
theorem dX12_goes_105 : decode cX12_goes 105 = .ok (.ireturn, 1) := by decide +kernel
theorem dX12_goes_106 : decode cX12_goes 106 = .ok (.aload_n 0, 1) := by decide +kernel
theorem dX12_goes_107 : decode cX12_goes 107 = .ok (.invokevirtual 386, 3) := by decide +kernel
theorem dX12_goes_110 : decode cX12_goes 110 = .ok (.aload_n 0, 1) := by decide +kernel
theorem dX12_goes_111 : decode cX12_goes 111 = .ok (.iconst 0, 1) := by decide +kernel
theorem dX12_goes_112 : decode cX12_goes 112 = .ok (.iconst 0, 1) := by decide +kernel
theorem dX12_goes_113 : decode cX12_goes 113 = .ok (.invokevirtual 379, 3) := by decide +kernel
theorem dX12_goes_116 : decode cX12_goes 116 = .ok (.istore_n 3, 1) := by decide +kernel
theorem dX12_goes_117 : decode cX12_goes 117 = .ok (.iload_n 1, 1) := by decide +kernel
theorem dX12_goes_118 : decode cX12_goes 118 = .ok (.iconst (-1), 1) := by decide +kernel
theorem dX12_goes_119 : decode cX12_goes 119 = .ok (.if_icmp .ne 5, 3) := by decide +kernel
theorem dX12_goes_122 : decode cX12_goes 122 = .ok (.iload_n 3, 1) := by decide +kernel
theorem dX12_goes_123 : decode cX12_goes 123 = .ok (.ireturn, 1) := by decide +kernel
theorem dX12_goes_124 : decode cX12_goes 124 = .ok (.iconst 0, 1) := by decide +kernel
theorem dX12_goes_125 : decode cX12_goes 125 = .ok (.istore 4, 2) := by decide +kernel
theorem dX12_goes_127 : decode cX12_goes 127 = .ok (.iconst 0, 1) := by decide +kernel
theorem dX12_goes_128 : decode cX12_goes 128 = .ok (.istore 5, 2) := by decide +kernel
theorem dX12_goes_130 : decode cX12_goes 130 = .ok (.iconst 0, 1) := by decide +kernel
theorem dX12_goes_131 : decode cX12_goes 131 = .ok (.istore 6, 2) := by decide +kernel
theorem dX12_goes_133 : decode cX12_goes 133 = .ok (.iload 6, 2) := by decide +kernel
theorem dX12_goes_135 : decode cX12_goes 135 = .ok (.iload_n 1, 1) := by decide +kernel
theorem dX12_goes_136 : decode cX12_goes 136 = .ok (.if_icmp .gt 51, 3) := by decide +kernel
theorem dX12_goes_139 : decode cX12_goes 139 = .ok (.iconst 0, 1) := by decide +kernel
theorem dX12_goes_140 : decode cX12_goes 140 = .ok (.istore 5, 2) := by decide +kernel
theorem dX12_goes_142 : decode cX12_goes 142 = .ok (.iload 4, 2) := by decide +kernel
theorem dX12_goes_144 : decode cX12_goes 144 = .ok (.iload 5, 2) := by decide +kernel
theorem dX12_goes_146 : decode cX12_goes 146 = .ok (.invokestatic 69, 3) := by decide +kernel
theorem dX12_goes_149 : decode cX12_goes 149 = .ok (.ifCond .ne 17, 3) := by decide +kernel
theorem dX12_goes_152 : decode cX12_goes 152 = .ok (.aload_n 0, 1) := by decide +kernel
theorem dX12_goes_153 : decode cX12_goes 153 = .ok (.iload 6, 2) := by decide +kernel
theorem dX12_goes_155 : decode cX12_goes 155 = .ok (.iload 4, 2) := by decide +kernel
theorem dX12_goes_157 : decode cX12_goes 157 = .ok (.iload 5, 2) := by decide +kernel
theorem dX12_goes_159 : decode cX12_goes 159 = .ok (.invokevirtual 383, 3) := by decide +kernel
theorem dX12_goes_162 : decode cX12_goes 162 = .ok (.iload_n 3, 1) := by decide +kernel
theorem dX12_goes_163 : decode cX12_goes 163 = .ok (.if_icmp .le 9, 3) := by decide +kernel
theorem dX12_goes_166 : decode cX12_goes 166 = .ok (.iinc 5 1, 3) := by decide +kernel
theorem dX12_goes_169 : decode cX12_goes 169 = .ok (.goto (-27), 3) := by decide +kernel
theorem dX12_goes_172 : decode cX12_goes 172 = .ok (.iload 4, 2) := by decide +kernel
theorem dX12_goes_174 : decode cX12_goes 174 = .ok (.iconst 1, 1) := by decide +kernel
theorem dX12_goes_175 : decode cX12_goes 175 = .ok (.iload 5, 2) := by decide +kernel
theorem dX12_goes_177 : decode cX12_goes 177 = .ok (.ishl, 1) := by decide +kernel
theorem dX12_goes_178 : decode cX12_goes 178 = .ok (.ior, 1) := by decide +kernel
theorem dX12_goes_179 : decode cX12_goes 179 = .ok (.istore 4, 2) := by decide +kernel
theorem dX12_goes_181 : decode cX12_goes 181 = .ok (.iinc 6 1, 3) := by decide +kernel
theorem dX12_goes_184 : decode cX12_goes 184 = .ok (.goto (-51), 3) := by decide +kernel
theorem dX12_goes_187 : decode cX12_goes 187 = .ok (.iload 5, 2) := by decide +kernel
theorem dX12_goes_189 : decode cX12_goes 189 = .ok (.ireturn, 1) := by decide +kernel
theorem dX12_before_0 : decode cX12_before 0 = .ok (.aload_n 0, 1) := by decide +kernel
theorem dX12_before_1 : decode cX12_before 1 = .ok (.iconst 0, 1) := by decide +kernel
theorem dX12_before_2 : decode cX12_before 2 = .ok (.putfield 3, 3) := by decide +kernel
theorem dX12_before_5 : decode cX12_before 5 = .ok (.aload_n 0, 1) := by decide +kernel
theorem dX12_before_6 : decode cX12_before 6 = .ok (.iload_n 1, 1) := by decide +kernel
theorem dX12_before_7 : decode cX12_before 7 = .ok (.iconst 0, 1) := by decide +kernel
theorem dX12_before_8 : decode cX12_before 8 = .ok (.bipush 20, 2) := by decide +kernel
theorem dX12_before_10 : decode cX12_before 10 = .ok (.invokestatic 76, 3) := by decide +kernel
theorem dX12_before_13 : decode cX12_before 13 = .ok (.ifCond .ne 7, 3) := by decide +kernel
theorem dX12_before_16 : decode cX12_before 16 = .ok (.iconst 1, 1) := by decide +kernel
theorem dX12_before_17 : decode cX12_before 17 = .ok (.goto 4, 3) := by decide +kernel
theorem dX12_before_20 : decode cX12_before 20 = .ok (.iconst 0, 1) := by decide +kernel
theorem dX12_before_21 : decode cX12_before 21 = .ok (.iconst 1, 1) := by decide +kernel
theorem dX12_before_22 : decode cX12_before 22 = .ok (.invokevirtual 247, 3) := by decide +kernel
theorem dX12_before_25 : decode cX12_before 25 = .ok (.ifCond .eq 5, 3) := by decide +kernel
theorem dX12_before_28 : decode cX12_before 28 = .ok (.iconst 0, 1) := by decide +kernel
theorem dX12_before_29 : decode cX12_before 29 = .ok (.ireturn, 1) := by decide +kernel
theorem dX12_before_30 : decode cX12_before 30 = .ok (.iconst 0, 1) := by decide +kernel
theorem dX12_before_31 : decode cX12_before 31 = .ok (.istore_n 2, 1) := by decide +kernel
theorem dX12_before_32 : decode cX12_before 32 = .ok (.iconst 0, 1) := by decide +kernel
theorem dX12_before_33 : decode cX12_before 33 = .ok (.istore_n 3, 1) := by decide +kernel
theorem dX12_before_34 : decode cX12_before 34 = .ok (.iload_n 3, 1) := by decide +kernel
theorem dX12_before_35 : decode cX12_before 35 = .ok (.aload_n 0, 1) := by decide +kernel
theorem dX12_before_36 : decode cX12_before 36 = .ok (.invokevirtual 73, 3) := by decide +kernel
theorem dX12_before_39 : decode cX12_before 39 = .ok (.if_icmp .ge 47, 3) := by decide +kernel
theorem dX12_before_42 : decode cX12_before 42 = .ok (.iconst 0, 1) := by decide +kernel
theorem dX12_before_43 : decode cX12_before 43 = .ok (.istore 4, 2) := by decide +kernel
theorem dX12_before_45 : decode cX12_before 45 = .ok (.iload 4, 2) := by decide +kernel
theorem dX12_before_47 : decode cX12_before 47 = .ok (.bipush 16, 2) := by decide +kernel
theorem dX12_before_49 : decode cX12_before 49 = .ok (.if_icmp .ge 31, 3) := by decide +kernel
theorem dX12_before_52 : decode cX12_before 52 = .ok (.iload_n 2, 1) := by decide +kernel
theorem dX12_before_53 : decode cX12_before 53 = .ok (.aload_n 0, 1) := by decide +kernel
theorem dX12_before_54 : decode cX12_before 54 = .ok (.iload_n 3, 1) := by decide +kernel
theorem dX12_before_55 : decode cX12_before 55 = .ok (.iload 4, 2) := by decide +kernel
theorem dX12_before_57 : decode cX12_before 57 = .ok (.invokevirtual 376, 3) := by decide +kernel
theorem dX12_before_60 : decode cX12_before 60 = .ok (.iload_n 1, 1) := by decide +kernel
theorem dX12_before_61 : decode cX12_before 61 = .ok (.if_icmp .gt 10, 3) := by decide +kernel
theorem dX12_before_64 : decode cX12_before 64 = .ok (.iconst 1, 1) := by decide +kernel
theorem dX12_before_65 : decode cX12_before 65 = .ok (.iload 4, 2) := by decide +kernel
theorem dX12_before_67 : decode cX12_before 67 = .ok (.ishl, 1) := by decide +kernel
theorem dX12_before_68 : decode cX12_before 68 = .ok (.goto 4, 3) := by decide +kernel
theorem dX12_before_71 : decode cX12_before 71 = .ok (.iconst 0, 1) := by decide +kernel
theorem dX12_before_72 : decode cX12_before 72 = .ok (.ior, 1) := by decide +kernel
theorem dX12_before_73 : decode cX12_before 73 = .ok (.istore_n 2, 1) := by decide +kernel
theorem dX12_before_74 : decode cX12_before 74 = .ok (.iinc 4 1, 3) := by decide +kernel
theorem dX12_before_77 : decode cX12_before 77 = .ok (.goto (-32), 3) := by decide +kernel
theorem dX12_before_80 : decode cX12_before 80 = .ok (.iinc 3 1, 3) := by decide +kernel
theorem dX12_before_83 : decode cX12_before 83 = .ok (.goto (-49), 3) := by decide +kernel
theorem dX12_before_86 : decode cX12_before 86 = .ok (.iload_n 2, 1) := by decide +kernel
theorem dX12_before_87 : decode cX12_before 87 = .ok (.ireturn, 1) := by decide +kernel
theorem dX12_isTold_0 : decode cX12_isTold 0 = .ok (.aload_n 0, 1) := by decide +kernel
theorem dX12_isTold_1 : decode cX12_isTold 1 = .ok (.getfield 88, 3) := by decide +kernel
theorem dX12_isTold_4 : decode cX12_isTold 4 = .ok (.iconst 2, 1) := by decide +kernel
theorem dX12_isTold_5 : decode cX12_isTold 5 = .ok (.irem, 1) := by decide +kernel
theorem dX12_isTold_6 : decode cX12_isTold 6 = .ok (.ifCond .ne 16, 3) := by decide +kernel
theorem dX12_isTold_9 : decode cX12_isTold 9 = .ok (.aload_n 0, 1) := by decide +kernel
theorem dX12_isTold_10 : decode cX12_isTold 10 = .ok (.getfield 88, 3) := by decide +kernel
theorem dX12_isTold_13 : decode cX12_isTold 13 = .ok (.bipush 40, 2) := by decide +kernel
theorem dX12_isTold_15 : decode cX12_isTold 15 = .ok (.if_icmp .gt 7, 3) := by decide +kernel
theorem dX12_isTold_18 : decode cX12_isTold 18 = .ok (.iconst 1, 1) := by decide +kernel
theorem dX12_isTold_19 : decode cX12_isTold 19 = .ok (.goto 4, 3) := by decide +kernel
theorem dX12_isTold_22 : decode cX12_isTold 22 = .ok (.iconst 0, 1) := by decide +kernel
theorem dX12_isTold_23 : decode cX12_isTold 23 = .ok (.istore_n 1, 1) := by decide +kernel
theorem dX12_isTold_24 : decode cX12_isTold 24 = .ok (.iconst 0, 1) := by decide +kernel
theorem dX12_isTold_25 : decode cX12_isTold 25 = .ok (.istore_n 2, 1) := by decide +kernel
theorem dX12_isTold_26 : decode cX12_isTold 26 = .ok (.iload_n 2, 1) := by decide +kernel
theorem dX12_isTold_27 : decode cX12_isTold 27 = .ok (.aload_n 0, 1) := by decide +kernel
theorem dX12_isTold_28 : decode cX12_isTold 28 = .ok (.getfield 88, 3) := by decide +kernel
theorem dX12_isTold_31 : decode cX12_isTold 31 = .ok (.if_icmp .ge 31, 3) := by decide +kernel
theorem dX12_isTold_34 : decode cX12_isTold 34 = .ok (.iload_n 1, 1) := by decide +kernel
theorem dX12_isTold_35 : decode cX12_isTold 35 = .ok (.ifCond .eq 27, 3) := by decide +kernel
theorem dX12_isTold_38 : decode cX12_isTold 38 = .ok (.aload_n 0, 1) := by decide +kernel
theorem dX12_isTold_39 : decode cX12_isTold 39 = .ok (.getfield 29, 3) := by decide +kernel
theorem dX12_isTold_42 : decode cX12_isTold 42 = .ok (.iload_n 2, 1) := by decide +kernel
theorem dX12_isTold_43 : decode cX12_isTold 43 = .ok (.baload, 1) := by decide +kernel
theorem dX12_isTold_44 : decode cX12_isTold 44 = .ok (.invokestatic 305, 3) := by decide +kernel
theorem dX12_isTold_47 : decode cX12_isTold 47 = .ok (.ifCond .ne 7, 3) := by decide +kernel
theorem dX12_isTold_50 : decode cX12_isTold 50 = .ok (.iconst 1, 1) := by decide +kernel
theorem dX12_isTold_51 : decode cX12_isTold 51 = .ok (.goto 4, 3) := by decide +kernel
theorem dX12_isTold_54 : decode cX12_isTold 54 = .ok (.iconst 0, 1) := by decide +kernel
theorem dX12_isTold_55 : decode cX12_isTold 55 = .ok (.istore_n 1, 1) := by decide +kernel
theorem dX12_isTold_56 : decode cX12_isTold 56 = .ok (.iinc 2 2, 3) := by decide +kernel
theorem dX12_isTold_59 : decode cX12_isTold 59 = .ok (.goto (-33), 3) := by decide +kernel
theorem dX12_isTold_62 : decode cX12_isTold 62 = .ok (.iload_n 1, 1) := by decide +kernel
theorem dX12_isTold_63 : decode cX12_isTold 63 = .ok (.ireturn, 1) := by decide +kernel
theorem dX12_fits_0 : decode cX12_fits 0 = .ok (.aload_n 0, 1) := by decide +kernel
theorem dX12_fits_1 : decode cX12_fits 1 = .ok (.aload_n 0, 1) := by decide +kernel
theorem dX12_fits_2 : decode cX12_fits 2 = .ok (.invokevirtual 65, 3) := by decide +kernel
theorem dX12_fits_5 : decode cX12_fits 5 = .ok (.iload_n 1, 1) := by decide +kernel
theorem dX12_fits_6 : decode cX12_fits 6 = .ok (.iconst (-1), 1) := by decide +kernel
theorem dX12_fits_7 : decode cX12_fits 7 = .ok (.ixor, 1) := by decide +kernel
theorem dX12_fits_8 : decode cX12_fits 8 = .ok (.iand, 1) := by decide +kernel
theorem dX12_fits_9 : decode cX12_fits 9 = .ok (.invokevirtual 290, 3) := by decide +kernel
theorem dX12_fits_12 : decode cX12_fits 12 = .ok (.istore_n 2, 1) := by decide +kernel
theorem dX12_fits_13 : decode cX12_fits 13 = .ok (.iconst 1, 1) := by decide +kernel
theorem dX12_fits_14 : decode cX12_fits 14 = .ok (.istore_n 3, 1) := by decide +kernel
theorem dX12_fits_15 : decode cX12_fits 15 = .ok (.iconst 0, 1) := by decide +kernel
theorem dX12_fits_16 : decode cX12_fits 16 = .ok (.istore 4, 2) := by decide +kernel
theorem dX12_fits_18 : decode cX12_fits 18 = .ok (.iload 4, 2) := by decide +kernel
theorem dX12_fits_20 : decode cX12_fits 20 = .ok (.bipush 16, 2) := by decide +kernel
theorem dX12_fits_22 : decode cX12_fits 22 = .ok (.if_icmp .ge 31, 3) := by decide +kernel
theorem dX12_fits_25 : decode cX12_fits 25 = .ok (.aload_n 0, 1) := by decide +kernel
theorem dX12_fits_26 : decode cX12_fits 26 = .ok (.getfield 48, 3) := by decide +kernel
theorem dX12_fits_29 : decode cX12_fits 29 = .ok (.bipush 16, 2) := by decide +kernel
theorem dX12_fits_31 : decode cX12_fits 31 = .ok (.aload_n 0, 1) := by decide +kernel
theorem dX12_fits_32 : decode cX12_fits 32 = .ok (.getfield 389, 3) := by decide +kernel
theorem dX12_fits_35 : decode cX12_fits 35 = .ok (.imul, 1) := by decide +kernel
theorem dX12_fits_36 : decode cX12_fits 36 = .ok (.iload 4, 2) := by decide +kernel
theorem dX12_fits_38 : decode cX12_fits 38 = .ok (.iadd, 1) := by decide +kernel
theorem dX12_fits_39 : decode cX12_fits 39 = .ok (.aload_n 0, 1) := by decide +kernel
theorem dX12_fits_40 : decode cX12_fits 40 = .ok (.iload_n 2, 1) := by decide +kernel
theorem dX12_fits_41 : decode cX12_fits 41 = .ok (.iload 4, 2) := by decide +kernel
theorem dX12_fits_43 : decode cX12_fits 43 = .ok (.invokevirtual 296, 3) := by decide +kernel
theorem dX12_fits_46 : decode cX12_fits 46 = .ok (.iastore, 1) := by decide +kernel
theorem dX12_fits_47 : decode cX12_fits 47 = .ok (.iinc 4 1, 3) := by decide +kernel
theorem dX12_fits_50 : decode cX12_fits 50 = .ok (.goto (-32), 3) := by decide +kernel
theorem dX12_fits_53 : decode cX12_fits 53 = .ok (.iconst 0, 1) := by decide +kernel
theorem dX12_fits_54 : decode cX12_fits 54 = .ok (.istore 4, 2) := by decide +kernel
theorem dX12_fits_56 : decode cX12_fits 56 = .ok (.iload 4, 2) := by decide +kernel
theorem dX12_fits_58 : decode cX12_fits 58 = .ok (.aload_n 0, 1) := by decide +kernel
theorem dX12_fits_59 : decode cX12_fits 59 = .ok (.getfield 88, 3) := by decide +kernel
theorem dX12_fits_62 : decode cX12_fits 62 = .ok (.if_icmp .ge 55, 3) := by decide +kernel
theorem dX12_fits_65 : decode cX12_fits 65 = .ok (.iload_n 3, 1) := by decide +kernel
theorem dX12_fits_66 : decode cX12_fits 66 = .ok (.ifCond .eq 43, 3) := by decide +kernel
theorem dX12_fits_69 : decode cX12_fits 69 = .ok (.aload_n 0, 1) := by decide +kernel
theorem dX12_fits_70 : decode cX12_fits 70 = .ok (.getfield 48, 3) := by decide +kernel
theorem dX12_fits_73 : decode cX12_fits 73 = .ok (.bipush 16, 2) := by decide +kernel
theorem dX12_fits_75 : decode cX12_fits 75 = .ok (.aload_n 0, 1) := by decide +kernel
theorem dX12_fits_76 : decode cX12_fits 76 = .ok (.getfield 389, 3) := by decide +kernel
theorem dX12_fits_79 : decode cX12_fits 79 = .ok (.imul, 1) := by decide +kernel
theorem dX12_fits_80 : decode cX12_fits 80 = .ok (.aload_n 0, 1) := by decide +kernel
theorem dX12_fits_81 : decode cX12_fits 81 = .ok (.getfield 29, 3) := by decide +kernel
theorem dX12_fits_84 : decode cX12_fits 84 = .ok (.iload 4, 2) := by decide +kernel
theorem dX12_fits_86 : decode cX12_fits 86 = .ok (.baload, 1) := by decide +kernel
theorem dX12_fits_87 : decode cX12_fits 87 = .ok (.iadd, 1) := by decide +kernel
theorem dX12_fits_88 : decode cX12_fits 88 = .ok (.iaload, 1) := by decide +kernel
theorem dX12_fits_89 : decode cX12_fits 89 = .ok (.aload_n 0, 1) := by decide +kernel
theorem dX12_fits_90 : decode cX12_fits 90 = .ok (.getfield 29, 3) := by decide +kernel
theorem dX12_fits_93 : decode cX12_fits 93 = .ok (.iload 4, 2) := by decide +kernel
theorem dX12_fits_95 : decode cX12_fits 95 = .ok (.iconst 1, 1) := by decide +kernel
theorem dX12_fits_96 : decode cX12_fits 96 = .ok (.iadd, 1) := by decide +kernel
theorem dX12_fits_97 : decode cX12_fits 97 = .ok (.baload, 1) := by decide +kernel
theorem dX12_fits_98 : decode cX12_fits 98 = .ok (.sipush 255, 3) := by decide +kernel
theorem dX12_fits_101 : decode cX12_fits 101 = .ok (.iand, 1) := by decide +kernel
theorem dX12_fits_102 : decode cX12_fits 102 = .ok (.if_icmp .ne 7, 3) := by decide +kernel
theorem dX12_fits_105 : decode cX12_fits 105 = .ok (.iconst 1, 1) := by decide +kernel
theorem dX12_fits_106 : decode cX12_fits 106 = .ok (.goto 4, 3) := by decide +kernel
theorem dX12_fits_109 : decode cX12_fits 109 = .ok (.iconst 0, 1) := by decide +kernel
theorem dX12_fits_110 : decode cX12_fits 110 = .ok (.istore_n 3, 1) := by decide +kernel
theorem dX12_fits_111 : decode cX12_fits 111 = .ok (.iinc 4 2, 3) := by decide +kernel
theorem dX12_fits_114 : decode cX12_fits 114 = .ok (.goto (-58), 3) := by decide +kernel
theorem dX12_fits_117 : decode cX12_fits 117 = .ok (.iload_n 3, 1) := by decide +kernel
theorem dX12_fits_118 : decode cX12_fits 118 = .ok (.ireturn, 1) := by decide +kernel
theorem dX12_laysSets_0 : decode cX12_laysSets 0 = .ok (.aload_n 0, 1) := by decide +kernel
theorem dX12_laysSets_1 : decode cX12_laysSets 1 = .ok (.iconst 0, 1) := by decide +kernel
theorem dX12_laysSets_2 : decode cX12_laysSets 2 = .ok (.putfield 389, 3) := by decide +kernel
theorem dX12_laysSets_5 : decode cX12_laysSets 5 = .ok (.iconst 0, 1) := by decide +kernel
theorem dX12_laysSets_6 : decode cX12_laysSets 6 = .ok (.istore_n 1, 1) := by decide +kernel
theorem dX12_laysSets_7 : decode cX12_laysSets 7 = .ok (.iload_n 1, 1) := by decide +kernel
theorem dX12_laysSets_8 : decode cX12_laysSets 8 = .ok (.aload_n 0, 1) := by decide +kernel
theorem dX12_laysSets_9 : decode cX12_laysSets 9 = .ok (.invokevirtual 65, 3) := by decide +kernel
theorem dX12_laysSets_12 : decode cX12_laysSets 12 = .ok (.if_icmp .gt 59, 3) := by decide +kernel
theorem dX12_laysSets_15 : decode cX12_laysSets 15 = .ok (.iload_n 1, 1) := by decide +kernel
theorem dX12_laysSets_16 : decode cX12_laysSets 16 = .ok (.aload_n 0, 1) := by decide +kernel
theorem dX12_laysSets_17 : decode cX12_laysSets 17 = .ok (.invokevirtual 65, 3) := by decide +kernel
theorem dX12_laysSets_20 : decode cX12_laysSets 20 = .ok (.iconst (-1), 1) := by decide +kernel
theorem dX12_laysSets_21 : decode cX12_laysSets 21 = .ok (.ixor, 1) := by decide +kernel
theorem dX12_laysSets_22 : decode cX12_laysSets 22 = .ok (.iand, 1) := by decide +kernel
theorem dX12_laysSets_23 : decode cX12_laysSets 23 = .ok (.ifCond .ne 42, 3) := by decide +kernel
theorem dX12_laysSets_26 : decode cX12_laysSets 26 = .ok (.iload_n 1, 1) := by decide +kernel
theorem dX12_laysSets_27 : decode cX12_laysSets 27 = .ok (.invokestatic 356, 3) := by decide +kernel
theorem dX12_laysSets_30 : decode cX12_laysSets 30 = .ok (.iconst 2, 1) := by decide +kernel
theorem dX12_laysSets_31 : decode cX12_laysSets 31 = .ok (.if_icmp .gt 34, 3) := by decide +kernel
theorem dX12_laysSets_34 : decode cX12_laysSets 34 = .ok (.aload_n 0, 1) := by decide +kernel
theorem dX12_laysSets_35 : decode cX12_laysSets 35 = .ok (.iload_n 1, 1) := by decide +kernel
