theorem dX12_trims_83 : decode cX12_trims 83 = .ok (.return_, 1) := by decide +kernel
theorem dX12_slot_0 : decode cX12_slot 0 = .ok (.aload_n 0, 1) := by decide +kernel
theorem dX12_slot_1 : decode cX12_slot 1 = .ok (.getfield 9, 3) := by decide +kernel
theorem dX12_slot_4 : decode cX12_slot 4 = .ok (.bipush 25, 2) := by decide +kernel
theorem dX12_slot_6 : decode cX12_slot 6 = .ok (.iaload, 1) := by decide +kernel
theorem dX12_slot_7 : decode cX12_slot 7 = .ok (.istore_n 1, 1) := by decide +kernel
theorem dX12_slot_8 : decode cX12_slot 8 = .ok (.iload_n 1, 1) := by decide +kernel
theorem dX12_slot_9 : decode cX12_slot 9 = .ok (.iconst 4, 1) := by decide +kernel
theorem dX12_slot_10 : decode cX12_slot 10 = .ok (.irem, 1) := by decide +kernel
theorem dX12_slot_11 : decode cX12_slot 11 = .ok (.ifCond .ne 10, 3) := by decide +kernel
theorem dX12_slot_14 : decode cX12_slot 14 = .ok (.aload_n 0, 1) := by decide +kernel
theorem dX12_slot_15 : decode cX12_slot 15 = .ok (.iload_n 1, 1) := by decide +kernel
theorem dX12_slot_16 : decode cX12_slot 16 = .ok (.iconst 4, 1) := by decide +kernel
theorem dX12_slot_17 : decode cX12_slot 17 = .ok (.idiv, 1) := by decide +kernel
theorem dX12_slot_18 : decode cX12_slot 18 = .ok (.invokevirtual 308, 3) := by decide +kernel
theorem dX12_slot_21 : decode cX12_slot 21 = .ok (.aload_n 0, 1) := by decide +kernel
theorem dX12_slot_22 : decode cX12_slot 22 = .ok (.getfield 9, 3) := by decide +kernel
theorem dX12_slot_25 : decode cX12_slot 25 = .ok (.bipush 51, 2) := by decide +kernel
theorem dX12_slot_27 : decode cX12_slot 27 = .ok (.iaload, 1) := by decide +kernel
theorem dX12_slot_28 : decode cX12_slot 28 = .ok (.ifCond .le 61, 3) := by decide +kernel
theorem dX12_slot_31 : decode cX12_slot 31 = .ok (.iconst 4, 1) := by decide +kernel
theorem dX12_slot_32 : decode cX12_slot 32 = .ok (.aload_n 0, 1) := by decide +kernel
theorem dX12_slot_33 : decode cX12_slot 33 = .ok (.getfield 9, 3) := by decide +kernel
theorem dX12_slot_36 : decode cX12_slot 36 = .ok (.iconst 0, 1) := by decide +kernel
theorem dX12_slot_37 : decode cX12_slot 37 = .ok (.invokestatic 217, 3) := by decide +kernel
theorem dX12_slot_40 : decode cX12_slot 40 = .ok (.iconst 0, 1) := by decide +kernel
theorem dX12_slot_41 : decode cX12_slot 41 = .ok (.iadd, 1) := by decide +kernel
theorem dX12_slot_42 : decode cX12_slot 42 = .ok (.iaload, 1) := by decide +kernel
theorem dX12_slot_43 : decode cX12_slot 43 = .ok (.imul, 1) := by decide +kernel
theorem dX12_slot_44 : decode cX12_slot 44 = .ok (.aload_n 0, 1) := by decide +kernel
theorem dX12_slot_45 : decode cX12_slot 45 = .ok (.getfield 9, 3) := by decide +kernel
theorem dX12_slot_48 : decode cX12_slot 48 = .ok (.bipush 10, 2) := by decide +kernel
theorem dX12_slot_50 : decode cX12_slot 50 = .ok (.iaload, 1) := by decide +kernel
theorem dX12_slot_51 : decode cX12_slot 51 = .ok (.iadd, 1) := by decide +kernel
theorem dX12_slot_52 : decode cX12_slot 52 = .ok (.iload_n 1, 1) := by decide +kernel
theorem dX12_slot_53 : decode cX12_slot 53 = .ok (.if_icmp .gt 36, 3) := by decide +kernel
theorem dX12_slot_56 : decode cX12_slot 56 = .ok (.aload_n 0, 1) := by decide +kernel
theorem dX12_slot_57 : decode cX12_slot 57 = .ok (.aload_n 0, 1) := by decide +kernel
theorem dX12_slot_58 : decode cX12_slot 58 = .ok (.getfield 9, 3) := by decide +kernel
theorem dX12_slot_61 : decode cX12_slot 61 = .ok (.iconst 0, 1) := by decide +kernel
theorem dX12_slot_62 : decode cX12_slot 62 = .ok (.invokestatic 217, 3) := by decide +kernel
theorem dX12_slot_65 : decode cX12_slot 65 = .ok (.iconst 0, 1) := by decide +kernel
theorem dX12_slot_66 : decode cX12_slot 66 = .ok (.iadd, 1) := by decide +kernel
theorem dX12_slot_67 : decode cX12_slot 67 = .ok (.iaload, 1) := by decide +kernel
theorem dX12_slot_68 : decode cX12_slot 68 = .ok (.invokevirtual 243, 3) := by decide +kernel
theorem dX12_slot_71 : decode cX12_slot 71 = .ok (.aload_n 0, 1) := by decide +kernel
theorem dX12_slot_72 : decode cX12_slot 72 = .ok (.getfield 9, 3) := by decide +kernel
theorem dX12_slot_75 : decode cX12_slot 75 = .ok (.bipush 50, 2) := by decide +kernel
theorem dX12_slot_77 : decode cX12_slot 77 = .ok (.dup2, 1) := by decide +kernel
theorem dX12_slot_78 : decode cX12_slot 78 = .ok (.iaload, 1) := by decide +kernel
theorem dX12_slot_79 : decode cX12_slot 79 = .ok (.iconst 1, 1) := by decide +kernel
theorem dX12_slot_80 : decode cX12_slot 80 = .ok (.iadd, 1) := by decide +kernel
theorem dX12_slot_81 : decode cX12_slot 81 = .ok (.iastore, 1) := by decide +kernel
theorem dX12_slot_82 : decode cX12_slot 82 = .ok (.aload_n 0, 1) := by decide +kernel
theorem dX12_slot_83 : decode cX12_slot 83 = .ok (.invokevirtual 253, 3) := by decide +kernel
theorem dX12_slot_86 : decode cX12_slot 86 = .ok (.goto (-65), 3) := by decide +kernel
theorem dX12_slot_89 : decode cX12_slot 89 = .ok (.aload_n 0, 1) := by decide +kernel
theorem dX12_slot_90 : decode cX12_slot 90 = .ok (.invokevirtual 311, 3) := by decide +kernel
theorem dX12_slot_93 : decode cX12_slot 93 = .ok (.aload_n 0, 1) := by decide +kernel
theorem dX12_slot_94 : decode cX12_slot 94 = .ok (.getfield 9, 3) := by decide +kernel
theorem dX12_slot_97 : decode cX12_slot 97 = .ok (.bipush 31, 2) := by decide +kernel
theorem dX12_slot_99 : decode cX12_slot 99 = .ok (.iaload, 1) := by decide +kernel
theorem dX12_slot_100 : decode cX12_slot 100 = .ok (.ifCond .ne 25, 3) := by decide +kernel
theorem dX12_slot_103 : decode cX12_slot 103 = .ok (.aload_n 0, 1) := by decide +kernel
theorem dX12_slot_104 : decode cX12_slot 104 = .ok (.invokevirtual 240, 3) := by decide +kernel
theorem dX12_slot_107 : decode cX12_slot 107 = .ok (.aload_n 0, 1) := by decide +kernel
theorem dX12_slot_108 : decode cX12_slot 108 = .ok (.getfield 9, 3) := by decide +kernel
theorem dX12_slot_111 : decode cX12_slot 111 = .ok (.bipush 13, 2) := by decide +kernel
theorem dX12_slot_113 : decode cX12_slot 113 = .ok (.iaload, 1) := by decide +kernel
theorem dX12_slot_114 : decode cX12_slot 114 = .ok (.if_icmp .lt 11, 3) := by decide +kernel
theorem dX12_slot_117 : decode cX12_slot 117 = .ok (.aload_n 0, 1) := by decide +kernel
theorem dX12_slot_118 : decode cX12_slot 118 = .ok (.getfield 9, 3) := by decide +kernel
theorem dX12_slot_121 : decode cX12_slot 121 = .ok (.bipush 31, 2) := by decide +kernel
theorem dX12_slot_123 : decode cX12_slot 123 = .ok (.iconst 1, 1) := by decide +kernel
theorem dX12_slot_124 : decode cX12_slot 124 = .ok (.iastore, 1) := by decide +kernel
theorem dX12_slot_125 : decode cX12_slot 125 = .ok (.aload_n 0, 1) := by decide +kernel
theorem dX12_slot_126 : decode cX12_slot 126 = .ok (.getfield 9, 3) := by decide +kernel
theorem dX12_slot_129 : decode cX12_slot 129 = .ok (.bipush 31, 2) := by decide +kernel
theorem dX12_slot_131 : decode cX12_slot 131 = .ok (.iaload, 1) := by decide +kernel
theorem dX12_slot_132 : decode cX12_slot 132 = .ok (.iconst 1, 1) := by decide +kernel
theorem dX12_slot_133 : decode cX12_slot 133 = .ok (.if_icmp .ne 65, 3) := by decide +kernel
theorem dX12_slot_136 : decode cX12_slot 136 = .ok (.aload_n 0, 1) := by decide +kernel
theorem dX12_slot_137 : decode cX12_slot 137 = .ok (.getfield 9, 3) := by decide +kernel
theorem dX12_slot_140 : decode cX12_slot 140 = .ok (.bipush 32, 2) := by decide +kernel
theorem dX12_slot_142 : decode cX12_slot 142 = .ok (.dup2, 1) := by decide +kernel
theorem dX12_slot_143 : decode cX12_slot 143 = .ok (.iaload, 1) := by decide +kernel
theorem dX12_slot_144 : decode cX12_slot 144 = .ok (.sipush 1000, 3) := by decide +kernel
theorem dX12_slot_147 : decode cX12_slot 147 = .ok (.aload_n 0, 1) := by decide +kernel
theorem dX12_slot_148 : decode cX12_slot 148 = .ok (.getfield 9, 3) := by decide +kernel
theorem dX12_slot_151 : decode cX12_slot 151 = .ok (.bipush 12, 2) := by decide +kernel
theorem dX12_slot_153 : decode cX12_slot 153 = .ok (.iaload, 1) := by decide +kernel
theorem dX12_slot_154 : decode cX12_slot 154 = .ok (.iadd, 1) := by decide +kernel
theorem dX12_slot_155 : decode cX12_slot 155 = .ok (.aload_n 0, 1) := by decide +kernel
theorem dX12_slot_156 : decode cX12_slot 156 = .ok (.getfield 9, 3) := by decide +kernel
theorem dX12_slot_159 : decode cX12_slot 159 = .ok (.bipush 33, 2) := by decide +kernel
theorem dX12_slot_161 : decode cX12_slot 161 = .ok (.iaload, 1) := by decide +kernel
theorem dX12_slot_162 : decode cX12_slot 162 = .ok (.iadd, 1) := by decide +kernel
theorem dX12_slot_163 : decode cX12_slot 163 = .ok (.iadd, 1) := by decide +kernel
theorem dX12_slot_164 : decode cX12_slot 164 = .ok (.iastore, 1) := by decide +kernel
theorem dX12_slot_165 : decode cX12_slot 165 = .ok (.aload_n 0, 1) := by decide +kernel
theorem dX12_slot_166 : decode cX12_slot 166 = .ok (.getfield 9, 3) := by decide +kernel
theorem dX12_slot_169 : decode cX12_slot 169 = .ok (.bipush 32, 2) := by decide +kernel
theorem dX12_slot_171 : decode cX12_slot 171 = .ok (.iaload, 1) := by decide +kernel
theorem dX12_slot_172 : decode cX12_slot 172 = .ok (.sipush 4000, 3) := by decide +kernel
theorem dX12_slot_175 : decode cX12_slot 175 = .ok (.if_icmp .lt 23, 3) := by decide +kernel
theorem dX12_slot_178 : decode cX12_slot 178 = .ok (.aload_n 0, 1) := by decide +kernel
theorem dX12_slot_179 : decode cX12_slot 179 = .ok (.getfield 9, 3) := by decide +kernel
theorem dX12_slot_182 : decode cX12_slot 182 = .ok (.bipush 32, 2) := by decide +kernel
theorem dX12_slot_184 : decode cX12_slot 184 = .ok (.dup2, 1) := by decide +kernel
theorem dX12_slot_185 : decode cX12_slot 185 = .ok (.iaload, 1) := by decide +kernel
theorem dX12_slot_186 : decode cX12_slot 186 = .ok (.sipush 4000, 3) := by decide +kernel
theorem dX12_slot_189 : decode cX12_slot 189 = .ok (.isub, 1) := by decide +kernel
theorem dX12_slot_190 : decode cX12_slot 190 = .ok (.iastore, 1) := by decide +kernel
theorem dX12_slot_191 : decode cX12_slot 191 = .ok (.aload_n 0, 1) := by decide +kernel
theorem dX12_slot_192 : decode cX12_slot 192 = .ok (.invokevirtual 314, 3) := by decide +kernel
theorem dX12_slot_195 : decode cX12_slot 195 = .ok (.goto (-30), 3) := by decide +kernel
theorem dX12_slot_198 : decode cX12_slot 198 = .ok (.aload_n 0, 1) := by decide +kernel
theorem dX12_slot_199 : decode cX12_slot 199 = .ok (.getfield 9, 3) := by decide +kernel
theorem dX12_slot_202 : decode cX12_slot 202 = .ok (.bipush 25, 2) := by decide +kernel
theorem dX12_slot_204 : decode cX12_slot 204 = .ok (.dup2, 1) := by decide +kernel
theorem dX12_slot_205 : decode cX12_slot 205 = .ok (.iaload, 1) := by decide +kernel
theorem dX12_slot_206 : decode cX12_slot 206 = .ok (.iconst 1, 1) := by decide +kernel
theorem dX12_slot_207 : decode cX12_slot 207 = .ok (.iadd, 1) := by decide +kernel
theorem dX12_slot_208 : decode cX12_slot 208 = .ok (.iastore, 1) := by decide +kernel
theorem dX12_slot_209 : decode cX12_slot 209 = .ok (.return_, 1) := by decide +kernel
theorem dX12_played_0 : decode cX12_played 0 = .ok (.aload_n 0, 1) := by decide +kernel
theorem dX12_played_1 : decode cX12_played 1 = .ok (.getfield 9, 3) := by decide +kernel
theorem dX12_played_4 : decode cX12_played 4 = .ok (.bipush 36, 2) := by decide +kernel
theorem dX12_played_6 : decode cX12_played 6 = .ok (.iaload, 1) := by decide +kernel
theorem dX12_played_7 : decode cX12_played 7 = .ok (.aload_n 0, 1) := by decide +kernel
theorem dX12_played_8 : decode cX12_played 8 = .ok (.getfield 9, 3) := by decide +kernel
theorem dX12_played_11 : decode cX12_played 11 = .ok (.bipush 37, 2) := by decide +kernel
theorem dX12_played_13 : decode cX12_played 13 = .ok (.iaload, 1) := by decide +kernel
theorem dX12_played_14 : decode cX12_played 14 = .ok (.iadd, 1) := by decide +kernel
theorem dX12_played_15 : decode cX12_played 15 = .ok (.ireturn, 1) := by decide +kernel
theorem dX12_run_0 : decode cX12_run 0 = .ok (.aload_n 0, 1) := by decide +kernel
theorem dX12_run_1 : decode cX12_run 1 = .ok (.iconst 0, 1) := by decide +kernel
theorem dX12_run_2 : decode cX12_run 2 = .ok (.putfield 58, 3) := by decide +kernel
theorem dX12_run_5 : decode cX12_run 5 = .ok (.iload_n 1, 1) := by decide +kernel
theorem dX12_run_6 : decode cX12_run 6 = .ok (.i2l, 1) := by decide +kernel
theorem dX12_run_7 : decode cX12_run 7 = .ok (.lconst 1, 1) := by decide +kernel
theorem dX12_run_8 : decode cX12_run 8 = .ok (.ldc2_w 317, 3) := by decide +kernel
theorem dX12_run_11 : decode cX12_run 11 = .ok (.invokestatic 68, 3) := by decide +kernel
theorem dX12_run_14 : decode cX12_run 14 = .ok (.ifCond .eq 18, 3) := by decide +kernel
theorem dX12_run_17 : decode cX12_run 17 = .ok (.aload_n 0, 1) := by decide +kernel
theorem dX12_run_18 : decode cX12_run 18 = .ok (.getfield 9, 3) := by decide +kernel
theorem dX12_run_21 : decode cX12_run 21 = .ok (.bipush 25, 2) := by decide +kernel
theorem dX12_run_23 : decode cX12_run 23 = .ok (.iaload, 1) := by decide +kernel
theorem dX12_run_24 : decode cX12_run 24 = .ok (.iload_n 1, 1) := by decide +kernel
theorem dX12_run_25 : decode cX12_run 25 = .ok (.iadd, 1) := by decide +kernel
theorem dX12_run_26 : decode cX12_run 26 = .ok (.sipush 10000, 3) := by decide +kernel
theorem dX12_run_29 : decode cX12_run 29 = .ok (.if_icmp .le 5, 3) := by decide +kernel
theorem dX12_run_32 : decode cX12_run 32 = .ok (.iconst (-1), 1) := by decide +kernel
theorem dX12_run_33 : decode cX12_run 33 = .ok (.ireturn, 1) := by decide +kernel
theorem dX12_run_34 : decode cX12_run 34 = .ok (.aload_n 0, 1) := by decide +kernel
theorem dX12_run_35 : decode cX12_run 35 = .ok (.invokevirtual 319, 3) := by decide +kernel
theorem dX12_run_38 : decode cX12_run 38 = .ok (.istore_n 2, 1) := by decide +kernel
theorem dX12_run_39 : decode cX12_run 39 = .ok (.iconst 0, 1) := by decide +kernel
theorem dX12_run_40 : decode cX12_run 40 = .ok (.istore_n 3, 1) := by decide +kernel
theorem dX12_run_41 : decode cX12_run 41 = .ok (.iload_n 3, 1) := by decide +kernel
theorem dX12_run_42 : decode cX12_run 42 = .ok (.iload_n 1, 1) := by decide +kernel
theorem dX12_run_43 : decode cX12_run 43 = .ok (.if_icmp .ge 13, 3) := by decide +kernel
theorem dX12_run_46 : decode cX12_run 46 = .ok (.aload_n 0, 1) := by decide +kernel
theorem dX12_run_47 : decode cX12_run 47 = .ok (.invokevirtual 322, 3) := by decide +kernel
theorem dX12_run_50 : decode cX12_run 50 = .ok (.iinc 3 1, 3) := by decide +kernel
theorem dX12_run_53 : decode cX12_run 53 = .ok (.goto (-12), 3) := by decide +kernel
theorem dX12_run_56 : decode cX12_run 56 = .ok (.aload_n 0, 1) := by decide +kernel
theorem dX12_run_57 : decode cX12_run 57 = .ok (.invokevirtual 319, 3) := by decide +kernel
theorem dX12_run_60 : decode cX12_run 60 = .ok (.iload_n 2, 1) := by decide +kernel
theorem dX12_run_61 : decode cX12_run 61 = .ok (.isub, 1) := by decide +kernel
theorem dX12_run_62 : decode cX12_run 62 = .ok (.ireturn, 1) := by decide +kernel
theorem dX12_isCoded_0 : decode cX12_isCoded 0 = .ok (.aload_n 0, 1) := by decide +kernel
theorem dX12_isCoded_1 : decode cX12_isCoded 1 = .ok (.getfield 9, 3) := by decide +kernel
theorem dX12_isCoded_4 : decode cX12_isCoded 4 = .ok (.bipush 26, 2) := by decide +kernel
theorem dX12_isCoded_6 : decode cX12_isCoded 6 = .ok (.iaload, 1) := by decide +kernel
theorem dX12_isCoded_7 : decode cX12_isCoded 7 = .ok (.ifCond .le 7, 3) := by decide +kernel
theorem dX12_isCoded_10 : decode cX12_isCoded 10 = .ok (.iconst 1, 1) := by decide +kernel
theorem dX12_isCoded_11 : decode cX12_isCoded 11 = .ok (.goto 4, 3) := by decide +kernel
theorem dX12_isCoded_14 : decode cX12_isCoded 14 = .ok (.iconst 0, 1) := by decide +kernel
theorem dX12_isCoded_15 : decode cX12_isCoded 15 = .ok (.ireturn, 1) := by decide +kernel
theorem dX12_isBand_0 : decode cX12_isBand 0 = .ok (.iload_n 0, 1) := by decide +kernel
theorem dX12_isBand_1 : decode cX12_isBand 1 = .ok (.i2l, 1) := by decide +kernel
theorem dX12_isBand_2 : decode cX12_isBand 2 = .ok (.lconst 0, 1) := by decide +kernel
theorem dX12_isBand_3 : decode cX12_isBand 3 = .ok (.lconst 1, 1) := by decide +kernel
theorem dX12_isBand_4 : decode cX12_isBand 4 = .ok (.invokestatic 68, 3) := by decide +kernel
theorem dX12_isBand_7 : decode cX12_isBand 7 = .ok (.ifCond .eq 19, 3) := by decide +kernel
theorem dX12_isBand_10 : decode cX12_isBand 10 = .ok (.iload_n 1, 1) := by decide +kernel
theorem dX12_isBand_11 : decode cX12_isBand 11 = .ok (.i2l, 1) := by decide +kernel
theorem dX12_isBand_12 : decode cX12_isBand 12 = .ok (.lconst 0, 1) := by decide +kernel
theorem dX12_isBand_13 : decode cX12_isBand 13 = .ok (.ldc2_w 108, 3) := by decide +kernel
theorem dX12_isBand_16 : decode cX12_isBand 16 = .ok (.invokestatic 68, 3) := by decide +kernel
theorem dX12_isBand_19 : decode cX12_isBand 19 = .ok (.ifCond .eq 7, 3) := by decide +kernel
theorem dX12_isBand_22 : decode cX12_isBand 22 = .ok (.iconst 1, 1) := by decide +kernel
theorem dX12_isBand_23 : decode cX12_isBand 23 = .ok (.goto 4, 3) := by decide +kernel
theorem dX12_isBand_26 : decode cX12_isBand 26 = .ok (.iconst 0, 1) := by decide +kernel
theorem dX12_isBand_27 : decode cX12_isBand 27 = .ok (.ireturn, 1) := by decide +kernel
theorem dX12_band_0 : decode cX12_band 0 = .ok (.aload_n 0, 1) := by decide +kernel
theorem dX12_band_1 : decode cX12_band 1 = .ok (.iconst 0, 1) := by decide +kernel
theorem dX12_band_2 : decode cX12_band 2 = .ok (.putfield 58, 3) := by decide +kernel
theorem dX12_band_5 : decode cX12_band 5 = .ok (.aload_n 0, 1) := by decide +kernel
theorem dX12_band_6 : decode cX12_band 6 = .ok (.invokevirtual 325, 3) := by decide +kernel
theorem dX12_band_9 : decode cX12_band 9 = .ok (.ifCond .eq 36, 3) := by decide +kernel
theorem dX12_band_12 : decode cX12_band 12 = .ok (.iload_n 1, 1) := by decide +kernel
theorem dX12_band_13 : decode cX12_band 13 = .ok (.iload_n 2, 1) := by decide +kernel
theorem dX12_band_14 : decode cX12_band 14 = .ok (.invokestatic 329, 3) := by decide +kernel
theorem dX12_band_17 : decode cX12_band 17 = .ok (.ifCond .eq 28, 3) := by decide +kernel
theorem dX12_band_20 : decode cX12_band 20 = .ok (.iload_n 3, 1) := by decide +kernel
theorem dX12_band_21 : decode cX12_band 21 = .ok (.i2l, 1) := by decide +kernel
theorem dX12_band_22 : decode cX12_band 22 = .ok (.lconst 0, 1) := by decide +kernel
theorem dX12_band_23 : decode cX12_band 23 = .ok (.ldc2_w 332, 3) := by decide +kernel
theorem dX12_band_26 : decode cX12_band 26 = .ok (.invokestatic 68, 3) := by decide +kernel
theorem dX12_band_29 : decode cX12_band 29 = .ok (.ifCond .eq 16, 3) := by decide +kernel
theorem dX12_band_32 : decode cX12_band 32 = .ok (.iload 4, 2) := by decide +kernel
theorem dX12_band_34 : decode cX12_band 34 = .ok (.i2l, 1) := by decide +kernel
theorem dX12_band_35 : decode cX12_band 35 = .ok (.lconst 0, 1) := by decide +kernel
theorem dX12_band_36 : decode cX12_band 36 = .ok (.ldc2_w 332, 3) := by decide +kernel
theorem dX12_band_39 : decode cX12_band 39 = .ok (.invokestatic 68, 3) := by decide +kernel
theorem dX12_band_42 : decode cX12_band 42 = .ok (.ifCond .ne 6, 3) := by decide +kernel
theorem dX12_band_45 : decode cX12_band 45 = .ok (.ldc 136, 2) := by decide +kernel
theorem dX12_band_47 : decode cX12_band 47 = .ok (.ireturn, 1) := by decide +kernel
theorem dX12_band_48 : decode cX12_band 48 = .ok (.iload_n 1, 1) := by decide +kernel
theorem dX12_band_49 : decode cX12_band 49 = .ok (.iload_n 2, 1) := by decide +kernel
theorem dX12_band_50 : decode cX12_band 50 = .ok (.iload_n 3, 1) := by decide +kernel
theorem dX12_band_51 : decode cX12_band 51 = .ok (.invokestatic 166, 3) := by decide +kernel
theorem dX12_band_54 : decode cX12_band 54 = .ok (.istore 5, 2) := by decide +kernel
theorem dX12_band_56 : decode cX12_band 56 = .ok (.bipush 8, 2) := by decide +kernel
theorem dX12_band_58 : decode cX12_band 58 = .ok (.iload_n 1, 1) := by decide +kernel
theorem dX12_band_59 : decode cX12_band 59 = .ok (.imul, 1) := by decide +kernel
theorem dX12_band_60 : decode cX12_band 60 = .ok (.iload_n 2, 1) := by decide +kernel
theorem dX12_band_61 : decode cX12_band 61 = .ok (.iadd, 1) := by decide +kernel
theorem dX12_band_62 : decode cX12_band 62 = .ok (.istore 6, 2) := by decide +kernel
theorem dX12_band_64 : decode cX12_band 64 = .ok (.aload_n 0, 1) := by decide +kernel
theorem dX12_band_65 : decode cX12_band 65 = .ok (.getfield 9, 3) := by decide +kernel
theorem dX12_band_68 : decode cX12_band 68 = .ok (.sipush 637, 3) := by decide +kernel
theorem dX12_band_71 : decode cX12_band 71 = .ok (.iload 6, 2) := by decide +kernel
theorem dX12_band_73 : decode cX12_band 73 = .ok (.iadd, 1) := by decide +kernel
theorem dX12_band_74 : decode cX12_band 74 = .ok (.iaload, 1) := by decide +kernel
theorem dX12_band_75 : decode cX12_band 75 = .ok (.istore 7, 2) := by decide +kernel
theorem dX12_band_77 : decode cX12_band 77 = .ok (.aload_n 0, 1) := by decide +kernel
theorem dX12_band_78 : decode cX12_band 78 = .ok (.getfield 9, 3) := by decide +kernel
theorem dX12_band_81 : decode cX12_band 81 = .ok (.sipush 621, 3) := by decide +kernel
theorem dX12_band_84 : decode cX12_band 84 = .ok (.iload 6, 2) := by decide +kernel
theorem dX12_band_86 : decode cX12_band 86 = .ok (.iadd, 1) := by decide +kernel
theorem dX12_band_87 : decode cX12_band 87 = .ok (.iaload, 1) := by decide +kernel
theorem dX12_band_88 : decode cX12_band 88 = .ok (.istore 8, 2) := by decide +kernel
theorem dX12_band_90 : decode cX12_band 90 = .ok (.aload_n 0, 1) := by decide +kernel
theorem dX12_band_91 : decode cX12_band 91 = .ok (.getfield 9, 3) := by decide +kernel
theorem dX12_band_94 : decode cX12_band 94 = .ok (.sipush 557, 3) := by decide +kernel
theorem dX12_band_97 : decode cX12_band 97 = .ok (.iload 5, 2) := by decide +kernel
theorem dX12_band_99 : decode cX12_band 99 = .ok (.iadd, 1) := by decide +kernel
theorem dX12_band_100 : decode cX12_band 100 = .ok (.iaload, 1) := by decide +kernel
theorem dX12_band_101 : decode cX12_band 101 = .ok (.istore 9, 2) := by decide +kernel
theorem dX12_band_103 : decode cX12_band 103 = .ok (.iload 7, 2) := by decide +kernel
theorem dX12_band_105 : decode cX12_band 105 = .ok (.ifCond .ne 7, 3) := by decide +kernel
theorem dX12_band_108 : decode cX12_band 108 = .ok (.iconst (-1), 1) := by decide +kernel
theorem dX12_band_109 : decode cX12_band 109 = .ok (.goto 12, 3) := by decide +kernel
theorem dX12_band_112 : decode cX12_band 112 = .ok (.iload 9, 2) := by decide +kernel
theorem dX12_band_114 : decode cX12_band 114 = .ok (.iload 8, 2) := by decide +kernel
theorem dX12_band_116 : decode cX12_band 116 = .ok (.iload 7, 2) := by decide +kernel
theorem dX12_band_118 : decode cX12_band 118 = .ok (.invokestatic 201, 3) := by decide +kernel
theorem dX12_band_121 : decode cX12_band 121 = .ok (.istore 10, 2) := by decide +kernel
theorem dX12_band_123 : decode cX12_band 123 = .ok (.iload 4, 2) := by decide +kernel
theorem dX12_band_125 : decode cX12_band 125 = .ok (.ifCond .ne 17, 3) := by decide +kernel
theorem dX12_band_128 : decode cX12_band 128 = .ok (.aload_n 0, 1) := by decide +kernel
theorem dX12_band_129 : decode cX12_band 129 = .ok (.getfield 9, 3) := by decide +kernel
theorem dX12_band_132 : decode cX12_band 132 = .ok (.sipush 493, 3) := by decide +kernel
theorem dX12_band_135 : decode cX12_band 135 = .ok (.iload 5, 2) := by decide +kernel
theorem dX12_band_137 : decode cX12_band 137 = .ok (.iadd, 1) := by decide +kernel
theorem dX12_band_138 : decode cX12_band 138 = .ok (.iaload, 1) := by decide +kernel
theorem dX12_band_139 : decode cX12_band 139 = .ok (.goto 34, 3) := by decide +kernel
theorem dX12_band_142 : decode cX12_band 142 = .ok (.iload 4, 2) := by decide +kernel
theorem dX12_band_144 : decode cX12_band 144 = .ok (.iconst 1, 1) := by decide +kernel
theorem dX12_band_145 : decode cX12_band 145 = .ok (.if_icmp .ne 8, 3) := by decide +kernel
theorem dX12_band_148 : decode cX12_band 148 = .ok (.iload 9, 2) := by decide +kernel
theorem dX12_band_150 : decode cX12_band 150 = .ok (.goto 23, 3) := by decide +kernel
theorem dX12_band_153 : decode cX12_band 153 = .ok (.iload 4, 2) := by decide +kernel
theorem dX12_band_155 : decode cX12_band 155 = .ok (.iconst 2, 1) := by decide +kernel
theorem dX12_band_156 : decode cX12_band 156 = .ok (.if_icmp .ne 8, 3) := by decide +kernel
theorem dX12_band_159 : decode cX12_band 159 = .ok (.iload 10, 2) := by decide +kernel
theorem dX12_band_161 : decode cX12_band 161 = .ok (.goto 12, 3) := by decide +kernel
theorem dX12_band_164 : decode cX12_band 164 = .ok (.iload 10, 2) := by decide +kernel
theorem dX12_band_166 : decode cX12_band 166 = .ok (.iload 8, 2) := by decide +kernel
theorem dX12_band_168 : decode cX12_band 168 = .ok (.iload 7, 2) := by decide +kernel
theorem dX12_band_170 : decode cX12_band 170 = .ok (.invokestatic 274, 3) := by decide +kernel
theorem dX12_band_173 : decode cX12_band 173 = .ok (.ireturn, 1) := by decide +kernel
theorem dX12_takeScales_0 : decode cX12_takeScales 0 = .ok (.iconst 0, 1) := by decide +kernel
theorem dX12_takeScales_1 : decode cX12_takeScales 1 = .ok (.istore_n 1, 1) := by decide +kernel
theorem dX12_takeScales_2 : decode cX12_takeScales 2 = .ok (.iload_n 1, 1) := by decide +kernel
theorem dX12_takeScales_3 : decode cX12_takeScales 3 = .ok (.bipush 16, 2) := by decide +kernel
theorem dX12_takeScales_5 : decode cX12_takeScales 5 = .ok (.if_icmp .ge 25, 3) := by decide +kernel
theorem dX12_takeScales_8 : decode cX12_takeScales 8 = .ok (.aload_n 0, 1) := by decide +kernel
theorem dX12_takeScales_9 : decode cX12_takeScales 9 = .ok (.getfield 31, 3) := by decide +kernel
theorem dX12_takeScales_12 : decode cX12_takeScales 12 = .ok (.iload_n 1, 1) := by decide +kernel
theorem dX12_takeScales_13 : decode cX12_takeScales 13 = .ok (.aload_n 0, 1) := by decide +kernel
theorem dX12_takeScales_14 : decode cX12_takeScales 14 = .ok (.getfield 9, 3) := by decide +kernel
theorem dX12_takeScales_17 : decode cX12_takeScales 17 = .ok (.sipush 621, 3) := by decide +kernel
theorem dX12_takeScales_20 : decode cX12_takeScales 20 = .ok (.iload_n 1, 1) := by decide +kernel
theorem dX12_takeScales_21 : decode cX12_takeScales 21 = .ok (.iadd, 1) := by decide +kernel
theorem dX12_takeScales_22 : decode cX12_takeScales 22 = .ok (.iaload, 1) := by decide +kernel
theorem dX12_takeScales_23 : decode cX12_takeScales 23 = .ok (.iastore, 1) := by decide +kernel
theorem dX12_takeScales_24 : decode cX12_takeScales 24 = .ok (.iinc 1 1, 3) := by decide +kernel
theorem dX12_takeScales_27 : decode cX12_takeScales 27 = .ok (.goto (-25), 3) := by decide +kernel
theorem dX12_takeScales_30 : decode cX12_takeScales 30 = .ok (.return_, 1) := by decide +kernel
theorem dX12_methodCoded_0 : decode cX12_methodCoded 0 = .ok (.aload_n 0, 1) := by decide +kernel
theorem dX12_methodCoded_1 : decode cX12_methodCoded 1 = .ok (.getfield 9, 3) := by decide +kernel
theorem dX12_methodCoded_4 : decode cX12_methodCoded 4 = .ok (.sipush 656, 3) := by decide +kernel
theorem dX12_methodCoded_7 : decode cX12_methodCoded 7 = .ok (.iaload, 1) := by decide +kernel
theorem dX12_methodCoded_8 : decode cX12_methodCoded 8 = .ok (.bipush 7, 2) := by decide +kernel
theorem dX12_methodCoded_10 : decode cX12_methodCoded 10 = .ok (.ishr, 1) := by decide +kernel
theorem dX12_methodCoded_11 : decode cX12_methodCoded 11 = .ok (.ireturn, 1) := by decide +kernel
theorem dX12_dealt_0 : decode cX12_dealt 0 = .ok (.aload_n 0, 1) := by decide +kernel
theorem dX12_dealt_1 : decode cX12_dealt 1 = .ok (.iconst 0, 1) := by decide +kernel
theorem dX12_dealt_2 : decode cX12_dealt 2 = .ok (.putfield 58, 3) := by decide +kernel
theorem dX12_dealt_5 : decode cX12_dealt 5 = .ok (.aload_n 0, 1) := by decide +kernel
theorem dX12_dealt_6 : decode cX12_dealt 6 = .ok (.invokevirtual 325, 3) := by decide +kernel
theorem dX12_dealt_9 : decode cX12_dealt 9 = .ok (.ifCond .eq 23, 3) := by decide +kernel
theorem dX12_dealt_12 : decode cX12_dealt 12 = .ok (.iload_n 1, 1) := by decide +kernel
theorem dX12_dealt_13 : decode cX12_dealt 13 = .ok (.iload_n 2, 1) := by decide +kernel
theorem dX12_dealt_14 : decode cX12_dealt 14 = .ok (.invokestatic 329, 3) := by decide +kernel
theorem dX12_dealt_17 : decode cX12_dealt 17 = .ok (.ifCond .eq 15, 3) := by decide +kernel
theorem dX12_dealt_20 : decode cX12_dealt 20 = .ok (.iload_n 3, 1) := by decide +kernel
theorem dX12_dealt_21 : decode cX12_dealt 21 = .ok (.i2l, 1) := by decide +kernel
theorem dX12_dealt_22 : decode cX12_dealt 22 = .ok (.lconst 0, 1) := by decide +kernel
theorem dX12_dealt_23 : decode cX12_dealt 23 = .ok (.ldc2_w 332, 3) := by decide +kernel
theorem dX12_dealt_26 : decode cX12_dealt 26 = .ok (.invokestatic 68, 3) := by decide +kernel
theorem dX12_dealt_29 : decode cX12_dealt 29 = .ok (.ifCond .ne 6, 3) := by decide +kernel
theorem dX12_dealt_32 : decode cX12_dealt 32 = .ok (.ldc 136, 2) := by decide +kernel
theorem dX12_dealt_34 : decode cX12_dealt 34 = .ok (.ireturn, 1) := by decide +kernel
theorem dX12_dealt_35 : decode cX12_dealt 35 = .ok (.bipush 8, 2) := by decide +kernel
theorem dX12_dealt_37 : decode cX12_dealt 37 = .ok (.iload_n 1, 1) := by decide +kernel
theorem dX12_dealt_38 : decode cX12_dealt 38 = .ok (.imul, 1) := by decide +kernel
theorem dX12_dealt_39 : decode cX12_dealt 39 = .ok (.iload_n 2, 1) := by decide +kernel
theorem dX12_dealt_40 : decode cX12_dealt 40 = .ok (.iadd, 1) := by decide +kernel
theorem dX12_dealt_41 : decode cX12_dealt 41 = .ok (.istore 4, 2) := by decide +kernel
theorem dX12_dealt_43 : decode cX12_dealt 43 = .ok (.aload_n 0, 1) := by decide +kernel
theorem dX12_dealt_44 : decode cX12_dealt 44 = .ok (.invokevirtual 334, 3) := by decide +kernel
theorem dX12_dealt_47 : decode cX12_dealt 47 = .ok (.iload_n 3, 1) := by decide +kernel
theorem dX12_dealt_48 : decode cX12_dealt 48 = .ok (.tableswitch 59 0 2 #[28, 36, 47], 28) := by decide +kernel
theorem dX12_dealt_76 : decode cX12_dealt 76 = .ok (.aload_n 0, 1) := by decide +kernel
theorem dX12_dealt_77 : decode cX12_dealt 77 = .ok (.getfield 31, 3) := by decide +kernel
theorem dX12_dealt_80 : decode cX12_dealt 80 = .ok (.iload 4, 2) := by decide +kernel
theorem dX12_dealt_82 : decode cX12_dealt 82 = .ok (.iaload, 1) := by decide +kernel
theorem dX12_dealt_83 : decode cX12_dealt 83 = .ok (.ireturn, 1) := by decide +kernel
theorem dX12_dealt_84 : decode cX12_dealt 84 = .ok (.aload_n 0, 1) := by decide +kernel
theorem dX12_dealt_85 : decode cX12_dealt 85 = .ok (.iload 4, 2) := by decide +kernel
theorem dX12_dealt_87 : decode cX12_dealt 87 = .ok (.aload_n 0, 1) := by decide +kernel
theorem dX12_dealt_88 : decode cX12_dealt 88 = .ok (.invokevirtual 337, 3) := by decide +kernel
theorem dX12_dealt_91 : decode cX12_dealt 91 = .ok (.invokevirtual 184, 3) := by decide +kernel
theorem dX12_dealt_94 : decode cX12_dealt 94 = .ok (.ireturn, 1) := by decide +kernel
theorem dX12_dealt_95 : decode cX12_dealt 95 = .ok (.aload_n 0, 1) := by decide +kernel
theorem dX12_dealt_96 : decode cX12_dealt 96 = .ok (.getfield 9, 3) := by decide +kernel
theorem dX12_dealt_99 : decode cX12_dealt 99 = .ok (.sipush 637, 3) := by decide +kernel
theorem dX12_dealt_102 : decode cX12_dealt 102 = .ok (.iload 4, 2) := by decide +kernel
theorem dX12_dealt_104 : decode cX12_dealt 104 = .ok (.iadd, 1) := by decide +kernel
theorem dX12_dealt_105 : decode cX12_dealt 105 = .ok (.iaload, 1) := by decide +kernel
theorem dX12_dealt_106 : decode cX12_dealt 106 = .ok (.ireturn, 1) := by decide +kernel
theorem dX12_dealt_107 : decode cX12_dealt 107 = .ok (.aload_n 0, 1) := by decide +kernel
theorem dX12_dealt_108 : decode cX12_dealt 108 = .ok (.getfield 9, 3) := by decide +kernel
theorem dX12_dealt_111 : decode cX12_dealt 111 = .ok (.sipush 653, 3) := by decide +kernel
theorem dX12_dealt_114 : decode cX12_dealt 114 = .ok (.iaload, 1) := by decide +kernel
theorem dX12_dealt_115 : decode cX12_dealt 115 = .ok (.iload_n 2, 1) := by decide +kernel
theorem dX12_dealt_116 : decode cX12_dealt 116 = .ok (.ishr, 1) := by decide +kernel
theorem dX12_dealt_117 : decode cX12_dealt 117 = .ok (.iconst 1, 1) := by decide +kernel
theorem dX12_dealt_118 : decode cX12_dealt 118 = .ok (.iand, 1) := by decide +kernel
theorem dX12_dealt_119 : decode cX12_dealt 119 = .ok (.ireturn, 1) := by decide +kernel
theorem dX12_code_0 : decode cX12_code 0 = .ok (.aload_n 0, 1) := by decide +kernel
theorem dX12_code_1 : decode cX12_code 1 = .ok (.iconst 0, 1) := by decide +kernel
theorem dX12_code_2 : decode cX12_code 2 = .ok (.putfield 58, 3) := by decide +kernel
theorem dX12_code_5 : decode cX12_code 5 = .ok (.aload_n 0, 1) := by decide +kernel
theorem dX12_code_6 : decode cX12_code 6 = .ok (.invokevirtual 325, 3) := by decide +kernel
theorem dX12_code_9 : decode cX12_code 9 = .ok (.ifCond .ne 5, 3) := by decide +kernel
theorem dX12_code_12 : decode cX12_code 12 = .ok (.iconst (-1), 1) := by decide +kernel
theorem dX12_code_13 : decode cX12_code 13 = .ok (.ireturn, 1) := by decide +kernel
theorem dX12_code_14 : decode cX12_code 14 = .ok (.iload_n 1, 1) := by decide +kernel
theorem dX12_code_15 : decode cX12_code 15 = .ok (.iconst (-1), 1) := by decide +kernel
theorem dX12_code_16 : decode cX12_code 16 = .ok (.if_icmp .ne 14, 3) := by decide +kernel
theorem dX12_code_19 : decode cX12_code 19 = .ok (.aload_n 0, 1) := by decide +kernel
theorem dX12_code_20 : decode cX12_code 20 = .ok (.getfield 9, 3) := by decide +kernel
theorem dX12_code_23 : decode cX12_code 23 = .ok (.sipush 654, 3) := by decide +kernel
theorem dX12_code_26 : decode cX12_code 26 = .ok (.iaload, 1) := by decide +kernel
theorem dX12_code_27 : decode cX12_code 27 = .ok (.goto 37, 3) := by decide +kernel
theorem dX12_code_30 : decode cX12_code 30 = .ok (.iload_n 1, 1) := by decide +kernel
theorem dX12_code_31 : decode cX12_code 31 = .ok (.i2l, 1) := by decide +kernel
theorem dX12_code_32 : decode cX12_code 32 = .ok (.lconst 0, 1) := by decide +kernel
theorem dX12_code_33 : decode cX12_code 33 = .ok (.aload_n 0, 1) := by decide +kernel
theorem dX12_code_34 : decode cX12_code 34 = .ok (.getfield 9, 3) := by decide +kernel
theorem dX12_code_37 : decode cX12_code 37 = .ok (.sipush 654, 3) := by decide +kernel
theorem dX12_code_40 : decode cX12_code 40 = .ok (.iaload, 1) := by decide +kernel
theorem dX12_code_41 : decode cX12_code 41 = .ok (.i2l, 1) := by decide +kernel
theorem dX12_code_42 : decode cX12_code 42 = .ok (.lconst 1, 1) := by decide +kernel
theorem dX12_code_43 : decode cX12_code 43 = .ok (.lsub, 1) := by decide +kernel
theorem dX12_code_44 : decode cX12_code 44 = .ok (.invokestatic 68, 3) := by decide +kernel
theorem dX12_code_47 : decode cX12_code 47 = .ok (.ifCond .eq 16, 3) := by decide +kernel
theorem dX12_code_50 : decode cX12_code 50 = .ok (.aload_n 0, 1) := by decide +kernel
theorem dX12_code_51 : decode cX12_code 51 = .ok (.getfield 9, 3) := by decide +kernel
theorem dX12_code_54 : decode cX12_code 54 = .ok (.sipush 655, 3) := by decide +kernel
theorem dX12_code_57 : decode cX12_code 57 = .ok (.iload_n 1, 1) := by decide +kernel
theorem dX12_code_58 : decode cX12_code 58 = .ok (.iadd, 1) := by decide +kernel
theorem dX12_code_59 : decode cX12_code 59 = .ok (.iaload, 1) := by decide +kernel
theorem dX12_code_60 : decode cX12_code 60 = .ok (.goto 4, 3) := by decide +kernel
theorem dX12_code_63 : decode cX12_code 63 = .ok (.iconst (-1), 1) := by decide +kernel
theorem dX12_code_64 : decode cX12_code 64 = .ok (.ireturn, 1) := by decide +kernel
theorem dX12_canDeal_0 : decode cX12_canDeal 0 = .ok (.aload_n 0, 1) := by decide +kernel
theorem dX12_canDeal_1 : decode cX12_canDeal 1 = .ok (.invokevirtual 325, 3) := by decide +kernel
theorem dX12_canDeal_4 : decode cX12_canDeal 4 = .ok (.ifCond .eq 31, 3) := by decide +kernel
theorem dX12_canDeal_7 : decode cX12_canDeal 7 = .ok (.iload_n 1, 1) := by decide +kernel
theorem dX12_canDeal_8 : decode cX12_canDeal 8 = .ok (.i2l, 1) := by decide +kernel
theorem dX12_canDeal_9 : decode cX12_canDeal 9 = .ok (.ldc2_w 76, 3) := by decide +kernel
theorem dX12_canDeal_12 : decode cX12_canDeal 12 = .ok (.ldc2_w 86, 3) := by decide +kernel
theorem dX12_canDeal_15 : decode cX12_canDeal 15 = .ok (.invokestatic 68, 3) := by decide +kernel
theorem dX12_canDeal_18 : decode cX12_canDeal 18 = .ok (.ifCond .eq 17, 3) := by decide +kernel
theorem dX12_canDeal_21 : decode cX12_canDeal 21 = .ok (.iload_n 2, 1) := by decide +kernel
theorem dX12_canDeal_22 : decode cX12_canDeal 22 = .ok (.i2l, 1) := by decide +kernel
theorem dX12_canDeal_23 : decode cX12_canDeal 23 = .ok (.lconst 0, 1) := by decide +kernel
theorem dX12_canDeal_24 : decode cX12_canDeal 24 = .ok (.lconst 1, 1) := by decide +kernel
theorem dX12_canDeal_25 : decode cX12_canDeal 25 = .ok (.invokestatic 68, 3) := by decide +kernel
theorem dX12_canDeal_28 : decode cX12_canDeal 28 = .ok (.ifCond .eq 7, 3) := by decide +kernel
theorem dX12_canDeal_31 : decode cX12_canDeal 31 = .ok (.iconst 1, 1) := by decide +kernel
theorem dX12_canDeal_32 : decode cX12_canDeal 32 = .ok (.goto 4, 3) := by decide +kernel
theorem dX12_canDeal_35 : decode cX12_canDeal 35 = .ok (.iconst 0, 1) := by decide +kernel
theorem dX12_canDeal_36 : decode cX12_canDeal 36 = .ok (.ireturn, 1) := by decide +kernel
theorem dX12_dealtBy_0 : decode cX12_dealtBy 0 = .ok (.aload_n 0, 1) := by decide +kernel
theorem dX12_dealtBy_1 : decode cX12_dealtBy 1 = .ok (.iconst 0, 1) := by decide +kernel
theorem dX12_dealtBy_2 : decode cX12_dealtBy 2 = .ok (.putfield 58, 3) := by decide +kernel
theorem dX12_dealtBy_5 : decode cX12_dealtBy 5 = .ok (.aload_n 0, 1) := by decide +kernel
theorem dX12_dealtBy_6 : decode cX12_dealtBy 6 = .ok (.iload_n 1, 1) := by decide +kernel
theorem dX12_dealtBy_7 : decode cX12_dealtBy 7 = .ok (.iload_n 2, 1) := by decide +kernel
theorem dX12_dealtBy_8 : decode cX12_dealtBy 8 = .ok (.invokevirtual 340, 3) := by decide +kernel
theorem dX12_dealtBy_11 : decode cX12_dealtBy 11 = .ok (.ifCond .eq 12, 3) := by decide +kernel
theorem dX12_dealtBy_14 : decode cX12_dealtBy 14 = .ok (.iload_n 3, 1) := by decide +kernel
theorem dX12_dealtBy_15 : decode cX12_dealtBy 15 = .ok (.iload 4, 2) := by decide +kernel
theorem dX12_dealtBy_17 : decode cX12_dealtBy 17 = .ok (.invokestatic 329, 3) := by decide +kernel
theorem dX12_dealtBy_20 : decode cX12_dealtBy 20 = .ok (.ifCond .ne 5, 3) := by decide +kernel
theorem dX12_dealtBy_23 : decode cX12_dealtBy 23 = .ok (.iconst (-1), 1) := by decide +kernel
theorem dX12_dealtBy_24 : decode cX12_dealtBy 24 = .ok (.ireturn, 1) := by decide +kernel
theorem dX12_dealtBy_25 : decode cX12_dealtBy 25 = .ok (.aload_n 0, 1) := by decide +kernel
theorem dX12_dealtBy_26 : decode cX12_dealtBy 26 = .ok (.invokevirtual 334, 3) := by decide +kernel
theorem dX12_dealtBy_29 : decode cX12_dealtBy 29 = .ok (.aload_n 0, 1) := by decide +kernel
theorem dX12_dealtBy_30 : decode cX12_dealtBy 30 = .ok (.iload_n 1, 1) := by decide +kernel
theorem dX12_dealtBy_31 : decode cX12_dealtBy 31 = .ok (.iload_n 2, 1) := by decide +kernel
theorem dX12_dealtBy_32 : decode cX12_dealtBy 32 = .ok (.invokevirtual 198, 3) := by decide +kernel
theorem dX12_dealtBy_35 : decode cX12_dealtBy 35 = .ok (.aload_n 0, 1) := by decide +kernel
theorem dX12_dealtBy_36 : decode cX12_dealtBy 36 = .ok (.getfield 34, 3) := by decide +kernel
theorem dX12_dealtBy_39 : decode cX12_dealtBy 39 = .ok (.bipush 8, 2) := by decide +kernel
theorem dX12_dealtBy_41 : decode cX12_dealtBy 41 = .ok (.iload_n 3, 1) := by decide +kernel
theorem dX12_dealtBy_42 : decode cX12_dealtBy 42 = .ok (.imul, 1) := by decide +kernel
theorem dX12_dealtBy_43 : decode cX12_dealtBy 43 = .ok (.iload 4, 2) := by decide +kernel
theorem dX12_dealtBy_45 : decode cX12_dealtBy 45 = .ok (.iadd, 1) := by decide +kernel
theorem dX12_dealtBy_46 : decode cX12_dealtBy 46 = .ok (.iaload, 1) := by decide +kernel
theorem dX12_dealtBy_47 : decode cX12_dealtBy 47 = .ok (.ireturn, 1) := by decide +kernel
theorem dX12_costOf_0 : decode cX12_costOf 0 = .ok (.aload_n 0, 1) := by decide +kernel
theorem dX12_costOf_1 : decode cX12_costOf 1 = .ok (.invokevirtual 334, 3) := by decide +kernel
theorem dX12_costOf_4 : decode cX12_costOf 4 = .ok (.aload_n 0, 1) := by decide +kernel
theorem dX12_costOf_5 : decode cX12_costOf 5 = .ok (.iload_n 1, 1) := by decide +kernel
theorem dX12_costOf_6 : decode cX12_costOf 6 = .ok (.iload_n 2, 1) := by decide +kernel
theorem dX12_costOf_7 : decode cX12_costOf 7 = .ok (.invokevirtual 198, 3) := by decide +kernel
theorem dX12_costOf_10 : decode cX12_costOf 10 = .ok (.iconst 0, 1) := by decide +kernel
theorem dX12_costOf_11 : decode cX12_costOf 11 = .ok (.istore_n 3, 1) := by decide +kernel
theorem dX12_costOf_12 : decode cX12_costOf 12 = .ok (.iconst 0, 1) := by decide +kernel
theorem dX12_costOf_13 : decode cX12_costOf 13 = .ok (.istore 4, 2) := by decide +kernel
theorem dX12_costOf_15 : decode cX12_costOf 15 = .ok (.iload 4, 2) := by decide +kernel
theorem dX12_costOf_17 : decode cX12_costOf 17 = .ok (.bipush 16, 2) := by decide +kernel
theorem dX12_costOf_19 : decode cX12_costOf 19 = .ok (.if_icmp .ge 95, 3) := by decide +kernel
theorem dX12_costOf_22 : decode cX12_costOf 22 = .ok (.iconst 0, 1) := by decide +kernel
theorem dX12_costOf_23 : decode cX12_costOf 23 = .ok (.istore 5, 2) := by decide +kernel
theorem dX12_costOf_25 : decode cX12_costOf 25 = .ok (.iload 5, 2) := by decide +kernel
theorem dX12_costOf_27 : decode cX12_costOf 27 = .ok (.iconst 4, 1) := by decide +kernel
theorem dX12_costOf_28 : decode cX12_costOf 28 = .ok (.if_icmp .ge 80, 3) := by decide +kernel
theorem dX12_costOf_31 : decode cX12_costOf 31 = .ok (.aload_n 0, 1) := by decide +kernel
theorem dX12_costOf_32 : decode cX12_costOf 32 = .ok (.getfield 9, 3) := by decide +kernel
theorem dX12_costOf_35 : decode cX12_costOf 35 = .ok (.sipush 557, 3) := by decide +kernel
theorem dX12_costOf_38 : decode cX12_costOf 38 = .ok (.iconst 4, 1) := by decide +kernel
theorem dX12_costOf_39 : decode cX12_costOf 39 = .ok (.iload 4, 2) := by decide +kernel
theorem dX12_costOf_41 : decode cX12_costOf 41 = .ok (.imul, 1) := by decide +kernel
theorem dX12_costOf_42 : decode cX12_costOf 42 = .ok (.iadd, 1) := by decide +kernel
theorem dX12_costOf_43 : decode cX12_costOf 43 = .ok (.iload 5, 2) := by decide +kernel
theorem dX12_costOf_45 : decode cX12_costOf 45 = .ok (.iadd, 1) := by decide +kernel
theorem dX12_costOf_46 : decode cX12_costOf 46 = .ok (.iaload, 1) := by decide +kernel
theorem dX12_costOf_47 : decode cX12_costOf 47 = .ok (.istore 6, 2) := by decide +kernel
theorem dX12_costOf_49 : decode cX12_costOf 49 = .ok (.aload_n 0, 1) := by decide +kernel
theorem dX12_costOf_50 : decode cX12_costOf 50 = .ok (.getfield 34, 3) := by decide +kernel
theorem dX12_costOf_53 : decode cX12_costOf 53 = .ok (.iload 4, 2) := by decide +kernel
theorem dX12_costOf_55 : decode cX12_costOf 55 = .ok (.iaload, 1) := by decide +kernel
theorem dX12_costOf_56 : decode cX12_costOf 56 = .ok (.istore 7, 2) := by decide +kernel
theorem dX12_costOf_58 : decode cX12_costOf 58 = .ok (.iload_n 3, 1) := by decide +kernel
theorem dX12_costOf_59 : decode cX12_costOf 59 = .ok (.iload 6, 2) := by decide +kernel
theorem dX12_costOf_61 : decode cX12_costOf 61 = .ok (.iload 7, 2) := by decide +kernel
theorem dX12_costOf_63 : decode cX12_costOf 63 = .ok (.ifCond .ne 7, 3) := by decide +kernel
theorem dX12_costOf_66 : decode cX12_costOf 66 = .ok (.iconst 0, 1) := by decide +kernel
theorem dX12_costOf_67 : decode cX12_costOf 67 = .ok (.goto 29, 3) := by decide +kernel
theorem dX12_costOf_70 : decode cX12_costOf 70 = .ok (.iload 6, 2) := by decide +kernel
theorem dX12_costOf_72 : decode cX12_costOf 72 = .ok (.aload_n 0, 1) := by decide +kernel
theorem dX12_costOf_73 : decode cX12_costOf 73 = .ok (.getfield 31, 3) := by decide +kernel
theorem dX12_costOf_76 : decode cX12_costOf 76 = .ok (.iload 4, 2) := by decide +kernel
theorem dX12_costOf_78 : decode cX12_costOf 78 = .ok (.iaload, 1) := by decide +kernel
theorem dX12_costOf_79 : decode cX12_costOf 79 = .ok (.iload 7, 2) := by decide +kernel
theorem dX12_costOf_81 : decode cX12_costOf 81 = .ok (.invokestatic 201, 3) := by decide +kernel
theorem dX12_costOf_84 : decode cX12_costOf 84 = .ok (.aload_n 0, 1) := by decide +kernel
theorem dX12_costOf_85 : decode cX12_costOf 85 = .ok (.getfield 31, 3) := by decide +kernel
theorem dX12_costOf_88 : decode cX12_costOf 88 = .ok (.iload 4, 2) := by decide +kernel
theorem dX12_costOf_90 : decode cX12_costOf 90 = .ok (.iaload, 1) := by decide +kernel
theorem dX12_costOf_91 : decode cX12_costOf 91 = .ok (.iload 7, 2) := by decide +kernel
theorem dX12_costOf_93 : decode cX12_costOf 93 = .ok (.invokestatic 274, 3) := by decide +kernel
theorem dX12_costOf_96 : decode cX12_costOf 96 = .ok (.isub, 1) := by decide +kernel
theorem dX12_costOf_97 : decode cX12_costOf 97 = .ok (.invokestatic 173, 3) := by decide +kernel
theorem dX12_costOf_100 : decode cX12_costOf 100 = .ok (.iadd, 1) := by decide +kernel
theorem dX12_costOf_101 : decode cX12_costOf 101 = .ok (.istore_n 3, 1) := by decide +kernel
theorem dX12_costOf_102 : decode cX12_costOf 102 = .ok (.iinc 5 1, 3) := by decide +kernel
theorem dX12_costOf_105 : decode cX12_costOf 105 = .ok (.goto (-80), 3) := by decide +kernel
theorem dX12_costOf_108 : decode cX12_costOf 108 = .ok (.iinc 4 1, 3) := by decide +kernel
theorem dX12_costOf_111 : decode cX12_costOf 111 = .ok (.goto (-96), 3) := by decide +kernel
theorem dX12_costOf_114 : decode cX12_costOf 114 = .ok (.iload_n 3, 1) := by decide +kernel
theorem dX12_costOf_115 : decode cX12_costOf 115 = .ok (.ireturn, 1) := by decide +kernel
theorem dX12_cost_0 : decode cX12_cost 0 = .ok (.aload_n 0, 1) := by decide +kernel
theorem dX12_cost_1 : decode cX12_cost 1 = .ok (.iconst 0, 1) := by decide +kernel
theorem dX12_cost_2 : decode cX12_cost 2 = .ok (.putfield 58, 3) := by decide +kernel
theorem dX12_cost_5 : decode cX12_cost 5 = .ok (.aload_n 0, 1) := by decide +kernel
theorem dX12_cost_6 : decode cX12_cost 6 = .ok (.iload_n 1, 1) := by decide +kernel
theorem dX12_cost_7 : decode cX12_cost 7 = .ok (.iload_n 2, 1) := by decide +kernel
theorem dX12_cost_8 : decode cX12_cost 8 = .ok (.invokevirtual 340, 3) := by decide +kernel
theorem dX12_cost_11 : decode cX12_cost 11 = .ok (.ifCond .eq 12, 3) := by decide +kernel
theorem dX12_cost_14 : decode cX12_cost 14 = .ok (.aload_n 0, 1) := by decide +kernel
theorem dX12_cost_15 : decode cX12_cost 15 = .ok (.iload_n 1, 1) := by decide +kernel
theorem dX12_cost_16 : decode cX12_cost 16 = .ok (.iload_n 2, 1) := by decide +kernel
theorem dX12_cost_17 : decode cX12_cost 17 = .ok (.invokevirtual 343, 3) := by decide +kernel
theorem dX12_cost_20 : decode cX12_cost 20 = .ok (.goto 4, 3) := by decide +kernel
theorem dX12_cost_23 : decode cX12_cost 23 = .ok (.iconst (-1), 1) := by decide +kernel
theorem dX12_cost_24 : decode cX12_cost 24 = .ok (.ireturn, 1) := by decide +kernel
theorem dX12_differs_0 : decode cX12_differs 0 = .ok (.iconst 0, 1) := by decide +kernel
theorem dX12_differs_1 : decode cX12_differs 1 = .ok (.istore_n 2, 1) := by decide +kernel
theorem dX12_differs_2 : decode cX12_differs 2 = .ok (.iconst 0, 1) := by decide +kernel
theorem dX12_differs_3 : decode cX12_differs 3 = .ok (.istore_n 3, 1) := by decide +kernel
theorem dX12_differs_4 : decode cX12_differs 4 = .ok (.iconst 0, 1) := by decide +kernel
theorem dX12_differs_5 : decode cX12_differs 5 = .ok (.istore 4, 2) := by decide +kernel
theorem dX12_differs_7 : decode cX12_differs 7 = .ok (.iload 4, 2) := by decide +kernel
theorem dX12_differs_9 : decode cX12_differs 9 = .ok (.bipush 64, 2) := by decide +kernel
theorem dX12_differs_11 : decode cX12_differs 11 = .ok (.if_icmp .ge 76, 3) := by decide +kernel
theorem dX12_differs_14 : decode cX12_differs 14 = .ok (.aload_n 0, 1) := by decide +kernel
theorem dX12_differs_15 : decode cX12_differs 15 = .ok (.getfield 9, 3) := by decide +kernel
theorem dX12_differs_18 : decode cX12_differs 18 = .ok (.sipush 621, 3) := by decide +kernel
theorem dX12_differs_21 : decode cX12_differs 21 = .ok (.iload 4, 2) := by decide +kernel
theorem dX12_differs_23 : decode cX12_differs 23 = .ok (.iconst 4, 1) := by decide +kernel
theorem dX12_differs_24 : decode cX12_differs 24 = .ok (.idiv, 1) := by decide +kernel
theorem dX12_differs_25 : decode cX12_differs 25 = .ok (.iadd, 1) := by decide +kernel
theorem dX12_differs_26 : decode cX12_differs 26 = .ok (.iaload, 1) := by decide +kernel
theorem dX12_differs_27 : decode cX12_differs 27 = .ok (.istore 5, 2) := by decide +kernel
theorem dX12_differs_29 : decode cX12_differs 29 = .ok (.aload_n 0, 1) := by decide +kernel
theorem dX12_differs_30 : decode cX12_differs 30 = .ok (.getfield 34, 3) := by decide +kernel
theorem dX12_differs_33 : decode cX12_differs 33 = .ok (.iload 4, 2) := by decide +kernel
theorem dX12_differs_35 : decode cX12_differs 35 = .ok (.iconst 4, 1) := by decide +kernel
theorem dX12_differs_36 : decode cX12_differs 36 = .ok (.idiv, 1) := by decide +kernel
theorem dX12_differs_37 : decode cX12_differs 37 = .ok (.iaload, 1) := by decide +kernel
theorem dX12_differs_38 : decode cX12_differs 38 = .ok (.istore 6, 2) := by decide +kernel
theorem dX12_differs_40 : decode cX12_differs 40 = .ok (.aload_n 0, 1) := by decide +kernel
theorem dX12_differs_41 : decode cX12_differs 41 = .ok (.getfield 49, 3) := by decide +kernel
theorem dX12_differs_44 : decode cX12_differs 44 = .ok (.iload 4, 2) := by decide +kernel
theorem dX12_differs_46 : decode cX12_differs 46 = .ok (.iload 6, 2) := by decide +kernel
theorem dX12_differs_48 : decode cX12_differs 48 = .ok (.ifCond .ne 7, 3) := by decide +kernel
theorem dX12_differs_51 : decode cX12_differs 51 = .ok (.iconst 0, 1) := by decide +kernel
theorem dX12_differs_52 : decode cX12_differs 52 = .ok (.goto 28, 3) := by decide +kernel
theorem dX12_differs_55 : decode cX12_differs 55 = .ok (.aload_n 0, 1) := by decide +kernel
theorem dX12_differs_56 : decode cX12_differs 56 = .ok (.getfield 9, 3) := by decide +kernel
theorem dX12_differs_59 : decode cX12_differs 59 = .ok (.sipush 557, 3) := by decide +kernel
theorem dX12_differs_62 : decode cX12_differs 62 = .ok (.iload 4, 2) := by decide +kernel
theorem dX12_differs_64 : decode cX12_differs 64 = .ok (.iadd, 1) := by decide +kernel
theorem dX12_differs_65 : decode cX12_differs 65 = .ok (.iaload, 1) := by decide +kernel
theorem dX12_differs_66 : decode cX12_differs 66 = .ok (.iload 5, 2) := by decide +kernel
theorem dX12_differs_68 : decode cX12_differs 68 = .ok (.iload 6, 2) := by decide +kernel
theorem dX12_differs_70 : decode cX12_differs 70 = .ok (.invokestatic 201, 3) := by decide +kernel
theorem dX12_differs_73 : decode cX12_differs 73 = .ok (.iload 5, 2) := by decide +kernel
theorem dX12_differs_75 : decode cX12_differs 75 = .ok (.iload 6, 2) := by decide +kernel
theorem dX12_differs_77 : decode cX12_differs 77 = .ok (.invokestatic 274, 3) := by decide +kernel
theorem dX12_differs_80 : decode cX12_differs 80 = .ok (.iastore, 1) := by decide +kernel
theorem dX12_differs_81 : decode cX12_differs 81 = .ok (.iinc 4 1, 3) := by decide +kernel
theorem dX12_differs_84 : decode cX12_differs 84 = .ok (.goto (-77), 3) := by decide +kernel
theorem dX12_differs_87 : decode cX12_differs 87 = .ok (.iconst 0, 1) := by decide +kernel
theorem dX12_differs_88 : decode cX12_differs 88 = .ok (.istore 4, 2) := by decide +kernel
theorem dX12_differs_90 : decode cX12_differs 90 = .ok (.iload 4, 2) := by decide +kernel
theorem dX12_differs_92 : decode cX12_differs 92 = .ok (.bipush 8, 2) := by decide +kernel
theorem dX12_differs_94 : decode cX12_differs 94 = .ok (.if_icmp .ge 192, 3) := by decide +kernel
theorem dX12_differs_97 : decode cX12_differs 97 = .ok (.iconst 0, 1) := by decide +kernel
theorem dX12_differs_98 : decode cX12_differs 98 = .ok (.istore 5, 2) := by decide +kernel
theorem dX12_differs_100 : decode cX12_differs 100 = .ok (.iload 5, 2) := by decide +kernel
theorem dX12_differs_102 : decode cX12_differs 102 = .ok (.iconst 4, 1) := by decide +kernel
theorem dX12_differs_103 : decode cX12_differs 103 = .ok (.if_icmp .ge 177, 3) := by decide +kernel
theorem dX12_differs_106 : decode cX12_differs 106 = .ok (.iconst 0, 1) := by decide +kernel
theorem dX12_differs_107 : decode cX12_differs 107 = .ok (.iload 4, 2) := by decide +kernel
theorem dX12_differs_109 : decode cX12_differs 109 = .ok (.iload 5, 2) := by decide +kernel
theorem dX12_differs_111 : decode cX12_differs 111 = .ok (.invokestatic 166, 3) := by decide +kernel
theorem dX12_differs_114 : decode cX12_differs 114 = .ok (.istore 6, 2) := by decide +kernel
theorem dX12_differs_116 : decode cX12_differs 116 = .ok (.iconst 1, 1) := by decide +kernel
theorem dX12_differs_117 : decode cX12_differs 117 = .ok (.iload 4, 2) := by decide +kernel
theorem dX12_differs_119 : decode cX12_differs 119 = .ok (.iload 5, 2) := by decide +kernel
theorem dX12_differs_121 : decode cX12_differs 121 = .ok (.invokestatic 166, 3) := by decide +kernel
theorem dX12_differs_124 : decode cX12_differs 124 = .ok (.istore 7, 2) := by decide +kernel
theorem dX12_differs_126 : decode cX12_differs 126 = .ok (.aload_n 0, 1) := by decide +kernel
theorem dX12_differs_127 : decode cX12_differs 127 = .ok (.getfield 49, 3) := by decide +kernel
theorem dX12_differs_130 : decode cX12_differs 130 = .ok (.iload 6, 2) := by decide +kernel
theorem dX12_differs_132 : decode cX12_differs 132 = .ok (.iaload, 1) := by decide +kernel
theorem dX12_differs_133 : decode cX12_differs 133 = .ok (.istore 8, 2) := by decide +kernel
theorem dX12_differs_135 : decode cX12_differs 135 = .ok (.aload_n 0, 1) := by decide +kernel
theorem dX12_differs_136 : decode cX12_differs 136 = .ok (.getfield 49, 3) := by decide +kernel
theorem dX12_differs_139 : decode cX12_differs 139 = .ok (.iload 7, 2) := by decide +kernel
theorem dX12_differs_141 : decode cX12_differs 141 = .ok (.iaload, 1) := by decide +kernel
theorem dX12_differs_142 : decode cX12_differs 142 = .ok (.istore 9, 2) := by decide +kernel
theorem dX12_differs_144 : decode cX12_differs 144 = .ok (.aload_n 0, 1) := by decide +kernel
theorem dX12_differs_145 : decode cX12_differs 145 = .ok (.getfield 9, 3) := by decide +kernel
theorem dX12_differs_148 : decode cX12_differs 148 = .ok (.sipush 653, 3) := by decide +kernel
theorem dX12_differs_151 : decode cX12_differs 151 = .ok (.iaload, 1) := by decide +kernel
theorem dX12_differs_152 : decode cX12_differs 152 = .ok (.iload 4, 2) := by decide +kernel
theorem dX12_differs_154 : decode cX12_differs 154 = .ok (.ishr, 1) := by decide +kernel
theorem dX12_differs_155 : decode cX12_differs 155 = .ok (.iconst 1, 1) := by decide +kernel
theorem dX12_differs_156 : decode cX12_differs 156 = .ok (.iand, 1) := by decide +kernel
theorem dX12_differs_157 : decode cX12_differs 157 = .ok (.iconst 1, 1) := by decide +kernel
theorem dX12_differs_158 : decode cX12_differs 158 = .ok (.if_icmp .ne 7, 3) := by decide +kernel
theorem dX12_differs_161 : decode cX12_differs 161 = .ok (.iconst 1, 1) := by decide +kernel
theorem dX12_differs_162 : decode cX12_differs 162 = .ok (.goto 4, 3) := by decide +kernel
theorem dX12_differs_165 : decode cX12_differs 165 = .ok (.iconst 0, 1) := by decide +kernel
theorem dX12_differs_166 : decode cX12_differs 166 = .ok (.istore 10, 2) := by decide +kernel
theorem dX12_differs_168 : decode cX12_differs 168 = .ok (.iload 10, 2) := by decide +kernel
theorem dX12_differs_170 : decode cX12_differs 170 = .ok (.ifCond .eq 15, 3) := by decide +kernel
theorem dX12_differs_173 : decode cX12_differs 173 = .ok (.iload 8, 2) := by decide +kernel
theorem dX12_differs_175 : decode cX12_differs 175 = .ok (.iload 9, 2) := by decide +kernel
theorem dX12_differs_177 : decode cX12_differs 177 = .ok (.iconst 1, 1) := by decide +kernel
theorem dX12_differs_178 : decode cX12_differs 178 = .ok (.iadd, 1) := by decide +kernel
theorem dX12_differs_179 : decode cX12_differs 179 = .ok (.iconst 1, 1) := by decide +kernel
theorem dX12_differs_180 : decode cX12_differs 180 = .ok (.ishr, 1) := by decide +kernel
theorem dX12_differs_181 : decode cX12_differs 181 = .ok (.iadd, 1) := by decide +kernel
theorem dX12_differs_182 : decode cX12_differs 182 = .ok (.goto 5, 3) := by decide +kernel
theorem dX12_differs_185 : decode cX12_differs 185 = .ok (.iload 8, 2) := by decide +kernel
theorem dX12_differs_187 : decode cX12_differs 187 = .ok (.istore 11, 2) := by decide +kernel
theorem dX12_differs_189 : decode cX12_differs 189 = .ok (.aload_n 0, 1) := by decide +kernel
theorem dX12_differs_190 : decode cX12_differs 190 = .ok (.getfield 9, 3) := by decide +kernel
theorem dX12_differs_193 : decode cX12_differs 193 = .ok (.sipush 493, 3) := by decide +kernel
theorem dX12_differs_196 : decode cX12_differs 196 = .ok (.iload 6, 2) := by decide +kernel
theorem dX12_differs_198 : decode cX12_differs 198 = .ok (.iadd, 1) := by decide +kernel
theorem dX12_differs_199 : decode cX12_differs 199 = .ok (.iaload, 1) := by decide +kernel
theorem dX12_differs_200 : decode cX12_differs 200 = .ok (.iload 11, 2) := by decide +kernel
theorem dX12_differs_202 : decode cX12_differs 202 = .ok (.isub, 1) := by decide +kernel
theorem dX12_differs_203 : decode cX12_differs 203 = .ok (.invokestatic 173, 3) := by decide +kernel
theorem dX12_differs_206 : decode cX12_differs 206 = .ok (.istore 12, 2) := by decide +kernel
theorem dX12_differs_208 : decode cX12_differs 208 = .ok (.aload_n 0, 1) := by decide +kernel
theorem dX12_differs_209 : decode cX12_differs 209 = .ok (.getfield 9, 3) := by decide +kernel
theorem dX12_differs_212 : decode cX12_differs 212 = .ok (.sipush 493, 3) := by decide +kernel
theorem dX12_differs_215 : decode cX12_differs 215 = .ok (.iload 7, 2) := by decide +kernel
theorem dX12_differs_217 : decode cX12_differs 217 = .ok (.iadd, 1) := by decide +kernel
theorem dX12_differs_218 : decode cX12_differs 218 = .ok (.iaload, 1) := by decide +kernel
theorem dX12_differs_219 : decode cX12_differs 219 = .ok (.iload 10, 2) := by decide +kernel
theorem dX12_differs_221 : decode cX12_differs 221 = .ok (.ifCond .eq 11, 3) := by decide +kernel
theorem dX12_differs_224 : decode cX12_differs 224 = .ok (.iload 11, 2) := by decide +kernel
theorem dX12_differs_226 : decode cX12_differs 226 = .ok (.iload 9, 2) := by decide +kernel
theorem dX12_differs_228 : decode cX12_differs 228 = .ok (.isub, 1) := by decide +kernel
theorem dX12_differs_229 : decode cX12_differs 229 = .ok (.goto 5, 3) := by decide +kernel
theorem dX12_differs_232 : decode cX12_differs 232 = .ok (.iload 9, 2) := by decide +kernel
theorem dX12_differs_234 : decode cX12_differs 234 = .ok (.isub, 1) := by decide +kernel
theorem dX12_differs_235 : decode cX12_differs 235 = .ok (.invokestatic 173, 3) := by decide +kernel
theorem dX12_differs_238 : decode cX12_differs 238 = .ok (.istore 13, 2) := by decide +kernel
theorem dX12_differs_240 : decode cX12_differs 240 = .ok (.iload_n 2, 1) := by decide +kernel
theorem dX12_differs_241 : decode cX12_differs 241 = .ok (.iload 12, 2) := by decide +kernel
theorem dX12_differs_243 : decode cX12_differs 243 = .ok (.iload 13, 2) := by decide +kernel
theorem dX12_differs_245 : decode cX12_differs 245 = .ok (.iadd, 1) := by decide +kernel
theorem dX12_differs_246 : decode cX12_differs 246 = .ok (.iadd, 1) := by decide +kernel
theorem dX12_differs_247 : decode cX12_differs 247 = .ok (.istore_n 2, 1) := by decide +kernel
theorem dX12_differs_248 : decode cX12_differs 248 = .ok (.iload 12, 2) := by decide +kernel
theorem dX12_differs_250 : decode cX12_differs 250 = .ok (.iload_n 3, 1) := by decide +kernel
theorem dX12_differs_251 : decode cX12_differs 251 = .ok (.if_icmp .le 8, 3) := by decide +kernel
theorem dX12_differs_254 : decode cX12_differs 254 = .ok (.iload 12, 2) := by decide +kernel
theorem dX12_differs_256 : decode cX12_differs 256 = .ok (.goto 4, 3) := by decide +kernel
theorem dX12_differs_259 : decode cX12_differs 259 = .ok (.iload_n 3, 1) := by decide +kernel
theorem dX12_differs_260 : decode cX12_differs 260 = .ok (.istore_n 3, 1) := by decide +kernel
theorem dX12_differs_261 : decode cX12_differs 261 = .ok (.iload 13, 2) := by decide +kernel
theorem dX12_differs_263 : decode cX12_differs 263 = .ok (.iload_n 3, 1) := by decide +kernel
theorem dX12_differs_264 : decode cX12_differs 264 = .ok (.if_icmp .le 8, 3) := by decide +kernel
theorem dX12_differs_267 : decode cX12_differs 267 = .ok (.iload 13, 2) := by decide +kernel
theorem dX12_differs_269 : decode cX12_differs 269 = .ok (.goto 4, 3) := by decide +kernel
theorem dX12_differs_272 : decode cX12_differs 272 = .ok (.iload_n 3, 1) := by decide +kernel
theorem dX12_differs_273 : decode cX12_differs 273 = .ok (.istore_n 3, 1) := by decide +kernel
theorem dX12_differs_274 : decode cX12_differs 274 = .ok (.iinc 5 1, 3) := by decide +kernel
theorem dX12_differs_277 : decode cX12_differs 277 = .ok (.goto (-177), 3) := by decide +kernel
theorem dX12_differs_280 : decode cX12_differs 280 = .ok (.iinc 4 1, 3) := by decide +kernel
theorem dX12_differs_283 : decode cX12_differs 283 = .ok (.goto (-193), 3) := by decide +kernel
theorem dX12_differs_286 : decode cX12_differs 286 = .ok (.iload_n 1, 1) := by decide +kernel
theorem dX12_differs_287 : decode cX12_differs 287 = .ok (.ifCond .eq 7, 3) := by decide +kernel
theorem dX12_differs_290 : decode cX12_differs 290 = .ok (.iload_n 3, 1) := by decide +kernel
theorem dX12_differs_291 : decode cX12_differs 291 = .ok (.goto 4, 3) := by decide +kernel
theorem dX12_differs_294 : decode cX12_differs 294 = .ok (.iload_n 2, 1) := by decide +kernel
theorem dX12_differs_295 : decode cX12_differs 295 = .ok (.ireturn, 1) := by decide +kernel
theorem dX12_coded_0 : decode cX12_coded 0 = .ok (.aload_n 0, 1) := by decide +kernel
theorem dX12_coded_1 : decode cX12_coded 1 = .ok (.iconst 0, 1) := by decide +kernel
theorem dX12_coded_2 : decode cX12_coded 2 = .ok (.putfield 58, 3) := by decide +kernel
theorem dX12_coded_5 : decode cX12_coded 5 = .ok (.aload_n 0, 1) := by decide +kernel
theorem dX12_coded_6 : decode cX12_coded 6 = .ok (.iload_n 1, 1) := by decide +kernel
theorem dX12_coded_7 : decode cX12_coded 7 = .ok (.iload_n 2, 1) := by decide +kernel
theorem dX12_coded_8 : decode cX12_coded 8 = .ok (.invokevirtual 340, 3) := by decide +kernel
theorem dX12_coded_11 : decode cX12_coded 11 = .ok (.ifCond .eq 26, 3) := by decide +kernel
theorem dX12_coded_14 : decode cX12_coded 14 = .ok (.iload_n 3, 1) := by decide +kernel
theorem dX12_coded_15 : decode cX12_coded 15 = .ok (.i2l, 1) := by decide +kernel
theorem dX12_coded_16 : decode cX12_coded 16 = .ok (.lconst 0, 1) := by decide +kernel
theorem dX12_coded_17 : decode cX12_coded 17 = .ok (.lconst 1, 1) := by decide +kernel
theorem dX12_coded_18 : decode cX12_coded 18 = .ok (.invokestatic 68, 3) := by decide +kernel
theorem dX12_coded_21 : decode cX12_coded 21 = .ok (.ifCond .eq 16, 3) := by decide +kernel
theorem dX12_coded_24 : decode cX12_coded 24 = .ok (.iload 4, 2) := by decide +kernel
theorem dX12_coded_26 : decode cX12_coded 26 = .ok (.i2l, 1) := by decide +kernel
theorem dX12_coded_27 : decode cX12_coded 27 = .ok (.lconst 0, 1) := by decide +kernel
theorem dX12_coded_28 : decode cX12_coded 28 = .ok (.ldc2_w 332, 3) := by decide +kernel
theorem dX12_coded_31 : decode cX12_coded 31 = .ok (.invokestatic 68, 3) := by decide +kernel
theorem dX12_coded_34 : decode cX12_coded 34 = .ok (.ifCond .ne 5, 3) := by decide +kernel
theorem dX12_coded_37 : decode cX12_coded 37 = .ok (.iconst (-1), 1) := by decide +kernel
theorem dX12_coded_38 : decode cX12_coded 38 = .ok (.ireturn, 1) := by decide +kernel
theorem dX12_coded_39 : decode cX12_coded 39 = .ok (.aload_n 0, 1) := by decide +kernel
theorem dX12_coded_40 : decode cX12_coded 40 = .ok (.getfield 9, 3) := by decide +kernel
theorem dX12_coded_43 : decode cX12_coded 43 = .ok (.iconst 0, 1) := by decide +kernel
theorem dX12_coded_44 : decode cX12_coded 44 = .ok (.aload_n 0, 1) := by decide +kernel
theorem dX12_coded_45 : decode cX12_coded 45 = .ok (.getfield 22, 3) := by decide +kernel
theorem dX12_coded_48 : decode cX12_coded 48 = .ok (.iconst 0, 1) := by decide +kernel
theorem dX12_coded_49 : decode cX12_coded 49 = .ok (.invokestatic 72, 3) := by decide +kernel
theorem dX12_coded_52 : decode cX12_coded 52 = .ok (.aload_n 0, 1) := by decide +kernel
theorem dX12_coded_53 : decode cX12_coded 53 = .ok (.getfield 9, 3) := by decide +kernel
theorem dX12_coded_56 : decode cX12_coded 56 = .ok (.bipush 9, 2) := by decide +kernel
theorem dX12_coded_58 : decode cX12_coded 58 = .ok (.iload_n 3, 1) := by decide +kernel
theorem dX12_coded_59 : decode cX12_coded 59 = .ok (.iastore, 1) := by decide +kernel
theorem dX12_coded_60 : decode cX12_coded 60 = .ok (.aload_n 0, 1) := by decide +kernel
theorem dX12_coded_61 : decode cX12_coded 61 = .ok (.invokevirtual 211, 3) := by decide +kernel
theorem dX12_coded_64 : decode cX12_coded 64 = .ok (.aload_n 0, 1) := by decide +kernel
theorem dX12_coded_65 : decode cX12_coded 65 = .ok (.invokevirtual 334, 3) := by decide +kernel
theorem dX12_coded_68 : decode cX12_coded 68 = .ok (.aload_n 0, 1) := by decide +kernel
theorem dX12_coded_69 : decode cX12_coded 69 = .ok (.iload_n 1, 1) := by decide +kernel
theorem dX12_coded_70 : decode cX12_coded 70 = .ok (.iload_n 2, 1) := by decide +kernel
theorem dX12_coded_71 : decode cX12_coded 71 = .ok (.invokevirtual 198, 3) := by decide +kernel
theorem dX12_coded_74 : decode cX12_coded 74 = .ok (.iconst 0, 1) := by decide +kernel
theorem dX12_coded_75 : decode cX12_coded 75 = .ok (.istore 5, 2) := by decide +kernel
theorem dX12_coded_77 : decode cX12_coded 77 = .ok (.iconst 0, 1) := by decide +kernel
theorem dX12_coded_78 : decode cX12_coded 78 = .ok (.istore 6, 2) := by decide +kernel
theorem dX12_coded_80 : decode cX12_coded 80 = .ok (.iload 6, 2) := by decide +kernel
theorem dX12_coded_82 : decode cX12_coded 82 = .ok (.bipush 16, 2) := by decide +kernel
theorem dX12_coded_84 : decode cX12_coded 84 = .ok (.if_icmp .ge 21, 3) := by decide +kernel
theorem dX12_coded_87 : decode cX12_coded 87 = .ok (.iload 5, 2) := by decide +kernel
theorem dX12_coded_89 : decode cX12_coded 89 = .ok (.aload_n 0, 1) := by decide +kernel
theorem dX12_coded_90 : decode cX12_coded 90 = .ok (.getfield 34, 3) := by decide +kernel
theorem dX12_coded_93 : decode cX12_coded 93 = .ok (.iload 6, 2) := by decide +kernel
theorem dX12_coded_95 : decode cX12_coded 95 = .ok (.iaload, 1) := by decide +kernel
theorem dX12_coded_96 : decode cX12_coded 96 = .ok (.iadd, 1) := by decide +kernel
theorem dX12_coded_97 : decode cX12_coded 97 = .ok (.istore 5, 2) := by decide +kernel
theorem dX12_coded_99 : decode cX12_coded 99 = .ok (.iinc 6 1, 3) := by decide +kernel
theorem dX12_coded_102 : decode cX12_coded 102 = .ok (.goto (-22), 3) := by decide +kernel
theorem dX12_coded_105 : decode cX12_coded 105 = .ok (.iload 4, 2) := by decide +kernel
theorem dX12_coded_107 : decode cX12_coded 107 = .ok (.ifCond .ne 19, 3) := by decide +kernel
theorem dX12_coded_110 : decode cX12_coded 110 = .ok (.bipush 104, 2) := by decide +kernel
theorem dX12_coded_112 : decode cX12_coded 112 = .ok (.iconst 4, 1) := by decide +kernel
theorem dX12_coded_113 : decode cX12_coded 113 = .ok (.iload 5, 2) := by decide +kernel
theorem dX12_coded_115 : decode cX12_coded 115 = .ok (.imul, 1) := by decide +kernel
theorem dX12_coded_116 : decode cX12_coded 116 = .ok (.iadd, 1) := by decide +kernel
theorem dX12_coded_117 : decode cX12_coded 117 = .ok (.bipush 7, 2) := by decide +kernel
theorem dX12_coded_119 : decode cX12_coded 119 = .ok (.iadd, 1) := by decide +kernel
theorem dX12_coded_120 : decode cX12_coded 120 = .ok (.bipush 8, 2) := by decide +kernel
theorem dX12_coded_122 : decode cX12_coded 122 = .ok (.idiv, 1) := by decide +kernel
theorem dX12_coded_123 : decode cX12_coded 123 = .ok (.goto 35, 3) := by decide +kernel
theorem dX12_coded_126 : decode cX12_coded 126 = .ok (.iload 4, 2) := by decide +kernel
theorem dX12_coded_128 : decode cX12_coded 128 = .ok (.iconst 1, 1) := by decide +kernel
theorem dX12_coded_129 : decode cX12_coded 129 = .ok (.if_icmp .ne 14, 3) := by decide +kernel
theorem dX12_coded_132 : decode cX12_coded 132 = .ok (.aload_n 0, 1) := by decide +kernel
theorem dX12_coded_133 : decode cX12_coded 133 = .ok (.getfield 9, 3) := by decide +kernel
theorem dX12_coded_136 : decode cX12_coded 136 = .ok (.sipush 653, 3) := by decide +kernel
theorem dX12_coded_139 : decode cX12_coded 139 = .ok (.iaload, 1) := by decide +kernel
theorem dX12_coded_140 : decode cX12_coded 140 = .ok (.goto 18, 3) := by decide +kernel
theorem dX12_coded_143 : decode cX12_coded 143 = .ok (.aload_n 0, 1) := by decide +kernel
theorem dX12_coded_144 : decode cX12_coded 144 = .ok (.iload 4, 2) := by decide +kernel
theorem dX12_coded_146 : decode cX12_coded 146 = .ok (.iconst 3, 1) := by decide +kernel
theorem dX12_coded_147 : decode cX12_coded 147 = .ok (.if_icmp .ne 7, 3) := by decide +kernel
theorem dX12_coded_150 : decode cX12_coded 150 = .ok (.iconst 1, 1) := by decide +kernel
theorem dX12_coded_151 : decode cX12_coded 151 = .ok (.goto 4, 3) := by decide +kernel
theorem dX12_coded_154 : decode cX12_coded 154 = .ok (.iconst 0, 1) := by decide +kernel
theorem dX12_coded_155 : decode cX12_coded 155 = .ok (.invokevirtual 346, 3) := by decide +kernel
theorem dX12_coded_158 : decode cX12_coded 158 = .ok (.istore 6, 2) := by decide +kernel
theorem dX12_coded_160 : decode cX12_coded 160 = .ok (.aload_n 0, 1) := by decide +kernel
theorem dX12_coded_161 : decode cX12_coded 161 = .ok (.getfield 22, 3) := by decide +kernel
theorem dX12_coded_164 : decode cX12_coded 164 = .ok (.iconst 0, 1) := by decide +kernel
theorem dX12_coded_165 : decode cX12_coded 165 = .ok (.aload_n 0, 1) := by decide +kernel
theorem dX12_coded_166 : decode cX12_coded 166 = .ok (.getfield 9, 3) := by decide +kernel
theorem dX12_coded_169 : decode cX12_coded 169 = .ok (.iconst 0, 1) := by decide +kernel
theorem dX12_coded_170 : decode cX12_coded 170 = .ok (.invokestatic 72, 3) := by decide +kernel
theorem dX12_coded_173 : decode cX12_coded 173 = .ok (.iload 6, 2) := by decide +kernel
theorem dX12_coded_175 : decode cX12_coded 175 = .ok (.ireturn, 1) := by decide +kernel
theorem dX12_worst_0 : decode cX12_worst 0 = .ok (.aload_n 0, 1) := by decide +kernel
theorem dX12_worst_1 : decode cX12_worst 1 = .ok (.iconst 0, 1) := by decide +kernel
theorem dX12_worst_2 : decode cX12_worst 2 = .ok (.putfield 58, 3) := by decide +kernel
theorem dX12_worst_5 : decode cX12_worst 5 = .ok (.aload_n 0, 1) := by decide +kernel
theorem dX12_worst_6 : decode cX12_worst 6 = .ok (.iload_n 1, 1) := by decide +kernel
theorem dX12_worst_7 : decode cX12_worst 7 = .ok (.iload_n 2, 1) := by decide +kernel
theorem dX12_worst_8 : decode cX12_worst 8 = .ok (.invokevirtual 340, 3) := by decide +kernel
theorem dX12_worst_11 : decode cX12_worst 11 = .ok (.ifCond .eq 13, 3) := by decide +kernel
theorem dX12_worst_14 : decode cX12_worst 14 = .ok (.iload_n 3, 1) := by decide +kernel
theorem dX12_worst_15 : decode cX12_worst 15 = .ok (.i2l, 1) := by decide +kernel
theorem dX12_worst_16 : decode cX12_worst 16 = .ok (.lconst 0, 1) := by decide +kernel
theorem dX12_worst_17 : decode cX12_worst 17 = .ok (.lconst 1, 1) := by decide +kernel
theorem dX12_worst_18 : decode cX12_worst 18 = .ok (.invokestatic 68, 3) := by decide +kernel
theorem dX12_worst_21 : decode cX12_worst 21 = .ok (.ifCond .ne 5, 3) := by decide +kernel
theorem dX12_worst_24 : decode cX12_worst 24 = .ok (.iconst (-1), 1) := by decide +kernel
theorem dX12_worst_25 : decode cX12_worst 25 = .ok (.ireturn, 1) := by decide +kernel
theorem dX12_worst_26 : decode cX12_worst 26 = .ok (.aload_n 0, 1) := by decide +kernel
theorem dX12_worst_27 : decode cX12_worst 27 = .ok (.invokevirtual 334, 3) := by decide +kernel
theorem dX12_worst_30 : decode cX12_worst 30 = .ok (.aload_n 0, 1) := by decide +kernel
theorem dX12_worst_31 : decode cX12_worst 31 = .ok (.iload_n 1, 1) := by decide +kernel
theorem dX12_worst_32 : decode cX12_worst 32 = .ok (.iload_n 2, 1) := by decide +kernel
theorem dX12_worst_33 : decode cX12_worst 33 = .ok (.invokevirtual 198, 3) := by decide +kernel
theorem dX12_worst_36 : decode cX12_worst 36 = .ok (.iconst (-1), 1) := by decide +kernel
theorem dX12_worst_37 : decode cX12_worst 37 = .ok (.istore 4, 2) := by decide +kernel
theorem dX12_worst_39 : decode cX12_worst 39 = .ok (.iconst (-1), 1) := by decide +kernel
theorem dX12_worst_40 : decode cX12_worst 40 = .ok (.istore 5, 2) := by decide +kernel
theorem dX12_worst_42 : decode cX12_worst 42 = .ok (.iconst 0, 1) := by decide +kernel
theorem dX12_worst_43 : decode cX12_worst 43 = .ok (.istore 6, 2) := by decide +kernel
theorem dX12_worst_45 : decode cX12_worst 45 = .ok (.iload 6, 2) := by decide +kernel
theorem dX12_worst_47 : decode cX12_worst 47 = .ok (.bipush 16, 2) := by decide +kernel
theorem dX12_worst_49 : decode cX12_worst 49 = .ok (.if_icmp .ge 132, 3) := by decide +kernel
theorem dX12_worst_52 : decode cX12_worst 52 = .ok (.iconst 0, 1) := by decide +kernel
theorem dX12_worst_53 : decode cX12_worst 53 = .ok (.istore 7, 2) := by decide +kernel
theorem dX12_worst_55 : decode cX12_worst 55 = .ok (.iconst 0, 1) := by decide +kernel
theorem dX12_worst_56 : decode cX12_worst 56 = .ok (.istore 8, 2) := by decide +kernel
theorem dX12_worst_58 : decode cX12_worst 58 = .ok (.iload 8, 2) := by decide +kernel
theorem dX12_worst_60 : decode cX12_worst 60 = .ok (.iconst 4, 1) := by decide +kernel
theorem dX12_worst_61 : decode cX12_worst 61 = .ok (.if_icmp .ge 82, 3) := by decide +kernel
theorem dX12_worst_64 : decode cX12_worst 64 = .ok (.aload_n 0, 1) := by decide +kernel
theorem dX12_worst_65 : decode cX12_worst 65 = .ok (.getfield 9, 3) := by decide +kernel
theorem dX12_worst_68 : decode cX12_worst 68 = .ok (.sipush 557, 3) := by decide +kernel
theorem dX12_worst_71 : decode cX12_worst 71 = .ok (.iconst 4, 1) := by decide +kernel
theorem dX12_worst_72 : decode cX12_worst 72 = .ok (.iload 6, 2) := by decide +kernel
theorem dX12_worst_74 : decode cX12_worst 74 = .ok (.imul, 1) := by decide +kernel
theorem dX12_worst_75 : decode cX12_worst 75 = .ok (.iadd, 1) := by decide +kernel
theorem dX12_worst_76 : decode cX12_worst 76 = .ok (.iload 8, 2) := by decide +kernel
theorem dX12_worst_78 : decode cX12_worst 78 = .ok (.iadd, 1) := by decide +kernel
theorem dX12_worst_79 : decode cX12_worst 79 = .ok (.iaload, 1) := by decide +kernel
theorem dX12_worst_80 : decode cX12_worst 80 = .ok (.istore 9, 2) := by decide +kernel
theorem dX12_worst_82 : decode cX12_worst 82 = .ok (.aload_n 0, 1) := by decide +kernel
theorem dX12_worst_83 : decode cX12_worst 83 = .ok (.getfield 34, 3) := by decide +kernel
theorem dX12_worst_86 : decode cX12_worst 86 = .ok (.iload 6, 2) := by decide +kernel
theorem dX12_worst_88 : decode cX12_worst 88 = .ok (.iaload, 1) := by decide +kernel
theorem dX12_worst_89 : decode cX12_worst 89 = .ok (.istore 10, 2) := by decide +kernel
theorem dX12_worst_91 : decode cX12_worst 91 = .ok (.iload 7, 2) := by decide +kernel
theorem dX12_worst_93 : decode cX12_worst 93 = .ok (.iload 9, 2) := by decide +kernel
theorem dX12_worst_95 : decode cX12_worst 95 = .ok (.iload 10, 2) := by decide +kernel
theorem dX12_worst_97 : decode cX12_worst 97 = .ok (.ifCond .ne 7, 3) := by decide +kernel
theorem dX12_worst_100 : decode cX12_worst 100 = .ok (.iconst 0, 1) := by decide +kernel
theorem dX12_worst_101 : decode cX12_worst 101 = .ok (.goto 29, 3) := by decide +kernel
theorem dX12_worst_104 : decode cX12_worst 104 = .ok (.iload 9, 2) := by decide +kernel
theorem dX12_worst_106 : decode cX12_worst 106 = .ok (.aload_n 0, 1) := by decide +kernel
theorem dX12_worst_107 : decode cX12_worst 107 = .ok (.getfield 31, 3) := by decide +kernel
theorem dX12_worst_110 : decode cX12_worst 110 = .ok (.iload 6, 2) := by decide +kernel
theorem dX12_worst_112 : decode cX12_worst 112 = .ok (.iaload, 1) := by decide +kernel
theorem dX12_worst_113 : decode cX12_worst 113 = .ok (.iload 10, 2) := by decide +kernel
theorem dX12_worst_115 : decode cX12_worst 115 = .ok (.invokestatic 201, 3) := by decide +kernel
theorem dX12_worst_118 : decode cX12_worst 118 = .ok (.aload_n 0, 1) := by decide +kernel
theorem dX12_worst_119 : decode cX12_worst 119 = .ok (.getfield 31, 3) := by decide +kernel
theorem dX12_worst_122 : decode cX12_worst 122 = .ok (.iload 6, 2) := by decide +kernel
theorem dX12_worst_124 : decode cX12_worst 124 = .ok (.iaload, 1) := by decide +kernel
theorem dX12_worst_125 : decode cX12_worst 125 = .ok (.iload 10, 2) := by decide +kernel
theorem dX12_worst_127 : decode cX12_worst 127 = .ok (.invokestatic 274, 3) := by decide +kernel
theorem dX12_worst_130 : decode cX12_worst 130 = .ok (.isub, 1) := by decide +kernel
theorem dX12_worst_131 : decode cX12_worst 131 = .ok (.invokestatic 173, 3) := by decide +kernel
theorem dX12_worst_134 : decode cX12_worst 134 = .ok (.iadd, 1) := by decide +kernel
theorem dX12_worst_135 : decode cX12_worst 135 = .ok (.istore 7, 2) := by decide +kernel
theorem dX12_worst_137 : decode cX12_worst 137 = .ok (.iinc 8 1, 3) := by decide +kernel
theorem dX12_worst_140 : decode cX12_worst 140 = .ok (.goto (-82), 3) := by decide +kernel
theorem dX12_worst_143 : decode cX12_worst 143 = .ok (.iload 7, 2) := by decide +kernel
theorem dX12_worst_145 : decode cX12_worst 145 = .ok (.iload 5, 2) := by decide +kernel
theorem dX12_worst_147 : decode cX12_worst 147 = .ok (.if_icmp .le 8, 3) := by decide +kernel
theorem dX12_worst_150 : decode cX12_worst 150 = .ok (.iload 6, 2) := by decide +kernel
theorem dX12_worst_152 : decode cX12_worst 152 = .ok (.goto 5, 3) := by decide +kernel
theorem dX12_worst_155 : decode cX12_worst 155 = .ok (.iload 4, 2) := by decide +kernel
theorem dX12_worst_157 : decode cX12_worst 157 = .ok (.istore 4, 2) := by decide +kernel
theorem dX12_worst_159 : decode cX12_worst 159 = .ok (.iload 7, 2) := by decide +kernel
theorem dX12_worst_161 : decode cX12_worst 161 = .ok (.iload 5, 2) := by decide +kernel
theorem dX12_worst_163 : decode cX12_worst 163 = .ok (.if_icmp .le 8, 3) := by decide +kernel
theorem dX12_worst_166 : decode cX12_worst 166 = .ok (.iload 7, 2) := by decide +kernel
theorem dX12_worst_168 : decode cX12_worst 168 = .ok (.goto 5, 3) := by decide +kernel
theorem dX12_worst_171 : decode cX12_worst 171 = .ok (.iload 5, 2) := by decide +kernel
theorem dX12_worst_173 : decode cX12_worst 173 = .ok (.istore 5, 2) := by decide +kernel
theorem dX12_worst_175 : decode cX12_worst 175 = .ok (.iinc 6 1, 3) := by decide +kernel
theorem dX12_worst_178 : decode cX12_worst 178 = .ok (.goto (-133), 3) := by decide +kernel
theorem dX12_worst_181 : decode cX12_worst 181 = .ok (.iload_n 3, 1) := by decide +kernel
theorem dX12_worst_182 : decode cX12_worst 182 = .ok (.ifCond .ne 8, 3) := by decide +kernel
theorem dX12_worst_185 : decode cX12_worst 185 = .ok (.iload 4, 2) := by decide +kernel
theorem dX12_worst_187 : decode cX12_worst 187 = .ok (.goto 5, 3) := by decide +kernel
theorem dX12_worst_190 : decode cX12_worst 190 = .ok (.iload 5, 2) := by decide +kernel
theorem dX12_worst_192 : decode cX12_worst 192 = .ok (.ireturn, 1) := by decide +kernel
theorem dX12_least_0 : decode cX12_least 0 = .ok (.aload_n 0, 1) := by decide +kernel
theorem dX12_least_1 : decode cX12_least 1 = .ok (.iconst 0, 1) := by decide +kernel
theorem dX12_least_2 : decode cX12_least 2 = .ok (.putfield 58, 3) := by decide +kernel
theorem dX12_least_5 : decode cX12_least 5 = .ok (.aload_n 0, 1) := by decide +kernel
theorem dX12_least_6 : decode cX12_least 6 = .ok (.iconst 2, 1) := by decide +kernel
theorem dX12_least_7 : decode cX12_least 7 = .ok (.iload_n 1, 1) := by decide +kernel
theorem dX12_least_8 : decode cX12_least 8 = .ok (.invokevirtual 340, 3) := by decide +kernel
theorem dX12_least_11 : decode cX12_least 11 = .ok (.ifCond .ne 5, 3) := by decide +kernel
theorem dX12_least_14 : decode cX12_least 14 = .ok (.iconst (-1), 1) := by decide +kernel
theorem dX12_least_15 : decode cX12_least 15 = .ok (.ireturn, 1) := by decide +kernel
theorem dX12_least_16 : decode cX12_least 16 = .ok (.iconst 2, 1) := by decide +kernel
theorem dX12_least_17 : decode cX12_least 17 = .ok (.istore_n 3, 1) := by decide +kernel
theorem dX12_least_18 : decode cX12_least 18 = .ok (.iload_n 3, 1) := by decide +kernel
theorem dX12_least_19 : decode cX12_least 19 = .ok (.sipush 128, 3) := by decide +kernel
theorem dX12_least_22 : decode cX12_least 22 = .ok (.if_icmp .gt 21, 3) := by decide +kernel
theorem dX12_least_25 : decode cX12_least 25 = .ok (.aload_n 0, 1) := by decide +kernel
theorem dX12_least_26 : decode cX12_least 26 = .ok (.iload_n 3, 1) := by decide +kernel
theorem dX12_least_27 : decode cX12_least 27 = .ok (.iload_n 1, 1) := by decide +kernel
theorem dX12_least_28 : decode cX12_least 28 = .ok (.invokevirtual 343, 3) := by decide +kernel
theorem dX12_least_31 : decode cX12_least 31 = .ok (.iload_n 2, 1) := by decide +kernel
theorem dX12_least_32 : decode cX12_least 32 = .ok (.if_icmp .gt 5, 3) := by decide +kernel
theorem dX12_least_35 : decode cX12_least 35 = .ok (.iload_n 3, 1) := by decide +kernel
theorem dX12_least_36 : decode cX12_least 36 = .ok (.ireturn, 1) := by decide +kernel
theorem dX12_least_37 : decode cX12_least 37 = .ok (.iinc 3 1, 3) := by decide +kernel
theorem dX12_least_40 : decode cX12_least 40 = .ok (.goto (-22), 3) := by decide +kernel
theorem dX12_least_43 : decode cX12_least 43 = .ok (.iconst (-1), 1) := by decide +kernel
theorem dX12_least_44 : decode cX12_least 44 = .ok (.ireturn, 1) := by decide +kernel
theorem dX12_paired_0 : decode cX12_paired 0 = .ok (.aload_n 0, 1) := by decide +kernel
theorem dX12_paired_1 : decode cX12_paired 1 = .ok (.iconst 0, 1) := by decide +kernel
theorem dX12_paired_2 : decode cX12_paired 2 = .ok (.putfield 58, 3) := by decide +kernel
theorem dX12_paired_5 : decode cX12_paired 5 = .ok (.aload_n 0, 1) := by decide +kernel
theorem dX12_paired_6 : decode cX12_paired 6 = .ok (.invokevirtual 325, 3) := by decide +kernel
theorem dX12_paired_9 : decode cX12_paired 9 = .ok (.ifCond .eq 43, 3) := by decide +kernel
theorem dX12_paired_12 : decode cX12_paired 12 = .ok (.iload_n 1, 1) := by decide +kernel
theorem dX12_paired_13 : decode cX12_paired 13 = .ok (.i2l, 1) := by decide +kernel
theorem dX12_paired_14 : decode cX12_paired 14 = .ok (.lconst 0, 1) := by decide +kernel
theorem dX12_paired_15 : decode cX12_paired 15 = .ok (.ldc2_w 108, 3) := by decide +kernel
theorem dX12_paired_18 : decode cX12_paired 18 = .ok (.invokestatic 68, 3) := by decide +kernel
theorem dX12_paired_21 : decode cX12_paired 21 = .ok (.ifCond .eq 31, 3) := by decide +kernel
theorem dX12_paired_24 : decode cX12_paired 24 = .ok (.iload_n 2, 1) := by decide +kernel
theorem dX12_paired_25 : decode cX12_paired 25 = .ok (.i2l, 1) := by decide +kernel
theorem dX12_paired_26 : decode cX12_paired 26 = .ok (.lconst 0, 1) := by decide +kernel
theorem dX12_paired_27 : decode cX12_paired 27 = .ok (.lconst 1, 1) := by decide +kernel
theorem dX12_paired_28 : decode cX12_paired 28 = .ok (.invokestatic 68, 3) := by decide +kernel
theorem dX12_paired_31 : decode cX12_paired 31 = .ok (.ifCond .eq 21, 3) := by decide +kernel
theorem dX12_paired_34 : decode cX12_paired 34 = .ok (.aload_n 0, 1) := by decide +kernel
theorem dX12_paired_35 : decode cX12_paired 35 = .ok (.iload_n 1, 1) := by decide +kernel
theorem dX12_paired_36 : decode cX12_paired 36 = .ok (.iload_n 2, 1) := by decide +kernel
theorem dX12_paired_37 : decode cX12_paired 37 = .ok (.iconst 1, 1) := by decide +kernel
theorem dX12_paired_38 : decode cX12_paired 38 = .ok (.if_icmp .ne 7, 3) := by decide +kernel
theorem dX12_paired_41 : decode cX12_paired 41 = .ok (.iconst 1, 1) := by decide +kernel
theorem dX12_paired_42 : decode cX12_paired 42 = .ok (.goto 4, 3) := by decide +kernel
theorem dX12_paired_45 : decode cX12_paired 45 = .ok (.iconst 0, 1) := by decide +kernel
theorem dX12_paired_46 : decode cX12_paired 46 = .ok (.invokevirtual 177, 3) := by decide +kernel
theorem dX12_paired_49 : decode cX12_paired 49 = .ok (.goto 4, 3) := by decide +kernel
theorem dX12_paired_52 : decode cX12_paired 52 = .ok (.iconst (-1), 1) := by decide +kernel
theorem dX12_paired_53 : decode cX12_paired 53 = .ok (.ireturn, 1) := by decide +kernel
theorem dX12_share_0 : decode cX12_share 0 = .ok (.aload_n 0, 1) := by decide +kernel
theorem dX12_share_1 : decode cX12_share 1 = .ok (.iconst 0, 1) := by decide +kernel
theorem dX12_share_2 : decode cX12_share 2 = .ok (.putfield 58, 3) := by decide +kernel
theorem dX12_share_5 : decode cX12_share 5 = .ok (.aload_n 0, 1) := by decide +kernel
theorem dX12_share_6 : decode cX12_share 6 = .ok (.invokevirtual 325, 3) := by decide +kernel
theorem dX12_share_9 : decode cX12_share 9 = .ok (.ifCond .eq 15, 3) := by decide +kernel
theorem dX12_share_12 : decode cX12_share 12 = .ok (.iload_n 1, 1) := by decide +kernel
theorem dX12_share_13 : decode cX12_share 13 = .ok (.i2l, 1) := by decide +kernel
theorem dX12_share_14 : decode cX12_share 14 = .ok (.ldc2_w 350, 3) := by decide +kernel
theorem dX12_share_17 : decode cX12_share 17 = .ok (.lconst 1, 1) := by decide +kernel
theorem dX12_share_18 : decode cX12_share 18 = .ok (.invokestatic 68, 3) := by decide +kernel
theorem dX12_share_21 : decode cX12_share 21 = .ok (.ifCond .ne 5, 3) := by decide +kernel
theorem dX12_share_24 : decode cX12_share 24 = .ok (.iconst (-1), 1) := by decide +kernel
theorem dX12_share_25 : decode cX12_share 25 = .ok (.ireturn, 1) := by decide +kernel
theorem dX12_share_26 : decode cX12_share 26 = .ok (.iconst 0, 1) := by decide +kernel
theorem dX12_share_27 : decode cX12_share 27 = .ok (.istore_n 2, 1) := by decide +kernel
theorem dX12_share_28 : decode cX12_share 28 = .ok (.iconst 0, 1) := by decide +kernel
theorem dX12_share_29 : decode cX12_share 29 = .ok (.istore_n 3, 1) := by decide +kernel
theorem dX12_share_30 : decode cX12_share 30 = .ok (.iload_n 3, 1) := by decide +kernel
theorem dX12_share_31 : decode cX12_share 31 = .ok (.bipush 16, 2) := by decide +kernel
theorem dX12_share_33 : decode cX12_share 33 = .ok (.if_icmp .ge 39, 3) := by decide +kernel
theorem dX12_share_36 : decode cX12_share 36 = .ok (.iload_n 2, 1) := by decide +kernel
theorem dX12_share_37 : decode cX12_share 37 = .ok (.iload_n 1, 1) := by decide +kernel
theorem dX12_share_38 : decode cX12_share 38 = .ok (.iconst (-1), 1) := by decide +kernel
theorem dX12_share_39 : decode cX12_share 39 = .ok (.if_icmp .eq 11, 3) := by decide +kernel
theorem dX12_share_42 : decode cX12_share 42 = .ok (.iload_n 3, 1) := by decide +kernel
theorem dX12_share_43 : decode cX12_share 43 = .ok (.bipush 8, 2) := by decide +kernel
theorem dX12_share_45 : decode cX12_share 45 = .ok (.idiv, 1) := by decide +kernel
theorem dX12_share_46 : decode cX12_share 46 = .ok (.iload_n 1, 1) := by decide +kernel
theorem dX12_share_47 : decode cX12_share 47 = .ok (.if_icmp .ne 16, 3) := by decide +kernel
theorem dX12_share_50 : decode cX12_share 50 = .ok (.aload_n 0, 1) := by decide +kernel
theorem dX12_share_51 : decode cX12_share 51 = .ok (.getfield 9, 3) := by decide +kernel
theorem dX12_share_54 : decode cX12_share 54 = .ok (.sipush 637, 3) := by decide +kernel
theorem dX12_share_57 : decode cX12_share 57 = .ok (.iload_n 3, 1) := by decide +kernel
theorem dX12_share_58 : decode cX12_share 58 = .ok (.iadd, 1) := by decide +kernel
theorem dX12_share_59 : decode cX12_share 59 = .ok (.iaload, 1) := by decide +kernel
theorem dX12_share_60 : decode cX12_share 60 = .ok (.goto 4, 3) := by decide +kernel
theorem dX12_share_63 : decode cX12_share 63 = .ok (.iconst 0, 1) := by decide +kernel
theorem dX12_share_64 : decode cX12_share 64 = .ok (.iadd, 1) := by decide +kernel
theorem dX12_share_65 : decode cX12_share 65 = .ok (.istore_n 2, 1) := by decide +kernel
theorem dX12_share_66 : decode cX12_share 66 = .ok (.iinc 3 1, 3) := by decide +kernel
theorem dX12_share_69 : decode cX12_share 69 = .ok (.goto (-39), 3) := by decide +kernel
theorem dX12_share_72 : decode cX12_share 72 = .ok (.iload_n 2, 1) := by decide +kernel
theorem dX12_share_73 : decode cX12_share 73 = .ok (.ireturn, 1) := by decide +kernel
theorem dX12_damaged_0 : decode cX12_damaged 0 = .ok (.aload_n 0, 1) := by decide +kernel
theorem dX12_damaged_1 : decode cX12_damaged 1 = .ok (.iconst 0, 1) := by decide +kernel
theorem dX12_damaged_2 : decode cX12_damaged 2 = .ok (.putfield 58, 3) := by decide +kernel
theorem dX12_damaged_5 : decode cX12_damaged 5 = .ok (.bipush 8, 2) := by decide +kernel
theorem dX12_damaged_7 : decode cX12_damaged 7 = .ok (.aload_n 0, 1) := by decide +kernel
theorem dX12_damaged_8 : decode cX12_damaged 8 = .ok (.getfield 9, 3) := by decide +kernel
theorem dX12_damaged_11 : decode cX12_damaged 11 = .ok (.sipush 654, 3) := by decide +kernel
theorem dX12_damaged_14 : decode cX12_damaged 14 = .ok (.iaload, 1) := by decide +kernel
theorem dX12_damaged_15 : decode cX12_damaged 15 = .ok (.imul, 1) := by decide +kernel
theorem dX12_damaged_16 : decode cX12_damaged 16 = .ok (.istore_n 3, 1) := by decide +kernel
theorem dX12_damaged_17 : decode cX12_damaged 17 = .ok (.aload_n 0, 1) := by decide +kernel
theorem dX12_damaged_18 : decode cX12_damaged 18 = .ok (.invokevirtual 325, 3) := by decide +kernel
theorem dX12_damaged_21 : decode cX12_damaged 21 = .ok (.ifCond .eq 36, 3) := by decide +kernel
theorem dX12_damaged_24 : decode cX12_damaged 24 = .ok (.iload_n 1, 1) := by decide +kernel
theorem dX12_damaged_25 : decode cX12_damaged 25 = .ok (.i2l, 1) := by decide +kernel
theorem dX12_damaged_26 : decode cX12_damaged 26 = .ok (.lconst 0, 1) := by decide +kernel
theorem dX12_damaged_27 : decode cX12_damaged 27 = .ok (.iload_n 3, 1) := by decide +kernel
theorem dX12_damaged_28 : decode cX12_damaged 28 = .ok (.i2l, 1) := by decide +kernel
theorem dX12_damaged_29 : decode cX12_damaged 29 = .ok (.lconst 1, 1) := by decide +kernel
theorem dX12_damaged_30 : decode cX12_damaged 30 = .ok (.lsub, 1) := by decide +kernel
theorem dX12_damaged_31 : decode cX12_damaged 31 = .ok (.invokestatic 68, 3) := by decide +kernel
theorem dX12_damaged_34 : decode cX12_damaged 34 = .ok (.ifCond .eq 23, 3) := by decide +kernel
theorem dX12_damaged_37 : decode cX12_damaged 37 = .ok (.iload_n 2, 1) := by decide +kernel
theorem dX12_damaged_38 : decode cX12_damaged 38 = .ok (.i2l, 1) := by decide +kernel
theorem dX12_damaged_39 : decode cX12_damaged 39 = .ok (.ldc2_w 350, 3) := by decide +kernel
theorem dX12_damaged_42 : decode cX12_damaged 42 = .ok (.iload_n 3, 1) := by decide +kernel
theorem dX12_damaged_43 : decode cX12_damaged 43 = .ok (.i2l, 1) := by decide +kernel
theorem dX12_damaged_44 : decode cX12_damaged 44 = .ok (.lconst 1, 1) := by decide +kernel
theorem dX12_damaged_45 : decode cX12_damaged 45 = .ok (.lsub, 1) := by decide +kernel
theorem dX12_damaged_46 : decode cX12_damaged 46 = .ok (.invokestatic 68, 3) := by decide +kernel
theorem dX12_damaged_49 : decode cX12_damaged 49 = .ok (.ifCond .eq 8, 3) := by decide +kernel
theorem dX12_damaged_52 : decode cX12_damaged 52 = .ok (.iload_n 1, 1) := by decide +kernel
theorem dX12_damaged_53 : decode cX12_damaged 53 = .ok (.iload_n 2, 1) := by decide +kernel
theorem dX12_damaged_54 : decode cX12_damaged 54 = .ok (.if_icmp .ne 5, 3) := by decide +kernel
theorem dX12_damaged_57 : decode cX12_damaged 57 = .ok (.iconst (-1), 1) := by decide +kernel
theorem dX12_damaged_58 : decode cX12_damaged 58 = .ok (.ireturn, 1) := by decide +kernel
theorem dX12_damaged_59 : decode cX12_damaged 59 = .ok (.iconst 0, 1) := by decide +kernel
theorem dX12_damaged_60 : decode cX12_damaged 60 = .ok (.istore 4, 2) := by decide +kernel
theorem dX12_damaged_62 : decode cX12_damaged 62 = .ok (.iload 4, 2) := by decide +kernel
theorem dX12_damaged_64 : decode cX12_damaged 64 = .ok (.bipush 80, 2) := by decide +kernel
theorem dX12_damaged_66 : decode cX12_damaged 66 = .ok (.if_icmp .ge 27, 3) := by decide +kernel
theorem dX12_damaged_69 : decode cX12_damaged 69 = .ok (.aload_n 0, 1) := by decide +kernel
theorem dX12_damaged_70 : decode cX12_damaged 70 = .ok (.getfield 37, 3) := by decide +kernel
theorem dX12_damaged_73 : decode cX12_damaged 73 = .ok (.iload 4, 2) := by decide +kernel
theorem dX12_damaged_75 : decode cX12_damaged 75 = .ok (.aload_n 0, 1) := by decide +kernel
theorem dX12_damaged_76 : decode cX12_damaged 76 = .ok (.getfield 9, 3) := by decide +kernel
theorem dX12_damaged_79 : decode cX12_damaged 79 = .ok (.sipush 655, 3) := by decide +kernel
theorem dX12_damaged_82 : decode cX12_damaged 82 = .ok (.iload 4, 2) := by decide +kernel
theorem dX12_damaged_84 : decode cX12_damaged 84 = .ok (.iadd, 1) := by decide +kernel
theorem dX12_damaged_85 : decode cX12_damaged 85 = .ok (.iaload, 1) := by decide +kernel
theorem dX12_damaged_86 : decode cX12_damaged 86 = .ok (.iastore, 1) := by decide +kernel
theorem dX12_damaged_87 : decode cX12_damaged 87 = .ok (.iinc 4 1, 3) := by decide +kernel
theorem dX12_damaged_90 : decode cX12_damaged 90 = .ok (.goto (-28), 3) := by decide +kernel
theorem dX12_damaged_93 : decode cX12_damaged 93 = .ok (.aload_n 0, 1) := by decide +kernel
theorem dX12_damaged_94 : decode cX12_damaged 94 = .ok (.getfield 37, 3) := by decide +kernel
theorem dX12_damaged_97 : decode cX12_damaged 97 = .ok (.iload_n 1, 1) := by decide +kernel
theorem dX12_damaged_98 : decode cX12_damaged 98 = .ok (.bipush 8, 2) := by decide +kernel
theorem dX12_damaged_100 : decode cX12_damaged 100 = .ok (.idiv, 1) := by decide +kernel
theorem dX12_damaged_101 : decode cX12_damaged 101 = .ok (.dup2, 1) := by decide +kernel
theorem dX12_damaged_102 : decode cX12_damaged 102 = .ok (.iaload, 1) := by decide +kernel
theorem dX12_damaged_103 : decode cX12_damaged 103 = .ok (.iconst 1, 1) := by decide +kernel
theorem dX12_damaged_104 : decode cX12_damaged 104 = .ok (.bipush 7, 2) := by decide +kernel
theorem dX12_damaged_106 : decode cX12_damaged 106 = .ok (.iload_n 1, 1) := by decide +kernel
theorem dX12_damaged_107 : decode cX12_damaged 107 = .ok (.bipush 8, 2) := by decide +kernel
theorem dX12_damaged_109 : decode cX12_damaged 109 = .ok (.irem, 1) := by decide +kernel
theorem dX12_damaged_110 : decode cX12_damaged 110 = .ok (.isub, 1) := by decide +kernel
theorem dX12_damaged_111 : decode cX12_damaged 111 = .ok (.ishl, 1) := by decide +kernel
theorem dX12_damaged_112 : decode cX12_damaged 112 = .ok (.ixor, 1) := by decide +kernel
theorem dX12_damaged_113 : decode cX12_damaged 113 = .ok (.iastore, 1) := by decide +kernel
theorem dX12_damaged_114 : decode cX12_damaged 114 = .ok (.iload_n 2, 1) := by decide +kernel
theorem dX12_damaged_115 : decode cX12_damaged 115 = .ok (.iconst (-1), 1) := by decide +kernel
theorem dX12_damaged_116 : decode cX12_damaged 116 = .ok (.if_icmp .eq 24, 3) := by decide +kernel
theorem dX12_damaged_119 : decode cX12_damaged 119 = .ok (.aload_n 0, 1) := by decide +kernel
theorem dX12_damaged_120 : decode cX12_damaged 120 = .ok (.getfield 37, 3) := by decide +kernel
theorem dX12_damaged_123 : decode cX12_damaged 123 = .ok (.iload_n 2, 1) := by decide +kernel
theorem dX12_damaged_124 : decode cX12_damaged 124 = .ok (.bipush 8, 2) := by decide +kernel
theorem dX12_damaged_126 : decode cX12_damaged 126 = .ok (.idiv, 1) := by decide +kernel
theorem dX12_damaged_127 : decode cX12_damaged 127 = .ok (.dup2, 1) := by decide +kernel
theorem dX12_damaged_128 : decode cX12_damaged 128 = .ok (.iaload, 1) := by decide +kernel
theorem dX12_damaged_129 : decode cX12_damaged 129 = .ok (.iconst 1, 1) := by decide +kernel
theorem dX12_damaged_130 : decode cX12_damaged 130 = .ok (.bipush 7, 2) := by decide +kernel
theorem dX12_damaged_132 : decode cX12_damaged 132 = .ok (.iload_n 2, 1) := by decide +kernel
theorem dX12_damaged_133 : decode cX12_damaged 133 = .ok (.bipush 8, 2) := by decide +kernel
theorem dX12_damaged_135 : decode cX12_damaged 135 = .ok (.irem, 1) := by decide +kernel
theorem dX12_damaged_136 : decode cX12_damaged 136 = .ok (.isub, 1) := by decide +kernel
theorem dX12_damaged_137 : decode cX12_damaged 137 = .ok (.ishl, 1) := by decide +kernel
theorem dX12_damaged_138 : decode cX12_damaged 138 = .ok (.ixor, 1) := by decide +kernel
theorem dX12_damaged_139 : decode cX12_damaged 139 = .ok (.iastore, 1) := by decide +kernel
theorem dX12_damaged_140 : decode cX12_damaged 140 = .ok (.aload_n 0, 1) := by decide +kernel
theorem dX12_damaged_141 : decode cX12_damaged 141 = .ok (.getfield 37, 3) := by decide +kernel
theorem dX12_damaged_144 : decode cX12_damaged 144 = .ok (.iconst 0, 1) := by decide +kernel
theorem dX12_damaged_145 : decode cX12_damaged 145 = .ok (.iaload, 1) := by decide +kernel
theorem dX12_damaged_146 : decode cX12_damaged 146 = .ok (.sipush 156, 3) := by decide +kernel
theorem dX12_damaged_149 : decode cX12_damaged 149 = .ok (.if_icmp .eq 7, 3) := by decide +kernel
theorem dX12_damaged_152 : decode cX12_damaged 152 = .ok (.iconst 0, 1) := by decide +kernel
theorem dX12_damaged_153 : decode cX12_damaged 153 = .ok (.goto 29, 3) := by decide +kernel
theorem dX12_damaged_156 : decode cX12_damaged 156 = .ok (.aload_n 0, 1) := by decide +kernel
theorem dX12_damaged_157 : decode cX12_damaged 157 = .ok (.getfield 37, 3) := by decide +kernel
theorem dX12_damaged_160 : decode cX12_damaged 160 = .ok (.iconst 3, 1) := by decide +kernel
theorem dX12_damaged_161 : decode cX12_damaged 161 = .ok (.iaload, 1) := by decide +kernel
theorem dX12_damaged_162 : decode cX12_damaged 162 = .ok (.aload_n 0, 1) := by decide +kernel
theorem dX12_damaged_163 : decode cX12_damaged 163 = .ok (.aload_n 0, 1) := by decide +kernel
theorem dX12_damaged_164 : decode cX12_damaged 164 = .ok (.getfield 9, 3) := by decide +kernel
theorem dX12_damaged_167 : decode cX12_damaged 167 = .ok (.sipush 654, 3) := by decide +kernel
theorem dX12_damaged_170 : decode cX12_damaged 170 = .ok (.iaload, 1) := by decide +kernel
theorem dX12_damaged_171 : decode cX12_damaged 171 = .ok (.invokevirtual 204, 3) := by decide +kernel
theorem dX12_damaged_174 : decode cX12_damaged 174 = .ok (.if_icmp .eq 7, 3) := by decide +kernel
theorem dX12_damaged_177 : decode cX12_damaged 177 = .ok (.iconst 1, 1) := by decide +kernel
theorem dX12_damaged_178 : decode cX12_damaged 178 = .ok (.goto 4, 3) := by decide +kernel
theorem dX12_damaged_181 : decode cX12_damaged 181 = .ok (.iconst 2, 1) := by decide +kernel
theorem dX12_damaged_182 : decode cX12_damaged 182 = .ok (.ireturn, 1) := by decide +kernel
theorem dX12_heard_0 : decode cX12_heard 0 = .ok (.aload_n 0, 1) := by decide +kernel
theorem dX12_heard_1 : decode cX12_heard 1 = .ok (.iconst 0, 1) := by decide +kernel
theorem dX12_heard_2 : decode cX12_heard 2 = .ok (.putfield 58, 3) := by decide +kernel
theorem dX12_heard_5 : decode cX12_heard 5 = .ok (.iload_n 1, 1) := by decide +kernel
theorem dX12_heard_6 : decode cX12_heard 6 = .ok (.i2l, 1) := by decide +kernel
theorem dX12_heard_7 : decode cX12_heard 7 = .ok (.lconst 0, 1) := by decide +kernel
theorem dX12_heard_8 : decode cX12_heard 8 = .ok (.lconst 1, 1) := by decide +kernel
theorem dX12_heard_9 : decode cX12_heard 9 = .ok (.invokestatic 68, 3) := by decide +kernel
theorem dX12_heard_12 : decode cX12_heard 12 = .ok (.ifCond .eq 39, 3) := by decide +kernel
theorem dX12_heard_15 : decode cX12_heard 15 = .ok (.iload_n 2, 1) := by decide +kernel
theorem dX12_heard_16 : decode cX12_heard 16 = .ok (.i2l, 1) := by decide +kernel
theorem dX12_heard_17 : decode cX12_heard 17 = .ok (.lconst 0, 1) := by decide +kernel
theorem dX12_heard_18 : decode cX12_heard 18 = .ok (.ldc2_w 352, 3) := by decide +kernel
theorem dX12_heard_21 : decode cX12_heard 21 = .ok (.invokestatic 68, 3) := by decide +kernel
theorem dX12_heard_24 : decode cX12_heard 24 = .ok (.ifCond .eq 27, 3) := by decide +kernel
theorem dX12_heard_27 : decode cX12_heard 27 = .ok (.aload_n 0, 1) := by decide +kernel
theorem dX12_heard_28 : decode cX12_heard 28 = .ok (.getfield 9, 3) := by decide +kernel
theorem dX12_heard_31 : decode cX12_heard 31 = .ok (.bipush 109, 2) := by decide +kernel
theorem dX12_heard_33 : decode cX12_heard 33 = .ok (.sipush 192, 3) := by decide +kernel
theorem dX12_heard_36 : decode cX12_heard 36 = .ok (.iload_n 1, 1) := by decide +kernel
theorem dX12_heard_37 : decode cX12_heard 37 = .ok (.imul, 1) := by decide +kernel
theorem dX12_heard_38 : decode cX12_heard 38 = .ok (.iadd, 1) := by decide +kernel
theorem dX12_heard_39 : decode cX12_heard 39 = .ok (.sipush 192, 3) := by decide +kernel
theorem dX12_heard_42 : decode cX12_heard 42 = .ok (.iadd, 1) := by decide +kernel
theorem dX12_heard_43 : decode cX12_heard 43 = .ok (.iconst 1, 1) := by decide +kernel
theorem dX12_heard_44 : decode cX12_heard 44 = .ok (.isub, 1) := by decide +kernel
theorem dX12_heard_45 : decode cX12_heard 45 = .ok (.iload_n 2, 1) := by decide +kernel
theorem dX12_heard_46 : decode cX12_heard 46 = .ok (.isub, 1) := by decide +kernel
theorem dX12_heard_47 : decode cX12_heard 47 = .ok (.iaload, 1) := by decide +kernel
theorem dX12_heard_48 : decode cX12_heard 48 = .ok (.goto 5, 3) := by decide +kernel
theorem dX12_heard_51 : decode cX12_heard 51 = .ok (.ldc 136, 2) := by decide +kernel
theorem dX12_heard_53 : decode cX12_heard 53 = .ok (.ireturn, 1) := by decide +kernel
theorem dX12_spectrum_0 : decode cX12_spectrum 0 = .ok (.aload_n 0, 1) := by decide +kernel
theorem dX12_spectrum_1 : decode cX12_spectrum 1 = .ok (.iconst 0, 1) := by decide +kernel
theorem dX12_spectrum_2 : decode cX12_spectrum 2 = .ok (.putfield 58, 3) := by decide +kernel
theorem dX12_spectrum_5 : decode cX12_spectrum 5 = .ok (.iload_n 1, 1) := by decide +kernel
theorem dX12_spectrum_6 : decode cX12_spectrum 6 = .ok (.iload_n 2, 1) := by decide +kernel
theorem dX12_spectrum_7 : decode cX12_spectrum 7 = .ok (.invokestatic 329, 3) := by decide +kernel
theorem dX12_spectrum_10 : decode cX12_spectrum 10 = .ok (.ifCond .ne 6, 3) := by decide +kernel
theorem dX12_spectrum_13 : decode cX12_spectrum 13 = .ok (.ldc 136, 2) := by decide +kernel
theorem dX12_spectrum_15 : decode cX12_spectrum 15 = .ok (.ireturn, 1) := by decide +kernel
theorem dX12_spectrum_16 : decode cX12_spectrum 16 = .ok (.iconst 0, 1) := by decide +kernel
theorem dX12_spectrum_17 : decode cX12_spectrum 17 = .ok (.istore_n 3, 1) := by decide +kernel
theorem dX12_spectrum_18 : decode cX12_spectrum 18 = .ok (.iload_n 3, 1) := by decide +kernel
theorem dX12_spectrum_19 : decode cX12_spectrum 19 = .ok (.bipush 14, 2) := by decide +kernel
theorem dX12_spectrum_21 : decode cX12_spectrum 21 = .ok (.if_icmp .ge 16, 3) := by decide +kernel
theorem dX12_spectrum_24 : decode cX12_spectrum 24 = .ok (.aload_n 0, 1) := by decide +kernel
theorem dX12_spectrum_25 : decode cX12_spectrum 25 = .ok (.getfield 52, 3) := by decide +kernel
theorem dX12_spectrum_28 : decode cX12_spectrum 28 = .ok (.iload_n 3, 1) := by decide +kernel
theorem dX12_spectrum_29 : decode cX12_spectrum 29 = .ok (.iconst 0, 1) := by decide +kernel
theorem dX12_spectrum_30 : decode cX12_spectrum 30 = .ok (.iastore, 1) := by decide +kernel
theorem dX12_spectrum_31 : decode cX12_spectrum 31 = .ok (.iinc 3 1, 3) := by decide +kernel
theorem dX12_spectrum_34 : decode cX12_spectrum 34 = .ok (.goto (-16), 3) := by decide +kernel
theorem dX12_spectrum_37 : decode cX12_spectrum 37 = .ok (.iconst 0, 1) := by decide +kernel
theorem dX12_spectrum_38 : decode cX12_spectrum 38 = .ok (.istore_n 3, 1) := by decide +kernel
theorem dX12_spectrum_39 : decode cX12_spectrum 39 = .ok (.iconst 0, 1) := by decide +kernel
theorem dX12_spectrum_40 : decode cX12_spectrum 40 = .ok (.istore 4, 2) := by decide +kernel
theorem dX12_spectrum_42 : decode cX12_spectrum 42 = .ok (.iload 4, 2) := by decide +kernel
theorem dX12_spectrum_44 : decode cX12_spectrum 44 = .ok (.iconst 4, 1) := by decide +kernel
theorem dX12_spectrum_45 : decode cX12_spectrum 45 = .ok (.if_icmp .ge 82, 3) := by decide +kernel
theorem dX12_spectrum_48 : decode cX12_spectrum 48 = .ok (.iconst 0, 1) := by decide +kernel
theorem dX12_spectrum_49 : decode cX12_spectrum 49 = .ok (.istore 5, 2) := by decide +kernel
theorem dX12_spectrum_51 : decode cX12_spectrum 51 = .ok (.iload 5, 2) := by decide +kernel
theorem dX12_spectrum_53 : decode cX12_spectrum 53 = .ok (.bipush 8, 2) := by decide +kernel
theorem dX12_spectrum_55 : decode cX12_spectrum 55 = .ok (.if_icmp .ge 45, 3) := by decide +kernel
theorem dX12_spectrum_58 : decode cX12_spectrum 58 = .ok (.aload_n 0, 1) := by decide +kernel
theorem dX12_spectrum_59 : decode cX12_spectrum 59 = .ok (.getfield 25, 3) := by decide +kernel
theorem dX12_spectrum_62 : decode cX12_spectrum 62 = .ok (.iload 5, 2) := by decide +kernel
theorem dX12_spectrum_64 : decode cX12_spectrum 64 = .ok (.aload_n 0, 1) := by decide +kernel
theorem dX12_spectrum_65 : decode cX12_spectrum 65 = .ok (.getfield 9, 3) := by decide +kernel
theorem dX12_spectrum_68 : decode cX12_spectrum 68 = .ok (.bipush 109, 2) := by decide +kernel
theorem dX12_spectrum_70 : decode cX12_spectrum 70 = .ok (.sipush 192, 3) := by decide +kernel
theorem dX12_spectrum_73 : decode cX12_spectrum 73 = .ok (.iload_n 1, 1) := by decide +kernel
theorem dX12_spectrum_74 : decode cX12_spectrum 74 = .ok (.imul, 1) := by decide +kernel
theorem dX12_spectrum_75 : decode cX12_spectrum 75 = .ok (.iadd, 1) := by decide +kernel
theorem dX12_spectrum_76 : decode cX12_spectrum 76 = .ok (.sipush 192, 3) := by decide +kernel
theorem dX12_spectrum_79 : decode cX12_spectrum 79 = .ok (.iadd, 1) := by decide +kernel
theorem dX12_spectrum_80 : decode cX12_spectrum 80 = .ok (.bipush 32, 2) := by decide +kernel
theorem dX12_spectrum_82 : decode cX12_spectrum 82 = .ok (.isub, 1) := by decide +kernel
theorem dX12_spectrum_83 : decode cX12_spectrum 83 = .ok (.bipush 8, 2) := by decide +kernel
theorem dX12_spectrum_85 : decode cX12_spectrum 85 = .ok (.iload 4, 2) := by decide +kernel
theorem dX12_spectrum_87 : decode cX12_spectrum 87 = .ok (.imul, 1) := by decide +kernel
theorem dX12_spectrum_88 : decode cX12_spectrum 88 = .ok (.iadd, 1) := by decide +kernel
theorem dX12_spectrum_89 : decode cX12_spectrum 89 = .ok (.iload 5, 2) := by decide +kernel
theorem dX12_spectrum_91 : decode cX12_spectrum 91 = .ok (.iadd, 1) := by decide +kernel
theorem dX12_spectrum_92 : decode cX12_spectrum 92 = .ok (.iaload, 1) := by decide +kernel
theorem dX12_spectrum_93 : decode cX12_spectrum 93 = .ok (.iastore, 1) := by decide +kernel
theorem dX12_spectrum_94 : decode cX12_spectrum 94 = .ok (.iinc 5 1, 3) := by decide +kernel
theorem dX12_spectrum_97 : decode cX12_spectrum 97 = .ok (.goto (-46), 3) := by decide +kernel
theorem dX12_spectrum_100 : decode cX12_spectrum 100 = .ok (.aload_n 0, 1) := by decide +kernel
theorem dX12_spectrum_101 : decode cX12_spectrum 101 = .ok (.aload_n 0, 1) := by decide +kernel
theorem dX12_spectrum_102 : decode cX12_spectrum 102 = .ok (.getfield 52, 3) := by decide +kernel
theorem dX12_spectrum_105 : decode cX12_spectrum 105 = .ok (.iconst 0, 1) := by decide +kernel
theorem dX12_spectrum_106 : decode cX12_spectrum 106 = .ok (.invokevirtual 162, 3) := by decide +kernel
theorem dX12_spectrum_109 : decode cX12_spectrum 109 = .ok (.iload_n 3, 1) := by decide +kernel
theorem dX12_spectrum_110 : decode cX12_spectrum 110 = .ok (.aload_n 0, 1) := by decide +kernel
theorem dX12_spectrum_111 : decode cX12_spectrum 111 = .ok (.getfield 25, 3) := by decide +kernel
theorem dX12_spectrum_114 : decode cX12_spectrum 114 = .ok (.iload_n 2, 1) := by decide +kernel
theorem dX12_spectrum_115 : decode cX12_spectrum 115 = .ok (.iaload, 1) := by decide +kernel
theorem dX12_spectrum_116 : decode cX12_spectrum 116 = .ok (.invokestatic 173, 3) := by decide +kernel
theorem dX12_spectrum_119 : decode cX12_spectrum 119 = .ok (.iadd, 1) := by decide +kernel
theorem dX12_spectrum_120 : decode cX12_spectrum 120 = .ok (.istore_n 3, 1) := by decide +kernel
theorem dX12_spectrum_121 : decode cX12_spectrum 121 = .ok (.iinc 4 1, 3) := by decide +kernel
theorem dX12_spectrum_124 : decode cX12_spectrum 124 = .ok (.goto (-82), 3) := by decide +kernel
theorem dX12_spectrum_127 : decode cX12_spectrum 127 = .ok (.iload_n 3, 1) := by decide +kernel
theorem dX12_spectrum_128 : decode cX12_spectrum 128 = .ok (.ireturn, 1) := by decide +kernel
theorem dX12_madeUp_0 : decode cX12_madeUp 0 = .ok (.aload_n 0, 1) := by decide +kernel
theorem dX12_madeUp_1 : decode cX12_madeUp 1 = .ok (.iconst 0, 1) := by decide +kernel
theorem dX12_madeUp_2 : decode cX12_madeUp 2 = .ok (.putfield 58, 3) := by decide +kernel
theorem dX12_madeUp_5 : decode cX12_madeUp 5 = .ok (.iload_n 1, 1) := by decide +kernel
theorem dX12_madeUp_6 : decode cX12_madeUp 6 = .ok (.i2l, 1) := by decide +kernel
theorem dX12_madeUp_7 : decode cX12_madeUp 7 = .ok (.lconst 0, 1) := by decide +kernel
theorem dX12_madeUp_8 : decode cX12_madeUp 8 = .ok (.lconst 1, 1) := by decide +kernel
theorem dX12_madeUp_9 : decode cX12_madeUp 9 = .ok (.invokestatic 68, 3) := by decide +kernel
theorem dX12_madeUp_12 : decode cX12_madeUp 12 = .ok (.ifCond .eq 15, 3) := by decide +kernel
theorem dX12_madeUp_15 : decode cX12_madeUp 15 = .ok (.iload_n 2, 1) := by decide +kernel
theorem dX12_madeUp_16 : decode cX12_madeUp 16 = .ok (.i2l, 1) := by decide +kernel
theorem dX12_madeUp_17 : decode cX12_madeUp 17 = .ok (.lconst 0, 1) := by decide +kernel
theorem dX12_madeUp_18 : decode cX12_madeUp 18 = .ok (.ldc2_w 354, 3) := by decide +kernel
theorem dX12_madeUp_21 : decode cX12_madeUp 21 = .ok (.invokestatic 68, 3) := by decide +kernel
theorem dX12_madeUp_24 : decode cX12_madeUp 24 = .ok (.ifCond .ne 6, 3) := by decide +kernel
theorem dX12_madeUp_27 : decode cX12_madeUp 27 = .ok (.ldc 136, 2) := by decide +kernel
theorem dX12_madeUp_29 : decode cX12_madeUp 29 = .ok (.ireturn, 1) := by decide +kernel
theorem dX12_madeUp_30 : decode cX12_madeUp 30 = .ok (.iload_n 2, 1) := by decide +kernel
theorem dX12_madeUp_31 : decode cX12_madeUp 31 = .ok (.iconst 1, 1) := by decide +kernel
theorem dX12_madeUp_32 : decode cX12_madeUp 32 = .ok (.if_icmp .le 21, 3) := by decide +kernel
theorem dX12_madeUp_35 : decode cX12_madeUp 35 = .ok (.aload_n 0, 1) := by decide +kernel
theorem dX12_madeUp_36 : decode cX12_madeUp 36 = .ok (.invokevirtual 283, 3) := by decide +kernel
theorem dX12_madeUp_39 : decode cX12_madeUp 39 = .ok (.aload_n 0, 1) := by decide +kernel
theorem dX12_madeUp_40 : decode cX12_madeUp 40 = .ok (.getfield 43, 3) := by decide +kernel
theorem dX12_madeUp_43 : decode cX12_madeUp 43 = .ok (.bipush 32, 2) := by decide +kernel
theorem dX12_madeUp_45 : decode cX12_madeUp 45 = .ok (.iload_n 1, 1) := by decide +kernel
theorem dX12_madeUp_46 : decode cX12_madeUp 46 = .ok (.imul, 1) := by decide +kernel
theorem dX12_madeUp_47 : decode cX12_madeUp 47 = .ok (.iload_n 2, 1) := by decide +kernel
theorem dX12_madeUp_48 : decode cX12_madeUp 48 = .ok (.iadd, 1) := by decide +kernel
theorem dX12_madeUp_49 : decode cX12_madeUp 49 = .ok (.iconst 2, 1) := by decide +kernel
theorem dX12_madeUp_50 : decode cX12_madeUp 50 = .ok (.isub, 1) := by decide +kernel
theorem dX12_madeUp_51 : decode cX12_madeUp 51 = .ok (.iaload, 1) := by decide +kernel
theorem dX12_madeUp_52 : decode cX12_madeUp 52 = .ok (.ireturn, 1) := by decide +kernel
theorem dX12_madeUp_53 : decode cX12_madeUp 53 = .ok (.aload_n 0, 1) := by decide +kernel
theorem dX12_madeUp_54 : decode cX12_madeUp 54 = .ok (.iload_n 1, 1) := by decide +kernel
theorem dX12_madeUp_55 : decode cX12_madeUp 55 = .ok (.invokevirtual 262, 3) := by decide +kernel
theorem dX12_madeUp_58 : decode cX12_madeUp 58 = .ok (.aload_n 0, 1) := by decide +kernel
theorem dX12_madeUp_59 : decode cX12_madeUp 59 = .ok (.invokevirtual 265, 3) := by decide +kernel
theorem dX12_madeUp_62 : decode cX12_madeUp 62 = .ok (.iload_n 2, 1) := by decide +kernel
theorem dX12_madeUp_63 : decode cX12_madeUp 63 = .ok (.ifCond .ne 10, 3) := by decide +kernel
theorem dX12_madeUp_66 : decode cX12_madeUp 66 = .ok (.aload_n 0, 1) := by decide +kernel
theorem dX12_madeUp_67 : decode cX12_madeUp 67 = .ok (.getfield 256, 3) := by decide +kernel
theorem dX12_madeUp_70 : decode cX12_madeUp 70 = .ok (.goto 7, 3) := by decide +kernel
theorem dX12_madeUp_73 : decode cX12_madeUp 73 = .ok (.aload_n 0, 1) := by decide +kernel
theorem dX12_madeUp_74 : decode cX12_madeUp 74 = .ok (.getfield 259, 3) := by decide +kernel
theorem dX12_madeUp_77 : decode cX12_madeUp 77 = .ok (.ireturn, 1) := by decide +kernel
theorem dX12_line_0 : decode cX12_line 0 = .ok (.aload_n 0, 1) := by decide +kernel
theorem dX12_line_1 : decode cX12_line 1 = .ok (.iconst 0, 1) := by decide +kernel
theorem dX12_line_2 : decode cX12_line 2 = .ok (.putfield 58, 3) := by decide +kernel
theorem dX12_line_5 : decode cX12_line 5 = .ok (.iload_n 1, 1) := by decide +kernel
theorem dX12_line_6 : decode cX12_line 6 = .ok (.i2l, 1) := by decide +kernel
theorem dX12_line_7 : decode cX12_line 7 = .ok (.lconst 0, 1) := by decide +kernel
theorem dX12_line_8 : decode cX12_line 8 = .ok (.aload_n 0, 1) := by decide +kernel
theorem dX12_line_9 : decode cX12_line 9 = .ok (.getfield 9, 3) := by decide +kernel
theorem dX12_line_12 : decode cX12_line 12 = .ok (.bipush 51, 2) := by decide +kernel
theorem dX12_line_14 : decode cX12_line 14 = .ok (.iaload, 1) := by decide +kernel
theorem dX12_line_15 : decode cX12_line 15 = .ok (.i2l, 1) := by decide +kernel
theorem dX12_line_16 : decode cX12_line 16 = .ok (.lconst 1, 1) := by decide +kernel
theorem dX12_line_17 : decode cX12_line 17 = .ok (.lsub, 1) := by decide +kernel
theorem dX12_line_18 : decode cX12_line 18 = .ok (.invokestatic 68, 3) := by decide +kernel
theorem dX12_line_21 : decode cX12_line 21 = .ok (.ifCond .ne 5, 3) := by decide +kernel
theorem dX12_line_24 : decode cX12_line 24 = .ok (.iconst (-1), 1) := by decide +kernel
theorem dX12_line_25 : decode cX12_line 25 = .ok (.ireturn, 1) := by decide +kernel
theorem dX12_line_26 : decode cX12_line 26 = .ok (.iload_n 1, 1) := by decide +kernel
theorem dX12_line_27 : decode cX12_line 27 = .ok (.invokestatic 217, 3) := by decide +kernel
theorem dX12_line_30 : decode cX12_line 30 = .ok (.istore_n 3, 1) := by decide +kernel
theorem dX12_line_31 : decode cX12_line 31 = .ok (.iload_n 2, 1) := by decide +kernel
theorem dX12_line_32 : decode cX12_line 32 = .ok (.tableswitch 112 0 4 #[36, 45, 64, 83, 103], 36) := by decide +kernel
theorem dX12_line_68 : decode cX12_line 68 = .ok (.aload_n 0, 1) := by decide +kernel
theorem dX12_line_69 : decode cX12_line 69 = .ok (.getfield 9, 3) := by decide +kernel
theorem dX12_line_72 : decode cX12_line 72 = .ok (.iload_n 3, 1) := by decide +kernel
theorem dX12_line_73 : decode cX12_line 73 = .ok (.iconst 0, 1) := by decide +kernel
theorem dX12_line_74 : decode cX12_line 74 = .ok (.iadd, 1) := by decide +kernel
theorem dX12_line_75 : decode cX12_line 75 = .ok (.iaload, 1) := by decide +kernel
theorem dX12_line_76 : decode cX12_line 76 = .ok (.ireturn, 1) := by decide +kernel
theorem dX12_line_77 : decode cX12_line 77 = .ok (.aload_n 0, 1) := by decide +kernel
theorem dX12_line_78 : decode cX12_line 78 = .ok (.getfield 9, 3) := by decide +kernel
theorem dX12_line_81 : decode cX12_line 81 = .ok (.aload_n 0, 1) := by decide +kernel
theorem dX12_line_82 : decode cX12_line 82 = .ok (.getfield 9, 3) := by decide +kernel
theorem dX12_line_85 : decode cX12_line 85 = .ok (.iload_n 3, 1) := by decide +kernel
theorem dX12_line_86 : decode cX12_line 86 = .ok (.iconst 0, 1) := by decide +kernel
theorem dX12_line_87 : decode cX12_line 87 = .ok (.iadd, 1) := by decide +kernel
theorem dX12_line_88 : decode cX12_line 88 = .ok (.iaload, 1) := by decide +kernel
theorem dX12_line_89 : decode cX12_line 89 = .ok (.invokestatic 220, 3) := by decide +kernel
theorem dX12_line_92 : decode cX12_line 92 = .ok (.iconst 1, 1) := by decide +kernel
theorem dX12_line_93 : decode cX12_line 93 = .ok (.iadd, 1) := by decide +kernel
theorem dX12_line_94 : decode cX12_line 94 = .ok (.iaload, 1) := by decide +kernel
theorem dX12_line_95 : decode cX12_line 95 = .ok (.ireturn, 1) := by decide +kernel
theorem dX12_line_96 : decode cX12_line 96 = .ok (.iconst 4, 1) := by decide +kernel
theorem dX12_line_97 : decode cX12_line 97 = .ok (.aload_n 0, 1) := by decide +kernel
theorem dX12_line_98 : decode cX12_line 98 = .ok (.getfield 9, 3) := by decide +kernel
theorem dX12_line_101 : decode cX12_line 101 = .ok (.iload_n 3, 1) := by decide +kernel
theorem dX12_line_102 : decode cX12_line 102 = .ok (.iconst 0, 1) := by decide +kernel
theorem dX12_line_103 : decode cX12_line 103 = .ok (.iadd, 1) := by decide +kernel
theorem dX12_line_104 : decode cX12_line 104 = .ok (.iaload, 1) := by decide +kernel
theorem dX12_line_105 : decode cX12_line 105 = .ok (.imul, 1) := by decide +kernel
theorem dX12_line_106 : decode cX12_line 106 = .ok (.aload_n 0, 1) := by decide +kernel
theorem dX12_line_107 : decode cX12_line 107 = .ok (.getfield 9, 3) := by decide +kernel
theorem dX12_line_110 : decode cX12_line 110 = .ok (.bipush 10, 2) := by decide +kernel
theorem dX12_line_112 : decode cX12_line 112 = .ok (.iaload, 1) := by decide +kernel
theorem dX12_line_113 : decode cX12_line 113 = .ok (.iadd, 1) := by decide +kernel
theorem dX12_line_114 : decode cX12_line 114 = .ok (.ireturn, 1) := by decide +kernel
theorem dX12_line_115 : decode cX12_line 115 = .ok (.aload_n 0, 1) := by decide +kernel
theorem dX12_line_116 : decode cX12_line 116 = .ok (.getfield 9, 3) := by decide +kernel
theorem dX12_line_119 : decode cX12_line 119 = .ok (.iload_n 3, 1) := by decide +kernel
theorem dX12_line_120 : decode cX12_line 120 = .ok (.iconst 1, 1) := by decide +kernel
theorem dX12_line_121 : decode cX12_line 121 = .ok (.iadd, 1) := by decide +kernel
theorem dX12_line_122 : decode cX12_line 122 = .ok (.iaload, 1) := by decide +kernel
theorem dX12_line_123 : decode cX12_line 123 = .ok (.aload_n 0, 1) := by decide +kernel
theorem dX12_line_124 : decode cX12_line 124 = .ok (.getfield 9, 3) := by decide +kernel
theorem dX12_line_127 : decode cX12_line 127 = .ok (.iload_n 3, 1) := by decide +kernel
theorem dX12_line_128 : decode cX12_line 128 = .ok (.iconst 2, 1) := by decide +kernel
theorem dX12_line_129 : decode cX12_line 129 = .ok (.iadd, 1) := by decide +kernel
theorem dX12_line_130 : decode cX12_line 130 = .ok (.iaload, 1) := by decide +kernel
theorem dX12_line_131 : decode cX12_line 131 = .ok (.invokestatic 234, 3) := by decide +kernel
theorem dX12_line_134 : decode cX12_line 134 = .ok (.ireturn, 1) := by decide +kernel
theorem dX12_line_135 : decode cX12_line 135 = .ok (.aload_n 0, 1) := by decide +kernel
theorem dX12_line_136 : decode cX12_line 136 = .ok (.getfield 9, 3) := by decide +kernel
theorem dX12_line_139 : decode cX12_line 139 = .ok (.iload_n 3, 1) := by decide +kernel
theorem dX12_line_140 : decode cX12_line 140 = .ok (.iconst 3, 1) := by decide +kernel
theorem dX12_line_141 : decode cX12_line 141 = .ok (.iadd, 1) := by decide +kernel
theorem dX12_line_142 : decode cX12_line 142 = .ok (.iaload, 1) := by decide +kernel
theorem dX12_line_143 : decode cX12_line 143 = .ok (.ireturn, 1) := by decide +kernel
theorem dX12_line_144 : decode cX12_line 144 = .ok (.iconst (-1), 1) := by decide +kernel
theorem dX12_line_145 : decode cX12_line 145 = .ok (.ireturn, 1) := by decide +kernel
theorem dX12_packet_0 : decode cX12_packet 0 = .ok (.aload_n 0, 1) := by decide +kernel
theorem dX12_packet_1 : decode cX12_packet 1 = .ok (.iconst 0, 1) := by decide +kernel
theorem dX12_packet_2 : decode cX12_packet 2 = .ok (.putfield 58, 3) := by decide +kernel
theorem dX12_packet_5 : decode cX12_packet 5 = .ok (.iload_n 1, 1) := by decide +kernel
theorem dX12_packet_6 : decode cX12_packet 6 = .ok (.i2l, 1) := by decide +kernel
theorem dX12_packet_7 : decode cX12_packet 7 = .ok (.lconst 0, 1) := by decide +kernel
theorem dX12_packet_8 : decode cX12_packet 8 = .ok (.ldc2_w 356, 3) := by decide +kernel
theorem dX12_packet_11 : decode cX12_packet 11 = .ok (.invokestatic 68, 3) := by decide +kernel
theorem dX12_packet_14 : decode cX12_packet 14 = .ok (.ifCond .eq 15, 3) := by decide +kernel
theorem dX12_packet_17 : decode cX12_packet 17 = .ok (.iload_n 2, 1) := by decide +kernel
theorem dX12_packet_18 : decode cX12_packet 18 = .ok (.i2l, 1) := by decide +kernel
theorem dX12_packet_19 : decode cX12_packet 19 = .ok (.lconst 0, 1) := by decide +kernel
theorem dX12_packet_20 : decode cX12_packet 20 = .ok (.ldc2_w 332, 3) := by decide +kernel
theorem dX12_packet_23 : decode cX12_packet 23 = .ok (.invokestatic 68, 3) := by decide +kernel
theorem dX12_packet_26 : decode cX12_packet 26 = .ok (.ifCond .ne 5, 3) := by decide +kernel
theorem dX12_packet_29 : decode cX12_packet 29 = .ok (.iconst (-1), 1) := by decide +kernel
theorem dX12_packet_30 : decode cX12_packet 30 = .ok (.ireturn, 1) := by decide +kernel
theorem dX12_packet_31 : decode cX12_packet 31 = .ok (.iload_n 1, 1) := by decide +kernel
theorem dX12_packet_32 : decode cX12_packet 32 = .ok (.invokestatic 220, 3) := by decide +kernel
theorem dX12_packet_35 : decode cX12_packet 35 = .ok (.istore_n 3, 1) := by decide +kernel
theorem dX12_packet_36 : decode cX12_packet 36 = .ok (.iload_n 2, 1) := by decide +kernel
theorem dX12_packet_37 : decode cX12_packet 37 = .ok (.iconst 3, 1) := by decide +kernel
theorem dX12_packet_38 : decode cX12_packet 38 = .ok (.if_icmp .ne 19, 3) := by decide +kernel
theorem dX12_packet_41 : decode cX12_packet 41 = .ok (.aload_n 0, 1) := by decide +kernel
theorem dX12_packet_42 : decode cX12_packet 42 = .ok (.getfield 9, 3) := by decide +kernel
theorem dX12_packet_45 : decode cX12_packet 45 = .ok (.iload_n 3, 1) := by decide +kernel
theorem dX12_packet_46 : decode cX12_packet 46 = .ok (.iconst 0, 1) := by decide +kernel
theorem dX12_packet_47 : decode cX12_packet 47 = .ok (.iadd, 1) := by decide +kernel
theorem dX12_packet_48 : decode cX12_packet 48 = .ok (.iaload, 1) := by decide +kernel
theorem dX12_packet_49 : decode cX12_packet 49 = .ok (.iconst 2, 1) := by decide +kernel
theorem dX12_packet_50 : decode cX12_packet 50 = .ok (.if_icmp .eq 7, 3) := by decide +kernel
theorem dX12_packet_53 : decode cX12_packet 53 = .ok (.iconst (-1), 1) := by decide +kernel
theorem dX12_packet_54 : decode cX12_packet 54 = .ok (.goto 11, 3) := by decide +kernel
theorem dX12_packet_57 : decode cX12_packet 57 = .ok (.aload_n 0, 1) := by decide +kernel
theorem dX12_packet_58 : decode cX12_packet 58 = .ok (.getfield 9, 3) := by decide +kernel
theorem dX12_packet_61 : decode cX12_packet 61 = .ok (.iload_n 3, 1) := by decide +kernel
theorem dX12_packet_62 : decode cX12_packet 62 = .ok (.iload_n 2, 1) := by decide +kernel
theorem dX12_packet_63 : decode cX12_packet 63 = .ok (.iadd, 1) := by decide +kernel
theorem dX12_packet_64 : decode cX12_packet 64 = .ok (.iaload, 1) := by decide +kernel
theorem dX12_packet_65 : decode cX12_packet 65 = .ok (.ireturn, 1) := by decide +kernel
theorem dX12_played__0 : decode cX12_played_ 0 = .ok (.aload_n 0, 1) := by decide +kernel
theorem dX12_played__1 : decode cX12_played_ 1 = .ok (.iconst 0, 1) := by decide +kernel
theorem dX12_played__2 : decode cX12_played_ 2 = .ok (.putfield 58, 3) := by decide +kernel
theorem dX12_played__5 : decode cX12_played_ 5 = .ok (.iload_n 1, 1) := by decide +kernel
theorem dX12_played__6 : decode cX12_played_ 6 = .ok (.i2l, 1) := by decide +kernel
theorem dX12_played__7 : decode cX12_played_ 7 = .ok (.lconst 0, 1) := by decide +kernel
theorem dX12_played__8 : decode cX12_played_ 8 = .ok (.aload_n 0, 1) := by decide +kernel
theorem dX12_played__9 : decode cX12_played_ 9 = .ok (.getfield 9, 3) := by decide +kernel
theorem dX12_played__12 : decode cX12_played_ 12 = .ok (.bipush 52, 2) := by decide +kernel
theorem dX12_played__14 : decode cX12_played_ 14 = .ok (.iaload, 1) := by decide +kernel
theorem dX12_played__15 : decode cX12_played_ 15 = .ok (.i2l, 1) := by decide +kernel
theorem dX12_played__16 : decode cX12_played_ 16 = .ok (.lconst 1, 1) := by decide +kernel
theorem dX12_played__17 : decode cX12_played_ 17 = .ok (.lsub, 1) := by decide +kernel
theorem dX12_played__18 : decode cX12_played_ 18 = .ok (.invokestatic 68, 3) := by decide +kernel
theorem dX12_played__21 : decode cX12_played_ 21 = .ok (.ifCond .eq 43, 3) := by decide +kernel
theorem dX12_played__24 : decode cX12_played_ 24 = .ok (.iload_n 2, 1) := by decide +kernel
theorem dX12_played__25 : decode cX12_played_ 25 = .ok (.i2l, 1) := by decide +kernel
theorem dX12_played__26 : decode cX12_played_ 26 = .ok (.lconst 0, 1) := by decide +kernel
theorem dX12_played__27 : decode cX12_played_ 27 = .ok (.ldc2_w 96, 3) := by decide +kernel
theorem dX12_played__30 : decode cX12_played_ 30 = .ok (.invokestatic 68, 3) := by decide +kernel
theorem dX12_played__33 : decode cX12_played_ 33 = .ok (.ifCond .eq 31, 3) := by decide +kernel
theorem dX12_played__36 : decode cX12_played_ 36 = .ok (.aload_n 0, 1) := by decide +kernel
theorem dX12_played__37 : decode cX12_played_ 37 = .ok (.getfield 9, 3) := by decide +kernel
theorem dX12_played__40 : decode cX12_played_ 40 = .ok (.sipush 3257, 3) := by decide +kernel
theorem dX12_played__43 : decode cX12_played_ 43 = .ok (.bipush 7, 2) := by decide +kernel
theorem dX12_played__45 : decode cX12_played_ 45 = .ok (.aload_n 0, 1) := by decide +kernel
theorem dX12_played__46 : decode cX12_played_ 46 = .ok (.getfield 9, 3) := by decide +kernel
theorem dX12_played__49 : decode cX12_played_ 49 = .ok (.bipush 52, 2) := by decide +kernel
theorem dX12_played__51 : decode cX12_played_ 51 = .ok (.iaload, 1) := by decide +kernel
theorem dX12_played__52 : decode cX12_played_ 52 = .ok (.iconst 1, 1) := by decide +kernel
theorem dX12_played__53 : decode cX12_played_ 53 = .ok (.isub, 1) := by decide +kernel
theorem dX12_played__54 : decode cX12_played_ 54 = .ok (.iload_n 1, 1) := by decide +kernel
theorem dX12_played__55 : decode cX12_played_ 55 = .ok (.isub, 1) := by decide +kernel
theorem dX12_played__56 : decode cX12_played_ 56 = .ok (.imul, 1) := by decide +kernel
theorem dX12_played__57 : decode cX12_played_ 57 = .ok (.iadd, 1) := by decide +kernel
theorem dX12_played__58 : decode cX12_played_ 58 = .ok (.iload_n 2, 1) := by decide +kernel
theorem dX12_played__59 : decode cX12_played_ 59 = .ok (.iadd, 1) := by decide +kernel
theorem dX12_played__60 : decode cX12_played_ 60 = .ok (.iaload, 1) := by decide +kernel
theorem dX12_played__61 : decode cX12_played_ 61 = .ok (.goto 5, 3) := by decide +kernel
theorem dX12_played__64 : decode cX12_played_ 64 = .ok (.ldc 136, 2) := by decide +kernel
theorem dX12_played__66 : decode cX12_played_ 66 = .ok (.ireturn, 1) := by decide +kernel
theorem dX12_late_0 : decode cX12_late 0 = .ok (.aload_n 0, 1) := by decide +kernel
theorem dX12_late_1 : decode cX12_late 1 = .ok (.iconst 0, 1) := by decide +kernel
theorem dX12_late_2 : decode cX12_late 2 = .ok (.putfield 58, 3) := by decide +kernel
theorem dX12_late_5 : decode cX12_late 5 = .ok (.aload_n 0, 1) := by decide +kernel
theorem dX12_late_6 : decode cX12_late 6 = .ok (.getfield 9, 3) := by decide +kernel
theorem dX12_late_9 : decode cX12_late 9 = .ok (.bipush 52, 2) := by decide +kernel
theorem dX12_late_11 : decode cX12_late 11 = .ok (.iaload, 1) := by decide +kernel
theorem dX12_late_12 : decode cX12_late 12 = .ok (.ifCond .eq 15, 3) := by decide +kernel
theorem dX12_late_15 : decode cX12_late 15 = .ok (.iload_n 1, 1) := by decide +kernel
theorem dX12_late_16 : decode cX12_late 16 = .ok (.i2l, 1) := by decide +kernel
theorem dX12_late_17 : decode cX12_late 17 = .ok (.lconst 0, 1) := by decide +kernel
theorem dX12_late_18 : decode cX12_late 18 = .ok (.ldc2_w 332, 3) := by decide +kernel
theorem dX12_late_21 : decode cX12_late 21 = .ok (.invokestatic 68, 3) := by decide +kernel
theorem dX12_late_24 : decode cX12_late 24 = .ok (.ifCond .ne 6, 3) := by decide +kernel
theorem dX12_late_27 : decode cX12_late 27 = .ok (.ldc 136, 2) := by decide +kernel
theorem dX12_late_29 : decode cX12_late 29 = .ok (.ireturn, 1) := by decide +kernel
theorem dX12_late_30 : decode cX12_late 30 = .ok (.iconst 0, 1) := by decide +kernel
theorem dX12_late_31 : decode cX12_late 31 = .ok (.istore_n 2, 1) := by decide +kernel
theorem dX12_late_32 : decode cX12_late 32 = .ok (.iconst 0, 1) := by decide +kernel
theorem dX12_late_33 : decode cX12_late 33 = .ok (.istore_n 3, 1) := by decide +kernel
theorem dX12_late_34 : decode cX12_late 34 = .ok (.iconst 0, 1) := by decide +kernel
theorem dX12_late_35 : decode cX12_late 35 = .ok (.istore 4, 2) := by decide +kernel
theorem dX12_late_37 : decode cX12_late 37 = .ok (.iconst 0, 1) := by decide +kernel
theorem dX12_late_38 : decode cX12_late 38 = .ok (.istore 5, 2) := by decide +kernel
theorem dX12_late_40 : decode cX12_late 40 = .ok (.iconst 0, 1) := by decide +kernel
theorem dX12_late_41 : decode cX12_late 41 = .ok (.istore 6, 2) := by decide +kernel
theorem dX12_late_43 : decode cX12_late 43 = .ok (.iconst 0, 1) := by decide +kernel
theorem dX12_late_44 : decode cX12_late 44 = .ok (.istore 7, 2) := by decide +kernel
theorem dX12_late_46 : decode cX12_late 46 = .ok (.iload 7, 2) := by decide +kernel
theorem dX12_late_48 : decode cX12_late 48 = .ok (.aload_n 0, 1) := by decide +kernel
theorem dX12_late_49 : decode cX12_late 49 = .ok (.getfield 9, 3) := by decide +kernel
theorem dX12_late_52 : decode cX12_late 52 = .ok (.bipush 52, 2) := by decide +kernel
theorem dX12_late_54 : decode cX12_late 54 = .ok (.iaload, 1) := by decide +kernel
theorem dX12_late_55 : decode cX12_late 55 = .ok (.if_icmp .ge 127, 3) := by decide +kernel
theorem dX12_late_58 : decode cX12_late 58 = .ok (.sipush 3257, 3) := by decide +kernel
theorem dX12_late_61 : decode cX12_late 61 = .ok (.bipush 7, 2) := by decide +kernel
theorem dX12_late_63 : decode cX12_late 63 = .ok (.iload 7, 2) := by decide +kernel
theorem dX12_late_65 : decode cX12_late 65 = .ok (.imul, 1) := by decide +kernel
theorem dX12_late_66 : decode cX12_late 66 = .ok (.iadd, 1) := by decide +kernel
theorem dX12_late_67 : decode cX12_late 67 = .ok (.istore 8, 2) := by decide +kernel
theorem dX12_late_69 : decode cX12_late 69 = .ok (.aload_n 0, 1) := by decide +kernel
theorem dX12_late_70 : decode cX12_late 70 = .ok (.getfield 9, 3) := by decide +kernel
theorem dX12_late_73 : decode cX12_late 73 = .ok (.iload 8, 2) := by decide +kernel
theorem dX12_late_75 : decode cX12_late 75 = .ok (.bipush 6, 2) := by decide +kernel
theorem dX12_late_77 : decode cX12_late 77 = .ok (.iadd, 1) := by decide +kernel
theorem dX12_late_78 : decode cX12_late 78 = .ok (.iaload, 1) := by decide +kernel
theorem dX12_late_79 : decode cX12_late 79 = .ok (.iconst 4, 1) := by decide +kernel
theorem dX12_late_80 : decode cX12_late 80 = .ok (.aload_n 0, 1) := by decide +kernel
theorem dX12_late_81 : decode cX12_late 81 = .ok (.getfield 9, 3) := by decide +kernel
theorem dX12_late_84 : decode cX12_late 84 = .ok (.iload 8, 2) := by decide +kernel
theorem dX12_late_86 : decode cX12_late 86 = .ok (.iaload, 1) := by decide +kernel
theorem dX12_late_87 : decode cX12_late 87 = .ok (.imul, 1) := by decide +kernel
theorem dX12_late_88 : decode cX12_late 88 = .ok (.isub, 1) := by decide +kernel
theorem dX12_late_89 : decode cX12_late 89 = .ok (.istore 9, 2) := by decide +kernel
theorem dX12_late_91 : decode cX12_late 91 = .ok (.iload 7, 2) := by decide +kernel
theorem dX12_late_93 : decode cX12_late 93 = .ok (.ifCond .eq 9, 3) := by decide +kernel
theorem dX12_late_96 : decode cX12_late 96 = .ok (.iload 9, 2) := by decide +kernel
theorem dX12_late_98 : decode cX12_late 98 = .ok (.iload_n 2, 1) := by decide +kernel
theorem dX12_late_99 : decode cX12_late 99 = .ok (.if_icmp .ge 8, 3) := by decide +kernel
theorem dX12_late_102 : decode cX12_late 102 = .ok (.iload 9, 2) := by decide +kernel
theorem dX12_late_104 : decode cX12_late 104 = .ok (.goto 4, 3) := by decide +kernel
theorem dX12_late_107 : decode cX12_late 107 = .ok (.iload_n 2, 1) := by decide +kernel
theorem dX12_late_108 : decode cX12_late 108 = .ok (.istore_n 2, 1) := by decide +kernel
theorem dX12_late_109 : decode cX12_late 109 = .ok (.iload 7, 2) := by decide +kernel
theorem dX12_late_111 : decode cX12_late 111 = .ok (.ifCond .eq 9, 3) := by decide +kernel
theorem dX12_late_114 : decode cX12_late 114 = .ok (.iload 9, 2) := by decide +kernel
theorem dX12_late_116 : decode cX12_late 116 = .ok (.iload_n 3, 1) := by decide +kernel
theorem dX12_late_117 : decode cX12_late 117 = .ok (.if_icmp .le 8, 3) := by decide +kernel
theorem dX12_late_120 : decode cX12_late 120 = .ok (.iload 9, 2) := by decide +kernel
theorem dX12_late_122 : decode cX12_late 122 = .ok (.goto 4, 3) := by decide +kernel
theorem dX12_late_125 : decode cX12_late 125 = .ok (.iload_n 3, 1) := by decide +kernel
theorem dX12_late_126 : decode cX12_late 126 = .ok (.istore_n 3, 1) := by decide +kernel
theorem dX12_late_127 : decode cX12_late 127 = .ok (.iload 4, 2) := by decide +kernel
theorem dX12_late_129 : decode cX12_late 129 = .ok (.iload 7, 2) := by decide +kernel
theorem dX12_late_131 : decode cX12_late 131 = .ok (.ifCond .ne 7, 3) := by decide +kernel
theorem dX12_late_134 : decode cX12_late 134 = .ok (.iconst 0, 1) := by decide +kernel
theorem dX12_late_135 : decode cX12_late 135 = .ok (.goto 11, 3) := by decide +kernel
theorem dX12_late_138 : decode cX12_late 138 = .ok (.iload 9, 2) := by decide +kernel
theorem dX12_late_140 : decode cX12_late 140 = .ok (.iload 6, 2) := by decide +kernel
theorem dX12_late_142 : decode cX12_late 142 = .ok (.isub, 1) := by decide +kernel
theorem dX12_late_143 : decode cX12_late 143 = .ok (.invokestatic 173, 3) := by decide +kernel
theorem dX12_late_146 : decode cX12_late 146 = .ok (.iadd, 1) := by decide +kernel
theorem dX12_late_147 : decode cX12_late 147 = .ok (.istore 4, 2) := by decide +kernel
theorem dX12_late_149 : decode cX12_late 149 = .ok (.iload 5, 2) := by decide +kernel
theorem dX12_late_151 : decode cX12_late 151 = .ok (.aload_n 0, 1) := by decide +kernel
theorem dX12_late_152 : decode cX12_late 152 = .ok (.getfield 9, 3) := by decide +kernel
theorem dX12_late_155 : decode cX12_late 155 = .ok (.iload 8, 2) := by decide +kernel
theorem dX12_late_157 : decode cX12_late 157 = .ok (.iconst 1, 1) := by decide +kernel
theorem dX12_late_158 : decode cX12_late 158 = .ok (.iadd, 1) := by decide +kernel
theorem dX12_late_159 : decode cX12_late 159 = .ok (.iaload, 1) := by decide +kernel
theorem dX12_late_160 : decode cX12_late 160 = .ok (.iconst 2, 1) := by decide +kernel
theorem dX12_late_161 : decode cX12_late 161 = .ok (.if_icmp .ne 7, 3) := by decide +kernel
theorem dX12_late_164 : decode cX12_late 164 = .ok (.iconst 1, 1) := by decide +kernel
theorem dX12_late_165 : decode cX12_late 165 = .ok (.goto 4, 3) := by decide +kernel
theorem dX12_late_168 : decode cX12_late 168 = .ok (.iconst 0, 1) := by decide +kernel
theorem dX12_late_169 : decode cX12_late 169 = .ok (.iadd, 1) := by decide +kernel
theorem dX12_late_170 : decode cX12_late 170 = .ok (.istore 5, 2) := by decide +kernel
theorem dX12_late_172 : decode cX12_late 172 = .ok (.iload 9, 2) := by decide +kernel
theorem dX12_late_174 : decode cX12_late 174 = .ok (.istore 6, 2) := by decide +kernel
theorem dX12_late_176 : decode cX12_late 176 = .ok (.iinc 7 1, 3) := by decide +kernel
theorem dX12_late_179 : decode cX12_late 179 = .ok (.goto (-133), 3) := by decide +kernel
theorem dX12_late_182 : decode cX12_late 182 = .ok (.iload_n 1, 1) := by decide +kernel
theorem dX12_late_183 : decode cX12_late 183 = .ok (.ifCond .ne 7, 3) := by decide +kernel
theorem dX12_late_186 : decode cX12_late 186 = .ok (.iload_n 2, 1) := by decide +kernel
theorem dX12_late_187 : decode cX12_late 187 = .ok (.goto 24, 3) := by decide +kernel
theorem dX12_late_190 : decode cX12_late 190 = .ok (.iload_n 1, 1) := by decide +kernel
theorem dX12_late_191 : decode cX12_late 191 = .ok (.iconst 1, 1) := by decide +kernel
theorem dX12_late_192 : decode cX12_late 192 = .ok (.if_icmp .ne 7, 3) := by decide +kernel
theorem dX12_late_195 : decode cX12_late 195 = .ok (.iload_n 3, 1) := by decide +kernel
theorem dX12_late_196 : decode cX12_late 196 = .ok (.goto 15, 3) := by decide +kernel
theorem dX12_late_199 : decode cX12_late 199 = .ok (.iload_n 1, 1) := by decide +kernel
theorem dX12_late_200 : decode cX12_late 200 = .ok (.iconst 2, 1) := by decide +kernel
theorem dX12_late_201 : decode cX12_late 201 = .ok (.if_icmp .ne 8, 3) := by decide +kernel
theorem dX12_late_204 : decode cX12_late 204 = .ok (.iload 4, 2) := by decide +kernel
theorem dX12_late_206 : decode cX12_late 206 = .ok (.goto 5, 3) := by decide +kernel
theorem dX12_late_209 : decode cX12_late 209 = .ok (.iload 5, 2) := by decide +kernel
theorem dX12_late_211 : decode cX12_late 211 = .ok (.ireturn, 1) := by decide +kernel
theorem dX12_delays_0 : decode cX12_delays 0 = .ok (.aload_n 0, 1) := by decide +kernel
theorem dX12_delays_1 : decode cX12_delays 1 = .ok (.iconst 0, 1) := by decide +kernel
theorem dX12_delays_2 : decode cX12_delays 2 = .ok (.putfield 58, 3) := by decide +kernel
theorem dX12_delays_5 : decode cX12_delays 5 = .ok (.iload_n 1, 1) := by decide +kernel
theorem dX12_delays_6 : decode cX12_delays 6 = .ok (.i2l, 1) := by decide +kernel
theorem dX12_delays_7 : decode cX12_delays 7 = .ok (.lconst 0, 1) := by decide +kernel
theorem dX12_delays_8 : decode cX12_delays 8 = .ok (.ldc2_w 248, 3) := by decide +kernel
theorem dX12_delays_11 : decode cX12_delays 11 = .ok (.invokestatic 68, 3) := by decide +kernel
theorem dX12_delays_14 : decode cX12_delays 14 = .ok (.ifCond .eq 13, 3) := by decide +kernel
theorem dX12_delays_17 : decode cX12_delays 17 = .ok (.iload_n 2, 1) := by decide +kernel
theorem dX12_delays_18 : decode cX12_delays 18 = .ok (.i2l, 1) := by decide +kernel
theorem dX12_delays_19 : decode cX12_delays 19 = .ok (.lconst 0, 1) := by decide +kernel
theorem dX12_delays_20 : decode cX12_delays 20 = .ok (.lconst 1, 1) := by decide +kernel
theorem dX12_delays_21 : decode cX12_delays 21 = .ok (.invokestatic 68, 3) := by decide +kernel
theorem dX12_delays_24 : decode cX12_delays 24 = .ok (.ifCond .ne 5, 3) := by decide +kernel
theorem dX12_delays_27 : decode cX12_delays 27 = .ok (.iconst (-1), 1) := by decide +kernel
theorem dX12_delays_28 : decode cX12_delays 28 = .ok (.ireturn, 1) := by decide +kernel
theorem dX12_delays_29 : decode cX12_delays 29 = .ok (.iconst 0, 1) := by decide +kernel
theorem dX12_delays_30 : decode cX12_delays 30 = .ok (.istore_n 3, 1) := by decide +kernel
theorem dX12_delays_31 : decode cX12_delays 31 = .ok (.iload_n 1, 1) := by decide +kernel
theorem dX12_delays_32 : decode cX12_delays 32 = .ok (.iconst 1, 1) := by decide +kernel
theorem dX12_delays_33 : decode cX12_delays 33 = .ok (.iadd, 1) := by decide +kernel
theorem dX12_delays_34 : decode cX12_delays 34 = .ok (.istore 4, 2) := by decide +kernel
theorem dX12_delays_36 : decode cX12_delays 36 = .ok (.iload 4, 2) := by decide +kernel
theorem dX12_delays_38 : decode cX12_delays 38 = .ok (.bipush 16, 2) := by decide +kernel
theorem dX12_delays_40 : decode cX12_delays 40 = .ok (.if_icmp .ge 23, 3) := by decide +kernel
theorem dX12_delays_43 : decode cX12_delays 43 = .ok (.iload_n 3, 1) := by decide +kernel
theorem dX12_delays_44 : decode cX12_delays 44 = .ok (.aload_n 0, 1) := by decide +kernel
theorem dX12_delays_45 : decode cX12_delays 45 = .ok (.getfield 9, 3) := by decide +kernel
theorem dX12_delays_48 : decode cX12_delays 48 = .ok (.sipush 3369, 3) := by decide +kernel
theorem dX12_delays_51 : decode cX12_delays 51 = .ok (.iload 4, 2) := by decide +kernel
theorem dX12_delays_53 : decode cX12_delays 53 = .ok (.iadd, 1) := by decide +kernel
theorem dX12_delays_54 : decode cX12_delays 54 = .ok (.iaload, 1) := by decide +kernel
theorem dX12_delays_55 : decode cX12_delays 55 = .ok (.iadd, 1) := by decide +kernel
theorem dX12_delays_56 : decode cX12_delays 56 = .ok (.istore_n 3, 1) := by decide +kernel
theorem dX12_delays_57 : decode cX12_delays 57 = .ok (.iinc 4 1, 3) := by decide +kernel
theorem dX12_delays_60 : decode cX12_delays 60 = .ok (.goto (-24), 3) := by decide +kernel
theorem dX12_delays_63 : decode cX12_delays 63 = .ok (.iload_n 2, 1) := by decide +kernel
theorem dX12_delays_64 : decode cX12_delays 64 = .ok (.ifCond .ne 16, 3) := by decide +kernel
theorem dX12_delays_67 : decode cX12_delays 67 = .ok (.aload_n 0, 1) := by decide +kernel
theorem dX12_delays_68 : decode cX12_delays 68 = .ok (.getfield 9, 3) := by decide +kernel
theorem dX12_delays_71 : decode cX12_delays 71 = .ok (.sipush 3369, 3) := by decide +kernel
theorem dX12_delays_74 : decode cX12_delays 74 = .ok (.iload_n 1, 1) := by decide +kernel
theorem dX12_delays_75 : decode cX12_delays 75 = .ok (.iadd, 1) := by decide +kernel
theorem dX12_delays_76 : decode cX12_delays 76 = .ok (.iaload, 1) := by decide +kernel
theorem dX12_delays_77 : decode cX12_delays 77 = .ok (.goto 4, 3) := by decide +kernel
theorem dX12_delays_80 : decode cX12_delays 80 = .ok (.iload_n 3, 1) := by decide +kernel
theorem dX12_delays_81 : decode cX12_delays 81 = .ok (.ireturn, 1) := by decide +kernel
theorem dX12_tells_0 : decode cX12_tells 0 = .ok (.iload_n 1, 1) := by decide +kernel
theorem dX12_tells_1 : decode cX12_tells 1 = .ok (.tableswitch 368 0 36 #[163, 171, 179, 187, 195, 203, 211, 216, 224, 232, 240, 248, 256, 264, 272, 280, 288, 296, 304, 312, 368, 368, 368, 368, 368, 368, 368, 368, 368, 368, 368, 320, 328, 336, 344, 352, 360], 163) := by decide +kernel
theorem dX12_tells_164 : decode cX12_tells 164 = .ok (.aload_n 0, 1) := by decide +kernel
theorem dX12_tells_165 : decode cX12_tells 165 = .ok (.getfield 9, 3) := by decide +kernel
theorem dX12_tells_168 : decode cX12_tells 168 = .ok (.bipush 25, 2) := by decide +kernel
theorem dX12_tells_170 : decode cX12_tells 170 = .ok (.iaload, 1) := by decide +kernel
theorem dX12_tells_171 : decode cX12_tells 171 = .ok (.ireturn, 1) := by decide +kernel
theorem dX12_tells_172 : decode cX12_tells 172 = .ok (.aload_n 0, 1) := by decide +kernel
theorem dX12_tells_173 : decode cX12_tells 173 = .ok (.getfield 9, 3) := by decide +kernel
theorem dX12_tells_176 : decode cX12_tells 176 = .ok (.bipush 26, 2) := by decide +kernel
theorem dX12_tells_178 : decode cX12_tells 178 = .ok (.iaload, 1) := by decide +kernel
theorem dX12_tells_179 : decode cX12_tells 179 = .ok (.ireturn, 1) := by decide +kernel
theorem dX12_tells_180 : decode cX12_tells 180 = .ok (.aload_n 0, 1) := by decide +kernel
theorem dX12_tells_181 : decode cX12_tells 181 = .ok (.getfield 9, 3) := by decide +kernel
theorem dX12_tells_184 : decode cX12_tells 184 = .ok (.bipush 27, 2) := by decide +kernel
theorem dX12_tells_186 : decode cX12_tells 186 = .ok (.iaload, 1) := by decide +kernel
theorem dX12_tells_187 : decode cX12_tells 187 = .ok (.ireturn, 1) := by decide +kernel
theorem dX12_tells_188 : decode cX12_tells 188 = .ok (.aload_n 0, 1) := by decide +kernel
theorem dX12_tells_189 : decode cX12_tells 189 = .ok (.getfield 9, 3) := by decide +kernel
theorem dX12_tells_192 : decode cX12_tells 192 = .ok (.bipush 28, 2) := by decide +kernel
theorem dX12_tells_194 : decode cX12_tells 194 = .ok (.iaload, 1) := by decide +kernel
theorem dX12_tells_195 : decode cX12_tells 195 = .ok (.ireturn, 1) := by decide +kernel
theorem dX12_tells_196 : decode cX12_tells 196 = .ok (.aload_n 0, 1) := by decide +kernel
theorem dX12_tells_197 : decode cX12_tells 197 = .ok (.getfield 9, 3) := by decide +kernel
theorem dX12_tells_200 : decode cX12_tells 200 = .ok (.bipush 29, 2) := by decide +kernel
theorem dX12_tells_202 : decode cX12_tells 202 = .ok (.iaload, 1) := by decide +kernel
theorem dX12_tells_203 : decode cX12_tells 203 = .ok (.ireturn, 1) := by decide +kernel
theorem dX12_tells_204 : decode cX12_tells 204 = .ok (.aload_n 0, 1) := by decide +kernel
theorem dX12_tells_205 : decode cX12_tells 205 = .ok (.getfield 9, 3) := by decide +kernel
theorem dX12_tells_208 : decode cX12_tells 208 = .ok (.bipush 51, 2) := by decide +kernel
theorem dX12_tells_210 : decode cX12_tells 210 = .ok (.iaload, 1) := by decide +kernel
theorem dX12_tells_211 : decode cX12_tells 211 = .ok (.ireturn, 1) := by decide +kernel
theorem dX12_tells_212 : decode cX12_tells 212 = .ok (.aload_n 0, 1) := by decide +kernel
theorem dX12_tells_213 : decode cX12_tells 213 = .ok (.invokevirtual 240, 3) := by decide +kernel
theorem dX12_tells_216 : decode cX12_tells 216 = .ok (.ireturn, 1) := by decide +kernel
theorem dX12_tells_217 : decode cX12_tells 217 = .ok (.aload_n 0, 1) := by decide +kernel
theorem dX12_tells_218 : decode cX12_tells 218 = .ok (.getfield 9, 3) := by decide +kernel
theorem dX12_tells_221 : decode cX12_tells 221 = .ok (.bipush 30, 2) := by decide +kernel
theorem dX12_tells_223 : decode cX12_tells 223 = .ok (.iaload, 1) := by decide +kernel
theorem dX12_tells_224 : decode cX12_tells 224 = .ok (.ireturn, 1) := by decide +kernel
theorem dX12_tells_225 : decode cX12_tells 225 = .ok (.aload_n 0, 1) := by decide +kernel
theorem dX12_tells_226 : decode cX12_tells 226 = .ok (.getfield 9, 3) := by decide +kernel
theorem dX12_tells_229 : decode cX12_tells 229 = .ok (.bipush 31, 2) := by decide +kernel
theorem dX12_tells_231 : decode cX12_tells 231 = .ok (.iaload, 1) := by decide +kernel
theorem dX12_tells_232 : decode cX12_tells 232 = .ok (.ireturn, 1) := by decide +kernel
theorem dX12_tells_233 : decode cX12_tells 233 = .ok (.aload_n 0, 1) := by decide +kernel
theorem dX12_tells_234 : decode cX12_tells 234 = .ok (.getfield 9, 3) := by decide +kernel
theorem dX12_tells_237 : decode cX12_tells 237 = .ok (.bipush 32, 2) := by decide +kernel
theorem dX12_tells_239 : decode cX12_tells 239 = .ok (.iaload, 1) := by decide +kernel
theorem dX12_tells_240 : decode cX12_tells 240 = .ok (.ireturn, 1) := by decide +kernel
theorem dX12_tells_241 : decode cX12_tells 241 = .ok (.aload_n 0, 1) := by decide +kernel
theorem dX12_tells_242 : decode cX12_tells 242 = .ok (.getfield 9, 3) := by decide +kernel
theorem dX12_tells_245 : decode cX12_tells 245 = .ok (.bipush 33, 2) := by decide +kernel
theorem dX12_tells_247 : decode cX12_tells 247 = .ok (.iaload, 1) := by decide +kernel
theorem dX12_tells_248 : decode cX12_tells 248 = .ok (.ireturn, 1) := by decide +kernel
theorem dX12_tells_249 : decode cX12_tells 249 = .ok (.aload_n 0, 1) := by decide +kernel
theorem dX12_tells_250 : decode cX12_tells 250 = .ok (.getfield 9, 3) := by decide +kernel
theorem dX12_tells_253 : decode cX12_tells 253 = .ok (.bipush 34, 2) := by decide +kernel
theorem dX12_tells_255 : decode cX12_tells 255 = .ok (.iaload, 1) := by decide +kernel
theorem dX12_tells_256 : decode cX12_tells 256 = .ok (.ireturn, 1) := by decide +kernel
theorem dX12_tells_257 : decode cX12_tells 257 = .ok (.aload_n 0, 1) := by decide +kernel
theorem dX12_tells_258 : decode cX12_tells 258 = .ok (.getfield 9, 3) := by decide +kernel
theorem dX12_tells_261 : decode cX12_tells 261 = .ok (.bipush 35, 2) := by decide +kernel
theorem dX12_tells_263 : decode cX12_tells 263 = .ok (.iaload, 1) := by decide +kernel
theorem dX12_tells_264 : decode cX12_tells 264 = .ok (.ireturn, 1) := by decide +kernel
theorem dX12_tells_265 : decode cX12_tells 265 = .ok (.aload_n 0, 1) := by decide +kernel
theorem dX12_tells_266 : decode cX12_tells 266 = .ok (.getfield 9, 3) := by decide +kernel
theorem dX12_tells_269 : decode cX12_tells 269 = .ok (.bipush 36, 2) := by decide +kernel
theorem dX12_tells_271 : decode cX12_tells 271 = .ok (.iaload, 1) := by decide +kernel
theorem dX12_tells_272 : decode cX12_tells 272 = .ok (.ireturn, 1) := by decide +kernel
theorem dX12_tells_273 : decode cX12_tells 273 = .ok (.aload_n 0, 1) := by decide +kernel
theorem dX12_tells_274 : decode cX12_tells 274 = .ok (.getfield 9, 3) := by decide +kernel
theorem dX12_tells_277 : decode cX12_tells 277 = .ok (.bipush 37, 2) := by decide +kernel
theorem dX12_tells_279 : decode cX12_tells 279 = .ok (.iaload, 1) := by decide +kernel
theorem dX12_tells_280 : decode cX12_tells 280 = .ok (.ireturn, 1) := by decide +kernel
theorem dX12_tells_281 : decode cX12_tells 281 = .ok (.aload_n 0, 1) := by decide +kernel
theorem dX12_tells_282 : decode cX12_tells 282 = .ok (.getfield 9, 3) := by decide +kernel
theorem dX12_tells_285 : decode cX12_tells 285 = .ok (.bipush 38, 2) := by decide +kernel
theorem dX12_tells_287 : decode cX12_tells 287 = .ok (.iaload, 1) := by decide +kernel
theorem dX12_tells_288 : decode cX12_tells 288 = .ok (.ireturn, 1) := by decide +kernel
theorem dX12_tells_289 : decode cX12_tells 289 = .ok (.aload_n 0, 1) := by decide +kernel
theorem dX12_tells_290 : decode cX12_tells 290 = .ok (.getfield 9, 3) := by decide +kernel
theorem dX12_tells_293 : decode cX12_tells 293 = .ok (.bipush 39, 2) := by decide +kernel
theorem dX12_tells_295 : decode cX12_tells 295 = .ok (.iaload, 1) := by decide +kernel
theorem dX12_tells_296 : decode cX12_tells 296 = .ok (.ireturn, 1) := by decide +kernel
theorem dX12_tells_297 : decode cX12_tells 297 = .ok (.aload_n 0, 1) := by decide +kernel
theorem dX12_tells_298 : decode cX12_tells 298 = .ok (.getfield 9, 3) := by decide +kernel
theorem dX12_tells_301 : decode cX12_tells 301 = .ok (.bipush 40, 2) := by decide +kernel
theorem dX12_tells_303 : decode cX12_tells 303 = .ok (.iaload, 1) := by decide +kernel
theorem dX12_tells_304 : decode cX12_tells 304 = .ok (.ireturn, 1) := by decide +kernel
theorem dX12_tells_305 : decode cX12_tells 305 = .ok (.aload_n 0, 1) := by decide +kernel
theorem dX12_tells_306 : decode cX12_tells 306 = .ok (.getfield 9, 3) := by decide +kernel
theorem dX12_tells_309 : decode cX12_tells 309 = .ok (.bipush 41, 2) := by decide +kernel
theorem dX12_tells_311 : decode cX12_tells 311 = .ok (.iaload, 1) := by decide +kernel
theorem dX12_tells_312 : decode cX12_tells 312 = .ok (.ireturn, 1) := by decide +kernel
theorem dX12_tells_313 : decode cX12_tells 313 = .ok (.aload_n 0, 1) := by decide +kernel
theorem dX12_tells_314 : decode cX12_tells 314 = .ok (.getfield 9, 3) := by decide +kernel
theorem dX12_tells_317 : decode cX12_tells 317 = .ok (.bipush 42, 2) := by decide +kernel
theorem dX12_tells_319 : decode cX12_tells 319 = .ok (.iaload, 1) := by decide +kernel
theorem dX12_tells_320 : decode cX12_tells 320 = .ok (.ireturn, 1) := by decide +kernel
theorem dX12_tells_321 : decode cX12_tells 321 = .ok (.aload_n 0, 1) := by decide +kernel
theorem dX12_tells_322 : decode cX12_tells 322 = .ok (.getfield 9, 3) := by decide +kernel
theorem dX12_tells_325 : decode cX12_tells 325 = .ok (.bipush 43, 2) := by decide +kernel
theorem dX12_tells_327 : decode cX12_tells 327 = .ok (.iaload, 1) := by decide +kernel
theorem dX12_tells_328 : decode cX12_tells 328 = .ok (.ireturn, 1) := by decide +kernel
theorem dX12_tells_329 : decode cX12_tells 329 = .ok (.aload_n 0, 1) := by decide +kernel
theorem dX12_tells_330 : decode cX12_tells 330 = .ok (.getfield 9, 3) := by decide +kernel
theorem dX12_tells_333 : decode cX12_tells 333 = .ok (.bipush 44, 2) := by decide +kernel
theorem dX12_tells_335 : decode cX12_tells 335 = .ok (.iaload, 1) := by decide +kernel
theorem dX12_tells_336 : decode cX12_tells 336 = .ok (.ireturn, 1) := by decide +kernel
theorem dX12_tells_337 : decode cX12_tells 337 = .ok (.aload_n 0, 1) := by decide +kernel
theorem dX12_tells_338 : decode cX12_tells 338 = .ok (.getfield 9, 3) := by decide +kernel
theorem dX12_tells_341 : decode cX12_tells 341 = .ok (.bipush 45, 2) := by decide +kernel
theorem dX12_tells_343 : decode cX12_tells 343 = .ok (.iaload, 1) := by decide +kernel
theorem dX12_tells_344 : decode cX12_tells 344 = .ok (.ireturn, 1) := by decide +kernel
theorem dX12_tells_345 : decode cX12_tells 345 = .ok (.aload_n 0, 1) := by decide +kernel
theorem dX12_tells_346 : decode cX12_tells 346 = .ok (.getfield 9, 3) := by decide +kernel
theorem dX12_tells_349 : decode cX12_tells 349 = .ok (.bipush 46, 2) := by decide +kernel
theorem dX12_tells_351 : decode cX12_tells 351 = .ok (.iaload, 1) := by decide +kernel
theorem dX12_tells_352 : decode cX12_tells 352 = .ok (.ireturn, 1) := by decide +kernel
theorem dX12_tells_353 : decode cX12_tells 353 = .ok (.aload_n 0, 1) := by decide +kernel
theorem dX12_tells_354 : decode cX12_tells 354 = .ok (.getfield 9, 3) := by decide +kernel
theorem dX12_tells_357 : decode cX12_tells 357 = .ok (.bipush 47, 2) := by decide +kernel
theorem dX12_tells_359 : decode cX12_tells 359 = .ok (.iaload, 1) := by decide +kernel
theorem dX12_tells_360 : decode cX12_tells 360 = .ok (.ireturn, 1) := by decide +kernel
theorem dX12_tells_361 : decode cX12_tells 361 = .ok (.aload_n 0, 1) := by decide +kernel
theorem dX12_tells_362 : decode cX12_tells 362 = .ok (.getfield 9, 3) := by decide +kernel
theorem dX12_tells_365 : decode cX12_tells 365 = .ok (.bipush 48, 2) := by decide +kernel
theorem dX12_tells_367 : decode cX12_tells 367 = .ok (.iaload, 1) := by decide +kernel
theorem dX12_tells_368 : decode cX12_tells 368 = .ok (.ireturn, 1) := by decide +kernel
theorem dX12_tells_369 : decode cX12_tells 369 = .ok (.iload_n 1, 1) := by decide +kernel
theorem dX12_tells_370 : decode cX12_tells 370 = .ok (.i2l, 1) := by decide +kernel
theorem dX12_tells_371 : decode cX12_tells 371 = .ok (.ldc2_w 358, 3) := by decide +kernel
theorem dX12_tells_374 : decode cX12_tells 374 = .ok (.ldc2_w 360, 3) := by decide +kernel
theorem dX12_tells_377 : decode cX12_tells 377 = .ok (.invokestatic 68, 3) := by decide +kernel
theorem dX12_tells_380 : decode cX12_tells 380 = .ok (.ifCond .eq 18, 3) := by decide +kernel
theorem dX12_tells_383 : decode cX12_tells 383 = .ok (.aload_n 0, 1) := by decide +kernel
theorem dX12_tells_384 : decode cX12_tells 384 = .ok (.getfield 9, 3) := by decide +kernel
theorem dX12_tells_387 : decode cX12_tells 387 = .ok (.bipush 6, 2) := by decide +kernel
theorem dX12_tells_389 : decode cX12_tells 389 = .ok (.iload_n 1, 1) := by decide +kernel
theorem dX12_tells_390 : decode cX12_tells 390 = .ok (.iadd, 1) := by decide +kernel
theorem dX12_tells_391 : decode cX12_tells 391 = .ok (.bipush 20, 2) := by decide +kernel
theorem dX12_tells_393 : decode cX12_tells 393 = .ok (.isub, 1) := by decide +kernel
theorem dX12_tells_394 : decode cX12_tells 394 = .ok (.iaload, 1) := by decide +kernel
theorem dX12_tells_395 : decode cX12_tells 395 = .ok (.goto 34, 3) := by decide +kernel
theorem dX12_tells_398 : decode cX12_tells 398 = .ok (.iload_n 1, 1) := by decide +kernel
theorem dX12_tells_399 : decode cX12_tells 399 = .ok (.i2l, 1) := by decide +kernel
theorem dX12_tells_400 : decode cX12_tells 400 = .ok (.ldc2_w 362, 3) := by decide +kernel
theorem dX12_tells_403 : decode cX12_tells 403 = .ok (.ldc2_w 364, 3) := by decide +kernel
theorem dX12_tells_406 : decode cX12_tells 406 = .ok (.invokestatic 68, 3) := by decide +kernel
theorem dX12_tells_409 : decode cX12_tells 409 = .ok (.ifCond .eq 18, 3) := by decide +kernel
theorem dX12_tells_412 : decode cX12_tells 412 = .ok (.aload_n 0, 1) := by decide +kernel
theorem dX12_tells_413 : decode cX12_tells 413 = .ok (.getfield 9, 3) := by decide +kernel
theorem dX12_tells_416 : decode cX12_tells 416 = .ok (.bipush 17, 2) := by decide +kernel
theorem dX12_tells_418 : decode cX12_tells 418 = .ok (.iload_n 1, 1) := by decide +kernel
theorem dX12_tells_419 : decode cX12_tells 419 = .ok (.iadd, 1) := by decide +kernel
theorem dX12_tells_420 : decode cX12_tells 420 = .ok (.bipush 40, 2) := by decide +kernel
theorem dX12_tells_422 : decode cX12_tells 422 = .ok (.isub, 1) := by decide +kernel
theorem dX12_tells_423 : decode cX12_tells 423 = .ok (.iaload, 1) := by decide +kernel
theorem dX12_tells_424 : decode cX12_tells 424 = .ok (.goto 5, 3) := by decide +kernel
theorem dX12_tells_427 : decode cX12_tells 427 = .ok (.ldc 136, 2) := by decide +kernel
theorem dX12_tells_429 : decode cX12_tells 429 = .ok (.ireturn, 1) := by decide +kernel
theorem dX12_would_0 : decode cX12_would 0 = .ok (.aload_n 0, 1) := by decide +kernel
theorem dX12_would_1 : decode cX12_would 1 = .ok (.iconst 0, 1) := by decide +kernel
theorem dX12_would_2 : decode cX12_would 2 = .ok (.putfield 58, 3) := by decide +kernel
theorem dX12_would_5 : decode cX12_would 5 = .ok (.iload_n 1, 1) := by decide +kernel
theorem dX12_would_6 : decode cX12_would 6 = .ok (.i2l, 1) := by decide +kernel
theorem dX12_would_7 : decode cX12_would 7 = .ok (.lconst 1, 1) := by decide +kernel
theorem dX12_would_8 : decode cX12_would 8 = .ok (.ldc2_w 90, 3) := by decide +kernel
theorem dX12_would_11 : decode cX12_would 11 = .ok (.invokestatic 68, 3) := by decide +kernel
theorem dX12_would_14 : decode cX12_would 14 = .ok (.ifCond .eq 18, 3) := by decide +kernel
theorem dX12_would_17 : decode cX12_would 17 = .ok (.aload_n 0, 1) := by decide +kernel
theorem dX12_would_18 : decode cX12_would 18 = .ok (.getfield 9, 3) := by decide +kernel
theorem dX12_would_21 : decode cX12_would 21 = .ok (.bipush 25, 2) := by decide +kernel
theorem dX12_would_23 : decode cX12_would 23 = .ok (.iaload, 1) := by decide +kernel
theorem dX12_would_24 : decode cX12_would 24 = .ok (.iload_n 1, 1) := by decide +kernel
theorem dX12_would_25 : decode cX12_would 25 = .ok (.iadd, 1) := by decide +kernel
theorem dX12_would_26 : decode cX12_would 26 = .ok (.sipush 10000, 3) := by decide +kernel
theorem dX12_would_29 : decode cX12_would 29 = .ok (.if_icmp .le 6, 3) := by decide +kernel
theorem dX12_would_32 : decode cX12_would 32 = .ok (.ldc 136, 2) := by decide +kernel
theorem dX12_would_34 : decode cX12_would 34 = .ok (.ireturn, 1) := by decide +kernel
theorem dX12_would_35 : decode cX12_would 35 = .ok (.aload_n 0, 1) := by decide +kernel
theorem dX12_would_36 : decode cX12_would 36 = .ok (.getfield 9, 3) := by decide +kernel
theorem dX12_would_39 : decode cX12_would 39 = .ok (.iconst 0, 1) := by decide +kernel
theorem dX12_would_40 : decode cX12_would 40 = .ok (.aload_n 0, 1) := by decide +kernel
theorem dX12_would_41 : decode cX12_would 41 = .ok (.getfield 22, 3) := by decide +kernel
theorem dX12_would_44 : decode cX12_would 44 = .ok (.iconst 0, 1) := by decide +kernel
theorem dX12_would_45 : decode cX12_would 45 = .ok (.invokestatic 72, 3) := by decide +kernel
theorem dX12_would_48 : decode cX12_would 48 = .ok (.iconst 0, 1) := by decide +kernel
theorem dX12_would_49 : decode cX12_would 49 = .ok (.istore_n 3, 1) := by decide +kernel
theorem dX12_would_50 : decode cX12_would 50 = .ok (.iload_n 3, 1) := by decide +kernel
theorem dX12_would_51 : decode cX12_would 51 = .ok (.iload_n 1, 1) := by decide +kernel
theorem dX12_would_52 : decode cX12_would 52 = .ok (.if_icmp .ge 13, 3) := by decide +kernel
theorem dX12_would_55 : decode cX12_would 55 = .ok (.aload_n 0, 1) := by decide +kernel
theorem dX12_would_56 : decode cX12_would 56 = .ok (.invokevirtual 322, 3) := by decide +kernel
theorem dX12_would_59 : decode cX12_would 59 = .ok (.iinc 3 1, 3) := by decide +kernel
theorem dX12_would_62 : decode cX12_would 62 = .ok (.goto (-12), 3) := by decide +kernel
theorem dX12_would_65 : decode cX12_would 65 = .ok (.aload_n 0, 1) := by decide +kernel
theorem dX12_would_66 : decode cX12_would 66 = .ok (.iload_n 2, 1) := by decide +kernel
theorem dX12_would_67 : decode cX12_would 67 = .ok (.invokevirtual 366, 3) := by decide +kernel
theorem dX12_would_70 : decode cX12_would 70 = .ok (.istore_n 3, 1) := by decide +kernel
theorem dX12_would_71 : decode cX12_would 71 = .ok (.aload_n 0, 1) := by decide +kernel
theorem dX12_would_72 : decode cX12_would 72 = .ok (.getfield 22, 3) := by decide +kernel
theorem dX12_would_75 : decode cX12_would 75 = .ok (.iconst 0, 1) := by decide +kernel
theorem dX12_would_76 : decode cX12_would 76 = .ok (.aload_n 0, 1) := by decide +kernel
theorem dX12_would_77 : decode cX12_would 77 = .ok (.getfield 9, 3) := by decide +kernel
theorem dX12_would_80 : decode cX12_would 80 = .ok (.iconst 0, 1) := by decide +kernel
theorem dX12_would_81 : decode cX12_would 81 = .ok (.invokestatic 72, 3) := by decide +kernel
theorem dX12_would_84 : decode cX12_would 84 = .ok (.iload_n 3, 1) := by decide +kernel
theorem dX12_would_85 : decode cX12_would 85 = .ok (.ireturn, 1) := by decide +kernel
theorem dX12_count_0 : decode cX12_count 0 = .ok (.aload_n 0, 1) := by decide +kernel
theorem dX12_count_1 : decode cX12_count 1 = .ok (.iconst 0, 1) := by decide +kernel
theorem dX12_count_2 : decode cX12_count 2 = .ok (.putfield 58, 3) := by decide +kernel
theorem dX12_count_5 : decode cX12_count 5 = .ok (.aload_n 0, 1) := by decide +kernel
theorem dX12_count_6 : decode cX12_count 6 = .ok (.iload_n 1, 1) := by decide +kernel
theorem dX12_count_7 : decode cX12_count 7 = .ok (.invokevirtual 366, 3) := by decide +kernel
theorem dX12_count_10 : decode cX12_count 10 = .ok (.ireturn, 1) := by decide +kernel
theorem dJ9_floorMod_7cf53_0 : decode cJ9_floorMod_7cf53 0 = .ok (.iload_n 0, 1) := by decide +kernel
theorem dJ9_floorMod_7cf53_1 : decode cJ9_floorMod_7cf53 1 = .ok (.iload_n 1, 1) := by decide +kernel
theorem dJ9_floorMod_7cf53_2 : decode cJ9_floorMod_7cf53 2 = .ok (.irem, 1) := by decide +kernel
theorem dJ9_floorMod_7cf53_3 : decode cJ9_floorMod_7cf53 3 = .ok (.istore_n 2, 1) := by decide +kernel
theorem dJ9_floorMod_7cf53_4 : decode cJ9_floorMod_7cf53 4 = .ok (.iload_n 0, 1) := by decide +kernel
theorem dJ9_floorMod_7cf53_5 : decode cJ9_floorMod_7cf53 5 = .ok (.iload_n 1, 1) := by decide +kernel
theorem dJ9_floorMod_7cf53_6 : decode cJ9_floorMod_7cf53 6 = .ok (.ixor, 1) := by decide +kernel
theorem dJ9_floorMod_7cf53_7 : decode cJ9_floorMod_7cf53 7 = .ok (.ifCond .ge 11, 3) := by decide +kernel
theorem dJ9_floorMod_7cf53_10 : decode cJ9_floorMod_7cf53 10 = .ok (.iload_n 2, 1) := by decide +kernel
theorem dJ9_floorMod_7cf53_11 : decode cJ9_floorMod_7cf53 11 = .ok (.ifCond .eq 7, 3) := by decide +kernel
theorem dJ9_floorMod_7cf53_14 : decode cJ9_floorMod_7cf53 14 = .ok (.iload_n 2, 1) := by decide +kernel
theorem dJ9_floorMod_7cf53_15 : decode cJ9_floorMod_7cf53 15 = .ok (.iload_n 1, 1) := by decide +kernel
theorem dJ9_floorMod_7cf53_16 : decode cJ9_floorMod_7cf53 16 = .ok (.iadd, 1) := by decide +kernel
theorem dJ9_floorMod_7cf53_17 : decode cJ9_floorMod_7cf53 17 = .ok (.ireturn, 1) := by decide +kernel
theorem dJ9_floorMod_7cf53_18 : decode cJ9_floorMod_7cf53 18 = .ok (.iload_n 2, 1) := by decide +kernel
theorem dJ9_floorMod_7cf53_19 : decode cJ9_floorMod_7cf53 19 = .ok (.ireturn, 1) := by decide +kernel
theorem dJ9_abs_0f7a4_0 : decode cJ9_abs_0f7a4 0 = .ok (.iload_n 0, 1) := by decide +kernel
theorem dJ9_abs_0f7a4_1 : decode cJ9_abs_0f7a4 1 = .ok (.ifCond .ge 8, 3) := by decide +kernel
theorem dJ9_abs_0f7a4_4 : decode cJ9_abs_0f7a4 4 = .ok (.iload_n 0, 1) := by decide +kernel
theorem dJ9_abs_0f7a4_5 : decode cJ9_abs_0f7a4 5 = .ok (.ineg, 1) := by decide +kernel
theorem dJ9_abs_0f7a4_6 : decode cJ9_abs_0f7a4 6 = .ok (.goto 4, 3) := by decide +kernel
theorem dJ9_abs_0f7a4_9 : decode cJ9_abs_0f7a4 9 = .ok (.iload_n 0, 1) := by decide +kernel
theorem dJ9_abs_0f7a4_10 : decode cJ9_abs_0f7a4 10 = .ok (.ireturn, 1) := by decide +kernel
theorem dJ9_max_7cf53_0 : decode cJ9_max_7cf53 0 = .ok (.iload_n 0, 1) := by decide +kernel
theorem dJ9_max_7cf53_1 : decode cJ9_max_7cf53 1 = .ok (.iload_n 1, 1) := by decide +kernel
theorem dJ9_max_7cf53_2 : decode cJ9_max_7cf53 2 = .ok (.if_icmp .lt 7, 3) := by decide +kernel
theorem dJ9_max_7cf53_5 : decode cJ9_max_7cf53 5 = .ok (.iload_n 0, 1) := by decide +kernel
theorem dJ9_max_7cf53_6 : decode cJ9_max_7cf53 6 = .ok (.goto 4, 3) := by decide +kernel
theorem dJ9_max_7cf53_9 : decode cJ9_max_7cf53 9 = .ok (.iload_n 1, 1) := by decide +kernel
theorem dJ9_max_7cf53_10 : decode cJ9_max_7cf53 10 = .ok (.ireturn, 1) := by decide +kernel
theorem dJ9_max_f86c9_0 : decode cJ9_max_f86c9 0 = .ok (.lload_n 0, 1) := by decide +kernel
theorem dJ9_max_f86c9_1 : decode cJ9_max_f86c9 1 = .ok (.lload_n 2, 1) := by decide +kernel
theorem dJ9_max_f86c9_2 : decode cJ9_max_f86c9 2 = .ok (.lcmp, 1) := by decide +kernel
theorem dJ9_max_f86c9_3 : decode cJ9_max_f86c9 3 = .ok (.ifCond .lt 7, 3) := by decide +kernel
theorem dJ9_max_f86c9_6 : decode cJ9_max_f86c9 6 = .ok (.lload_n 0, 1) := by decide +kernel
theorem dJ9_max_f86c9_7 : decode cJ9_max_f86c9 7 = .ok (.goto 4, 3) := by decide +kernel
theorem dJ9_max_f86c9_10 : decode cJ9_max_f86c9 10 = .ok (.lload_n 2, 1) := by decide +kernel
theorem dJ9_max_f86c9_11 : decode cJ9_max_f86c9 11 = .ok (.lreturn, 1) := by decide +kernel
theorem dJ9_min_7cf53_0 : decode cJ9_min_7cf53 0 = .ok (.iload_n 0, 1) := by decide +kernel
theorem dJ9_min_7cf53_1 : decode cJ9_min_7cf53 1 = .ok (.iload_n 1, 1) := by decide +kernel
theorem dJ9_min_7cf53_2 : decode cJ9_min_7cf53 2 = .ok (.if_icmp .gt 7, 3) := by decide +kernel
theorem dJ9_min_7cf53_5 : decode cJ9_min_7cf53 5 = .ok (.iload_n 0, 1) := by decide +kernel
theorem dJ9_min_7cf53_6 : decode cJ9_min_7cf53 6 = .ok (.goto 4, 3) := by decide +kernel
theorem dJ9_min_7cf53_9 : decode cJ9_min_7cf53 9 = .ok (.iload_n 1, 1) := by decide +kernel
theorem dJ9_min_7cf53_10 : decode cJ9_min_7cf53 10 = .ok (.ireturn, 1) := by decide +kernel
theorem dJ9_min_f86c9_0 : decode cJ9_min_f86c9 0 = .ok (.lload_n 0, 1) := by decide +kernel
theorem dJ9_min_f86c9_1 : decode cJ9_min_f86c9 1 = .ok (.lload_n 2, 1) := by decide +kernel
theorem dJ9_min_f86c9_2 : decode cJ9_min_f86c9 2 = .ok (.lcmp, 1) := by decide +kernel
theorem dJ9_min_f86c9_3 : decode cJ9_min_f86c9 3 = .ok (.ifCond .gt 7, 3) := by decide +kernel
theorem dJ9_min_f86c9_6 : decode cJ9_min_f86c9 6 = .ok (.lload_n 0, 1) := by decide +kernel
theorem dJ9_min_f86c9_7 : decode cJ9_min_f86c9 7 = .ok (.goto 4, 3) := by decide +kernel
theorem dJ9_min_f86c9_10 : decode cJ9_min_f86c9 10 = .ok (.lload_n 2, 1) := by decide +kernel
theorem dJ9_min_f86c9_11 : decode cJ9_min_f86c9 11 = .ok (.lreturn, 1) := by decide +kernel
theorem dJ7_fill_53178_0 : decode cJ7_fill_53178 0 = .ok (.iconst 0, 1) := by decide +kernel
theorem dJ7_fill_53178_1 : decode cJ7_fill_53178 1 = .ok (.istore_n 2, 1) := by decide +kernel
theorem dJ7_fill_53178_2 : decode cJ7_fill_53178 2 = .ok (.aload_n 0, 1) := by decide +kernel
theorem dJ7_fill_53178_3 : decode cJ7_fill_53178 3 = .ok (.arraylength, 1) := by decide +kernel
theorem dJ7_fill_53178_4 : decode cJ7_fill_53178 4 = .ok (.istore_n 3, 1) := by decide +kernel
theorem dJ7_fill_53178_5 : decode cJ7_fill_53178 5 = .ok (.iload_n 2, 1) := by decide +kernel
theorem dJ7_fill_53178_6 : decode cJ7_fill_53178 6 = .ok (.iload_n 3, 1) := by decide +kernel
theorem dJ7_fill_53178_7 : decode cJ7_fill_53178 7 = .ok (.if_icmp .ge 13, 3) := by decide +kernel
theorem dJ7_fill_53178_10 : decode cJ7_fill_53178 10 = .ok (.aload_n 0, 1) := by decide +kernel
theorem dJ7_fill_53178_11 : decode cJ7_fill_53178 11 = .ok (.iload_n 2, 1) := by decide +kernel
theorem dJ7_fill_53178_12 : decode cJ7_fill_53178 12 = .ok (.iload_n 1, 1) := by decide +kernel
theorem dJ7_fill_53178_13 : decode cJ7_fill_53178 13 = .ok (.iastore, 1) := by decide +kernel
theorem dJ7_fill_53178_14 : decode cJ7_fill_53178 14 = .ok (.iinc 2 1, 3) := by decide +kernel
theorem dJ7_fill_53178_17 : decode cJ7_fill_53178 17 = .ok (.goto (-12), 3) := by decide +kernel
theorem dJ7_fill_53178_20 : decode cJ7_fill_53178 20 = .ok (.return_, 1) := by decide +kernel
theorem dL_law_0 : decode cL_law 0 = .ok (.new 7, 3) := by decide +kernel
theorem dL_law_3 : decode cL_law 3 = .ok (.dup, 1) := by decide +kernel
theorem dL_law_4 : decode cL_law 4 = .ok (.invokespecial 9, 3) := by decide +kernel
theorem dL_law_7 : decode cL_law 7 = .ok (.astore_n 1, 1) := by decide +kernel
theorem dL_law_8 : decode cL_law 8 = .ok (.new 10, 3) := by decide +kernel
theorem dL_law_11 : decode cL_law 11 = .ok (.dup, 1) := by decide +kernel
theorem dL_law_12 : decode cL_law 12 = .ok (.invokespecial 12, 3) := by decide +kernel
theorem dL_law_15 : decode cL_law 15 = .ok (.astore_n 2, 1) := by decide +kernel
theorem dL_law_16 : decode cL_law 16 = .ok (.iconst 0, 1) := by decide +kernel
theorem dL_law_17 : decode cL_law 17 = .ok (.istore_n 3, 1) := by decide +kernel
theorem dL_law_18 : decode cL_law 18 = .ok (.iload_n 3, 1) := by decide +kernel
theorem dL_law_19 : decode cL_law 19 = .ok (.aload_n 0, 1) := by decide +kernel
theorem dL_law_20 : decode cL_law 20 = .ok (.arraylength, 1) := by decide +kernel
theorem dL_law_21 : decode cL_law 21 = .ok (.iconst 5, 1) := by decide +kernel
theorem dL_law_22 : decode cL_law 22 = .ok (.isub, 1) := by decide +kernel
theorem dL_law_23 : decode cL_law 23 = .ok (.if_icmp .gt 1141, 3) := by decide +kernel
theorem dL_law_26 : decode cL_law 26 = .ok (.aload_n 0, 1) := by decide +kernel
theorem dL_law_27 : decode cL_law 27 = .ok (.iload_n 3, 1) := by decide +kernel
theorem dL_law_28 : decode cL_law 28 = .ok (.iaload, 1) := by decide +kernel
theorem dL_law_29 : decode cL_law 29 = .ok (.bipush 31, 2) := by decide +kernel
theorem dL_law_31 : decode cL_law 31 = .ok (.iand, 1) := by decide +kernel
theorem dL_law_32 : decode cL_law 32 = .ok (.tableswitch 1126 0 29 #[136, 189, 222, 255, 278, 301, 314, 337, 360, 393, 446, 489, 512, 565, 598, 631, 684, 727, 760, 783, 816, 849, 882, 915, 948, 981, 1014, 1037, 1070, 1103], 136) := by decide +kernel
theorem dL_law_168 : decode cL_law 168 = .ok (.aload_n 1, 1) := by decide +kernel
theorem dL_law_169 : decode cL_law 169 = .ok (.aload_n 0, 1) := by decide +kernel
theorem dL_law_170 : decode cL_law 170 = .ok (.iload_n 3, 1) := by decide +kernel
theorem dL_law_171 : decode cL_law 171 = .ok (.iconst 1, 1) := by decide +kernel
theorem dL_law_172 : decode cL_law 172 = .ok (.iadd, 1) := by decide +kernel
theorem dL_law_173 : decode cL_law 173 = .ok (.iaload, 1) := by decide +kernel
theorem dL_law_174 : decode cL_law 174 = .ok (.aload_n 0, 1) := by decide +kernel
theorem dL_law_175 : decode cL_law 175 = .ok (.iload_n 3, 1) := by decide +kernel
theorem dL_law_176 : decode cL_law 176 = .ok (.iconst 2, 1) := by decide +kernel
theorem dL_law_177 : decode cL_law 177 = .ok (.iadd, 1) := by decide +kernel
theorem dL_law_178 : decode cL_law 178 = .ok (.iaload, 1) := by decide +kernel
theorem dL_law_179 : decode cL_law 179 = .ok (.aload_n 0, 1) := by decide +kernel
theorem dL_law_180 : decode cL_law 180 = .ok (.iload_n 3, 1) := by decide +kernel
theorem dL_law_181 : decode cL_law 181 = .ok (.iconst 3, 1) := by decide +kernel
theorem dL_law_182 : decode cL_law 182 = .ok (.iadd, 1) := by decide +kernel
theorem dL_law_183 : decode cL_law 183 = .ok (.iaload, 1) := by decide +kernel
theorem dL_law_184 : decode cL_law 184 = .ok (.aload_n 0, 1) := by decide +kernel
theorem dL_law_185 : decode cL_law 185 = .ok (.iload_n 3, 1) := by decide +kernel
theorem dL_law_186 : decode cL_law 186 = .ok (.iconst 4, 1) := by decide +kernel
theorem dL_law_187 : decode cL_law 187 = .ok (.iadd, 1) := by decide +kernel
theorem dL_law_188 : decode cL_law 188 = .ok (.iaload, 1) := by decide +kernel
theorem dL_law_189 : decode cL_law 189 = .ok (.invokevirtual 13, 3) := by decide +kernel
theorem dL_law_192 : decode cL_law 192 = .ok (.aload_n 2, 1) := by decide +kernel
theorem dL_law_193 : decode cL_law 193 = .ok (.aload_n 0, 1) := by decide +kernel
theorem dL_law_194 : decode cL_law 194 = .ok (.iload_n 3, 1) := by decide +kernel
theorem dL_law_195 : decode cL_law 195 = .ok (.iconst 1, 1) := by decide +kernel
theorem dL_law_196 : decode cL_law 196 = .ok (.iadd, 1) := by decide +kernel
theorem dL_law_197 : decode cL_law 197 = .ok (.iaload, 1) := by decide +kernel
theorem dL_law_198 : decode cL_law 198 = .ok (.aload_n 0, 1) := by decide +kernel
theorem dL_law_199 : decode cL_law 199 = .ok (.iload_n 3, 1) := by decide +kernel
theorem dL_law_200 : decode cL_law 200 = .ok (.iconst 2, 1) := by decide +kernel
theorem dL_law_201 : decode cL_law 201 = .ok (.iadd, 1) := by decide +kernel
theorem dL_law_202 : decode cL_law 202 = .ok (.iaload, 1) := by decide +kernel
theorem dL_law_203 : decode cL_law 203 = .ok (.aload_n 0, 1) := by decide +kernel
theorem dL_law_204 : decode cL_law 204 = .ok (.iload_n 3, 1) := by decide +kernel
theorem dL_law_205 : decode cL_law 205 = .ok (.iconst 3, 1) := by decide +kernel
theorem dL_law_206 : decode cL_law 206 = .ok (.iadd, 1) := by decide +kernel
theorem dL_law_207 : decode cL_law 207 = .ok (.iaload, 1) := by decide +kernel
theorem dL_law_208 : decode cL_law 208 = .ok (.aload_n 0, 1) := by decide +kernel
theorem dL_law_209 : decode cL_law 209 = .ok (.iload_n 3, 1) := by decide +kernel
theorem dL_law_210 : decode cL_law 210 = .ok (.iconst 4, 1) := by decide +kernel
theorem dL_law_211 : decode cL_law 211 = .ok (.iadd, 1) := by decide +kernel
theorem dL_law_212 : decode cL_law 212 = .ok (.iaload, 1) := by decide +kernel
theorem dL_law_213 : decode cL_law 213 = .ok (.invokevirtual 17, 3) := by decide +kernel
theorem dL_law_216 : decode cL_law 216 = .ok (.if_icmp .eq 942, 3) := by decide +kernel
theorem dL_law_219 : decode cL_law 219 = .ok (.iconst 0, 1) := by decide +kernel
theorem dL_law_220 : decode cL_law 220 = .ok (.ireturn, 1) := by decide +kernel
theorem dL_law_221 : decode cL_law 221 = .ok (.aload_n 1, 1) := by decide +kernel
theorem dL_law_222 : decode cL_law 222 = .ok (.aload_n 0, 1) := by decide +kernel
theorem dL_law_223 : decode cL_law 223 = .ok (.iload_n 3, 1) := by decide +kernel
theorem dL_law_224 : decode cL_law 224 = .ok (.iconst 1, 1) := by decide +kernel
theorem dL_law_225 : decode cL_law 225 = .ok (.iadd, 1) := by decide +kernel
theorem dL_law_226 : decode cL_law 226 = .ok (.iaload, 1) := by decide +kernel
theorem dL_law_227 : decode cL_law 227 = .ok (.aload_n 0, 1) := by decide +kernel
theorem dL_law_228 : decode cL_law 228 = .ok (.iload_n 3, 1) := by decide +kernel
theorem dL_law_229 : decode cL_law 229 = .ok (.iconst 2, 1) := by decide +kernel
theorem dL_law_230 : decode cL_law 230 = .ok (.iadd, 1) := by decide +kernel
theorem dL_law_231 : decode cL_law 231 = .ok (.iaload, 1) := by decide +kernel
theorem dL_law_232 : decode cL_law 232 = .ok (.invokevirtual 18, 3) := by decide +kernel
theorem dL_law_235 : decode cL_law 235 = .ok (.aload_n 2, 1) := by decide +kernel
theorem dL_law_236 : decode cL_law 236 = .ok (.aload_n 0, 1) := by decide +kernel
theorem dL_law_237 : decode cL_law 237 = .ok (.iload_n 3, 1) := by decide +kernel
theorem dL_law_238 : decode cL_law 238 = .ok (.iconst 1, 1) := by decide +kernel
theorem dL_law_239 : decode cL_law 239 = .ok (.iadd, 1) := by decide +kernel
theorem dL_law_240 : decode cL_law 240 = .ok (.iaload, 1) := by decide +kernel
theorem dL_law_241 : decode cL_law 241 = .ok (.aload_n 0, 1) := by decide +kernel
theorem dL_law_242 : decode cL_law 242 = .ok (.iload_n 3, 1) := by decide +kernel
theorem dL_law_243 : decode cL_law 243 = .ok (.iconst 2, 1) := by decide +kernel
theorem dL_law_244 : decode cL_law 244 = .ok (.iadd, 1) := by decide +kernel
theorem dL_law_245 : decode cL_law 245 = .ok (.iaload, 1) := by decide +kernel
theorem dL_law_246 : decode cL_law 246 = .ok (.invokevirtual 22, 3) := by decide +kernel
theorem dL_law_249 : decode cL_law 249 = .ok (.if_icmp .eq 909, 3) := by decide +kernel
theorem dL_law_252 : decode cL_law 252 = .ok (.iconst 0, 1) := by decide +kernel
theorem dL_law_253 : decode cL_law 253 = .ok (.ireturn, 1) := by decide +kernel
theorem dL_law_254 : decode cL_law 254 = .ok (.aload_n 1, 1) := by decide +kernel
theorem dL_law_255 : decode cL_law 255 = .ok (.aload_n 0, 1) := by decide +kernel
theorem dL_law_256 : decode cL_law 256 = .ok (.iload_n 3, 1) := by decide +kernel
theorem dL_law_257 : decode cL_law 257 = .ok (.iconst 1, 1) := by decide +kernel
theorem dL_law_258 : decode cL_law 258 = .ok (.iadd, 1) := by decide +kernel
theorem dL_law_259 : decode cL_law 259 = .ok (.iaload, 1) := by decide +kernel
theorem dL_law_260 : decode cL_law 260 = .ok (.aload_n 0, 1) := by decide +kernel
theorem dL_law_261 : decode cL_law 261 = .ok (.iload_n 3, 1) := by decide +kernel
theorem dL_law_262 : decode cL_law 262 = .ok (.iconst 2, 1) := by decide +kernel
theorem dL_law_263 : decode cL_law 263 = .ok (.iadd, 1) := by decide +kernel
theorem dL_law_264 : decode cL_law 264 = .ok (.iaload, 1) := by decide +kernel
theorem dL_law_265 : decode cL_law 265 = .ok (.invokevirtual 23, 3) := by decide +kernel
theorem dL_law_268 : decode cL_law 268 = .ok (.aload_n 2, 1) := by decide +kernel
theorem dL_law_269 : decode cL_law 269 = .ok (.aload_n 0, 1) := by decide +kernel
theorem dL_law_270 : decode cL_law 270 = .ok (.iload_n 3, 1) := by decide +kernel
theorem dL_law_271 : decode cL_law 271 = .ok (.iconst 1, 1) := by decide +kernel
theorem dL_law_272 : decode cL_law 272 = .ok (.iadd, 1) := by decide +kernel
theorem dL_law_273 : decode cL_law 273 = .ok (.iaload, 1) := by decide +kernel
theorem dL_law_274 : decode cL_law 274 = .ok (.aload_n 0, 1) := by decide +kernel
theorem dL_law_275 : decode cL_law 275 = .ok (.iload_n 3, 1) := by decide +kernel
theorem dL_law_276 : decode cL_law 276 = .ok (.iconst 2, 1) := by decide +kernel
theorem dL_law_277 : decode cL_law 277 = .ok (.iadd, 1) := by decide +kernel
theorem dL_law_278 : decode cL_law 278 = .ok (.iaload, 1) := by decide +kernel
theorem dL_law_279 : decode cL_law 279 = .ok (.invokevirtual 26, 3) := by decide +kernel
theorem dL_law_282 : decode cL_law 282 = .ok (.if_icmp .eq 876, 3) := by decide +kernel
theorem dL_law_285 : decode cL_law 285 = .ok (.iconst 0, 1) := by decide +kernel
theorem dL_law_286 : decode cL_law 286 = .ok (.ireturn, 1) := by decide +kernel
theorem dL_law_287 : decode cL_law 287 = .ok (.aload_n 1, 1) := by decide +kernel
theorem dL_law_288 : decode cL_law 288 = .ok (.aload_n 0, 1) := by decide +kernel
theorem dL_law_289 : decode cL_law 289 = .ok (.iload_n 3, 1) := by decide +kernel
theorem dL_law_290 : decode cL_law 290 = .ok (.iconst 1, 1) := by decide +kernel
theorem dL_law_291 : decode cL_law 291 = .ok (.iadd, 1) := by decide +kernel
theorem dL_law_292 : decode cL_law 292 = .ok (.iaload, 1) := by decide +kernel
theorem dL_law_293 : decode cL_law 293 = .ok (.invokevirtual 27, 3) := by decide +kernel
theorem dL_law_296 : decode cL_law 296 = .ok (.aload_n 2, 1) := by decide +kernel
theorem dL_law_297 : decode cL_law 297 = .ok (.aload_n 0, 1) := by decide +kernel
theorem dL_law_298 : decode cL_law 298 = .ok (.iload_n 3, 1) := by decide +kernel
theorem dL_law_299 : decode cL_law 299 = .ok (.iconst 1, 1) := by decide +kernel
theorem dL_law_300 : decode cL_law 300 = .ok (.iadd, 1) := by decide +kernel
theorem dL_law_301 : decode cL_law 301 = .ok (.iaload, 1) := by decide +kernel
theorem dL_law_302 : decode cL_law 302 = .ok (.invokevirtual 31, 3) := by decide +kernel
theorem dL_law_305 : decode cL_law 305 = .ok (.if_icmp .eq 853, 3) := by decide +kernel
theorem dL_law_308 : decode cL_law 308 = .ok (.iconst 0, 1) := by decide +kernel
theorem dL_law_309 : decode cL_law 309 = .ok (.ireturn, 1) := by decide +kernel
theorem dL_law_310 : decode cL_law 310 = .ok (.aload_n 1, 1) := by decide +kernel
theorem dL_law_311 : decode cL_law 311 = .ok (.aload_n 0, 1) := by decide +kernel
theorem dL_law_312 : decode cL_law 312 = .ok (.iload_n 3, 1) := by decide +kernel
theorem dL_law_313 : decode cL_law 313 = .ok (.iconst 1, 1) := by decide +kernel
theorem dL_law_314 : decode cL_law 314 = .ok (.iadd, 1) := by decide +kernel
theorem dL_law_315 : decode cL_law 315 = .ok (.iaload, 1) := by decide +kernel
theorem dL_law_316 : decode cL_law 316 = .ok (.invokevirtual 32, 3) := by decide +kernel
theorem dL_law_319 : decode cL_law 319 = .ok (.aload_n 2, 1) := by decide +kernel
theorem dL_law_320 : decode cL_law 320 = .ok (.aload_n 0, 1) := by decide +kernel
theorem dL_law_321 : decode cL_law 321 = .ok (.iload_n 3, 1) := by decide +kernel
theorem dL_law_322 : decode cL_law 322 = .ok (.iconst 1, 1) := by decide +kernel
theorem dL_law_323 : decode cL_law 323 = .ok (.iadd, 1) := by decide +kernel
theorem dL_law_324 : decode cL_law 324 = .ok (.iaload, 1) := by decide +kernel
theorem dL_law_325 : decode cL_law 325 = .ok (.invokevirtual 35, 3) := by decide +kernel
theorem dL_law_328 : decode cL_law 328 = .ok (.if_icmp .eq 830, 3) := by decide +kernel
theorem dL_law_331 : decode cL_law 331 = .ok (.iconst 0, 1) := by decide +kernel
theorem dL_law_332 : decode cL_law 332 = .ok (.ireturn, 1) := by decide +kernel
theorem dL_law_333 : decode cL_law 333 = .ok (.aload_n 1, 1) := by decide +kernel
theorem dL_law_334 : decode cL_law 334 = .ok (.invokevirtual 36, 3) := by decide +kernel
theorem dL_law_337 : decode cL_law 337 = .ok (.aload_n 2, 1) := by decide +kernel
theorem dL_law_338 : decode cL_law 338 = .ok (.invokevirtual 40, 3) := by decide +kernel
theorem dL_law_341 : decode cL_law 341 = .ok (.if_icmp .eq 817, 3) := by decide +kernel
theorem dL_law_344 : decode cL_law 344 = .ok (.iconst 0, 1) := by decide +kernel
theorem dL_law_345 : decode cL_law 345 = .ok (.ireturn, 1) := by decide +kernel
theorem dL_law_346 : decode cL_law 346 = .ok (.aload_n 1, 1) := by decide +kernel
theorem dL_law_347 : decode cL_law 347 = .ok (.aload_n 0, 1) := by decide +kernel
theorem dL_law_348 : decode cL_law 348 = .ok (.iload_n 3, 1) := by decide +kernel
theorem dL_law_349 : decode cL_law 349 = .ok (.iconst 1, 1) := by decide +kernel
theorem dL_law_350 : decode cL_law 350 = .ok (.iadd, 1) := by decide +kernel
theorem dL_law_351 : decode cL_law 351 = .ok (.iaload, 1) := by decide +kernel
theorem dL_law_352 : decode cL_law 352 = .ok (.invokevirtual 41, 3) := by decide +kernel
theorem dL_law_355 : decode cL_law 355 = .ok (.aload_n 2, 1) := by decide +kernel
theorem dL_law_356 : decode cL_law 356 = .ok (.aload_n 0, 1) := by decide +kernel
theorem dL_law_357 : decode cL_law 357 = .ok (.iload_n 3, 1) := by decide +kernel
theorem dL_law_358 : decode cL_law 358 = .ok (.iconst 1, 1) := by decide +kernel
theorem dL_law_359 : decode cL_law 359 = .ok (.iadd, 1) := by decide +kernel
theorem dL_law_360 : decode cL_law 360 = .ok (.iaload, 1) := by decide +kernel
theorem dL_law_361 : decode cL_law 361 = .ok (.invokevirtual 45, 3) := by decide +kernel
theorem dL_law_364 : decode cL_law 364 = .ok (.if_icmp .eq 794, 3) := by decide +kernel
theorem dL_law_367 : decode cL_law 367 = .ok (.iconst 0, 1) := by decide +kernel
theorem dL_law_368 : decode cL_law 368 = .ok (.ireturn, 1) := by decide +kernel
theorem dL_law_369 : decode cL_law 369 = .ok (.aload_n 1, 1) := by decide +kernel
theorem dL_law_370 : decode cL_law 370 = .ok (.aload_n 0, 1) := by decide +kernel
theorem dL_law_371 : decode cL_law 371 = .ok (.iload_n 3, 1) := by decide +kernel
theorem dL_law_372 : decode cL_law 372 = .ok (.iconst 1, 1) := by decide +kernel
theorem dL_law_373 : decode cL_law 373 = .ok (.iadd, 1) := by decide +kernel
theorem dL_law_374 : decode cL_law 374 = .ok (.iaload, 1) := by decide +kernel
theorem dL_law_375 : decode cL_law 375 = .ok (.invokevirtual 46, 3) := by decide +kernel
theorem dL_law_378 : decode cL_law 378 = .ok (.aload_n 2, 1) := by decide +kernel
theorem dL_law_379 : decode cL_law 379 = .ok (.aload_n 0, 1) := by decide +kernel
theorem dL_law_380 : decode cL_law 380 = .ok (.iload_n 3, 1) := by decide +kernel
theorem dL_law_381 : decode cL_law 381 = .ok (.iconst 1, 1) := by decide +kernel
theorem dL_law_382 : decode cL_law 382 = .ok (.iadd, 1) := by decide +kernel
theorem dL_law_383 : decode cL_law 383 = .ok (.iaload, 1) := by decide +kernel
theorem dL_law_384 : decode cL_law 384 = .ok (.invokevirtual 49, 3) := by decide +kernel
theorem dL_law_387 : decode cL_law 387 = .ok (.if_icmp .eq 771, 3) := by decide +kernel
theorem dL_law_390 : decode cL_law 390 = .ok (.iconst 0, 1) := by decide +kernel
theorem dL_law_391 : decode cL_law 391 = .ok (.ireturn, 1) := by decide +kernel
theorem dL_law_392 : decode cL_law 392 = .ok (.aload_n 1, 1) := by decide +kernel
theorem dL_law_393 : decode cL_law 393 = .ok (.aload_n 0, 1) := by decide +kernel
theorem dL_law_394 : decode cL_law 394 = .ok (.iload_n 3, 1) := by decide +kernel
theorem dL_law_395 : decode cL_law 395 = .ok (.iconst 1, 1) := by decide +kernel
theorem dL_law_396 : decode cL_law 396 = .ok (.iadd, 1) := by decide +kernel
theorem dL_law_397 : decode cL_law 397 = .ok (.iaload, 1) := by decide +kernel
theorem dL_law_398 : decode cL_law 398 = .ok (.aload_n 0, 1) := by decide +kernel
theorem dL_law_399 : decode cL_law 399 = .ok (.iload_n 3, 1) := by decide +kernel
theorem dL_law_400 : decode cL_law 400 = .ok (.iconst 2, 1) := by decide +kernel
theorem dL_law_401 : decode cL_law 401 = .ok (.iadd, 1) := by decide +kernel
theorem dL_law_402 : decode cL_law 402 = .ok (.iaload, 1) := by decide +kernel
theorem dL_law_403 : decode cL_law 403 = .ok (.invokevirtual 50, 3) := by decide +kernel
theorem dL_law_406 : decode cL_law 406 = .ok (.aload_n 2, 1) := by decide +kernel
theorem dL_law_407 : decode cL_law 407 = .ok (.aload_n 0, 1) := by decide +kernel
theorem dL_law_408 : decode cL_law 408 = .ok (.iload_n 3, 1) := by decide +kernel
theorem dL_law_409 : decode cL_law 409 = .ok (.iconst 1, 1) := by decide +kernel
theorem dL_law_410 : decode cL_law 410 = .ok (.iadd, 1) := by decide +kernel
theorem dL_law_411 : decode cL_law 411 = .ok (.iaload, 1) := by decide +kernel
theorem dL_law_412 : decode cL_law 412 = .ok (.aload_n 0, 1) := by decide +kernel
theorem dL_law_413 : decode cL_law 413 = .ok (.iload_n 3, 1) := by decide +kernel
theorem dL_law_414 : decode cL_law 414 = .ok (.iconst 2, 1) := by decide +kernel
theorem dL_law_415 : decode cL_law 415 = .ok (.iadd, 1) := by decide +kernel
theorem dL_law_416 : decode cL_law 416 = .ok (.iaload, 1) := by decide +kernel
theorem dL_law_417 : decode cL_law 417 = .ok (.invokevirtual 54, 3) := by decide +kernel
theorem dL_law_420 : decode cL_law 420 = .ok (.if_icmp .eq 738, 3) := by decide +kernel
theorem dL_law_423 : decode cL_law 423 = .ok (.iconst 0, 1) := by decide +kernel
theorem dL_law_424 : decode cL_law 424 = .ok (.ireturn, 1) := by decide +kernel
theorem dL_law_425 : decode cL_law 425 = .ok (.aload_n 1, 1) := by decide +kernel
theorem dL_law_426 : decode cL_law 426 = .ok (.aload_n 0, 1) := by decide +kernel
theorem dL_law_427 : decode cL_law 427 = .ok (.iload_n 3, 1) := by decide +kernel
theorem dL_law_428 : decode cL_law 428 = .ok (.iconst 1, 1) := by decide +kernel
theorem dL_law_429 : decode cL_law 429 = .ok (.iadd, 1) := by decide +kernel
theorem dL_law_430 : decode cL_law 430 = .ok (.iaload, 1) := by decide +kernel
theorem dL_law_431 : decode cL_law 431 = .ok (.aload_n 0, 1) := by decide +kernel
theorem dL_law_432 : decode cL_law 432 = .ok (.iload_n 3, 1) := by decide +kernel
theorem dL_law_433 : decode cL_law 433 = .ok (.iconst 2, 1) := by decide +kernel
theorem dL_law_434 : decode cL_law 434 = .ok (.iadd, 1) := by decide +kernel
theorem dL_law_435 : decode cL_law 435 = .ok (.iaload, 1) := by decide +kernel
theorem dL_law_436 : decode cL_law 436 = .ok (.aload_n 0, 1) := by decide +kernel
theorem dL_law_437 : decode cL_law 437 = .ok (.iload_n 3, 1) := by decide +kernel
theorem dL_law_438 : decode cL_law 438 = .ok (.iconst 3, 1) := by decide +kernel
theorem dL_law_439 : decode cL_law 439 = .ok (.iadd, 1) := by decide +kernel
theorem dL_law_440 : decode cL_law 440 = .ok (.iaload, 1) := by decide +kernel
theorem dL_law_441 : decode cL_law 441 = .ok (.aload_n 0, 1) := by decide +kernel
theorem dL_law_442 : decode cL_law 442 = .ok (.iload_n 3, 1) := by decide +kernel
theorem dL_law_443 : decode cL_law 443 = .ok (.iconst 4, 1) := by decide +kernel
theorem dL_law_444 : decode cL_law 444 = .ok (.iadd, 1) := by decide +kernel
theorem dL_law_445 : decode cL_law 445 = .ok (.iaload, 1) := by decide +kernel
theorem dL_law_446 : decode cL_law 446 = .ok (.invokevirtual 55, 3) := by decide +kernel
theorem dL_law_449 : decode cL_law 449 = .ok (.aload_n 2, 1) := by decide +kernel
theorem dL_law_450 : decode cL_law 450 = .ok (.aload_n 0, 1) := by decide +kernel
theorem dL_law_451 : decode cL_law 451 = .ok (.iload_n 3, 1) := by decide +kernel
theorem dL_law_452 : decode cL_law 452 = .ok (.iconst 1, 1) := by decide +kernel
theorem dL_law_453 : decode cL_law 453 = .ok (.iadd, 1) := by decide +kernel
theorem dL_law_454 : decode cL_law 454 = .ok (.iaload, 1) := by decide +kernel
theorem dL_law_455 : decode cL_law 455 = .ok (.aload_n 0, 1) := by decide +kernel
theorem dL_law_456 : decode cL_law 456 = .ok (.iload_n 3, 1) := by decide +kernel
theorem dL_law_457 : decode cL_law 457 = .ok (.iconst 2, 1) := by decide +kernel
theorem dL_law_458 : decode cL_law 458 = .ok (.iadd, 1) := by decide +kernel
theorem dL_law_459 : decode cL_law 459 = .ok (.iaload, 1) := by decide +kernel
theorem dL_law_460 : decode cL_law 460 = .ok (.aload_n 0, 1) := by decide +kernel
theorem dL_law_461 : decode cL_law 461 = .ok (.iload_n 3, 1) := by decide +kernel
theorem dL_law_462 : decode cL_law 462 = .ok (.iconst 3, 1) := by decide +kernel
theorem dL_law_463 : decode cL_law 463 = .ok (.iadd, 1) := by decide +kernel
theorem dL_law_464 : decode cL_law 464 = .ok (.iaload, 1) := by decide +kernel
theorem dL_law_465 : decode cL_law 465 = .ok (.aload_n 0, 1) := by decide +kernel
theorem dL_law_466 : decode cL_law 466 = .ok (.iload_n 3, 1) := by decide +kernel
theorem dL_law_467 : decode cL_law 467 = .ok (.iconst 4, 1) := by decide +kernel
theorem dL_law_468 : decode cL_law 468 = .ok (.iadd, 1) := by decide +kernel
theorem dL_law_469 : decode cL_law 469 = .ok (.iaload, 1) := by decide +kernel
theorem dL_law_470 : decode cL_law 470 = .ok (.invokevirtual 59, 3) := by decide +kernel
theorem dL_law_473 : decode cL_law 473 = .ok (.if_icmp .eq 685, 3) := by decide +kernel
theorem dL_law_476 : decode cL_law 476 = .ok (.iconst 0, 1) := by decide +kernel
theorem dL_law_477 : decode cL_law 477 = .ok (.ireturn, 1) := by decide +kernel
theorem dL_law_478 : decode cL_law 478 = .ok (.aload_n 1, 1) := by decide +kernel
theorem dL_law_479 : decode cL_law 479 = .ok (.aload_n 0, 1) := by decide +kernel
theorem dL_law_480 : decode cL_law 480 = .ok (.iload_n 3, 1) := by decide +kernel
theorem dL_law_481 : decode cL_law 481 = .ok (.iconst 1, 1) := by decide +kernel
theorem dL_law_482 : decode cL_law 482 = .ok (.iadd, 1) := by decide +kernel
theorem dL_law_483 : decode cL_law 483 = .ok (.iaload, 1) := by decide +kernel
theorem dL_law_484 : decode cL_law 484 = .ok (.aload_n 0, 1) := by decide +kernel
theorem dL_law_485 : decode cL_law 485 = .ok (.iload_n 3, 1) := by decide +kernel
theorem dL_law_486 : decode cL_law 486 = .ok (.iconst 2, 1) := by decide +kernel
theorem dL_law_487 : decode cL_law 487 = .ok (.iadd, 1) := by decide +kernel
theorem dL_law_488 : decode cL_law 488 = .ok (.iaload, 1) := by decide +kernel
theorem dL_law_489 : decode cL_law 489 = .ok (.aload_n 0, 1) := by decide +kernel
theorem dL_law_490 : decode cL_law 490 = .ok (.iload_n 3, 1) := by decide +kernel
theorem dL_law_491 : decode cL_law 491 = .ok (.iconst 3, 1) := by decide +kernel
theorem dL_law_492 : decode cL_law 492 = .ok (.iadd, 1) := by decide +kernel
theorem dL_law_493 : decode cL_law 493 = .ok (.iaload, 1) := by decide +kernel
theorem dL_law_494 : decode cL_law 494 = .ok (.invokevirtual 60, 3) := by decide +kernel
theorem dL_law_497 : decode cL_law 497 = .ok (.aload_n 2, 1) := by decide +kernel
theorem dL_law_498 : decode cL_law 498 = .ok (.aload_n 0, 1) := by decide +kernel
theorem dL_law_499 : decode cL_law 499 = .ok (.iload_n 3, 1) := by decide +kernel
theorem dL_law_500 : decode cL_law 500 = .ok (.iconst 1, 1) := by decide +kernel
theorem dL_law_501 : decode cL_law 501 = .ok (.iadd, 1) := by decide +kernel
theorem dL_law_502 : decode cL_law 502 = .ok (.iaload, 1) := by decide +kernel
theorem dL_law_503 : decode cL_law 503 = .ok (.aload_n 0, 1) := by decide +kernel
theorem dL_law_504 : decode cL_law 504 = .ok (.iload_n 3, 1) := by decide +kernel
theorem dL_law_505 : decode cL_law 505 = .ok (.iconst 2, 1) := by decide +kernel
theorem dL_law_506 : decode cL_law 506 = .ok (.iadd, 1) := by decide +kernel
theorem dL_law_507 : decode cL_law 507 = .ok (.iaload, 1) := by decide +kernel
theorem dL_law_508 : decode cL_law 508 = .ok (.aload_n 0, 1) := by decide +kernel
theorem dL_law_509 : decode cL_law 509 = .ok (.iload_n 3, 1) := by decide +kernel
theorem dL_law_510 : decode cL_law 510 = .ok (.iconst 3, 1) := by decide +kernel
theorem dL_law_511 : decode cL_law 511 = .ok (.iadd, 1) := by decide +kernel
theorem dL_law_512 : decode cL_law 512 = .ok (.iaload, 1) := by decide +kernel
theorem dL_law_513 : decode cL_law 513 = .ok (.invokevirtual 64, 3) := by decide +kernel
theorem dL_law_516 : decode cL_law 516 = .ok (.if_icmp .eq 642, 3) := by decide +kernel
theorem dL_law_519 : decode cL_law 519 = .ok (.iconst 0, 1) := by decide +kernel
theorem dL_law_520 : decode cL_law 520 = .ok (.ireturn, 1) := by decide +kernel
theorem dL_law_521 : decode cL_law 521 = .ok (.aload_n 1, 1) := by decide +kernel
theorem dL_law_522 : decode cL_law 522 = .ok (.aload_n 0, 1) := by decide +kernel
theorem dL_law_523 : decode cL_law 523 = .ok (.iload_n 3, 1) := by decide +kernel
theorem dL_law_524 : decode cL_law 524 = .ok (.iconst 1, 1) := by decide +kernel
theorem dL_law_525 : decode cL_law 525 = .ok (.iadd, 1) := by decide +kernel
theorem dL_law_526 : decode cL_law 526 = .ok (.iaload, 1) := by decide +kernel
theorem dL_law_527 : decode cL_law 527 = .ok (.invokevirtual 65, 3) := by decide +kernel
theorem dL_law_530 : decode cL_law 530 = .ok (.aload_n 2, 1) := by decide +kernel
theorem dL_law_531 : decode cL_law 531 = .ok (.aload_n 0, 1) := by decide +kernel
theorem dL_law_532 : decode cL_law 532 = .ok (.iload_n 3, 1) := by decide +kernel
theorem dL_law_533 : decode cL_law 533 = .ok (.iconst 1, 1) := by decide +kernel
theorem dL_law_534 : decode cL_law 534 = .ok (.iadd, 1) := by decide +kernel
theorem dL_law_535 : decode cL_law 535 = .ok (.iaload, 1) := by decide +kernel
theorem dL_law_536 : decode cL_law 536 = .ok (.invokevirtual 68, 3) := by decide +kernel
theorem dL_law_539 : decode cL_law 539 = .ok (.if_icmp .eq 619, 3) := by decide +kernel
theorem dL_law_542 : decode cL_law 542 = .ok (.iconst 0, 1) := by decide +kernel
theorem dL_law_543 : decode cL_law 543 = .ok (.ireturn, 1) := by decide +kernel
theorem dL_law_544 : decode cL_law 544 = .ok (.aload_n 1, 1) := by decide +kernel
theorem dL_law_545 : decode cL_law 545 = .ok (.aload_n 0, 1) := by decide +kernel
theorem dL_law_546 : decode cL_law 546 = .ok (.iload_n 3, 1) := by decide +kernel
theorem dL_law_547 : decode cL_law 547 = .ok (.iconst 1, 1) := by decide +kernel
theorem dL_law_548 : decode cL_law 548 = .ok (.iadd, 1) := by decide +kernel
theorem dL_law_549 : decode cL_law 549 = .ok (.iaload, 1) := by decide +kernel
theorem dL_law_550 : decode cL_law 550 = .ok (.aload_n 0, 1) := by decide +kernel
theorem dL_law_551 : decode cL_law 551 = .ok (.iload_n 3, 1) := by decide +kernel
theorem dL_law_552 : decode cL_law 552 = .ok (.iconst 2, 1) := by decide +kernel
theorem dL_law_553 : decode cL_law 553 = .ok (.iadd, 1) := by decide +kernel
theorem dL_law_554 : decode cL_law 554 = .ok (.iaload, 1) := by decide +kernel
theorem dL_law_555 : decode cL_law 555 = .ok (.aload_n 0, 1) := by decide +kernel
theorem dL_law_556 : decode cL_law 556 = .ok (.iload_n 3, 1) := by decide +kernel
theorem dL_law_557 : decode cL_law 557 = .ok (.iconst 3, 1) := by decide +kernel
theorem dL_law_558 : decode cL_law 558 = .ok (.iadd, 1) := by decide +kernel
theorem dL_law_559 : decode cL_law 559 = .ok (.iaload, 1) := by decide +kernel
theorem dL_law_560 : decode cL_law 560 = .ok (.aload_n 0, 1) := by decide +kernel
theorem dL_law_561 : decode cL_law 561 = .ok (.iload_n 3, 1) := by decide +kernel
theorem dL_law_562 : decode cL_law 562 = .ok (.iconst 4, 1) := by decide +kernel
theorem dL_law_563 : decode cL_law 563 = .ok (.iadd, 1) := by decide +kernel
theorem dL_law_564 : decode cL_law 564 = .ok (.iaload, 1) := by decide +kernel
theorem dL_law_565 : decode cL_law 565 = .ok (.invokevirtual 69, 3) := by decide +kernel
theorem dL_law_568 : decode cL_law 568 = .ok (.aload_n 2, 1) := by decide +kernel
theorem dL_law_569 : decode cL_law 569 = .ok (.aload_n 0, 1) := by decide +kernel
theorem dL_law_570 : decode cL_law 570 = .ok (.iload_n 3, 1) := by decide +kernel
theorem dL_law_571 : decode cL_law 571 = .ok (.iconst 1, 1) := by decide +kernel
theorem dL_law_572 : decode cL_law 572 = .ok (.iadd, 1) := by decide +kernel
theorem dL_law_573 : decode cL_law 573 = .ok (.iaload, 1) := by decide +kernel
theorem dL_law_574 : decode cL_law 574 = .ok (.aload_n 0, 1) := by decide +kernel
theorem dL_law_575 : decode cL_law 575 = .ok (.iload_n 3, 1) := by decide +kernel
theorem dL_law_576 : decode cL_law 576 = .ok (.iconst 2, 1) := by decide +kernel
theorem dL_law_577 : decode cL_law 577 = .ok (.iadd, 1) := by decide +kernel
theorem dL_law_578 : decode cL_law 578 = .ok (.iaload, 1) := by decide +kernel
theorem dL_law_579 : decode cL_law 579 = .ok (.aload_n 0, 1) := by decide +kernel
theorem dL_law_580 : decode cL_law 580 = .ok (.iload_n 3, 1) := by decide +kernel
theorem dL_law_581 : decode cL_law 581 = .ok (.iconst 3, 1) := by decide +kernel
theorem dL_law_582 : decode cL_law 582 = .ok (.iadd, 1) := by decide +kernel
theorem dL_law_583 : decode cL_law 583 = .ok (.iaload, 1) := by decide +kernel
theorem dL_law_584 : decode cL_law 584 = .ok (.aload_n 0, 1) := by decide +kernel
theorem dL_law_585 : decode cL_law 585 = .ok (.iload_n 3, 1) := by decide +kernel
theorem dL_law_586 : decode cL_law 586 = .ok (.iconst 4, 1) := by decide +kernel
theorem dL_law_587 : decode cL_law 587 = .ok (.iadd, 1) := by decide +kernel
theorem dL_law_588 : decode cL_law 588 = .ok (.iaload, 1) := by decide +kernel
theorem dL_law_589 : decode cL_law 589 = .ok (.invokevirtual 72, 3) := by decide +kernel
theorem dL_law_592 : decode cL_law 592 = .ok (.if_icmp .eq 566, 3) := by decide +kernel
theorem dL_law_595 : decode cL_law 595 = .ok (.iconst 0, 1) := by decide +kernel
theorem dL_law_596 : decode cL_law 596 = .ok (.ireturn, 1) := by decide +kernel
theorem dL_law_597 : decode cL_law 597 = .ok (.aload_n 1, 1) := by decide +kernel
theorem dL_law_598 : decode cL_law 598 = .ok (.aload_n 0, 1) := by decide +kernel
theorem dL_law_599 : decode cL_law 599 = .ok (.iload_n 3, 1) := by decide +kernel
theorem dL_law_600 : decode cL_law 600 = .ok (.iconst 1, 1) := by decide +kernel
theorem dL_law_601 : decode cL_law 601 = .ok (.iadd, 1) := by decide +kernel
theorem dL_law_602 : decode cL_law 602 = .ok (.iaload, 1) := by decide +kernel
theorem dL_law_603 : decode cL_law 603 = .ok (.aload_n 0, 1) := by decide +kernel
theorem dL_law_604 : decode cL_law 604 = .ok (.iload_n 3, 1) := by decide +kernel
theorem dL_law_605 : decode cL_law 605 = .ok (.iconst 2, 1) := by decide +kernel
theorem dL_law_606 : decode cL_law 606 = .ok (.iadd, 1) := by decide +kernel
theorem dL_law_607 : decode cL_law 607 = .ok (.iaload, 1) := by decide +kernel
theorem dL_law_608 : decode cL_law 608 = .ok (.invokevirtual 73, 3) := by decide +kernel
theorem dL_law_611 : decode cL_law 611 = .ok (.aload_n 2, 1) := by decide +kernel
theorem dL_law_612 : decode cL_law 612 = .ok (.aload_n 0, 1) := by decide +kernel
theorem dL_law_613 : decode cL_law 613 = .ok (.iload_n 3, 1) := by decide +kernel
theorem dL_law_614 : decode cL_law 614 = .ok (.iconst 1, 1) := by decide +kernel
theorem dL_law_615 : decode cL_law 615 = .ok (.iadd, 1) := by decide +kernel
theorem dL_law_616 : decode cL_law 616 = .ok (.iaload, 1) := by decide +kernel
theorem dL_law_617 : decode cL_law 617 = .ok (.aload_n 0, 1) := by decide +kernel
theorem dL_law_618 : decode cL_law 618 = .ok (.iload_n 3, 1) := by decide +kernel
theorem dL_law_619 : decode cL_law 619 = .ok (.iconst 2, 1) := by decide +kernel
theorem dL_law_620 : decode cL_law 620 = .ok (.iadd, 1) := by decide +kernel
theorem dL_law_621 : decode cL_law 621 = .ok (.iaload, 1) := by decide +kernel
theorem dL_law_622 : decode cL_law 622 = .ok (.invokevirtual 76, 3) := by decide +kernel
theorem dL_law_625 : decode cL_law 625 = .ok (.if_icmp .eq 533, 3) := by decide +kernel
theorem dL_law_628 : decode cL_law 628 = .ok (.iconst 0, 1) := by decide +kernel
theorem dL_law_629 : decode cL_law 629 = .ok (.ireturn, 1) := by decide +kernel
theorem dL_law_630 : decode cL_law 630 = .ok (.aload_n 1, 1) := by decide +kernel
theorem dL_law_631 : decode cL_law 631 = .ok (.aload_n 0, 1) := by decide +kernel
theorem dL_law_632 : decode cL_law 632 = .ok (.iload_n 3, 1) := by decide +kernel
theorem dL_law_633 : decode cL_law 633 = .ok (.iconst 1, 1) := by decide +kernel
theorem dL_law_634 : decode cL_law 634 = .ok (.iadd, 1) := by decide +kernel
theorem dL_law_635 : decode cL_law 635 = .ok (.iaload, 1) := by decide +kernel
theorem dL_law_636 : decode cL_law 636 = .ok (.aload_n 0, 1) := by decide +kernel
theorem dL_law_637 : decode cL_law 637 = .ok (.iload_n 3, 1) := by decide +kernel
theorem dL_law_638 : decode cL_law 638 = .ok (.iconst 2, 1) := by decide +kernel
theorem dL_law_639 : decode cL_law 639 = .ok (.iadd, 1) := by decide +kernel
theorem dL_law_640 : decode cL_law 640 = .ok (.iaload, 1) := by decide +kernel
theorem dL_law_641 : decode cL_law 641 = .ok (.invokevirtual 77, 3) := by decide +kernel
theorem dL_law_644 : decode cL_law 644 = .ok (.aload_n 2, 1) := by decide +kernel
theorem dL_law_645 : decode cL_law 645 = .ok (.aload_n 0, 1) := by decide +kernel
theorem dL_law_646 : decode cL_law 646 = .ok (.iload_n 3, 1) := by decide +kernel
theorem dL_law_647 : decode cL_law 647 = .ok (.iconst 1, 1) := by decide +kernel
theorem dL_law_648 : decode cL_law 648 = .ok (.iadd, 1) := by decide +kernel
theorem dL_law_649 : decode cL_law 649 = .ok (.iaload, 1) := by decide +kernel
theorem dL_law_650 : decode cL_law 650 = .ok (.aload_n 0, 1) := by decide +kernel
theorem dL_law_651 : decode cL_law 651 = .ok (.iload_n 3, 1) := by decide +kernel
theorem dL_law_652 : decode cL_law 652 = .ok (.iconst 2, 1) := by decide +kernel
theorem dL_law_653 : decode cL_law 653 = .ok (.iadd, 1) := by decide +kernel
theorem dL_law_654 : decode cL_law 654 = .ok (.iaload, 1) := by decide +kernel
theorem dL_law_655 : decode cL_law 655 = .ok (.invokevirtual 80, 3) := by decide +kernel
theorem dL_law_658 : decode cL_law 658 = .ok (.if_icmp .eq 500, 3) := by decide +kernel
theorem dL_law_661 : decode cL_law 661 = .ok (.iconst 0, 1) := by decide +kernel
theorem dL_law_662 : decode cL_law 662 = .ok (.ireturn, 1) := by decide +kernel
theorem dL_law_663 : decode cL_law 663 = .ok (.aload_n 1, 1) := by decide +kernel
theorem dL_law_664 : decode cL_law 664 = .ok (.aload_n 0, 1) := by decide +kernel
theorem dL_law_665 : decode cL_law 665 = .ok (.iload_n 3, 1) := by decide +kernel
theorem dL_law_666 : decode cL_law 666 = .ok (.iconst 1, 1) := by decide +kernel
theorem dL_law_667 : decode cL_law 667 = .ok (.iadd, 1) := by decide +kernel
theorem dL_law_668 : decode cL_law 668 = .ok (.iaload, 1) := by decide +kernel
theorem dL_law_669 : decode cL_law 669 = .ok (.aload_n 0, 1) := by decide +kernel
theorem dL_law_670 : decode cL_law 670 = .ok (.iload_n 3, 1) := by decide +kernel
theorem dL_law_671 : decode cL_law 671 = .ok (.iconst 2, 1) := by decide +kernel
theorem dL_law_672 : decode cL_law 672 = .ok (.iadd, 1) := by decide +kernel
theorem dL_law_673 : decode cL_law 673 = .ok (.iaload, 1) := by decide +kernel
theorem dL_law_674 : decode cL_law 674 = .ok (.aload_n 0, 1) := by decide +kernel
theorem dL_law_675 : decode cL_law 675 = .ok (.iload_n 3, 1) := by decide +kernel
theorem dL_law_676 : decode cL_law 676 = .ok (.iconst 3, 1) := by decide +kernel
theorem dL_law_677 : decode cL_law 677 = .ok (.iadd, 1) := by decide +kernel
theorem dL_law_678 : decode cL_law 678 = .ok (.iaload, 1) := by decide +kernel
theorem dL_law_679 : decode cL_law 679 = .ok (.aload_n 0, 1) := by decide +kernel
theorem dL_law_680 : decode cL_law 680 = .ok (.iload_n 3, 1) := by decide +kernel
theorem dL_law_681 : decode cL_law 681 = .ok (.iconst 4, 1) := by decide +kernel
theorem dL_law_682 : decode cL_law 682 = .ok (.iadd, 1) := by decide +kernel
theorem dL_law_683 : decode cL_law 683 = .ok (.iaload, 1) := by decide +kernel
theorem dL_law_684 : decode cL_law 684 = .ok (.invokevirtual 81, 3) := by decide +kernel
theorem dL_law_687 : decode cL_law 687 = .ok (.aload_n 2, 1) := by decide +kernel
theorem dL_law_688 : decode cL_law 688 = .ok (.aload_n 0, 1) := by decide +kernel
theorem dL_law_689 : decode cL_law 689 = .ok (.iload_n 3, 1) := by decide +kernel
theorem dL_law_690 : decode cL_law 690 = .ok (.iconst 1, 1) := by decide +kernel
theorem dL_law_691 : decode cL_law 691 = .ok (.iadd, 1) := by decide +kernel
theorem dL_law_692 : decode cL_law 692 = .ok (.iaload, 1) := by decide +kernel
theorem dL_law_693 : decode cL_law 693 = .ok (.aload_n 0, 1) := by decide +kernel
theorem dL_law_694 : decode cL_law 694 = .ok (.iload_n 3, 1) := by decide +kernel
theorem dL_law_695 : decode cL_law 695 = .ok (.iconst 2, 1) := by decide +kernel
theorem dL_law_696 : decode cL_law 696 = .ok (.iadd, 1) := by decide +kernel
theorem dL_law_697 : decode cL_law 697 = .ok (.iaload, 1) := by decide +kernel
theorem dL_law_698 : decode cL_law 698 = .ok (.aload_n 0, 1) := by decide +kernel
theorem dL_law_699 : decode cL_law 699 = .ok (.iload_n 3, 1) := by decide +kernel
theorem dL_law_700 : decode cL_law 700 = .ok (.iconst 3, 1) := by decide +kernel
theorem dL_law_701 : decode cL_law 701 = .ok (.iadd, 1) := by decide +kernel
theorem dL_law_702 : decode cL_law 702 = .ok (.iaload, 1) := by decide +kernel
theorem dL_law_703 : decode cL_law 703 = .ok (.aload_n 0, 1) := by decide +kernel
theorem dL_law_704 : decode cL_law 704 = .ok (.iload_n 3, 1) := by decide +kernel
theorem dL_law_705 : decode cL_law 705 = .ok (.iconst 4, 1) := by decide +kernel
theorem dL_law_706 : decode cL_law 706 = .ok (.iadd, 1) := by decide +kernel
theorem dL_law_707 : decode cL_law 707 = .ok (.iaload, 1) := by decide +kernel
theorem dL_law_708 : decode cL_law 708 = .ok (.invokevirtual 84, 3) := by decide +kernel
theorem dL_law_711 : decode cL_law 711 = .ok (.if_icmp .eq 447, 3) := by decide +kernel
theorem dL_law_714 : decode cL_law 714 = .ok (.iconst 0, 1) := by decide +kernel
theorem dL_law_715 : decode cL_law 715 = .ok (.ireturn, 1) := by decide +kernel
theorem dL_law_716 : decode cL_law 716 = .ok (.aload_n 1, 1) := by decide +kernel
theorem dL_law_717 : decode cL_law 717 = .ok (.aload_n 0, 1) := by decide +kernel
theorem dL_law_718 : decode cL_law 718 = .ok (.iload_n 3, 1) := by decide +kernel
theorem dL_law_719 : decode cL_law 719 = .ok (.iconst 1, 1) := by decide +kernel
theorem dL_law_720 : decode cL_law 720 = .ok (.iadd, 1) := by decide +kernel
theorem dL_law_721 : decode cL_law 721 = .ok (.iaload, 1) := by decide +kernel
theorem dL_law_722 : decode cL_law 722 = .ok (.aload_n 0, 1) := by decide +kernel
theorem dL_law_723 : decode cL_law 723 = .ok (.iload_n 3, 1) := by decide +kernel
theorem dL_law_724 : decode cL_law 724 = .ok (.iconst 2, 1) := by decide +kernel
theorem dL_law_725 : decode cL_law 725 = .ok (.iadd, 1) := by decide +kernel
theorem dL_law_726 : decode cL_law 726 = .ok (.iaload, 1) := by decide +kernel
theorem dL_law_727 : decode cL_law 727 = .ok (.aload_n 0, 1) := by decide +kernel
theorem dL_law_728 : decode cL_law 728 = .ok (.iload_n 3, 1) := by decide +kernel
theorem dL_law_729 : decode cL_law 729 = .ok (.iconst 3, 1) := by decide +kernel
theorem dL_law_730 : decode cL_law 730 = .ok (.iadd, 1) := by decide +kernel
theorem dL_law_731 : decode cL_law 731 = .ok (.iaload, 1) := by decide +kernel
theorem dL_law_732 : decode cL_law 732 = .ok (.invokevirtual 85, 3) := by decide +kernel
theorem dL_law_735 : decode cL_law 735 = .ok (.aload_n 2, 1) := by decide +kernel
theorem dL_law_736 : decode cL_law 736 = .ok (.aload_n 0, 1) := by decide +kernel
theorem dL_law_737 : decode cL_law 737 = .ok (.iload_n 3, 1) := by decide +kernel
theorem dL_law_738 : decode cL_law 738 = .ok (.iconst 1, 1) := by decide +kernel
theorem dL_law_739 : decode cL_law 739 = .ok (.iadd, 1) := by decide +kernel
theorem dL_law_740 : decode cL_law 740 = .ok (.iaload, 1) := by decide +kernel
theorem dL_law_741 : decode cL_law 741 = .ok (.aload_n 0, 1) := by decide +kernel
theorem dL_law_742 : decode cL_law 742 = .ok (.iload_n 3, 1) := by decide +kernel
theorem dL_law_743 : decode cL_law 743 = .ok (.iconst 2, 1) := by decide +kernel
theorem dL_law_744 : decode cL_law 744 = .ok (.iadd, 1) := by decide +kernel
theorem dL_law_745 : decode cL_law 745 = .ok (.iaload, 1) := by decide +kernel
theorem dL_law_746 : decode cL_law 746 = .ok (.aload_n 0, 1) := by decide +kernel
theorem dL_law_747 : decode cL_law 747 = .ok (.iload_n 3, 1) := by decide +kernel
theorem dL_law_748 : decode cL_law 748 = .ok (.iconst 3, 1) := by decide +kernel
theorem dL_law_749 : decode cL_law 749 = .ok (.iadd, 1) := by decide +kernel
theorem dL_law_750 : decode cL_law 750 = .ok (.iaload, 1) := by decide +kernel
theorem dL_law_751 : decode cL_law 751 = .ok (.invokevirtual 88, 3) := by decide +kernel
theorem dL_law_754 : decode cL_law 754 = .ok (.if_icmp .eq 404, 3) := by decide +kernel
theorem dL_law_757 : decode cL_law 757 = .ok (.iconst 0, 1) := by decide +kernel
theorem dL_law_758 : decode cL_law 758 = .ok (.ireturn, 1) := by decide +kernel
theorem dL_law_759 : decode cL_law 759 = .ok (.aload_n 1, 1) := by decide +kernel
theorem dL_law_760 : decode cL_law 760 = .ok (.aload_n 0, 1) := by decide +kernel
theorem dL_law_761 : decode cL_law 761 = .ok (.iload_n 3, 1) := by decide +kernel
theorem dL_law_762 : decode cL_law 762 = .ok (.iconst 1, 1) := by decide +kernel
theorem dL_law_763 : decode cL_law 763 = .ok (.iadd, 1) := by decide +kernel
theorem dL_law_764 : decode cL_law 764 = .ok (.iaload, 1) := by decide +kernel
theorem dL_law_765 : decode cL_law 765 = .ok (.aload_n 0, 1) := by decide +kernel
theorem dL_law_766 : decode cL_law 766 = .ok (.iload_n 3, 1) := by decide +kernel
theorem dL_law_767 : decode cL_law 767 = .ok (.iconst 2, 1) := by decide +kernel
theorem dL_law_768 : decode cL_law 768 = .ok (.iadd, 1) := by decide +kernel
theorem dL_law_769 : decode cL_law 769 = .ok (.iaload, 1) := by decide +kernel
theorem dL_law_770 : decode cL_law 770 = .ok (.invokevirtual 89, 3) := by decide +kernel
theorem dL_law_773 : decode cL_law 773 = .ok (.aload_n 2, 1) := by decide +kernel
theorem dL_law_774 : decode cL_law 774 = .ok (.aload_n 0, 1) := by decide +kernel
theorem dL_law_775 : decode cL_law 775 = .ok (.iload_n 3, 1) := by decide +kernel
theorem dL_law_776 : decode cL_law 776 = .ok (.iconst 1, 1) := by decide +kernel
theorem dL_law_777 : decode cL_law 777 = .ok (.iadd, 1) := by decide +kernel
theorem dL_law_778 : decode cL_law 778 = .ok (.iaload, 1) := by decide +kernel
theorem dL_law_779 : decode cL_law 779 = .ok (.aload_n 0, 1) := by decide +kernel
theorem dL_law_780 : decode cL_law 780 = .ok (.iload_n 3, 1) := by decide +kernel
theorem dL_law_781 : decode cL_law 781 = .ok (.iconst 2, 1) := by decide +kernel
theorem dL_law_782 : decode cL_law 782 = .ok (.iadd, 1) := by decide +kernel
theorem dL_law_783 : decode cL_law 783 = .ok (.iaload, 1) := by decide +kernel
theorem dL_law_784 : decode cL_law 784 = .ok (.invokevirtual 92, 3) := by decide +kernel
theorem dL_law_787 : decode cL_law 787 = .ok (.if_icmp .eq 371, 3) := by decide +kernel
theorem dL_law_790 : decode cL_law 790 = .ok (.iconst 0, 1) := by decide +kernel
theorem dL_law_791 : decode cL_law 791 = .ok (.ireturn, 1) := by decide +kernel
theorem dL_law_792 : decode cL_law 792 = .ok (.aload_n 1, 1) := by decide +kernel
theorem dL_law_793 : decode cL_law 793 = .ok (.aload_n 0, 1) := by decide +kernel
theorem dL_law_794 : decode cL_law 794 = .ok (.iload_n 3, 1) := by decide +kernel
theorem dL_law_795 : decode cL_law 795 = .ok (.iconst 1, 1) := by decide +kernel
theorem dL_law_796 : decode cL_law 796 = .ok (.iadd, 1) := by decide +kernel
theorem dL_law_797 : decode cL_law 797 = .ok (.iaload, 1) := by decide +kernel
theorem dL_law_798 : decode cL_law 798 = .ok (.invokevirtual 93, 3) := by decide +kernel
theorem dL_law_801 : decode cL_law 801 = .ok (.aload_n 2, 1) := by decide +kernel
theorem dL_law_802 : decode cL_law 802 = .ok (.aload_n 0, 1) := by decide +kernel
theorem dL_law_803 : decode cL_law 803 = .ok (.iload_n 3, 1) := by decide +kernel
theorem dL_law_804 : decode cL_law 804 = .ok (.iconst 1, 1) := by decide +kernel
theorem dL_law_805 : decode cL_law 805 = .ok (.iadd, 1) := by decide +kernel
theorem dL_law_806 : decode cL_law 806 = .ok (.iaload, 1) := by decide +kernel
theorem dL_law_807 : decode cL_law 807 = .ok (.invokevirtual 96, 3) := by decide +kernel
theorem dL_law_810 : decode cL_law 810 = .ok (.if_icmp .eq 348, 3) := by decide +kernel
theorem dL_law_813 : decode cL_law 813 = .ok (.iconst 0, 1) := by decide +kernel
theorem dL_law_814 : decode cL_law 814 = .ok (.ireturn, 1) := by decide +kernel
theorem dL_law_815 : decode cL_law 815 = .ok (.aload_n 1, 1) := by decide +kernel
theorem dL_law_816 : decode cL_law 816 = .ok (.aload_n 0, 1) := by decide +kernel
theorem dL_law_817 : decode cL_law 817 = .ok (.iload_n 3, 1) := by decide +kernel
theorem dL_law_818 : decode cL_law 818 = .ok (.iconst 1, 1) := by decide +kernel
theorem dL_law_819 : decode cL_law 819 = .ok (.iadd, 1) := by decide +kernel
theorem dL_law_820 : decode cL_law 820 = .ok (.iaload, 1) := by decide +kernel
theorem dL_law_821 : decode cL_law 821 = .ok (.aload_n 0, 1) := by decide +kernel
theorem dL_law_822 : decode cL_law 822 = .ok (.iload_n 3, 1) := by decide +kernel
theorem dL_law_823 : decode cL_law 823 = .ok (.iconst 2, 1) := by decide +kernel
theorem dL_law_824 : decode cL_law 824 = .ok (.iadd, 1) := by decide +kernel
theorem dL_law_825 : decode cL_law 825 = .ok (.iaload, 1) := by decide +kernel
theorem dL_law_826 : decode cL_law 826 = .ok (.invokevirtual 97, 3) := by decide +kernel
theorem dL_law_829 : decode cL_law 829 = .ok (.aload_n 2, 1) := by decide +kernel
theorem dL_law_830 : decode cL_law 830 = .ok (.aload_n 0, 1) := by decide +kernel
theorem dL_law_831 : decode cL_law 831 = .ok (.iload_n 3, 1) := by decide +kernel
theorem dL_law_832 : decode cL_law 832 = .ok (.iconst 1, 1) := by decide +kernel
theorem dL_law_833 : decode cL_law 833 = .ok (.iadd, 1) := by decide +kernel
theorem dL_law_834 : decode cL_law 834 = .ok (.iaload, 1) := by decide +kernel
theorem dL_law_835 : decode cL_law 835 = .ok (.aload_n 0, 1) := by decide +kernel
theorem dL_law_836 : decode cL_law 836 = .ok (.iload_n 3, 1) := by decide +kernel
theorem dL_law_837 : decode cL_law 837 = .ok (.iconst 2, 1) := by decide +kernel
theorem dL_law_838 : decode cL_law 838 = .ok (.iadd, 1) := by decide +kernel
theorem dL_law_839 : decode cL_law 839 = .ok (.iaload, 1) := by decide +kernel
theorem dL_law_840 : decode cL_law 840 = .ok (.invokevirtual 100, 3) := by decide +kernel
theorem dL_law_843 : decode cL_law 843 = .ok (.if_icmp .eq 315, 3) := by decide +kernel
theorem dL_law_846 : decode cL_law 846 = .ok (.iconst 0, 1) := by decide +kernel
theorem dL_law_847 : decode cL_law 847 = .ok (.ireturn, 1) := by decide +kernel
theorem dL_law_848 : decode cL_law 848 = .ok (.aload_n 1, 1) := by decide +kernel
theorem dL_law_849 : decode cL_law 849 = .ok (.aload_n 0, 1) := by decide +kernel
theorem dL_law_850 : decode cL_law 850 = .ok (.iload_n 3, 1) := by decide +kernel
theorem dL_law_851 : decode cL_law 851 = .ok (.iconst 1, 1) := by decide +kernel
theorem dL_law_852 : decode cL_law 852 = .ok (.iadd, 1) := by decide +kernel
theorem dL_law_853 : decode cL_law 853 = .ok (.iaload, 1) := by decide +kernel
theorem dL_law_854 : decode cL_law 854 = .ok (.aload_n 0, 1) := by decide +kernel
theorem dL_law_855 : decode cL_law 855 = .ok (.iload_n 3, 1) := by decide +kernel
theorem dL_law_856 : decode cL_law 856 = .ok (.iconst 2, 1) := by decide +kernel
theorem dL_law_857 : decode cL_law 857 = .ok (.iadd, 1) := by decide +kernel
theorem dL_law_858 : decode cL_law 858 = .ok (.iaload, 1) := by decide +kernel
theorem dL_law_859 : decode cL_law 859 = .ok (.invokevirtual 101, 3) := by decide +kernel
theorem dL_law_862 : decode cL_law 862 = .ok (.aload_n 2, 1) := by decide +kernel
theorem dL_law_863 : decode cL_law 863 = .ok (.aload_n 0, 1) := by decide +kernel
theorem dL_law_864 : decode cL_law 864 = .ok (.iload_n 3, 1) := by decide +kernel
theorem dL_law_865 : decode cL_law 865 = .ok (.iconst 1, 1) := by decide +kernel
theorem dL_law_866 : decode cL_law 866 = .ok (.iadd, 1) := by decide +kernel
theorem dL_law_867 : decode cL_law 867 = .ok (.iaload, 1) := by decide +kernel
theorem dL_law_868 : decode cL_law 868 = .ok (.aload_n 0, 1) := by decide +kernel
theorem dL_law_869 : decode cL_law 869 = .ok (.iload_n 3, 1) := by decide +kernel
theorem dL_law_870 : decode cL_law 870 = .ok (.iconst 2, 1) := by decide +kernel
theorem dL_law_871 : decode cL_law 871 = .ok (.iadd, 1) := by decide +kernel
theorem dL_law_872 : decode cL_law 872 = .ok (.iaload, 1) := by decide +kernel
theorem dL_law_873 : decode cL_law 873 = .ok (.invokevirtual 104, 3) := by decide +kernel
theorem dL_law_876 : decode cL_law 876 = .ok (.if_icmp .eq 282, 3) := by decide +kernel
theorem dL_law_879 : decode cL_law 879 = .ok (.iconst 0, 1) := by decide +kernel
theorem dL_law_880 : decode cL_law 880 = .ok (.ireturn, 1) := by decide +kernel
theorem dL_law_881 : decode cL_law 881 = .ok (.aload_n 1, 1) := by decide +kernel
theorem dL_law_882 : decode cL_law 882 = .ok (.aload_n 0, 1) := by decide +kernel
theorem dL_law_883 : decode cL_law 883 = .ok (.iload_n 3, 1) := by decide +kernel
theorem dL_law_884 : decode cL_law 884 = .ok (.iconst 1, 1) := by decide +kernel
theorem dL_law_885 : decode cL_law 885 = .ok (.iadd, 1) := by decide +kernel
theorem dL_law_886 : decode cL_law 886 = .ok (.iaload, 1) := by decide +kernel
theorem dL_law_887 : decode cL_law 887 = .ok (.aload_n 0, 1) := by decide +kernel
theorem dL_law_888 : decode cL_law 888 = .ok (.iload_n 3, 1) := by decide +kernel
theorem dL_law_889 : decode cL_law 889 = .ok (.iconst 2, 1) := by decide +kernel
theorem dL_law_890 : decode cL_law 890 = .ok (.iadd, 1) := by decide +kernel
theorem dL_law_891 : decode cL_law 891 = .ok (.iaload, 1) := by decide +kernel
theorem dL_law_892 : decode cL_law 892 = .ok (.invokevirtual 105, 3) := by decide +kernel
theorem dL_law_895 : decode cL_law 895 = .ok (.aload_n 2, 1) := by decide +kernel
theorem dL_law_896 : decode cL_law 896 = .ok (.aload_n 0, 1) := by decide +kernel
theorem dL_law_897 : decode cL_law 897 = .ok (.iload_n 3, 1) := by decide +kernel
theorem dL_law_898 : decode cL_law 898 = .ok (.iconst 1, 1) := by decide +kernel
theorem dL_law_899 : decode cL_law 899 = .ok (.iadd, 1) := by decide +kernel
theorem dL_law_900 : decode cL_law 900 = .ok (.iaload, 1) := by decide +kernel
theorem dL_law_901 : decode cL_law 901 = .ok (.aload_n 0, 1) := by decide +kernel
theorem dL_law_902 : decode cL_law 902 = .ok (.iload_n 3, 1) := by decide +kernel
theorem dL_law_903 : decode cL_law 903 = .ok (.iconst 2, 1) := by decide +kernel
theorem dL_law_904 : decode cL_law 904 = .ok (.iadd, 1) := by decide +kernel
theorem dL_law_905 : decode cL_law 905 = .ok (.iaload, 1) := by decide +kernel
theorem dL_law_906 : decode cL_law 906 = .ok (.invokevirtual 108, 3) := by decide +kernel
theorem dL_law_909 : decode cL_law 909 = .ok (.if_icmp .eq 249, 3) := by decide +kernel
theorem dL_law_912 : decode cL_law 912 = .ok (.iconst 0, 1) := by decide +kernel
theorem dL_law_913 : decode cL_law 913 = .ok (.ireturn, 1) := by decide +kernel
theorem dL_law_914 : decode cL_law 914 = .ok (.aload_n 1, 1) := by decide +kernel
theorem dL_law_915 : decode cL_law 915 = .ok (.aload_n 0, 1) := by decide +kernel
theorem dL_law_916 : decode cL_law 916 = .ok (.iload_n 3, 1) := by decide +kernel
theorem dL_law_917 : decode cL_law 917 = .ok (.iconst 1, 1) := by decide +kernel
theorem dL_law_918 : decode cL_law 918 = .ok (.iadd, 1) := by decide +kernel
theorem dL_law_919 : decode cL_law 919 = .ok (.iaload, 1) := by decide +kernel
theorem dL_law_920 : decode cL_law 920 = .ok (.aload_n 0, 1) := by decide +kernel
theorem dL_law_921 : decode cL_law 921 = .ok (.iload_n 3, 1) := by decide +kernel
theorem dL_law_922 : decode cL_law 922 = .ok (.iconst 2, 1) := by decide +kernel
theorem dL_law_923 : decode cL_law 923 = .ok (.iadd, 1) := by decide +kernel
theorem dL_law_924 : decode cL_law 924 = .ok (.iaload, 1) := by decide +kernel
theorem dL_law_925 : decode cL_law 925 = .ok (.invokevirtual 109, 3) := by decide +kernel
theorem dL_law_928 : decode cL_law 928 = .ok (.aload_n 2, 1) := by decide +kernel
theorem dL_law_929 : decode cL_law 929 = .ok (.aload_n 0, 1) := by decide +kernel
theorem dL_law_930 : decode cL_law 930 = .ok (.iload_n 3, 1) := by decide +kernel
theorem dL_law_931 : decode cL_law 931 = .ok (.iconst 1, 1) := by decide +kernel
theorem dL_law_932 : decode cL_law 932 = .ok (.iadd, 1) := by decide +kernel
theorem dL_law_933 : decode cL_law 933 = .ok (.iaload, 1) := by decide +kernel
theorem dL_law_934 : decode cL_law 934 = .ok (.aload_n 0, 1) := by decide +kernel
theorem dL_law_935 : decode cL_law 935 = .ok (.iload_n 3, 1) := by decide +kernel
theorem dL_law_936 : decode cL_law 936 = .ok (.iconst 2, 1) := by decide +kernel
theorem dL_law_937 : decode cL_law 937 = .ok (.iadd, 1) := by decide +kernel
theorem dL_law_938 : decode cL_law 938 = .ok (.iaload, 1) := by decide +kernel
theorem dL_law_939 : decode cL_law 939 = .ok (.invokevirtual 112, 3) := by decide +kernel
theorem dL_law_942 : decode cL_law 942 = .ok (.if_icmp .eq 216, 3) := by decide +kernel
theorem dL_law_945 : decode cL_law 945 = .ok (.iconst 0, 1) := by decide +kernel
theorem dL_law_946 : decode cL_law 946 = .ok (.ireturn, 1) := by decide +kernel
theorem dL_law_947 : decode cL_law 947 = .ok (.aload_n 1, 1) := by decide +kernel
theorem dL_law_948 : decode cL_law 948 = .ok (.aload_n 0, 1) := by decide +kernel
theorem dL_law_949 : decode cL_law 949 = .ok (.iload_n 3, 1) := by decide +kernel
theorem dL_law_950 : decode cL_law 950 = .ok (.iconst 1, 1) := by decide +kernel
theorem dL_law_951 : decode cL_law 951 = .ok (.iadd, 1) := by decide +kernel
theorem dL_law_952 : decode cL_law 952 = .ok (.iaload, 1) := by decide +kernel
theorem dL_law_953 : decode cL_law 953 = .ok (.aload_n 0, 1) := by decide +kernel
theorem dL_law_954 : decode cL_law 954 = .ok (.iload_n 3, 1) := by decide +kernel
theorem dL_law_955 : decode cL_law 955 = .ok (.iconst 2, 1) := by decide +kernel
theorem dL_law_956 : decode cL_law 956 = .ok (.iadd, 1) := by decide +kernel
theorem dL_law_957 : decode cL_law 957 = .ok (.iaload, 1) := by decide +kernel
theorem dL_law_958 : decode cL_law 958 = .ok (.invokevirtual 113, 3) := by decide +kernel
theorem dL_law_961 : decode cL_law 961 = .ok (.aload_n 2, 1) := by decide +kernel
theorem dL_law_962 : decode cL_law 962 = .ok (.aload_n 0, 1) := by decide +kernel
theorem dL_law_963 : decode cL_law 963 = .ok (.iload_n 3, 1) := by decide +kernel
theorem dL_law_964 : decode cL_law 964 = .ok (.iconst 1, 1) := by decide +kernel
theorem dL_law_965 : decode cL_law 965 = .ok (.iadd, 1) := by decide +kernel
theorem dL_law_966 : decode cL_law 966 = .ok (.iaload, 1) := by decide +kernel
theorem dL_law_967 : decode cL_law 967 = .ok (.aload_n 0, 1) := by decide +kernel
theorem dL_law_968 : decode cL_law 968 = .ok (.iload_n 3, 1) := by decide +kernel
theorem dL_law_969 : decode cL_law 969 = .ok (.iconst 2, 1) := by decide +kernel
theorem dL_law_970 : decode cL_law 970 = .ok (.iadd, 1) := by decide +kernel
theorem dL_law_971 : decode cL_law 971 = .ok (.iaload, 1) := by decide +kernel
theorem dL_law_972 : decode cL_law 972 = .ok (.invokevirtual 116, 3) := by decide +kernel
theorem dL_law_975 : decode cL_law 975 = .ok (.if_icmp .eq 183, 3) := by decide +kernel
theorem dL_law_978 : decode cL_law 978 = .ok (.iconst 0, 1) := by decide +kernel
theorem dL_law_979 : decode cL_law 979 = .ok (.ireturn, 1) := by decide +kernel
theorem dL_law_980 : decode cL_law 980 = .ok (.aload_n 1, 1) := by decide +kernel
theorem dL_law_981 : decode cL_law 981 = .ok (.aload_n 0, 1) := by decide +kernel
theorem dL_law_982 : decode cL_law 982 = .ok (.iload_n 3, 1) := by decide +kernel
theorem dL_law_983 : decode cL_law 983 = .ok (.iconst 1, 1) := by decide +kernel
theorem dL_law_984 : decode cL_law 984 = .ok (.iadd, 1) := by decide +kernel
theorem dL_law_985 : decode cL_law 985 = .ok (.iaload, 1) := by decide +kernel
theorem dL_law_986 : decode cL_law 986 = .ok (.aload_n 0, 1) := by decide +kernel
theorem dL_law_987 : decode cL_law 987 = .ok (.iload_n 3, 1) := by decide +kernel
theorem dL_law_988 : decode cL_law 988 = .ok (.iconst 2, 1) := by decide +kernel
theorem dL_law_989 : decode cL_law 989 = .ok (.iadd, 1) := by decide +kernel
theorem dL_law_990 : decode cL_law 990 = .ok (.iaload, 1) := by decide +kernel
theorem dL_law_991 : decode cL_law 991 = .ok (.invokevirtual 117, 3) := by decide +kernel
theorem dL_law_994 : decode cL_law 994 = .ok (.aload_n 2, 1) := by decide +kernel
theorem dL_law_995 : decode cL_law 995 = .ok (.aload_n 0, 1) := by decide +kernel
theorem dL_law_996 : decode cL_law 996 = .ok (.iload_n 3, 1) := by decide +kernel
theorem dL_law_997 : decode cL_law 997 = .ok (.iconst 1, 1) := by decide +kernel
theorem dL_law_998 : decode cL_law 998 = .ok (.iadd, 1) := by decide +kernel
theorem dL_law_999 : decode cL_law 999 = .ok (.iaload, 1) := by decide +kernel
theorem dL_law_1000 : decode cL_law 1000 = .ok (.aload_n 0, 1) := by decide +kernel
theorem dL_law_1001 : decode cL_law 1001 = .ok (.iload_n 3, 1) := by decide +kernel
theorem dL_law_1002 : decode cL_law 1002 = .ok (.iconst 2, 1) := by decide +kernel
theorem dL_law_1003 : decode cL_law 1003 = .ok (.iadd, 1) := by decide +kernel
theorem dL_law_1004 : decode cL_law 1004 = .ok (.iaload, 1) := by decide +kernel
theorem dL_law_1005 : decode cL_law 1005 = .ok (.invokevirtual 120, 3) := by decide +kernel
theorem dL_law_1008 : decode cL_law 1008 = .ok (.if_icmp .eq 150, 3) := by decide +kernel
theorem dL_law_1011 : decode cL_law 1011 = .ok (.iconst 0, 1) := by decide +kernel
theorem dL_law_1012 : decode cL_law 1012 = .ok (.ireturn, 1) := by decide +kernel
theorem dL_law_1013 : decode cL_law 1013 = .ok (.aload_n 1, 1) := by decide +kernel
theorem dL_law_1014 : decode cL_law 1014 = .ok (.aload_n 0, 1) := by decide +kernel
theorem dL_law_1015 : decode cL_law 1015 = .ok (.iload_n 3, 1) := by decide +kernel
theorem dL_law_1016 : decode cL_law 1016 = .ok (.iconst 1, 1) := by decide +kernel
theorem dL_law_1017 : decode cL_law 1017 = .ok (.iadd, 1) := by decide +kernel
theorem dL_law_1018 : decode cL_law 1018 = .ok (.iaload, 1) := by decide +kernel
theorem dL_law_1019 : decode cL_law 1019 = .ok (.aload_n 0, 1) := by decide +kernel
theorem dL_law_1020 : decode cL_law 1020 = .ok (.iload_n 3, 1) := by decide +kernel
theorem dL_law_1021 : decode cL_law 1021 = .ok (.iconst 2, 1) := by decide +kernel
theorem dL_law_1022 : decode cL_law 1022 = .ok (.iadd, 1) := by decide +kernel
theorem dL_law_1023 : decode cL_law 1023 = .ok (.iaload, 1) := by decide +kernel
theorem dL_law_1024 : decode cL_law 1024 = .ok (.invokevirtual 121, 3) := by decide +kernel
theorem dL_law_1027 : decode cL_law 1027 = .ok (.aload_n 2, 1) := by decide +kernel
theorem dL_law_1028 : decode cL_law 1028 = .ok (.aload_n 0, 1) := by decide +kernel
theorem dL_law_1029 : decode cL_law 1029 = .ok (.iload_n 3, 1) := by decide +kernel
theorem dL_law_1030 : decode cL_law 1030 = .ok (.iconst 1, 1) := by decide +kernel
theorem dL_law_1031 : decode cL_law 1031 = .ok (.iadd, 1) := by decide +kernel
theorem dL_law_1032 : decode cL_law 1032 = .ok (.iaload, 1) := by decide +kernel
theorem dL_law_1033 : decode cL_law 1033 = .ok (.aload_n 0, 1) := by decide +kernel
theorem dL_law_1034 : decode cL_law 1034 = .ok (.iload_n 3, 1) := by decide +kernel
theorem dL_law_1035 : decode cL_law 1035 = .ok (.iconst 2, 1) := by decide +kernel
theorem dL_law_1036 : decode cL_law 1036 = .ok (.iadd, 1) := by decide +kernel
theorem dL_law_1037 : decode cL_law 1037 = .ok (.iaload, 1) := by decide +kernel
theorem dL_law_1038 : decode cL_law 1038 = .ok (.invokevirtual 124, 3) := by decide +kernel
theorem dL_law_1041 : decode cL_law 1041 = .ok (.if_icmp .eq 117, 3) := by decide +kernel
theorem dL_law_1044 : decode cL_law 1044 = .ok (.iconst 0, 1) := by decide +kernel
theorem dL_law_1045 : decode cL_law 1045 = .ok (.ireturn, 1) := by decide +kernel
theorem dL_law_1046 : decode cL_law 1046 = .ok (.aload_n 1, 1) := by decide +kernel
theorem dL_law_1047 : decode cL_law 1047 = .ok (.aload_n 0, 1) := by decide +kernel
theorem dL_law_1048 : decode cL_law 1048 = .ok (.iload_n 3, 1) := by decide +kernel
theorem dL_law_1049 : decode cL_law 1049 = .ok (.iconst 1, 1) := by decide +kernel
theorem dL_law_1050 : decode cL_law 1050 = .ok (.iadd, 1) := by decide +kernel
theorem dL_law_1051 : decode cL_law 1051 = .ok (.iaload, 1) := by decide +kernel
theorem dL_law_1052 : decode cL_law 1052 = .ok (.invokevirtual 125, 3) := by decide +kernel
theorem dL_law_1055 : decode cL_law 1055 = .ok (.aload_n 2, 1) := by decide +kernel
theorem dL_law_1056 : decode cL_law 1056 = .ok (.aload_n 0, 1) := by decide +kernel
theorem dL_law_1057 : decode cL_law 1057 = .ok (.iload_n 3, 1) := by decide +kernel
theorem dL_law_1058 : decode cL_law 1058 = .ok (.iconst 1, 1) := by decide +kernel
theorem dL_law_1059 : decode cL_law 1059 = .ok (.iadd, 1) := by decide +kernel
theorem dL_law_1060 : decode cL_law 1060 = .ok (.iaload, 1) := by decide +kernel
theorem dL_law_1061 : decode cL_law 1061 = .ok (.invokevirtual 128, 3) := by decide +kernel
theorem dL_law_1064 : decode cL_law 1064 = .ok (.if_icmp .eq 94, 3) := by decide +kernel
theorem dL_law_1067 : decode cL_law 1067 = .ok (.iconst 0, 1) := by decide +kernel
theorem dL_law_1068 : decode cL_law 1068 = .ok (.ireturn, 1) := by decide +kernel
theorem dL_law_1069 : decode cL_law 1069 = .ok (.aload_n 1, 1) := by decide +kernel
theorem dL_law_1070 : decode cL_law 1070 = .ok (.aload_n 0, 1) := by decide +kernel
theorem dL_law_1071 : decode cL_law 1071 = .ok (.iload_n 3, 1) := by decide +kernel
theorem dL_law_1072 : decode cL_law 1072 = .ok (.iconst 1, 1) := by decide +kernel
theorem dL_law_1073 : decode cL_law 1073 = .ok (.iadd, 1) := by decide +kernel
theorem dL_law_1074 : decode cL_law 1074 = .ok (.iaload, 1) := by decide +kernel
theorem dL_law_1075 : decode cL_law 1075 = .ok (.aload_n 0, 1) := by decide +kernel
theorem dL_law_1076 : decode cL_law 1076 = .ok (.iload_n 3, 1) := by decide +kernel
theorem dL_law_1077 : decode cL_law 1077 = .ok (.iconst 2, 1) := by decide +kernel
theorem dL_law_1078 : decode cL_law 1078 = .ok (.iadd, 1) := by decide +kernel
theorem dL_law_1079 : decode cL_law 1079 = .ok (.iaload, 1) := by decide +kernel
theorem dL_law_1080 : decode cL_law 1080 = .ok (.invokevirtual 129, 3) := by decide +kernel
theorem dL_law_1083 : decode cL_law 1083 = .ok (.aload_n 2, 1) := by decide +kernel
theorem dL_law_1084 : decode cL_law 1084 = .ok (.aload_n 0, 1) := by decide +kernel
theorem dL_law_1085 : decode cL_law 1085 = .ok (.iload_n 3, 1) := by decide +kernel
theorem dL_law_1086 : decode cL_law 1086 = .ok (.iconst 1, 1) := by decide +kernel
theorem dL_law_1087 : decode cL_law 1087 = .ok (.iadd, 1) := by decide +kernel
theorem dL_law_1088 : decode cL_law 1088 = .ok (.iaload, 1) := by decide +kernel
theorem dL_law_1089 : decode cL_law 1089 = .ok (.aload_n 0, 1) := by decide +kernel
theorem dL_law_1090 : decode cL_law 1090 = .ok (.iload_n 3, 1) := by decide +kernel
theorem dL_law_1091 : decode cL_law 1091 = .ok (.iconst 2, 1) := by decide +kernel
theorem dL_law_1092 : decode cL_law 1092 = .ok (.iadd, 1) := by decide +kernel
theorem dL_law_1093 : decode cL_law 1093 = .ok (.iaload, 1) := by decide +kernel
theorem dL_law_1094 : decode cL_law 1094 = .ok (.invokevirtual 132, 3) := by decide +kernel
theorem dL_law_1097 : decode cL_law 1097 = .ok (.if_icmp .eq 61, 3) := by decide +kernel
theorem dL_law_1100 : decode cL_law 1100 = .ok (.iconst 0, 1) := by decide +kernel
theorem dL_law_1101 : decode cL_law 1101 = .ok (.ireturn, 1) := by decide +kernel
theorem dL_law_1102 : decode cL_law 1102 = .ok (.aload_n 1, 1) := by decide +kernel
theorem dL_law_1103 : decode cL_law 1103 = .ok (.aload_n 0, 1) := by decide +kernel
theorem dL_law_1104 : decode cL_law 1104 = .ok (.iload_n 3, 1) := by decide +kernel
theorem dL_law_1105 : decode cL_law 1105 = .ok (.iconst 1, 1) := by decide +kernel
theorem dL_law_1106 : decode cL_law 1106 = .ok (.iadd, 1) := by decide +kernel
theorem dL_law_1107 : decode cL_law 1107 = .ok (.iaload, 1) := by decide +kernel
theorem dL_law_1108 : decode cL_law 1108 = .ok (.aload_n 0, 1) := by decide +kernel
theorem dL_law_1109 : decode cL_law 1109 = .ok (.iload_n 3, 1) := by decide +kernel
theorem dL_law_1110 : decode cL_law 1110 = .ok (.iconst 2, 1) := by decide +kernel
theorem dL_law_1111 : decode cL_law 1111 = .ok (.iadd, 1) := by decide +kernel
theorem dL_law_1112 : decode cL_law 1112 = .ok (.iaload, 1) := by decide +kernel
theorem dL_law_1113 : decode cL_law 1113 = .ok (.invokevirtual 133, 3) := by decide +kernel
theorem dL_law_1116 : decode cL_law 1116 = .ok (.aload_n 2, 1) := by decide +kernel
theorem dL_law_1117 : decode cL_law 1117 = .ok (.aload_n 0, 1) := by decide +kernel
theorem dL_law_1118 : decode cL_law 1118 = .ok (.iload_n 3, 1) := by decide +kernel
theorem dL_law_1119 : decode cL_law 1119 = .ok (.iconst 1, 1) := by decide +kernel
theorem dL_law_1120 : decode cL_law 1120 = .ok (.iadd, 1) := by decide +kernel
theorem dL_law_1121 : decode cL_law 1121 = .ok (.iaload, 1) := by decide +kernel
theorem dL_law_1122 : decode cL_law 1122 = .ok (.aload_n 0, 1) := by decide +kernel
theorem dL_law_1123 : decode cL_law 1123 = .ok (.iload_n 3, 1) := by decide +kernel
theorem dL_law_1124 : decode cL_law 1124 = .ok (.iconst 2, 1) := by decide +kernel
theorem dL_law_1125 : decode cL_law 1125 = .ok (.iadd, 1) := by decide +kernel
theorem dL_law_1126 : decode cL_law 1126 = .ok (.iaload, 1) := by decide +kernel
theorem dL_law_1127 : decode cL_law 1127 = .ok (.invokevirtual 136, 3) := by decide +kernel
theorem dL_law_1130 : decode cL_law 1130 = .ok (.if_icmp .eq 28, 3) := by decide +kernel
theorem dL_law_1133 : decode cL_law 1133 = .ok (.iconst 0, 1) := by decide +kernel
theorem dL_law_1134 : decode cL_law 1134 = .ok (.ireturn, 1) := by decide +kernel
theorem dL_law_1135 : decode cL_law 1135 = .ok (.aload_n 1, 1) := by decide +kernel
theorem dL_law_1136 : decode cL_law 1136 = .ok (.aload_n 0, 1) := by decide +kernel
theorem dL_law_1137 : decode cL_law 1137 = .ok (.iload_n 3, 1) := by decide +kernel
theorem dL_law_1138 : decode cL_law 1138 = .ok (.iconst 1, 1) := by decide +kernel
theorem dL_law_1139 : decode cL_law 1139 = .ok (.iadd, 1) := by decide +kernel
theorem dL_law_1140 : decode cL_law 1140 = .ok (.iaload, 1) := by decide +kernel
theorem dL_law_1141 : decode cL_law 1141 = .ok (.invokevirtual 137, 3) := by decide +kernel
theorem dL_law_1144 : decode cL_law 1144 = .ok (.aload_n 2, 1) := by decide +kernel
theorem dL_law_1145 : decode cL_law 1145 = .ok (.aload_n 0, 1) := by decide +kernel
theorem dL_law_1146 : decode cL_law 1146 = .ok (.iload_n 3, 1) := by decide +kernel
theorem dL_law_1147 : decode cL_law 1147 = .ok (.iconst 1, 1) := by decide +kernel
theorem dL_law_1148 : decode cL_law 1148 = .ok (.iadd, 1) := by decide +kernel
theorem dL_law_1149 : decode cL_law 1149 = .ok (.iaload, 1) := by decide +kernel
theorem dL_law_1150 : decode cL_law 1150 = .ok (.invokevirtual 140, 3) := by decide +kernel
theorem dL_law_1153 : decode cL_law 1153 = .ok (.if_icmp .eq 5, 3) := by decide +kernel
theorem dL_law_1156 : decode cL_law 1156 = .ok (.iconst 0, 1) := by decide +kernel
theorem dL_law_1157 : decode cL_law 1157 = .ok (.ireturn, 1) := by decide +kernel
theorem dL_law_1158 : decode cL_law 1158 = .ok (.iinc 3 5, 3) := by decide +kernel
theorem dL_law_1161 : decode cL_law 1161 = .ok (.goto (-1143), 3) := by decide +kernel
theorem dL_law_1164 : decode cL_law 1164 = .ok (.iconst 1, 1) := by decide +kernel
theorem dL_law_1165 : decode cL_law 1165 = .ok (.ireturn, 1) := by decide +kernel
