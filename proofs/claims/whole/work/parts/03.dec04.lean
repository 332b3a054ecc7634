theorem dX6_append_113 : decode cX6_append 113 = .ok (.iand, 1) := by decide +kernel
theorem dX6_append_114 : decode cX6_append 114 = .ok (.iastore, 1) := by decide +kernel
theorem dX6_append_115 : decode cX6_append 115 = .ok (.aload_n 0, 1) := by decide +kernel
theorem dX6_append_116 : decode cX6_append 116 = .ok (.dup, 1) := by decide +kernel
theorem dX6_append_117 : decode cX6_append 117 = .ok (.getfield 57, 3) := by decide +kernel
theorem dX6_append_120 : decode cX6_append 120 = .ok (.iconst 1, 1) := by decide +kernel
theorem dX6_append_121 : decode cX6_append 121 = .ok (.iadd, 1) := by decide +kernel
theorem dX6_append_122 : decode cX6_append 122 = .ok (.putfield 57, 3) := by decide +kernel
theorem dX6_append_125 : decode cX6_append 125 = .ok (.iinc 6 1, 3) := by decide +kernel
theorem dX6_append_128 : decode cX6_append 128 = .ok (.goto (-94), 3) := by decide +kernel
theorem dX6_append_131 : decode cX6_append 131 = .ok (.aload_n 0, 1) := by decide +kernel
theorem dX6_append_132 : decode cX6_append 132 = .ok (.getfield 57, 3) := by decide +kernel
theorem dX6_append_135 : decode cX6_append 135 = .ok (.ireturn, 1) := by decide +kernel
theorem dX6_see_0 : decode cX6_see 0 = .ok (.iload_n 1, 1) := by decide +kernel
theorem dX6_see_1 : decode cX6_see 1 = .ok (.aload_n 0, 1) := by decide +kernel
theorem dX6_see_2 : decode cX6_see 2 = .ok (.getfield 60, 3) := by decide +kernel
theorem dX6_see_5 : decode cX6_see 5 = .ok (.if_icmp .ge 12, 3) := by decide +kernel
theorem dX6_see_8 : decode cX6_see 8 = .ok (.aload_n 0, 1) := by decide +kernel
theorem dX6_see_9 : decode cX6_see 9 = .ok (.getfield 30, 3) := by decide +kernel
theorem dX6_see_12 : decode cX6_see 12 = .ok (.iload_n 1, 1) := by decide +kernel
theorem dX6_see_13 : decode cX6_see 13 = .ok (.iaload, 1) := by decide +kernel
theorem dX6_see_14 : decode cX6_see 14 = .ok (.goto 4, 3) := by decide +kernel
theorem dX6_see_17 : decode cX6_see 17 = .ok (.iconst (-1), 1) := by decide +kernel
theorem dX6_see_18 : decode cX6_see 18 = .ok (.ireturn, 1) := by decide +kernel
theorem dX6_next_0 : decode cX6_next 0 = .ok (.aload_n 0, 1) := by decide +kernel
theorem dX6_next_1 : decode cX6_next 1 = .ok (.aload_n 0, 1) := by decide +kernel
theorem dX6_next_2 : decode cX6_next 2 = .ok (.getfield 63, 3) := by decide +kernel
theorem dX6_next_5 : decode cX6_next 5 = .ok (.putfield 66, 3) := by decide +kernel
theorem dX6_next_8 : decode cX6_next 8 = .ok (.aload_n 0, 1) := by decide +kernel
theorem dX6_next_9 : decode cX6_next 9 = .ok (.aload_n 0, 1) := by decide +kernel
theorem dX6_next_10 : decode cX6_next 10 = .ok (.getfield 66, 3) := by decide +kernel
theorem dX6_next_13 : decode cX6_next 13 = .ok (.invokevirtual 69, 3) := by decide +kernel
theorem dX6_next_16 : decode cX6_next 16 = .ok (.bipush 32, 2) := by decide +kernel
theorem dX6_next_18 : decode cX6_next 18 = .ok (.if_icmp .ne 16, 3) := by decide +kernel
theorem dX6_next_21 : decode cX6_next 21 = .ok (.aload_n 0, 1) := by decide +kernel
theorem dX6_next_22 : decode cX6_next 22 = .ok (.dup, 1) := by decide +kernel
theorem dX6_next_23 : decode cX6_next 23 = .ok (.getfield 66, 3) := by decide +kernel
theorem dX6_next_26 : decode cX6_next 26 = .ok (.iconst 1, 1) := by decide +kernel
theorem dX6_next_27 : decode cX6_next 27 = .ok (.iadd, 1) := by decide +kernel
theorem dX6_next_28 : decode cX6_next 28 = .ok (.putfield 66, 3) := by decide +kernel
theorem dX6_next_31 : decode cX6_next 31 = .ok (.goto (-23), 3) := by decide +kernel
theorem dX6_next_34 : decode cX6_next 34 = .ok (.aload_n 0, 1) := by decide +kernel
theorem dX6_next_35 : decode cX6_next 35 = .ok (.aload_n 0, 1) := by decide +kernel
theorem dX6_next_36 : decode cX6_next 36 = .ok (.getfield 66, 3) := by decide +kernel
theorem dX6_next_39 : decode cX6_next 39 = .ok (.putfield 63, 3) := by decide +kernel
theorem dX6_next_42 : decode cX6_next 42 = .ok (.aload_n 0, 1) := by decide +kernel
theorem dX6_next_43 : decode cX6_next 43 = .ok (.getfield 66, 3) := by decide +kernel
theorem dX6_next_46 : decode cX6_next 46 = .ok (.aload_n 0, 1) := by decide +kernel
theorem dX6_next_47 : decode cX6_next 47 = .ok (.getfield 60, 3) := by decide +kernel
theorem dX6_next_50 : decode cX6_next 50 = .ok (.if_icmp .lt 11, 3) := by decide +kernel
theorem dX6_next_53 : decode cX6_next 53 = .ok (.aload_n 0, 1) := by decide +kernel
theorem dX6_next_54 : decode cX6_next 54 = .ok (.iconst 3, 1) := by decide +kernel
theorem dX6_next_55 : decode cX6_next 55 = .ok (.putfield 73, 3) := by decide +kernel
theorem dX6_next_58 : decode cX6_next 58 = .ok (.goto 170, 3) := by decide +kernel
theorem dX6_next_61 : decode cX6_next 61 = .ok (.aload_n 0, 1) := by decide +kernel
theorem dX6_next_62 : decode cX6_next 62 = .ok (.aload_n 0, 1) := by decide +kernel
theorem dX6_next_63 : decode cX6_next 63 = .ok (.getfield 66, 3) := by decide +kernel
theorem dX6_next_66 : decode cX6_next 66 = .ok (.invokevirtual 69, 3) := by decide +kernel
theorem dX6_next_69 : decode cX6_next 69 = .ok (.bipush 97, 2) := by decide +kernel
theorem dX6_next_71 : decode cX6_next 71 = .ok (.bipush 122, 2) := by decide +kernel
theorem dX6_next_73 : decode cX6_next 73 = .ok (.invokestatic 76, 3) := by decide +kernel
theorem dX6_next_76 : decode cX6_next 76 = .ok (.ifCond .eq 42, 3) := by decide +kernel
theorem dX6_next_79 : decode cX6_next 79 = .ok (.aload_n 0, 1) := by decide +kernel
theorem dX6_next_80 : decode cX6_next 80 = .ok (.aload_n 0, 1) := by decide +kernel
theorem dX6_next_81 : decode cX6_next 81 = .ok (.getfield 63, 3) := by decide +kernel
theorem dX6_next_84 : decode cX6_next 84 = .ok (.invokevirtual 69, 3) := by decide +kernel
theorem dX6_next_87 : decode cX6_next 87 = .ok (.bipush 97, 2) := by decide +kernel
theorem dX6_next_89 : decode cX6_next 89 = .ok (.bipush 122, 2) := by decide +kernel
theorem dX6_next_91 : decode cX6_next 91 = .ok (.invokestatic 76, 3) := by decide +kernel
theorem dX6_next_94 : decode cX6_next 94 = .ok (.ifCond .eq 16, 3) := by decide +kernel
theorem dX6_next_97 : decode cX6_next 97 = .ok (.aload_n 0, 1) := by decide +kernel
theorem dX6_next_98 : decode cX6_next 98 = .ok (.dup, 1) := by decide +kernel
theorem dX6_next_99 : decode cX6_next 99 = .ok (.getfield 63, 3) := by decide +kernel
theorem dX6_next_102 : decode cX6_next 102 = .ok (.iconst 1, 1) := by decide +kernel
theorem dX6_next_103 : decode cX6_next 103 = .ok (.iadd, 1) := by decide +kernel
theorem dX6_next_104 : decode cX6_next 104 = .ok (.putfield 63, 3) := by decide +kernel
theorem dX6_next_107 : decode cX6_next 107 = .ok (.goto (-28), 3) := by decide +kernel
theorem dX6_next_110 : decode cX6_next 110 = .ok (.aload_n 0, 1) := by decide +kernel
theorem dX6_next_111 : decode cX6_next 111 = .ok (.iconst 0, 1) := by decide +kernel
theorem dX6_next_112 : decode cX6_next 112 = .ok (.putfield 73, 3) := by decide +kernel
theorem dX6_next_115 : decode cX6_next 115 = .ok (.goto 113, 3) := by decide +kernel
theorem dX6_next_118 : decode cX6_next 118 = .ok (.aload_n 0, 1) := by decide +kernel
theorem dX6_next_119 : decode cX6_next 119 = .ok (.aload_n 0, 1) := by decide +kernel
theorem dX6_next_120 : decode cX6_next 120 = .ok (.getfield 66, 3) := by decide +kernel
theorem dX6_next_123 : decode cX6_next 123 = .ok (.invokevirtual 69, 3) := by decide +kernel
theorem dX6_next_126 : decode cX6_next 126 = .ok (.bipush 48, 2) := by decide +kernel
theorem dX6_next_128 : decode cX6_next 128 = .ok (.bipush 57, 2) := by decide +kernel
theorem dX6_next_130 : decode cX6_next 130 = .ok (.invokestatic 76, 3) := by decide +kernel
theorem dX6_next_133 : decode cX6_next 133 = .ok (.ifCond .eq 80, 3) := by decide +kernel
theorem dX6_next_136 : decode cX6_next 136 = .ok (.aload_n 0, 1) := by decide +kernel
theorem dX6_next_137 : decode cX6_next 137 = .ok (.iconst 0, 1) := by decide +kernel
theorem dX6_next_138 : decode cX6_next 138 = .ok (.putfield 80, 3) := by decide +kernel
theorem dX6_next_141 : decode cX6_next 141 = .ok (.aload_n 0, 1) := by decide +kernel
theorem dX6_next_142 : decode cX6_next 142 = .ok (.aload_n 0, 1) := by decide +kernel
theorem dX6_next_143 : decode cX6_next 143 = .ok (.getfield 63, 3) := by decide +kernel
theorem dX6_next_146 : decode cX6_next 146 = .ok (.invokevirtual 69, 3) := by decide +kernel
theorem dX6_next_149 : decode cX6_next 149 = .ok (.bipush 48, 2) := by decide +kernel
theorem dX6_next_151 : decode cX6_next 151 = .ok (.bipush 57, 2) := by decide +kernel
theorem dX6_next_153 : decode cX6_next 153 = .ok (.invokestatic 76, 3) := by decide +kernel
theorem dX6_next_156 : decode cX6_next 156 = .ok (.ifCond .eq 49, 3) := by decide +kernel
theorem dX6_next_159 : decode cX6_next 159 = .ok (.aload_n 0, 1) := by decide +kernel
theorem dX6_next_160 : decode cX6_next 160 = .ok (.getfield 80, 3) := by decide +kernel
theorem dX6_next_163 : decode cX6_next 163 = .ok (.sipush 10000, 3) := by decide +kernel
theorem dX6_next_166 : decode cX6_next 166 = .ok (.if_icmp .ge 26, 3) := by decide +kernel
theorem dX6_next_169 : decode cX6_next 169 = .ok (.aload_n 0, 1) := by decide +kernel
theorem dX6_next_170 : decode cX6_next 170 = .ok (.bipush 10, 2) := by decide +kernel
theorem dX6_next_172 : decode cX6_next 172 = .ok (.aload_n 0, 1) := by decide +kernel
theorem dX6_next_173 : decode cX6_next 173 = .ok (.getfield 80, 3) := by decide +kernel
theorem dX6_next_176 : decode cX6_next 176 = .ok (.imul, 1) := by decide +kernel
theorem dX6_next_177 : decode cX6_next 177 = .ok (.aload_n 0, 1) := by decide +kernel
theorem dX6_next_178 : decode cX6_next 178 = .ok (.aload_n 0, 1) := by decide +kernel
theorem dX6_next_179 : decode cX6_next 179 = .ok (.getfield 63, 3) := by decide +kernel
theorem dX6_next_182 : decode cX6_next 182 = .ok (.invokevirtual 69, 3) := by decide +kernel
theorem dX6_next_185 : decode cX6_next 185 = .ok (.iadd, 1) := by decide +kernel
theorem dX6_next_186 : decode cX6_next 186 = .ok (.bipush 48, 2) := by decide +kernel
theorem dX6_next_188 : decode cX6_next 188 = .ok (.isub, 1) := by decide +kernel
theorem dX6_next_189 : decode cX6_next 189 = .ok (.putfield 80, 3) := by decide +kernel
theorem dX6_next_192 : decode cX6_next 192 = .ok (.aload_n 0, 1) := by decide +kernel
theorem dX6_next_193 : decode cX6_next 193 = .ok (.dup, 1) := by decide +kernel
theorem dX6_next_194 : decode cX6_next 194 = .ok (.getfield 63, 3) := by decide +kernel
theorem dX6_next_197 : decode cX6_next 197 = .ok (.iconst 1, 1) := by decide +kernel
theorem dX6_next_198 : decode cX6_next 198 = .ok (.iadd, 1) := by decide +kernel
theorem dX6_next_199 : decode cX6_next 199 = .ok (.putfield 63, 3) := by decide +kernel
theorem dX6_next_202 : decode cX6_next 202 = .ok (.goto (-61), 3) := by decide +kernel
theorem dX6_next_205 : decode cX6_next 205 = .ok (.aload_n 0, 1) := by decide +kernel
theorem dX6_next_206 : decode cX6_next 206 = .ok (.iconst 1, 1) := by decide +kernel
theorem dX6_next_207 : decode cX6_next 207 = .ok (.putfield 73, 3) := by decide +kernel
theorem dX6_next_210 : decode cX6_next 210 = .ok (.goto 18, 3) := by decide +kernel
theorem dX6_next_213 : decode cX6_next 213 = .ok (.aload_n 0, 1) := by decide +kernel
theorem dX6_next_214 : decode cX6_next 214 = .ok (.dup, 1) := by decide +kernel
theorem dX6_next_215 : decode cX6_next 215 = .ok (.getfield 63, 3) := by decide +kernel
theorem dX6_next_218 : decode cX6_next 218 = .ok (.iconst 1, 1) := by decide +kernel
theorem dX6_next_219 : decode cX6_next 219 = .ok (.iadd, 1) := by decide +kernel
theorem dX6_next_220 : decode cX6_next 220 = .ok (.putfield 63, 3) := by decide +kernel
theorem dX6_next_223 : decode cX6_next 223 = .ok (.aload_n 0, 1) := by decide +kernel
theorem dX6_next_224 : decode cX6_next 224 = .ok (.iconst 2, 1) := by decide +kernel
theorem dX6_next_225 : decode cX6_next 225 = .ok (.putfield 73, 3) := by decide +kernel
theorem dX6_next_228 : decode cX6_next 228 = .ok (.return_, 1) := by decide +kernel
theorem dX6_isWord_0 : decode cX6_isWord 0 = .ok (.aload_n 0, 1) := by decide +kernel
theorem dX6_isWord_1 : decode cX6_isWord 1 = .ok (.getfield 83, 3) := by decide +kernel
theorem dX6_isWord_4 : decode cX6_isWord 4 = .ok (.ifCond .ne 26, 3) := by decide +kernel
theorem dX6_isWord_7 : decode cX6_isWord 7 = .ok (.aload_n 0, 1) := by decide +kernel
theorem dX6_isWord_8 : decode cX6_isWord 8 = .ok (.getfield 73, 3) := by decide +kernel
theorem dX6_isWord_11 : decode cX6_isWord 11 = .ok (.ifCond .ne 19, 3) := by decide +kernel
theorem dX6_isWord_14 : decode cX6_isWord 14 = .ok (.aload_n 0, 1) := by decide +kernel
theorem dX6_isWord_15 : decode cX6_isWord 15 = .ok (.getfield 63, 3) := by decide +kernel
theorem dX6_isWord_18 : decode cX6_isWord 18 = .ok (.aload_n 0, 1) := by decide +kernel
theorem dX6_isWord_19 : decode cX6_isWord 19 = .ok (.getfield 66, 3) := by decide +kernel
theorem dX6_isWord_22 : decode cX6_isWord 22 = .ok (.isub, 1) := by decide +kernel
theorem dX6_isWord_23 : decode cX6_isWord 23 = .ok (.aload_n 1, 1) := by decide +kernel
theorem dX6_isWord_24 : decode cX6_isWord 24 = .ok (.invokevirtual 86, 3) := by decide +kernel
theorem dX6_isWord_27 : decode cX6_isWord 27 = .ok (.if_icmp .eq 5, 3) := by decide +kernel
theorem dX6_isWord_30 : decode cX6_isWord 30 = .ok (.iconst 0, 1) := by decide +kernel
theorem dX6_isWord_31 : decode cX6_isWord 31 = .ok (.ireturn, 1) := by decide +kernel
theorem dX6_isWord_32 : decode cX6_isWord 32 = .ok (.iconst 0, 1) := by decide +kernel
theorem dX6_isWord_33 : decode cX6_isWord 33 = .ok (.istore_n 2, 1) := by decide +kernel
theorem dX6_isWord_34 : decode cX6_isWord 34 = .ok (.iload_n 2, 1) := by decide +kernel
theorem dX6_isWord_35 : decode cX6_isWord 35 = .ok (.aload_n 1, 1) := by decide +kernel
theorem dX6_isWord_36 : decode cX6_isWord 36 = .ok (.invokevirtual 86, 3) := by decide +kernel
theorem dX6_isWord_39 : decode cX6_isWord 39 = .ok (.if_icmp .ge 30, 3) := by decide +kernel
theorem dX6_isWord_42 : decode cX6_isWord 42 = .ok (.aload_n 0, 1) := by decide +kernel
theorem dX6_isWord_43 : decode cX6_isWord 43 = .ok (.getfield 30, 3) := by decide +kernel
theorem dX6_isWord_46 : decode cX6_isWord 46 = .ok (.aload_n 0, 1) := by decide +kernel
theorem dX6_isWord_47 : decode cX6_isWord 47 = .ok (.getfield 66, 3) := by decide +kernel
theorem dX6_isWord_50 : decode cX6_isWord 50 = .ok (.iload_n 2, 1) := by decide +kernel
theorem dX6_isWord_51 : decode cX6_isWord 51 = .ok (.iadd, 1) := by decide +kernel
theorem dX6_isWord_52 : decode cX6_isWord 52 = .ok (.iaload, 1) := by decide +kernel
theorem dX6_isWord_53 : decode cX6_isWord 53 = .ok (.aload_n 1, 1) := by decide +kernel
theorem dX6_isWord_54 : decode cX6_isWord 54 = .ok (.iload_n 2, 1) := by decide +kernel
theorem dX6_isWord_55 : decode cX6_isWord 55 = .ok (.invokevirtual 92, 3) := by decide +kernel
theorem dX6_isWord_58 : decode cX6_isWord 58 = .ok (.if_icmp .eq 5, 3) := by decide +kernel
theorem dX6_isWord_61 : decode cX6_isWord 61 = .ok (.iconst 0, 1) := by decide +kernel
theorem dX6_isWord_62 : decode cX6_isWord 62 = .ok (.ireturn, 1) := by decide +kernel
theorem dX6_isWord_63 : decode cX6_isWord 63 = .ok (.iinc 2 1, 3) := by decide +kernel
theorem dX6_isWord_66 : decode cX6_isWord 66 = .ok (.goto (-32), 3) := by decide +kernel
theorem dX6_isWord_69 : decode cX6_isWord 69 = .ok (.iconst 1, 1) := by decide +kernel
theorem dX6_isWord_70 : decode cX6_isWord 70 = .ok (.ireturn, 1) := by decide +kernel
theorem dX6_fails_0 : decode cX6_fails 0 = .ok (.aload_n 0, 1) := by decide +kernel
theorem dX6_fails_1 : decode cX6_fails 1 = .ok (.getfield 83, 3) := by decide +kernel
theorem dX6_fails_4 : decode cX6_fails 4 = .ok (.ifCond .eq 4, 3) := by decide +kernel
theorem dX6_fails_7 : decode cX6_fails 7 = .ok (.return_, 1) := by decide +kernel
theorem dX6_fails_8 : decode cX6_fails 8 = .ok (.aload_n 0, 1) := by decide +kernel
theorem dX6_fails_9 : decode cX6_fails 9 = .ok (.iload_n 1, 1) := by decide +kernel
theorem dX6_fails_10 : decode cX6_fails 10 = .ok (.putfield 83, 3) := by decide +kernel
theorem dX6_fails_13 : decode cX6_fails 13 = .ok (.aload_n 0, 1) := by decide +kernel
theorem dX6_fails_14 : decode cX6_fails 14 = .ok (.aload_n 0, 1) := by decide +kernel
theorem dX6_fails_15 : decode cX6_fails 15 = .ok (.getfield 66, 3) := by decide +kernel
theorem dX6_fails_18 : decode cX6_fails 18 = .ok (.putfield 96, 3) := by decide +kernel
theorem dX6_fails_21 : decode cX6_fails 21 = .ok (.return_, 1) := by decide +kernel
theorem dX6_must_0 : decode cX6_must 0 = .ok (.iload_n 1, 1) := by decide +kernel
theorem dX6_must_1 : decode cX6_must 1 = .ok (.ifCond .ne 9, 3) := by decide +kernel
theorem dX6_must_4 : decode cX6_must 4 = .ok (.aload_n 0, 1) := by decide +kernel
theorem dX6_must_5 : decode cX6_must 5 = .ok (.bipush (-2), 2) := by decide +kernel
theorem dX6_must_7 : decode cX6_must 7 = .ok (.invokevirtual 99, 3) := by decide +kernel
theorem dX6_must_10 : decode cX6_must 10 = .ok (.aload_n 0, 1) := by decide +kernel
theorem dX6_must_11 : decode cX6_must 11 = .ok (.getfield 83, 3) := by decide +kernel
theorem dX6_must_14 : decode cX6_must 14 = .ok (.ifCond .ne 7, 3) := by decide +kernel
theorem dX6_must_17 : decode cX6_must 17 = .ok (.aload_n 0, 1) := by decide +kernel
theorem dX6_must_18 : decode cX6_must 18 = .ok (.invokevirtual 103, 3) := by decide +kernel
theorem dX6_must_21 : decode cX6_must 21 = .ok (.return_, 1) := by decide +kernel
theorem dX6_takes_0 : decode cX6_takes 0 = .ok (.aload_n 0, 1) := by decide +kernel
theorem dX6_takes_1 : decode cX6_takes 1 = .ok (.getfield 83, 3) := by decide +kernel
theorem dX6_takes_4 : decode cX6_takes 4 = .ok (.ifCond .ne 20, 3) := by decide +kernel
theorem dX6_takes_7 : decode cX6_takes 7 = .ok (.aload_n 0, 1) := by decide +kernel
theorem dX6_takes_8 : decode cX6_takes 8 = .ok (.getfield 73, 3) := by decide +kernel
theorem dX6_takes_11 : decode cX6_takes 11 = .ok (.iconst 1, 1) := by decide +kernel
theorem dX6_takes_12 : decode cX6_takes 12 = .ok (.if_icmp .eq 12, 3) := by decide +kernel
theorem dX6_takes_15 : decode cX6_takes 15 = .ok (.aload_n 0, 1) := by decide +kernel
theorem dX6_takes_16 : decode cX6_takes 16 = .ok (.bipush (-2), 2) := by decide +kernel
theorem dX6_takes_18 : decode cX6_takes 18 = .ok (.invokevirtual 99, 3) := by decide +kernel
theorem dX6_takes_21 : decode cX6_takes 21 = .ok (.goto 28, 3) := by decide +kernel
theorem dX6_takes_24 : decode cX6_takes 24 = .ok (.aload_n 0, 1) := by decide +kernel
theorem dX6_takes_25 : decode cX6_takes 25 = .ok (.getfield 83, 3) := by decide +kernel
theorem dX6_takes_28 : decode cX6_takes 28 = .ok (.ifCond .ne 21, 3) := by decide +kernel
theorem dX6_takes_31 : decode cX6_takes 31 = .ok (.aload_n 0, 1) := by decide +kernel
theorem dX6_takes_32 : decode cX6_takes 32 = .ok (.getfield 80, 3) := by decide +kernel
theorem dX6_takes_35 : decode cX6_takes 35 = .ok (.iload_n 1, 1) := by decide +kernel
theorem dX6_takes_36 : decode cX6_takes 36 = .ok (.iload_n 2, 1) := by decide +kernel
theorem dX6_takes_37 : decode cX6_takes 37 = .ok (.invokestatic 76, 3) := by decide +kernel
theorem dX6_takes_40 : decode cX6_takes 40 = .ok (.ifCond .ne 9, 3) := by decide +kernel
theorem dX6_takes_43 : decode cX6_takes 43 = .ok (.aload_n 0, 1) := by decide +kernel
theorem dX6_takes_44 : decode cX6_takes 44 = .ok (.bipush (-3), 2) := by decide +kernel
theorem dX6_takes_46 : decode cX6_takes 46 = .ok (.invokevirtual 99, 3) := by decide +kernel
theorem dX6_takes_49 : decode cX6_takes 49 = .ok (.aload_n 0, 1) := by decide +kernel
theorem dX6_takes_50 : decode cX6_takes 50 = .ok (.getfield 83, 3) := by decide +kernel
theorem dX6_takes_53 : decode cX6_takes 53 = .ok (.ifCond .ne 10, 3) := by decide +kernel
theorem dX6_takes_56 : decode cX6_takes 56 = .ok (.aload_n 0, 1) := by decide +kernel
theorem dX6_takes_57 : decode cX6_takes 57 = .ok (.getfield 80, 3) := by decide +kernel
theorem dX6_takes_60 : decode cX6_takes 60 = .ok (.goto 4, 3) := by decide +kernel
theorem dX6_takes_63 : decode cX6_takes 63 = .ok (.iconst 0, 1) := by decide +kernel
theorem dX6_takes_64 : decode cX6_takes 64 = .ok (.istore_n 3, 1) := by decide +kernel
theorem dX6_takes_65 : decode cX6_takes 65 = .ok (.aload_n 0, 1) := by decide +kernel
theorem dX6_takes_66 : decode cX6_takes 66 = .ok (.getfield 83, 3) := by decide +kernel
theorem dX6_takes_69 : decode cX6_takes 69 = .ok (.ifCond .ne 7, 3) := by decide +kernel
theorem dX6_takes_72 : decode cX6_takes 72 = .ok (.aload_n 0, 1) := by decide +kernel
theorem dX6_takes_73 : decode cX6_takes 73 = .ok (.invokevirtual 103, 3) := by decide +kernel
theorem dX6_takes_76 : decode cX6_takes 76 = .ok (.iload_n 3, 1) := by decide +kernel
theorem dX6_takes_77 : decode cX6_takes 77 = .ok (.ireturn, 1) := by decide +kernel
theorem dX6_mustEnd_0 : decode cX6_mustEnd 0 = .ok (.aload_n 0, 1) := by decide +kernel
theorem dX6_mustEnd_1 : decode cX6_mustEnd 1 = .ok (.aload_n 0, 1) := by decide +kernel
theorem dX6_mustEnd_2 : decode cX6_mustEnd 2 = .ok (.getfield 73, 3) := by decide +kernel
theorem dX6_mustEnd_5 : decode cX6_mustEnd 5 = .ok (.iconst 2, 1) := by decide +kernel
theorem dX6_mustEnd_6 : decode cX6_mustEnd 6 = .ok (.if_icmp .ne 20, 3) := by decide +kernel
theorem dX6_mustEnd_9 : decode cX6_mustEnd 9 = .ok (.aload_n 0, 1) := by decide +kernel
theorem dX6_mustEnd_10 : decode cX6_mustEnd 10 = .ok (.aload_n 0, 1) := by decide +kernel
theorem dX6_mustEnd_11 : decode cX6_mustEnd 11 = .ok (.getfield 66, 3) := by decide +kernel
theorem dX6_mustEnd_14 : decode cX6_mustEnd 14 = .ok (.invokevirtual 69, 3) := by decide +kernel
theorem dX6_mustEnd_17 : decode cX6_mustEnd 17 = .ok (.bipush 59, 2) := by decide +kernel
theorem dX6_mustEnd_19 : decode cX6_mustEnd 19 = .ok (.if_icmp .ne 7, 3) := by decide +kernel
theorem dX6_mustEnd_22 : decode cX6_mustEnd 22 = .ok (.iconst 1, 1) := by decide +kernel
theorem dX6_mustEnd_23 : decode cX6_mustEnd 23 = .ok (.goto 4, 3) := by decide +kernel
theorem dX6_mustEnd_26 : decode cX6_mustEnd 26 = .ok (.iconst 0, 1) := by decide +kernel
theorem dX6_mustEnd_27 : decode cX6_mustEnd 27 = .ok (.invokevirtual 106, 3) := by decide +kernel
theorem dX6_mustEnd_30 : decode cX6_mustEnd 30 = .ok (.return_, 1) := by decide +kernel
theorem dX6_lettersHere_0 : decode cX6_lettersHere 0 = .ok (.iconst 0, 1) := by decide +kernel
theorem dX6_lettersHere_1 : decode cX6_lettersHere 1 = .ok (.istore_n 1, 1) := by decide +kernel
theorem dX6_lettersHere_2 : decode cX6_lettersHere 2 = .ok (.aload_n 0, 1) := by decide +kernel
theorem dX6_lettersHere_3 : decode cX6_lettersHere 3 = .ok (.getfield 66, 3) := by decide +kernel
theorem dX6_lettersHere_6 : decode cX6_lettersHere 6 = .ok (.istore_n 2, 1) := by decide +kernel
theorem dX6_lettersHere_7 : decode cX6_lettersHere 7 = .ok (.iload_n 2, 1) := by decide +kernel
theorem dX6_lettersHere_8 : decode cX6_lettersHere 8 = .ok (.aload_n 0, 1) := by decide +kernel
theorem dX6_lettersHere_9 : decode cX6_lettersHere 9 = .ok (.getfield 63, 3) := by decide +kernel
theorem dX6_lettersHere_12 : decode cX6_lettersHere 12 = .ok (.if_icmp .ge 46, 3) := by decide +kernel
theorem dX6_lettersHere_15 : decode cX6_lettersHere 15 = .ok (.aload_n 0, 1) := by decide +kernel
theorem dX6_lettersHere_16 : decode cX6_lettersHere 16 = .ok (.getfield 30, 3) := by decide +kernel
theorem dX6_lettersHere_19 : decode cX6_lettersHere 19 = .ok (.iload_n 2, 1) := by decide +kernel
theorem dX6_lettersHere_20 : decode cX6_lettersHere 20 = .ok (.iaload, 1) := by decide +kernel
theorem dX6_lettersHere_21 : decode cX6_lettersHere 21 = .ok (.bipush 97, 2) := by decide +kernel
theorem dX6_lettersHere_23 : decode cX6_lettersHere 23 = .ok (.isub, 1) := by decide +kernel
theorem dX6_lettersHere_24 : decode cX6_lettersHere 24 = .ok (.istore_n 3, 1) := by decide +kernel
theorem dX6_lettersHere_25 : decode cX6_lettersHere 25 = .ok (.iload_n 3, 1) := by decide +kernel
theorem dX6_lettersHere_26 : decode cX6_lettersHere 26 = .ok (.aload_n 0, 1) := by decide +kernel
theorem dX6_lettersHere_27 : decode cX6_lettersHere 27 = .ok (.getfield 7, 3) := by decide +kernel
theorem dX6_lettersHere_30 : decode cX6_lettersHere 30 = .ok (.iconst 1, 1) := by decide +kernel
theorem dX6_lettersHere_31 : decode cX6_lettersHere 31 = .ok (.iaload, 1) := by decide +kernel
theorem dX6_lettersHere_32 : decode cX6_lettersHere 32 = .ok (.if_icmp .ge 12, 3) := by decide +kernel
theorem dX6_lettersHere_35 : decode cX6_lettersHere 35 = .ok (.iload_n 1, 1) := by decide +kernel
theorem dX6_lettersHere_36 : decode cX6_lettersHere 36 = .ok (.iload_n 3, 1) := by decide +kernel
theorem dX6_lettersHere_37 : decode cX6_lettersHere 37 = .ok (.ishr, 1) := by decide +kernel
theorem dX6_lettersHere_38 : decode cX6_lettersHere 38 = .ok (.iconst 1, 1) := by decide +kernel
theorem dX6_lettersHere_39 : decode cX6_lettersHere 39 = .ok (.iand, 1) := by decide +kernel
theorem dX6_lettersHere_40 : decode cX6_lettersHere 40 = .ok (.iconst 1, 1) := by decide +kernel
theorem dX6_lettersHere_41 : decode cX6_lettersHere 41 = .ok (.if_icmp .ne 5, 3) := by decide +kernel
theorem dX6_lettersHere_44 : decode cX6_lettersHere 44 = .ok (.iconst 0, 1) := by decide +kernel
theorem dX6_lettersHere_45 : decode cX6_lettersHere 45 = .ok (.ireturn, 1) := by decide +kernel
theorem dX6_lettersHere_46 : decode cX6_lettersHere 46 = .ok (.iload_n 1, 1) := by decide +kernel
theorem dX6_lettersHere_47 : decode cX6_lettersHere 47 = .ok (.iconst 1, 1) := by decide +kernel
theorem dX6_lettersHere_48 : decode cX6_lettersHere 48 = .ok (.iload_n 3, 1) := by decide +kernel
theorem dX6_lettersHere_49 : decode cX6_lettersHere 49 = .ok (.ishl, 1) := by decide +kernel
theorem dX6_lettersHere_50 : decode cX6_lettersHere 50 = .ok (.ior, 1) := by decide +kernel
theorem dX6_lettersHere_51 : decode cX6_lettersHere 51 = .ok (.istore_n 1, 1) := by decide +kernel
theorem dX6_lettersHere_52 : decode cX6_lettersHere 52 = .ok (.iinc 2 1, 3) := by decide +kernel
theorem dX6_lettersHere_55 : decode cX6_lettersHere 55 = .ok (.goto (-48), 3) := by decide +kernel
theorem dX6_lettersHere_58 : decode cX6_lettersHere 58 = .ok (.iload_n 1, 1) := by decide +kernel
theorem dX6_lettersHere_59 : decode cX6_lettersHere 59 = .ok (.ireturn, 1) := by decide +kernel
theorem dX6_colouringsNext_0 : decode cX6_colouringsNext 0 = .ok (.iconst 1, 1) := by decide +kernel
theorem dX6_colouringsNext_1 : decode cX6_colouringsNext 1 = .ok (.istore_n 1, 1) := by decide +kernel
theorem dX6_colouringsNext_2 : decode cX6_colouringsNext 2 = .ok (.iconst 0, 1) := by decide +kernel
theorem dX6_colouringsNext_3 : decode cX6_colouringsNext 3 = .ok (.istore_n 2, 1) := by decide +kernel
theorem dX6_colouringsNext_4 : decode cX6_colouringsNext 4 = .ok (.iload_n 2, 1) := by decide +kernel
theorem dX6_colouringsNext_5 : decode cX6_colouringsNext 5 = .ok (.aload_n 0, 1) := by decide +kernel
theorem dX6_colouringsNext_6 : decode cX6_colouringsNext 6 = .ok (.getfield 7, 3) := by decide +kernel
theorem dX6_colouringsNext_9 : decode cX6_colouringsNext 9 = .ok (.iconst 0, 1) := by decide +kernel
theorem dX6_colouringsNext_10 : decode cX6_colouringsNext 10 = .ok (.iaload, 1) := by decide +kernel
theorem dX6_colouringsNext_11 : decode cX6_colouringsNext 11 = .ok (.if_icmp .gt 20, 3) := by decide +kernel
theorem dX6_colouringsNext_14 : decode cX6_colouringsNext 14 = .ok (.iload_n 1, 1) := by decide +kernel
theorem dX6_colouringsNext_15 : decode cX6_colouringsNext 15 = .ok (.aload_n 0, 1) := by decide +kernel
theorem dX6_colouringsNext_16 : decode cX6_colouringsNext 16 = .ok (.getfield 7, 3) := by decide +kernel
theorem dX6_colouringsNext_19 : decode cX6_colouringsNext 19 = .ok (.iconst 1, 1) := by decide +kernel
theorem dX6_colouringsNext_20 : decode cX6_colouringsNext 20 = .ok (.iaload, 1) := by decide +kernel
theorem dX6_colouringsNext_21 : decode cX6_colouringsNext 21 = .ok (.iconst 1, 1) := by decide +kernel
theorem dX6_colouringsNext_22 : decode cX6_colouringsNext 22 = .ok (.iadd, 1) := by decide +kernel
theorem dX6_colouringsNext_23 : decode cX6_colouringsNext 23 = .ok (.imul, 1) := by decide +kernel
theorem dX6_colouringsNext_24 : decode cX6_colouringsNext 24 = .ok (.istore_n 1, 1) := by decide +kernel
theorem dX6_colouringsNext_25 : decode cX6_colouringsNext 25 = .ok (.iinc 2 1, 3) := by decide +kernel
theorem dX6_colouringsNext_28 : decode cX6_colouringsNext 28 = .ok (.goto (-24), 3) := by decide +kernel
theorem dX6_colouringsNext_31 : decode cX6_colouringsNext 31 = .ok (.iload_n 1, 1) := by decide +kernel
theorem dX6_colouringsNext_32 : decode cX6_colouringsNext 32 = .ok (.ireturn, 1) := by decide +kernel
theorem dX6_readsVertex_0 : decode cX6_readsVertex 0 = .ok (.aload_n 0, 1) := by decide +kernel
theorem dX6_readsVertex_1 : decode cX6_readsVertex 1 = .ok (.getfield 7, 3) := by decide +kernel
theorem dX6_readsVertex_4 : decode cX6_readsVertex 4 = .ok (.iconst 0, 1) := by decide +kernel
theorem dX6_readsVertex_5 : decode cX6_readsVertex 5 = .ok (.iaload, 1) := by decide +kernel
theorem dX6_readsVertex_6 : decode cX6_readsVertex 6 = .ok (.bipush 9, 2) := by decide +kernel
theorem dX6_readsVertex_8 : decode cX6_readsVertex 8 = .ok (.if_icmp .eq 13, 3) := by decide +kernel
theorem dX6_readsVertex_11 : decode cX6_readsVertex 11 = .ok (.aload_n 0, 1) := by decide +kernel
theorem dX6_readsVertex_12 : decode cX6_readsVertex 12 = .ok (.invokevirtual 110, 3) := by decide +kernel
theorem dX6_readsVertex_15 : decode cX6_readsVertex 15 = .ok (.sipush 20000, 3) := by decide +kernel
theorem dX6_readsVertex_18 : decode cX6_readsVertex 18 = .ok (.if_icmp .le 9, 3) := by decide +kernel
theorem dX6_readsVertex_21 : decode cX6_readsVertex 21 = .ok (.aload_n 0, 1) := by decide +kernel
theorem dX6_readsVertex_22 : decode cX6_readsVertex 22 = .ok (.bipush (-6), 2) := by decide +kernel
theorem dX6_readsVertex_24 : decode cX6_readsVertex 24 = .ok (.invokevirtual 99, 3) := by decide +kernel
theorem dX6_readsVertex_27 : decode cX6_readsVertex 27 = .ok (.aload_n 0, 1) := by decide +kernel
theorem dX6_readsVertex_28 : decode cX6_readsVertex 28 = .ok (.iconst 1, 1) := by decide +kernel
theorem dX6_readsVertex_29 : decode cX6_readsVertex 29 = .ok (.invokevirtual 106, 3) := by decide +kernel
theorem dX6_readsVertex_32 : decode cX6_readsVertex 32 = .ok (.iconst 1, 1) := by decide +kernel
theorem dX6_readsVertex_33 : decode cX6_readsVertex 33 = .ok (.aload_n 0, 1) := by decide +kernel
theorem dX6_readsVertex_34 : decode cX6_readsVertex 34 = .ok (.getfield 7, 3) := by decide +kernel
theorem dX6_readsVertex_37 : decode cX6_readsVertex 37 = .ok (.iconst 1, 1) := by decide +kernel
theorem dX6_readsVertex_38 : decode cX6_readsVertex 38 = .ok (.iaload, 1) := by decide +kernel
theorem dX6_readsVertex_39 : decode cX6_readsVertex 39 = .ok (.ishl, 1) := by decide +kernel
theorem dX6_readsVertex_40 : decode cX6_readsVertex 40 = .ok (.iconst 1, 1) := by decide +kernel
theorem dX6_readsVertex_41 : decode cX6_readsVertex 41 = .ok (.isub, 1) := by decide +kernel
theorem dX6_readsVertex_42 : decode cX6_readsVertex 42 = .ok (.istore_n 1, 1) := by decide +kernel
theorem dX6_readsVertex_43 : decode cX6_readsVertex 43 = .ok (.aload_n 0, 1) := by decide +kernel
theorem dX6_readsVertex_44 : decode cX6_readsVertex 44 = .ok (.getfield 83, 3) := by decide +kernel
theorem dX6_readsVertex_47 : decode cX6_readsVertex 47 = .ok (.ifCond .ne 36, 3) := by decide +kernel
theorem dX6_readsVertex_50 : decode cX6_readsVertex 50 = .ok (.aload_n 0, 1) := by decide +kernel
theorem dX6_readsVertex_51 : decode cX6_readsVertex 51 = .ok (.getfield 73, 3) := by decide +kernel
theorem dX6_readsVertex_54 : decode cX6_readsVertex 54 = .ok (.ifCond .ne 29, 3) := by decide +kernel
theorem dX6_readsVertex_57 : decode cX6_readsVertex 57 = .ok (.aload_n 0, 1) := by decide +kernel
theorem dX6_readsVertex_58 : decode cX6_readsVertex 58 = .ok (.invokevirtual 113, 3) := by decide +kernel
theorem dX6_readsVertex_61 : decode cX6_readsVertex 61 = .ok (.istore_n 1, 1) := by decide +kernel
theorem dX6_readsVertex_62 : decode cX6_readsVertex 62 = .ok (.iload_n 1, 1) := by decide +kernel
theorem dX6_readsVertex_63 : decode cX6_readsVertex 63 = .ok (.ifCond .ne 9, 3) := by decide +kernel
theorem dX6_readsVertex_66 : decode cX6_readsVertex 66 = .ok (.aload_n 0, 1) := by decide +kernel
theorem dX6_readsVertex_67 : decode cX6_readsVertex 67 = .ok (.bipush (-3), 2) := by decide +kernel
theorem dX6_readsVertex_69 : decode cX6_readsVertex 69 = .ok (.invokevirtual 99, 3) := by decide +kernel
theorem dX6_readsVertex_72 : decode cX6_readsVertex 72 = .ok (.aload_n 0, 1) := by decide +kernel
theorem dX6_readsVertex_73 : decode cX6_readsVertex 73 = .ok (.getfield 83, 3) := by decide +kernel
theorem dX6_readsVertex_76 : decode cX6_readsVertex 76 = .ok (.ifCond .ne 7, 3) := by decide +kernel
theorem dX6_readsVertex_79 : decode cX6_readsVertex 79 = .ok (.aload_n 0, 1) := by decide +kernel
theorem dX6_readsVertex_80 : decode cX6_readsVertex 80 = .ok (.invokevirtual 103, 3) := by decide +kernel
theorem dX6_readsVertex_83 : decode cX6_readsVertex 83 = .ok (.aload_n 0, 1) := by decide +kernel
theorem dX6_readsVertex_84 : decode cX6_readsVertex 84 = .ok (.invokevirtual 116, 3) := by decide +kernel
theorem dX6_readsVertex_87 : decode cX6_readsVertex 87 = .ok (.aload_n 0, 1) := by decide +kernel
theorem dX6_readsVertex_88 : decode cX6_readsVertex 88 = .ok (.getfield 83, 3) := by decide +kernel
theorem dX6_readsVertex_91 : decode cX6_readsVertex 91 = .ok (.ifCond .eq 4, 3) := by decide +kernel
theorem dX6_readsVertex_94 : decode cX6_readsVertex 94 = .ok (.return_, 1) := by decide +kernel
theorem dX6_readsVertex_95 : decode cX6_readsVertex 95 = .ok (.aload_n 0, 1) := by decide +kernel
theorem dX6_readsVertex_96 : decode cX6_readsVertex 96 = .ok (.getfield 7, 3) := by decide +kernel
theorem dX6_readsVertex_99 : decode cX6_readsVertex 99 = .ok (.iconst 4, 1) := by decide +kernel
theorem dX6_readsVertex_100 : decode cX6_readsVertex 100 = .ok (.aload_n 0, 1) := by decide +kernel
theorem dX6_readsVertex_101 : decode cX6_readsVertex 101 = .ok (.getfield 7, 3) := by decide +kernel
theorem dX6_readsVertex_104 : decode cX6_readsVertex 104 = .ok (.iconst 0, 1) := by decide +kernel
theorem dX6_readsVertex_105 : decode cX6_readsVertex 105 = .ok (.iaload, 1) := by decide +kernel
theorem dX6_readsVertex_106 : decode cX6_readsVertex 106 = .ok (.iadd, 1) := by decide +kernel
theorem dX6_readsVertex_107 : decode cX6_readsVertex 107 = .ok (.iload_n 1, 1) := by decide +kernel
theorem dX6_readsVertex_108 : decode cX6_readsVertex 108 = .ok (.iastore, 1) := by decide +kernel
theorem dX6_readsVertex_109 : decode cX6_readsVertex 109 = .ok (.aload_n 0, 1) := by decide +kernel
theorem dX6_readsVertex_110 : decode cX6_readsVertex 110 = .ok (.getfield 7, 3) := by decide +kernel
theorem dX6_readsVertex_113 : decode cX6_readsVertex 113 = .ok (.iconst 0, 1) := by decide +kernel
theorem dX6_readsVertex_114 : decode cX6_readsVertex 114 = .ok (.dup2, 1) := by decide +kernel
theorem dX6_readsVertex_115 : decode cX6_readsVertex 115 = .ok (.iaload, 1) := by decide +kernel
theorem dX6_readsVertex_116 : decode cX6_readsVertex 116 = .ok (.iconst 1, 1) := by decide +kernel
theorem dX6_readsVertex_117 : decode cX6_readsVertex 117 = .ok (.iadd, 1) := by decide +kernel
theorem dX6_readsVertex_118 : decode cX6_readsVertex 118 = .ok (.iastore, 1) := by decide +kernel
theorem dX6_readsVertex_119 : decode cX6_readsVertex 119 = .ok (.return_, 1) := by decide +kernel
theorem dX6_readsEdge_0 : decode cX6_readsEdge 0 = .ok (.aload_n 0, 1) := by decide +kernel
theorem dX6_readsEdge_1 : decode cX6_readsEdge 1 = .ok (.iconst 1, 1) := by decide +kernel
theorem dX6_readsEdge_2 : decode cX6_readsEdge 2 = .ok (.invokevirtual 106, 3) := by decide +kernel
theorem dX6_readsEdge_5 : decode cX6_readsEdge 5 = .ok (.aload_n 0, 1) := by decide +kernel
theorem dX6_readsEdge_6 : decode cX6_readsEdge 6 = .ok (.iconst 0, 1) := by decide +kernel
theorem dX6_readsEdge_7 : decode cX6_readsEdge 7 = .ok (.aload_n 0, 1) := by decide +kernel
theorem dX6_readsEdge_8 : decode cX6_readsEdge 8 = .ok (.getfield 7, 3) := by decide +kernel
theorem dX6_readsEdge_11 : decode cX6_readsEdge 11 = .ok (.iconst 0, 1) := by decide +kernel
theorem dX6_readsEdge_12 : decode cX6_readsEdge 12 = .ok (.iaload, 1) := by decide +kernel
theorem dX6_readsEdge_13 : decode cX6_readsEdge 13 = .ok (.iconst 1, 1) := by decide +kernel
theorem dX6_readsEdge_14 : decode cX6_readsEdge 14 = .ok (.isub, 1) := by decide +kernel
theorem dX6_readsEdge_15 : decode cX6_readsEdge 15 = .ok (.invokevirtual 119, 3) := by decide +kernel
theorem dX6_readsEdge_18 : decode cX6_readsEdge 18 = .ok (.istore_n 1, 1) := by decide +kernel
theorem dX6_readsEdge_19 : decode cX6_readsEdge 19 = .ok (.aload_n 0, 1) := by decide +kernel
theorem dX6_readsEdge_20 : decode cX6_readsEdge 20 = .ok (.getfield 83, 3) := by decide +kernel
theorem dX6_readsEdge_23 : decode cX6_readsEdge 23 = .ok (.ifCond .ne 25, 3) := by decide +kernel
theorem dX6_readsEdge_26 : decode cX6_readsEdge 26 = .ok (.aload_n 0, 1) := by decide +kernel
theorem dX6_readsEdge_27 : decode cX6_readsEdge 27 = .ok (.getfield 73, 3) := by decide +kernel
theorem dX6_readsEdge_30 : decode cX6_readsEdge 30 = .ok (.iconst 1, 1) := by decide +kernel
theorem dX6_readsEdge_31 : decode cX6_readsEdge 31 = .ok (.if_icmp .ne 17, 3) := by decide +kernel
theorem dX6_readsEdge_34 : decode cX6_readsEdge 34 = .ok (.aload_n 0, 1) := by decide +kernel
theorem dX6_readsEdge_35 : decode cX6_readsEdge 35 = .ok (.getfield 80, 3) := by decide +kernel
theorem dX6_readsEdge_38 : decode cX6_readsEdge 38 = .ok (.iload_n 1, 1) := by decide +kernel
theorem dX6_readsEdge_39 : decode cX6_readsEdge 39 = .ok (.if_icmp .ne 9, 3) := by decide +kernel
theorem dX6_readsEdge_42 : decode cX6_readsEdge 42 = .ok (.aload_n 0, 1) := by decide +kernel
theorem dX6_readsEdge_43 : decode cX6_readsEdge 43 = .ok (.bipush (-3), 2) := by decide +kernel
theorem dX6_readsEdge_45 : decode cX6_readsEdge 45 = .ok (.invokevirtual 99, 3) := by decide +kernel
theorem dX6_readsEdge_48 : decode cX6_readsEdge 48 = .ok (.aload_n 0, 1) := by decide +kernel
theorem dX6_readsEdge_49 : decode cX6_readsEdge 49 = .ok (.getfield 83, 3) := by decide +kernel
theorem dX6_readsEdge_52 : decode cX6_readsEdge 52 = .ok (.ifCond .ne 42, 3) := by decide +kernel
theorem dX6_readsEdge_55 : decode cX6_readsEdge 55 = .ok (.aload_n 0, 1) := by decide +kernel
theorem dX6_readsEdge_56 : decode cX6_readsEdge 56 = .ok (.getfield 73, 3) := by decide +kernel
theorem dX6_readsEdge_59 : decode cX6_readsEdge 59 = .ok (.iconst 1, 1) := by decide +kernel
theorem dX6_readsEdge_60 : decode cX6_readsEdge 60 = .ok (.if_icmp .ne 34, 3) := by decide +kernel
theorem dX6_readsEdge_63 : decode cX6_readsEdge 63 = .ok (.aload_n 0, 1) := by decide +kernel
theorem dX6_readsEdge_64 : decode cX6_readsEdge 64 = .ok (.getfield 80, 3) := by decide +kernel
theorem dX6_readsEdge_67 : decode cX6_readsEdge 67 = .ok (.aload_n 0, 1) := by decide +kernel
theorem dX6_readsEdge_68 : decode cX6_readsEdge 68 = .ok (.getfield 7, 3) := by decide +kernel
theorem dX6_readsEdge_71 : decode cX6_readsEdge 71 = .ok (.iconst 0, 1) := by decide +kernel
theorem dX6_readsEdge_72 : decode cX6_readsEdge 72 = .ok (.iaload, 1) := by decide +kernel
theorem dX6_readsEdge_73 : decode cX6_readsEdge 73 = .ok (.if_icmp .ge 21, 3) := by decide +kernel
theorem dX6_readsEdge_76 : decode cX6_readsEdge 76 = .ok (.aload_n 0, 1) := by decide +kernel
theorem dX6_readsEdge_77 : decode cX6_readsEdge 77 = .ok (.iload_n 1, 1) := by decide +kernel
theorem dX6_readsEdge_78 : decode cX6_readsEdge 78 = .ok (.aload_n 0, 1) := by decide +kernel
theorem dX6_readsEdge_79 : decode cX6_readsEdge 79 = .ok (.getfield 80, 3) := by decide +kernel
theorem dX6_readsEdge_82 : decode cX6_readsEdge 82 = .ok (.invokevirtual 123, 3) := by decide +kernel
theorem dX6_readsEdge_85 : decode cX6_readsEdge 85 = .ok (.ifCond .eq 9, 3) := by decide +kernel
theorem dX6_readsEdge_88 : decode cX6_readsEdge 88 = .ok (.aload_n 0, 1) := by decide +kernel
theorem dX6_readsEdge_89 : decode cX6_readsEdge 89 = .ok (.bipush (-4), 2) := by decide +kernel
theorem dX6_readsEdge_91 : decode cX6_readsEdge 91 = .ok (.invokevirtual 99, 3) := by decide +kernel
theorem dX6_readsEdge_94 : decode cX6_readsEdge 94 = .ok (.aload_n 0, 1) := by decide +kernel
theorem dX6_readsEdge_95 : decode cX6_readsEdge 95 = .ok (.iconst 0, 1) := by decide +kernel
theorem dX6_readsEdge_96 : decode cX6_readsEdge 96 = .ok (.aload_n 0, 1) := by decide +kernel
theorem dX6_readsEdge_97 : decode cX6_readsEdge 97 = .ok (.getfield 7, 3) := by decide +kernel
theorem dX6_readsEdge_100 : decode cX6_readsEdge 100 = .ok (.iconst 0, 1) := by decide +kernel
theorem dX6_readsEdge_101 : decode cX6_readsEdge 101 = .ok (.iaload, 1) := by decide +kernel
theorem dX6_readsEdge_102 : decode cX6_readsEdge 102 = .ok (.iconst 1, 1) := by decide +kernel
theorem dX6_readsEdge_103 : decode cX6_readsEdge 103 = .ok (.isub, 1) := by decide +kernel
theorem dX6_readsEdge_104 : decode cX6_readsEdge 104 = .ok (.invokevirtual 119, 3) := by decide +kernel
theorem dX6_readsEdge_107 : decode cX6_readsEdge 107 = .ok (.istore_n 2, 1) := by decide +kernel
theorem dX6_readsEdge_108 : decode cX6_readsEdge 108 = .ok (.aload_n 0, 1) := by decide +kernel
theorem dX6_readsEdge_109 : decode cX6_readsEdge 109 = .ok (.invokevirtual 116, 3) := by decide +kernel
theorem dX6_readsEdge_112 : decode cX6_readsEdge 112 = .ok (.aload_n 0, 1) := by decide +kernel
theorem dX6_readsEdge_113 : decode cX6_readsEdge 113 = .ok (.getfield 83, 3) := by decide +kernel
theorem dX6_readsEdge_116 : decode cX6_readsEdge 116 = .ok (.ifCond .eq 4, 3) := by decide +kernel
theorem dX6_readsEdge_119 : decode cX6_readsEdge 119 = .ok (.return_, 1) := by decide +kernel
theorem dX6_readsEdge_120 : decode cX6_readsEdge 120 = .ok (.aload_n 0, 1) := by decide +kernel
theorem dX6_readsEdge_121 : decode cX6_readsEdge 121 = .ok (.getfield 7, 3) := by decide +kernel
theorem dX6_readsEdge_124 : decode cX6_readsEdge 124 = .ok (.bipush 13, 2) := by decide +kernel
theorem dX6_readsEdge_126 : decode cX6_readsEdge 126 = .ok (.iload_n 1, 1) := by decide +kernel
theorem dX6_readsEdge_127 : decode cX6_readsEdge 127 = .ok (.iadd, 1) := by decide +kernel
theorem dX6_readsEdge_128 : decode cX6_readsEdge 128 = .ok (.dup2, 1) := by decide +kernel
theorem dX6_readsEdge_129 : decode cX6_readsEdge 129 = .ok (.iaload, 1) := by decide +kernel
theorem dX6_readsEdge_130 : decode cX6_readsEdge 130 = .ok (.iconst 1, 1) := by decide +kernel
theorem dX6_readsEdge_131 : decode cX6_readsEdge 131 = .ok (.iload_n 2, 1) := by decide +kernel
theorem dX6_readsEdge_132 : decode cX6_readsEdge 132 = .ok (.ishl, 1) := by decide +kernel
theorem dX6_readsEdge_133 : decode cX6_readsEdge 133 = .ok (.ior, 1) := by decide +kernel
theorem dX6_readsEdge_134 : decode cX6_readsEdge 134 = .ok (.iastore, 1) := by decide +kernel
theorem dX6_readsEdge_135 : decode cX6_readsEdge 135 = .ok (.aload_n 0, 1) := by decide +kernel
theorem dX6_readsEdge_136 : decode cX6_readsEdge 136 = .ok (.getfield 7, 3) := by decide +kernel
theorem dX6_readsEdge_139 : decode cX6_readsEdge 139 = .ok (.bipush 13, 2) := by decide +kernel
theorem dX6_readsEdge_141 : decode cX6_readsEdge 141 = .ok (.iload_n 2, 1) := by decide +kernel
theorem dX6_readsEdge_142 : decode cX6_readsEdge 142 = .ok (.iadd, 1) := by decide +kernel
theorem dX6_readsEdge_143 : decode cX6_readsEdge 143 = .ok (.dup2, 1) := by decide +kernel
theorem dX6_readsEdge_144 : decode cX6_readsEdge 144 = .ok (.iaload, 1) := by decide +kernel
theorem dX6_readsEdge_145 : decode cX6_readsEdge 145 = .ok (.iconst 1, 1) := by decide +kernel
theorem dX6_readsEdge_146 : decode cX6_readsEdge 146 = .ok (.iload_n 1, 1) := by decide +kernel
theorem dX6_readsEdge_147 : decode cX6_readsEdge 147 = .ok (.ishl, 1) := by decide +kernel
theorem dX6_readsEdge_148 : decode cX6_readsEdge 148 = .ok (.ior, 1) := by decide +kernel
theorem dX6_readsEdge_149 : decode cX6_readsEdge 149 = .ok (.iastore, 1) := by decide +kernel
theorem dX6_readsEdge_150 : decode cX6_readsEdge 150 = .ok (.return_, 1) := by decide +kernel
theorem dX6_readsLay_0 : decode cX6_readsLay 0 = .ok (.aload_n 0, 1) := by decide +kernel
theorem dX6_readsLay_1 : decode cX6_readsLay 1 = .ok (.iconst 1, 1) := by decide +kernel
theorem dX6_readsLay_2 : decode cX6_readsLay 2 = .ok (.invokevirtual 106, 3) := by decide +kernel
theorem dX6_readsLay_5 : decode cX6_readsLay 5 = .ok (.aload_n 0, 1) := by decide +kernel
theorem dX6_readsLay_6 : decode cX6_readsLay 6 = .ok (.iconst 0, 1) := by decide +kernel
theorem dX6_readsLay_7 : decode cX6_readsLay 7 = .ok (.aload_n 0, 1) := by decide +kernel
theorem dX6_readsLay_8 : decode cX6_readsLay 8 = .ok (.getfield 7, 3) := by decide +kernel
theorem dX6_readsLay_11 : decode cX6_readsLay 11 = .ok (.iconst 0, 1) := by decide +kernel
theorem dX6_readsLay_12 : decode cX6_readsLay 12 = .ok (.iaload, 1) := by decide +kernel
theorem dX6_readsLay_13 : decode cX6_readsLay 13 = .ok (.iconst 1, 1) := by decide +kernel
theorem dX6_readsLay_14 : decode cX6_readsLay 14 = .ok (.isub, 1) := by decide +kernel
theorem dX6_readsLay_15 : decode cX6_readsLay 15 = .ok (.invokevirtual 119, 3) := by decide +kernel
theorem dX6_readsLay_18 : decode cX6_readsLay 18 = .ok (.istore_n 1, 1) := by decide +kernel
theorem dX6_readsLay_19 : decode cX6_readsLay 19 = .ok (.aload_n 0, 1) := by decide +kernel
theorem dX6_readsLay_20 : decode cX6_readsLay 20 = .ok (.getfield 83, 3) := by decide +kernel
theorem dX6_readsLay_23 : decode cX6_readsLay 23 = .ok (.ifCond .ne 16, 3) := by decide +kernel
theorem dX6_readsLay_26 : decode cX6_readsLay 26 = .ok (.aload_n 0, 1) := by decide +kernel
theorem dX6_readsLay_27 : decode cX6_readsLay 27 = .ok (.getfield 73, 3) := by decide +kernel
theorem dX6_readsLay_30 : decode cX6_readsLay 30 = .ok (.ifCond .eq 9, 3) := by decide +kernel
theorem dX6_readsLay_33 : decode cX6_readsLay 33 = .ok (.aload_n 0, 1) := by decide +kernel
theorem dX6_readsLay_34 : decode cX6_readsLay 34 = .ok (.bipush (-2), 2) := by decide +kernel
theorem dX6_readsLay_36 : decode cX6_readsLay 36 = .ok (.invokevirtual 99, 3) := by decide +kernel
theorem dX6_readsLay_39 : decode cX6_readsLay 39 = .ok (.aload_n 0, 1) := by decide +kernel
theorem dX6_readsLay_40 : decode cX6_readsLay 40 = .ok (.getfield 83, 3) := by decide +kernel
theorem dX6_readsLay_43 : decode cX6_readsLay 43 = .ok (.ifCond .ne 10, 3) := by decide +kernel
theorem dX6_readsLay_46 : decode cX6_readsLay 46 = .ok (.aload_n 0, 1) := by decide +kernel
theorem dX6_readsLay_47 : decode cX6_readsLay 47 = .ok (.invokevirtual 113, 3) := by decide +kernel
theorem dX6_readsLay_50 : decode cX6_readsLay 50 = .ok (.goto 4, 3) := by decide +kernel
theorem dX6_readsLay_53 : decode cX6_readsLay 53 = .ok (.iconst 0, 1) := by decide +kernel
theorem dX6_readsLay_54 : decode cX6_readsLay 54 = .ok (.istore_n 2, 1) := by decide +kernel
theorem dX6_readsLay_55 : decode cX6_readsLay 55 = .ok (.iload_n 2, 1) := by decide +kernel
theorem dX6_readsLay_56 : decode cX6_readsLay 56 = .ok (.iconst 1, 1) := by decide +kernel
theorem dX6_readsLay_57 : decode cX6_readsLay 57 = .ok (.if_icmp .ne 7, 3) := by decide +kernel
theorem dX6_readsLay_60 : decode cX6_readsLay 60 = .ok (.iconst 0, 1) := by decide +kernel
theorem dX6_readsLay_61 : decode cX6_readsLay 61 = .ok (.goto 22, 3) := by decide +kernel
theorem dX6_readsLay_64 : decode cX6_readsLay 64 = .ok (.iload_n 2, 1) := by decide +kernel
theorem dX6_readsLay_65 : decode cX6_readsLay 65 = .ok (.iconst 2, 1) := by decide +kernel
theorem dX6_readsLay_66 : decode cX6_readsLay 66 = .ok (.if_icmp .ne 7, 3) := by decide +kernel
theorem dX6_readsLay_69 : decode cX6_readsLay 69 = .ok (.iconst 1, 1) := by decide +kernel
theorem dX6_readsLay_70 : decode cX6_readsLay 70 = .ok (.goto 13, 3) := by decide +kernel
theorem dX6_readsLay_73 : decode cX6_readsLay 73 = .ok (.iload_n 2, 1) := by decide +kernel
theorem dX6_readsLay_74 : decode cX6_readsLay 74 = .ok (.iconst 4, 1) := by decide +kernel
theorem dX6_readsLay_75 : decode cX6_readsLay 75 = .ok (.if_icmp .ne 7, 3) := by decide +kernel
theorem dX6_readsLay_78 : decode cX6_readsLay 78 = .ok (.iconst 2, 1) := by decide +kernel
theorem dX6_readsLay_79 : decode cX6_readsLay 79 = .ok (.goto 4, 3) := by decide +kernel
theorem dX6_readsLay_82 : decode cX6_readsLay 82 = .ok (.iconst (-1), 1) := by decide +kernel
theorem dX6_readsLay_83 : decode cX6_readsLay 83 = .ok (.istore_n 3, 1) := by decide +kernel
theorem dX6_readsLay_84 : decode cX6_readsLay 84 = .ok (.iload_n 3, 1) := by decide +kernel
theorem dX6_readsLay_85 : decode cX6_readsLay 85 = .ok (.iconst (-1), 1) := by decide +kernel
theorem dX6_readsLay_86 : decode cX6_readsLay 86 = .ok (.if_icmp .ne 9, 3) := by decide +kernel
theorem dX6_readsLay_89 : decode cX6_readsLay 89 = .ok (.aload_n 0, 1) := by decide +kernel
theorem dX6_readsLay_90 : decode cX6_readsLay 90 = .ok (.bipush (-3), 2) := by decide +kernel
theorem dX6_readsLay_92 : decode cX6_readsLay 92 = .ok (.invokevirtual 99, 3) := by decide +kernel
theorem dX6_readsLay_95 : decode cX6_readsLay 95 = .ok (.aload_n 0, 1) := by decide +kernel
theorem dX6_readsLay_96 : decode cX6_readsLay 96 = .ok (.getfield 83, 3) := by decide +kernel
theorem dX6_readsLay_99 : decode cX6_readsLay 99 = .ok (.ifCond .ne 18, 3) := by decide +kernel
theorem dX6_readsLay_102 : decode cX6_readsLay 102 = .ok (.aload_n 0, 1) := by decide +kernel
theorem dX6_readsLay_103 : decode cX6_readsLay 103 = .ok (.iload_n 1, 1) := by decide +kernel
theorem dX6_readsLay_104 : decode cX6_readsLay 104 = .ok (.iload_n 3, 1) := by decide +kernel
theorem dX6_readsLay_105 : decode cX6_readsLay 105 = .ok (.invokevirtual 127, 3) := by decide +kernel
theorem dX6_readsLay_108 : decode cX6_readsLay 108 = .ok (.ifCond .le 9, 3) := by decide +kernel
theorem dX6_readsLay_111 : decode cX6_readsLay 111 = .ok (.aload_n 0, 1) := by decide +kernel
theorem dX6_readsLay_112 : decode cX6_readsLay 112 = .ok (.bipush (-5), 2) := by decide +kernel
theorem dX6_readsLay_114 : decode cX6_readsLay 114 = .ok (.invokevirtual 99, 3) := by decide +kernel
theorem dX6_readsLay_117 : decode cX6_readsLay 117 = .ok (.aload_n 0, 1) := by decide +kernel
theorem dX6_readsLay_118 : decode cX6_readsLay 118 = .ok (.getfield 83, 3) := by decide +kernel
theorem dX6_readsLay_121 : decode cX6_readsLay 121 = .ok (.ifCond .ne 9, 3) := by decide +kernel
theorem dX6_readsLay_124 : decode cX6_readsLay 124 = .ok (.aload_n 0, 1) := by decide +kernel
theorem dX6_readsLay_125 : decode cX6_readsLay 125 = .ok (.iload_n 1, 1) := by decide +kernel
theorem dX6_readsLay_126 : decode cX6_readsLay 126 = .ok (.iload_n 3, 1) := by decide +kernel
theorem dX6_readsLay_127 : decode cX6_readsLay 127 = .ok (.invokevirtual 130, 3) := by decide +kernel
theorem dX6_readsLay_130 : decode cX6_readsLay 130 = .ok (.aload_n 0, 1) := by decide +kernel
theorem dX6_readsLay_131 : decode cX6_readsLay 131 = .ok (.iconst 1, 1) := by decide +kernel
theorem dX6_readsLay_132 : decode cX6_readsLay 132 = .ok (.invokevirtual 106, 3) := by decide +kernel
theorem dX6_readsLay_135 : decode cX6_readsLay 135 = .ok (.aload_n 0, 1) := by decide +kernel
theorem dX6_readsLay_136 : decode cX6_readsLay 136 = .ok (.invokevirtual 116, 3) := by decide +kernel
theorem dX6_readsLay_139 : decode cX6_readsLay 139 = .ok (.return_, 1) := by decide +kernel
theorem dX6_readsPass_0 : decode cX6_readsPass 0 = .ok (.aload_n 0, 1) := by decide +kernel
theorem dX6_readsPass_1 : decode cX6_readsPass 1 = .ok (.getfield 7, 3) := by decide +kernel
theorem dX6_readsPass_4 : decode cX6_readsPass 4 = .ok (.iconst 2, 1) := by decide +kernel
theorem dX6_readsPass_5 : decode cX6_readsPass 5 = .ok (.iaload, 1) := by decide +kernel
theorem dX6_readsPass_6 : decode cX6_readsPass 6 = .ok (.ifCond .ne 9, 3) := by decide +kernel
theorem dX6_readsPass_9 : decode cX6_readsPass 9 = .ok (.aload_n 0, 1) := by decide +kernel
theorem dX6_readsPass_10 : decode cX6_readsPass 10 = .ok (.bipush (-5), 2) := by decide +kernel
theorem dX6_readsPass_12 : decode cX6_readsPass 12 = .ok (.invokevirtual 99, 3) := by decide +kernel
theorem dX6_readsPass_15 : decode cX6_readsPass 15 = .ok (.aload_n 0, 1) := by decide +kernel
theorem dX6_readsPass_16 : decode cX6_readsPass 16 = .ok (.getfield 83, 3) := by decide +kernel
theorem dX6_readsPass_19 : decode cX6_readsPass 19 = .ok (.ifCond .ne 7, 3) := by decide +kernel
theorem dX6_readsPass_22 : decode cX6_readsPass 22 = .ok (.aload_n 0, 1) := by decide +kernel
theorem dX6_readsPass_23 : decode cX6_readsPass 23 = .ok (.invokevirtual 134, 3) := by decide +kernel
theorem dX6_readsPass_26 : decode cX6_readsPass 26 = .ok (.aload_n 0, 1) := by decide +kernel
theorem dX6_readsPass_27 : decode cX6_readsPass 27 = .ok (.iconst 1, 1) := by decide +kernel
theorem dX6_readsPass_28 : decode cX6_readsPass 28 = .ok (.invokevirtual 106, 3) := by decide +kernel
theorem dX6_readsPass_31 : decode cX6_readsPass 31 = .ok (.aload_n 0, 1) := by decide +kernel
theorem dX6_readsPass_32 : decode cX6_readsPass 32 = .ok (.invokevirtual 116, 3) := by decide +kernel
theorem dX6_readsPass_35 : decode cX6_readsPass 35 = .ok (.return_, 1) := by decide +kernel
theorem dX6_reads_0 : decode cX6_reads 0 = .ok (.aload_n 0, 1) := by decide +kernel
theorem dX6_reads_1 : decode cX6_reads 1 = .ok (.aload_n 0, 1) := by decide +kernel
theorem dX6_reads_2 : decode cX6_reads 2 = .ok (.ldc 137, 2) := by decide +kernel
theorem dX6_reads_4 : decode cX6_reads 4 = .ok (.invokevirtual 139, 3) := by decide +kernel
theorem dX6_reads_7 : decode cX6_reads 7 = .ok (.invokevirtual 106, 3) := by decide +kernel
theorem dX6_reads_10 : decode cX6_reads 10 = .ok (.aload_n 0, 1) := by decide +kernel
theorem dX6_reads_11 : decode cX6_reads 11 = .ok (.getfield 7, 3) := by decide +kernel
theorem dX6_reads_14 : decode cX6_reads 14 = .ok (.iconst 1, 1) := by decide +kernel
theorem dX6_reads_15 : decode cX6_reads 15 = .ok (.aload_n 0, 1) := by decide +kernel
theorem dX6_reads_16 : decode cX6_reads 16 = .ok (.iconst 1, 1) := by decide +kernel
theorem dX6_reads_17 : decode cX6_reads 17 = .ok (.iconst 3, 1) := by decide +kernel
theorem dX6_reads_18 : decode cX6_reads 18 = .ok (.invokevirtual 119, 3) := by decide +kernel
theorem dX6_reads_21 : decode cX6_reads 21 = .ok (.iastore, 1) := by decide +kernel
theorem dX6_reads_22 : decode cX6_reads 22 = .ok (.aload_n 0, 1) := by decide +kernel
theorem dX6_reads_23 : decode cX6_reads 23 = .ok (.ldc 143, 2) := by decide +kernel
theorem dX6_reads_25 : decode cX6_reads 25 = .ok (.invokevirtual 139, 3) := by decide +kernel
theorem dX6_reads_28 : decode cX6_reads 28 = .ok (.ifCond .eq 20, 3) := by decide +kernel
theorem dX6_reads_31 : decode cX6_reads 31 = .ok (.aload_n 0, 1) := by decide +kernel
theorem dX6_reads_32 : decode cX6_reads 32 = .ok (.invokevirtual 103, 3) := by decide +kernel
theorem dX6_reads_35 : decode cX6_reads 35 = .ok (.aload_n 0, 1) := by decide +kernel
theorem dX6_reads_36 : decode cX6_reads 36 = .ok (.getfield 7, 3) := by decide +kernel
theorem dX6_reads_39 : decode cX6_reads 39 = .ok (.iconst 2, 1) := by decide +kernel
theorem dX6_reads_40 : decode cX6_reads 40 = .ok (.aload_n 0, 1) := by decide +kernel
theorem dX6_reads_41 : decode cX6_reads 41 = .ok (.iconst 0, 1) := by decide +kernel
theorem dX6_reads_42 : decode cX6_reads 42 = .ok (.bipush 9, 2) := by decide +kernel
theorem dX6_reads_44 : decode cX6_reads 44 = .ok (.invokevirtual 119, 3) := by decide +kernel
theorem dX6_reads_47 : decode cX6_reads 47 = .ok (.iastore, 1) := by decide +kernel
theorem dX6_reads_48 : decode cX6_reads 48 = .ok (.aload_n 0, 1) := by decide +kernel
theorem dX6_reads_49 : decode cX6_reads 49 = .ok (.invokevirtual 116, 3) := by decide +kernel
theorem dX6_reads_52 : decode cX6_reads 52 = .ok (.aload_n 0, 1) := by decide +kernel
theorem dX6_reads_53 : decode cX6_reads 53 = .ok (.ldc 144, 2) := by decide +kernel
theorem dX6_reads_55 : decode cX6_reads 55 = .ok (.invokevirtual 139, 3) := by decide +kernel
theorem dX6_reads_58 : decode cX6_reads 58 = .ok (.ifCond .ne 9, 3) := by decide +kernel
theorem dX6_reads_61 : decode cX6_reads 61 = .ok (.aload_n 0, 1) := by decide +kernel
theorem dX6_reads_62 : decode cX6_reads 62 = .ok (.bipush (-2), 2) := by decide +kernel
theorem dX6_reads_64 : decode cX6_reads 64 = .ok (.invokevirtual 99, 3) := by decide +kernel
theorem dX6_reads_67 : decode cX6_reads 67 = .ok (.aload_n 0, 1) := by decide +kernel
theorem dX6_reads_68 : decode cX6_reads 68 = .ok (.ldc 144, 2) := by decide +kernel
theorem dX6_reads_70 : decode cX6_reads 70 = .ok (.invokevirtual 139, 3) := by decide +kernel
theorem dX6_reads_73 : decode cX6_reads 73 = .ok (.ifCond .eq 10, 3) := by decide +kernel
theorem dX6_reads_76 : decode cX6_reads 76 = .ok (.aload_n 0, 1) := by decide +kernel
theorem dX6_reads_77 : decode cX6_reads 77 = .ok (.invokevirtual 146, 3) := by decide +kernel
theorem dX6_reads_80 : decode cX6_reads 80 = .ok (.goto (-13), 3) := by decide +kernel
theorem dX6_reads_83 : decode cX6_reads 83 = .ok (.aload_n 0, 1) := by decide +kernel
theorem dX6_reads_84 : decode cX6_reads 84 = .ok (.ldc 149, 2) := by decide +kernel
theorem dX6_reads_86 : decode cX6_reads 86 = .ok (.invokevirtual 139, 3) := by decide +kernel
theorem dX6_reads_89 : decode cX6_reads 89 = .ok (.ifCond .eq 10, 3) := by decide +kernel
theorem dX6_reads_92 : decode cX6_reads 92 = .ok (.aload_n 0, 1) := by decide +kernel
theorem dX6_reads_93 : decode cX6_reads 93 = .ok (.invokevirtual 151, 3) := by decide +kernel
theorem dX6_reads_96 : decode cX6_reads 96 = .ok (.goto (-13), 3) := by decide +kernel
theorem dX6_reads_99 : decode cX6_reads 99 = .ok (.aload_n 0, 1) := by decide +kernel
theorem dX6_reads_100 : decode cX6_reads 100 = .ok (.ldc 154, 2) := by decide +kernel
theorem dX6_reads_102 : decode cX6_reads 102 = .ok (.invokevirtual 139, 3) := by decide +kernel
theorem dX6_reads_105 : decode cX6_reads 105 = .ok (.ifCond .ne 12, 3) := by decide +kernel
theorem dX6_reads_108 : decode cX6_reads 108 = .ok (.aload_n 0, 1) := by decide +kernel
theorem dX6_reads_109 : decode cX6_reads 109 = .ok (.ldc 156, 2) := by decide +kernel
theorem dX6_reads_111 : decode cX6_reads 111 = .ok (.invokevirtual 139, 3) := by decide +kernel
theorem dX6_reads_114 : decode cX6_reads 114 = .ok (.ifCond .eq 26, 3) := by decide +kernel
theorem dX6_reads_117 : decode cX6_reads 117 = .ok (.aload_n 0, 1) := by decide +kernel
theorem dX6_reads_118 : decode cX6_reads 118 = .ok (.ldc 154, 2) := by decide +kernel
theorem dX6_reads_120 : decode cX6_reads 120 = .ok (.invokevirtual 139, 3) := by decide +kernel
theorem dX6_reads_123 : decode cX6_reads 123 = .ok (.ifCond .eq 10, 3) := by decide +kernel
theorem dX6_reads_126 : decode cX6_reads 126 = .ok (.aload_n 0, 1) := by decide +kernel
theorem dX6_reads_127 : decode cX6_reads 127 = .ok (.invokevirtual 158, 3) := by decide +kernel
theorem dX6_reads_130 : decode cX6_reads 130 = .ok (.goto (-31), 3) := by decide +kernel
theorem dX6_reads_133 : decode cX6_reads 133 = .ok (.aload_n 0, 1) := by decide +kernel
theorem dX6_reads_134 : decode cX6_reads 134 = .ok (.invokevirtual 161, 3) := by decide +kernel
theorem dX6_reads_137 : decode cX6_reads 137 = .ok (.goto (-38), 3) := by decide +kernel
theorem dX6_reads_140 : decode cX6_reads 140 = .ok (.aload_n 0, 1) := by decide +kernel
theorem dX6_reads_141 : decode cX6_reads 141 = .ok (.getfield 83, 3) := by decide +kernel
theorem dX6_reads_144 : decode cX6_reads 144 = .ok (.ifCond .ne 17, 3) := by decide +kernel
theorem dX6_reads_147 : decode cX6_reads 147 = .ok (.aload_n 0, 1) := by decide +kernel
theorem dX6_reads_148 : decode cX6_reads 148 = .ok (.getfield 73, 3) := by decide +kernel
theorem dX6_reads_151 : decode cX6_reads 151 = .ok (.iconst 3, 1) := by decide +kernel
theorem dX6_reads_152 : decode cX6_reads 152 = .ok (.if_icmp .eq 9, 3) := by decide +kernel
theorem dX6_reads_155 : decode cX6_reads 155 = .ok (.aload_n 0, 1) := by decide +kernel
theorem dX6_reads_156 : decode cX6_reads 156 = .ok (.bipush (-2), 2) := by decide +kernel
theorem dX6_reads_158 : decode cX6_reads 158 = .ok (.invokevirtual 99, 3) := by decide +kernel
theorem dX6_reads_161 : decode cX6_reads 161 = .ok (.return_, 1) := by decide +kernel
theorem dX6_load_0 : decode cX6_load 0 = .ok (.aload_n 0, 1) := by decide +kernel
theorem dX6_load_1 : decode cX6_load 1 = .ok (.iload_n 1, 1) := by decide +kernel
theorem dX6_load_2 : decode cX6_load 2 = .ok (.iconst 0, 1) := by decide +kernel
theorem dX6_load_3 : decode cX6_load 3 = .ok (.aload_n 0, 1) := by decide +kernel
theorem dX6_load_4 : decode cX6_load 4 = .ok (.getfield 57, 3) := by decide +kernel
theorem dX6_load_7 : decode cX6_load 7 = .ok (.invokestatic 76, 3) := by decide +kernel
theorem dX6_load_10 : decode cX6_load 10 = .ok (.ifCond .eq 7, 3) := by decide +kernel
theorem dX6_load_13 : decode cX6_load 13 = .ok (.iconst 0, 1) := by decide +kernel
theorem dX6_load_14 : decode cX6_load 14 = .ok (.goto 4, 3) := by decide +kernel
theorem dX6_load_17 : decode cX6_load 17 = .ok (.iconst 1, 1) := by decide +kernel
theorem dX6_load_18 : decode cX6_load 18 = .ok (.putfield 47, 3) := by decide +kernel
theorem dX6_load_21 : decode cX6_load 21 = .ok (.aload_n 0, 1) := by decide +kernel
theorem dX6_load_22 : decode cX6_load 22 = .ok (.getfield 47, 3) := by decide +kernel
theorem dX6_load_25 : decode cX6_load 25 = .ok (.ifCond .le 5, 3) := by decide +kernel
theorem dX6_load_28 : decode cX6_load 28 = .ok (.iconst 0, 1) := by decide +kernel
theorem dX6_load_29 : decode cX6_load 29 = .ok (.ireturn, 1) := by decide +kernel
theorem dX6_load_30 : decode cX6_load 30 = .ok (.aload_n 0, 1) := by decide +kernel
theorem dX6_load_31 : decode cX6_load 31 = .ok (.iload_n 1, 1) := by decide +kernel
theorem dX6_load_32 : decode cX6_load 32 = .ok (.putfield 60, 3) := by decide +kernel
theorem dX6_load_35 : decode cX6_load 35 = .ok (.aload_n 0, 1) := by decide +kernel
theorem dX6_load_36 : decode cX6_load 36 = .ok (.iconst 0, 1) := by decide +kernel
theorem dX6_load_37 : decode cX6_load 37 = .ok (.putfield 57, 3) := by decide +kernel
theorem dX6_load_40 : decode cX6_load 40 = .ok (.aload_n 0, 1) := by decide +kernel
theorem dX6_load_41 : decode cX6_load 41 = .ok (.iconst 0, 1) := by decide +kernel
theorem dX6_load_42 : decode cX6_load 42 = .ok (.putfield 63, 3) := by decide +kernel
theorem dX6_load_45 : decode cX6_load 45 = .ok (.aload_n 0, 1) := by decide +kernel
theorem dX6_load_46 : decode cX6_load 46 = .ok (.iconst 0, 1) := by decide +kernel
theorem dX6_load_47 : decode cX6_load 47 = .ok (.putfield 83, 3) := by decide +kernel
theorem dX6_load_50 : decode cX6_load 50 = .ok (.aload_n 0, 1) := by decide +kernel
theorem dX6_load_51 : decode cX6_load 51 = .ok (.getfield 13, 3) := by decide +kernel
theorem dX6_load_54 : decode cX6_load 54 = .ok (.iconst 0, 1) := by decide +kernel
theorem dX6_load_55 : decode cX6_load 55 = .ok (.aload_n 0, 1) := by decide +kernel
theorem dX6_load_56 : decode cX6_load 56 = .ok (.getfield 7, 3) := by decide +kernel
theorem dX6_load_59 : decode cX6_load 59 = .ok (.iconst 0, 1) := by decide +kernel
theorem dX6_load_60 : decode cX6_load 60 = .ok (.invokestatic 53, 3) := by decide +kernel
theorem dX6_load_63 : decode cX6_load 63 = .ok (.iconst 0, 1) := by decide +kernel
theorem dX6_load_64 : decode cX6_load 64 = .ok (.istore_n 2, 1) := by decide +kernel
theorem dX6_load_65 : decode cX6_load 65 = .ok (.iload_n 2, 1) := by decide +kernel
theorem dX6_load_66 : decode cX6_load 66 = .ok (.sipush 4136, 3) := by decide +kernel
theorem dX6_load_69 : decode cX6_load 69 = .ok (.if_icmp .ge 16, 3) := by decide +kernel
theorem dX6_load_72 : decode cX6_load 72 = .ok (.aload_n 0, 1) := by decide +kernel
theorem dX6_load_73 : decode cX6_load 73 = .ok (.getfield 7, 3) := by decide +kernel
theorem dX6_load_76 : decode cX6_load 76 = .ok (.iload_n 2, 1) := by decide +kernel
theorem dX6_load_77 : decode cX6_load 77 = .ok (.iconst 0, 1) := by decide +kernel
theorem dX6_load_78 : decode cX6_load 78 = .ok (.iastore, 1) := by decide +kernel
theorem dX6_load_79 : decode cX6_load 79 = .ok (.iinc 2 1, 3) := by decide +kernel
theorem dX6_load_82 : decode cX6_load 82 = .ok (.goto (-17), 3) := by decide +kernel
theorem dX6_load_85 : decode cX6_load 85 = .ok (.aload_n 0, 1) := by decide +kernel
theorem dX6_load_86 : decode cX6_load 86 = .ok (.invokevirtual 103, 3) := by decide +kernel
theorem dX6_load_89 : decode cX6_load 89 = .ok (.aload_n 0, 1) := by decide +kernel
theorem dX6_load_90 : decode cX6_load 90 = .ok (.invokevirtual 164, 3) := by decide +kernel
theorem dX6_load_93 : decode cX6_load 93 = .ok (.aload_n 0, 1) := by decide +kernel
theorem dX6_load_94 : decode cX6_load 94 = .ok (.aload_n 0, 1) := by decide +kernel
theorem dX6_load_95 : decode cX6_load 95 = .ok (.getfield 83, 3) := by decide +kernel
theorem dX6_load_98 : decode cX6_load 98 = .ok (.ifCond .ne 7, 3) := by decide +kernel
theorem dX6_load_101 : decode cX6_load 101 = .ok (.iconst (-1), 1) := by decide +kernel
theorem dX6_load_102 : decode cX6_load 102 = .ok (.goto 7, 3) := by decide +kernel
theorem dX6_load_105 : decode cX6_load 105 = .ok (.aload_n 0, 1) := by decide +kernel
theorem dX6_load_106 : decode cX6_load 106 = .ok (.getfield 96, 3) := by decide +kernel
theorem dX6_load_109 : decode cX6_load 109 = .ok (.putfield 33, 3) := by decide +kernel
theorem dX6_load_112 : decode cX6_load 112 = .ok (.aload_n 0, 1) := by decide +kernel
theorem dX6_load_113 : decode cX6_load 113 = .ok (.getfield 16, 3) := by decide +kernel
theorem dX6_load_116 : decode cX6_load 116 = .ok (.iconst 0, 1) := by decide +kernel
theorem dX6_load_117 : decode cX6_load 117 = .ok (.aload_n 0, 1) := by decide +kernel
theorem dX6_load_118 : decode cX6_load 118 = .ok (.getfield 7, 3) := by decide +kernel
theorem dX6_load_121 : decode cX6_load 121 = .ok (.iconst 0, 1) := by decide +kernel
theorem dX6_load_122 : decode cX6_load 122 = .ok (.invokestatic 53, 3) := by decide +kernel
theorem dX6_load_125 : decode cX6_load 125 = .ok (.aload_n 0, 1) := by decide +kernel
theorem dX6_load_126 : decode cX6_load 126 = .ok (.getfield 7, 3) := by decide +kernel
theorem dX6_load_129 : decode cX6_load 129 = .ok (.iconst 0, 1) := by decide +kernel
theorem dX6_load_130 : decode cX6_load 130 = .ok (.aload_n 0, 1) := by decide +kernel
theorem dX6_load_131 : decode cX6_load 131 = .ok (.getfield 13, 3) := by decide +kernel
theorem dX6_load_134 : decode cX6_load 134 = .ok (.iconst 0, 1) := by decide +kernel
theorem dX6_load_135 : decode cX6_load 135 = .ok (.invokestatic 53, 3) := by decide +kernel
theorem dX6_load_138 : decode cX6_load 138 = .ok (.aload_n 0, 1) := by decide +kernel
theorem dX6_load_139 : decode cX6_load 139 = .ok (.getfield 83, 3) := by decide +kernel
theorem dX6_load_142 : decode cX6_load 142 = .ok (.ifCond .eq 8, 3) := by decide +kernel
theorem dX6_load_145 : decode cX6_load 145 = .ok (.aload_n 0, 1) := by decide +kernel
theorem dX6_load_146 : decode cX6_load 146 = .ok (.getfield 83, 3) := by decide +kernel
theorem dX6_load_149 : decode cX6_load 149 = .ok (.ireturn, 1) := by decide +kernel
theorem dX6_load_150 : decode cX6_load 150 = .ok (.aload_n 0, 1) := by decide +kernel
theorem dX6_load_151 : decode cX6_load 151 = .ok (.invokevirtual 167, 3) := by decide +kernel
theorem dX6_load_154 : decode cX6_load 154 = .ok (.aload_n 0, 1) := by decide +kernel
theorem dX6_load_155 : decode cX6_load 155 = .ok (.getfield 7, 3) := by decide +kernel
theorem dX6_load_158 : decode cX6_load 158 = .ok (.iconst 0, 1) := by decide +kernel
theorem dX6_load_159 : decode cX6_load 159 = .ok (.aload_n 0, 1) := by decide +kernel
theorem dX6_load_160 : decode cX6_load 160 = .ok (.getfield 16, 3) := by decide +kernel
theorem dX6_load_163 : decode cX6_load 163 = .ok (.iconst 0, 1) := by decide +kernel
theorem dX6_load_164 : decode cX6_load 164 = .ok (.invokestatic 53, 3) := by decide +kernel
theorem dX6_load_167 : decode cX6_load 167 = .ok (.aload_n 0, 1) := by decide +kernel
theorem dX6_load_168 : decode cX6_load 168 = .ok (.getfield 7, 3) := by decide +kernel
theorem dX6_load_171 : decode cX6_load 171 = .ok (.iconst 0, 1) := by decide +kernel
theorem dX6_load_172 : decode cX6_load 172 = .ok (.iaload, 1) := by decide +kernel
theorem dX6_load_173 : decode cX6_load 173 = .ok (.ireturn, 1) := by decide +kernel
theorem dX6_errorPosition_0 : decode cX6_errorPosition 0 = .ok (.aload_n 0, 1) := by decide +kernel
theorem dX6_errorPosition_1 : decode cX6_errorPosition 1 = .ok (.iconst 0, 1) := by decide +kernel
theorem dX6_errorPosition_2 : decode cX6_errorPosition 2 = .ok (.putfield 47, 3) := by decide +kernel
theorem dX6_errorPosition_5 : decode cX6_errorPosition 5 = .ok (.aload_n 0, 1) := by decide +kernel
theorem dX6_errorPosition_6 : decode cX6_errorPosition 6 = .ok (.getfield 33, 3) := by decide +kernel
theorem dX6_errorPosition_9 : decode cX6_errorPosition 9 = .ok (.ireturn, 1) := by decide +kernel
theorem dX6_areNext_0 : decode cX6_areNext 0 = .ok (.aload_n 0, 1) := by decide +kernel
theorem dX6_areNext_1 : decode cX6_areNext 1 = .ok (.getfield 7, 3) := by decide +kernel
theorem dX6_areNext_4 : decode cX6_areNext 4 = .ok (.bipush 13, 2) := by decide +kernel
theorem dX6_areNext_6 : decode cX6_areNext 6 = .ok (.iload_n 1, 1) := by decide +kernel
theorem dX6_areNext_7 : decode cX6_areNext 7 = .ok (.iadd, 1) := by decide +kernel
theorem dX6_areNext_8 : decode cX6_areNext 8 = .ok (.iaload, 1) := by decide +kernel
theorem dX6_areNext_9 : decode cX6_areNext 9 = .ok (.iload_n 2, 1) := by decide +kernel
theorem dX6_areNext_10 : decode cX6_areNext 10 = .ok (.ishr, 1) := by decide +kernel
theorem dX6_areNext_11 : decode cX6_areNext 11 = .ok (.iconst 1, 1) := by decide +kernel
theorem dX6_areNext_12 : decode cX6_areNext 12 = .ok (.iand, 1) := by decide +kernel
theorem dX6_areNext_13 : decode cX6_areNext 13 = .ok (.iconst 1, 1) := by decide +kernel
theorem dX6_areNext_14 : decode cX6_areNext 14 = .ok (.if_icmp .ne 7, 3) := by decide +kernel
theorem dX6_areNext_17 : decode cX6_areNext 17 = .ok (.iconst 1, 1) := by decide +kernel
theorem dX6_areNext_18 : decode cX6_areNext 18 = .ok (.goto 4, 3) := by decide +kernel
theorem dX6_areNext_21 : decode cX6_areNext 21 = .ok (.iconst 0, 1) := by decide +kernel
theorem dX6_areNext_22 : decode cX6_areNext 22 = .ok (.ireturn, 1) := by decide +kernel
theorem dX6_colourOf_0 : decode cX6_colourOf 0 = .ok (.aload_n 0, 1) := by decide +kernel
theorem dX6_colourOf_1 : decode cX6_colourOf 1 = .ok (.getfield 7, 3) := by decide +kernel
theorem dX6_colourOf_4 : decode cX6_colourOf 4 = .ok (.bipush 22, 2) := by decide +kernel
theorem dX6_colourOf_6 : decode cX6_colourOf 6 = .ok (.iload_n 1, 1) := by decide +kernel
theorem dX6_colourOf_7 : decode cX6_colourOf 7 = .ok (.iadd, 1) := by decide +kernel
theorem dX6_colourOf_8 : decode cX6_colourOf 8 = .ok (.iaload, 1) := by decide +kernel
theorem dX6_colourOf_9 : decode cX6_colourOf 9 = .ok (.iconst 1, 1) := by decide +kernel
theorem dX6_colourOf_10 : decode cX6_colourOf 10 = .ok (.isub, 1) := by decide +kernel
theorem dX6_colourOf_11 : decode cX6_colourOf 11 = .ok (.ireturn, 1) := by decide +kernel
theorem dX6_isFree_0 : decode cX6_isFree 0 = .ok (.aload_n 0, 1) := by decide +kernel
theorem dX6_isFree_1 : decode cX6_isFree 1 = .ok (.getfield 7, 3) := by decide +kernel
theorem dX6_isFree_4 : decode cX6_isFree 4 = .ok (.bipush 22, 2) := by decide +kernel
theorem dX6_isFree_6 : decode cX6_isFree 6 = .ok (.iload_n 1, 1) := by decide +kernel
theorem dX6_isFree_7 : decode cX6_isFree 7 = .ok (.iadd, 1) := by decide +kernel
theorem dX6_isFree_8 : decode cX6_isFree 8 = .ok (.iaload, 1) := by decide +kernel
theorem dX6_isFree_9 : decode cX6_isFree 9 = .ok (.ifCond .ne 7, 3) := by decide +kernel
theorem dX6_isFree_12 : decode cX6_isFree 12 = .ok (.iconst 1, 1) := by decide +kernel
theorem dX6_isFree_13 : decode cX6_isFree 13 = .ok (.goto 4, 3) := by decide +kernel
theorem dX6_isFree_16 : decode cX6_isFree 16 = .ok (.iconst 0, 1) := by decide +kernel
theorem dX6_isFree_17 : decode cX6_isFree 17 = .ok (.ireturn, 1) := by decide +kernel
theorem dX6_freeSet_0 : decode cX6_freeSet 0 = .ok (.iconst 0, 1) := by decide +kernel
theorem dX6_freeSet_1 : decode cX6_freeSet 1 = .ok (.istore_n 1, 1) := by decide +kernel
theorem dX6_freeSet_2 : decode cX6_freeSet 2 = .ok (.iconst 0, 1) := by decide +kernel
theorem dX6_freeSet_3 : decode cX6_freeSet 3 = .ok (.istore_n 2, 1) := by decide +kernel
theorem dX6_freeSet_4 : decode cX6_freeSet 4 = .ok (.iload_n 2, 1) := by decide +kernel
theorem dX6_freeSet_5 : decode cX6_freeSet 5 = .ok (.aload_n 0, 1) := by decide +kernel
theorem dX6_freeSet_6 : decode cX6_freeSet 6 = .ok (.getfield 7, 3) := by decide +kernel
theorem dX6_freeSet_9 : decode cX6_freeSet 9 = .ok (.iconst 0, 1) := by decide +kernel
theorem dX6_freeSet_10 : decode cX6_freeSet 10 = .ok (.iaload, 1) := by decide +kernel
theorem dX6_freeSet_11 : decode cX6_freeSet 11 = .ok (.if_icmp .ge 27, 3) := by decide +kernel
theorem dX6_freeSet_14 : decode cX6_freeSet 14 = .ok (.iload_n 1, 1) := by decide +kernel
theorem dX6_freeSet_15 : decode cX6_freeSet 15 = .ok (.aload_n 0, 1) := by decide +kernel
theorem dX6_freeSet_16 : decode cX6_freeSet 16 = .ok (.iload_n 2, 1) := by decide +kernel
theorem dX6_freeSet_17 : decode cX6_freeSet 17 = .ok (.invokevirtual 170, 3) := by decide +kernel
theorem dX6_freeSet_20 : decode cX6_freeSet 20 = .ok (.ifCond .eq 9, 3) := by decide +kernel
theorem dX6_freeSet_23 : decode cX6_freeSet 23 = .ok (.iconst 1, 1) := by decide +kernel
theorem dX6_freeSet_24 : decode cX6_freeSet 24 = .ok (.iload_n 2, 1) := by decide +kernel
theorem dX6_freeSet_25 : decode cX6_freeSet 25 = .ok (.ishl, 1) := by decide +kernel
theorem dX6_freeSet_26 : decode cX6_freeSet 26 = .ok (.goto 4, 3) := by decide +kernel
theorem dX6_freeSet_29 : decode cX6_freeSet 29 = .ok (.iconst 0, 1) := by decide +kernel
theorem dX6_freeSet_30 : decode cX6_freeSet 30 = .ok (.ior, 1) := by decide +kernel
theorem dX6_freeSet_31 : decode cX6_freeSet 31 = .ok (.istore_n 1, 1) := by decide +kernel
theorem dX6_freeSet_32 : decode cX6_freeSet 32 = .ok (.iinc 2 1, 3) := by decide +kernel
theorem dX6_freeSet_35 : decode cX6_freeSet 35 = .ok (.goto (-31), 3) := by decide +kernel
theorem dX6_freeSet_38 : decode cX6_freeSet 38 = .ok (.iload_n 1, 1) := by decide +kernel
theorem dX6_freeSet_39 : decode cX6_freeSet 39 = .ok (.ireturn, 1) := by decide +kernel
theorem dX6_bits_0 : decode cX6_bits 0 = .ok (.iconst 0, 1) := by decide +kernel
theorem dX6_bits_1 : decode cX6_bits 1 = .ok (.istore_n 1, 1) := by decide +kernel
theorem dX6_bits_2 : decode cX6_bits 2 = .ok (.iload_n 0, 1) := by decide +kernel
theorem dX6_bits_3 : decode cX6_bits 3 = .ok (.istore_n 2, 1) := by decide +kernel
theorem dX6_bits_4 : decode cX6_bits 4 = .ok (.iload_n 2, 1) := by decide +kernel
theorem dX6_bits_5 : decode cX6_bits 5 = .ok (.ifCond .le 15, 3) := by decide +kernel
theorem dX6_bits_8 : decode cX6_bits 8 = .ok (.iinc 1 1, 3) := by decide +kernel
theorem dX6_bits_11 : decode cX6_bits 11 = .ok (.iload_n 2, 1) := by decide +kernel
theorem dX6_bits_12 : decode cX6_bits 12 = .ok (.iload_n 2, 1) := by decide +kernel
theorem dX6_bits_13 : decode cX6_bits 13 = .ok (.iconst 1, 1) := by decide +kernel
theorem dX6_bits_14 : decode cX6_bits 14 = .ok (.isub, 1) := by decide +kernel
theorem dX6_bits_15 : decode cX6_bits 15 = .ok (.iand, 1) := by decide +kernel
theorem dX6_bits_16 : decode cX6_bits 16 = .ok (.istore_n 2, 1) := by decide +kernel
theorem dX6_bits_17 : decode cX6_bits 17 = .ok (.goto (-13), 3) := by decide +kernel
theorem dX6_bits_20 : decode cX6_bits 20 = .ok (.iload_n 1, 1) := by decide +kernel
theorem dX6_bits_21 : decode cX6_bits 21 = .ok (.ireturn, 1) := by decide +kernel
theorem dX6_lowest_0 : decode cX6_lowest 0 = .ok (.iconst 0, 1) := by decide +kernel
theorem dX6_lowest_1 : decode cX6_lowest 1 = .ok (.istore_n 1, 1) := by decide +kernel
theorem dX6_lowest_2 : decode cX6_lowest 2 = .ok (.iload_n 0, 1) := by decide +kernel
theorem dX6_lowest_3 : decode cX6_lowest 3 = .ok (.iload_n 1, 1) := by decide +kernel
theorem dX6_lowest_4 : decode cX6_lowest 4 = .ok (.ishr, 1) := by decide +kernel
theorem dX6_lowest_5 : decode cX6_lowest 5 = .ok (.iconst 1, 1) := by decide +kernel
theorem dX6_lowest_6 : decode cX6_lowest 6 = .ok (.iand, 1) := by decide +kernel
theorem dX6_lowest_7 : decode cX6_lowest 7 = .ok (.ifCond .ne 9, 3) := by decide +kernel
theorem dX6_lowest_10 : decode cX6_lowest 10 = .ok (.iinc 1 1, 3) := by decide +kernel
theorem dX6_lowest_13 : decode cX6_lowest 13 = .ok (.goto (-11), 3) := by decide +kernel
theorem dX6_lowest_16 : decode cX6_lowest 16 = .ok (.iload_n 1, 1) := by decide +kernel
theorem dX6_lowest_17 : decode cX6_lowest 17 = .ok (.ireturn, 1) := by decide +kernel
theorem dX6_reached_0 : decode cX6_reached 0 = .ok (.iconst 1, 1) := by decide +kernel
theorem dX6_reached_1 : decode cX6_reached 1 = .ok (.iload_n 1, 1) := by decide +kernel
theorem dX6_reached_2 : decode cX6_reached 2 = .ok (.ishl, 1) := by decide +kernel
theorem dX6_reached_3 : decode cX6_reached 3 = .ok (.istore_n 3, 1) := by decide +kernel
theorem dX6_reached_4 : decode cX6_reached 4 = .ok (.iconst 0, 1) := by decide +kernel
theorem dX6_reached_5 : decode cX6_reached 5 = .ok (.istore 4, 2) := by decide +kernel
theorem dX6_reached_7 : decode cX6_reached 7 = .ok (.iload_n 3, 1) := by decide +kernel
theorem dX6_reached_8 : decode cX6_reached 8 = .ok (.iload 4, 2) := by decide +kernel
theorem dX6_reached_10 : decode cX6_reached 10 = .ok (.if_icmp .eq 59, 3) := by decide +kernel
theorem dX6_reached_13 : decode cX6_reached 13 = .ok (.iload_n 3, 1) := by decide +kernel
theorem dX6_reached_14 : decode cX6_reached 14 = .ok (.istore 4, 2) := by decide +kernel
theorem dX6_reached_16 : decode cX6_reached 16 = .ok (.iconst 0, 1) := by decide +kernel
theorem dX6_reached_17 : decode cX6_reached 17 = .ok (.istore 5, 2) := by decide +kernel
theorem dX6_reached_19 : decode cX6_reached 19 = .ok (.iload 5, 2) := by decide +kernel
theorem dX6_reached_21 : decode cX6_reached 21 = .ok (.aload_n 0, 1) := by decide +kernel
theorem dX6_reached_22 : decode cX6_reached 22 = .ok (.getfield 7, 3) := by decide +kernel
theorem dX6_reached_25 : decode cX6_reached 25 = .ok (.iconst 0, 1) := by decide +kernel
theorem dX6_reached_26 : decode cX6_reached 26 = .ok (.iaload, 1) := by decide +kernel
theorem dX6_reached_27 : decode cX6_reached 27 = .ok (.if_icmp .ge 39, 3) := by decide +kernel
theorem dX6_reached_30 : decode cX6_reached 30 = .ok (.iload_n 3, 1) := by decide +kernel
theorem dX6_reached_31 : decode cX6_reached 31 = .ok (.iload 4, 2) := by decide +kernel
theorem dX6_reached_33 : decode cX6_reached 33 = .ok (.iload 5, 2) := by decide +kernel
theorem dX6_reached_35 : decode cX6_reached 35 = .ok (.ishr, 1) := by decide +kernel
theorem dX6_reached_36 : decode cX6_reached 36 = .ok (.iconst 1, 1) := by decide +kernel
theorem dX6_reached_37 : decode cX6_reached 37 = .ok (.iand, 1) := by decide +kernel
theorem dX6_reached_38 : decode cX6_reached 38 = .ok (.iconst 1, 1) := by decide +kernel
theorem dX6_reached_39 : decode cX6_reached 39 = .ok (.if_icmp .ne 18, 3) := by decide +kernel
theorem dX6_reached_42 : decode cX6_reached 42 = .ok (.aload_n 0, 1) := by decide +kernel
theorem dX6_reached_43 : decode cX6_reached 43 = .ok (.getfield 7, 3) := by decide +kernel
theorem dX6_reached_46 : decode cX6_reached 46 = .ok (.bipush 13, 2) := by decide +kernel
theorem dX6_reached_48 : decode cX6_reached 48 = .ok (.iload 5, 2) := by decide +kernel
theorem dX6_reached_50 : decode cX6_reached 50 = .ok (.iadd, 1) := by decide +kernel
theorem dX6_reached_51 : decode cX6_reached 51 = .ok (.iaload, 1) := by decide +kernel
theorem dX6_reached_52 : decode cX6_reached 52 = .ok (.iload_n 2, 1) := by decide +kernel
theorem dX6_reached_53 : decode cX6_reached 53 = .ok (.iand, 1) := by decide +kernel
theorem dX6_reached_54 : decode cX6_reached 54 = .ok (.goto 4, 3) := by decide +kernel
theorem dX6_reached_57 : decode cX6_reached 57 = .ok (.iconst 0, 1) := by decide +kernel
theorem dX6_reached_58 : decode cX6_reached 58 = .ok (.ior, 1) := by decide +kernel
theorem dX6_reached_59 : decode cX6_reached 59 = .ok (.istore_n 3, 1) := by decide +kernel
theorem dX6_reached_60 : decode cX6_reached 60 = .ok (.iinc 5 1, 3) := by decide +kernel
theorem dX6_reached_63 : decode cX6_reached 63 = .ok (.goto (-44), 3) := by decide +kernel
theorem dX6_reached_66 : decode cX6_reached 66 = .ok (.goto (-59), 3) := by decide +kernel
theorem dX6_reached_69 : decode cX6_reached 69 = .ok (.iload_n 3, 1) := by decide +kernel
theorem dX6_reached_70 : decode cX6_reached 70 = .ok (.ireturn, 1) := by decide +kernel
theorem dX6_partsIn_0 : decode cX6_partsIn 0 = .ok (.iconst 0, 1) := by decide +kernel
theorem dX6_partsIn_1 : decode cX6_partsIn 1 = .ok (.istore_n 2, 1) := by decide +kernel
theorem dX6_partsIn_2 : decode cX6_partsIn 2 = .ok (.iload_n 1, 1) := by decide +kernel
theorem dX6_partsIn_3 : decode cX6_partsIn 3 = .ok (.istore_n 3, 1) := by decide +kernel
theorem dX6_partsIn_4 : decode cX6_partsIn 4 = .ok (.iload_n 3, 1) := by decide +kernel
theorem dX6_partsIn_5 : decode cX6_partsIn 5 = .ok (.ifCond .le 23, 3) := by decide +kernel
theorem dX6_partsIn_8 : decode cX6_partsIn 8 = .ok (.iinc 2 1, 3) := by decide +kernel
theorem dX6_partsIn_11 : decode cX6_partsIn 11 = .ok (.iload_n 3, 1) := by decide +kernel
theorem dX6_partsIn_12 : decode cX6_partsIn 12 = .ok (.aload_n 0, 1) := by decide +kernel
theorem dX6_partsIn_13 : decode cX6_partsIn 13 = .ok (.iload_n 3, 1) := by decide +kernel
theorem dX6_partsIn_14 : decode cX6_partsIn 14 = .ok (.invokestatic 174, 3) := by decide +kernel
theorem dX6_partsIn_17 : decode cX6_partsIn 17 = .ok (.iload_n 1, 1) := by decide +kernel
theorem dX6_partsIn_18 : decode cX6_partsIn 18 = .ok (.invokevirtual 177, 3) := by decide +kernel
