theorem dX11_wall_60 : decode cX11_wall 60 = .ok (.ifCond .eq 33, 3) := by decide +kernel
theorem dX11_wall_63 : decode cX11_wall 63 = .ok (.aload_n 0, 1) := by decide +kernel
theorem dX11_wall_64 : decode cX11_wall 64 = .ok (.getfield 55, 3) := by decide +kernel
theorem dX11_wall_67 : decode cX11_wall 67 = .ok (.aload_n 0, 1) := by decide +kernel
theorem dX11_wall_68 : decode cX11_wall 68 = .ok (.getfield 48, 3) := by decide +kernel
theorem dX11_wall_71 : decode cX11_wall 71 = .ok (.if_icmp .lt 14, 3) := by decide +kernel
theorem dX11_wall_74 : decode cX11_wall 74 = .ok (.aload_n 0, 1) := by decide +kernel
theorem dX11_wall_75 : decode cX11_wall 75 = .ok (.getfield 7, 3) := by decide +kernel
theorem dX11_wall_78 : decode cX11_wall 78 = .ok (.sipush 220, 3) := by decide +kernel
theorem dX11_wall_81 : decode cX11_wall 81 = .ok (.iaload, 1) := by decide +kernel
theorem dX11_wall_82 : decode cX11_wall 82 = .ok (.ifCond .ne 11, 3) := by decide +kernel
theorem dX11_wall_85 : decode cX11_wall 85 = .ok (.aload_n 0, 1) := by decide +kernel
theorem dX11_wall_86 : decode cX11_wall 86 = .ok (.invokevirtual 87, 3) := by decide +kernel
theorem dX11_wall_89 : decode cX11_wall 89 = .ok (.istore_n 1, 1) := by decide +kernel
theorem dX11_wall_90 : decode cX11_wall 90 = .ok (.goto (-31), 3) := by decide +kernel
theorem dX11_wall_93 : decode cX11_wall 93 = .ok (.aload_n 0, 1) := by decide +kernel
theorem dX11_wall_94 : decode cX11_wall 94 = .ok (.iconst 0, 1) := by decide +kernel
theorem dX11_wall_95 : decode cX11_wall 95 = .ok (.putfield 48, 3) := by decide +kernel
theorem dX11_wall_98 : decode cX11_wall 98 = .ok (.iload_n 1, 1) := by decide +kernel
theorem dX11_wall_99 : decode cX11_wall 99 = .ok (.ifCond .ne 11, 3) := by decide +kernel
theorem dX11_wall_102 : decode cX11_wall 102 = .ok (.bipush (-100), 2) := by decide +kernel
theorem dX11_wall_104 : decode cX11_wall 104 = .ok (.aload_n 0, 1) := by decide +kernel
theorem dX11_wall_105 : decode cX11_wall 105 = .ok (.getfield 52, 3) := by decide +kernel
theorem dX11_wall_108 : decode cX11_wall 108 = .ok (.isub, 1) := by decide +kernel
theorem dX11_wall_109 : decode cX11_wall 109 = .ok (.ireturn, 1) := by decide +kernel
theorem dX11_wall_110 : decode cX11_wall 110 = .ok (.aload_n 0, 1) := by decide +kernel
theorem dX11_wall_111 : decode cX11_wall 111 = .ok (.sipush 219, 3) := by decide +kernel
theorem dX11_wall_114 : decode cX11_wall 114 = .ok (.iconst 0, 1) := by decide +kernel
theorem dX11_wall_115 : decode cX11_wall 115 = .ok (.invokevirtual 90, 3) := by decide +kernel
theorem dX11_wall_118 : decode cX11_wall 118 = .ok (.aload_n 0, 1) := by decide +kernel
theorem dX11_wall_119 : decode cX11_wall 119 = .ok (.iconst 0, 1) := by decide +kernel
theorem dX11_wall_120 : decode cX11_wall 120 = .ok (.putfield 94, 3) := by decide +kernel
theorem dX11_wall_123 : decode cX11_wall 123 = .ok (.aload_n 0, 1) := by decide +kernel
theorem dX11_wall_124 : decode cX11_wall 124 = .ok (.getfield 7, 3) := by decide +kernel
theorem dX11_wall_127 : decode cX11_wall 127 = .ok (.iconst 1, 1) := by decide +kernel
theorem dX11_wall_128 : decode cX11_wall 128 = .ok (.iaload, 1) := by decide +kernel
theorem dX11_wall_129 : decode cX11_wall 129 = .ok (.ireturn, 1) := by decide +kernel
theorem dX11_isNight_0 : decode cX11_isNight 0 = .ok (.aload_n 0, 1) := by decide +kernel
theorem dX11_isNight_1 : decode cX11_isNight 1 = .ok (.getfield 7, 3) := by decide +kernel
theorem dX11_isNight_4 : decode cX11_isNight 4 = .ok (.iload_n 1, 1) := by decide +kernel
theorem dX11_isNight_5 : decode cX11_isNight 5 = .ok (.iconst 4, 1) := by decide +kernel
theorem dX11_isNight_6 : decode cX11_isNight 6 = .ok (.iadd, 1) := by decide +kernel
theorem dX11_isNight_7 : decode cX11_isNight 7 = .ok (.iaload, 1) := by decide +kernel
theorem dX11_isNight_8 : decode cX11_isNight 8 = .ok (.bipush 24, 2) := by decide +kernel
theorem dX11_isNight_10 : decode cX11_isNight 10 = .ok (.irem, 1) := by decide +kernel
theorem dX11_isNight_11 : decode cX11_isNight 11 = .ok (.aload_n 0, 1) := by decide +kernel
theorem dX11_isNight_12 : decode cX11_isNight 12 = .ok (.getfield 7, 3) := by decide +kernel
theorem dX11_isNight_15 : decode cX11_isNight 15 = .ok (.iload_n 1, 1) := by decide +kernel
theorem dX11_isNight_16 : decode cX11_isNight 16 = .ok (.iconst 2, 1) := by decide +kernel
theorem dX11_isNight_17 : decode cX11_isNight 17 = .ok (.iadd, 1) := by decide +kernel
theorem dX11_isNight_18 : decode cX11_isNight 18 = .ok (.iaload, 1) := by decide +kernel
theorem dX11_isNight_19 : decode cX11_isNight 19 = .ok (.if_icmp .lt 7, 3) := by decide +kernel
theorem dX11_isNight_22 : decode cX11_isNight 22 = .ok (.iconst 1, 1) := by decide +kernel
theorem dX11_isNight_23 : decode cX11_isNight 23 = .ok (.goto 4, 3) := by decide +kernel
theorem dX11_isNight_26 : decode cX11_isNight 26 = .ok (.iconst 0, 1) := by decide +kernel
theorem dX11_isNight_27 : decode cX11_isNight 27 = .ok (.ireturn, 1) := by decide +kernel
theorem dX11_growthIn_0 : decode cX11_growthIn 0 = .ok (.aload_n 0, 1) := by decide +kernel
theorem dX11_growthIn_1 : decode cX11_growthIn 1 = .ok (.getfield 7, 3) := by decide +kernel
theorem dX11_growthIn_4 : decode cX11_growthIn 4 = .ok (.iload_n 1, 1) := by decide +kernel
theorem dX11_growthIn_5 : decode cX11_growthIn 5 = .ok (.bipush 7, 2) := by decide +kernel
theorem dX11_growthIn_7 : decode cX11_growthIn 7 = .ok (.iadd, 1) := by decide +kernel
theorem dX11_growthIn_8 : decode cX11_growthIn 8 = .ok (.iload_n 2, 1) := by decide +kernel
theorem dX11_growthIn_9 : decode cX11_growthIn 9 = .ok (.iadd, 1) := by decide +kernel
theorem dX11_growthIn_10 : decode cX11_growthIn 10 = .ok (.iaload, 1) := by decide +kernel
theorem dX11_growthIn_11 : decode cX11_growthIn 11 = .ok (.istore 4, 2) := by decide +kernel
theorem dX11_growthIn_13 : decode cX11_growthIn 13 = .ok (.aload_n 0, 1) := by decide +kernel
theorem dX11_growthIn_14 : decode cX11_growthIn 14 = .ok (.getfield 7, 3) := by decide +kernel
theorem dX11_growthIn_17 : decode cX11_growthIn 17 = .ok (.iload_n 1, 1) := by decide +kernel
theorem dX11_growthIn_18 : decode cX11_growthIn 18 = .ok (.bipush 25, 2) := by decide +kernel
theorem dX11_growthIn_20 : decode cX11_growthIn 20 = .ok (.iadd, 1) := by decide +kernel
theorem dX11_growthIn_21 : decode cX11_growthIn 21 = .ok (.iload_n 2, 1) := by decide +kernel
theorem dX11_growthIn_22 : decode cX11_growthIn 22 = .ok (.iadd, 1) := by decide +kernel
theorem dX11_growthIn_23 : decode cX11_growthIn 23 = .ok (.iaload, 1) := by decide +kernel
theorem dX11_growthIn_24 : decode cX11_growthIn 24 = .ok (.istore 5, 2) := by decide +kernel
theorem dX11_growthIn_26 : decode cX11_growthIn 26 = .ok (.iload_n 3, 1) := by decide +kernel
theorem dX11_growthIn_27 : decode cX11_growthIn 27 = .ok (.iconst 1, 1) := by decide +kernel
theorem dX11_growthIn_28 : decode cX11_growthIn 28 = .ok (.if_icmp .ne 8, 3) := by decide +kernel
theorem dX11_growthIn_31 : decode cX11_growthIn 31 = .ok (.iload 5, 2) := by decide +kernel
theorem dX11_growthIn_33 : decode cX11_growthIn 33 = .ok (.goto 4, 3) := by decide +kernel
theorem dX11_growthIn_36 : decode cX11_growthIn 36 = .ok (.iconst 0, 1) := by decide +kernel
theorem dX11_growthIn_37 : decode cX11_growthIn 37 = .ok (.aload_n 0, 1) := by decide +kernel
theorem dX11_growthIn_38 : decode cX11_growthIn 38 = .ok (.iload_n 1, 1) := by decide +kernel
theorem dX11_growthIn_39 : decode cX11_growthIn 39 = .ok (.invokevirtual 97, 3) := by decide +kernel
theorem dX11_growthIn_42 : decode cX11_growthIn 42 = .ok (.ifCond .eq 8, 3) := by decide +kernel
theorem dX11_growthIn_45 : decode cX11_growthIn 45 = .ok (.iload 5, 2) := by decide +kernel
theorem dX11_growthIn_47 : decode cX11_growthIn 47 = .ok (.goto 4, 3) := by decide +kernel
theorem dX11_growthIn_50 : decode cX11_growthIn 50 = .ok (.iconst 0, 1) := by decide +kernel
theorem dX11_growthIn_51 : decode cX11_growthIn 51 = .ok (.iadd, 1) := by decide +kernel
theorem dX11_growthIn_52 : decode cX11_growthIn 52 = .ok (.istore 6, 2) := by decide +kernel
theorem dX11_growthIn_54 : decode cX11_growthIn 54 = .ok (.aload_n 0, 1) := by decide +kernel
theorem dX11_growthIn_55 : decode cX11_growthIn 55 = .ok (.getfield 7, 3) := by decide +kernel
theorem dX11_growthIn_58 : decode cX11_growthIn 58 = .ok (.iload_n 1, 1) := by decide +kernel
theorem dX11_growthIn_59 : decode cX11_growthIn 59 = .ok (.bipush 61, 2) := by decide +kernel
theorem dX11_growthIn_61 : decode cX11_growthIn 61 = .ok (.iadd, 1) := by decide +kernel
theorem dX11_growthIn_62 : decode cX11_growthIn 62 = .ok (.iload_n 2, 1) := by decide +kernel
theorem dX11_growthIn_63 : decode cX11_growthIn 63 = .ok (.iadd, 1) := by decide +kernel
theorem dX11_growthIn_64 : decode cX11_growthIn 64 = .ok (.iaload, 1) := by decide +kernel
theorem dX11_growthIn_65 : decode cX11_growthIn 65 = .ok (.iconst 1, 1) := by decide +kernel
theorem dX11_growthIn_66 : decode cX11_growthIn 66 = .ok (.if_icmp .ne 10, 3) := by decide +kernel
theorem dX11_growthIn_69 : decode cX11_growthIn 69 = .ok (.iload 6, 2) := by decide +kernel
theorem dX11_growthIn_71 : decode cX11_growthIn 71 = .ok (.iconst 2, 1) := by decide +kernel
theorem dX11_growthIn_72 : decode cX11_growthIn 72 = .ok (.idiv, 1) := by decide +kernel
theorem dX11_growthIn_73 : decode cX11_growthIn 73 = .ok (.goto 5, 3) := by decide +kernel
theorem dX11_growthIn_76 : decode cX11_growthIn 76 = .ok (.iload 6, 2) := by decide +kernel
theorem dX11_growthIn_78 : decode cX11_growthIn 78 = .ok (.istore 6, 2) := by decide +kernel
theorem dX11_growthIn_80 : decode cX11_growthIn 80 = .ok (.aload_n 0, 1) := by decide +kernel
theorem dX11_growthIn_81 : decode cX11_growthIn 81 = .ok (.getfield 7, 3) := by decide +kernel
theorem dX11_growthIn_84 : decode cX11_growthIn 84 = .ok (.iload_n 1, 1) := by decide +kernel
theorem dX11_growthIn_85 : decode cX11_growthIn 85 = .ok (.bipush 31, 2) := by decide +kernel
theorem dX11_growthIn_87 : decode cX11_growthIn 87 = .ok (.iadd, 1) := by decide +kernel
theorem dX11_growthIn_88 : decode cX11_growthIn 88 = .ok (.iload_n 2, 1) := by decide +kernel
theorem dX11_growthIn_89 : decode cX11_growthIn 89 = .ok (.iadd, 1) := by decide +kernel
theorem dX11_growthIn_90 : decode cX11_growthIn 90 = .ok (.iaload, 1) := by decide +kernel
theorem dX11_growthIn_91 : decode cX11_growthIn 91 = .ok (.istore 7, 2) := by decide +kernel
theorem dX11_growthIn_93 : decode cX11_growthIn 93 = .ok (.aload_n 0, 1) := by decide +kernel
theorem dX11_growthIn_94 : decode cX11_growthIn 94 = .ok (.getfield 7, 3) := by decide +kernel
theorem dX11_growthIn_97 : decode cX11_growthIn 97 = .ok (.iload_n 1, 1) := by decide +kernel
theorem dX11_growthIn_98 : decode cX11_growthIn 98 = .ok (.bipush 49, 2) := by decide +kernel
theorem dX11_growthIn_100 : decode cX11_growthIn 100 = .ok (.iadd, 1) := by decide +kernel
theorem dX11_growthIn_101 : decode cX11_growthIn 101 = .ok (.iload_n 2, 1) := by decide +kernel
theorem dX11_growthIn_102 : decode cX11_growthIn 102 = .ok (.iadd, 1) := by decide +kernel
theorem dX11_growthIn_103 : decode cX11_growthIn 103 = .ok (.iaload, 1) := by decide +kernel
theorem dX11_growthIn_104 : decode cX11_growthIn 104 = .ok (.ifCond .ne 10, 3) := by decide +kernel
theorem dX11_growthIn_107 : decode cX11_growthIn 107 = .ok (.iload 7, 2) := by decide +kernel
theorem dX11_growthIn_109 : decode cX11_growthIn 109 = .ok (.iconst 2, 1) := by decide +kernel
theorem dX11_growthIn_110 : decode cX11_growthIn 110 = .ok (.idiv, 1) := by decide +kernel
theorem dX11_growthIn_111 : decode cX11_growthIn 111 = .ok (.goto 24, 3) := by decide +kernel
theorem dX11_growthIn_114 : decode cX11_growthIn 114 = .ok (.aload_n 0, 1) := by decide +kernel
theorem dX11_growthIn_115 : decode cX11_growthIn 115 = .ok (.getfield 7, 3) := by decide +kernel
theorem dX11_growthIn_118 : decode cX11_growthIn 118 = .ok (.iload_n 1, 1) := by decide +kernel
theorem dX11_growthIn_119 : decode cX11_growthIn 119 = .ok (.bipush 49, 2) := by decide +kernel
theorem dX11_growthIn_121 : decode cX11_growthIn 121 = .ok (.iadd, 1) := by decide +kernel
theorem dX11_growthIn_122 : decode cX11_growthIn 122 = .ok (.iload_n 2, 1) := by decide +kernel
theorem dX11_growthIn_123 : decode cX11_growthIn 123 = .ok (.iadd, 1) := by decide +kernel
theorem dX11_growthIn_124 : decode cX11_growthIn 124 = .ok (.iaload, 1) := by decide +kernel
theorem dX11_growthIn_125 : decode cX11_growthIn 125 = .ok (.iconst 1, 1) := by decide +kernel
theorem dX11_growthIn_126 : decode cX11_growthIn 126 = .ok (.if_icmp .ne 7, 3) := by decide +kernel
theorem dX11_growthIn_129 : decode cX11_growthIn 129 = .ok (.iconst 0, 1) := by decide +kernel
theorem dX11_growthIn_130 : decode cX11_growthIn 130 = .ok (.goto 5, 3) := by decide +kernel
theorem dX11_growthIn_133 : decode cX11_growthIn 133 = .ok (.iload 7, 2) := by decide +kernel
theorem dX11_growthIn_135 : decode cX11_growthIn 135 = .ok (.istore 8, 2) := by decide +kernel
theorem dX11_growthIn_137 : decode cX11_growthIn 137 = .ok (.iload 4, 2) := by decide +kernel
theorem dX11_growthIn_139 : decode cX11_growthIn 139 = .ok (.iconst 3, 1) := by decide +kernel
theorem dX11_growthIn_140 : decode cX11_growthIn 140 = .ok (.if_icmp .ne 10, 3) := by decide +kernel
theorem dX11_growthIn_143 : decode cX11_growthIn 143 = .ok (.iconst 2, 1) := by decide +kernel
theorem dX11_growthIn_144 : decode cX11_growthIn 144 = .ok (.iload 8, 2) := by decide +kernel
theorem dX11_growthIn_146 : decode cX11_growthIn 146 = .ok (.imul, 1) := by decide +kernel
theorem dX11_growthIn_147 : decode cX11_growthIn 147 = .ok (.goto 5, 3) := by decide +kernel
theorem dX11_growthIn_150 : decode cX11_growthIn 150 = .ok (.iload 8, 2) := by decide +kernel
theorem dX11_growthIn_152 : decode cX11_growthIn 152 = .ok (.istore 8, 2) := by decide +kernel
theorem dX11_growthIn_154 : decode cX11_growthIn 154 = .ok (.aload_n 0, 1) := by decide +kernel
theorem dX11_growthIn_155 : decode cX11_growthIn 155 = .ok (.getfield 7, 3) := by decide +kernel
theorem dX11_growthIn_158 : decode cX11_growthIn 158 = .ok (.iload_n 1, 1) := by decide +kernel
theorem dX11_growthIn_159 : decode cX11_growthIn 159 = .ok (.bipush 19, 2) := by decide +kernel
theorem dX11_growthIn_161 : decode cX11_growthIn 161 = .ok (.iadd, 1) := by decide +kernel
theorem dX11_growthIn_162 : decode cX11_growthIn 162 = .ok (.iload_n 2, 1) := by decide +kernel
theorem dX11_growthIn_163 : decode cX11_growthIn 163 = .ok (.iadd, 1) := by decide +kernel
theorem dX11_growthIn_164 : decode cX11_growthIn 164 = .ok (.iaload, 1) := by decide +kernel
theorem dX11_growthIn_165 : decode cX11_growthIn 165 = .ok (.iload 4, 2) := by decide +kernel
theorem dX11_growthIn_167 : decode cX11_growthIn 167 = .ok (.iconst 4, 1) := by decide +kernel
theorem dX11_growthIn_168 : decode cX11_growthIn 168 = .ok (.if_icmp .eq 9, 3) := by decide +kernel
theorem dX11_growthIn_171 : decode cX11_growthIn 171 = .ok (.iload 4, 2) := by decide +kernel
theorem dX11_growthIn_173 : decode cX11_growthIn 173 = .ok (.iconst 5, 1) := by decide +kernel
theorem dX11_growthIn_174 : decode cX11_growthIn 174 = .ok (.if_icmp .ne 7, 3) := by decide +kernel
theorem dX11_growthIn_177 : decode cX11_growthIn 177 = .ok (.iconst 1, 1) := by decide +kernel
theorem dX11_growthIn_178 : decode cX11_growthIn 178 = .ok (.goto 4, 3) := by decide +kernel
theorem dX11_growthIn_181 : decode cX11_growthIn 181 = .ok (.iconst 0, 1) := by decide +kernel
theorem dX11_growthIn_182 : decode cX11_growthIn 182 = .ok (.iadd, 1) := by decide +kernel
theorem dX11_growthIn_183 : decode cX11_growthIn 183 = .ok (.istore 9, 2) := by decide +kernel
theorem dX11_growthIn_185 : decode cX11_growthIn 185 = .ok (.iload 4, 2) := by decide +kernel
theorem dX11_growthIn_187 : decode cX11_growthIn 187 = .ok (.iconst 2, 1) := by decide +kernel
theorem dX11_growthIn_188 : decode cX11_growthIn 188 = .ok (.if_icmp .ne 19, 3) := by decide +kernel
theorem dX11_growthIn_191 : decode cX11_growthIn 191 = .ok (.iconst 2, 1) := by decide +kernel
theorem dX11_growthIn_192 : decode cX11_growthIn 192 = .ok (.aload_n 0, 1) := by decide +kernel
theorem dX11_growthIn_193 : decode cX11_growthIn 193 = .ok (.getfield 7, 3) := by decide +kernel
theorem dX11_growthIn_196 : decode cX11_growthIn 196 = .ok (.iload_n 1, 1) := by decide +kernel
theorem dX11_growthIn_197 : decode cX11_growthIn 197 = .ok (.bipush 55, 2) := by decide +kernel
theorem dX11_growthIn_199 : decode cX11_growthIn 199 = .ok (.iadd, 1) := by decide +kernel
theorem dX11_growthIn_200 : decode cX11_growthIn 200 = .ok (.iload_n 2, 1) := by decide +kernel
theorem dX11_growthIn_201 : decode cX11_growthIn 201 = .ok (.iadd, 1) := by decide +kernel
theorem dX11_growthIn_202 : decode cX11_growthIn 202 = .ok (.iaload, 1) := by decide +kernel
theorem dX11_growthIn_203 : decode cX11_growthIn 203 = .ok (.imul, 1) := by decide +kernel
theorem dX11_growthIn_204 : decode cX11_growthIn 204 = .ok (.goto 14, 3) := by decide +kernel
theorem dX11_growthIn_207 : decode cX11_growthIn 207 = .ok (.aload_n 0, 1) := by decide +kernel
theorem dX11_growthIn_208 : decode cX11_growthIn 208 = .ok (.getfield 7, 3) := by decide +kernel
theorem dX11_growthIn_211 : decode cX11_growthIn 211 = .ok (.iload_n 1, 1) := by decide +kernel
theorem dX11_growthIn_212 : decode cX11_growthIn 212 = .ok (.bipush 55, 2) := by decide +kernel
theorem dX11_growthIn_214 : decode cX11_growthIn 214 = .ok (.iadd, 1) := by decide +kernel
theorem dX11_growthIn_215 : decode cX11_growthIn 215 = .ok (.iload_n 2, 1) := by decide +kernel
theorem dX11_growthIn_216 : decode cX11_growthIn 216 = .ok (.iadd, 1) := by decide +kernel
theorem dX11_growthIn_217 : decode cX11_growthIn 217 = .ok (.iaload, 1) := by decide +kernel
theorem dX11_growthIn_218 : decode cX11_growthIn 218 = .ok (.istore 10, 2) := by decide +kernel
theorem dX11_growthIn_220 : decode cX11_growthIn 220 = .ok (.iload 9, 2) := by decide +kernel
theorem dX11_growthIn_222 : decode cX11_growthIn 222 = .ok (.iload 6, 2) := by decide +kernel
theorem dX11_growthIn_224 : decode cX11_growthIn 224 = .ok (.iadd, 1) := by decide +kernel
theorem dX11_growthIn_225 : decode cX11_growthIn 225 = .ok (.iload 8, 2) := by decide +kernel
theorem dX11_growthIn_227 : decode cX11_growthIn 227 = .ok (.iadd, 1) := by decide +kernel
theorem dX11_growthIn_228 : decode cX11_growthIn 228 = .ok (.iload 10, 2) := by decide +kernel
theorem dX11_growthIn_230 : decode cX11_growthIn 230 = .ok (.isub, 1) := by decide +kernel
theorem dX11_growthIn_231 : decode cX11_growthIn 231 = .ok (.istore 11, 2) := by decide +kernel
theorem dX11_growthIn_233 : decode cX11_growthIn 233 = .ok (.iload 11, 2) := by decide +kernel
theorem dX11_growthIn_235 : decode cX11_growthIn 235 = .ok (.ifCond .ge 7, 3) := by decide +kernel
theorem dX11_growthIn_238 : decode cX11_growthIn 238 = .ok (.iconst 0, 1) := by decide +kernel
theorem dX11_growthIn_239 : decode cX11_growthIn 239 = .ok (.goto 5, 3) := by decide +kernel
theorem dX11_growthIn_242 : decode cX11_growthIn 242 = .ok (.iload 11, 2) := by decide +kernel
theorem dX11_growthIn_244 : decode cX11_growthIn 244 = .ok (.istore 11, 2) := by decide +kernel
theorem dX11_growthIn_246 : decode cX11_growthIn 246 = .ok (.iload 4, 2) := by decide +kernel
theorem dX11_growthIn_248 : decode cX11_growthIn 248 = .ok (.iconst 5, 1) := by decide +kernel
theorem dX11_growthIn_249 : decode cX11_growthIn 249 = .ok (.if_icmp .ne 18, 3) := by decide +kernel
theorem dX11_growthIn_252 : decode cX11_growthIn 252 = .ok (.aload_n 0, 1) := by decide +kernel
theorem dX11_growthIn_253 : decode cX11_growthIn 253 = .ok (.iload_n 1, 1) := by decide +kernel
theorem dX11_growthIn_254 : decode cX11_growthIn 254 = .ok (.invokevirtual 97, 3) := by decide +kernel
theorem dX11_growthIn_257 : decode cX11_growthIn 257 = .ok (.ifCond .eq 10, 3) := by decide +kernel
theorem dX11_growthIn_260 : decode cX11_growthIn 260 = .ok (.iload 11, 2) := by decide +kernel
theorem dX11_growthIn_262 : decode cX11_growthIn 262 = .ok (.iconst 2, 1) := by decide +kernel
theorem dX11_growthIn_263 : decode cX11_growthIn 263 = .ok (.idiv, 1) := by decide +kernel
theorem dX11_growthIn_264 : decode cX11_growthIn 264 = .ok (.goto 5, 3) := by decide +kernel
theorem dX11_growthIn_267 : decode cX11_growthIn 267 = .ok (.iload 11, 2) := by decide +kernel
theorem dX11_growthIn_269 : decode cX11_growthIn 269 = .ok (.ireturn, 1) := by decide +kernel
theorem dX11_passesBy_0 : decode cX11_passesBy 0 = .ok (.iconst 0, 1) := by decide +kernel
theorem dX11_passesBy_1 : decode cX11_passesBy 1 = .ok (.istore_n 3, 1) := by decide +kernel
theorem dX11_passesBy_2 : decode cX11_passesBy 2 = .ok (.iload_n 3, 1) := by decide +kernel
theorem dX11_passesBy_3 : decode cX11_passesBy 3 = .ok (.aload_n 0, 1) := by decide +kernel
theorem dX11_passesBy_4 : decode cX11_passesBy 4 = .ok (.getfield 7, 3) := by decide +kernel
theorem dX11_passesBy_7 : decode cX11_passesBy 7 = .ok (.iload_n 1, 1) := by decide +kernel
theorem dX11_passesBy_8 : decode cX11_passesBy 8 = .ok (.iconst 1, 1) := by decide +kernel
theorem dX11_passesBy_9 : decode cX11_passesBy 9 = .ok (.iadd, 1) := by decide +kernel
theorem dX11_passesBy_10 : decode cX11_passesBy 10 = .ok (.iaload, 1) := by decide +kernel
theorem dX11_passesBy_11 : decode cX11_passesBy 11 = .ok (.if_icmp .ge 114, 3) := by decide +kernel
theorem dX11_passesBy_14 : decode cX11_passesBy 14 = .ok (.aload_n 0, 1) := by decide +kernel
theorem dX11_passesBy_15 : decode cX11_passesBy 15 = .ok (.iload_n 1, 1) := by decide +kernel
theorem dX11_passesBy_16 : decode cX11_passesBy 16 = .ok (.iload_n 3, 1) := by decide +kernel
theorem dX11_passesBy_17 : decode cX11_passesBy 17 = .ok (.invokevirtual 100, 3) := by decide +kernel
theorem dX11_passesBy_20 : decode cX11_passesBy 20 = .ok (.ifCond .ne 99, 3) := by decide +kernel
theorem dX11_passesBy_23 : decode cX11_passesBy 23 = .ok (.aload_n 0, 1) := by decide +kernel
theorem dX11_passesBy_24 : decode cX11_passesBy 24 = .ok (.getfield 7, 3) := by decide +kernel
theorem dX11_passesBy_27 : decode cX11_passesBy 27 = .ok (.iload_n 1, 1) := by decide +kernel
theorem dX11_passesBy_28 : decode cX11_passesBy 28 = .ok (.bipush 37, 2) := by decide +kernel
theorem dX11_passesBy_30 : decode cX11_passesBy 30 = .ok (.iadd, 1) := by decide +kernel
theorem dX11_passesBy_31 : decode cX11_passesBy 31 = .ok (.iload_n 3, 1) := by decide +kernel
theorem dX11_passesBy_32 : decode cX11_passesBy 32 = .ok (.iadd, 1) := by decide +kernel
theorem dX11_passesBy_33 : decode cX11_passesBy 33 = .ok (.iaload, 1) := by decide +kernel
theorem dX11_passesBy_34 : decode cX11_passesBy 34 = .ok (.aload_n 0, 1) := by decide +kernel
theorem dX11_passesBy_35 : decode cX11_passesBy 35 = .ok (.iload_n 1, 1) := by decide +kernel
theorem dX11_passesBy_36 : decode cX11_passesBy 36 = .ok (.iload_n 3, 1) := by decide +kernel
theorem dX11_passesBy_37 : decode cX11_passesBy 37 = .ok (.iload_n 2, 1) := by decide +kernel
theorem dX11_passesBy_38 : decode cX11_passesBy 38 = .ok (.invokevirtual 104, 3) := by decide +kernel
theorem dX11_passesBy_41 : decode cX11_passesBy 41 = .ok (.iadd, 1) := by decide +kernel
theorem dX11_passesBy_42 : decode cX11_passesBy 42 = .ok (.istore 4, 2) := by decide +kernel
theorem dX11_passesBy_44 : decode cX11_passesBy 44 = .ok (.aload_n 0, 1) := by decide +kernel
theorem dX11_passesBy_45 : decode cX11_passesBy 45 = .ok (.getfield 7, 3) := by decide +kernel
theorem dX11_passesBy_48 : decode cX11_passesBy 48 = .ok (.iload_n 1, 1) := by decide +kernel
theorem dX11_passesBy_49 : decode cX11_passesBy 49 = .ok (.bipush 37, 2) := by decide +kernel
theorem dX11_passesBy_51 : decode cX11_passesBy 51 = .ok (.iadd, 1) := by decide +kernel
theorem dX11_passesBy_52 : decode cX11_passesBy 52 = .ok (.iload_n 3, 1) := by decide +kernel
theorem dX11_passesBy_53 : decode cX11_passesBy 53 = .ok (.iadd, 1) := by decide +kernel
theorem dX11_passesBy_54 : decode cX11_passesBy 54 = .ok (.iload 4, 2) := by decide +kernel
theorem dX11_passesBy_56 : decode cX11_passesBy 56 = .ok (.sipush 999, 3) := by decide +kernel
theorem dX11_passesBy_59 : decode cX11_passesBy 59 = .ok (.if_icmp .le 9, 3) := by decide +kernel
theorem dX11_passesBy_62 : decode cX11_passesBy 62 = .ok (.sipush 999, 3) := by decide +kernel
theorem dX11_passesBy_65 : decode cX11_passesBy 65 = .ok (.goto 5, 3) := by decide +kernel
theorem dX11_passesBy_68 : decode cX11_passesBy 68 = .ok (.iload 4, 2) := by decide +kernel
theorem dX11_passesBy_70 : decode cX11_passesBy 70 = .ok (.iastore, 1) := by decide +kernel
theorem dX11_passesBy_71 : decode cX11_passesBy 71 = .ok (.aload_n 0, 1) := by decide +kernel
theorem dX11_passesBy_72 : decode cX11_passesBy 72 = .ok (.getfield 7, 3) := by decide +kernel
theorem dX11_passesBy_75 : decode cX11_passesBy 75 = .ok (.iload_n 1, 1) := by decide +kernel
theorem dX11_passesBy_76 : decode cX11_passesBy 76 = .ok (.bipush 67, 2) := by decide +kernel
theorem dX11_passesBy_78 : decode cX11_passesBy 78 = .ok (.iadd, 1) := by decide +kernel
theorem dX11_passesBy_79 : decode cX11_passesBy 79 = .ok (.iload_n 3, 1) := by decide +kernel
theorem dX11_passesBy_80 : decode cX11_passesBy 80 = .ok (.iadd, 1) := by decide +kernel
theorem dX11_passesBy_81 : decode cX11_passesBy 81 = .ok (.aload_n 0, 1) := by decide +kernel
theorem dX11_passesBy_82 : decode cX11_passesBy 82 = .ok (.getfield 7, 3) := by decide +kernel
theorem dX11_passesBy_85 : decode cX11_passesBy 85 = .ok (.iload_n 1, 1) := by decide +kernel
theorem dX11_passesBy_86 : decode cX11_passesBy 86 = .ok (.bipush 37, 2) := by decide +kernel
theorem dX11_passesBy_88 : decode cX11_passesBy 88 = .ok (.iadd, 1) := by decide +kernel
theorem dX11_passesBy_89 : decode cX11_passesBy 89 = .ok (.iload_n 3, 1) := by decide +kernel
theorem dX11_passesBy_90 : decode cX11_passesBy 90 = .ok (.iadd, 1) := by decide +kernel
theorem dX11_passesBy_91 : decode cX11_passesBy 91 = .ok (.iaload, 1) := by decide +kernel
theorem dX11_passesBy_92 : decode cX11_passesBy 92 = .ok (.aload_n 0, 1) := by decide +kernel
theorem dX11_passesBy_93 : decode cX11_passesBy 93 = .ok (.getfield 7, 3) := by decide +kernel
theorem dX11_passesBy_96 : decode cX11_passesBy 96 = .ok (.iload_n 1, 1) := by decide +kernel
theorem dX11_passesBy_97 : decode cX11_passesBy 97 = .ok (.bipush 13, 2) := by decide +kernel
theorem dX11_passesBy_99 : decode cX11_passesBy 99 = .ok (.iadd, 1) := by decide +kernel
theorem dX11_passesBy_100 : decode cX11_passesBy 100 = .ok (.iload_n 3, 1) := by decide +kernel
theorem dX11_passesBy_101 : decode cX11_passesBy 101 = .ok (.iadd, 1) := by decide +kernel
theorem dX11_passesBy_102 : decode cX11_passesBy 102 = .ok (.iaload, 1) := by decide +kernel
theorem dX11_passesBy_103 : decode cX11_passesBy 103 = .ok (.if_icmp .lt 14, 3) := by decide +kernel
theorem dX11_passesBy_106 : decode cX11_passesBy 106 = .ok (.aload_n 0, 1) := by decide +kernel
theorem dX11_passesBy_107 : decode cX11_passesBy 107 = .ok (.getfield 7, 3) := by decide +kernel
theorem dX11_passesBy_110 : decode cX11_passesBy 110 = .ok (.iload_n 1, 1) := by decide +kernel
theorem dX11_passesBy_111 : decode cX11_passesBy 111 = .ok (.iconst 4, 1) := by decide +kernel
theorem dX11_passesBy_112 : decode cX11_passesBy 112 = .ok (.iadd, 1) := by decide +kernel
theorem dX11_passesBy_113 : decode cX11_passesBy 113 = .ok (.iaload, 1) := by decide +kernel
theorem dX11_passesBy_114 : decode cX11_passesBy 114 = .ok (.goto 4, 3) := by decide +kernel
theorem dX11_passesBy_117 : decode cX11_passesBy 117 = .ok (.iconst (-1), 1) := by decide +kernel
theorem dX11_passesBy_118 : decode cX11_passesBy 118 = .ok (.iastore, 1) := by decide +kernel
theorem dX11_passesBy_119 : decode cX11_passesBy 119 = .ok (.iinc 3 1, 3) := by decide +kernel
theorem dX11_passesBy_122 : decode cX11_passesBy 122 = .ok (.goto (-120), 3) := by decide +kernel
theorem dX11_passesBy_125 : decode cX11_passesBy 125 = .ok (.aload_n 0, 1) := by decide +kernel
theorem dX11_passesBy_126 : decode cX11_passesBy 126 = .ok (.getfield 7, 3) := by decide +kernel
theorem dX11_passesBy_129 : decode cX11_passesBy 129 = .ok (.iload_n 1, 1) := by decide +kernel
theorem dX11_passesBy_130 : decode cX11_passesBy 130 = .ok (.iconst 5, 1) := by decide +kernel
theorem dX11_passesBy_131 : decode cX11_passesBy 131 = .ok (.iadd, 1) := by decide +kernel
theorem dX11_passesBy_132 : decode cX11_passesBy 132 = .ok (.iload_n 2, 1) := by decide +kernel
theorem dX11_passesBy_133 : decode cX11_passesBy 133 = .ok (.iastore, 1) := by decide +kernel
theorem dX11_passesBy_134 : decode cX11_passesBy 134 = .ok (.aload_n 0, 1) := by decide +kernel
theorem dX11_passesBy_135 : decode cX11_passesBy 135 = .ok (.getfield 7, 3) := by decide +kernel
theorem dX11_passesBy_138 : decode cX11_passesBy 138 = .ok (.iload_n 1, 1) := by decide +kernel
theorem dX11_passesBy_139 : decode cX11_passesBy 139 = .ok (.iconst 4, 1) := by decide +kernel
theorem dX11_passesBy_140 : decode cX11_passesBy 140 = .ok (.iadd, 1) := by decide +kernel
theorem dX11_passesBy_141 : decode cX11_passesBy 141 = .ok (.dup2, 1) := by decide +kernel
theorem dX11_passesBy_142 : decode cX11_passesBy 142 = .ok (.iaload, 1) := by decide +kernel
theorem dX11_passesBy_143 : decode cX11_passesBy 143 = .ok (.iconst 1, 1) := by decide +kernel
theorem dX11_passesBy_144 : decode cX11_passesBy 144 = .ok (.iadd, 1) := by decide +kernel
theorem dX11_passesBy_145 : decode cX11_passesBy 145 = .ok (.iastore, 1) := by decide +kernel
theorem dX11_passesBy_146 : decode cX11_passesBy 146 = .ok (.return_, 1) := by decide +kernel
theorem dX11_passes_0 : decode cX11_passes 0 = .ok (.aload_n 0, 1) := by decide +kernel
theorem dX11_passes_1 : decode cX11_passes 1 = .ok (.getfield 7, 3) := by decide +kernel
theorem dX11_passes_4 : decode cX11_passes 4 = .ok (.iload_n 1, 1) := by decide +kernel
theorem dX11_passes_5 : decode cX11_passes 5 = .ok (.bipush 6, 2) := by decide +kernel
theorem dX11_passes_7 : decode cX11_passes 7 = .ok (.iadd, 1) := by decide +kernel
theorem dX11_passes_8 : decode cX11_passes 8 = .ok (.aload_n 0, 1) := by decide +kernel
theorem dX11_passes_9 : decode cX11_passes 9 = .ok (.getfield 7, 3) := by decide +kernel
theorem dX11_passes_12 : decode cX11_passes 12 = .ok (.iload_n 1, 1) := by decide +kernel
theorem dX11_passes_13 : decode cX11_passes 13 = .ok (.bipush 6, 2) := by decide +kernel
theorem dX11_passes_15 : decode cX11_passes 15 = .ok (.iadd, 1) := by decide +kernel
theorem dX11_passes_16 : decode cX11_passes 16 = .ok (.iaload, 1) := by decide +kernel
theorem dX11_passes_17 : decode cX11_passes 17 = .ok (.i2l, 1) := by decide +kernel
theorem dX11_passes_18 : decode cX11_passes 18 = .ok (.ldc2_w 108, 3) := by decide +kernel
theorem dX11_passes_21 : decode cX11_passes 21 = .ok (.lmul, 1) := by decide +kernel
theorem dX11_passes_22 : decode cX11_passes 22 = .ok (.ldc2_w 110, 3) := by decide +kernel
theorem dX11_passes_25 : decode cX11_passes 25 = .ok (.lrem, 1) := by decide +kernel
theorem dX11_passes_26 : decode cX11_passes 26 = .ok (.l2i, 1) := by decide +kernel
theorem dX11_passes_27 : decode cX11_passes 27 = .ok (.iastore, 1) := by decide +kernel
theorem dX11_passes_28 : decode cX11_passes 28 = .ok (.aload_n 0, 1) := by decide +kernel
theorem dX11_passes_29 : decode cX11_passes 29 = .ok (.iload_n 1, 1) := by decide +kernel
theorem dX11_passes_30 : decode cX11_passes 30 = .ok (.aload_n 0, 1) := by decide +kernel
theorem dX11_passes_31 : decode cX11_passes 31 = .ok (.getfield 7, 3) := by decide +kernel
theorem dX11_passes_34 : decode cX11_passes 34 = .ok (.iload_n 1, 1) := by decide +kernel
theorem dX11_passes_35 : decode cX11_passes 35 = .ok (.bipush 6, 2) := by decide +kernel
theorem dX11_passes_37 : decode cX11_passes 37 = .ok (.iadd, 1) := by decide +kernel
theorem dX11_passes_38 : decode cX11_passes 38 = .ok (.iaload, 1) := by decide +kernel
theorem dX11_passes_39 : decode cX11_passes 39 = .ok (.iconst 3, 1) := by decide +kernel
theorem dX11_passes_40 : decode cX11_passes 40 = .ok (.irem, 1) := by decide +kernel
theorem dX11_passes_41 : decode cX11_passes 41 = .ok (.invokevirtual 112, 3) := by decide +kernel
theorem dX11_passes_44 : decode cX11_passes 44 = .ok (.return_, 1) := by decide +kernel
theorem dX11_eats_0 : decode cX11_eats 0 = .ok (.aload_n 0, 1) := by decide +kernel
theorem dX11_eats_1 : decode cX11_eats 1 = .ok (.iload_n 1, 1) := by decide +kernel
theorem dX11_eats_2 : decode cX11_eats 2 = .ok (.iload_n 2, 1) := by decide +kernel
theorem dX11_eats_3 : decode cX11_eats 3 = .ok (.invokevirtual 100, 3) := by decide +kernel
theorem dX11_eats_6 : decode cX11_eats 6 = .ok (.ifCond .ne 77, 3) := by decide +kernel
theorem dX11_eats_9 : decode cX11_eats 9 = .ok (.aload_n 0, 1) := by decide +kernel
theorem dX11_eats_10 : decode cX11_eats 10 = .ok (.getfield 7, 3) := by decide +kernel
theorem dX11_eats_13 : decode cX11_eats 13 = .ok (.iload_n 1, 1) := by decide +kernel
theorem dX11_eats_14 : decode cX11_eats 14 = .ok (.bipush 43, 2) := by decide +kernel
theorem dX11_eats_16 : decode cX11_eats 16 = .ok (.iadd, 1) := by decide +kernel
theorem dX11_eats_17 : decode cX11_eats 17 = .ok (.iload_n 2, 1) := by decide +kernel
theorem dX11_eats_18 : decode cX11_eats 18 = .ok (.iadd, 1) := by decide +kernel
theorem dX11_eats_19 : decode cX11_eats 19 = .ok (.iaload, 1) := by decide +kernel
theorem dX11_eats_20 : decode cX11_eats 20 = .ok (.ifCond .le 63, 3) := by decide +kernel
theorem dX11_eats_23 : decode cX11_eats 23 = .ok (.aload_n 0, 1) := by decide +kernel
theorem dX11_eats_24 : decode cX11_eats 24 = .ok (.getfield 7, 3) := by decide +kernel
theorem dX11_eats_27 : decode cX11_eats 27 = .ok (.iload_n 1, 1) := by decide +kernel
theorem dX11_eats_28 : decode cX11_eats 28 = .ok (.bipush 43, 2) := by decide +kernel
theorem dX11_eats_30 : decode cX11_eats 30 = .ok (.iadd, 1) := by decide +kernel
theorem dX11_eats_31 : decode cX11_eats 31 = .ok (.iload_n 2, 1) := by decide +kernel
theorem dX11_eats_32 : decode cX11_eats 32 = .ok (.iadd, 1) := by decide +kernel
theorem dX11_eats_33 : decode cX11_eats 33 = .ok (.dup2, 1) := by decide +kernel
theorem dX11_eats_34 : decode cX11_eats 34 = .ok (.iaload, 1) := by decide +kernel
theorem dX11_eats_35 : decode cX11_eats 35 = .ok (.iconst 1, 1) := by decide +kernel
theorem dX11_eats_36 : decode cX11_eats 36 = .ok (.isub, 1) := by decide +kernel
theorem dX11_eats_37 : decode cX11_eats 37 = .ok (.iastore, 1) := by decide +kernel
theorem dX11_eats_38 : decode cX11_eats 38 = .ok (.aload_n 0, 1) := by decide +kernel
theorem dX11_eats_39 : decode cX11_eats 39 = .ok (.getfield 7, 3) := by decide +kernel
theorem dX11_eats_42 : decode cX11_eats 42 = .ok (.iload_n 1, 1) := by decide +kernel
theorem dX11_eats_43 : decode cX11_eats 43 = .ok (.bipush 37, 2) := by decide +kernel
theorem dX11_eats_45 : decode cX11_eats 45 = .ok (.iadd, 1) := by decide +kernel
theorem dX11_eats_46 : decode cX11_eats 46 = .ok (.iload_n 2, 1) := by decide +kernel
theorem dX11_eats_47 : decode cX11_eats 47 = .ok (.iadd, 1) := by decide +kernel
theorem dX11_eats_48 : decode cX11_eats 48 = .ok (.aload_n 0, 1) := by decide +kernel
theorem dX11_eats_49 : decode cX11_eats 49 = .ok (.getfield 7, 3) := by decide +kernel
theorem dX11_eats_52 : decode cX11_eats 52 = .ok (.iload_n 1, 1) := by decide +kernel
theorem dX11_eats_53 : decode cX11_eats 53 = .ok (.bipush 37, 2) := by decide +kernel
theorem dX11_eats_55 : decode cX11_eats 55 = .ok (.iadd, 1) := by decide +kernel
theorem dX11_eats_56 : decode cX11_eats 56 = .ok (.iload_n 2, 1) := by decide +kernel
theorem dX11_eats_57 : decode cX11_eats 57 = .ok (.iadd, 1) := by decide +kernel
theorem dX11_eats_58 : decode cX11_eats 58 = .ok (.iaload, 1) := by decide +kernel
theorem dX11_eats_59 : decode cX11_eats 59 = .ok (.bipush 6, 2) := by decide +kernel
theorem dX11_eats_61 : decode cX11_eats 61 = .ok (.if_icmp .le 20, 3) := by decide +kernel
theorem dX11_eats_64 : decode cX11_eats 64 = .ok (.aload_n 0, 1) := by decide +kernel
theorem dX11_eats_65 : decode cX11_eats 65 = .ok (.getfield 7, 3) := by decide +kernel
theorem dX11_eats_68 : decode cX11_eats 68 = .ok (.iload_n 1, 1) := by decide +kernel
theorem dX11_eats_69 : decode cX11_eats 69 = .ok (.bipush 37, 2) := by decide +kernel
theorem dX11_eats_71 : decode cX11_eats 71 = .ok (.iadd, 1) := by decide +kernel
theorem dX11_eats_72 : decode cX11_eats 72 = .ok (.iload_n 2, 1) := by decide +kernel
theorem dX11_eats_73 : decode cX11_eats 73 = .ok (.iadd, 1) := by decide +kernel
theorem dX11_eats_74 : decode cX11_eats 74 = .ok (.iaload, 1) := by decide +kernel
theorem dX11_eats_75 : decode cX11_eats 75 = .ok (.bipush 6, 2) := by decide +kernel
theorem dX11_eats_77 : decode cX11_eats 77 = .ok (.isub, 1) := by decide +kernel
theorem dX11_eats_78 : decode cX11_eats 78 = .ok (.goto 4, 3) := by decide +kernel
theorem dX11_eats_81 : decode cX11_eats 81 = .ok (.iconst 0, 1) := by decide +kernel
theorem dX11_eats_82 : decode cX11_eats 82 = .ok (.iastore, 1) := by decide +kernel
theorem dX11_eats_83 : decode cX11_eats 83 = .ok (.return_, 1) := by decide +kernel
theorem dX11_sittingIn_0 : decode cX11_sittingIn 0 = .ok (.iconst 0, 1) := by decide +kernel
theorem dX11_sittingIn_1 : decode cX11_sittingIn 1 = .ok (.istore_n 2, 1) := by decide +kernel
theorem dX11_sittingIn_2 : decode cX11_sittingIn 2 = .ok (.iconst 0, 1) := by decide +kernel
theorem dX11_sittingIn_3 : decode cX11_sittingIn 3 = .ok (.istore_n 3, 1) := by decide +kernel
theorem dX11_sittingIn_4 : decode cX11_sittingIn 4 = .ok (.iload_n 3, 1) := by decide +kernel
theorem dX11_sittingIn_5 : decode cX11_sittingIn 5 = .ok (.aload_n 0, 1) := by decide +kernel
theorem dX11_sittingIn_6 : decode cX11_sittingIn 6 = .ok (.getfield 7, 3) := by decide +kernel
theorem dX11_sittingIn_9 : decode cX11_sittingIn 9 = .ok (.iload_n 1, 1) := by decide +kernel
theorem dX11_sittingIn_10 : decode cX11_sittingIn 10 = .ok (.iconst 1, 1) := by decide +kernel
theorem dX11_sittingIn_11 : decode cX11_sittingIn 11 = .ok (.iadd, 1) := by decide +kernel
theorem dX11_sittingIn_12 : decode cX11_sittingIn 12 = .ok (.iaload, 1) := by decide +kernel
theorem dX11_sittingIn_13 : decode cX11_sittingIn 13 = .ok (.if_icmp .ge 26, 3) := by decide +kernel
theorem dX11_sittingIn_16 : decode cX11_sittingIn 16 = .ok (.iload_n 2, 1) := by decide +kernel
theorem dX11_sittingIn_17 : decode cX11_sittingIn 17 = .ok (.aload_n 0, 1) := by decide +kernel
theorem dX11_sittingIn_18 : decode cX11_sittingIn 18 = .ok (.iload_n 1, 1) := by decide +kernel
theorem dX11_sittingIn_19 : decode cX11_sittingIn 19 = .ok (.iload_n 3, 1) := by decide +kernel
theorem dX11_sittingIn_20 : decode cX11_sittingIn 20 = .ok (.invokevirtual 100, 3) := by decide +kernel
theorem dX11_sittingIn_23 : decode cX11_sittingIn 23 = .ok (.ifCond .eq 7, 3) := by decide +kernel
theorem dX11_sittingIn_26 : decode cX11_sittingIn 26 = .ok (.iconst 0, 1) := by decide +kernel
theorem dX11_sittingIn_27 : decode cX11_sittingIn 27 = .ok (.goto 4, 3) := by decide +kernel
theorem dX11_sittingIn_30 : decode cX11_sittingIn 30 = .ok (.iconst 1, 1) := by decide +kernel
theorem dX11_sittingIn_31 : decode cX11_sittingIn 31 = .ok (.iadd, 1) := by decide +kernel
theorem dX11_sittingIn_32 : decode cX11_sittingIn 32 = .ok (.istore_n 2, 1) := by decide +kernel
theorem dX11_sittingIn_33 : decode cX11_sittingIn 33 = .ok (.iinc 3 1, 3) := by decide +kernel
theorem dX11_sittingIn_36 : decode cX11_sittingIn 36 = .ok (.goto (-32), 3) := by decide +kernel
theorem dX11_sittingIn_39 : decode cX11_sittingIn 39 = .ok (.iload_n 2, 1) := by decide +kernel
theorem dX11_sittingIn_40 : decode cX11_sittingIn 40 = .ok (.ireturn, 1) := by decide +kernel
theorem dX11_sitter_0 : decode cX11_sitter 0 = .ok (.aload_n 0, 1) := by decide +kernel
theorem dX11_sitter_1 : decode cX11_sitter 1 = .ok (.iload_n 1, 1) := by decide +kernel
theorem dX11_sitter_2 : decode cX11_sitter 2 = .ok (.invokevirtual 115, 3) := by decide +kernel
theorem dX11_sitter_5 : decode cX11_sitter 5 = .ok (.ifCond .eq 15, 3) := by decide +kernel
theorem dX11_sitter_8 : decode cX11_sitter 8 = .ok (.iload_n 2, 1) := by decide +kernel
theorem dX11_sitter_9 : decode cX11_sitter 9 = .ok (.i2l, 1) := by decide +kernel
theorem dX11_sitter_10 : decode cX11_sitter 10 = .ok (.lconst 0, 1) := by decide +kernel
theorem dX11_sitter_11 : decode cX11_sitter 11 = .ok (.ldc2_w 118, 3) := by decide +kernel
theorem dX11_sitter_14 : decode cX11_sitter 14 = .ok (.invokestatic 42, 3) := by decide +kernel
theorem dX11_sitter_17 : decode cX11_sitter 17 = .ok (.ifCond .ne 5, 3) := by decide +kernel
theorem dX11_sitter_20 : decode cX11_sitter 20 = .ok (.iconst (-1), 1) := by decide +kernel
theorem dX11_sitter_21 : decode cX11_sitter 21 = .ok (.ireturn, 1) := by decide +kernel
theorem dX11_sitter_22 : decode cX11_sitter 22 = .ok (.aload_n 0, 1) := by decide +kernel
theorem dX11_sitter_23 : decode cX11_sitter 23 = .ok (.getfield 7, 3) := by decide +kernel
theorem dX11_sitter_26 : decode cX11_sitter 26 = .ok (.bipush 7, 2) := by decide +kernel
theorem dX11_sitter_28 : decode cX11_sitter 28 = .ok (.bipush 6, 2) := by decide +kernel
theorem dX11_sitter_30 : decode cX11_sitter 30 = .ok (.iload_n 2, 1) := by decide +kernel
theorem dX11_sitter_31 : decode cX11_sitter 31 = .ok (.imul, 1) := by decide +kernel
theorem dX11_sitter_32 : decode cX11_sitter 32 = .ok (.iadd, 1) := by decide +kernel
theorem dX11_sitter_33 : decode cX11_sitter 33 = .ok (.iload_n 1, 1) := by decide +kernel
theorem dX11_sitter_34 : decode cX11_sitter 34 = .ok (.iadd, 1) := by decide +kernel
theorem dX11_sitter_35 : decode cX11_sitter 35 = .ok (.iaload, 1) := by decide +kernel
theorem dX11_sitter_36 : decode cX11_sitter 36 = .ok (.istore_n 3, 1) := by decide +kernel
theorem dX11_sitter_37 : decode cX11_sitter 37 = .ok (.iload_n 2, 1) := by decide +kernel
theorem dX11_sitter_38 : decode cX11_sitter 38 = .ok (.bipush 10, 2) := by decide +kernel
theorem dX11_sitter_40 : decode cX11_sitter 40 = .ok (.if_icmp .ne 12, 3) := by decide +kernel
theorem dX11_sitter_43 : decode cX11_sitter 43 = .ok (.iload_n 3, 1) := by decide +kernel
theorem dX11_sitter_44 : decode cX11_sitter 44 = .ok (.ifCond .ge 8, 3) := by decide +kernel
theorem dX11_sitter_47 : decode cX11_sitter 47 = .ok (.bipush (-4), 2) := by decide +kernel
theorem dX11_sitter_49 : decode cX11_sitter 49 = .ok (.goto 4, 3) := by decide +kernel
theorem dX11_sitter_52 : decode cX11_sitter 52 = .ok (.iload_n 3, 1) := by decide +kernel
theorem dX11_sitter_53 : decode cX11_sitter 53 = .ok (.ireturn, 1) := by decide +kernel
theorem dX11_growth_0 : decode cX11_growth 0 = .ok (.aload_n 0, 1) := by decide +kernel
theorem dX11_growth_1 : decode cX11_growth 1 = .ok (.iload_n 1, 1) := by decide +kernel
theorem dX11_growth_2 : decode cX11_growth 2 = .ok (.invokevirtual 115, 3) := by decide +kernel
theorem dX11_growth_5 : decode cX11_growth 5 = .ok (.ifCond .eq 25, 3) := by decide +kernel
theorem dX11_growth_8 : decode cX11_growth 8 = .ok (.iload_n 2, 1) := by decide +kernel
theorem dX11_growth_9 : decode cX11_growth 9 = .ok (.i2l, 1) := by decide +kernel
theorem dX11_growth_10 : decode cX11_growth 10 = .ok (.lconst 0, 1) := by decide +kernel
theorem dX11_growth_11 : decode cX11_growth 11 = .ok (.ldc2_w 120, 3) := by decide +kernel
theorem dX11_growth_14 : decode cX11_growth 14 = .ok (.invokestatic 42, 3) := by decide +kernel
theorem dX11_growth_17 : decode cX11_growth 17 = .ok (.ifCond .eq 13, 3) := by decide +kernel
theorem dX11_growth_20 : decode cX11_growth 20 = .ok (.aload_n 0, 1) := by decide +kernel
theorem dX11_growth_21 : decode cX11_growth 21 = .ok (.iconst 0, 1) := by decide +kernel
theorem dX11_growth_22 : decode cX11_growth 22 = .ok (.iload_n 1, 1) := by decide +kernel
theorem dX11_growth_23 : decode cX11_growth 23 = .ok (.iload_n 2, 1) := by decide +kernel
theorem dX11_growth_24 : decode cX11_growth 24 = .ok (.invokevirtual 104, 3) := by decide +kernel
theorem dX11_growth_27 : decode cX11_growth 27 = .ok (.goto 4, 3) := by decide +kernel
theorem dX11_growth_30 : decode cX11_growth 30 = .ok (.iconst (-1), 1) := by decide +kernel
theorem dX11_growth_31 : decode cX11_growth 31 = .ok (.ireturn, 1) := by decide +kernel
theorem dX11_as_0 : decode cX11_as 0 = .ok (.aload_n 0, 1) := by decide +kernel
theorem dX11_as_1 : decode cX11_as 1 = .ok (.iload_n 1, 1) := by decide +kernel
theorem dX11_as_2 : decode cX11_as 2 = .ok (.invokevirtual 115, 3) := by decide +kernel
theorem dX11_as_5 : decode cX11_as 5 = .ok (.ifCond .eq 15, 3) := by decide +kernel
theorem dX11_as_8 : decode cX11_as 8 = .ok (.iload_n 2, 1) := by decide +kernel
theorem dX11_as_9 : decode cX11_as 9 = .ok (.i2l, 1) := by decide +kernel
theorem dX11_as_10 : decode cX11_as 10 = .ok (.lconst 0, 1) := by decide +kernel
theorem dX11_as_11 : decode cX11_as 11 = .ok (.ldc2_w 122, 3) := by decide +kernel
theorem dX11_as_14 : decode cX11_as 14 = .ok (.invokestatic 42, 3) := by decide +kernel
theorem dX11_as_17 : decode cX11_as 17 = .ok (.ifCond .ne 5, 3) := by decide +kernel
theorem dX11_as_20 : decode cX11_as 20 = .ok (.iconst (-1), 1) := by decide +kernel
theorem dX11_as_21 : decode cX11_as 21 = .ok (.ireturn, 1) := by decide +kernel
theorem dX11_as_22 : decode cX11_as 22 = .ok (.aload_n 0, 1) := by decide +kernel
theorem dX11_as_23 : decode cX11_as 23 = .ok (.getfield 7, 3) := by decide +kernel
theorem dX11_as_26 : decode cX11_as 26 = .ok (.bipush 7, 2) := by decide +kernel
theorem dX11_as_28 : decode cX11_as 28 = .ok (.iload_n 1, 1) := by decide +kernel
theorem dX11_as_29 : decode cX11_as 29 = .ok (.iadd, 1) := by decide +kernel
theorem dX11_as_30 : decode cX11_as 30 = .ok (.iaload, 1) := by decide +kernel
theorem dX11_as_31 : decode cX11_as 31 = .ok (.istore_n 3, 1) := by decide +kernel
theorem dX11_as_32 : decode cX11_as 32 = .ok (.iload_n 2, 1) := by decide +kernel
theorem dX11_as_33 : decode cX11_as 33 = .ok (.ifCond .eq 28, 3) := by decide +kernel
theorem dX11_as_36 : decode cX11_as 36 = .ok (.iload_n 2, 1) := by decide +kernel
theorem dX11_as_37 : decode cX11_as 37 = .ok (.iload_n 3, 1) := by decide +kernel
theorem dX11_as_38 : decode cX11_as 38 = .ok (.if_icmp .eq 23, 3) := by decide +kernel
theorem dX11_as_41 : decode cX11_as 41 = .ok (.iload_n 2, 1) := by decide +kernel
theorem dX11_as_42 : decode cX11_as 42 = .ok (.iconst 1, 1) := by decide +kernel
theorem dX11_as_43 : decode cX11_as 43 = .ok (.if_icmp .ne 8, 3) := by decide +kernel
theorem dX11_as_46 : decode cX11_as 46 = .ok (.iload_n 3, 1) := by decide +kernel
theorem dX11_as_47 : decode cX11_as 47 = .ok (.iconst 4, 1) := by decide +kernel
theorem dX11_as_48 : decode cX11_as 48 = .ok (.if_icmp .lt 13, 3) := by decide +kernel
theorem dX11_as_51 : decode cX11_as 51 = .ok (.iload_n 2, 1) := by decide +kernel
theorem dX11_as_52 : decode cX11_as 52 = .ok (.iconst 4, 1) := by decide +kernel
theorem dX11_as_53 : decode cX11_as 53 = .ok (.if_icmp .ne 12, 3) := by decide +kernel
theorem dX11_as_56 : decode cX11_as 56 = .ok (.iload_n 3, 1) := by decide +kernel
theorem dX11_as_57 : decode cX11_as 57 = .ok (.iconst 5, 1) := by decide +kernel
theorem dX11_as_58 : decode cX11_as 58 = .ok (.if_icmp .ne 7, 3) := by decide +kernel
theorem dX11_as_61 : decode cX11_as 61 = .ok (.iconst 1, 1) := by decide +kernel
theorem dX11_as_62 : decode cX11_as 62 = .ok (.goto 4, 3) := by decide +kernel
theorem dX11_as_65 : decode cX11_as 65 = .ok (.iconst 0, 1) := by decide +kernel
theorem dX11_as_66 : decode cX11_as 66 = .ok (.istore 4, 2) := by decide +kernel
theorem dX11_as_68 : decode cX11_as 68 = .ok (.iload 4, 2) := by decide +kernel
theorem dX11_as_70 : decode cX11_as 70 = .ok (.ifCond .eq 7, 3) := by decide +kernel
theorem dX11_as_73 : decode cX11_as 73 = .ok (.iload_n 1, 1) := by decide +kernel
theorem dX11_as_74 : decode cX11_as 74 = .ok (.goto 5, 3) := by decide +kernel
theorem dX11_as_77 : decode cX11_as 77 = .ok (.bipush (-12), 2) := by decide +kernel
theorem dX11_as_79 : decode cX11_as 79 = .ok (.ireturn, 1) := by decide +kernel
theorem dX11_minds_0 : decode cX11_minds 0 = .ok (.aload_n 0, 1) := by decide +kernel
theorem dX11_minds_1 : decode cX11_minds 1 = .ok (.getfield 94, 3) := by decide +kernel
theorem dX11_minds_4 : decode cX11_minds 4 = .ok (.bipush 20, 2) := by decide +kernel
theorem dX11_minds_6 : decode cX11_minds 6 = .ok (.if_icmp .ne 51, 3) := by decide +kernel
theorem dX11_minds_9 : decode cX11_minds 9 = .ok (.iconst 0, 1) := by decide +kernel
theorem dX11_minds_10 : decode cX11_minds 10 = .ok (.istore_n 1, 1) := by decide +kernel
theorem dX11_minds_11 : decode cX11_minds 11 = .ok (.iload_n 1, 1) := by decide +kernel
theorem dX11_minds_12 : decode cX11_minds 12 = .ok (.sipush 1387, 3) := by decide +kernel
theorem dX11_minds_15 : decode cX11_minds 15 = .ok (.if_icmp .ge 32, 3) := by decide +kernel
theorem dX11_minds_18 : decode cX11_minds 18 = .ok (.aload_n 0, 1) := by decide +kernel
theorem dX11_minds_19 : decode cX11_minds 19 = .ok (.getfield 7, 3) := by decide +kernel
theorem dX11_minds_22 : decode cX11_minds 22 = .ok (.sipush 292, 3) := by decide +kernel
theorem dX11_minds_25 : decode cX11_minds 25 = .ok (.iload_n 1, 1) := by decide +kernel
theorem dX11_minds_26 : decode cX11_minds 26 = .ok (.iadd, 1) := by decide +kernel
theorem dX11_minds_27 : decode cX11_minds 27 = .ok (.aload_n 0, 1) := by decide +kernel
theorem dX11_minds_28 : decode cX11_minds 28 = .ok (.getfield 7, 3) := by decide +kernel
theorem dX11_minds_31 : decode cX11_minds 31 = .ok (.sipush 292, 3) := by decide +kernel
theorem dX11_minds_34 : decode cX11_minds 34 = .ok (.iload_n 1, 1) := by decide +kernel
theorem dX11_minds_35 : decode cX11_minds 35 = .ok (.iadd, 1) := by decide +kernel
theorem dX11_minds_36 : decode cX11_minds 36 = .ok (.bipush 73, 2) := by decide +kernel
theorem dX11_minds_38 : decode cX11_minds 38 = .ok (.iadd, 1) := by decide +kernel
theorem dX11_minds_39 : decode cX11_minds 39 = .ok (.iaload, 1) := by decide +kernel
theorem dX11_minds_40 : decode cX11_minds 40 = .ok (.iastore, 1) := by decide +kernel
theorem dX11_minds_41 : decode cX11_minds 41 = .ok (.iinc 1 1, 3) := by decide +kernel
theorem dX11_minds_44 : decode cX11_minds 44 = .ok (.goto (-33), 3) := by decide +kernel
theorem dX11_minds_47 : decode cX11_minds 47 = .ok (.aload_n 0, 1) := by decide +kernel
theorem dX11_minds_48 : decode cX11_minds 48 = .ok (.dup, 1) := by decide +kernel
theorem dX11_minds_49 : decode cX11_minds 49 = .ok (.getfield 94, 3) := by decide +kernel
theorem dX11_minds_52 : decode cX11_minds 52 = .ok (.iconst 1, 1) := by decide +kernel
theorem dX11_minds_53 : decode cX11_minds 53 = .ok (.isub, 1) := by decide +kernel
theorem dX11_minds_54 : decode cX11_minds 54 = .ok (.putfield 94, 3) := by decide +kernel
theorem dX11_minds_57 : decode cX11_minds 57 = .ok (.aload_n 0, 1) := by decide +kernel
theorem dX11_minds_58 : decode cX11_minds 58 = .ok (.iconst 0, 1) := by decide +kernel
theorem dX11_minds_59 : decode cX11_minds 59 = .ok (.sipush 292, 3) := by decide +kernel
theorem dX11_minds_62 : decode cX11_minds 62 = .ok (.bipush 73, 2) := by decide +kernel
theorem dX11_minds_64 : decode cX11_minds 64 = .ok (.aload_n 0, 1) := by decide +kernel
theorem dX11_minds_65 : decode cX11_minds 65 = .ok (.getfield 94, 3) := by decide +kernel
theorem dX11_minds_68 : decode cX11_minds 68 = .ok (.imul, 1) := by decide +kernel
theorem dX11_minds_69 : decode cX11_minds 69 = .ok (.iadd, 1) := by decide +kernel
theorem dX11_minds_70 : decode cX11_minds 70 = .ok (.invokevirtual 90, 3) := by decide +kernel
theorem dX11_minds_73 : decode cX11_minds 73 = .ok (.aload_n 0, 1) := by decide +kernel
theorem dX11_minds_74 : decode cX11_minds 74 = .ok (.dup, 1) := by decide +kernel
theorem dX11_minds_75 : decode cX11_minds 75 = .ok (.getfield 94, 3) := by decide +kernel
theorem dX11_minds_78 : decode cX11_minds 78 = .ok (.iconst 1, 1) := by decide +kernel
theorem dX11_minds_79 : decode cX11_minds 79 = .ok (.iadd, 1) := by decide +kernel
theorem dX11_minds_80 : decode cX11_minds 80 = .ok (.putfield 94, 3) := by decide +kernel
theorem dX11_minds_83 : decode cX11_minds 83 = .ok (.return_, 1) := by decide +kernel
theorem dX11_hours_0 : decode cX11_hours 0 = .ok (.iload_n 1, 1) := by decide +kernel
theorem dX11_hours_1 : decode cX11_hours 1 = .ok (.i2l, 1) := by decide +kernel
theorem dX11_hours_2 : decode cX11_hours 2 = .ok (.lconst 1, 1) := by decide +kernel
theorem dX11_hours_3 : decode cX11_hours 3 = .ok (.ldc2_w 124, 3) := by decide +kernel
theorem dX11_hours_6 : decode cX11_hours 6 = .ok (.invokestatic 42, 3) := by decide +kernel
theorem dX11_hours_9 : decode cX11_hours 9 = .ok (.ifCond .ne 5, 3) := by decide +kernel
theorem dX11_hours_12 : decode cX11_hours 12 = .ok (.iconst (-1), 1) := by decide +kernel
theorem dX11_hours_13 : decode cX11_hours 13 = .ok (.ireturn, 1) := by decide +kernel
theorem dX11_hours_14 : decode cX11_hours 14 = .ok (.aload_n 0, 1) := by decide +kernel
theorem dX11_hours_15 : decode cX11_hours 15 = .ok (.getfield 7, 3) := by decide +kernel
theorem dX11_hours_18 : decode cX11_hours 18 = .ok (.iconst 0, 1) := by decide +kernel
theorem dX11_hours_19 : decode cX11_hours 19 = .ok (.iaload, 1) := by decide +kernel
theorem dX11_hours_20 : decode cX11_hours 20 = .ok (.ifCond .ne 6, 3) := by decide +kernel
theorem dX11_hours_23 : decode cX11_hours 23 = .ok (.bipush (-2), 2) := by decide +kernel
theorem dX11_hours_25 : decode cX11_hours 25 = .ok (.ireturn, 1) := by decide +kernel
theorem dX11_hours_26 : decode cX11_hours 26 = .ok (.aload_n 0, 1) := by decide +kernel
theorem dX11_hours_27 : decode cX11_hours 27 = .ok (.getfield 7, 3) := by decide +kernel
theorem dX11_hours_30 : decode cX11_hours 30 = .ok (.iconst 4, 1) := by decide +kernel
theorem dX11_hours_31 : decode cX11_hours 31 = .ok (.iaload, 1) := by decide +kernel
theorem dX11_hours_32 : decode cX11_hours 32 = .ok (.iload_n 1, 1) := by decide +kernel
theorem dX11_hours_33 : decode cX11_hours 33 = .ok (.iadd, 1) := by decide +kernel
theorem dX11_hours_34 : decode cX11_hours 34 = .ok (.sipush 9999, 3) := by decide +kernel
theorem dX11_hours_37 : decode cX11_hours 37 = .ok (.if_icmp .le 6, 3) := by decide +kernel
theorem dX11_hours_40 : decode cX11_hours 40 = .ok (.bipush (-3), 2) := by decide +kernel
theorem dX11_hours_42 : decode cX11_hours 42 = .ok (.ireturn, 1) := by decide +kernel
theorem dX11_hours_43 : decode cX11_hours 43 = .ok (.iconst 0, 1) := by decide +kernel
theorem dX11_hours_44 : decode cX11_hours 44 = .ok (.istore_n 2, 1) := by decide +kernel
theorem dX11_hours_45 : decode cX11_hours 45 = .ok (.iload_n 2, 1) := by decide +kernel
theorem dX11_hours_46 : decode cX11_hours 46 = .ok (.iload_n 1, 1) := by decide +kernel
theorem dX11_hours_47 : decode cX11_hours 47 = .ok (.if_icmp .ge 18, 3) := by decide +kernel
theorem dX11_hours_50 : decode cX11_hours 50 = .ok (.aload_n 0, 1) := by decide +kernel
theorem dX11_hours_51 : decode cX11_hours 51 = .ok (.invokevirtual 126, 3) := by decide +kernel
theorem dX11_hours_54 : decode cX11_hours 54 = .ok (.aload_n 0, 1) := by decide +kernel
theorem dX11_hours_55 : decode cX11_hours 55 = .ok (.iconst 0, 1) := by decide +kernel
theorem dX11_hours_56 : decode cX11_hours 56 = .ok (.invokevirtual 129, 3) := by decide +kernel
theorem dX11_hours_59 : decode cX11_hours 59 = .ok (.iinc 2 1, 3) := by decide +kernel
theorem dX11_hours_62 : decode cX11_hours 62 = .ok (.goto (-17), 3) := by decide +kernel
theorem dX11_hours_65 : decode cX11_hours 65 = .ok (.aload_n 0, 1) := by decide +kernel
theorem dX11_hours_66 : decode cX11_hours 66 = .ok (.iconst 0, 1) := by decide +kernel
theorem dX11_hours_67 : decode cX11_hours 67 = .ok (.invokevirtual 133, 3) := by decide +kernel
theorem dX11_hours_70 : decode cX11_hours 70 = .ok (.ireturn, 1) := by decide +kernel
theorem dX11_crust_0 : decode cX11_crust 0 = .ok (.aload_n 0, 1) := by decide +kernel
theorem dX11_crust_1 : decode cX11_crust 1 = .ok (.iload_n 1, 1) := by decide +kernel
theorem dX11_crust_2 : decode cX11_crust 2 = .ok (.invokevirtual 115, 3) := by decide +kernel
theorem dX11_crust_5 : decode cX11_crust 5 = .ok (.ifCond .ne 5, 3) := by decide +kernel
theorem dX11_crust_8 : decode cX11_crust 8 = .ok (.iconst (-1), 1) := by decide +kernel
theorem dX11_crust_9 : decode cX11_crust 9 = .ok (.ireturn, 1) := by decide +kernel
theorem dX11_crust_10 : decode cX11_crust 10 = .ok (.aload_n 0, 1) := by decide +kernel
theorem dX11_crust_11 : decode cX11_crust 11 = .ok (.iconst 0, 1) := by decide +kernel
theorem dX11_crust_12 : decode cX11_crust 12 = .ok (.iload_n 1, 1) := by decide +kernel
theorem dX11_crust_13 : decode cX11_crust 13 = .ok (.invokevirtual 100, 3) := by decide +kernel
theorem dX11_crust_16 : decode cX11_crust 16 = .ok (.ifCond .ne 15, 3) := by decide +kernel
theorem dX11_crust_19 : decode cX11_crust 19 = .ok (.aload_n 0, 1) := by decide +kernel
theorem dX11_crust_20 : decode cX11_crust 20 = .ok (.getfield 7, 3) := by decide +kernel
theorem dX11_crust_23 : decode cX11_crust 23 = .ok (.bipush 43, 2) := by decide +kernel
theorem dX11_crust_25 : decode cX11_crust 25 = .ok (.iload_n 1, 1) := by decide +kernel
theorem dX11_crust_26 : decode cX11_crust 26 = .ok (.iadd, 1) := by decide +kernel
theorem dX11_crust_27 : decode cX11_crust 27 = .ok (.iaload, 1) := by decide +kernel
theorem dX11_crust_28 : decode cX11_crust 28 = .ok (.ifCond .ne 6, 3) := by decide +kernel
theorem dX11_crust_31 : decode cX11_crust 31 = .ok (.bipush (-2), 2) := by decide +kernel
theorem dX11_crust_33 : decode cX11_crust 33 = .ok (.ireturn, 1) := by decide +kernel
theorem dX11_crust_34 : decode cX11_crust 34 = .ok (.aload_n 0, 1) := by decide +kernel
theorem dX11_crust_35 : decode cX11_crust 35 = .ok (.invokevirtual 126, 3) := by decide +kernel
theorem dX11_crust_38 : decode cX11_crust 38 = .ok (.aload_n 0, 1) := by decide +kernel
theorem dX11_crust_39 : decode cX11_crust 39 = .ok (.iconst 0, 1) := by decide +kernel
theorem dX11_crust_40 : decode cX11_crust 40 = .ok (.iload_n 1, 1) := by decide +kernel
theorem dX11_crust_41 : decode cX11_crust 41 = .ok (.invokevirtual 136, 3) := by decide +kernel
theorem dX11_crust_44 : decode cX11_crust 44 = .ok (.aload_n 0, 1) := by decide +kernel
theorem dX11_crust_45 : decode cX11_crust 45 = .ok (.getfield 7, 3) := by decide +kernel
theorem dX11_crust_48 : decode cX11_crust 48 = .ok (.bipush 37, 2) := by decide +kernel
theorem dX11_crust_50 : decode cX11_crust 50 = .ok (.iload_n 1, 1) := by decide +kernel
theorem dX11_crust_51 : decode cX11_crust 51 = .ok (.iadd, 1) := by decide +kernel
theorem dX11_crust_52 : decode cX11_crust 52 = .ok (.iaload, 1) := by decide +kernel
theorem dX11_crust_53 : decode cX11_crust 53 = .ok (.ireturn, 1) := by decide +kernel
theorem dX11_news_0 : decode cX11_news 0 = .ok (.aload_n 0, 1) := by decide +kernel
theorem dX11_news_1 : decode cX11_news 1 = .ok (.iload_n 1, 1) := by decide +kernel
theorem dX11_news_2 : decode cX11_news 2 = .ok (.invokevirtual 115, 3) := by decide +kernel
theorem dX11_news_5 : decode cX11_news 5 = .ok (.ifCond .eq 15, 3) := by decide +kernel
theorem dX11_news_8 : decode cX11_news 8 = .ok (.iload_n 2, 1) := by decide +kernel
theorem dX11_news_9 : decode cX11_news 9 = .ok (.i2l, 1) := by decide +kernel
theorem dX11_news_10 : decode cX11_news 10 = .ok (.lconst 0, 1) := by decide +kernel
theorem dX11_news_11 : decode cX11_news 11 = .ok (.ldc2_w 120, 3) := by decide +kernel
theorem dX11_news_14 : decode cX11_news 14 = .ok (.invokestatic 42, 3) := by decide +kernel
theorem dX11_news_17 : decode cX11_news 17 = .ok (.ifCond .ne 5, 3) := by decide +kernel
theorem dX11_news_20 : decode cX11_news 20 = .ok (.iconst (-1), 1) := by decide +kernel
theorem dX11_news_21 : decode cX11_news 21 = .ok (.ireturn, 1) := by decide +kernel
theorem dX11_news_22 : decode cX11_news 22 = .ok (.aload_n 0, 1) := by decide +kernel
theorem dX11_news_23 : decode cX11_news 23 = .ok (.iconst 0, 1) := by decide +kernel
theorem dX11_news_24 : decode cX11_news 24 = .ok (.iload_n 1, 1) := by decide +kernel
theorem dX11_news_25 : decode cX11_news 25 = .ok (.invokevirtual 100, 3) := by decide +kernel
theorem dX11_news_28 : decode cX11_news 28 = .ok (.ifCond .eq 6, 3) := by decide +kernel
theorem dX11_news_31 : decode cX11_news 31 = .ok (.bipush (-2), 2) := by decide +kernel
theorem dX11_news_33 : decode cX11_news 33 = .ok (.ireturn, 1) := by decide +kernel
theorem dX11_news_34 : decode cX11_news 34 = .ok (.aload_n 0, 1) := by decide +kernel
theorem dX11_news_35 : decode cX11_news 35 = .ok (.invokevirtual 126, 3) := by decide +kernel
theorem dX11_news_38 : decode cX11_news 38 = .ok (.aload_n 0, 1) := by decide +kernel
theorem dX11_news_39 : decode cX11_news 39 = .ok (.getfield 7, 3) := by decide +kernel
theorem dX11_news_42 : decode cX11_news 42 = .ok (.bipush 49, 2) := by decide +kernel
theorem dX11_news_44 : decode cX11_news 44 = .ok (.iload_n 1, 1) := by decide +kernel
theorem dX11_news_45 : decode cX11_news 45 = .ok (.iadd, 1) := by decide +kernel
theorem dX11_news_46 : decode cX11_news 46 = .ok (.iaload, 1) := by decide +kernel
theorem dX11_news_47 : decode cX11_news 47 = .ok (.istore_n 3, 1) := by decide +kernel
theorem dX11_news_48 : decode cX11_news 48 = .ok (.aload_n 0, 1) := by decide +kernel
theorem dX11_news_49 : decode cX11_news 49 = .ok (.getfield 7, 3) := by decide +kernel
theorem dX11_news_52 : decode cX11_news 52 = .ok (.bipush 49, 2) := by decide +kernel
theorem dX11_news_54 : decode cX11_news 54 = .ok (.iload_n 1, 1) := by decide +kernel
theorem dX11_news_55 : decode cX11_news 55 = .ok (.iadd, 1) := by decide +kernel
theorem dX11_news_56 : decode cX11_news 56 = .ok (.iload_n 2, 1) := by decide +kernel
theorem dX11_news_57 : decode cX11_news 57 = .ok (.iastore, 1) := by decide +kernel
theorem dX11_news_58 : decode cX11_news 58 = .ok (.iload_n 3, 1) := by decide +kernel
theorem dX11_news_59 : decode cX11_news 59 = .ok (.ireturn, 1) := by decide +kernel
theorem dX11_praise_0 : decode cX11_praise 0 = .ok (.aload_n 0, 1) := by decide +kernel
theorem dX11_praise_1 : decode cX11_praise 1 = .ok (.iload_n 1, 1) := by decide +kernel
theorem dX11_praise_2 : decode cX11_praise 2 = .ok (.invokevirtual 115, 3) := by decide +kernel
theorem dX11_praise_5 : decode cX11_praise 5 = .ok (.ifCond .ne 5, 3) := by decide +kernel
theorem dX11_praise_8 : decode cX11_praise 8 = .ok (.iconst (-1), 1) := by decide +kernel
theorem dX11_praise_9 : decode cX11_praise 9 = .ok (.ireturn, 1) := by decide +kernel
theorem dX11_praise_10 : decode cX11_praise 10 = .ok (.aload_n 0, 1) := by decide +kernel
theorem dX11_praise_11 : decode cX11_praise 11 = .ok (.iconst 0, 1) := by decide +kernel
theorem dX11_praise_12 : decode cX11_praise 12 = .ok (.iload_n 1, 1) := by decide +kernel
theorem dX11_praise_13 : decode cX11_praise 13 = .ok (.invokevirtual 100, 3) := by decide +kernel
theorem dX11_praise_16 : decode cX11_praise 16 = .ok (.ifCond .ne 17, 3) := by decide +kernel
theorem dX11_praise_19 : decode cX11_praise 19 = .ok (.aload_n 0, 1) := by decide +kernel
theorem dX11_praise_20 : decode cX11_praise 20 = .ok (.getfield 7, 3) := by decide +kernel
theorem dX11_praise_23 : decode cX11_praise 23 = .ok (.bipush 55, 2) := by decide +kernel
theorem dX11_praise_25 : decode cX11_praise 25 = .ok (.iload_n 1, 1) := by decide +kernel
theorem dX11_praise_26 : decode cX11_praise 26 = .ok (.iadd, 1) := by decide +kernel
theorem dX11_praise_27 : decode cX11_praise 27 = .ok (.iaload, 1) := by decide +kernel
theorem dX11_praise_28 : decode cX11_praise 28 = .ok (.bipush 9, 2) := by decide +kernel
theorem dX11_praise_30 : decode cX11_praise 30 = .ok (.if_icmp .ne 6, 3) := by decide +kernel
theorem dX11_praise_33 : decode cX11_praise 33 = .ok (.bipush (-2), 2) := by decide +kernel
theorem dX11_praise_35 : decode cX11_praise 35 = .ok (.ireturn, 1) := by decide +kernel
theorem dX11_praise_36 : decode cX11_praise 36 = .ok (.aload_n 0, 1) := by decide +kernel
theorem dX11_praise_37 : decode cX11_praise 37 = .ok (.invokevirtual 126, 3) := by decide +kernel
theorem dX11_praise_40 : decode cX11_praise 40 = .ok (.aload_n 0, 1) := by decide +kernel
theorem dX11_praise_41 : decode cX11_praise 41 = .ok (.getfield 7, 3) := by decide +kernel
theorem dX11_praise_44 : decode cX11_praise 44 = .ok (.bipush 55, 2) := by decide +kernel
theorem dX11_praise_46 : decode cX11_praise 46 = .ok (.iload_n 1, 1) := by decide +kernel
theorem dX11_praise_47 : decode cX11_praise 47 = .ok (.iadd, 1) := by decide +kernel
theorem dX11_praise_48 : decode cX11_praise 48 = .ok (.dup2, 1) := by decide +kernel
theorem dX11_praise_49 : decode cX11_praise 49 = .ok (.iaload, 1) := by decide +kernel
theorem dX11_praise_50 : decode cX11_praise 50 = .ok (.iconst 1, 1) := by decide +kernel
theorem dX11_praise_51 : decode cX11_praise 51 = .ok (.iadd, 1) := by decide +kernel
theorem dX11_praise_52 : decode cX11_praise 52 = .ok (.iastore, 1) := by decide +kernel
theorem dX11_praise_53 : decode cX11_praise 53 = .ok (.aload_n 0, 1) := by decide +kernel
theorem dX11_praise_54 : decode cX11_praise 54 = .ok (.getfield 7, 3) := by decide +kernel
theorem dX11_praise_57 : decode cX11_praise 57 = .ok (.bipush 55, 2) := by decide +kernel
theorem dX11_praise_59 : decode cX11_praise 59 = .ok (.iload_n 1, 1) := by decide +kernel
theorem dX11_praise_60 : decode cX11_praise 60 = .ok (.iadd, 1) := by decide +kernel
theorem dX11_praise_61 : decode cX11_praise 61 = .ok (.iaload, 1) := by decide +kernel
theorem dX11_praise_62 : decode cX11_praise 62 = .ok (.ireturn, 1) := by decide +kernel
theorem dX11_cloak_0 : decode cX11_cloak 0 = .ok (.aload_n 0, 1) := by decide +kernel
theorem dX11_cloak_1 : decode cX11_cloak 1 = .ok (.iload_n 1, 1) := by decide +kernel
theorem dX11_cloak_2 : decode cX11_cloak 2 = .ok (.invokevirtual 115, 3) := by decide +kernel
theorem dX11_cloak_5 : decode cX11_cloak 5 = .ok (.ifCond .eq 13, 3) := by decide +kernel
theorem dX11_cloak_8 : decode cX11_cloak 8 = .ok (.iload_n 2, 1) := by decide +kernel
theorem dX11_cloak_9 : decode cX11_cloak 9 = .ok (.i2l, 1) := by decide +kernel
theorem dX11_cloak_10 : decode cX11_cloak 10 = .ok (.lconst 0, 1) := by decide +kernel
theorem dX11_cloak_11 : decode cX11_cloak 11 = .ok (.lconst 1, 1) := by decide +kernel
theorem dX11_cloak_12 : decode cX11_cloak 12 = .ok (.invokestatic 42, 3) := by decide +kernel
theorem dX11_cloak_15 : decode cX11_cloak 15 = .ok (.ifCond .ne 5, 3) := by decide +kernel
theorem dX11_cloak_18 : decode cX11_cloak 18 = .ok (.iconst (-1), 1) := by decide +kernel
theorem dX11_cloak_19 : decode cX11_cloak 19 = .ok (.ireturn, 1) := by decide +kernel
theorem dX11_cloak_20 : decode cX11_cloak 20 = .ok (.aload_n 0, 1) := by decide +kernel
theorem dX11_cloak_21 : decode cX11_cloak 21 = .ok (.iconst 0, 1) := by decide +kernel
theorem dX11_cloak_22 : decode cX11_cloak 22 = .ok (.iload_n 1, 1) := by decide +kernel
theorem dX11_cloak_23 : decode cX11_cloak 23 = .ok (.invokevirtual 100, 3) := by decide +kernel
theorem dX11_cloak_26 : decode cX11_cloak 26 = .ok (.ifCond .ne 16, 3) := by decide +kernel
theorem dX11_cloak_29 : decode cX11_cloak 29 = .ok (.aload_n 0, 1) := by decide +kernel
theorem dX11_cloak_30 : decode cX11_cloak 30 = .ok (.getfield 7, 3) := by decide +kernel
theorem dX11_cloak_33 : decode cX11_cloak 33 = .ok (.bipush 61, 2) := by decide +kernel
theorem dX11_cloak_35 : decode cX11_cloak 35 = .ok (.iload_n 1, 1) := by decide +kernel
theorem dX11_cloak_36 : decode cX11_cloak 36 = .ok (.iadd, 1) := by decide +kernel
theorem dX11_cloak_37 : decode cX11_cloak 37 = .ok (.iaload, 1) := by decide +kernel
theorem dX11_cloak_38 : decode cX11_cloak 38 = .ok (.iload_n 2, 1) := by decide +kernel
theorem dX11_cloak_39 : decode cX11_cloak 39 = .ok (.if_icmp .ne 6, 3) := by decide +kernel
theorem dX11_cloak_42 : decode cX11_cloak 42 = .ok (.bipush (-2), 2) := by decide +kernel
theorem dX11_cloak_44 : decode cX11_cloak 44 = .ok (.ireturn, 1) := by decide +kernel
theorem dX11_cloak_45 : decode cX11_cloak 45 = .ok (.aload_n 0, 1) := by decide +kernel
theorem dX11_cloak_46 : decode cX11_cloak 46 = .ok (.invokevirtual 126, 3) := by decide +kernel
theorem dX11_cloak_49 : decode cX11_cloak 49 = .ok (.aload_n 0, 1) := by decide +kernel
theorem dX11_cloak_50 : decode cX11_cloak 50 = .ok (.getfield 7, 3) := by decide +kernel
theorem dX11_cloak_53 : decode cX11_cloak 53 = .ok (.bipush 61, 2) := by decide +kernel
theorem dX11_cloak_55 : decode cX11_cloak 55 = .ok (.iload_n 1, 1) := by decide +kernel
theorem dX11_cloak_56 : decode cX11_cloak 56 = .ok (.iadd, 1) := by decide +kernel
theorem dX11_cloak_57 : decode cX11_cloak 57 = .ok (.iload_n 2, 1) := by decide +kernel
theorem dX11_cloak_58 : decode cX11_cloak 58 = .ok (.iastore, 1) := by decide +kernel
theorem dX11_cloak_59 : decode cX11_cloak 59 = .ok (.iconst 0, 1) := by decide +kernel
theorem dX11_cloak_60 : decode cX11_cloak 60 = .ok (.istore_n 3, 1) := by decide +kernel
theorem dX11_cloak_61 : decode cX11_cloak 61 = .ok (.iconst 0, 1) := by decide +kernel
theorem dX11_cloak_62 : decode cX11_cloak 62 = .ok (.istore 4, 2) := by decide +kernel
theorem dX11_cloak_64 : decode cX11_cloak 64 = .ok (.iload 4, 2) := by decide +kernel
theorem dX11_cloak_66 : decode cX11_cloak 66 = .ok (.aload_n 0, 1) := by decide +kernel
theorem dX11_cloak_67 : decode cX11_cloak 67 = .ok (.getfield 7, 3) := by decide +kernel
theorem dX11_cloak_70 : decode cX11_cloak 70 = .ok (.iconst 1, 1) := by decide +kernel
theorem dX11_cloak_71 : decode cX11_cloak 71 = .ok (.iaload, 1) := by decide +kernel
theorem dX11_cloak_72 : decode cX11_cloak 72 = .ok (.if_icmp .ge 22, 3) := by decide +kernel
theorem dX11_cloak_75 : decode cX11_cloak 75 = .ok (.iload_n 3, 1) := by decide +kernel
theorem dX11_cloak_76 : decode cX11_cloak 76 = .ok (.aload_n 0, 1) := by decide +kernel
theorem dX11_cloak_77 : decode cX11_cloak 77 = .ok (.getfield 7, 3) := by decide +kernel
theorem dX11_cloak_80 : decode cX11_cloak 80 = .ok (.bipush 61, 2) := by decide +kernel
theorem dX11_cloak_82 : decode cX11_cloak 82 = .ok (.iload 4, 2) := by decide +kernel
theorem dX11_cloak_84 : decode cX11_cloak 84 = .ok (.iadd, 1) := by decide +kernel
theorem dX11_cloak_85 : decode cX11_cloak 85 = .ok (.iaload, 1) := by decide +kernel
theorem dX11_cloak_86 : decode cX11_cloak 86 = .ok (.iadd, 1) := by decide +kernel
theorem dX11_cloak_87 : decode cX11_cloak 87 = .ok (.istore_n 3, 1) := by decide +kernel
theorem dX11_cloak_88 : decode cX11_cloak 88 = .ok (.iinc 4 1, 3) := by decide +kernel
theorem dX11_cloak_91 : decode cX11_cloak 91 = .ok (.goto (-27), 3) := by decide +kernel
theorem dX11_cloak_94 : decode cX11_cloak 94 = .ok (.iload_n 3, 1) := by decide +kernel
theorem dX11_cloak_95 : decode cX11_cloak 95 = .ok (.ireturn, 1) := by decide +kernel
theorem dX11_heir_0 : decode cX11_heir 0 = .ok (.aload_n 0, 1) := by decide +kernel
theorem dX11_heir_1 : decode cX11_heir 1 = .ok (.iload_n 1, 1) := by decide +kernel
theorem dX11_heir_2 : decode cX11_heir 2 = .ok (.invokevirtual 115, 3) := by decide +kernel
theorem dX11_heir_5 : decode cX11_heir 5 = .ok (.ifCond .ne 5, 3) := by decide +kernel
theorem dX11_heir_8 : decode cX11_heir 8 = .ok (.iconst (-1), 1) := by decide +kernel
theorem dX11_heir_9 : decode cX11_heir 9 = .ok (.ireturn, 1) := by decide +kernel
theorem dX11_heir_10 : decode cX11_heir 10 = .ok (.aload_n 0, 1) := by decide +kernel
theorem dX11_heir_11 : decode cX11_heir 11 = .ok (.iconst 0, 1) := by decide +kernel
theorem dX11_heir_12 : decode cX11_heir 12 = .ok (.iload_n 1, 1) := by decide +kernel
theorem dX11_heir_13 : decode cX11_heir 13 = .ok (.invokevirtual 100, 3) := by decide +kernel
theorem dX11_heir_16 : decode cX11_heir 16 = .ok (.ifCond .ne 6, 3) := by decide +kernel
theorem dX11_heir_19 : decode cX11_heir 19 = .ok (.bipush (-2), 2) := by decide +kernel
theorem dX11_heir_21 : decode cX11_heir 21 = .ok (.ireturn, 1) := by decide +kernel
theorem dX11_heir_22 : decode cX11_heir 22 = .ok (.aload_n 0, 1) := by decide +kernel
theorem dX11_heir_23 : decode cX11_heir 23 = .ok (.invokevirtual 126, 3) := by decide +kernel
theorem dX11_heir_26 : decode cX11_heir 26 = .ok (.aload_n 0, 1) := by decide +kernel
theorem dX11_heir_27 : decode cX11_heir 27 = .ok (.getfield 7, 3) := by decide +kernel
theorem dX11_heir_30 : decode cX11_heir 30 = .ok (.bipush 13, 2) := by decide +kernel
theorem dX11_heir_32 : decode cX11_heir 32 = .ok (.iload_n 1, 1) := by decide +kernel
theorem dX11_heir_33 : decode cX11_heir 33 = .ok (.iadd, 1) := by decide +kernel
theorem dX11_heir_34 : decode cX11_heir 34 = .ok (.aload_n 0, 1) := by decide +kernel
theorem dX11_heir_35 : decode cX11_heir 35 = .ok (.getfield 7, 3) := by decide +kernel
theorem dX11_heir_38 : decode cX11_heir 38 = .ok (.bipush 13, 2) := by decide +kernel
theorem dX11_heir_40 : decode cX11_heir 40 = .ok (.iload_n 1, 1) := by decide +kernel
theorem dX11_heir_41 : decode cX11_heir 41 = .ok (.iadd, 1) := by decide +kernel
theorem dX11_heir_42 : decode cX11_heir 42 = .ok (.iaload, 1) := by decide +kernel
theorem dX11_heir_43 : decode cX11_heir 43 = .ok (.bipush 12, 2) := by decide +kernel
theorem dX11_heir_45 : decode cX11_heir 45 = .ok (.if_icmp .le 17, 3) := by decide +kernel
theorem dX11_heir_48 : decode cX11_heir 48 = .ok (.aload_n 0, 1) := by decide +kernel
theorem dX11_heir_49 : decode cX11_heir 49 = .ok (.getfield 7, 3) := by decide +kernel
theorem dX11_heir_52 : decode cX11_heir 52 = .ok (.bipush 13, 2) := by decide +kernel
theorem dX11_heir_54 : decode cX11_heir 54 = .ok (.iload_n 1, 1) := by decide +kernel
theorem dX11_heir_55 : decode cX11_heir 55 = .ok (.iadd, 1) := by decide +kernel
theorem dX11_heir_56 : decode cX11_heir 56 = .ok (.iaload, 1) := by decide +kernel
theorem dX11_heir_57 : decode cX11_heir 57 = .ok (.iconst 2, 1) := by decide +kernel
theorem dX11_heir_58 : decode cX11_heir 58 = .ok (.isub, 1) := by decide +kernel
theorem dX11_heir_59 : decode cX11_heir 59 = .ok (.goto 5, 3) := by decide +kernel
theorem dX11_heir_62 : decode cX11_heir 62 = .ok (.bipush 10, 2) := by decide +kernel
theorem dX11_heir_64 : decode cX11_heir 64 = .ok (.iastore, 1) := by decide +kernel
theorem dX11_heir_65 : decode cX11_heir 65 = .ok (.aload_n 0, 1) := by decide +kernel
theorem dX11_heir_66 : decode cX11_heir 66 = .ok (.getfield 7, 3) := by decide +kernel
theorem dX11_heir_69 : decode cX11_heir 69 = .ok (.bipush 37, 2) := by decide +kernel
theorem dX11_heir_71 : decode cX11_heir 71 = .ok (.iload_n 1, 1) := by decide +kernel
theorem dX11_heir_72 : decode cX11_heir 72 = .ok (.iadd, 1) := by decide +kernel
theorem dX11_heir_73 : decode cX11_heir 73 = .ok (.iconst 0, 1) := by decide +kernel
theorem dX11_heir_74 : decode cX11_heir 74 = .ok (.iastore, 1) := by decide +kernel
theorem dX11_heir_75 : decode cX11_heir 75 = .ok (.aload_n 0, 1) := by decide +kernel
theorem dX11_heir_76 : decode cX11_heir 76 = .ok (.getfield 7, 3) := by decide +kernel
theorem dX11_heir_79 : decode cX11_heir 79 = .ok (.bipush 55, 2) := by decide +kernel
theorem dX11_heir_81 : decode cX11_heir 81 = .ok (.iload_n 1, 1) := by decide +kernel
theorem dX11_heir_82 : decode cX11_heir 82 = .ok (.iadd, 1) := by decide +kernel
theorem dX11_heir_83 : decode cX11_heir 83 = .ok (.iconst 0, 1) := by decide +kernel
theorem dX11_heir_84 : decode cX11_heir 84 = .ok (.iastore, 1) := by decide +kernel
theorem dX11_heir_85 : decode cX11_heir 85 = .ok (.aload_n 0, 1) := by decide +kernel
theorem dX11_heir_86 : decode cX11_heir 86 = .ok (.getfield 7, 3) := by decide +kernel
theorem dX11_heir_89 : decode cX11_heir 89 = .ok (.bipush 49, 2) := by decide +kernel
theorem dX11_heir_91 : decode cX11_heir 91 = .ok (.iload_n 1, 1) := by decide +kernel
theorem dX11_heir_92 : decode cX11_heir 92 = .ok (.iadd, 1) := by decide +kernel
theorem dX11_heir_93 : decode cX11_heir 93 = .ok (.iconst 0, 1) := by decide +kernel
theorem dX11_heir_94 : decode cX11_heir 94 = .ok (.iastore, 1) := by decide +kernel
theorem dX11_heir_95 : decode cX11_heir 95 = .ok (.aload_n 0, 1) := by decide +kernel
theorem dX11_heir_96 : decode cX11_heir 96 = .ok (.getfield 7, 3) := by decide +kernel
theorem dX11_heir_99 : decode cX11_heir 99 = .ok (.bipush 61, 2) := by decide +kernel
theorem dX11_heir_101 : decode cX11_heir 101 = .ok (.iload_n 1, 1) := by decide +kernel
theorem dX11_heir_102 : decode cX11_heir 102 = .ok (.iadd, 1) := by decide +kernel
theorem dX11_heir_103 : decode cX11_heir 103 = .ok (.iconst 0, 1) := by decide +kernel
theorem dX11_heir_104 : decode cX11_heir 104 = .ok (.iastore, 1) := by decide +kernel
theorem dX11_heir_105 : decode cX11_heir 105 = .ok (.aload_n 0, 1) := by decide +kernel
theorem dX11_heir_106 : decode cX11_heir 106 = .ok (.getfield 7, 3) := by decide +kernel
theorem dX11_heir_109 : decode cX11_heir 109 = .ok (.bipush 43, 2) := by decide +kernel
theorem dX11_heir_111 : decode cX11_heir 111 = .ok (.iload_n 1, 1) := by decide +kernel
theorem dX11_heir_112 : decode cX11_heir 112 = .ok (.iadd, 1) := by decide +kernel
theorem dX11_heir_113 : decode cX11_heir 113 = .ok (.aload_n 0, 1) := by decide +kernel
theorem dX11_heir_114 : decode cX11_heir 114 = .ok (.getfield 7, 3) := by decide +kernel
theorem dX11_heir_117 : decode cX11_heir 117 = .ok (.iconst 3, 1) := by decide +kernel
theorem dX11_heir_118 : decode cX11_heir 118 = .ok (.iaload, 1) := by decide +kernel
theorem dX11_heir_119 : decode cX11_heir 119 = .ok (.iastore, 1) := by decide +kernel
theorem dX11_heir_120 : decode cX11_heir 120 = .ok (.aload_n 0, 1) := by decide +kernel
theorem dX11_heir_121 : decode cX11_heir 121 = .ok (.getfield 7, 3) := by decide +kernel
theorem dX11_heir_124 : decode cX11_heir 124 = .ok (.bipush 67, 2) := by decide +kernel
theorem dX11_heir_126 : decode cX11_heir 126 = .ok (.iload_n 1, 1) := by decide +kernel
theorem dX11_heir_127 : decode cX11_heir 127 = .ok (.iadd, 1) := by decide +kernel
theorem dX11_heir_128 : decode cX11_heir 128 = .ok (.iconst (-1), 1) := by decide +kernel
theorem dX11_heir_129 : decode cX11_heir 129 = .ok (.iastore, 1) := by decide +kernel
theorem dX11_heir_130 : decode cX11_heir 130 = .ok (.aload_n 0, 1) := by decide +kernel
theorem dX11_heir_131 : decode cX11_heir 131 = .ok (.getfield 7, 3) := by decide +kernel
theorem dX11_heir_134 : decode cX11_heir 134 = .ok (.bipush 13, 2) := by decide +kernel
theorem dX11_heir_136 : decode cX11_heir 136 = .ok (.iload_n 1, 1) := by decide +kernel
theorem dX11_heir_137 : decode cX11_heir 137 = .ok (.iadd, 1) := by decide +kernel
theorem dX11_heir_138 : decode cX11_heir 138 = .ok (.iaload, 1) := by decide +kernel
theorem dX11_heir_139 : decode cX11_heir 139 = .ok (.ireturn, 1) := by decide +kernel
theorem dX11_undo_0 : decode cX11_undo 0 = .ok (.aload_n 0, 1) := by decide +kernel
theorem dX11_undo_1 : decode cX11_undo 1 = .ok (.getfield 94, 3) := by decide +kernel
theorem dX11_undo_4 : decode cX11_undo 4 = .ok (.ifCond .ne 6, 3) := by decide +kernel
theorem dX11_undo_7 : decode cX11_undo 7 = .ok (.bipush (-4), 2) := by decide +kernel
theorem dX11_undo_9 : decode cX11_undo 9 = .ok (.ireturn, 1) := by decide +kernel
theorem dX11_undo_10 : decode cX11_undo 10 = .ok (.aload_n 0, 1) := by decide +kernel
theorem dX11_undo_11 : decode cX11_undo 11 = .ok (.dup, 1) := by decide +kernel
theorem dX11_undo_12 : decode cX11_undo 12 = .ok (.getfield 94, 3) := by decide +kernel
theorem dX11_undo_15 : decode cX11_undo 15 = .ok (.iconst 1, 1) := by decide +kernel
theorem dX11_undo_16 : decode cX11_undo 16 = .ok (.isub, 1) := by decide +kernel
theorem dX11_undo_17 : decode cX11_undo 17 = .ok (.putfield 94, 3) := by decide +kernel
theorem dX11_undo_20 : decode cX11_undo 20 = .ok (.aload_n 0, 1) := by decide +kernel
theorem dX11_undo_21 : decode cX11_undo 21 = .ok (.sipush 292, 3) := by decide +kernel
theorem dX11_undo_24 : decode cX11_undo 24 = .ok (.bipush 73, 2) := by decide +kernel
theorem dX11_undo_26 : decode cX11_undo 26 = .ok (.aload_n 0, 1) := by decide +kernel
theorem dX11_undo_27 : decode cX11_undo 27 = .ok (.getfield 94, 3) := by decide +kernel
theorem dX11_undo_30 : decode cX11_undo 30 = .ok (.imul, 1) := by decide +kernel
theorem dX11_undo_31 : decode cX11_undo 31 = .ok (.iadd, 1) := by decide +kernel
theorem dX11_undo_32 : decode cX11_undo 32 = .ok (.iconst 0, 1) := by decide +kernel
theorem dX11_undo_33 : decode cX11_undo 33 = .ok (.invokevirtual 90, 3) := by decide +kernel
theorem dX11_undo_36 : decode cX11_undo 36 = .ok (.aload_n 0, 1) := by decide +kernel
theorem dX11_undo_37 : decode cX11_undo 37 = .ok (.getfield 94, 3) := by decide +kernel
theorem dX11_undo_40 : decode cX11_undo 40 = .ok (.ireturn, 1) := by decide +kernel
theorem dX11_seed_0 : decode cX11_seed 0 = .ok (.iload_n 1, 1) := by decide +kernel
theorem dX11_seed_1 : decode cX11_seed 1 = .ok (.i2l, 1) := by decide +kernel
theorem dX11_seed_2 : decode cX11_seed 2 = .ok (.lconst 1, 1) := by decide +kernel
theorem dX11_seed_3 : decode cX11_seed 3 = .ok (.ldc2_w 139, 3) := by decide +kernel
theorem dX11_seed_6 : decode cX11_seed 6 = .ok (.invokestatic 42, 3) := by decide +kernel
theorem dX11_seed_9 : decode cX11_seed 9 = .ok (.ifCond .ne 5, 3) := by decide +kernel
theorem dX11_seed_12 : decode cX11_seed 12 = .ok (.iconst (-1), 1) := by decide +kernel
theorem dX11_seed_13 : decode cX11_seed 13 = .ok (.ireturn, 1) := by decide +kernel
theorem dX11_seed_14 : decode cX11_seed 14 = .ok (.aload_n 0, 1) := by decide +kernel
theorem dX11_seed_15 : decode cX11_seed 15 = .ok (.getfield 7, 3) := by decide +kernel
theorem dX11_seed_18 : decode cX11_seed 18 = .ok (.bipush 6, 2) := by decide +kernel
theorem dX11_seed_20 : decode cX11_seed 20 = .ok (.iaload, 1) := by decide +kernel
theorem dX11_seed_21 : decode cX11_seed 21 = .ok (.istore_n 2, 1) := by decide +kernel
theorem dX11_seed_22 : decode cX11_seed 22 = .ok (.aload_n 0, 1) := by decide +kernel
theorem dX11_seed_23 : decode cX11_seed 23 = .ok (.getfield 7, 3) := by decide +kernel
theorem dX11_seed_26 : decode cX11_seed 26 = .ok (.bipush 6, 2) := by decide +kernel
theorem dX11_seed_28 : decode cX11_seed 28 = .ok (.iload_n 1, 1) := by decide +kernel
theorem dX11_seed_29 : decode cX11_seed 29 = .ok (.iastore, 1) := by decide +kernel
theorem dX11_seed_30 : decode cX11_seed 30 = .ok (.iload_n 2, 1) := by decide +kernel
theorem dX11_seed_31 : decode cX11_seed 31 = .ok (.ireturn, 1) := by decide +kernel
theorem dX11_image_0 : decode cX11_image 0 = .ok (.iload_n 1, 1) := by decide +kernel
theorem dX11_image_1 : decode cX11_image 1 = .ok (.i2l, 1) := by decide +kernel
theorem dX11_image_2 : decode cX11_image 2 = .ok (.lconst 0, 1) := by decide +kernel
theorem dX11_image_3 : decode cX11_image 3 = .ok (.lconst 1, 1) := by decide +kernel
theorem dX11_image_4 : decode cX11_image 4 = .ok (.invokestatic 42, 3) := by decide +kernel
theorem dX11_image_7 : decode cX11_image 7 = .ok (.ifCond .ne 5, 3) := by decide +kernel
theorem dX11_image_10 : decode cX11_image 10 = .ok (.iconst (-1), 1) := by decide +kernel
theorem dX11_image_11 : decode cX11_image 11 = .ok (.ireturn, 1) := by decide +kernel
theorem dX11_image_12 : decode cX11_image 12 = .ok (.aload_n 0, 1) := by decide +kernel
theorem dX11_image_13 : decode cX11_image 13 = .ok (.getfield 7, 3) := by decide +kernel
theorem dX11_image_16 : decode cX11_image 16 = .ok (.iconst 0, 1) := by decide +kernel
theorem dX11_image_17 : decode cX11_image 17 = .ok (.iaload, 1) := by decide +kernel
theorem dX11_image_18 : decode cX11_image 18 = .ok (.ifCond .ne 6, 3) := by decide +kernel
theorem dX11_image_21 : decode cX11_image 21 = .ok (.bipush (-2), 2) := by decide +kernel
theorem dX11_image_23 : decode cX11_image 23 = .ok (.ireturn, 1) := by decide +kernel
theorem dX11_image_24 : decode cX11_image 24 = .ok (.aload_n 0, 1) := by decide +kernel
theorem dX11_image_25 : decode cX11_image 25 = .ok (.iconst 0, 1) := by decide +kernel
theorem dX11_image_26 : decode cX11_image 26 = .ok (.bipush 73, 2) := by decide +kernel
theorem dX11_image_28 : decode cX11_image 28 = .ok (.iconst 1, 1) := by decide +kernel
theorem dX11_image_29 : decode cX11_image 29 = .ok (.iload_n 1, 1) := by decide +kernel
theorem dX11_image_30 : decode cX11_image 30 = .ok (.iadd, 1) := by decide +kernel
theorem dX11_image_31 : decode cX11_image 31 = .ok (.imul, 1) := by decide +kernel
theorem dX11_image_32 : decode cX11_image 32 = .ok (.invokevirtual 90, 3) := by decide +kernel
theorem dX11_image_35 : decode cX11_image 35 = .ok (.aload_n 0, 1) := by decide +kernel
theorem dX11_image_36 : decode cX11_image 36 = .ok (.getfield 13, 3) := by decide +kernel
theorem dX11_image_39 : decode cX11_image 39 = .ok (.iload_n 1, 1) := by decide +kernel
theorem dX11_image_40 : decode cX11_image 40 = .ok (.iconst 1, 1) := by decide +kernel
theorem dX11_image_41 : decode cX11_image 41 = .ok (.bastore, 1) := by decide +kernel
theorem dX11_image_42 : decode cX11_image 42 = .ok (.aload_n 0, 1) := by decide +kernel
theorem dX11_image_43 : decode cX11_image 43 = .ok (.iconst 0, 1) := by decide +kernel
theorem dX11_image_44 : decode cX11_image 44 = .ok (.invokevirtual 133, 3) := by decide +kernel
theorem dX11_image_47 : decode cX11_image 47 = .ok (.ireturn, 1) := by decide +kernel
theorem dX11_restore_0 : decode cX11_restore 0 = .ok (.iload_n 1, 1) := by decide +kernel
theorem dX11_restore_1 : decode cX11_restore 1 = .ok (.i2l, 1) := by decide +kernel
theorem dX11_restore_2 : decode cX11_restore 2 = .ok (.lconst 0, 1) := by decide +kernel
theorem dX11_restore_3 : decode cX11_restore 3 = .ok (.lconst 1, 1) := by decide +kernel
theorem dX11_restore_4 : decode cX11_restore 4 = .ok (.invokestatic 42, 3) := by decide +kernel
theorem dX11_restore_7 : decode cX11_restore 7 = .ok (.ifCond .ne 5, 3) := by decide +kernel
theorem dX11_restore_10 : decode cX11_restore 10 = .ok (.iconst (-1), 1) := by decide +kernel
theorem dX11_restore_11 : decode cX11_restore 11 = .ok (.ireturn, 1) := by decide +kernel
theorem dX11_restore_12 : decode cX11_restore 12 = .ok (.aload_n 0, 1) := by decide +kernel
theorem dX11_restore_13 : decode cX11_restore 13 = .ok (.getfield 13, 3) := by decide +kernel
theorem dX11_restore_16 : decode cX11_restore 16 = .ok (.iload_n 1, 1) := by decide +kernel
theorem dX11_restore_17 : decode cX11_restore 17 = .ok (.baload, 1) := by decide +kernel
theorem dX11_restore_18 : decode cX11_restore 18 = .ok (.ifCond .ne 6, 3) := by decide +kernel
theorem dX11_restore_21 : decode cX11_restore 21 = .ok (.bipush (-2), 2) := by decide +kernel
theorem dX11_restore_23 : decode cX11_restore 23 = .ok (.ireturn, 1) := by decide +kernel
theorem dX11_restore_24 : decode cX11_restore 24 = .ok (.aload_n 0, 1) := by decide +kernel
theorem dX11_restore_25 : decode cX11_restore 25 = .ok (.bipush 73, 2) := by decide +kernel
theorem dX11_restore_27 : decode cX11_restore 27 = .ok (.iconst 1, 1) := by decide +kernel
theorem dX11_restore_28 : decode cX11_restore 28 = .ok (.iload_n 1, 1) := by decide +kernel
theorem dX11_restore_29 : decode cX11_restore 29 = .ok (.iadd, 1) := by decide +kernel
theorem dX11_restore_30 : decode cX11_restore 30 = .ok (.imul, 1) := by decide +kernel
theorem dX11_restore_31 : decode cX11_restore 31 = .ok (.iconst 0, 1) := by decide +kernel
theorem dX11_restore_32 : decode cX11_restore 32 = .ok (.invokevirtual 90, 3) := by decide +kernel
theorem dX11_restore_35 : decode cX11_restore 35 = .ok (.aload_n 0, 1) := by decide +kernel
theorem dX11_restore_36 : decode cX11_restore 36 = .ok (.iconst 0, 1) := by decide +kernel
theorem dX11_restore_37 : decode cX11_restore 37 = .ok (.putfield 94, 3) := by decide +kernel
theorem dX11_restore_40 : decode cX11_restore 40 = .ok (.aload_n 0, 1) := by decide +kernel
theorem dX11_restore_41 : decode cX11_restore 41 = .ok (.iconst 0, 1) := by decide +kernel
theorem dX11_restore_42 : decode cX11_restore 42 = .ok (.invokevirtual 133, 3) := by decide +kernel
theorem dX11_restore_45 : decode cX11_restore 45 = .ok (.ireturn, 1) := by decide +kernel
theorem dX11_passesMany_0 : decode cX11_passesMany 0 = .ok (.iconst 0, 1) := by decide +kernel
theorem dX11_passesMany_1 : decode cX11_passesMany 1 = .ok (.istore_n 2, 1) := by decide +kernel
theorem dX11_passesMany_2 : decode cX11_passesMany 2 = .ok (.iload_n 2, 1) := by decide +kernel
theorem dX11_passesMany_3 : decode cX11_passesMany 3 = .ok (.iload_n 1, 1) := by decide +kernel
theorem dX11_passesMany_4 : decode cX11_passesMany 4 = .ok (.if_icmp .ge 16, 3) := by decide +kernel
theorem dX11_passesMany_7 : decode cX11_passesMany 7 = .ok (.aload_n 0, 1) := by decide +kernel
theorem dX11_passesMany_8 : decode cX11_passesMany 8 = .ok (.sipush 219, 3) := by decide +kernel
theorem dX11_passesMany_11 : decode cX11_passesMany 11 = .ok (.invokevirtual 129, 3) := by decide +kernel
theorem dX11_passesMany_14 : decode cX11_passesMany 14 = .ok (.iinc 2 1, 3) := by decide +kernel
theorem dX11_passesMany_17 : decode cX11_passesMany 17 = .ok (.goto (-15), 3) := by decide +kernel
theorem dX11_passesMany_20 : decode cX11_passesMany 20 = .ok (.return_, 1) := by decide +kernel
theorem dX11_strain_0 : decode cX11_strain 0 = .ok (.aload_n 0, 1) := by decide +kernel
theorem dX11_strain_1 : decode cX11_strain 1 = .ok (.iload_n 1, 1) := by decide +kernel
theorem dX11_strain_2 : decode cX11_strain 2 = .ok (.invokevirtual 115, 3) := by decide +kernel
theorem dX11_strain_5 : decode cX11_strain 5 = .ok (.ifCond .eq 15, 3) := by decide +kernel
theorem dX11_strain_8 : decode cX11_strain 8 = .ok (.iload_n 2, 1) := by decide +kernel
theorem dX11_strain_9 : decode cX11_strain 9 = .ok (.i2l, 1) := by decide +kernel
theorem dX11_strain_10 : decode cX11_strain 10 = .ok (.lconst 0, 1) := by decide +kernel
theorem dX11_strain_11 : decode cX11_strain 11 = .ok (.ldc2_w 141, 3) := by decide +kernel
theorem dX11_strain_14 : decode cX11_strain 14 = .ok (.invokestatic 42, 3) := by decide +kernel
theorem dX11_strain_17 : decode cX11_strain 17 = .ok (.ifCond .ne 5, 3) := by decide +kernel
theorem dX11_strain_20 : decode cX11_strain 20 = .ok (.iconst (-1), 1) := by decide +kernel
theorem dX11_strain_21 : decode cX11_strain 21 = .ok (.ireturn, 1) := by decide +kernel
theorem dX11_strain_22 : decode cX11_strain 22 = .ok (.aload_n 0, 1) := by decide +kernel
theorem dX11_strain_23 : decode cX11_strain 23 = .ok (.iconst 0, 1) := by decide +kernel
theorem dX11_strain_24 : decode cX11_strain 24 = .ok (.sipush 219, 3) := by decide +kernel
theorem dX11_strain_27 : decode cX11_strain 27 = .ok (.invokevirtual 90, 3) := by decide +kernel
theorem dX11_strain_30 : decode cX11_strain 30 = .ok (.aload_n 0, 1) := by decide +kernel
theorem dX11_strain_31 : decode cX11_strain 31 = .ok (.iload_n 2, 1) := by decide +kernel
theorem dX11_strain_32 : decode cX11_strain 32 = .ok (.invokevirtual 143, 3) := by decide +kernel
theorem dX11_strain_35 : decode cX11_strain 35 = .ok (.aload_n 0, 1) := by decide +kernel
theorem dX11_strain_36 : decode cX11_strain 36 = .ok (.getfield 7, 3) := by decide +kernel
theorem dX11_strain_39 : decode cX11_strain 39 = .ok (.sipush 256, 3) := by decide +kernel
theorem dX11_strain_42 : decode cX11_strain 42 = .ok (.iload_n 1, 1) := by decide +kernel
theorem dX11_strain_43 : decode cX11_strain 43 = .ok (.iadd, 1) := by decide +kernel
theorem dX11_strain_44 : decode cX11_strain 44 = .ok (.iaload, 1) := by decide +kernel
theorem dX11_strain_45 : decode cX11_strain 45 = .ok (.ireturn, 1) := by decide +kernel
theorem dX11_downIn_0 : decode cX11_downIn 0 = .ok (.aload_n 0, 1) := by decide +kernel
theorem dX11_downIn_1 : decode cX11_downIn 1 = .ok (.sipush 219, 3) := by decide +kernel
theorem dX11_downIn_4 : decode cX11_downIn 4 = .ok (.iload_n 1, 1) := by decide +kernel
theorem dX11_downIn_5 : decode cX11_downIn 5 = .ok (.invokevirtual 100, 3) := by decide +kernel
theorem dX11_downIn_8 : decode cX11_downIn 8 = .ok (.ifCond .eq 25, 3) := by decide +kernel
theorem dX11_downIn_11 : decode cX11_downIn 11 = .ok (.aload_n 0, 1) := by decide +kernel
theorem dX11_downIn_12 : decode cX11_downIn 12 = .ok (.getfield 7, 3) := by decide +kernel
theorem dX11_downIn_15 : decode cX11_downIn 15 = .ok (.sipush 286, 3) := by decide +kernel
theorem dX11_downIn_18 : decode cX11_downIn 18 = .ok (.iload_n 1, 1) := by decide +kernel
theorem dX11_downIn_19 : decode cX11_downIn 19 = .ok (.iadd, 1) := by decide +kernel
theorem dX11_downIn_20 : decode cX11_downIn 20 = .ok (.iaload, 1) := by decide +kernel
theorem dX11_downIn_21 : decode cX11_downIn 21 = .ok (.aload_n 0, 1) := by decide +kernel
theorem dX11_downIn_22 : decode cX11_downIn 22 = .ok (.getfield 7, 3) := by decide +kernel
theorem dX11_downIn_25 : decode cX11_downIn 25 = .ok (.iconst 4, 1) := by decide +kernel
theorem dX11_downIn_26 : decode cX11_downIn 26 = .ok (.iaload, 1) := by decide +kernel
theorem dX11_downIn_27 : decode cX11_downIn 27 = .ok (.isub, 1) := by decide +kernel
theorem dX11_downIn_28 : decode cX11_downIn 28 = .ok (.iconst 1, 1) := by decide +kernel
theorem dX11_downIn_29 : decode cX11_downIn 29 = .ok (.iadd, 1) := by decide +kernel
theorem dX11_downIn_30 : decode cX11_downIn 30 = .ok (.goto 5, 3) := by decide +kernel
theorem dX11_downIn_33 : decode cX11_downIn 33 = .ok (.ldc 146, 2) := by decide +kernel
theorem dX11_downIn_35 : decode cX11_downIn 35 = .ok (.ireturn, 1) := by decide +kernel
theorem dX11_triesSixty_0 : decode cX11_triesSixty 0 = .ok (.aload_n 0, 1) := by decide +kernel
theorem dX11_triesSixty_1 : decode cX11_triesSixty 1 = .ok (.iconst 0, 1) := by decide +kernel
theorem dX11_triesSixty_2 : decode cX11_triesSixty 2 = .ok (.sipush 219, 3) := by decide +kernel
theorem dX11_triesSixty_5 : decode cX11_triesSixty 5 = .ok (.invokevirtual 90, 3) := by decide +kernel
theorem dX11_triesSixty_8 : decode cX11_triesSixty 8 = .ok (.aload_n 0, 1) := by decide +kernel
theorem dX11_triesSixty_9 : decode cX11_triesSixty 9 = .ok (.bipush 60, 2) := by decide +kernel
theorem dX11_triesSixty_11 : decode cX11_triesSixty 11 = .ok (.invokevirtual 143, 3) := by decide +kernel
theorem dX11_triesSixty_14 : decode cX11_triesSixty 14 = .ok (.return_, 1) := by decide +kernel
theorem dX11_down_0 : decode cX11_down 0 = .ok (.aload_n 0, 1) := by decide +kernel
theorem dX11_down_1 : decode cX11_down 1 = .ok (.iload_n 1, 1) := by decide +kernel
theorem dX11_down_2 : decode cX11_down 2 = .ok (.invokevirtual 115, 3) := by decide +kernel
theorem dX11_down_5 : decode cX11_down 5 = .ok (.ifCond .ne 5, 3) := by decide +kernel
theorem dX11_down_8 : decode cX11_down 8 = .ok (.iconst (-1), 1) := by decide +kernel
theorem dX11_down_9 : decode cX11_down 9 = .ok (.ireturn, 1) := by decide +kernel
theorem dX11_down_10 : decode cX11_down 10 = .ok (.aload_n 0, 1) := by decide +kernel
theorem dX11_down_11 : decode cX11_down 11 = .ok (.iconst 0, 1) := by decide +kernel
theorem dX11_down_12 : decode cX11_down 12 = .ok (.iload_n 1, 1) := by decide +kernel
theorem dX11_down_13 : decode cX11_down 13 = .ok (.invokevirtual 100, 3) := by decide +kernel
theorem dX11_down_16 : decode cX11_down 16 = .ok (.ifCond .eq 5, 3) := by decide +kernel
theorem dX11_down_19 : decode cX11_down 19 = .ok (.iconst 0, 1) := by decide +kernel
theorem dX11_down_20 : decode cX11_down 20 = .ok (.ireturn, 1) := by decide +kernel
theorem dX11_down_21 : decode cX11_down 21 = .ok (.aload_n 0, 1) := by decide +kernel
theorem dX11_down_22 : decode cX11_down 22 = .ok (.invokevirtual 147, 3) := by decide +kernel
theorem dX11_down_25 : decode cX11_down 25 = .ok (.aload_n 0, 1) := by decide +kernel
theorem dX11_down_26 : decode cX11_down 26 = .ok (.iload_n 1, 1) := by decide +kernel
theorem dX11_down_27 : decode cX11_down 27 = .ok (.invokevirtual 150, 3) := by decide +kernel
theorem dX11_down_30 : decode cX11_down 30 = .ok (.ldc 146, 2) := by decide +kernel
theorem dX11_down_32 : decode cX11_down 32 = .ok (.if_icmp .ne 8, 3) := by decide +kernel
theorem dX11_down_35 : decode cX11_down 35 = .ok (.bipush (-4), 2) := by decide +kernel
theorem dX11_down_37 : decode cX11_down 37 = .ok (.goto 8, 3) := by decide +kernel
theorem dX11_down_40 : decode cX11_down 40 = .ok (.aload_n 0, 1) := by decide +kernel
theorem dX11_down_41 : decode cX11_down 41 = .ok (.iload_n 1, 1) := by decide +kernel
theorem dX11_down_42 : decode cX11_down 42 = .ok (.invokevirtual 150, 3) := by decide +kernel
theorem dX11_down_45 : decode cX11_down 45 = .ok (.ireturn, 1) := by decide +kernel
theorem dX11_areTwo_0 : decode cX11_areTwo 0 = .ok (.aload_n 0, 1) := by decide +kernel
theorem dX11_areTwo_1 : decode cX11_areTwo 1 = .ok (.iload_n 1, 1) := by decide +kernel
theorem dX11_areTwo_2 : decode cX11_areTwo 2 = .ok (.invokevirtual 115, 3) := by decide +kernel
theorem dX11_areTwo_5 : decode cX11_areTwo 5 = .ok (.ifCond .eq 20, 3) := by decide +kernel
theorem dX11_areTwo_8 : decode cX11_areTwo 8 = .ok (.aload_n 0, 1) := by decide +kernel
theorem dX11_areTwo_9 : decode cX11_areTwo 9 = .ok (.iload_n 2, 1) := by decide +kernel
theorem dX11_areTwo_10 : decode cX11_areTwo 10 = .ok (.invokevirtual 115, 3) := by decide +kernel
theorem dX11_areTwo_13 : decode cX11_areTwo 13 = .ok (.ifCond .eq 12, 3) := by decide +kernel
theorem dX11_areTwo_16 : decode cX11_areTwo 16 = .ok (.iload_n 1, 1) := by decide +kernel
theorem dX11_areTwo_17 : decode cX11_areTwo 17 = .ok (.iload_n 2, 1) := by decide +kernel
theorem dX11_areTwo_18 : decode cX11_areTwo 18 = .ok (.if_icmp .eq 7, 3) := by decide +kernel
theorem dX11_areTwo_21 : decode cX11_areTwo 21 = .ok (.iconst 1, 1) := by decide +kernel
theorem dX11_areTwo_22 : decode cX11_areTwo 22 = .ok (.goto 4, 3) := by decide +kernel
theorem dX11_areTwo_25 : decode cX11_areTwo 25 = .ok (.iconst 0, 1) := by decide +kernel
theorem dX11_areTwo_26 : decode cX11_areTwo 26 = .ok (.ireturn, 1) := by decide +kernel
theorem dX11_duel_0 : decode cX11_duel 0 = .ok (.aload_n 0, 1) := by decide +kernel
theorem dX11_duel_1 : decode cX11_duel 1 = .ok (.iload_n 1, 1) := by decide +kernel
theorem dX11_duel_2 : decode cX11_duel 2 = .ok (.iload_n 2, 1) := by decide +kernel
theorem dX11_duel_3 : decode cX11_duel 3 = .ok (.invokevirtual 153, 3) := by decide +kernel
theorem dX11_duel_6 : decode cX11_duel 6 = .ok (.ifCond .ne 5, 3) := by decide +kernel
theorem dX11_duel_9 : decode cX11_duel 9 = .ok (.iconst (-1), 1) := by decide +kernel
theorem dX11_duel_10 : decode cX11_duel 10 = .ok (.ireturn, 1) := by decide +kernel
theorem dX11_duel_11 : decode cX11_duel 11 = .ok (.aload_n 0, 1) := by decide +kernel
theorem dX11_duel_12 : decode cX11_duel 12 = .ok (.iconst 0, 1) := by decide +kernel
theorem dX11_duel_13 : decode cX11_duel 13 = .ok (.iload_n 1, 1) := by decide +kernel
theorem dX11_duel_14 : decode cX11_duel 14 = .ok (.invokevirtual 100, 3) := by decide +kernel
theorem dX11_duel_17 : decode cX11_duel 17 = .ok (.ifCond .ne 12, 3) := by decide +kernel
theorem dX11_duel_20 : decode cX11_duel 20 = .ok (.aload_n 0, 1) := by decide +kernel
theorem dX11_duel_21 : decode cX11_duel 21 = .ok (.iconst 0, 1) := by decide +kernel
theorem dX11_duel_22 : decode cX11_duel 22 = .ok (.iload_n 2, 1) := by decide +kernel
theorem dX11_duel_23 : decode cX11_duel 23 = .ok (.invokevirtual 100, 3) := by decide +kernel
theorem dX11_duel_26 : decode cX11_duel 26 = .ok (.ifCond .eq 6, 3) := by decide +kernel
theorem dX11_duel_29 : decode cX11_duel 29 = .ok (.bipush (-2), 2) := by decide +kernel
theorem dX11_duel_31 : decode cX11_duel 31 = .ok (.ireturn, 1) := by decide +kernel
theorem dX11_duel_32 : decode cX11_duel 32 = .ok (.aload_n 0, 1) := by decide +kernel
theorem dX11_duel_33 : decode cX11_duel 33 = .ok (.invokevirtual 147, 3) := by decide +kernel
theorem dX11_duel_36 : decode cX11_duel 36 = .ok (.aload_n 0, 1) := by decide +kernel
theorem dX11_duel_37 : decode cX11_duel 37 = .ok (.iload_n 1, 1) := by decide +kernel
theorem dX11_duel_38 : decode cX11_duel 38 = .ok (.invokevirtual 150, 3) := by decide +kernel
theorem dX11_duel_41 : decode cX11_duel 41 = .ok (.aload_n 0, 1) := by decide +kernel
theorem dX11_duel_42 : decode cX11_duel 42 = .ok (.iload_n 2, 1) := by decide +kernel
theorem dX11_duel_43 : decode cX11_duel 43 = .ok (.invokevirtual 150, 3) := by decide +kernel
theorem dX11_duel_46 : decode cX11_duel 46 = .ok (.if_icmp .ne 8, 3) := by decide +kernel
theorem dX11_duel_49 : decode cX11_duel 49 = .ok (.bipush (-4), 2) := by decide +kernel
theorem dX11_duel_51 : decode cX11_duel 51 = .ok (.goto 21, 3) := by decide +kernel
theorem dX11_duel_54 : decode cX11_duel 54 = .ok (.aload_n 0, 1) := by decide +kernel
theorem dX11_duel_55 : decode cX11_duel 55 = .ok (.iload_n 1, 1) := by decide +kernel
theorem dX11_duel_56 : decode cX11_duel 56 = .ok (.invokevirtual 150, 3) := by decide +kernel
theorem dX11_duel_59 : decode cX11_duel 59 = .ok (.aload_n 0, 1) := by decide +kernel
theorem dX11_duel_60 : decode cX11_duel 60 = .ok (.iload_n 2, 1) := by decide +kernel
theorem dX11_duel_61 : decode cX11_duel 61 = .ok (.invokevirtual 150, 3) := by decide +kernel
theorem dX11_duel_64 : decode cX11_duel 64 = .ok (.if_icmp .le 7, 3) := by decide +kernel
theorem dX11_duel_67 : decode cX11_duel 67 = .ok (.iload_n 1, 1) := by decide +kernel
theorem dX11_duel_68 : decode cX11_duel 68 = .ok (.goto 4, 3) := by decide +kernel
theorem dX11_duel_71 : decode cX11_duel 71 = .ok (.iload_n 2, 1) := by decide +kernel
theorem dX11_duel_72 : decode cX11_duel 72 = .ok (.ireturn, 1) := by decide +kernel
theorem dX11_honour_0 : decode cX11_honour 0 = .ok (.aload_n 0, 1) := by decide +kernel
theorem dX11_honour_1 : decode cX11_honour 1 = .ok (.iload_n 1, 1) := by decide +kernel
theorem dX11_honour_2 : decode cX11_honour 2 = .ok (.invokevirtual 115, 3) := by decide +kernel
theorem dX11_honour_5 : decode cX11_honour 5 = .ok (.ifCond .ne 5, 3) := by decide +kernel
theorem dX11_honour_8 : decode cX11_honour 8 = .ok (.iconst (-1), 1) := by decide +kernel
theorem dX11_honour_9 : decode cX11_honour 9 = .ok (.ireturn, 1) := by decide +kernel
theorem dX11_honour_10 : decode cX11_honour 10 = .ok (.aload_n 0, 1) := by decide +kernel
theorem dX11_honour_11 : decode cX11_honour 11 = .ok (.iconst 0, 1) := by decide +kernel
theorem dX11_honour_12 : decode cX11_honour 12 = .ok (.iload_n 1, 1) := by decide +kernel
theorem dX11_honour_13 : decode cX11_honour 13 = .ok (.invokevirtual 100, 3) := by decide +kernel
theorem dX11_honour_16 : decode cX11_honour 16 = .ok (.ifCond .eq 6, 3) := by decide +kernel
theorem dX11_honour_19 : decode cX11_honour 19 = .ok (.bipush (-2), 2) := by decide +kernel
theorem dX11_honour_21 : decode cX11_honour 21 = .ok (.ireturn, 1) := by decide +kernel
theorem dX11_honour_22 : decode cX11_honour 22 = .ok (.aload_n 0, 1) := by decide +kernel
theorem dX11_honour_23 : decode cX11_honour 23 = .ok (.invokevirtual 147, 3) := by decide +kernel
theorem dX11_honour_26 : decode cX11_honour 26 = .ok (.bipush 10, 2) := by decide +kernel
theorem dX11_honour_28 : decode cX11_honour 28 = .ok (.istore_n 2, 1) := by decide +kernel
theorem dX11_honour_29 : decode cX11_honour 29 = .ok (.iconst 0, 1) := by decide +kernel
theorem dX11_honour_30 : decode cX11_honour 30 = .ok (.istore_n 3, 1) := by decide +kernel
theorem dX11_honour_31 : decode cX11_honour 31 = .ok (.iload_n 3, 1) := by decide +kernel
theorem dX11_honour_32 : decode cX11_honour 32 = .ok (.aload_n 0, 1) := by decide +kernel
theorem dX11_honour_33 : decode cX11_honour 33 = .ok (.getfield 7, 3) := by decide +kernel
theorem dX11_honour_36 : decode cX11_honour 36 = .ok (.iconst 1, 1) := by decide +kernel
theorem dX11_honour_37 : decode cX11_honour 37 = .ok (.iaload, 1) := by decide +kernel
theorem dX11_honour_38 : decode cX11_honour 38 = .ok (.if_icmp .ge 56, 3) := by decide +kernel
theorem dX11_honour_41 : decode cX11_honour 41 = .ok (.aload_n 0, 1) := by decide +kernel
theorem dX11_honour_42 : decode cX11_honour 42 = .ok (.iconst 0, 1) := by decide +kernel
theorem dX11_honour_43 : decode cX11_honour 43 = .ok (.iload_n 3, 1) := by decide +kernel
theorem dX11_honour_44 : decode cX11_honour 44 = .ok (.invokevirtual 100, 3) := by decide +kernel
theorem dX11_honour_47 : decode cX11_honour 47 = .ok (.ifCond .ne 41, 3) := by decide +kernel
theorem dX11_honour_50 : decode cX11_honour 50 = .ok (.iload_n 2, 1) := by decide +kernel
theorem dX11_honour_51 : decode cX11_honour 51 = .ok (.aload_n 0, 1) := by decide +kernel
theorem dX11_honour_52 : decode cX11_honour 52 = .ok (.iload_n 1, 1) := by decide +kernel
theorem dX11_honour_53 : decode cX11_honour 53 = .ok (.invokevirtual 150, 3) := by decide +kernel
theorem dX11_honour_56 : decode cX11_honour 56 = .ok (.aload_n 0, 1) := by decide +kernel
theorem dX11_honour_57 : decode cX11_honour 57 = .ok (.iload_n 3, 1) := by decide +kernel
theorem dX11_honour_58 : decode cX11_honour 58 = .ok (.invokevirtual 150, 3) := by decide +kernel
theorem dX11_honour_61 : decode cX11_honour 61 = .ok (.if_icmp .le 7, 3) := by decide +kernel
theorem dX11_honour_64 : decode cX11_honour 64 = .ok (.iconst 1, 1) := by decide +kernel
theorem dX11_honour_65 : decode cX11_honour 65 = .ok (.goto 21, 3) := by decide +kernel
theorem dX11_honour_68 : decode cX11_honour 68 = .ok (.aload_n 0, 1) := by decide +kernel
theorem dX11_honour_69 : decode cX11_honour 69 = .ok (.iload_n 1, 1) := by decide +kernel
theorem dX11_honour_70 : decode cX11_honour 70 = .ok (.invokevirtual 150, 3) := by decide +kernel
theorem dX11_honour_73 : decode cX11_honour 73 = .ok (.aload_n 0, 1) := by decide +kernel
theorem dX11_honour_74 : decode cX11_honour 74 = .ok (.iload_n 3, 1) := by decide +kernel
theorem dX11_honour_75 : decode cX11_honour 75 = .ok (.invokevirtual 150, 3) := by decide +kernel
theorem dX11_honour_78 : decode cX11_honour 78 = .ok (.if_icmp .ge 7, 3) := by decide +kernel
theorem dX11_honour_81 : decode cX11_honour 81 = .ok (.iconst (-1), 1) := by decide +kernel
theorem dX11_honour_82 : decode cX11_honour 82 = .ok (.goto 4, 3) := by decide +kernel
theorem dX11_honour_85 : decode cX11_honour 85 = .ok (.iconst 0, 1) := by decide +kernel
theorem dX11_honour_86 : decode cX11_honour 86 = .ok (.iadd, 1) := by decide +kernel
theorem dX11_honour_87 : decode cX11_honour 87 = .ok (.istore_n 2, 1) := by decide +kernel
theorem dX11_honour_88 : decode cX11_honour 88 = .ok (.iinc 3 1, 3) := by decide +kernel
theorem dX11_honour_91 : decode cX11_honour 91 = .ok (.goto (-60), 3) := by decide +kernel
theorem dX11_honour_94 : decode cX11_honour 94 = .ok (.iload_n 2, 1) := by decide +kernel
theorem dX11_honour_95 : decode cX11_honour 95 = .ok (.ireturn, 1) := by decide +kernel
theorem dX11_sitsBy_0 : decode cX11_sitsBy 0 = .ok (.aload_n 0, 1) := by decide +kernel
theorem dX11_sitsBy_1 : decode cX11_sitsBy 1 = .ok (.iconst 0, 1) := by decide +kernel
theorem dX11_sitsBy_2 : decode cX11_sitsBy 2 = .ok (.sipush 219, 3) := by decide +kernel
theorem dX11_sitsBy_5 : decode cX11_sitsBy 5 = .ok (.invokevirtual 90, 3) := by decide +kernel
theorem dX11_sitsBy_8 : decode cX11_sitsBy 8 = .ok (.iconst 0, 1) := by decide +kernel
theorem dX11_sitsBy_9 : decode cX11_sitsBy 9 = .ok (.istore 4, 2) := by decide +kernel
theorem dX11_sitsBy_11 : decode cX11_sitsBy 11 = .ok (.iconst 0, 1) := by decide +kernel
theorem dX11_sitsBy_12 : decode cX11_sitsBy 12 = .ok (.istore 5, 2) := by decide +kernel
theorem dX11_sitsBy_14 : decode cX11_sitsBy 14 = .ok (.iload 5, 2) := by decide +kernel
theorem dX11_sitsBy_16 : decode cX11_sitsBy 16 = .ok (.iload_n 3, 1) := by decide +kernel
theorem dX11_sitsBy_17 : decode cX11_sitsBy 17 = .ok (.if_icmp .ge 54, 3) := by decide +kernel
theorem dX11_sitsBy_20 : decode cX11_sitsBy 20 = .ok (.iload_n 2, 1) := by decide +kernel
theorem dX11_sitsBy_21 : decode cX11_sitsBy 21 = .ok (.iload 5, 2) := by decide +kernel
theorem dX11_sitsBy_23 : decode cX11_sitsBy 23 = .ok (.invokestatic 156, 3) := by decide +kernel
theorem dX11_sitsBy_26 : decode cX11_sitsBy 26 = .ok (.ifCond .eq 11, 3) := by decide +kernel
theorem dX11_sitsBy_29 : decode cX11_sitsBy 29 = .ok (.aload_n 0, 1) := by decide +kernel
theorem dX11_sitsBy_30 : decode cX11_sitsBy 30 = .ok (.sipush 219, 3) := by decide +kernel
theorem dX11_sitsBy_33 : decode cX11_sitsBy 33 = .ok (.iload_n 1, 1) := by decide +kernel
theorem dX11_sitsBy_34 : decode cX11_sitsBy 34 = .ok (.invokevirtual 136, 3) := by decide +kernel
theorem dX11_sitsBy_37 : decode cX11_sitsBy 37 = .ok (.aload_n 0, 1) := by decide +kernel
theorem dX11_sitsBy_38 : decode cX11_sitsBy 38 = .ok (.sipush 219, 3) := by decide +kernel
theorem dX11_sitsBy_41 : decode cX11_sitsBy 41 = .ok (.invokevirtual 129, 3) := by decide +kernel
theorem dX11_sitsBy_44 : decode cX11_sitsBy 44 = .ok (.iload 4, 2) := by decide +kernel
theorem dX11_sitsBy_46 : decode cX11_sitsBy 46 = .ok (.aload_n 0, 1) := by decide +kernel
theorem dX11_sitsBy_47 : decode cX11_sitsBy 47 = .ok (.sipush 219, 3) := by decide +kernel
theorem dX11_sitsBy_50 : decode cX11_sitsBy 50 = .ok (.iload_n 1, 1) := by decide +kernel
theorem dX11_sitsBy_51 : decode cX11_sitsBy 51 = .ok (.invokevirtual 100, 3) := by decide +kernel
theorem dX11_sitsBy_54 : decode cX11_sitsBy 54 = .ok (.ifCond .eq 7, 3) := by decide +kernel
theorem dX11_sitsBy_57 : decode cX11_sitsBy 57 = .ok (.iconst 0, 1) := by decide +kernel
theorem dX11_sitsBy_58 : decode cX11_sitsBy 58 = .ok (.goto 4, 3) := by decide +kernel
theorem dX11_sitsBy_61 : decode cX11_sitsBy 61 = .ok (.iconst 1, 1) := by decide +kernel
theorem dX11_sitsBy_62 : decode cX11_sitsBy 62 = .ok (.iadd, 1) := by decide +kernel
theorem dX11_sitsBy_63 : decode cX11_sitsBy 63 = .ok (.istore 4, 2) := by decide +kernel
theorem dX11_sitsBy_65 : decode cX11_sitsBy 65 = .ok (.iinc 5 1, 3) := by decide +kernel
theorem dX11_sitsBy_68 : decode cX11_sitsBy 68 = .ok (.goto (-54), 3) := by decide +kernel
theorem dX11_sitsBy_71 : decode cX11_sitsBy 71 = .ok (.iload 4, 2) := by decide +kernel
theorem dX11_sitsBy_73 : decode cX11_sitsBy 73 = .ok (.ireturn, 1) := by decide +kernel
theorem dX11_eat_0 : decode cX11_eat 0 = .ok (.aload_n 0, 1) := by decide +kernel
theorem dX11_eat_1 : decode cX11_eat 1 = .ok (.iload_n 1, 1) := by decide +kernel
theorem dX11_eat_2 : decode cX11_eat 2 = .ok (.invokevirtual 115, 3) := by decide +kernel
theorem dX11_eat_5 : decode cX11_eat 5 = .ok (.ifCond .eq 25, 3) := by decide +kernel
theorem dX11_eat_8 : decode cX11_eat 8 = .ok (.iload_n 2, 1) := by decide +kernel
theorem dX11_eat_9 : decode cX11_eat 9 = .ok (.i2l, 1) := by decide +kernel
theorem dX11_eat_10 : decode cX11_eat 10 = .ok (.lconst 1, 1) := by decide +kernel
theorem dX11_eat_11 : decode cX11_eat 11 = .ok (.ldc2_w 159, 3) := by decide +kernel
theorem dX11_eat_14 : decode cX11_eat 14 = .ok (.invokestatic 42, 3) := by decide +kernel
theorem dX11_eat_17 : decode cX11_eat 17 = .ok (.ifCond .eq 13, 3) := by decide +kernel
theorem dX11_eat_20 : decode cX11_eat 20 = .ok (.iload_n 3, 1) := by decide +kernel
theorem dX11_eat_21 : decode cX11_eat 21 = .ok (.i2l, 1) := by decide +kernel
theorem dX11_eat_22 : decode cX11_eat 22 = .ok (.lconst 0, 1) := by decide +kernel
theorem dX11_eat_23 : decode cX11_eat 23 = .ok (.lconst 1, 1) := by decide +kernel
theorem dX11_eat_24 : decode cX11_eat 24 = .ok (.invokestatic 42, 3) := by decide +kernel
theorem dX11_eat_27 : decode cX11_eat 27 = .ok (.ifCond .ne 5, 3) := by decide +kernel
theorem dX11_eat_30 : decode cX11_eat 30 = .ok (.iconst (-1), 1) := by decide +kernel
theorem dX11_eat_31 : decode cX11_eat 31 = .ok (.ireturn, 1) := by decide +kernel
theorem dX11_eat_32 : decode cX11_eat 32 = .ok (.aload_n 0, 1) := by decide +kernel
theorem dX11_eat_33 : decode cX11_eat 33 = .ok (.iconst 0, 1) := by decide +kernel
theorem dX11_eat_34 : decode cX11_eat 34 = .ok (.iload_n 1, 1) := by decide +kernel
theorem dX11_eat_35 : decode cX11_eat 35 = .ok (.invokevirtual 100, 3) := by decide +kernel
theorem dX11_eat_38 : decode cX11_eat 38 = .ok (.ifCond .eq 6, 3) := by decide +kernel
theorem dX11_eat_41 : decode cX11_eat 41 = .ok (.bipush (-2), 2) := by decide +kernel
theorem dX11_eat_43 : decode cX11_eat 43 = .ok (.ireturn, 1) := by decide +kernel
theorem dX11_eat_44 : decode cX11_eat 44 = .ok (.iconst 0, 1) := by decide +kernel
theorem dX11_eat_45 : decode cX11_eat 45 = .ok (.istore 4, 2) := by decide +kernel
theorem dX11_eat_47 : decode cX11_eat 47 = .ok (.iconst (-1), 1) := by decide +kernel
theorem dX11_eat_48 : decode cX11_eat 48 = .ok (.istore 5, 2) := by decide +kernel
theorem dX11_eat_50 : decode cX11_eat 50 = .ok (.iconst 0, 1) := by decide +kernel
theorem dX11_eat_51 : decode cX11_eat 51 = .ok (.istore 6, 2) := by decide +kernel
theorem dX11_eat_53 : decode cX11_eat 53 = .ok (.iload 6, 2) := by decide +kernel
theorem dX11_eat_55 : decode cX11_eat 55 = .ok (.iconst 1, 1) := by decide +kernel
theorem dX11_eat_56 : decode cX11_eat 56 = .ok (.iload_n 2, 1) := by decide +kernel
theorem dX11_eat_57 : decode cX11_eat 57 = .ok (.ishl, 1) := by decide +kernel
theorem dX11_eat_58 : decode cX11_eat 58 = .ok (.if_icmp .ge 98, 3) := by decide +kernel
theorem dX11_eat_61 : decode cX11_eat 61 = .ok (.aload_n 0, 1) := by decide +kernel
theorem dX11_eat_62 : decode cX11_eat 62 = .ok (.iload_n 1, 1) := by decide +kernel
theorem dX11_eat_63 : decode cX11_eat 63 = .ok (.iload 6, 2) := by decide +kernel
theorem dX11_eat_65 : decode cX11_eat 65 = .ok (.iload_n 2, 1) := by decide +kernel
theorem dX11_eat_66 : decode cX11_eat 66 = .ok (.invokevirtual 161, 3) := by decide +kernel
theorem dX11_eat_69 : decode cX11_eat 69 = .ok (.istore 7, 2) := by decide +kernel
theorem dX11_eat_71 : decode cX11_eat 71 = .ok (.iload 6, 2) := by decide +kernel
theorem dX11_eat_73 : decode cX11_eat 73 = .ok (.invokestatic 164, 3) := by decide +kernel
theorem dX11_eat_76 : decode cX11_eat 76 = .ok (.aload_n 0, 1) := by decide +kernel
theorem dX11_eat_77 : decode cX11_eat 77 = .ok (.getfield 7, 3) := by decide +kernel
theorem dX11_eat_80 : decode cX11_eat 80 = .ok (.bipush 43, 2) := by decide +kernel
theorem dX11_eat_82 : decode cX11_eat 82 = .ok (.iload_n 1, 1) := by decide +kernel
theorem dX11_eat_83 : decode cX11_eat 83 = .ok (.iadd, 1) := by decide +kernel
theorem dX11_eat_84 : decode cX11_eat 84 = .ok (.iaload, 1) := by decide +kernel
theorem dX11_eat_85 : decode cX11_eat 85 = .ok (.if_icmp .gt 34, 3) := by decide +kernel
theorem dX11_eat_88 : decode cX11_eat 88 = .ok (.iload 7, 2) := by decide +kernel
theorem dX11_eat_90 : decode cX11_eat 90 = .ok (.iload 5, 2) := by decide +kernel
theorem dX11_eat_92 : decode cX11_eat 92 = .ok (.if_icmp .gt 23, 3) := by decide +kernel
theorem dX11_eat_95 : decode cX11_eat 95 = .ok (.iload 7, 2) := by decide +kernel
theorem dX11_eat_97 : decode cX11_eat 97 = .ok (.iload 5, 2) := by decide +kernel
theorem dX11_eat_99 : decode cX11_eat 99 = .ok (.if_icmp .ne 20, 3) := by decide +kernel
theorem dX11_eat_102 : decode cX11_eat 102 = .ok (.iload 6, 2) := by decide +kernel
theorem dX11_eat_104 : decode cX11_eat 104 = .ok (.invokestatic 164, 3) := by decide +kernel
theorem dX11_eat_107 : decode cX11_eat 107 = .ok (.iload 4, 2) := by decide +kernel
theorem dX11_eat_109 : decode cX11_eat 109 = .ok (.invokestatic 164, 3) := by decide +kernel
theorem dX11_eat_112 : decode cX11_eat 112 = .ok (.if_icmp .ge 7, 3) := by decide +kernel
theorem dX11_eat_115 : decode cX11_eat 115 = .ok (.iconst 1, 1) := by decide +kernel
theorem dX11_eat_116 : decode cX11_eat 116 = .ok (.goto 4, 3) := by decide +kernel
theorem dX11_eat_119 : decode cX11_eat 119 = .ok (.iconst 0, 1) := by decide +kernel
theorem dX11_eat_120 : decode cX11_eat 120 = .ok (.istore 8, 2) := by decide +kernel
theorem dX11_eat_122 : decode cX11_eat 122 = .ok (.iload 8, 2) := by decide +kernel
theorem dX11_eat_124 : decode cX11_eat 124 = .ok (.ifCond .eq 8, 3) := by decide +kernel
theorem dX11_eat_127 : decode cX11_eat 127 = .ok (.iload 6, 2) := by decide +kernel
theorem dX11_eat_129 : decode cX11_eat 129 = .ok (.goto 5, 3) := by decide +kernel
theorem dX11_eat_132 : decode cX11_eat 132 = .ok (.iload 4, 2) := by decide +kernel
theorem dX11_eat_134 : decode cX11_eat 134 = .ok (.istore 4, 2) := by decide +kernel
theorem dX11_eat_136 : decode cX11_eat 136 = .ok (.iload 8, 2) := by decide +kernel
theorem dX11_eat_138 : decode cX11_eat 138 = .ok (.ifCond .eq 8, 3) := by decide +kernel
theorem dX11_eat_141 : decode cX11_eat 141 = .ok (.iload 7, 2) := by decide +kernel
theorem dX11_eat_143 : decode cX11_eat 143 = .ok (.goto 5, 3) := by decide +kernel
theorem dX11_eat_146 : decode cX11_eat 146 = .ok (.iload 5, 2) := by decide +kernel
theorem dX11_eat_148 : decode cX11_eat 148 = .ok (.istore 5, 2) := by decide +kernel
theorem dX11_eat_150 : decode cX11_eat 150 = .ok (.iinc 6 1, 3) := by decide +kernel
theorem dX11_eat_153 : decode cX11_eat 153 = .ok (.goto (-100), 3) := by decide +kernel
theorem dX11_eat_156 : decode cX11_eat 156 = .ok (.iload_n 3, 1) := by decide +kernel
theorem dX11_eat_157 : decode cX11_eat 157 = .ok (.ifCond .ne 8, 3) := by decide +kernel
theorem dX11_eat_160 : decode cX11_eat 160 = .ok (.iload 5, 2) := by decide +kernel
theorem dX11_eat_162 : decode cX11_eat 162 = .ok (.goto 5, 3) := by decide +kernel
theorem dX11_eat_165 : decode cX11_eat 165 = .ok (.iload 4, 2) := by decide +kernel
theorem dX11_eat_167 : decode cX11_eat 167 = .ok (.ireturn, 1) := by decide +kernel
theorem dX11_train_0 : decode cX11_train 0 = .ok (.aload_n 0, 1) := by decide +kernel
theorem dX11_train_1 : decode cX11_train 1 = .ok (.iload_n 1, 1) := by decide +kernel
theorem dX11_train_2 : decode cX11_train 2 = .ok (.invokevirtual 115, 3) := by decide +kernel
theorem dX11_train_5 : decode cX11_train 5 = .ok (.ifCond .eq 27, 3) := by decide +kernel
theorem dX11_train_8 : decode cX11_train 8 = .ok (.iload_n 2, 1) := by decide +kernel
theorem dX11_train_9 : decode cX11_train 9 = .ok (.i2l, 1) := by decide +kernel
theorem dX11_train_10 : decode cX11_train 10 = .ok (.lconst 1, 1) := by decide +kernel
theorem dX11_train_11 : decode cX11_train 11 = .ok (.ldc2_w 167, 3) := by decide +kernel
theorem dX11_train_14 : decode cX11_train 14 = .ok (.invokestatic 42, 3) := by decide +kernel
theorem dX11_train_17 : decode cX11_train 17 = .ok (.ifCond .eq 15, 3) := by decide +kernel
theorem dX11_train_20 : decode cX11_train 20 = .ok (.iload_n 3, 1) := by decide +kernel
theorem dX11_train_21 : decode cX11_train 21 = .ok (.i2l, 1) := by decide +kernel
theorem dX11_train_22 : decode cX11_train 22 = .ok (.lconst 0, 1) := by decide +kernel
theorem dX11_train_23 : decode cX11_train 23 = .ok (.ldc2_w 169, 3) := by decide +kernel
theorem dX11_train_26 : decode cX11_train 26 = .ok (.invokestatic 42, 3) := by decide +kernel
theorem dX11_train_29 : decode cX11_train 29 = .ok (.ifCond .ne 5, 3) := by decide +kernel
theorem dX11_train_32 : decode cX11_train 32 = .ok (.iconst (-1), 1) := by decide +kernel
theorem dX11_train_33 : decode cX11_train 33 = .ok (.ireturn, 1) := by decide +kernel
theorem dX11_train_34 : decode cX11_train 34 = .ok (.aload_n 0, 1) := by decide +kernel
theorem dX11_train_35 : decode cX11_train 35 = .ok (.iconst 0, 1) := by decide +kernel
theorem dX11_train_36 : decode cX11_train 36 = .ok (.iload_n 1, 1) := by decide +kernel
theorem dX11_train_37 : decode cX11_train 37 = .ok (.invokevirtual 100, 3) := by decide +kernel
theorem dX11_train_40 : decode cX11_train 40 = .ok (.ifCond .eq 6, 3) := by decide +kernel
theorem dX11_train_43 : decode cX11_train 43 = .ok (.bipush (-2), 2) := by decide +kernel
theorem dX11_train_45 : decode cX11_train 45 = .ok (.ireturn, 1) := by decide +kernel
theorem dX11_train_46 : decode cX11_train 46 = .ok (.aload_n 0, 1) := by decide +kernel
theorem dX11_train_47 : decode cX11_train 47 = .ok (.iconst 0, 1) := by decide +kernel
theorem dX11_train_48 : decode cX11_train 48 = .ok (.sipush 219, 3) := by decide +kernel
theorem dX11_train_51 : decode cX11_train 51 = .ok (.invokevirtual 90, 3) := by decide +kernel
theorem dX11_train_54 : decode cX11_train 54 = .ok (.iconst 0, 1) := by decide +kernel
theorem dX11_train_55 : decode cX11_train 55 = .ok (.istore 4, 2) := by decide +kernel
theorem dX11_train_57 : decode cX11_train 57 = .ok (.iload 4, 2) := by decide +kernel
theorem dX11_train_59 : decode cX11_train 59 = .ok (.iload_n 2, 1) := by decide +kernel
theorem dX11_train_60 : decode cX11_train 60 = .ok (.if_icmp .ge 31, 3) := by decide +kernel
theorem dX11_train_63 : decode cX11_train 63 = .ok (.aload_n 0, 1) := by decide +kernel
theorem dX11_train_64 : decode cX11_train 64 = .ok (.sipush 219, 3) := by decide +kernel
theorem dX11_train_67 : decode cX11_train 67 = .ok (.invokevirtual 129, 3) := by decide +kernel
theorem dX11_train_70 : decode cX11_train 70 = .ok (.aload_n 0, 1) := by decide +kernel
theorem dX11_train_71 : decode cX11_train 71 = .ok (.getfield 30, 3) := by decide +kernel
theorem dX11_train_74 : decode cX11_train 74 = .ok (.iload 4, 2) := by decide +kernel
theorem dX11_train_76 : decode cX11_train 76 = .ok (.aload_n 0, 1) := by decide +kernel
theorem dX11_train_77 : decode cX11_train 77 = .ok (.getfield 7, 3) := by decide +kernel
theorem dX11_train_80 : decode cX11_train 80 = .ok (.sipush 224, 3) := by decide +kernel
theorem dX11_train_83 : decode cX11_train 83 = .ok (.iaload, 1) := by decide +kernel
theorem dX11_train_84 : decode cX11_train 84 = .ok (.iastore, 1) := by decide +kernel
theorem dX11_train_85 : decode cX11_train 85 = .ok (.iinc 4 1, 3) := by decide +kernel
theorem dX11_train_88 : decode cX11_train 88 = .ok (.goto (-31), 3) := by decide +kernel
theorem dX11_train_91 : decode cX11_train 91 = .ok (.ldc 146, 2) := by decide +kernel
theorem dX11_train_93 : decode cX11_train 93 = .ok (.istore 4, 2) := by decide +kernel
theorem dX11_train_95 : decode cX11_train 95 = .ok (.iconst 0, 1) := by decide +kernel
theorem dX11_train_96 : decode cX11_train 96 = .ok (.istore 5, 2) := by decide +kernel
theorem dX11_train_98 : decode cX11_train 98 = .ok (.iconst 0, 1) := by decide +kernel
theorem dX11_train_99 : decode cX11_train 99 = .ok (.istore 6, 2) := by decide +kernel
theorem dX11_train_101 : decode cX11_train 101 = .ok (.iconst 0, 1) := by decide +kernel
theorem dX11_train_102 : decode cX11_train 102 = .ok (.istore 7, 2) := by decide +kernel
theorem dX11_train_104 : decode cX11_train 104 = .ok (.iconst 0, 1) := by decide +kernel
theorem dX11_train_105 : decode cX11_train 105 = .ok (.istore 8, 2) := by decide +kernel
theorem dX11_train_107 : decode cX11_train 107 = .ok (.iload 8, 2) := by decide +kernel
theorem dX11_train_109 : decode cX11_train 109 = .ok (.bipush 20, 2) := by decide +kernel
theorem dX11_train_111 : decode cX11_train 111 = .ok (.if_icmp .gt 126, 3) := by decide +kernel
theorem dX11_train_114 : decode cX11_train 114 = .ok (.aload_n 0, 1) := by decide +kernel
theorem dX11_train_115 : decode cX11_train 115 = .ok (.getfield 7, 3) := by decide +kernel
theorem dX11_train_118 : decode cX11_train 118 = .ok (.bipush 13, 2) := by decide +kernel
theorem dX11_train_120 : decode cX11_train 120 = .ok (.iload_n 1, 1) := by decide +kernel
theorem dX11_train_121 : decode cX11_train 121 = .ok (.iadd, 1) := by decide +kernel
theorem dX11_train_122 : decode cX11_train 122 = .ok (.iaload, 1) := by decide +kernel
theorem dX11_train_123 : decode cX11_train 123 = .ok (.iload 8, 2) := by decide +kernel
theorem dX11_train_125 : decode cX11_train 125 = .ok (.iadd, 1) := by decide +kernel
theorem dX11_train_126 : decode cX11_train 126 = .ok (.bipush 99, 2) := by decide +kernel
theorem dX11_train_128 : decode cX11_train 128 = .ok (.if_icmp .gt 109, 3) := by decide +kernel
theorem dX11_train_131 : decode cX11_train 131 = .ok (.iconst 0, 1) := by decide +kernel
theorem dX11_train_132 : decode cX11_train 132 = .ok (.istore 9, 2) := by decide +kernel
theorem dX11_train_134 : decode cX11_train 134 = .ok (.iload 9, 2) := by decide +kernel
theorem dX11_train_136 : decode cX11_train 136 = .ok (.aload_n 0, 1) := by decide +kernel
theorem dX11_train_137 : decode cX11_train 137 = .ok (.getfield 7, 3) := by decide +kernel
theorem dX11_train_140 : decode cX11_train 140 = .ok (.bipush 19, 2) := by decide +kernel
theorem dX11_train_142 : decode cX11_train 142 = .ok (.iload_n 1, 1) := by decide +kernel
theorem dX11_train_143 : decode cX11_train 143 = .ok (.iadd, 1) := by decide +kernel
theorem dX11_train_144 : decode cX11_train 144 = .ok (.iaload, 1) := by decide +kernel
theorem dX11_train_145 : decode cX11_train 145 = .ok (.if_icmp .gt 86, 3) := by decide +kernel
theorem dX11_train_148 : decode cX11_train 148 = .ok (.iconst 0, 1) := by decide +kernel
theorem dX11_train_149 : decode cX11_train 149 = .ok (.istore 10, 2) := by decide +kernel
theorem dX11_train_151 : decode cX11_train 151 = .ok (.iload 10, 2) := by decide +kernel
theorem dX11_train_153 : decode cX11_train 153 = .ok (.aload_n 0, 1) := by decide +kernel
theorem dX11_train_154 : decode cX11_train 154 = .ok (.getfield 7, 3) := by decide +kernel
theorem dX11_train_157 : decode cX11_train 157 = .ok (.bipush 25, 2) := by decide +kernel
theorem dX11_train_159 : decode cX11_train 159 = .ok (.iload_n 1, 1) := by decide +kernel
theorem dX11_train_160 : decode cX11_train 160 = .ok (.iadd, 1) := by decide +kernel
theorem dX11_train_161 : decode cX11_train 161 = .ok (.iaload, 1) := by decide +kernel
theorem dX11_train_162 : decode cX11_train 162 = .ok (.if_icmp .gt 63, 3) := by decide +kernel
theorem dX11_train_165 : decode cX11_train 165 = .ok (.iconst 2, 1) := by decide +kernel
theorem dX11_train_166 : decode cX11_train 166 = .ok (.iload 8, 2) := by decide +kernel
theorem dX11_train_168 : decode cX11_train 168 = .ok (.imul, 1) := by decide +kernel
theorem dX11_train_169 : decode cX11_train 169 = .ok (.iconst 5, 1) := by decide +kernel
theorem dX11_train_170 : decode cX11_train 170 = .ok (.iload 9, 2) := by decide +kernel
theorem dX11_train_172 : decode cX11_train 172 = .ok (.imul, 1) := by decide +kernel
theorem dX11_train_173 : decode cX11_train 173 = .ok (.iadd, 1) := by decide +kernel
theorem dX11_train_174 : decode cX11_train 174 = .ok (.iconst 3, 1) := by decide +kernel
theorem dX11_train_175 : decode cX11_train 175 = .ok (.iload 10, 2) := by decide +kernel
theorem dX11_train_177 : decode cX11_train 177 = .ok (.imul, 1) := by decide +kernel
theorem dX11_train_178 : decode cX11_train 178 = .ok (.iadd, 1) := by decide +kernel
theorem dX11_train_179 : decode cX11_train 179 = .ok (.istore 11, 2) := by decide +kernel
theorem dX11_train_181 : decode cX11_train 181 = .ok (.iload 11, 2) := by decide +kernel
theorem dX11_train_183 : decode cX11_train 183 = .ok (.iload 4, 2) := by decide +kernel
theorem dX11_train_185 : decode cX11_train 185 = .ok (.if_icmp .ge 34, 3) := by decide +kernel
theorem dX11_train_188 : decode cX11_train 188 = .ok (.aload_n 0, 1) := by decide +kernel
theorem dX11_train_189 : decode cX11_train 189 = .ok (.iload_n 1, 1) := by decide +kernel
theorem dX11_train_190 : decode cX11_train 190 = .ok (.iload_n 2, 1) := by decide +kernel
theorem dX11_train_191 : decode cX11_train 191 = .ok (.iload 8, 2) := by decide +kernel
theorem dX11_train_193 : decode cX11_train 193 = .ok (.iload 9, 2) := by decide +kernel
theorem dX11_train_195 : decode cX11_train 195 = .ok (.iload 10, 2) := by decide +kernel
theorem dX11_train_197 : decode cX11_train 197 = .ok (.invokevirtual 171, 3) := by decide +kernel
theorem dX11_train_200 : decode cX11_train 200 = .ok (.ifCond .eq 19, 3) := by decide +kernel
theorem dX11_train_203 : decode cX11_train 203 = .ok (.iload 11, 2) := by decide +kernel
theorem dX11_train_205 : decode cX11_train 205 = .ok (.istore 4, 2) := by decide +kernel
theorem dX11_train_207 : decode cX11_train 207 = .ok (.iload 8, 2) := by decide +kernel
theorem dX11_train_209 : decode cX11_train 209 = .ok (.istore 5, 2) := by decide +kernel
theorem dX11_train_211 : decode cX11_train 211 = .ok (.iload 9, 2) := by decide +kernel
theorem dX11_train_213 : decode cX11_train 213 = .ok (.istore 6, 2) := by decide +kernel
theorem dX11_train_215 : decode cX11_train 215 = .ok (.iload 10, 2) := by decide +kernel
theorem dX11_train_217 : decode cX11_train 217 = .ok (.istore 7, 2) := by decide +kernel
theorem dX11_train_219 : decode cX11_train 219 = .ok (.iinc 10 1, 3) := by decide +kernel
theorem dX11_train_222 : decode cX11_train 222 = .ok (.goto (-71), 3) := by decide +kernel
theorem dX11_train_225 : decode cX11_train 225 = .ok (.iinc 9 1, 3) := by decide +kernel
theorem dX11_train_228 : decode cX11_train 228 = .ok (.goto (-94), 3) := by decide +kernel
theorem dX11_train_231 : decode cX11_train 231 = .ok (.iinc 8 1, 3) := by decide +kernel
theorem dX11_train_234 : decode cX11_train 234 = .ok (.goto (-127), 3) := by decide +kernel
theorem dX11_train_237 : decode cX11_train 237 = .ok (.iload 4, 2) := by decide +kernel
theorem dX11_train_239 : decode cX11_train 239 = .ok (.ldc 146, 2) := by decide +kernel
theorem dX11_train_241 : decode cX11_train 241 = .ok (.if_icmp .ne 8, 3) := by decide +kernel
theorem dX11_train_244 : decode cX11_train 244 = .ok (.bipush (-4), 2) := by decide +kernel
theorem dX11_train_246 : decode cX11_train 246 = .ok (.goto 34, 3) := by decide +kernel
theorem dX11_train_249 : decode cX11_train 249 = .ok (.iload_n 3, 1) := by decide +kernel
theorem dX11_train_250 : decode cX11_train 250 = .ok (.ifCond .ne 8, 3) := by decide +kernel
theorem dX11_train_253 : decode cX11_train 253 = .ok (.iload 4, 2) := by decide +kernel
theorem dX11_train_255 : decode cX11_train 255 = .ok (.goto 25, 3) := by decide +kernel
theorem dX11_train_258 : decode cX11_train 258 = .ok (.iload_n 3, 1) := by decide +kernel
theorem dX11_train_259 : decode cX11_train 259 = .ok (.iconst 1, 1) := by decide +kernel
theorem dX11_train_260 : decode cX11_train 260 = .ok (.if_icmp .ne 8, 3) := by decide +kernel
theorem dX11_train_263 : decode cX11_train 263 = .ok (.iload 5, 2) := by decide +kernel
theorem dX11_train_265 : decode cX11_train 265 = .ok (.goto 15, 3) := by decide +kernel
theorem dX11_train_268 : decode cX11_train 268 = .ok (.iload_n 3, 1) := by decide +kernel
theorem dX11_train_269 : decode cX11_train 269 = .ok (.iconst 2, 1) := by decide +kernel
theorem dX11_train_270 : decode cX11_train 270 = .ok (.if_icmp .ne 8, 3) := by decide +kernel
theorem dX11_train_273 : decode cX11_train 273 = .ok (.iload 6, 2) := by decide +kernel
theorem dX11_train_275 : decode cX11_train 275 = .ok (.goto 5, 3) := by decide +kernel
theorem dX11_train_278 : decode cX11_train 278 = .ok (.iload 7, 2) := by decide +kernel
theorem dX11_train_280 : decode cX11_train 280 = .ok (.ireturn, 1) := by decide +kernel
theorem dX11_isEnough_0 : decode cX11_isEnough 0 = .ok (.aload_n 0, 1) := by decide +kernel
theorem dX11_isEnough_1 : decode cX11_isEnough 1 = .ok (.iconst 0, 1) := by decide +kernel
theorem dX11_isEnough_2 : decode cX11_isEnough 2 = .ok (.sipush 219, 3) := by decide +kernel
theorem dX11_isEnough_5 : decode cX11_isEnough 5 = .ok (.invokevirtual 90, 3) := by decide +kernel
theorem dX11_isEnough_8 : decode cX11_isEnough 8 = .ok (.aload_n 0, 1) := by decide +kernel
theorem dX11_isEnough_9 : decode cX11_isEnough 9 = .ok (.getfield 7, 3) := by decide +kernel
theorem dX11_isEnough_12 : decode cX11_isEnough 12 = .ok (.sipush 238, 3) := by decide +kernel
theorem dX11_isEnough_15 : decode cX11_isEnough 15 = .ok (.iload_n 1, 1) := by decide +kernel
theorem dX11_isEnough_16 : decode cX11_isEnough 16 = .ok (.iadd, 1) := by decide +kernel
theorem dX11_isEnough_17 : decode cX11_isEnough 17 = .ok (.dup2, 1) := by decide +kernel
theorem dX11_isEnough_18 : decode cX11_isEnough 18 = .ok (.iaload, 1) := by decide +kernel
theorem dX11_isEnough_19 : decode cX11_isEnough 19 = .ok (.iload 4, 2) := by decide +kernel
theorem dX11_isEnough_21 : decode cX11_isEnough 21 = .ok (.isub, 1) := by decide +kernel
theorem dX11_isEnough_22 : decode cX11_isEnough 22 = .ok (.iastore, 1) := by decide +kernel
theorem dX11_isEnough_23 : decode cX11_isEnough 23 = .ok (.aload_n 0, 1) := by decide +kernel
theorem dX11_isEnough_24 : decode cX11_isEnough 24 = .ok (.getfield 7, 3) := by decide +kernel
theorem dX11_isEnough_27 : decode cX11_isEnough 27 = .ok (.sipush 244, 3) := by decide +kernel
theorem dX11_isEnough_30 : decode cX11_isEnough 30 = .ok (.iload_n 1, 1) := by decide +kernel
theorem dX11_isEnough_31 : decode cX11_isEnough 31 = .ok (.iadd, 1) := by decide +kernel
theorem dX11_isEnough_32 : decode cX11_isEnough 32 = .ok (.dup2, 1) := by decide +kernel
theorem dX11_isEnough_33 : decode cX11_isEnough 33 = .ok (.iaload, 1) := by decide +kernel
theorem dX11_isEnough_34 : decode cX11_isEnough 34 = .ok (.iload 5, 2) := by decide +kernel
theorem dX11_isEnough_36 : decode cX11_isEnough 36 = .ok (.isub, 1) := by decide +kernel
theorem dX11_isEnough_37 : decode cX11_isEnough 37 = .ok (.iastore, 1) := by decide +kernel
theorem dX11_isEnough_38 : decode cX11_isEnough 38 = .ok (.aload_n 0, 1) := by decide +kernel
theorem dX11_isEnough_39 : decode cX11_isEnough 39 = .ok (.getfield 7, 3) := by decide +kernel
theorem dX11_isEnough_42 : decode cX11_isEnough 42 = .ok (.bipush 37, 2) := by decide +kernel
theorem dX11_isEnough_44 : decode cX11_isEnough 44 = .ok (.iload_n 1, 1) := by decide +kernel
theorem dX11_isEnough_45 : decode cX11_isEnough 45 = .ok (.iadd, 1) := by decide +kernel
theorem dX11_isEnough_46 : decode cX11_isEnough 46 = .ok (.iaload, 1) := by decide +kernel
theorem dX11_isEnough_47 : decode cX11_isEnough 47 = .ok (.istore 6, 2) := by decide +kernel
theorem dX11_isEnough_49 : decode cX11_isEnough 49 = .ok (.iconst 0, 1) := by decide +kernel
theorem dX11_isEnough_50 : decode cX11_isEnough 50 = .ok (.istore 7, 2) := by decide +kernel
theorem dX11_isEnough_52 : decode cX11_isEnough 52 = .ok (.iload 7, 2) := by decide +kernel
theorem dX11_isEnough_54 : decode cX11_isEnough 54 = .ok (.iload_n 2, 1) := by decide +kernel
theorem dX11_isEnough_55 : decode cX11_isEnough 55 = .ok (.if_icmp .ge 59, 3) := by decide +kernel
theorem dX11_isEnough_58 : decode cX11_isEnough 58 = .ok (.iload 6, 2) := by decide +kernel
theorem dX11_isEnough_60 : decode cX11_isEnough 60 = .ok (.aload_n 0, 1) := by decide +kernel
theorem dX11_isEnough_61 : decode cX11_isEnough 61 = .ok (.sipush 219, 3) := by decide +kernel
theorem dX11_isEnough_64 : decode cX11_isEnough 64 = .ok (.iload_n 1, 1) := by decide +kernel
theorem dX11_isEnough_65 : decode cX11_isEnough 65 = .ok (.aload_n 0, 1) := by decide +kernel
theorem dX11_isEnough_66 : decode cX11_isEnough 66 = .ok (.getfield 30, 3) := by decide +kernel
theorem dX11_isEnough_69 : decode cX11_isEnough 69 = .ok (.iload 7, 2) := by decide +kernel
theorem dX11_isEnough_71 : decode cX11_isEnough 71 = .ok (.iaload, 1) := by decide +kernel
theorem dX11_isEnough_72 : decode cX11_isEnough 72 = .ok (.invokevirtual 104, 3) := by decide +kernel
theorem dX11_isEnough_75 : decode cX11_isEnough 75 = .ok (.iadd, 1) := by decide +kernel
theorem dX11_isEnough_76 : decode cX11_isEnough 76 = .ok (.istore 6, 2) := by decide +kernel
theorem dX11_isEnough_78 : decode cX11_isEnough 78 = .ok (.iload 6, 2) := by decide +kernel
theorem dX11_isEnough_80 : decode cX11_isEnough 80 = .ok (.aload_n 0, 1) := by decide +kernel
theorem dX11_isEnough_81 : decode cX11_isEnough 81 = .ok (.getfield 7, 3) := by decide +kernel
theorem dX11_isEnough_84 : decode cX11_isEnough 84 = .ok (.bipush 13, 2) := by decide +kernel
theorem dX11_isEnough_86 : decode cX11_isEnough 86 = .ok (.iload_n 1, 1) := by decide +kernel
theorem dX11_isEnough_87 : decode cX11_isEnough 87 = .ok (.iadd, 1) := by decide +kernel
theorem dX11_isEnough_88 : decode cX11_isEnough 88 = .ok (.iaload, 1) := by decide +kernel
theorem dX11_isEnough_89 : decode cX11_isEnough 89 = .ok (.iload_n 3, 1) := by decide +kernel
theorem dX11_isEnough_90 : decode cX11_isEnough 90 = .ok (.iadd, 1) := by decide +kernel
theorem dX11_isEnough_91 : decode cX11_isEnough 91 = .ok (.if_icmp .lt 5, 3) := by decide +kernel
theorem dX11_isEnough_94 : decode cX11_isEnough 94 = .ok (.iconst 0, 1) := by decide +kernel
theorem dX11_isEnough_95 : decode cX11_isEnough 95 = .ok (.ireturn, 1) := by decide +kernel
theorem dX11_isEnough_96 : decode cX11_isEnough 96 = .ok (.aload_n 0, 1) := by decide +kernel
theorem dX11_isEnough_97 : decode cX11_isEnough 97 = .ok (.getfield 7, 3) := by decide +kernel
theorem dX11_isEnough_100 : decode cX11_isEnough 100 = .ok (.sipush 223, 3) := by decide +kernel
theorem dX11_isEnough_103 : decode cX11_isEnough 103 = .ok (.dup2, 1) := by decide +kernel
theorem dX11_isEnough_104 : decode cX11_isEnough 104 = .ok (.iaload, 1) := by decide +kernel
theorem dX11_isEnough_105 : decode cX11_isEnough 105 = .ok (.iconst 1, 1) := by decide +kernel
theorem dX11_isEnough_106 : decode cX11_isEnough 106 = .ok (.iadd, 1) := by decide +kernel
theorem dX11_isEnough_107 : decode cX11_isEnough 107 = .ok (.iastore, 1) := by decide +kernel
theorem dX11_isEnough_108 : decode cX11_isEnough 108 = .ok (.iinc 7 1, 3) := by decide +kernel
theorem dX11_isEnough_111 : decode cX11_isEnough 111 = .ok (.goto (-59), 3) := by decide +kernel
theorem dX11_isEnough_114 : decode cX11_isEnough 114 = .ok (.iconst 1, 1) := by decide +kernel
theorem dX11_isEnough_115 : decode cX11_isEnough 115 = .ok (.ireturn, 1) := by decide +kernel
theorem dX11_dusk_0 : decode cX11_dusk 0 = .ok (.iload_n 1, 1) := by decide +kernel
theorem dX11_dusk_1 : decode cX11_dusk 1 = .ok (.i2l, 1) := by decide +kernel
theorem dX11_dusk_2 : decode cX11_dusk 2 = .ok (.lconst 1, 1) := by decide +kernel
theorem dX11_dusk_3 : decode cX11_dusk 3 = .ok (.ldc2_w 167, 3) := by decide +kernel
theorem dX11_dusk_6 : decode cX11_dusk 6 = .ok (.invokestatic 42, 3) := by decide +kernel
theorem dX11_dusk_9 : decode cX11_dusk 9 = .ok (.ifCond .ne 5, 3) := by decide +kernel
theorem dX11_dusk_12 : decode cX11_dusk 12 = .ok (.iconst (-1), 1) := by decide +kernel
theorem dX11_dusk_13 : decode cX11_dusk 13 = .ok (.ireturn, 1) := by decide +kernel
theorem dX11_dusk_14 : decode cX11_dusk 14 = .ok (.aload_n 0, 1) := by decide +kernel
theorem dX11_dusk_15 : decode cX11_dusk 15 = .ok (.getfield 7, 3) := by decide +kernel
theorem dX11_dusk_18 : decode cX11_dusk 18 = .ok (.iconst 0, 1) := by decide +kernel
theorem dX11_dusk_19 : decode cX11_dusk 19 = .ok (.iaload, 1) := by decide +kernel
theorem dX11_dusk_20 : decode cX11_dusk 20 = .ok (.ifCond .ne 6, 3) := by decide +kernel
theorem dX11_dusk_23 : decode cX11_dusk 23 = .ok (.bipush (-2), 2) := by decide +kernel
theorem dX11_dusk_25 : decode cX11_dusk 25 = .ok (.ireturn, 1) := by decide +kernel
theorem dX11_dusk_26 : decode cX11_dusk 26 = .ok (.bipush (-4), 2) := by decide +kernel
theorem dX11_dusk_28 : decode cX11_dusk 28 = .ok (.istore_n 2, 1) := by decide +kernel
theorem dX11_dusk_29 : decode cX11_dusk 29 = .ok (.iconst 1, 1) := by decide +kernel
theorem dX11_dusk_30 : decode cX11_dusk 30 = .ok (.istore_n 3, 1) := by decide +kernel
theorem dX11_dusk_31 : decode cX11_dusk 31 = .ok (.iload_n 3, 1) := by decide +kernel
theorem dX11_dusk_32 : decode cX11_dusk 32 = .ok (.bipush 24, 2) := by decide +kernel
theorem dX11_dusk_34 : decode cX11_dusk 34 = .ok (.if_icmp .gt 48, 3) := by decide +kernel
theorem dX11_dusk_37 : decode cX11_dusk 37 = .ok (.aload_n 0, 1) := by decide +kernel
theorem dX11_dusk_38 : decode cX11_dusk 38 = .ok (.iconst 0, 1) := by decide +kernel
theorem dX11_dusk_39 : decode cX11_dusk 39 = .ok (.sipush 219, 3) := by decide +kernel
theorem dX11_dusk_42 : decode cX11_dusk 42 = .ok (.invokevirtual 90, 3) := by decide +kernel
theorem dX11_dusk_45 : decode cX11_dusk 45 = .ok (.aload_n 0, 1) := by decide +kernel
theorem dX11_dusk_46 : decode cX11_dusk 46 = .ok (.getfield 7, 3) := by decide +kernel
theorem dX11_dusk_49 : decode cX11_dusk 49 = .ok (.sipush 221, 3) := by decide +kernel
theorem dX11_dusk_52 : decode cX11_dusk 52 = .ok (.iload_n 3, 1) := by decide +kernel
theorem dX11_dusk_53 : decode cX11_dusk 53 = .ok (.iastore, 1) := by decide +kernel
theorem dX11_dusk_54 : decode cX11_dusk 54 = .ok (.aload_n 0, 1) := by decide +kernel
theorem dX11_dusk_55 : decode cX11_dusk 55 = .ok (.iload_n 1, 1) := by decide +kernel
theorem dX11_dusk_56 : decode cX11_dusk 56 = .ok (.invokevirtual 143, 3) := by decide +kernel
theorem dX11_dusk_59 : decode cX11_dusk 59 = .ok (.aload_n 0, 1) := by decide +kernel
theorem dX11_dusk_60 : decode cX11_dusk 60 = .ok (.sipush 219, 3) := by decide +kernel
theorem dX11_dusk_63 : decode cX11_dusk 63 = .ok (.invokevirtual 133, 3) := by decide +kernel
theorem dX11_dusk_66 : decode cX11_dusk 66 = .ok (.iconst 1, 1) := by decide +kernel
theorem dX11_dusk_67 : decode cX11_dusk 67 = .ok (.if_icmp .gt 7, 3) := by decide +kernel
theorem dX11_dusk_70 : decode cX11_dusk 70 = .ok (.iload_n 3, 1) := by decide +kernel
theorem dX11_dusk_71 : decode cX11_dusk 71 = .ok (.goto 4, 3) := by decide +kernel
theorem dX11_dusk_74 : decode cX11_dusk 74 = .ok (.iload_n 2, 1) := by decide +kernel
theorem dX11_dusk_75 : decode cX11_dusk 75 = .ok (.istore_n 2, 1) := by decide +kernel
theorem dX11_dusk_76 : decode cX11_dusk 76 = .ok (.iinc 3 1, 3) := by decide +kernel
theorem dX11_dusk_79 : decode cX11_dusk 79 = .ok (.goto (-48), 3) := by decide +kernel
theorem dX11_dusk_82 : decode cX11_dusk 82 = .ok (.iload_n 2, 1) := by decide +kernel
theorem dX11_dusk_83 : decode cX11_dusk 83 = .ok (.ireturn, 1) := by decide +kernel
theorem dX11_findOdds_0 : decode cX11_findOdds 0 = .ok (.aload_n 0, 1) := by decide +kernel
theorem dX11_findOdds_1 : decode cX11_findOdds 1 = .ok (.lconst 0, 1) := by decide +kernel
theorem dX11_findOdds_2 : decode cX11_findOdds 2 = .ok (.putfield 175, 3) := by decide +kernel
theorem dX11_findOdds_5 : decode cX11_findOdds 5 = .ok (.aload_n 0, 1) := by decide +kernel
theorem dX11_findOdds_6 : decode cX11_findOdds 6 = .ok (.lconst 1, 1) := by decide +kernel
theorem dX11_findOdds_7 : decode cX11_findOdds 7 = .ok (.putfield 179, 3) := by decide +kernel
theorem dX11_findOdds_10 : decode cX11_findOdds 10 = .ok (.iconst 0, 1) := by decide +kernel
theorem dX11_findOdds_11 : decode cX11_findOdds 11 = .ok (.istore 5, 2) := by decide +kernel
theorem dX11_findOdds_13 : decode cX11_findOdds 13 = .ok (.iload 5, 2) := by decide +kernel
theorem dX11_findOdds_15 : decode cX11_findOdds 15 = .ok (.iload_n 3, 1) := by decide +kernel
theorem dX11_findOdds_16 : decode cX11_findOdds 16 = .ok (.if_icmp .ge 21, 3) := by decide +kernel
theorem dX11_findOdds_19 : decode cX11_findOdds 19 = .ok (.aload_n 0, 1) := by decide +kernel
theorem dX11_findOdds_20 : decode cX11_findOdds 20 = .ok (.dup, 1) := by decide +kernel
theorem dX11_findOdds_21 : decode cX11_findOdds 21 = .ok (.getfield 179, 3) := by decide +kernel
theorem dX11_findOdds_24 : decode cX11_findOdds 24 = .ok (.ldc2_w 118, 3) := by decide +kernel
theorem dX11_findOdds_27 : decode cX11_findOdds 27 = .ok (.lmul, 1) := by decide +kernel
theorem dX11_findOdds_28 : decode cX11_findOdds 28 = .ok (.putfield 179, 3) := by decide +kernel
theorem dX11_findOdds_31 : decode cX11_findOdds 31 = .ok (.iinc 5 1, 3) := by decide +kernel
theorem dX11_findOdds_34 : decode cX11_findOdds 34 = .ok (.goto (-21), 3) := by decide +kernel
theorem dX11_findOdds_37 : decode cX11_findOdds 37 = .ok (.iconst 0, 1) := by decide +kernel
theorem dX11_findOdds_38 : decode cX11_findOdds 38 = .ok (.istore 5, 2) := by decide +kernel
theorem dX11_findOdds_40 : decode cX11_findOdds 40 = .ok (.iload 5, 2) := by decide +kernel
theorem dX11_findOdds_42 : decode cX11_findOdds 42 = .ok (.iconst 1, 1) := by decide +kernel
theorem dX11_findOdds_43 : decode cX11_findOdds 43 = .ok (.iload_n 3, 1) := by decide +kernel
theorem dX11_findOdds_44 : decode cX11_findOdds 44 = .ok (.ishl, 1) := by decide +kernel
theorem dX11_findOdds_45 : decode cX11_findOdds 45 = .ok (.if_icmp .ge 122, 3) := by decide +kernel
theorem dX11_findOdds_48 : decode cX11_findOdds 48 = .ok (.lconst 1, 1) := by decide +kernel
theorem dX11_findOdds_49 : decode cX11_findOdds 49 = .ok (.lstore 6, 2) := by decide +kernel
theorem dX11_findOdds_51 : decode cX11_findOdds 51 = .ok (.aload_n 0, 1) := by decide +kernel
theorem dX11_findOdds_52 : decode cX11_findOdds 52 = .ok (.iconst 0, 1) := by decide +kernel
theorem dX11_findOdds_53 : decode cX11_findOdds 53 = .ok (.sipush 219, 3) := by decide +kernel
theorem dX11_findOdds_56 : decode cX11_findOdds 56 = .ok (.invokevirtual 90, 3) := by decide +kernel
theorem dX11_findOdds_59 : decode cX11_findOdds 59 = .ok (.iconst 0, 1) := by decide +kernel
theorem dX11_findOdds_60 : decode cX11_findOdds 60 = .ok (.istore 8, 2) := by decide +kernel
theorem dX11_findOdds_62 : decode cX11_findOdds 62 = .ok (.iload 8, 2) := by decide +kernel
theorem dX11_findOdds_64 : decode cX11_findOdds 64 = .ok (.iload_n 3, 1) := by decide +kernel
theorem dX11_findOdds_65 : decode cX11_findOdds 65 = .ok (.if_icmp .ge 58, 3) := by decide +kernel
theorem dX11_findOdds_68 : decode cX11_findOdds 68 = .ok (.lload 6, 2) := by decide +kernel
theorem dX11_findOdds_70 : decode cX11_findOdds 70 = .ok (.iload 5, 2) := by decide +kernel
theorem dX11_findOdds_72 : decode cX11_findOdds 72 = .ok (.iload 8, 2) := by decide +kernel
theorem dX11_findOdds_74 : decode cX11_findOdds 74 = .ok (.invokestatic 156, 3) := by decide +kernel
theorem dX11_findOdds_77 : decode cX11_findOdds 77 = .ok (.ifCond .eq 9, 3) := by decide +kernel
theorem dX11_findOdds_80 : decode cX11_findOdds 80 = .ok (.iload 4, 2) := by decide +kernel
theorem dX11_findOdds_82 : decode cX11_findOdds 82 = .ok (.i2l, 1) := by decide +kernel
theorem dX11_findOdds_83 : decode cX11_findOdds 83 = .ok (.goto 9, 3) := by decide +kernel
theorem dX11_findOdds_86 : decode cX11_findOdds 86 = .ok (.bipush 10, 2) := by decide +kernel
theorem dX11_findOdds_88 : decode cX11_findOdds 88 = .ok (.iload 4, 2) := by decide +kernel
theorem dX11_findOdds_90 : decode cX11_findOdds 90 = .ok (.isub, 1) := by decide +kernel
theorem dX11_findOdds_91 : decode cX11_findOdds 91 = .ok (.i2l, 1) := by decide +kernel
theorem dX11_findOdds_92 : decode cX11_findOdds 92 = .ok (.lmul, 1) := by decide +kernel
theorem dX11_findOdds_93 : decode cX11_findOdds 93 = .ok (.lstore 6, 2) := by decide +kernel
theorem dX11_findOdds_95 : decode cX11_findOdds 95 = .ok (.aload_n 0, 1) := by decide +kernel
theorem dX11_findOdds_96 : decode cX11_findOdds 96 = .ok (.sipush 219, 3) := by decide +kernel
theorem dX11_findOdds_99 : decode cX11_findOdds 99 = .ok (.iload 5, 2) := by decide +kernel
theorem dX11_findOdds_101 : decode cX11_findOdds 101 = .ok (.iload 8, 2) := by decide +kernel
theorem dX11_findOdds_103 : decode cX11_findOdds 103 = .ok (.invokestatic 156, 3) := by decide +kernel
theorem dX11_findOdds_106 : decode cX11_findOdds 106 = .ok (.ifCond .eq 7, 3) := by decide +kernel
theorem dX11_findOdds_109 : decode cX11_findOdds 109 = .ok (.iconst 1, 1) := by decide +kernel
theorem dX11_findOdds_110 : decode cX11_findOdds 110 = .ok (.goto 4, 3) := by decide +kernel
theorem dX11_findOdds_113 : decode cX11_findOdds 113 = .ok (.iconst 0, 1) := by decide +kernel
theorem dX11_findOdds_114 : decode cX11_findOdds 114 = .ok (.invokevirtual 112, 3) := by decide +kernel
theorem dX11_findOdds_117 : decode cX11_findOdds 117 = .ok (.iinc 8 1, 3) := by decide +kernel
theorem dX11_findOdds_120 : decode cX11_findOdds 120 = .ok (.goto (-58), 3) := by decide +kernel
theorem dX11_findOdds_123 : decode cX11_findOdds 123 = .ok (.aload_n 0, 1) := by decide +kernel
theorem dX11_findOdds_124 : decode cX11_findOdds 124 = .ok (.dup, 1) := by decide +kernel
theorem dX11_findOdds_125 : decode cX11_findOdds 125 = .ok (.getfield 175, 3) := by decide +kernel
theorem dX11_findOdds_128 : decode cX11_findOdds 128 = .ok (.aload_n 0, 1) := by decide +kernel
theorem dX11_findOdds_129 : decode cX11_findOdds 129 = .ok (.iload_n 2, 1) := by decide +kernel
theorem dX11_findOdds_130 : decode cX11_findOdds 130 = .ok (.invokevirtual 150, 3) := by decide +kernel
theorem dX11_findOdds_133 : decode cX11_findOdds 133 = .ok (.ldc 146, 2) := by decide +kernel
theorem dX11_findOdds_135 : decode cX11_findOdds 135 = .ok (.if_icmp .eq 21, 3) := by decide +kernel
theorem dX11_findOdds_138 : decode cX11_findOdds 138 = .ok (.aload_n 0, 1) := by decide +kernel
theorem dX11_findOdds_139 : decode cX11_findOdds 139 = .ok (.iload_n 1, 1) := by decide +kernel
theorem dX11_findOdds_140 : decode cX11_findOdds 140 = .ok (.invokevirtual 150, 3) := by decide +kernel
theorem dX11_findOdds_143 : decode cX11_findOdds 143 = .ok (.aload_n 0, 1) := by decide +kernel
theorem dX11_findOdds_144 : decode cX11_findOdds 144 = .ok (.iload_n 2, 1) := by decide +kernel
theorem dX11_findOdds_145 : decode cX11_findOdds 145 = .ok (.invokevirtual 150, 3) := by decide +kernel
theorem dX11_findOdds_148 : decode cX11_findOdds 148 = .ok (.if_icmp .le 8, 3) := by decide +kernel
theorem dX11_findOdds_151 : decode cX11_findOdds 151 = .ok (.lload 6, 2) := by decide +kernel
theorem dX11_findOdds_153 : decode cX11_findOdds 153 = .ok (.goto 4, 3) := by decide +kernel
theorem dX11_findOdds_156 : decode cX11_findOdds 156 = .ok (.lconst 0, 1) := by decide +kernel
theorem dX11_findOdds_157 : decode cX11_findOdds 157 = .ok (.ladd, 1) := by decide +kernel
theorem dX11_findOdds_158 : decode cX11_findOdds 158 = .ok (.putfield 175, 3) := by decide +kernel
theorem dX11_findOdds_161 : decode cX11_findOdds 161 = .ok (.iinc 5 1, 3) := by decide +kernel
theorem dX11_findOdds_164 : decode cX11_findOdds 164 = .ok (.goto (-124), 3) := by decide +kernel
theorem dX11_findOdds_167 : decode cX11_findOdds 167 = .ok (.return_, 1) := by decide +kernel
theorem dX11_isSpan_0 : decode cX11_isSpan 0 = .ok (.iload_n 0, 1) := by decide +kernel
theorem dX11_isSpan_1 : decode cX11_isSpan 1 = .ok (.i2l, 1) := by decide +kernel
theorem dX11_isSpan_2 : decode cX11_isSpan 2 = .ok (.lconst 0, 1) := by decide +kernel
theorem dX11_isSpan_3 : decode cX11_isSpan 3 = .ok (.ldc2_w 118, 3) := by decide +kernel
theorem dX11_isSpan_6 : decode cX11_isSpan 6 = .ok (.invokestatic 42, 3) := by decide +kernel
theorem dX11_isSpan_9 : decode cX11_isSpan 9 = .ok (.ifCond .eq 19, 3) := by decide +kernel
theorem dX11_isSpan_12 : decode cX11_isSpan 12 = .ok (.iload_n 1, 1) := by decide +kernel
theorem dX11_isSpan_13 : decode cX11_isSpan 13 = .ok (.i2l, 1) := by decide +kernel
theorem dX11_isSpan_14 : decode cX11_isSpan 14 = .ok (.lconst 0, 1) := by decide +kernel
theorem dX11_isSpan_15 : decode cX11_isSpan 15 = .ok (.ldc2_w 118, 3) := by decide +kernel
theorem dX11_isSpan_18 : decode cX11_isSpan 18 = .ok (.invokestatic 42, 3) := by decide +kernel
theorem dX11_isSpan_21 : decode cX11_isSpan 21 = .ok (.ifCond .eq 7, 3) := by decide +kernel
theorem dX11_isSpan_24 : decode cX11_isSpan 24 = .ok (.iconst 1, 1) := by decide +kernel
theorem dX11_isSpan_25 : decode cX11_isSpan 25 = .ok (.goto 4, 3) := by decide +kernel
theorem dX11_isSpan_28 : decode cX11_isSpan 28 = .ok (.iconst 0, 1) := by decide +kernel
theorem dX11_isSpan_29 : decode cX11_isSpan 29 = .ok (.ireturn, 1) := by decide +kernel
theorem dX11_odds_0 : decode cX11_odds 0 = .ok (.aload_n 0, 1) := by decide +kernel
theorem dX11_odds_1 : decode cX11_odds 1 = .ok (.iload_n 1, 1) := by decide +kernel
theorem dX11_odds_2 : decode cX11_odds 2 = .ok (.iload_n 2, 1) := by decide +kernel
theorem dX11_odds_3 : decode cX11_odds 3 = .ok (.invokevirtual 153, 3) := by decide +kernel
theorem dX11_odds_6 : decode cX11_odds 6 = .ok (.ifCond .eq 23, 3) := by decide +kernel
theorem dX11_odds_9 : decode cX11_odds 9 = .ok (.iload_n 3, 1) := by decide +kernel
theorem dX11_odds_10 : decode cX11_odds 10 = .ok (.iload 4, 2) := by decide +kernel
theorem dX11_odds_12 : decode cX11_odds 12 = .ok (.invokestatic 182, 3) := by decide +kernel
theorem dX11_odds_15 : decode cX11_odds 15 = .ok (.ifCond .eq 14, 3) := by decide +kernel
theorem dX11_odds_18 : decode cX11_odds 18 = .ok (.iload 5, 2) := by decide +kernel
theorem dX11_odds_20 : decode cX11_odds 20 = .ok (.i2l, 1) := by decide +kernel
theorem dX11_odds_21 : decode cX11_odds 21 = .ok (.lconst 0, 1) := by decide +kernel
theorem dX11_odds_22 : decode cX11_odds 22 = .ok (.lconst 1, 1) := by decide +kernel
theorem dX11_odds_23 : decode cX11_odds 23 = .ok (.invokestatic 42, 3) := by decide +kernel
theorem dX11_odds_26 : decode cX11_odds 26 = .ok (.ifCond .ne 7, 3) := by decide +kernel
theorem dX11_odds_29 : decode cX11_odds 29 = .ok (.ldc2_w 185, 3) := by decide +kernel
theorem dX11_odds_32 : decode cX11_odds 32 = .ok (.lreturn, 1) := by decide +kernel
theorem dX11_odds_33 : decode cX11_odds 33 = .ok (.aload_n 0, 1) := by decide +kernel
theorem dX11_odds_34 : decode cX11_odds 34 = .ok (.iconst 0, 1) := by decide +kernel
theorem dX11_odds_35 : decode cX11_odds 35 = .ok (.iload_n 1, 1) := by decide +kernel
theorem dX11_odds_36 : decode cX11_odds 36 = .ok (.invokevirtual 100, 3) := by decide +kernel
theorem dX11_odds_39 : decode cX11_odds 39 = .ok (.ifCond .ne 12, 3) := by decide +kernel
theorem dX11_odds_42 : decode cX11_odds 42 = .ok (.aload_n 0, 1) := by decide +kernel
theorem dX11_odds_43 : decode cX11_odds 43 = .ok (.iconst 0, 1) := by decide +kernel
theorem dX11_odds_44 : decode cX11_odds 44 = .ok (.iload_n 2, 1) := by decide +kernel
theorem dX11_odds_45 : decode cX11_odds 45 = .ok (.invokevirtual 100, 3) := by decide +kernel
theorem dX11_odds_48 : decode cX11_odds 48 = .ok (.ifCond .eq 7, 3) := by decide +kernel
theorem dX11_odds_51 : decode cX11_odds 51 = .ok (.ldc2_w 187, 3) := by decide +kernel
theorem dX11_odds_54 : decode cX11_odds 54 = .ok (.lreturn, 1) := by decide +kernel
theorem dX11_odds_55 : decode cX11_odds 55 = .ok (.aload_n 0, 1) := by decide +kernel
theorem dX11_odds_56 : decode cX11_odds 56 = .ok (.iload_n 1, 1) := by decide +kernel
theorem dX11_odds_57 : decode cX11_odds 57 = .ok (.iload_n 2, 1) := by decide +kernel
theorem dX11_odds_58 : decode cX11_odds 58 = .ok (.iload_n 3, 1) := by decide +kernel
theorem dX11_odds_59 : decode cX11_odds 59 = .ok (.iload 4, 2) := by decide +kernel
theorem dX11_odds_61 : decode cX11_odds 61 = .ok (.invokevirtual 189, 3) := by decide +kernel
theorem dX11_odds_64 : decode cX11_odds 64 = .ok (.aload_n 0, 1) := by decide +kernel
theorem dX11_odds_65 : decode cX11_odds 65 = .ok (.getfield 175, 3) := by decide +kernel
theorem dX11_odds_68 : decode cX11_odds 68 = .ok (.lstore 6, 2) := by decide +kernel
theorem dX11_odds_70 : decode cX11_odds 70 = .ok (.aload_n 0, 1) := by decide +kernel
theorem dX11_odds_71 : decode cX11_odds 71 = .ok (.getfield 179, 3) := by decide +kernel
theorem dX11_odds_74 : decode cX11_odds 74 = .ok (.lstore 8, 2) := by decide +kernel
theorem dX11_odds_76 : decode cX11_odds 76 = .ok (.lload 8, 2) := by decide +kernel
theorem dX11_odds_78 : decode cX11_odds 78 = .ok (.lconst 0, 1) := by decide +kernel
theorem dX11_odds_79 : decode cX11_odds 79 = .ok (.lcmp, 1) := by decide +kernel
theorem dX11_odds_80 : decode cX11_odds 80 = .ok (.ifCond .eq 21, 3) := by decide +kernel
theorem dX11_odds_83 : decode cX11_odds 83 = .ok (.lload 6, 2) := by decide +kernel
theorem dX11_odds_85 : decode cX11_odds 85 = .ok (.lload 8, 2) := by decide +kernel
theorem dX11_odds_87 : decode cX11_odds 87 = .ok (.lrem, 1) := by decide +kernel
theorem dX11_odds_88 : decode cX11_odds 88 = .ok (.lstore 10, 2) := by decide +kernel
theorem dX11_odds_90 : decode cX11_odds 90 = .ok (.lload 8, 2) := by decide +kernel
theorem dX11_odds_92 : decode cX11_odds 92 = .ok (.lstore 6, 2) := by decide +kernel
theorem dX11_odds_94 : decode cX11_odds 94 = .ok (.lload 10, 2) := by decide +kernel
theorem dX11_odds_96 : decode cX11_odds 96 = .ok (.lstore 8, 2) := by decide +kernel
theorem dX11_odds_98 : decode cX11_odds 98 = .ok (.goto (-22), 3) := by decide +kernel
theorem dX11_odds_101 : decode cX11_odds 101 = .ok (.iload 5, 2) := by decide +kernel
theorem dX11_odds_103 : decode cX11_odds 103 = .ok (.ifCond .ne 13, 3) := by decide +kernel
theorem dX11_odds_106 : decode cX11_odds 106 = .ok (.aload_n 0, 1) := by decide +kernel
theorem dX11_odds_107 : decode cX11_odds 107 = .ok (.getfield 175, 3) := by decide +kernel
theorem dX11_odds_110 : decode cX11_odds 110 = .ok (.lload 6, 2) := by decide +kernel
theorem dX11_odds_112 : decode cX11_odds 112 = .ok (.ldiv, 1) := by decide +kernel
theorem dX11_odds_113 : decode cX11_odds 113 = .ok (.goto 10, 3) := by decide +kernel
theorem dX11_odds_116 : decode cX11_odds 116 = .ok (.aload_n 0, 1) := by decide +kernel
theorem dX11_odds_117 : decode cX11_odds 117 = .ok (.getfield 179, 3) := by decide +kernel
theorem dX11_odds_120 : decode cX11_odds 120 = .ok (.lload 6, 2) := by decide +kernel
theorem dX11_odds_122 : decode cX11_odds 122 = .ok (.ldiv, 1) := by decide +kernel
theorem dX11_odds_123 : decode cX11_odds 123 = .ok (.lreturn, 1) := by decide +kernel
theorem dX11_challenge_0 : decode cX11_challenge 0 = .ok (.aload_n 0, 1) := by decide +kernel
theorem dX11_challenge_1 : decode cX11_challenge 1 = .ok (.iload_n 1, 1) := by decide +kernel
theorem dX11_challenge_2 : decode cX11_challenge 2 = .ok (.invokevirtual 115, 3) := by decide +kernel
theorem dX11_challenge_5 : decode cX11_challenge 5 = .ok (.ifCond .eq 11, 3) := by decide +kernel
theorem dX11_challenge_8 : decode cX11_challenge 8 = .ok (.iload_n 2, 1) := by decide +kernel
theorem dX11_challenge_9 : decode cX11_challenge 9 = .ok (.iload_n 3, 1) := by decide +kernel
theorem dX11_challenge_10 : decode cX11_challenge 10 = .ok (.invokestatic 182, 3) := by decide +kernel
theorem dX11_challenge_13 : decode cX11_challenge 13 = .ok (.ifCond .ne 5, 3) := by decide +kernel
theorem dX11_challenge_16 : decode cX11_challenge 16 = .ok (.iconst (-1), 1) := by decide +kernel
theorem dX11_challenge_17 : decode cX11_challenge 17 = .ok (.ireturn, 1) := by decide +kernel
theorem dX11_challenge_18 : decode cX11_challenge 18 = .ok (.aload_n 0, 1) := by decide +kernel
theorem dX11_challenge_19 : decode cX11_challenge 19 = .ok (.iconst 0, 1) := by decide +kernel
theorem dX11_challenge_20 : decode cX11_challenge 20 = .ok (.iload_n 1, 1) := by decide +kernel
theorem dX11_challenge_21 : decode cX11_challenge 21 = .ok (.invokevirtual 100, 3) := by decide +kernel
theorem dX11_challenge_24 : decode cX11_challenge 24 = .ok (.ifCond .eq 6, 3) := by decide +kernel
theorem dX11_challenge_27 : decode cX11_challenge 27 = .ok (.bipush (-2), 2) := by decide +kernel
theorem dX11_challenge_29 : decode cX11_challenge 29 = .ok (.ireturn, 1) := by decide +kernel
theorem dX11_challenge_30 : decode cX11_challenge 30 = .ok (.bipush (-4), 2) := by decide +kernel
theorem dX11_challenge_32 : decode cX11_challenge 32 = .ok (.istore 4, 2) := by decide +kernel
theorem dX11_challenge_34 : decode cX11_challenge 34 = .ok (.ldc2_w 185, 3) := by decide +kernel
theorem dX11_challenge_37 : decode cX11_challenge 37 = .ok (.lstore 5, 2) := by decide +kernel
theorem dX11_challenge_39 : decode cX11_challenge 39 = .ok (.iconst 0, 1) := by decide +kernel
theorem dX11_challenge_40 : decode cX11_challenge 40 = .ok (.istore 7, 2) := by decide +kernel
theorem dX11_challenge_42 : decode cX11_challenge 42 = .ok (.iload 7, 2) := by decide +kernel
theorem dX11_challenge_44 : decode cX11_challenge 44 = .ok (.aload_n 0, 1) := by decide +kernel
theorem dX11_challenge_45 : decode cX11_challenge 45 = .ok (.getfield 7, 3) := by decide +kernel
theorem dX11_challenge_48 : decode cX11_challenge 48 = .ok (.iconst 1, 1) := by decide +kernel
theorem dX11_challenge_49 : decode cX11_challenge 49 = .ok (.iaload, 1) := by decide +kernel
theorem dX11_challenge_50 : decode cX11_challenge 50 = .ok (.if_icmp .ge 74, 3) := by decide +kernel
theorem dX11_challenge_53 : decode cX11_challenge 53 = .ok (.iload 7, 2) := by decide +kernel
theorem dX11_challenge_55 : decode cX11_challenge 55 = .ok (.iload_n 1, 1) := by decide +kernel
theorem dX11_challenge_56 : decode cX11_challenge 56 = .ok (.if_icmp .eq 62, 3) := by decide +kernel
theorem dX11_challenge_59 : decode cX11_challenge 59 = .ok (.aload_n 0, 1) := by decide +kernel
theorem dX11_challenge_60 : decode cX11_challenge 60 = .ok (.iconst 0, 1) := by decide +kernel
theorem dX11_challenge_61 : decode cX11_challenge 61 = .ok (.iload 7, 2) := by decide +kernel
theorem dX11_challenge_63 : decode cX11_challenge 63 = .ok (.invokevirtual 100, 3) := by decide +kernel
theorem dX11_challenge_66 : decode cX11_challenge 66 = .ok (.ifCond .ne 52, 3) := by decide +kernel
theorem dX11_challenge_69 : decode cX11_challenge 69 = .ok (.aload_n 0, 1) := by decide +kernel
theorem dX11_challenge_70 : decode cX11_challenge 70 = .ok (.iload_n 1, 1) := by decide +kernel
theorem dX11_challenge_71 : decode cX11_challenge 71 = .ok (.iload 7, 2) := by decide +kernel
theorem dX11_challenge_73 : decode cX11_challenge 73 = .ok (.iload_n 2, 1) := by decide +kernel
theorem dX11_challenge_74 : decode cX11_challenge 74 = .ok (.iload_n 3, 1) := by decide +kernel
theorem dX11_challenge_75 : decode cX11_challenge 75 = .ok (.invokevirtual 189, 3) := by decide +kernel
theorem dX11_challenge_78 : decode cX11_challenge 78 = .ok (.aload_n 0, 1) := by decide +kernel
theorem dX11_challenge_79 : decode cX11_challenge 79 = .ok (.getfield 175, 3) := by decide +kernel
theorem dX11_challenge_82 : decode cX11_challenge 82 = .ok (.lload 5, 2) := by decide +kernel
theorem dX11_challenge_84 : decode cX11_challenge 84 = .ok (.lcmp, 1) := by decide +kernel
theorem dX11_challenge_85 : decode cX11_challenge 85 = .ok (.ifCond .le 8, 3) := by decide +kernel
theorem dX11_challenge_88 : decode cX11_challenge 88 = .ok (.iload 7, 2) := by decide +kernel
theorem dX11_challenge_90 : decode cX11_challenge 90 = .ok (.goto 5, 3) := by decide +kernel
theorem dX11_challenge_93 : decode cX11_challenge 93 = .ok (.iload 4, 2) := by decide +kernel
theorem dX11_challenge_95 : decode cX11_challenge 95 = .ok (.istore 4, 2) := by decide +kernel
theorem dX11_challenge_97 : decode cX11_challenge 97 = .ok (.aload_n 0, 1) := by decide +kernel
theorem dX11_challenge_98 : decode cX11_challenge 98 = .ok (.getfield 175, 3) := by decide +kernel
theorem dX11_challenge_101 : decode cX11_challenge 101 = .ok (.lload 5, 2) := by decide +kernel
theorem dX11_challenge_103 : decode cX11_challenge 103 = .ok (.lcmp, 1) := by decide +kernel
theorem dX11_challenge_104 : decode cX11_challenge 104 = .ok (.ifCond .le 10, 3) := by decide +kernel
theorem dX11_challenge_107 : decode cX11_challenge 107 = .ok (.aload_n 0, 1) := by decide +kernel
theorem dX11_challenge_108 : decode cX11_challenge 108 = .ok (.getfield 175, 3) := by decide +kernel
theorem dX11_challenge_111 : decode cX11_challenge 111 = .ok (.goto 5, 3) := by decide +kernel
theorem dX11_challenge_114 : decode cX11_challenge 114 = .ok (.lload 5, 2) := by decide +kernel
theorem dX11_challenge_116 : decode cX11_challenge 116 = .ok (.lstore 5, 2) := by decide +kernel
theorem dX11_challenge_118 : decode cX11_challenge 118 = .ok (.iinc 7 1, 3) := by decide +kernel
theorem dX11_challenge_121 : decode cX11_challenge 121 = .ok (.goto (-79), 3) := by decide +kernel
theorem dX11_challenge_124 : decode cX11_challenge 124 = .ok (.iload 4, 2) := by decide +kernel
theorem dX11_challenge_126 : decode cX11_challenge 126 = .ok (.ireturn, 1) := by decide +kernel
theorem dX11_turns_0 : decode cX11_turns 0 = .ok (.iload_n 3, 1) := by decide +kernel
theorem dX11_turns_1 : decode cX11_turns 1 = .ok (.iconst 1, 1) := by decide +kernel
theorem dX11_turns_2 : decode cX11_turns 2 = .ok (.if_icmp .ne 14, 3) := by decide +kernel
theorem dX11_turns_5 : decode cX11_turns 5 = .ok (.aload_n 0, 1) := by decide +kernel
theorem dX11_turns_6 : decode cX11_turns 6 = .ok (.sipush 219, 3) := by decide +kernel
theorem dX11_turns_9 : decode cX11_turns 9 = .ok (.iload_n 1, 1) := by decide +kernel
theorem dX11_turns_10 : decode cX11_turns 10 = .ok (.invokevirtual 136, 3) := by decide +kernel
theorem dX11_turns_13 : decode cX11_turns 13 = .ok (.goto 30, 3) := by decide +kernel
theorem dX11_turns_16 : decode cX11_turns 16 = .ok (.iload_n 3, 1) := by decide +kernel
theorem dX11_turns_17 : decode cX11_turns 17 = .ok (.iconst 2, 1) := by decide +kernel
theorem dX11_turns_18 : decode cX11_turns 18 = .ok (.if_icmp .ne 25, 3) := by decide +kernel
theorem dX11_turns_21 : decode cX11_turns 21 = .ok (.aload_n 0, 1) := by decide +kernel
theorem dX11_turns_22 : decode cX11_turns 22 = .ok (.sipush 219, 3) := by decide +kernel
theorem dX11_turns_25 : decode cX11_turns 25 = .ok (.iload_n 2, 1) := by decide +kernel
theorem dX11_turns_26 : decode cX11_turns 26 = .ok (.invokevirtual 100, 3) := by decide +kernel
theorem dX11_turns_29 : decode cX11_turns 29 = .ok (.ifCond .ne 14, 3) := by decide +kernel
theorem dX11_turns_32 : decode cX11_turns 32 = .ok (.aload_n 0, 1) := by decide +kernel
theorem dX11_turns_33 : decode cX11_turns 33 = .ok (.getfield 7, 3) := by decide +kernel
theorem dX11_turns_36 : decode cX11_turns 36 = .ok (.sipush 268, 3) := by decide +kernel
theorem dX11_turns_39 : decode cX11_turns 39 = .ok (.iload_n 2, 1) := by decide +kernel
theorem dX11_turns_40 : decode cX11_turns 40 = .ok (.iadd, 1) := by decide +kernel
theorem dX11_turns_41 : decode cX11_turns 41 = .ok (.iconst 2, 1) := by decide +kernel
theorem dX11_turns_42 : decode cX11_turns 42 = .ok (.iastore, 1) := by decide +kernel
theorem dX11_turns_43 : decode cX11_turns 43 = .ok (.return_, 1) := by decide +kernel
theorem dX11_edgeNow_0 : decode cX11_edgeNow 0 = .ok (.aload_n 0, 1) := by decide +kernel
theorem dX11_edgeNow_1 : decode cX11_edgeNow 1 = .ok (.getfield 7, 3) := by decide +kernel
theorem dX11_edgeNow_4 : decode cX11_edgeNow 4 = .ok (.sipush 232, 3) := by decide +kernel
theorem dX11_edgeNow_7 : decode cX11_edgeNow 7 = .ok (.iload_n 1, 1) := by decide +kernel
theorem dX11_edgeNow_8 : decode cX11_edgeNow 8 = .ok (.iadd, 1) := by decide +kernel
theorem dX11_edgeNow_9 : decode cX11_edgeNow 9 = .ok (.iaload, 1) := by decide +kernel
theorem dX11_edgeNow_10 : decode cX11_edgeNow 10 = .ok (.aload_n 0, 1) := by decide +kernel
theorem dX11_edgeNow_11 : decode cX11_edgeNow 11 = .ok (.getfield 7, 3) := by decide +kernel
theorem dX11_edgeNow_14 : decode cX11_edgeNow 14 = .ok (.sipush 256, 3) := by decide +kernel
theorem dX11_edgeNow_17 : decode cX11_edgeNow 17 = .ok (.iload_n 1, 1) := by decide +kernel
theorem dX11_edgeNow_18 : decode cX11_edgeNow 18 = .ok (.iadd, 1) := by decide +kernel
theorem dX11_edgeNow_19 : decode cX11_edgeNow 19 = .ok (.iaload, 1) := by decide +kernel
theorem dX11_edgeNow_20 : decode cX11_edgeNow 20 = .ok (.isub, 1) := by decide +kernel
theorem dX11_edgeNow_21 : decode cX11_edgeNow 21 = .ok (.aload_n 0, 1) := by decide +kernel
theorem dX11_edgeNow_22 : decode cX11_edgeNow 22 = .ok (.getfield 7, 3) := by decide +kernel
theorem dX11_edgeNow_25 : decode cX11_edgeNow 25 = .ok (.sipush 232, 3) := by decide +kernel
theorem dX11_edgeNow_28 : decode cX11_edgeNow 28 = .ok (.iload_n 2, 1) := by decide +kernel
theorem dX11_edgeNow_29 : decode cX11_edgeNow 29 = .ok (.iadd, 1) := by decide +kernel
theorem dX11_edgeNow_30 : decode cX11_edgeNow 30 = .ok (.iaload, 1) := by decide +kernel
theorem dX11_edgeNow_31 : decode cX11_edgeNow 31 = .ok (.isub, 1) := by decide +kernel
theorem dX11_edgeNow_32 : decode cX11_edgeNow 32 = .ok (.aload_n 0, 1) := by decide +kernel
theorem dX11_edgeNow_33 : decode cX11_edgeNow 33 = .ok (.getfield 7, 3) := by decide +kernel
theorem dX11_edgeNow_36 : decode cX11_edgeNow 36 = .ok (.sipush 256, 3) := by decide +kernel
theorem dX11_edgeNow_39 : decode cX11_edgeNow 39 = .ok (.iload_n 2, 1) := by decide +kernel
theorem dX11_edgeNow_40 : decode cX11_edgeNow 40 = .ok (.iadd, 1) := by decide +kernel
theorem dX11_edgeNow_41 : decode cX11_edgeNow 41 = .ok (.iaload, 1) := by decide +kernel
theorem dX11_edgeNow_42 : decode cX11_edgeNow 42 = .ok (.iadd, 1) := by decide +kernel
theorem dX11_edgeNow_43 : decode cX11_edgeNow 43 = .ok (.ireturn, 1) := by decide +kernel
theorem dX11_game_0 : decode cX11_game 0 = .ok (.aload_n 0, 1) := by decide +kernel
theorem dX11_game_1 : decode cX11_game 1 = .ok (.iload_n 1, 1) := by decide +kernel
theorem dX11_game_2 : decode cX11_game 2 = .ok (.iload_n 2, 1) := by decide +kernel
theorem dX11_game_3 : decode cX11_game 3 = .ok (.invokevirtual 153, 3) := by decide +kernel
theorem dX11_game_6 : decode cX11_game 6 = .ok (.ifCond .eq 15, 3) := by decide +kernel
theorem dX11_game_9 : decode cX11_game 9 = .ok (.iload_n 3, 1) := by decide +kernel
theorem dX11_game_10 : decode cX11_game 10 = .ok (.i2l, 1) := by decide +kernel
theorem dX11_game_11 : decode cX11_game 11 = .ok (.lconst 0, 1) := by decide +kernel
theorem dX11_game_12 : decode cX11_game 12 = .ok (.ldc2_w 169, 3) := by decide +kernel
theorem dX11_game_15 : decode cX11_game 15 = .ok (.invokestatic 42, 3) := by decide +kernel
theorem dX11_game_18 : decode cX11_game 18 = .ok (.ifCond .ne 5, 3) := by decide +kernel
theorem dX11_game_21 : decode cX11_game 21 = .ok (.iconst (-1), 1) := by decide +kernel
theorem dX11_game_22 : decode cX11_game 22 = .ok (.ireturn, 1) := by decide +kernel
theorem dX11_game_23 : decode cX11_game 23 = .ok (.aload_n 0, 1) := by decide +kernel
theorem dX11_game_24 : decode cX11_game 24 = .ok (.iconst 0, 1) := by decide +kernel
theorem dX11_game_25 : decode cX11_game 25 = .ok (.iload_n 1, 1) := by decide +kernel
theorem dX11_game_26 : decode cX11_game 26 = .ok (.invokevirtual 100, 3) := by decide +kernel
theorem dX11_game_29 : decode cX11_game 29 = .ok (.ifCond .ne 12, 3) := by decide +kernel
theorem dX11_game_32 : decode cX11_game 32 = .ok (.aload_n 0, 1) := by decide +kernel
theorem dX11_game_33 : decode cX11_game 33 = .ok (.iconst 0, 1) := by decide +kernel
theorem dX11_game_34 : decode cX11_game 34 = .ok (.iload_n 2, 1) := by decide +kernel
theorem dX11_game_35 : decode cX11_game 35 = .ok (.invokevirtual 100, 3) := by decide +kernel
theorem dX11_game_38 : decode cX11_game 38 = .ok (.ifCond .eq 6, 3) := by decide +kernel
theorem dX11_game_41 : decode cX11_game 41 = .ok (.bipush (-2), 2) := by decide +kernel
theorem dX11_game_43 : decode cX11_game 43 = .ok (.ireturn, 1) := by decide +kernel
theorem dX11_game_44 : decode cX11_game 44 = .ok (.iload_n 3, 1) := by decide +kernel
theorem dX11_game_45 : decode cX11_game 45 = .ok (.ifCond .ne 7, 3) := by decide +kernel
theorem dX11_game_48 : decode cX11_game 48 = .ok (.iconst 1, 1) := by decide +kernel
theorem dX11_game_49 : decode cX11_game 49 = .ok (.goto 26, 3) := by decide +kernel
theorem dX11_game_52 : decode cX11_game 52 = .ok (.iload_n 3, 1) := by decide +kernel
theorem dX11_game_53 : decode cX11_game 53 = .ok (.iconst 1, 1) := by decide +kernel
theorem dX11_game_54 : decode cX11_game 54 = .ok (.if_icmp .ne 8, 3) := by decide +kernel
theorem dX11_game_57 : decode cX11_game 57 = .ok (.bipush 9, 2) := by decide +kernel
theorem dX11_game_59 : decode cX11_game 59 = .ok (.goto 16, 3) := by decide +kernel
theorem dX11_game_62 : decode cX11_game 62 = .ok (.iload_n 3, 1) := by decide +kernel
theorem dX11_game_63 : decode cX11_game 63 = .ok (.iconst 2, 1) := by decide +kernel
theorem dX11_game_64 : decode cX11_game 64 = .ok (.if_icmp .ne 8, 3) := by decide +kernel
theorem dX11_game_67 : decode cX11_game 67 = .ok (.bipush 81, 2) := by decide +kernel
theorem dX11_game_69 : decode cX11_game 69 = .ok (.goto 6, 3) := by decide +kernel
theorem dX11_game_72 : decode cX11_game 72 = .ok (.sipush 729, 3) := by decide +kernel
theorem dX11_game_75 : decode cX11_game 75 = .ok (.istore 4, 2) := by decide +kernel
theorem dX11_game_77 : decode cX11_game 77 = .ok (.iconst 0, 1) := by decide +kernel
theorem dX11_game_78 : decode cX11_game 78 = .ok (.istore 5, 2) := by decide +kernel
theorem dX11_game_80 : decode cX11_game 80 = .ok (.iload 5, 2) := by decide +kernel
theorem dX11_game_82 : decode cX11_game 82 = .ok (.iload 4, 2) := by decide +kernel
theorem dX11_game_84 : decode cX11_game 84 = .ok (.if_icmp .ge 89, 3) := by decide +kernel
theorem dX11_game_87 : decode cX11_game 87 = .ok (.aload_n 0, 1) := by decide +kernel
theorem dX11_game_88 : decode cX11_game 88 = .ok (.iconst 0, 1) := by decide +kernel
theorem dX11_game_89 : decode cX11_game 89 = .ok (.sipush 219, 3) := by decide +kernel
theorem dX11_game_92 : decode cX11_game 92 = .ok (.invokevirtual 90, 3) := by decide +kernel
theorem dX11_game_95 : decode cX11_game 95 = .ok (.iload 4, 2) := by decide +kernel
theorem dX11_game_97 : decode cX11_game 97 = .ok (.bipush 9, 2) := by decide +kernel
theorem dX11_game_99 : decode cX11_game 99 = .ok (.idiv, 1) := by decide +kernel
theorem dX11_game_100 : decode cX11_game 100 = .ok (.istore 6, 2) := by decide +kernel
theorem dX11_game_102 : decode cX11_game 102 = .ok (.iload 6, 2) := by decide +kernel
theorem dX11_game_104 : decode cX11_game 104 = .ok (.ifCond .le 50, 3) := by decide +kernel
theorem dX11_game_107 : decode cX11_game 107 = .ok (.iload 5, 2) := by decide +kernel
theorem dX11_game_109 : decode cX11_game 109 = .ok (.iload 6, 2) := by decide +kernel
theorem dX11_game_111 : decode cX11_game 111 = .ok (.idiv, 1) := by decide +kernel
theorem dX11_game_112 : decode cX11_game 112 = .ok (.bipush 9, 2) := by decide +kernel
theorem dX11_game_114 : decode cX11_game 114 = .ok (.irem, 1) := by decide +kernel
theorem dX11_game_115 : decode cX11_game 115 = .ok (.istore 7, 2) := by decide +kernel
theorem dX11_game_117 : decode cX11_game 117 = .ok (.aload_n 0, 1) := by decide +kernel
theorem dX11_game_118 : decode cX11_game 118 = .ok (.iload_n 1, 1) := by decide +kernel
theorem dX11_game_119 : decode cX11_game 119 = .ok (.iload_n 2, 1) := by decide +kernel
theorem dX11_game_120 : decode cX11_game 120 = .ok (.iload 7, 2) := by decide +kernel
theorem dX11_game_122 : decode cX11_game 122 = .ok (.iconst 3, 1) := by decide +kernel
theorem dX11_game_123 : decode cX11_game 123 = .ok (.idiv, 1) := by decide +kernel
theorem dX11_game_124 : decode cX11_game 124 = .ok (.invokevirtual 193, 3) := by decide +kernel
theorem dX11_game_127 : decode cX11_game 127 = .ok (.aload_n 0, 1) := by decide +kernel
theorem dX11_game_128 : decode cX11_game 128 = .ok (.iload_n 2, 1) := by decide +kernel
theorem dX11_game_129 : decode cX11_game 129 = .ok (.iload_n 1, 1) := by decide +kernel
theorem dX11_game_130 : decode cX11_game 130 = .ok (.iload 7, 2) := by decide +kernel
theorem dX11_game_132 : decode cX11_game 132 = .ok (.iconst 3, 1) := by decide +kernel
theorem dX11_game_133 : decode cX11_game 133 = .ok (.irem, 1) := by decide +kernel
theorem dX11_game_134 : decode cX11_game 134 = .ok (.invokevirtual 193, 3) := by decide +kernel
theorem dX11_game_137 : decode cX11_game 137 = .ok (.aload_n 0, 1) := by decide +kernel
theorem dX11_game_138 : decode cX11_game 138 = .ok (.sipush 219, 3) := by decide +kernel
theorem dX11_game_141 : decode cX11_game 141 = .ok (.invokevirtual 129, 3) := by decide +kernel
theorem dX11_game_144 : decode cX11_game 144 = .ok (.iload 6, 2) := by decide +kernel
theorem dX11_game_146 : decode cX11_game 146 = .ok (.bipush 9, 2) := by decide +kernel
theorem dX11_game_148 : decode cX11_game 148 = .ok (.idiv, 1) := by decide +kernel
theorem dX11_game_149 : decode cX11_game 149 = .ok (.istore 6, 2) := by decide +kernel
theorem dX11_game_151 : decode cX11_game 151 = .ok (.goto (-49), 3) := by decide +kernel
theorem dX11_game_154 : decode cX11_game 154 = .ok (.aload_n 0, 1) := by decide +kernel
theorem dX11_game_155 : decode cX11_game 155 = .ok (.getfield 33, 3) := by decide +kernel
theorem dX11_game_158 : decode cX11_game 158 = .ok (.iload 5, 2) := by decide +kernel
theorem dX11_game_160 : decode cX11_game 160 = .ok (.aload_n 0, 1) := by decide +kernel
theorem dX11_game_161 : decode cX11_game 161 = .ok (.iload_n 1, 1) := by decide +kernel
theorem dX11_game_162 : decode cX11_game 162 = .ok (.iload_n 2, 1) := by decide +kernel
theorem dX11_game_163 : decode cX11_game 163 = .ok (.invokevirtual 197, 3) := by decide +kernel
theorem dX11_game_166 : decode cX11_game 166 = .ok (.iastore, 1) := by decide +kernel
theorem dX11_game_167 : decode cX11_game 167 = .ok (.iinc 5 1, 3) := by decide +kernel
theorem dX11_game_170 : decode cX11_game 170 = .ok (.goto (-90), 3) := by decide +kernel
theorem dX11_game_173 : decode cX11_game 173 = .ok (.iload 4, 2) := by decide +kernel
theorem dX11_game_175 : decode cX11_game 175 = .ok (.bipush 9, 2) := by decide +kernel
theorem dX11_game_177 : decode cX11_game 177 = .ok (.idiv, 1) := by decide +kernel
theorem dX11_game_178 : decode cX11_game 178 = .ok (.istore 5, 2) := by decide +kernel
theorem dX11_game_180 : decode cX11_game 180 = .ok (.iload 5, 2) := by decide +kernel
theorem dX11_game_182 : decode cX11_game 182 = .ok (.ifCond .le 128, 3) := by decide +kernel
theorem dX11_game_185 : decode cX11_game 185 = .ok (.iconst 0, 1) := by decide +kernel
theorem dX11_game_186 : decode cX11_game 186 = .ok (.istore 6, 2) := by decide +kernel
theorem dX11_game_188 : decode cX11_game 188 = .ok (.iload 6, 2) := by decide +kernel
theorem dX11_game_190 : decode cX11_game 190 = .ok (.iload 5, 2) := by decide +kernel
theorem dX11_game_192 : decode cX11_game 192 = .ok (.if_icmp .ge 108, 3) := by decide +kernel
theorem dX11_game_195 : decode cX11_game 195 = .ok (.ldc 201, 2) := by decide +kernel
theorem dX11_game_197 : decode cX11_game 197 = .ok (.istore 7, 2) := by decide +kernel
theorem dX11_game_199 : decode cX11_game 199 = .ok (.iconst 0, 1) := by decide +kernel
theorem dX11_game_200 : decode cX11_game 200 = .ok (.istore 8, 2) := by decide +kernel
theorem dX11_game_202 : decode cX11_game 202 = .ok (.iload 8, 2) := by decide +kernel
theorem dX11_game_204 : decode cX11_game 204 = .ok (.iconst 3, 1) := by decide +kernel
theorem dX11_game_205 : decode cX11_game 205 = .ok (.if_icmp .ge 80, 3) := by decide +kernel
theorem dX11_game_208 : decode cX11_game 208 = .ok (.ldc 146, 2) := by decide +kernel
theorem dX11_game_210 : decode cX11_game 210 = .ok (.istore 9, 2) := by decide +kernel
theorem dX11_game_212 : decode cX11_game 212 = .ok (.iconst 0, 1) := by decide +kernel
theorem dX11_game_213 : decode cX11_game 213 = .ok (.istore 10, 2) := by decide +kernel
theorem dX11_game_215 : decode cX11_game 215 = .ok (.iload 10, 2) := by decide +kernel
theorem dX11_game_217 : decode cX11_game 217 = .ok (.iconst 3, 1) := by decide +kernel
theorem dX11_game_218 : decode cX11_game 218 = .ok (.if_icmp .ge 45, 3) := by decide +kernel
theorem dX11_game_221 : decode cX11_game 221 = .ok (.aload_n 0, 1) := by decide +kernel
theorem dX11_game_222 : decode cX11_game 222 = .ok (.getfield 33, 3) := by decide +kernel
theorem dX11_game_225 : decode cX11_game 225 = .ok (.bipush 9, 2) := by decide +kernel
theorem dX11_game_227 : decode cX11_game 227 = .ok (.iload 6, 2) := by decide +kernel
theorem dX11_game_229 : decode cX11_game 229 = .ok (.imul, 1) := by decide +kernel
theorem dX11_game_230 : decode cX11_game 230 = .ok (.iconst 3, 1) := by decide +kernel
theorem dX11_game_231 : decode cX11_game 231 = .ok (.iload 8, 2) := by decide +kernel
theorem dX11_game_233 : decode cX11_game 233 = .ok (.imul, 1) := by decide +kernel
theorem dX11_game_234 : decode cX11_game 234 = .ok (.iadd, 1) := by decide +kernel
theorem dX11_game_235 : decode cX11_game 235 = .ok (.iload 10, 2) := by decide +kernel
theorem dX11_game_237 : decode cX11_game 237 = .ok (.iadd, 1) := by decide +kernel
theorem dX11_game_238 : decode cX11_game 238 = .ok (.iaload, 1) := by decide +kernel
theorem dX11_game_239 : decode cX11_game 239 = .ok (.istore 11, 2) := by decide +kernel
theorem dX11_game_241 : decode cX11_game 241 = .ok (.iload 11, 2) := by decide +kernel
theorem dX11_game_243 : decode cX11_game 243 = .ok (.iload 9, 2) := by decide +kernel
theorem dX11_game_245 : decode cX11_game 245 = .ok (.if_icmp .ge 8, 3) := by decide +kernel
theorem dX11_game_248 : decode cX11_game 248 = .ok (.iload 11, 2) := by decide +kernel
theorem dX11_game_250 : decode cX11_game 250 = .ok (.goto 5, 3) := by decide +kernel
theorem dX11_game_253 : decode cX11_game 253 = .ok (.iload 9, 2) := by decide +kernel
theorem dX11_game_255 : decode cX11_game 255 = .ok (.istore 9, 2) := by decide +kernel
theorem dX11_game_257 : decode cX11_game 257 = .ok (.iinc 10 1, 3) := by decide +kernel
theorem dX11_game_260 : decode cX11_game 260 = .ok (.goto (-45), 3) := by decide +kernel
theorem dX11_game_263 : decode cX11_game 263 = .ok (.iload 9, 2) := by decide +kernel
theorem dX11_game_265 : decode cX11_game 265 = .ok (.iload 7, 2) := by decide +kernel
theorem dX11_game_267 : decode cX11_game 267 = .ok (.if_icmp .le 8, 3) := by decide +kernel
theorem dX11_game_270 : decode cX11_game 270 = .ok (.iload 9, 2) := by decide +kernel
theorem dX11_game_272 : decode cX11_game 272 = .ok (.goto 5, 3) := by decide +kernel
theorem dX11_game_275 : decode cX11_game 275 = .ok (.iload 7, 2) := by decide +kernel
theorem dX11_game_277 : decode cX11_game 277 = .ok (.istore 7, 2) := by decide +kernel
theorem dX11_game_279 : decode cX11_game 279 = .ok (.iinc 8 1, 3) := by decide +kernel
theorem dX11_game_282 : decode cX11_game 282 = .ok (.goto (-80), 3) := by decide +kernel
theorem dX11_game_285 : decode cX11_game 285 = .ok (.aload_n 0, 1) := by decide +kernel
theorem dX11_game_286 : decode cX11_game 286 = .ok (.getfield 33, 3) := by decide +kernel
theorem dX11_game_289 : decode cX11_game 289 = .ok (.iload 6, 2) := by decide +kernel
theorem dX11_game_291 : decode cX11_game 291 = .ok (.iload 7, 2) := by decide +kernel
theorem dX11_game_293 : decode cX11_game 293 = .ok (.iastore, 1) := by decide +kernel
theorem dX11_game_294 : decode cX11_game 294 = .ok (.iinc 6 1, 3) := by decide +kernel
theorem dX11_game_297 : decode cX11_game 297 = .ok (.goto (-109), 3) := by decide +kernel
theorem dX11_game_300 : decode cX11_game 300 = .ok (.iload 5, 2) := by decide +kernel
theorem dX11_game_302 : decode cX11_game 302 = .ok (.bipush 9, 2) := by decide +kernel
theorem dX11_game_304 : decode cX11_game 304 = .ok (.idiv, 1) := by decide +kernel
theorem dX11_game_305 : decode cX11_game 305 = .ok (.istore 5, 2) := by decide +kernel
theorem dX11_game_307 : decode cX11_game 307 = .ok (.goto (-127), 3) := by decide +kernel
theorem dX11_game_310 : decode cX11_game 310 = .ok (.aload_n 0, 1) := by decide +kernel
theorem dX11_game_311 : decode cX11_game 311 = .ok (.getfield 33, 3) := by decide +kernel
theorem dX11_game_314 : decode cX11_game 314 = .ok (.iconst 0, 1) := by decide +kernel
theorem dX11_game_315 : decode cX11_game 315 = .ok (.iaload, 1) := by decide +kernel
theorem dX11_game_316 : decode cX11_game 316 = .ok (.sipush 2000, 3) := by decide +kernel
theorem dX11_game_319 : decode cX11_game 319 = .ok (.iadd, 1) := by decide +kernel
theorem dX11_game_320 : decode cX11_game 320 = .ok (.ireturn, 1) := by decide +kernel
theorem dX11_isSheet_0 : decode cX11_isSheet 0 = .ok (.iload_n 0, 1) := by decide +kernel
theorem dX11_isSheet_1 : decode cX11_isSheet 1 = .ok (.i2l, 1) := by decide +kernel
theorem dX11_isSheet_2 : decode cX11_isSheet 2 = .ok (.lconst 0, 1) := by decide +kernel
theorem dX11_isSheet_3 : decode cX11_isSheet 3 = .ok (.ldc2_w 169, 3) := by decide +kernel
theorem dX11_isSheet_6 : decode cX11_isSheet 6 = .ok (.invokestatic 42, 3) := by decide +kernel
theorem dX11_isSheet_9 : decode cX11_isSheet 9 = .ok (.ireturn, 1) := by decide +kernel
theorem dX11_sheet_0 : decode cX11_sheet 0 = .ok (.iload_n 1, 1) := by decide +kernel
theorem dX11_sheet_1 : decode cX11_sheet 1 = .ok (.invokestatic 202, 3) := by decide +kernel
theorem dX11_sheet_4 : decode cX11_sheet 4 = .ok (.ifCond .eq 21, 3) := by decide +kernel
theorem dX11_sheet_7 : decode cX11_sheet 7 = .ok (.iload_n 2, 1) := by decide +kernel
theorem dX11_sheet_8 : decode cX11_sheet 8 = .ok (.i2l, 1) := by decide +kernel
theorem dX11_sheet_9 : decode cX11_sheet 9 = .ok (.lconst 0, 1) := by decide +kernel
theorem dX11_sheet_10 : decode cX11_sheet 10 = .ok (.ldc2_w 169, 3) := by decide +kernel
theorem dX11_sheet_13 : decode cX11_sheet 13 = .ok (.invokestatic 42, 3) := by decide +kernel
theorem dX11_sheet_16 : decode cX11_sheet 16 = .ok (.ifCond .eq 9, 3) := by decide +kernel
theorem dX11_sheet_19 : decode cX11_sheet 19 = .ok (.iload_n 3, 1) := by decide +kernel
theorem dX11_sheet_20 : decode cX11_sheet 20 = .ok (.bipush 24, 2) := by decide +kernel
theorem dX11_sheet_22 : decode cX11_sheet 22 = .ok (.if_icmp .le 5, 3) := by decide +kernel
theorem dX11_sheet_25 : decode cX11_sheet 25 = .ok (.iconst (-1), 1) := by decide +kernel
theorem dX11_sheet_26 : decode cX11_sheet 26 = .ok (.ireturn, 1) := by decide +kernel
theorem dX11_sheet_27 : decode cX11_sheet 27 = .ok (.iload_n 3, 1) := by decide +kernel
theorem dX11_sheet_28 : decode cX11_sheet 28 = .ok (.ifCond .ge 6, 3) := by decide +kernel
theorem dX11_sheet_31 : decode cX11_sheet 31 = .ok (.bipush (-14), 2) := by decide +kernel
theorem dX11_sheet_33 : decode cX11_sheet 33 = .ok (.ireturn, 1) := by decide +kernel
theorem dX11_sheet_34 : decode cX11_sheet 34 = .ok (.aload_n 0, 1) := by decide +kernel
theorem dX11_sheet_35 : decode cX11_sheet 35 = .ok (.getfield 21, 3) := by decide +kernel
theorem dX11_sheet_38 : decode cX11_sheet 38 = .ok (.iload_n 1, 1) := by decide +kernel
theorem dX11_sheet_39 : decode cX11_sheet 39 = .ok (.iload_n 2, 1) := by decide +kernel
theorem dX11_sheet_40 : decode cX11_sheet 40 = .ok (.iastore, 1) := by decide +kernel
theorem dX11_sheet_41 : decode cX11_sheet 41 = .ok (.aload_n 0, 1) := by decide +kernel
theorem dX11_sheet_42 : decode cX11_sheet 42 = .ok (.getfield 24, 3) := by decide +kernel
theorem dX11_sheet_45 : decode cX11_sheet 45 = .ok (.iload_n 1, 1) := by decide +kernel
theorem dX11_sheet_46 : decode cX11_sheet 46 = .ok (.iload_n 3, 1) := by decide +kernel
theorem dX11_sheet_47 : decode cX11_sheet 47 = .ok (.iastore, 1) := by decide +kernel
theorem dX11_sheet_48 : decode cX11_sheet 48 = .ok (.iconst 0, 1) := by decide +kernel
theorem dX11_sheet_49 : decode cX11_sheet 49 = .ok (.istore 4, 2) := by decide +kernel
theorem dX11_sheet_51 : decode cX11_sheet 51 = .ok (.iload 4, 2) := by decide +kernel
theorem dX11_sheet_53 : decode cX11_sheet 53 = .ok (.bipush 24, 2) := by decide +kernel
theorem dX11_sheet_55 : decode cX11_sheet 55 = .ok (.if_icmp .ge 22, 3) := by decide +kernel
theorem dX11_sheet_58 : decode cX11_sheet 58 = .ok (.aload_n 0, 1) := by decide +kernel
theorem dX11_sheet_59 : decode cX11_sheet 59 = .ok (.getfield 17, 3) := by decide +kernel
theorem dX11_sheet_62 : decode cX11_sheet 62 = .ok (.bipush 24, 2) := by decide +kernel
theorem dX11_sheet_64 : decode cX11_sheet 64 = .ok (.iload_n 1, 1) := by decide +kernel
theorem dX11_sheet_65 : decode cX11_sheet 65 = .ok (.imul, 1) := by decide +kernel
theorem dX11_sheet_66 : decode cX11_sheet 66 = .ok (.iload 4, 2) := by decide +kernel
theorem dX11_sheet_68 : decode cX11_sheet 68 = .ok (.iadd, 1) := by decide +kernel
theorem dX11_sheet_69 : decode cX11_sheet 69 = .ok (.lconst 0, 1) := by decide +kernel
theorem dX11_sheet_70 : decode cX11_sheet 70 = .ok (.lastore, 1) := by decide +kernel
theorem dX11_sheet_71 : decode cX11_sheet 71 = .ok (.iinc 4 1, 3) := by decide +kernel
theorem dX11_sheet_74 : decode cX11_sheet 74 = .ok (.goto (-23), 3) := by decide +kernel
theorem dX11_sheet_77 : decode cX11_sheet 77 = .ok (.iload_n 3, 1) := by decide +kernel
theorem dX11_sheet_78 : decode cX11_sheet 78 = .ok (.ireturn, 1) := by decide +kernel
theorem dX11_drop_0 : decode cX11_drop 0 = .ok (.iload_n 1, 1) := by decide +kernel
theorem dX11_drop_1 : decode cX11_drop 1 = .ok (.invokestatic 202, 3) := by decide +kernel
theorem dX11_drop_4 : decode cX11_drop 4 = .ok (.ifCond .ne 5, 3) := by decide +kernel
theorem dX11_drop_7 : decode cX11_drop 7 = .ok (.iconst (-1), 1) := by decide +kernel
theorem dX11_drop_8 : decode cX11_drop 8 = .ok (.ireturn, 1) := by decide +kernel
theorem dX11_drop_9 : decode cX11_drop 9 = .ok (.aload_n 0, 1) := by decide +kernel
theorem dX11_drop_10 : decode cX11_drop 10 = .ok (.getfield 24, 3) := by decide +kernel
theorem dX11_drop_13 : decode cX11_drop 13 = .ok (.iload_n 1, 1) := by decide +kernel
theorem dX11_drop_14 : decode cX11_drop 14 = .ok (.iaload, 1) := by decide +kernel
theorem dX11_drop_15 : decode cX11_drop 15 = .ok (.ifCond .ge 6, 3) := by decide +kernel
theorem dX11_drop_18 : decode cX11_drop 18 = .ok (.bipush (-11), 2) := by decide +kernel
theorem dX11_drop_20 : decode cX11_drop 20 = .ok (.ireturn, 1) := by decide +kernel
theorem dX11_drop_21 : decode cX11_drop 21 = .ok (.aload_n 0, 1) := by decide +kernel
theorem dX11_drop_22 : decode cX11_drop 22 = .ok (.getfield 24, 3) := by decide +kernel
theorem dX11_drop_25 : decode cX11_drop 25 = .ok (.iload_n 1, 1) := by decide +kernel
theorem dX11_drop_26 : decode cX11_drop 26 = .ok (.iaload, 1) := by decide +kernel
theorem dX11_drop_27 : decode cX11_drop 27 = .ok (.istore_n 2, 1) := by decide +kernel
theorem dX11_drop_28 : decode cX11_drop 28 = .ok (.aload_n 0, 1) := by decide +kernel
theorem dX11_drop_29 : decode cX11_drop 29 = .ok (.getfield 24, 3) := by decide +kernel
theorem dX11_drop_32 : decode cX11_drop 32 = .ok (.iload_n 1, 1) := by decide +kernel
theorem dX11_drop_33 : decode cX11_drop 33 = .ok (.iconst (-1), 1) := by decide +kernel
theorem dX11_drop_34 : decode cX11_drop 34 = .ok (.iastore, 1) := by decide +kernel
theorem dX11_drop_35 : decode cX11_drop 35 = .ok (.iload_n 2, 1) := by decide +kernel
theorem dX11_drop_36 : decode cX11_drop 36 = .ok (.ireturn, 1) := by decide +kernel
theorem dX11_against_0 : decode cX11_against 0 = .ok (.aload_n 0, 1) := by decide +kernel
theorem dX11_against_1 : decode cX11_against 1 = .ok (.getfield 24, 3) := by decide +kernel
theorem dX11_against_4 : decode cX11_against 4 = .ok (.iload_n 1, 1) := by decide +kernel
theorem dX11_against_5 : decode cX11_against 5 = .ok (.iaload, 1) := by decide +kernel
theorem dX11_against_6 : decode cX11_against 6 = .ok (.ifCond .ge 6, 3) := by decide +kernel
theorem dX11_against_9 : decode cX11_against 9 = .ok (.bipush (-11), 2) := by decide +kernel
theorem dX11_against_11 : decode cX11_against 11 = .ok (.ireturn, 1) := by decide +kernel
theorem dX11_against_12 : decode cX11_against 12 = .ok (.aload_n 0, 1) := by decide +kernel
theorem dX11_against_13 : decode cX11_against 13 = .ok (.getfield 21, 3) := by decide +kernel
theorem dX11_against_16 : decode cX11_against 16 = .ok (.iload_n 1, 1) := by decide +kernel
theorem dX11_against_17 : decode cX11_against 17 = .ok (.iaload, 1) := by decide +kernel
theorem dX11_against_18 : decode cX11_against 18 = .ok (.iload_n 2, 1) := by decide +kernel
theorem dX11_against_19 : decode cX11_against 19 = .ok (.if_icmp .eq 6, 3) := by decide +kernel
theorem dX11_against_22 : decode cX11_against 22 = .ok (.bipush (-12), 2) := by decide +kernel
theorem dX11_against_24 : decode cX11_against 24 = .ok (.ireturn, 1) := by decide +kernel
theorem dX11_against_25 : decode cX11_against 25 = .ok (.iload_n 3, 1) := by decide +kernel
theorem dX11_against_26 : decode cX11_against 26 = .ok (.ifCond .lt 25, 3) := by decide +kernel
theorem dX11_against_29 : decode cX11_against 29 = .ok (.iload 4, 2) := by decide +kernel
theorem dX11_against_31 : decode cX11_against 31 = .ok (.ifCond .lt 20, 3) := by decide +kernel
theorem dX11_against_34 : decode cX11_against 34 = .ok (.iload_n 3, 1) := by decide +kernel
theorem dX11_against_35 : decode cX11_against 35 = .ok (.i2l, 1) := by decide +kernel
theorem dX11_against_36 : decode cX11_against 36 = .ok (.iload 4, 2) := by decide +kernel
theorem dX11_against_38 : decode cX11_against 38 = .ok (.i2l, 1) := by decide +kernel
theorem dX11_against_39 : decode cX11_against 39 = .ok (.ladd, 1) := by decide +kernel
theorem dX11_against_40 : decode cX11_against 40 = .ok (.aload_n 0, 1) := by decide +kernel
theorem dX11_against_41 : decode cX11_against 41 = .ok (.getfield 24, 3) := by decide +kernel
theorem dX11_against_44 : decode cX11_against 44 = .ok (.iload_n 1, 1) := by decide +kernel
theorem dX11_against_45 : decode cX11_against 45 = .ok (.iaload, 1) := by decide +kernel
theorem dX11_against_46 : decode cX11_against 46 = .ok (.i2l, 1) := by decide +kernel
theorem dX11_against_47 : decode cX11_against 47 = .ok (.lcmp, 1) := by decide +kernel
theorem dX11_against_48 : decode cX11_against 48 = .ok (.ifCond .le 8, 3) := by decide +kernel
theorem dX11_against_51 : decode cX11_against 51 = .ok (.bipush (-13), 2) := by decide +kernel
theorem dX11_against_53 : decode cX11_against 53 = .ok (.goto 4, 3) := by decide +kernel
theorem dX11_against_56 : decode cX11_against 56 = .ok (.iconst 0, 1) := by decide +kernel
theorem dX11_against_57 : decode cX11_against 57 = .ok (.ireturn, 1) := by decide +kernel
theorem dX11_isLane_0 : decode cX11_isLane 0 = .ok (.iload_n 0, 1) := by decide +kernel
theorem dX11_isLane_1 : decode cX11_isLane 1 = .ok (.invokestatic 202, 3) := by decide +kernel
theorem dX11_isLane_4 : decode cX11_isLane 4 = .ok (.ifCond .eq 19, 3) := by decide +kernel
theorem dX11_isLane_7 : decode cX11_isLane 7 = .ok (.iload_n 1, 1) := by decide +kernel
theorem dX11_isLane_8 : decode cX11_isLane 8 = .ok (.i2l, 1) := by decide +kernel
theorem dX11_isLane_9 : decode cX11_isLane 9 = .ok (.lconst 0, 1) := by decide +kernel
theorem dX11_isLane_10 : decode cX11_isLane 10 = .ok (.ldc2_w 169, 3) := by decide +kernel
theorem dX11_isLane_13 : decode cX11_isLane 13 = .ok (.invokestatic 42, 3) := by decide +kernel
theorem dX11_isLane_16 : decode cX11_isLane 16 = .ok (.ifCond .eq 7, 3) := by decide +kernel
theorem dX11_isLane_19 : decode cX11_isLane 19 = .ok (.iconst 1, 1) := by decide +kernel
theorem dX11_isLane_20 : decode cX11_isLane 20 = .ok (.goto 4, 3) := by decide +kernel
theorem dX11_isLane_23 : decode cX11_isLane 23 = .ok (.iconst 0, 1) := by decide +kernel
theorem dX11_isLane_24 : decode cX11_isLane 24 = .ok (.ireturn, 1) := by decide +kernel
theorem dX11_cut_0 : decode cX11_cut 0 = .ok (.iload_n 0, 1) := by decide +kernel
theorem dX11_cut_1 : decode cX11_cut 1 = .ok (.ifCond .ne 10, 3) := by decide +kernel
theorem dX11_cut_4 : decode cX11_cut 4 = .ok (.lload_n 1, 1) := by decide +kernel
theorem dX11_cut_5 : decode cX11_cut 5 = .ok (.l2i, 1) := by decide +kernel
theorem dX11_cut_6 : decode cX11_cut 6 = .ok (.i2b, 1) := by decide +kernel
theorem dX11_cut_7 : decode cX11_cut 7 = .ok (.i2l, 1) := by decide +kernel
theorem dX11_cut_8 : decode cX11_cut 8 = .ok (.goto 27, 3) := by decide +kernel
theorem dX11_cut_11 : decode cX11_cut 11 = .ok (.iload_n 0, 1) := by decide +kernel
theorem dX11_cut_12 : decode cX11_cut 12 = .ok (.iconst 1, 1) := by decide +kernel
theorem dX11_cut_13 : decode cX11_cut 13 = .ok (.if_icmp .ne 10, 3) := by decide +kernel
theorem dX11_cut_16 : decode cX11_cut 16 = .ok (.lload_n 1, 1) := by decide +kernel
theorem dX11_cut_17 : decode cX11_cut 17 = .ok (.l2i, 1) := by decide +kernel
theorem dX11_cut_18 : decode cX11_cut 18 = .ok (.i2s, 1) := by decide +kernel
theorem dX11_cut_19 : decode cX11_cut 19 = .ok (.i2l, 1) := by decide +kernel
theorem dX11_cut_20 : decode cX11_cut 20 = .ok (.goto 15, 3) := by decide +kernel
theorem dX11_cut_23 : decode cX11_cut 23 = .ok (.iload_n 0, 1) := by decide +kernel
theorem dX11_cut_24 : decode cX11_cut 24 = .ok (.iconst 2, 1) := by decide +kernel
theorem dX11_cut_25 : decode cX11_cut 25 = .ok (.if_icmp .ne 9, 3) := by decide +kernel
theorem dX11_cut_28 : decode cX11_cut 28 = .ok (.lload_n 1, 1) := by decide +kernel
theorem dX11_cut_29 : decode cX11_cut 29 = .ok (.l2i, 1) := by decide +kernel
theorem dX11_cut_30 : decode cX11_cut 30 = .ok (.i2l, 1) := by decide +kernel
theorem dX11_cut_31 : decode cX11_cut 31 = .ok (.goto 4, 3) := by decide +kernel
theorem dX11_cut_34 : decode cX11_cut 34 = .ok (.lload_n 1, 1) := by decide +kernel
theorem dX11_cut_35 : decode cX11_cut 35 = .ok (.lreturn, 1) := by decide +kernel
theorem dX11_item_0 : decode cX11_item 0 = .ok (.iload_n 1, 1) := by decide +kernel
theorem dX11_item_1 : decode cX11_item 1 = .ok (.iload_n 2, 1) := by decide +kernel
theorem dX11_item_2 : decode cX11_item 2 = .ok (.invokestatic 205, 3) := by decide +kernel
theorem dX11_item_5 : decode cX11_item 5 = .ok (.ifCond .ne 7, 3) := by decide +kernel
theorem dX11_item_8 : decode cX11_item 8 = .ok (.ldc2_w 185, 3) := by decide +kernel
theorem dX11_item_11 : decode cX11_item 11 = .ok (.lreturn, 1) := by decide +kernel
theorem dX11_item_12 : decode cX11_item 12 = .ok (.aload_n 0, 1) := by decide +kernel
theorem dX11_item_13 : decode cX11_item 13 = .ok (.iload_n 1, 1) := by decide +kernel
theorem dX11_item_14 : decode cX11_item 14 = .ok (.iload_n 2, 1) := by decide +kernel
theorem dX11_item_15 : decode cX11_item 15 = .ok (.iload_n 3, 1) := by decide +kernel
theorem dX11_item_16 : decode cX11_item 16 = .ok (.iconst 1, 1) := by decide +kernel
theorem dX11_item_17 : decode cX11_item 17 = .ok (.invokevirtual 208, 3) := by decide +kernel
theorem dX11_item_20 : decode cX11_item 20 = .ok (.istore 6, 2) := by decide +kernel
theorem dX11_item_22 : decode cX11_item 22 = .ok (.iload 6, 2) := by decide +kernel
theorem dX11_item_24 : decode cX11_item 24 = .ok (.ifCond .ge 7, 3) := by decide +kernel
theorem dX11_item_27 : decode cX11_item 27 = .ok (.iload 6, 2) := by decide +kernel
theorem dX11_item_29 : decode cX11_item 29 = .ok (.i2l, 1) := by decide +kernel
theorem dX11_item_30 : decode cX11_item 30 = .ok (.lreturn, 1) := by decide +kernel
theorem dX11_item_31 : decode cX11_item 31 = .ok (.aload_n 0, 1) := by decide +kernel
theorem dX11_item_32 : decode cX11_item 32 = .ok (.getfield 17, 3) := by decide +kernel
theorem dX11_item_35 : decode cX11_item 35 = .ok (.bipush 24, 2) := by decide +kernel
theorem dX11_item_37 : decode cX11_item 37 = .ok (.iload_n 1, 1) := by decide +kernel
theorem dX11_item_38 : decode cX11_item 38 = .ok (.imul, 1) := by decide +kernel
theorem dX11_item_39 : decode cX11_item 39 = .ok (.iload_n 3, 1) := by decide +kernel
theorem dX11_item_40 : decode cX11_item 40 = .ok (.iadd, 1) := by decide +kernel
theorem dX11_item_41 : decode cX11_item 41 = .ok (.iload_n 2, 1) := by decide +kernel
theorem dX11_item_42 : decode cX11_item 42 = .ok (.lload 4, 2) := by decide +kernel
theorem dX11_item_44 : decode cX11_item 44 = .ok (.invokestatic 212, 3) := by decide +kernel
theorem dX11_item_47 : decode cX11_item 47 = .ok (.lastore, 1) := by decide +kernel
theorem dX11_item_48 : decode cX11_item 48 = .ok (.aload_n 0, 1) := by decide +kernel
theorem dX11_item_49 : decode cX11_item 49 = .ok (.getfield 17, 3) := by decide +kernel
theorem dX11_item_52 : decode cX11_item 52 = .ok (.bipush 24, 2) := by decide +kernel
theorem dX11_item_54 : decode cX11_item 54 = .ok (.iload_n 1, 1) := by decide +kernel
theorem dX11_item_55 : decode cX11_item 55 = .ok (.imul, 1) := by decide +kernel
theorem dX11_item_56 : decode cX11_item 56 = .ok (.iload_n 3, 1) := by decide +kernel
theorem dX11_item_57 : decode cX11_item 57 = .ok (.iadd, 1) := by decide +kernel
theorem dX11_item_58 : decode cX11_item 58 = .ok (.laload, 1) := by decide +kernel
theorem dX11_item_59 : decode cX11_item 59 = .ok (.lreturn, 1) := by decide +kernel
theorem dX11_copy_0 : decode cX11_copy 0 = .ok (.iload_n 1, 1) := by decide +kernel
theorem dX11_copy_1 : decode cX11_copy 1 = .ok (.invokestatic 202, 3) := by decide +kernel
theorem dX11_copy_4 : decode cX11_copy 4 = .ok (.ifCond .eq 10, 3) := by decide +kernel
theorem dX11_copy_7 : decode cX11_copy 7 = .ok (.iload_n 3, 1) := by decide +kernel
theorem dX11_copy_8 : decode cX11_copy 8 = .ok (.invokestatic 202, 3) := by decide +kernel
theorem dX11_copy_11 : decode cX11_copy 11 = .ok (.ifCond .ne 5, 3) := by decide +kernel
theorem dX11_copy_14 : decode cX11_copy 14 = .ok (.iconst (-1), 1) := by decide +kernel
theorem dX11_copy_15 : decode cX11_copy 15 = .ok (.ireturn, 1) := by decide +kernel
theorem dX11_copy_16 : decode cX11_copy 16 = .ok (.aload_n 0, 1) := by decide +kernel
theorem dX11_copy_17 : decode cX11_copy 17 = .ok (.getfield 24, 3) := by decide +kernel
theorem dX11_copy_20 : decode cX11_copy 20 = .ok (.iload_n 1, 1) := by decide +kernel
theorem dX11_copy_21 : decode cX11_copy 21 = .ok (.iaload, 1) := by decide +kernel
theorem dX11_copy_22 : decode cX11_copy 22 = .ok (.ifCond .lt 12, 3) := by decide +kernel
theorem dX11_copy_25 : decode cX11_copy 25 = .ok (.aload_n 0, 1) := by decide +kernel
theorem dX11_copy_26 : decode cX11_copy 26 = .ok (.getfield 24, 3) := by decide +kernel
theorem dX11_copy_29 : decode cX11_copy 29 = .ok (.iload_n 3, 1) := by decide +kernel
theorem dX11_copy_30 : decode cX11_copy 30 = .ok (.iaload, 1) := by decide +kernel
theorem dX11_copy_31 : decode cX11_copy 31 = .ok (.ifCond .ge 6, 3) := by decide +kernel
theorem dX11_copy_34 : decode cX11_copy 34 = .ok (.bipush (-11), 2) := by decide +kernel
theorem dX11_copy_36 : decode cX11_copy 36 = .ok (.ireturn, 1) := by decide +kernel
theorem dX11_copy_37 : decode cX11_copy 37 = .ok (.aload_n 0, 1) := by decide +kernel
theorem dX11_copy_38 : decode cX11_copy 38 = .ok (.getfield 21, 3) := by decide +kernel
theorem dX11_copy_41 : decode cX11_copy 41 = .ok (.iload_n 1, 1) := by decide +kernel
theorem dX11_copy_42 : decode cX11_copy 42 = .ok (.iaload, 1) := by decide +kernel
theorem dX11_copy_43 : decode cX11_copy 43 = .ok (.aload_n 0, 1) := by decide +kernel
theorem dX11_copy_44 : decode cX11_copy 44 = .ok (.getfield 21, 3) := by decide +kernel
theorem dX11_copy_47 : decode cX11_copy 47 = .ok (.iload_n 3, 1) := by decide +kernel
theorem dX11_copy_48 : decode cX11_copy 48 = .ok (.iaload, 1) := by decide +kernel
theorem dX11_copy_49 : decode cX11_copy 49 = .ok (.if_icmp .eq 6, 3) := by decide +kernel
theorem dX11_copy_52 : decode cX11_copy 52 = .ok (.bipush (-12), 2) := by decide +kernel
theorem dX11_copy_54 : decode cX11_copy 54 = .ok (.ireturn, 1) := by decide +kernel
theorem dX11_copy_55 : decode cX11_copy 55 = .ok (.aload_n 0, 1) := by decide +kernel
theorem dX11_copy_56 : decode cX11_copy 56 = .ok (.iload_n 1, 1) := by decide +kernel
theorem dX11_copy_57 : decode cX11_copy 57 = .ok (.aload_n 0, 1) := by decide +kernel
theorem dX11_copy_58 : decode cX11_copy 58 = .ok (.getfield 21, 3) := by decide +kernel
theorem dX11_copy_61 : decode cX11_copy 61 = .ok (.iload_n 1, 1) := by decide +kernel
theorem dX11_copy_62 : decode cX11_copy 62 = .ok (.iaload, 1) := by decide +kernel
