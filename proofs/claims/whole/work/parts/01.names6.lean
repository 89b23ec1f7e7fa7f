theorem dX5_tents_38 : decode cX5_tents 38 = .ok (.istore_n 3, 1) := by decide +kernel
theorem dX5_tents_39 : decode cX5_tents 39 = .ok (.iconst 0, 1) := by decide +kernel
theorem dX5_tents_40 : decode cX5_tents 40 = .ok (.istore 4, 2) := by decide +kernel
theorem dX5_tents_42 : decode cX5_tents 42 = .ok (.iload 4, 2) := by decide +kernel
theorem dX5_tents_44 : decode cX5_tents 44 = .ok (.aload_n 0, 1) := by decide +kernel
theorem dX5_tents_45 : decode cX5_tents 45 = .ok (.getfield 169, 3) := by decide +kernel
theorem dX5_tents_48 : decode cX5_tents 48 = .ok (.if_icmp .ge 104, 3) := by decide +kernel
theorem dX5_tents_51 : decode cX5_tents 51 = .ok (.aload_n 0, 1) := by decide +kernel
theorem dX5_tents_52 : decode cX5_tents 52 = .ok (.getfield 41, 3) := by decide +kernel
theorem dX5_tents_55 : decode cX5_tents 55 = .ok (.iload 4, 2) := by decide +kernel
theorem dX5_tents_57 : decode cX5_tents 57 = .ok (.iaload, 1) := by decide +kernel
theorem dX5_tents_58 : decode cX5_tents 58 = .ok (.ifCond .ne 9, 3) := by decide +kernel
theorem dX5_tents_61 : decode cX5_tents 61 = .ok (.iload_n 2, 1) := by decide +kernel
theorem dX5_tents_62 : decode cX5_tents 62 = .ok (.iconst 4, 1) := by decide +kernel
theorem dX5_tents_63 : decode cX5_tents 63 = .ok (.idiv, 1) := by decide +kernel
theorem dX5_tents_64 : decode cX5_tents 64 = .ok (.goto 6, 3) := by decide +kernel
theorem dX5_tents_67 : decode cX5_tents 67 = .ok (.iload_n 2, 1) := by decide +kernel
theorem dX5_tents_68 : decode cX5_tents 68 = .ok (.iconst 4, 1) := by decide +kernel
theorem dX5_tents_69 : decode cX5_tents 69 = .ok (.irem, 1) := by decide +kernel
theorem dX5_tents_70 : decode cX5_tents 70 = .ok (.istore 5, 2) := by decide +kernel
theorem dX5_tents_72 : decode cX5_tents 72 = .ok (.iconst 0, 1) := by decide +kernel
theorem dX5_tents_73 : decode cX5_tents 73 = .ok (.iload 5, 2) := by decide +kernel
theorem dX5_tents_75 : decode cX5_tents 75 = .ok (.invokestatic 83, 3) := by decide +kernel
theorem dX5_tents_78 : decode cX5_tents 78 = .ok (.bipush 8, 2) := by decide +kernel
theorem dX5_tents_80 : decode cX5_tents 80 = .ok (.aload_n 0, 1) := by decide +kernel
theorem dX5_tents_81 : decode cX5_tents 81 = .ok (.getfield 47, 3) := by decide +kernel
theorem dX5_tents_84 : decode cX5_tents 84 = .ok (.iload 4, 2) := by decide +kernel
theorem dX5_tents_86 : decode cX5_tents 86 = .ok (.iaload, 1) := by decide +kernel
theorem dX5_tents_87 : decode cX5_tents 87 = .ok (.imul, 1) := by decide +kernel
theorem dX5_tents_88 : decode cX5_tents 88 = .ok (.iadd, 1) := by decide +kernel
theorem dX5_tents_89 : decode cX5_tents 89 = .ok (.iload 5, 2) := by decide +kernel
theorem dX5_tents_91 : decode cX5_tents 91 = .ok (.invokestatic 192, 3) := by decide +kernel
theorem dX5_tents_94 : decode cX5_tents 94 = .ok (.iadd, 1) := by decide +kernel
theorem dX5_tents_95 : decode cX5_tents 95 = .ok (.bipush 8, 2) := by decide +kernel
theorem dX5_tents_97 : decode cX5_tents 97 = .ok (.aload_n 0, 1) := by decide +kernel
theorem dX5_tents_98 : decode cX5_tents 98 = .ok (.getfield 44, 3) := by decide +kernel
theorem dX5_tents_101 : decode cX5_tents 101 = .ok (.iload 4, 2) := by decide +kernel
theorem dX5_tents_103 : decode cX5_tents 103 = .ok (.iaload, 1) := by decide +kernel
theorem dX5_tents_104 : decode cX5_tents 104 = .ok (.imul, 1) := by decide +kernel
theorem dX5_tents_105 : decode cX5_tents 105 = .ok (.if_icmp .lt 7, 3) := by decide +kernel
theorem dX5_tents_108 : decode cX5_tents 108 = .ok (.iconst 1, 1) := by decide +kernel
theorem dX5_tents_109 : decode cX5_tents 109 = .ok (.goto 4, 3) := by decide +kernel
theorem dX5_tents_112 : decode cX5_tents 112 = .ok (.iconst 0, 1) := by decide +kernel
theorem dX5_tents_113 : decode cX5_tents 113 = .ok (.istore 6, 2) := by decide +kernel
theorem dX5_tents_115 : decode cX5_tents 115 = .ok (.iload_n 3, 1) := by decide +kernel
theorem dX5_tents_116 : decode cX5_tents 116 = .ok (.ifCond .eq 28, 3) := by decide +kernel
theorem dX5_tents_119 : decode cX5_tents 119 = .ok (.iload 6, 2) := by decide +kernel
theorem dX5_tents_121 : decode cX5_tents 121 = .ok (.aload_n 0, 1) := by decide +kernel
theorem dX5_tents_122 : decode cX5_tents 122 = .ok (.getfield 50, 3) := by decide +kernel
theorem dX5_tents_125 : decode cX5_tents 125 = .ok (.iload 4, 2) := by decide +kernel
theorem dX5_tents_127 : decode cX5_tents 127 = .ok (.iaload, 1) := by decide +kernel
theorem dX5_tents_128 : decode cX5_tents 128 = .ok (.iconst 1, 1) := by decide +kernel
theorem dX5_tents_129 : decode cX5_tents 129 = .ok (.if_icmp .ne 7, 3) := by decide +kernel
theorem dX5_tents_132 : decode cX5_tents 132 = .ok (.iconst 1, 1) := by decide +kernel
theorem dX5_tents_133 : decode cX5_tents 133 = .ok (.goto 4, 3) := by decide +kernel
theorem dX5_tents_136 : decode cX5_tents 136 = .ok (.iconst 0, 1) := by decide +kernel
theorem dX5_tents_137 : decode cX5_tents 137 = .ok (.if_icmp .ne 7, 3) := by decide +kernel
theorem dX5_tents_140 : decode cX5_tents 140 = .ok (.iconst 1, 1) := by decide +kernel
theorem dX5_tents_141 : decode cX5_tents 141 = .ok (.goto 4, 3) := by decide +kernel
theorem dX5_tents_144 : decode cX5_tents 144 = .ok (.iconst 0, 1) := by decide +kernel
theorem dX5_tents_145 : decode cX5_tents 145 = .ok (.istore_n 3, 1) := by decide +kernel
theorem dX5_tents_146 : decode cX5_tents 146 = .ok (.iinc 4 1, 3) := by decide +kernel
theorem dX5_tents_149 : decode cX5_tents 149 = .ok (.goto (-107), 3) := by decide +kernel
theorem dX5_tents_152 : decode cX5_tents 152 = .ok (.aload_n 0, 1) := by decide +kernel
theorem dX5_tents_153 : decode cX5_tents 153 = .ok (.iload_n 3, 1) := by decide +kernel
theorem dX5_tents_154 : decode cX5_tents 154 = .ok (.ifCond .eq 23, 3) := by decide +kernel
theorem dX5_tents_157 : decode cX5_tents 157 = .ok (.aload_n 0, 1) := by decide +kernel
theorem dX5_tents_158 : decode cX5_tents 158 = .ok (.getfield 240, 3) := by decide +kernel
theorem dX5_tents_161 : decode cX5_tents 161 = .ok (.ifCond .ne 16, 3) := by decide +kernel
theorem dX5_tents_164 : decode cX5_tents 164 = .ok (.bipush 10, 2) := by decide +kernel
theorem dX5_tents_166 : decode cX5_tents 166 = .ok (.iload_n 2, 1) := by decide +kernel
theorem dX5_tents_167 : decode cX5_tents 167 = .ok (.iconst 4, 1) := by decide +kernel
theorem dX5_tents_168 : decode cX5_tents 168 = .ok (.idiv, 1) := by decide +kernel
theorem dX5_tents_169 : decode cX5_tents 169 = .ok (.imul, 1) := by decide +kernel
theorem dX5_tents_170 : decode cX5_tents 170 = .ok (.iload_n 2, 1) := by decide +kernel
theorem dX5_tents_171 : decode cX5_tents 171 = .ok (.iconst 4, 1) := by decide +kernel
theorem dX5_tents_172 : decode cX5_tents 172 = .ok (.irem, 1) := by decide +kernel
theorem dX5_tents_173 : decode cX5_tents 173 = .ok (.iadd, 1) := by decide +kernel
theorem dX5_tents_174 : decode cX5_tents 174 = .ok (.goto 7, 3) := by decide +kernel
theorem dX5_tents_177 : decode cX5_tents 177 = .ok (.aload_n 0, 1) := by decide +kernel
theorem dX5_tents_178 : decode cX5_tents 178 = .ok (.getfield 243, 3) := by decide +kernel
theorem dX5_tents_181 : decode cX5_tents 181 = .ok (.putfield 243, 3) := by decide +kernel
theorem dX5_tents_184 : decode cX5_tents 184 = .ok (.aload_n 0, 1) := by decide +kernel
theorem dX5_tents_185 : decode cX5_tents 185 = .ok (.dup, 1) := by decide +kernel
theorem dX5_tents_186 : decode cX5_tents 186 = .ok (.getfield 240, 3) := by decide +kernel
theorem dX5_tents_189 : decode cX5_tents 189 = .ok (.iload_n 3, 1) := by decide +kernel
theorem dX5_tents_190 : decode cX5_tents 190 = .ok (.ifCond .eq 7, 3) := by decide +kernel
theorem dX5_tents_193 : decode cX5_tents 193 = .ok (.iconst 1, 1) := by decide +kernel
theorem dX5_tents_194 : decode cX5_tents 194 = .ok (.goto 4, 3) := by decide +kernel
theorem dX5_tents_197 : decode cX5_tents 197 = .ok (.iconst 0, 1) := by decide +kernel
theorem dX5_tents_198 : decode cX5_tents 198 = .ok (.iadd, 1) := by decide +kernel
theorem dX5_tents_199 : decode cX5_tents 199 = .ok (.putfield 240, 3) := by decide +kernel
theorem dX5_tents_202 : decode cX5_tents 202 = .ok (.iinc 2 1, 3) := by decide +kernel
theorem dX5_tents_205 : decode cX5_tents 205 = .ok (.goto (-174), 3) := by decide +kernel
theorem dX5_tents_208 : decode cX5_tents 208 = .ok (.iload_n 1, 1) := by decide +kernel
theorem dX5_tents_209 : decode cX5_tents 209 = .ok (.ifCond .ne 10, 3) := by decide +kernel
theorem dX5_tents_212 : decode cX5_tents 212 = .ok (.aload_n 0, 1) := by decide +kernel
theorem dX5_tents_213 : decode cX5_tents 213 = .ok (.getfield 240, 3) := by decide +kernel
theorem dX5_tents_216 : decode cX5_tents 216 = .ok (.goto 7, 3) := by decide +kernel
theorem dX5_tents_219 : decode cX5_tents 219 = .ok (.aload_n 0, 1) := by decide +kernel
theorem dX5_tents_220 : decode cX5_tents 220 = .ok (.getfield 243, 3) := by decide +kernel
theorem dX5_tents_223 : decode cX5_tents 223 = .ok (.ireturn, 1) := by decide +kernel
theorem dX5_rests_0 : decode cX5_rests 0 = .ok (.aload_n 0, 1) := by decide +kernel
theorem dX5_rests_1 : decode cX5_rests 1 = .ok (.iconst 0, 1) := by decide +kernel
theorem dX5_rests_2 : decode cX5_rests 2 = .ok (.putfield 59, 3) := by decide +kernel
theorem dX5_rests_5 : decode cX5_rests 5 = .ok (.iload_n 1, 1) := by decide +kernel
theorem dX5_rests_6 : decode cX5_rests 6 = .ok (.invokestatic 135, 3) := by decide +kernel
theorem dX5_rests_9 : decode cX5_rests 9 = .ok (.ifCond .ne 10, 3) := by decide +kernel
theorem dX5_rests_12 : decode cX5_rests 12 = .ok (.iload_n 2, 1) := by decide +kernel
theorem dX5_rests_13 : decode cX5_rests 13 = .ok (.invokestatic 135, 3) := by decide +kernel
theorem dX5_rests_16 : decode cX5_rests 16 = .ok (.ifCond .eq 5, 3) := by decide +kernel
theorem dX5_rests_19 : decode cX5_rests 19 = .ok (.iconst (-1), 1) := by decide +kernel
theorem dX5_rests_20 : decode cX5_rests 20 = .ok (.ireturn, 1) := by decide +kernel
theorem dX5_rests_21 : decode cX5_rests 21 = .ok (.iload_n 1, 1) := by decide +kernel
theorem dX5_rests_22 : decode cX5_rests 22 = .ok (.iload_n 2, 1) := by decide +kernel
theorem dX5_rests_23 : decode cX5_rests 23 = .ok (.if_icmp .eq 13, 3) := by decide +kernel
theorem dX5_rests_26 : decode cX5_rests 26 = .ok (.iload_n 3, 1) := by decide +kernel
theorem dX5_rests_27 : decode cX5_rests 27 = .ok (.i2l, 1) := by decide +kernel
theorem dX5_rests_28 : decode cX5_rests 28 = .ok (.lconst 0, 1) := by decide +kernel
theorem dX5_rests_29 : decode cX5_rests 29 = .ok (.lconst 1, 1) := by decide +kernel
theorem dX5_rests_30 : decode cX5_rests 30 = .ok (.invokestatic 65, 3) := by decide +kernel
theorem dX5_rests_33 : decode cX5_rests 33 = .ok (.ifCond .ne 6, 3) := by decide +kernel
theorem dX5_rests_36 : decode cX5_rests 36 = .ok (.bipush (-2), 2) := by decide +kernel
theorem dX5_rests_38 : decode cX5_rests 38 = .ok (.ireturn, 1) := by decide +kernel
theorem dX5_rests_39 : decode cX5_rests 39 = .ok (.aload_n 0, 1) := by decide +kernel
theorem dX5_rests_40 : decode cX5_rests 40 = .ok (.getfield 22, 3) := by decide +kernel
theorem dX5_rests_43 : decode cX5_rests 43 = .ok (.iload_n 1, 1) := by decide +kernel
theorem dX5_rests_44 : decode cX5_rests 44 = .ok (.iaload, 1) := by decide +kernel
theorem dX5_rests_45 : decode cX5_rests 45 = .ok (.ifCond .gt 12, 3) := by decide +kernel
theorem dX5_rests_48 : decode cX5_rests 48 = .ok (.aload_n 0, 1) := by decide +kernel
theorem dX5_rests_49 : decode cX5_rests 49 = .ok (.getfield 22, 3) := by decide +kernel
theorem dX5_rests_52 : decode cX5_rests 52 = .ok (.iload_n 2, 1) := by decide +kernel
theorem dX5_rests_53 : decode cX5_rests 53 = .ok (.iaload, 1) := by decide +kernel
theorem dX5_rests_54 : decode cX5_rests 54 = .ok (.ifCond .le 6, 3) := by decide +kernel
theorem dX5_rests_57 : decode cX5_rests 57 = .ok (.bipush (-3), 2) := by decide +kernel
theorem dX5_rests_59 : decode cX5_rests 59 = .ok (.ireturn, 1) := by decide +kernel
theorem dX5_rests_60 : decode cX5_rests 60 = .ok (.iconst 0, 1) := by decide +kernel
theorem dX5_rests_61 : decode cX5_rests 61 = .ok (.istore 4, 2) := by decide +kernel
theorem dX5_rests_63 : decode cX5_rests 63 = .ok (.iload 4, 2) := by decide +kernel
theorem dX5_rests_65 : decode cX5_rests 65 = .ok (.bipush 25, 2) := by decide +kernel
theorem dX5_rests_67 : decode cX5_rests 67 = .ok (.if_icmp .ge 127, 3) := by decide +kernel
theorem dX5_rests_70 : decode cX5_rests 70 = .ok (.aload_n 0, 1) := by decide +kernel
theorem dX5_rests_71 : decode cX5_rests 71 = .ok (.invokevirtual 209, 3) := by decide +kernel
theorem dX5_rests_74 : decode cX5_rests 74 = .ok (.aload_n 0, 1) := by decide +kernel
theorem dX5_rests_75 : decode cX5_rests 75 = .ok (.iload_n 1, 1) := by decide +kernel
theorem dX5_rests_76 : decode cX5_rests 76 = .ok (.iload 4, 2) := by decide +kernel
theorem dX5_rests_78 : decode cX5_rests 78 = .ok (.iconst 5, 1) := by decide +kernel
theorem dX5_rests_79 : decode cX5_rests 79 = .ok (.idiv, 1) := by decide +kernel
theorem dX5_rests_80 : decode cX5_rests 80 = .ok (.invokevirtual 212, 3) := by decide +kernel
theorem dX5_rests_83 : decode cX5_rests 83 = .ok (.pop, 1) := by decide +kernel
theorem dX5_rests_84 : decode cX5_rests 84 = .ok (.aload_n 0, 1) := by decide +kernel
theorem dX5_rests_85 : decode cX5_rests 85 = .ok (.iload_n 2, 1) := by decide +kernel
theorem dX5_rests_86 : decode cX5_rests 86 = .ok (.iload 4, 2) := by decide +kernel
theorem dX5_rests_88 : decode cX5_rests 88 = .ok (.iconst 5, 1) := by decide +kernel
theorem dX5_rests_89 : decode cX5_rests 89 = .ok (.irem, 1) := by decide +kernel
theorem dX5_rests_90 : decode cX5_rests 90 = .ok (.invokevirtual 212, 3) := by decide +kernel
theorem dX5_rests_93 : decode cX5_rests 93 = .ok (.pop, 1) := by decide +kernel
theorem dX5_rests_94 : decode cX5_rests 94 = .ok (.aload_n 0, 1) := by decide +kernel
theorem dX5_rests_95 : decode cX5_rests 95 = .ok (.getfield 25, 3) := by decide +kernel
theorem dX5_rests_98 : decode cX5_rests 98 = .ok (.invokestatic 122, 3) := by decide +kernel
theorem dX5_rests_101 : decode cX5_rests 101 = .ok (.invokestatic 97, 3) := by decide +kernel
theorem dX5_rests_104 : decode cX5_rests 104 = .ok (.istore 5, 2) := by decide +kernel
theorem dX5_rests_106 : decode cX5_rests 106 = .ok (.aload_n 0, 1) := by decide +kernel
theorem dX5_rests_107 : decode cX5_rests 107 = .ok (.getfield 53, 3) := by decide +kernel
theorem dX5_rests_110 : decode cX5_rests 110 = .ok (.iconst 2, 1) := by decide +kernel
theorem dX5_rests_111 : decode cX5_rests 111 = .ok (.iload 4, 2) := by decide +kernel
theorem dX5_rests_113 : decode cX5_rests 113 = .ok (.imul, 1) := by decide +kernel
theorem dX5_rests_114 : decode cX5_rests 114 = .ok (.iload 5, 2) := by decide +kernel
theorem dX5_rests_116 : decode cX5_rests 116 = .ok (.aload_n 0, 1) := by decide +kernel
theorem dX5_rests_117 : decode cX5_rests 117 = .ok (.getfield 25, 3) := by decide +kernel
theorem dX5_rests_120 : decode cX5_rests 120 = .ok (.iload_n 1, 1) := by decide +kernel
theorem dX5_rests_121 : decode cX5_rests 121 = .ok (.iaload, 1) := by decide +kernel
theorem dX5_rests_122 : decode cX5_rests 122 = .ok (.ifCond .le 7, 3) := by decide +kernel
theorem dX5_rests_125 : decode cX5_rests 125 = .ok (.iconst 2, 1) := by decide +kernel
theorem dX5_rests_126 : decode cX5_rests 126 = .ok (.goto 4, 3) := by decide +kernel
theorem dX5_rests_129 : decode cX5_rests 129 = .ok (.iconst 0, 1) := by decide +kernel
theorem dX5_rests_130 : decode cX5_rests 130 = .ok (.iadd, 1) := by decide +kernel
theorem dX5_rests_131 : decode cX5_rests 131 = .ok (.iload 4, 2) := by decide +kernel
theorem dX5_rests_133 : decode cX5_rests 133 = .ok (.iconst 5, 1) := by decide +kernel
theorem dX5_rests_134 : decode cX5_rests 134 = .ok (.idiv, 1) := by decide +kernel
theorem dX5_rests_135 : decode cX5_rests 135 = .ok (.iconst 4, 1) := by decide +kernel
theorem dX5_rests_136 : decode cX5_rests 136 = .ok (.if_icmp .ge 7, 3) := by decide +kernel
theorem dX5_rests_139 : decode cX5_rests 139 = .ok (.iconst 1, 1) := by decide +kernel
theorem dX5_rests_140 : decode cX5_rests 140 = .ok (.goto 4, 3) := by decide +kernel
theorem dX5_rests_143 : decode cX5_rests 143 = .ok (.iconst 0, 1) := by decide +kernel
theorem dX5_rests_144 : decode cX5_rests 144 = .ok (.isub, 1) := by decide +kernel
theorem dX5_rests_145 : decode cX5_rests 145 = .ok (.iastore, 1) := by decide +kernel
theorem dX5_rests_146 : decode cX5_rests 146 = .ok (.aload_n 0, 1) := by decide +kernel
theorem dX5_rests_147 : decode cX5_rests 147 = .ok (.getfield 53, 3) := by decide +kernel
theorem dX5_rests_150 : decode cX5_rests 150 = .ok (.iconst 2, 1) := by decide +kernel
theorem dX5_rests_151 : decode cX5_rests 151 = .ok (.iload 4, 2) := by decide +kernel
theorem dX5_rests_153 : decode cX5_rests 153 = .ok (.imul, 1) := by decide +kernel
theorem dX5_rests_154 : decode cX5_rests 154 = .ok (.iconst 1, 1) := by decide +kernel
theorem dX5_rests_155 : decode cX5_rests 155 = .ok (.iadd, 1) := by decide +kernel
theorem dX5_rests_156 : decode cX5_rests 156 = .ok (.iload 5, 2) := by decide +kernel
theorem dX5_rests_158 : decode cX5_rests 158 = .ok (.aload_n 0, 1) := by decide +kernel
theorem dX5_rests_159 : decode cX5_rests 159 = .ok (.getfield 25, 3) := by decide +kernel
theorem dX5_rests_162 : decode cX5_rests 162 = .ok (.iload_n 2, 1) := by decide +kernel
theorem dX5_rests_163 : decode cX5_rests 163 = .ok (.iaload, 1) := by decide +kernel
theorem dX5_rests_164 : decode cX5_rests 164 = .ok (.ifCond .le 7, 3) := by decide +kernel
theorem dX5_rests_167 : decode cX5_rests 167 = .ok (.iconst 2, 1) := by decide +kernel
theorem dX5_rests_168 : decode cX5_rests 168 = .ok (.goto 4, 3) := by decide +kernel
theorem dX5_rests_171 : decode cX5_rests 171 = .ok (.iconst 0, 1) := by decide +kernel
theorem dX5_rests_172 : decode cX5_rests 172 = .ok (.iadd, 1) := by decide +kernel
theorem dX5_rests_173 : decode cX5_rests 173 = .ok (.iload 4, 2) := by decide +kernel
theorem dX5_rests_175 : decode cX5_rests 175 = .ok (.iconst 5, 1) := by decide +kernel
theorem dX5_rests_176 : decode cX5_rests 176 = .ok (.irem, 1) := by decide +kernel
theorem dX5_rests_177 : decode cX5_rests 177 = .ok (.iconst 4, 1) := by decide +kernel
theorem dX5_rests_178 : decode cX5_rests 178 = .ok (.if_icmp .ge 7, 3) := by decide +kernel
theorem dX5_rests_181 : decode cX5_rests 181 = .ok (.iconst 1, 1) := by decide +kernel
theorem dX5_rests_182 : decode cX5_rests 182 = .ok (.goto 4, 3) := by decide +kernel
theorem dX5_rests_185 : decode cX5_rests 185 = .ok (.iconst 0, 1) := by decide +kernel
theorem dX5_rests_186 : decode cX5_rests 186 = .ok (.isub, 1) := by decide +kernel
theorem dX5_rests_187 : decode cX5_rests 187 = .ok (.iastore, 1) := by decide +kernel
theorem dX5_rests_188 : decode cX5_rests 188 = .ok (.iinc 4 1, 3) := by decide +kernel
theorem dX5_rests_191 : decode cX5_rests 191 = .ok (.goto (-128), 3) := by decide +kernel
theorem dX5_rests_194 : decode cX5_rests 194 = .ok (.aload_n 0, 1) := by decide +kernel
theorem dX5_rests_195 : decode cX5_rests 195 = .ok (.iconst 0, 1) := by decide +kernel
theorem dX5_rests_196 : decode cX5_rests 196 = .ok (.putfield 246, 3) := by decide +kernel
theorem dX5_rests_199 : decode cX5_rests 199 = .ok (.aload_n 0, 1) := by decide +kernel
theorem dX5_rests_200 : decode cX5_rests 200 = .ok (.bipush (-9), 2) := by decide +kernel
theorem dX5_rests_202 : decode cX5_rests 202 = .ok (.putfield 249, 3) := by decide +kernel
theorem dX5_rests_205 : decode cX5_rests 205 = .ok (.iconst 0, 1) := by decide +kernel
theorem dX5_rests_206 : decode cX5_rests 206 = .ok (.istore 4, 2) := by decide +kernel
theorem dX5_rests_208 : decode cX5_rests 208 = .ok (.iload 4, 2) := by decide +kernel
theorem dX5_rests_210 : decode cX5_rests 210 = .ok (.bipush 25, 2) := by decide +kernel
theorem dX5_rests_212 : decode cX5_rests 212 = .ok (.if_icmp .ge 154, 3) := by decide +kernel
theorem dX5_rests_215 : decode cX5_rests 215 = .ok (.iconst 1, 1) := by decide +kernel
theorem dX5_rests_216 : decode cX5_rests 216 = .ok (.istore 5, 2) := by decide +kernel
theorem dX5_rests_218 : decode cX5_rests 218 = .ok (.iconst 0, 1) := by decide +kernel
theorem dX5_rests_219 : decode cX5_rests 219 = .ok (.istore 6, 2) := by decide +kernel
theorem dX5_rests_221 : decode cX5_rests 221 = .ok (.iload 6, 2) := by decide +kernel
theorem dX5_rests_223 : decode cX5_rests 223 = .ok (.iconst 5, 1) := by decide +kernel
theorem dX5_rests_224 : decode cX5_rests 224 = .ok (.if_icmp .ge 82, 3) := by decide +kernel
theorem dX5_rests_227 : decode cX5_rests 227 = .ok (.iload 5, 2) := by decide +kernel
theorem dX5_rests_229 : decode cX5_rests 229 = .ok (.ifCond .eq 68, 3) := by decide +kernel
theorem dX5_rests_232 : decode cX5_rests 232 = .ok (.aload_n 0, 1) := by decide +kernel
theorem dX5_rests_233 : decode cX5_rests 233 = .ok (.getfield 53, 3) := by decide +kernel
theorem dX5_rests_236 : decode cX5_rests 236 = .ok (.iconst 2, 1) := by decide +kernel
theorem dX5_rests_237 : decode cX5_rests 237 = .ok (.iconst 5, 1) := by decide +kernel
theorem dX5_rests_238 : decode cX5_rests 238 = .ok (.iload 6, 2) := by decide +kernel
theorem dX5_rests_240 : decode cX5_rests 240 = .ok (.imul, 1) := by decide +kernel
theorem dX5_rests_241 : decode cX5_rests 241 = .ok (.iload 4, 2) := by decide +kernel
theorem dX5_rests_243 : decode cX5_rests 243 = .ok (.iconst 5, 1) := by decide +kernel
theorem dX5_rests_244 : decode cX5_rests 244 = .ok (.irem, 1) := by decide +kernel
theorem dX5_rests_245 : decode cX5_rests 245 = .ok (.iadd, 1) := by decide +kernel
theorem dX5_rests_246 : decode cX5_rests 246 = .ok (.imul, 1) := by decide +kernel
theorem dX5_rests_247 : decode cX5_rests 247 = .ok (.iaload, 1) := by decide +kernel
theorem dX5_rests_248 : decode cX5_rests 248 = .ok (.aload_n 0, 1) := by decide +kernel
theorem dX5_rests_249 : decode cX5_rests 249 = .ok (.getfield 53, 3) := by decide +kernel
theorem dX5_rests_252 : decode cX5_rests 252 = .ok (.iconst 2, 1) := by decide +kernel
theorem dX5_rests_253 : decode cX5_rests 253 = .ok (.iload 4, 2) := by decide +kernel
theorem dX5_rests_255 : decode cX5_rests 255 = .ok (.imul, 1) := by decide +kernel
theorem dX5_rests_256 : decode cX5_rests 256 = .ok (.iaload, 1) := by decide +kernel
theorem dX5_rests_257 : decode cX5_rests 257 = .ok (.if_icmp .gt 40, 3) := by decide +kernel
theorem dX5_rests_260 : decode cX5_rests 260 = .ok (.aload_n 0, 1) := by decide +kernel
theorem dX5_rests_261 : decode cX5_rests 261 = .ok (.getfield 53, 3) := by decide +kernel
theorem dX5_rests_264 : decode cX5_rests 264 = .ok (.iconst 2, 1) := by decide +kernel
theorem dX5_rests_265 : decode cX5_rests 265 = .ok (.iload 4, 2) := by decide +kernel
theorem dX5_rests_267 : decode cX5_rests 267 = .ok (.iload 4, 2) := by decide +kernel
theorem dX5_rests_269 : decode cX5_rests 269 = .ok (.iconst 5, 1) := by decide +kernel
theorem dX5_rests_270 : decode cX5_rests 270 = .ok (.irem, 1) := by decide +kernel
theorem dX5_rests_271 : decode cX5_rests 271 = .ok (.isub, 1) := by decide +kernel
theorem dX5_rests_272 : decode cX5_rests 272 = .ok (.iload 6, 2) := by decide +kernel
theorem dX5_rests_274 : decode cX5_rests 274 = .ok (.iadd, 1) := by decide +kernel
theorem dX5_rests_275 : decode cX5_rests 275 = .ok (.imul, 1) := by decide +kernel
theorem dX5_rests_276 : decode cX5_rests 276 = .ok (.iconst 1, 1) := by decide +kernel
theorem dX5_rests_277 : decode cX5_rests 277 = .ok (.iadd, 1) := by decide +kernel
theorem dX5_rests_278 : decode cX5_rests 278 = .ok (.iaload, 1) := by decide +kernel
theorem dX5_rests_279 : decode cX5_rests 279 = .ok (.aload_n 0, 1) := by decide +kernel
theorem dX5_rests_280 : decode cX5_rests 280 = .ok (.getfield 53, 3) := by decide +kernel
theorem dX5_rests_283 : decode cX5_rests 283 = .ok (.iconst 2, 1) := by decide +kernel
theorem dX5_rests_284 : decode cX5_rests 284 = .ok (.iload 4, 2) := by decide +kernel
theorem dX5_rests_286 : decode cX5_rests 286 = .ok (.imul, 1) := by decide +kernel
theorem dX5_rests_287 : decode cX5_rests 287 = .ok (.iconst 1, 1) := by decide +kernel
theorem dX5_rests_288 : decode cX5_rests 288 = .ok (.iadd, 1) := by decide +kernel
theorem dX5_rests_289 : decode cX5_rests 289 = .ok (.iaload, 1) := by decide +kernel
theorem dX5_rests_290 : decode cX5_rests 290 = .ok (.if_icmp .gt 7, 3) := by decide +kernel
theorem dX5_rests_293 : decode cX5_rests 293 = .ok (.iconst 1, 1) := by decide +kernel
theorem dX5_rests_294 : decode cX5_rests 294 = .ok (.goto 4, 3) := by decide +kernel
theorem dX5_rests_297 : decode cX5_rests 297 = .ok (.iconst 0, 1) := by decide +kernel
theorem dX5_rests_298 : decode cX5_rests 298 = .ok (.istore 5, 2) := by decide +kernel
theorem dX5_rests_300 : decode cX5_rests 300 = .ok (.iinc 6 1, 3) := by decide +kernel
theorem dX5_rests_303 : decode cX5_rests 303 = .ok (.goto (-82), 3) := by decide +kernel
theorem dX5_rests_306 : decode cX5_rests 306 = .ok (.aload_n 0, 1) := by decide +kernel
theorem dX5_rests_307 : decode cX5_rests 307 = .ok (.iload 5, 2) := by decide +kernel
theorem dX5_rests_309 : decode cX5_rests 309 = .ok (.ifCond .eq 25, 3) := by decide +kernel
theorem dX5_rests_312 : decode cX5_rests 312 = .ok (.aload_n 0, 1) := by decide +kernel
theorem dX5_rests_313 : decode cX5_rests 313 = .ok (.getfield 246, 3) := by decide +kernel
theorem dX5_rests_316 : decode cX5_rests 316 = .ok (.ifCond .ne 18, 3) := by decide +kernel
theorem dX5_rests_319 : decode cX5_rests 319 = .ok (.bipush 10, 2) := by decide +kernel
theorem dX5_rests_321 : decode cX5_rests 321 = .ok (.iload 4, 2) := by decide +kernel
theorem dX5_rests_323 : decode cX5_rests 323 = .ok (.iconst 5, 1) := by decide +kernel
theorem dX5_rests_324 : decode cX5_rests 324 = .ok (.idiv, 1) := by decide +kernel
theorem dX5_rests_325 : decode cX5_rests 325 = .ok (.imul, 1) := by decide +kernel
theorem dX5_rests_326 : decode cX5_rests 326 = .ok (.iload 4, 2) := by decide +kernel
theorem dX5_rests_328 : decode cX5_rests 328 = .ok (.iconst 5, 1) := by decide +kernel
theorem dX5_rests_329 : decode cX5_rests 329 = .ok (.irem, 1) := by decide +kernel
theorem dX5_rests_330 : decode cX5_rests 330 = .ok (.iadd, 1) := by decide +kernel
theorem dX5_rests_331 : decode cX5_rests 331 = .ok (.goto 7, 3) := by decide +kernel
theorem dX5_rests_334 : decode cX5_rests 334 = .ok (.aload_n 0, 1) := by decide +kernel
theorem dX5_rests_335 : decode cX5_rests 335 = .ok (.getfield 249, 3) := by decide +kernel
theorem dX5_rests_338 : decode cX5_rests 338 = .ok (.putfield 249, 3) := by decide +kernel
theorem dX5_rests_341 : decode cX5_rests 341 = .ok (.aload_n 0, 1) := by decide +kernel
theorem dX5_rests_342 : decode cX5_rests 342 = .ok (.dup, 1) := by decide +kernel
theorem dX5_rests_343 : decode cX5_rests 343 = .ok (.getfield 246, 3) := by decide +kernel
theorem dX5_rests_346 : decode cX5_rests 346 = .ok (.iload 5, 2) := by decide +kernel
theorem dX5_rests_348 : decode cX5_rests 348 = .ok (.ifCond .eq 7, 3) := by decide +kernel
theorem dX5_rests_351 : decode cX5_rests 351 = .ok (.iconst 1, 1) := by decide +kernel
theorem dX5_rests_352 : decode cX5_rests 352 = .ok (.goto 4, 3) := by decide +kernel
theorem dX5_rests_355 : decode cX5_rests 355 = .ok (.iconst 0, 1) := by decide +kernel
theorem dX5_rests_356 : decode cX5_rests 356 = .ok (.iadd, 1) := by decide +kernel
theorem dX5_rests_357 : decode cX5_rests 357 = .ok (.putfield 246, 3) := by decide +kernel
theorem dX5_rests_360 : decode cX5_rests 360 = .ok (.iinc 4 1, 3) := by decide +kernel
theorem dX5_rests_363 : decode cX5_rests 363 = .ok (.goto (-155), 3) := by decide +kernel
theorem dX5_rests_366 : decode cX5_rests 366 = .ok (.iload_n 3, 1) := by decide +kernel
theorem dX5_rests_367 : decode cX5_rests 367 = .ok (.ifCond .ne 10, 3) := by decide +kernel
theorem dX5_rests_370 : decode cX5_rests 370 = .ok (.aload_n 0, 1) := by decide +kernel
theorem dX5_rests_371 : decode cX5_rests 371 = .ok (.getfield 246, 3) := by decide +kernel
theorem dX5_rests_374 : decode cX5_rests 374 = .ok (.goto 7, 3) := by decide +kernel
theorem dX5_rests_377 : decode cX5_rests 377 = .ok (.aload_n 0, 1) := by decide +kernel
theorem dX5_rests_378 : decode cX5_rests 378 = .ok (.getfield 249, 3) := by decide +kernel
theorem dX5_rests_381 : decode cX5_rests 381 = .ok (.ireturn, 1) := by decide +kernel
theorem dX5_shaken_0 : decode cX5_shaken 0 = .ok (.aload_n 0, 1) := by decide +kernel
theorem dX5_shaken_1 : decode cX5_shaken 1 = .ok (.iconst 0, 1) := by decide +kernel
theorem dX5_shaken_2 : decode cX5_shaken 2 = .ok (.putfield 59, 3) := by decide +kernel
theorem dX5_shaken_5 : decode cX5_shaken 5 = .ok (.iload_n 1, 1) := by decide +kernel
theorem dX5_shaken_6 : decode cX5_shaken 6 = .ok (.i2l, 1) := by decide +kernel
theorem dX5_shaken_7 : decode cX5_shaken 7 = .ok (.lconst 0, 1) := by decide +kernel
theorem dX5_shaken_8 : decode cX5_shaken 8 = .ok (.ldc2_w 252, 3) := by decide +kernel
theorem dX5_shaken_11 : decode cX5_shaken 11 = .ok (.invokestatic 65, 3) := by decide +kernel
theorem dX5_shaken_14 : decode cX5_shaken 14 = .ok (.ifCond .eq 15, 3) := by decide +kernel
theorem dX5_shaken_17 : decode cX5_shaken 17 = .ok (.iload_n 2, 1) := by decide +kernel
theorem dX5_shaken_18 : decode cX5_shaken 18 = .ok (.i2l, 1) := by decide +kernel
theorem dX5_shaken_19 : decode cX5_shaken 19 = .ok (.lconst 0, 1) := by decide +kernel
theorem dX5_shaken_20 : decode cX5_shaken 20 = .ok (.ldc2_w 254, 3) := by decide +kernel
theorem dX5_shaken_23 : decode cX5_shaken 23 = .ok (.invokestatic 65, 3) := by decide +kernel
theorem dX5_shaken_26 : decode cX5_shaken 26 = .ok (.ifCond .ne 6, 3) := by decide +kernel
theorem dX5_shaken_29 : decode cX5_shaken 29 = .ok (.bipush (-2), 2) := by decide +kernel
theorem dX5_shaken_31 : decode cX5_shaken 31 = .ok (.ireturn, 1) := by decide +kernel
theorem dX5_shaken_32 : decode cX5_shaken 32 = .ok (.aload_n 0, 1) := by decide +kernel
theorem dX5_shaken_33 : decode cX5_shaken 33 = .ok (.getfield 22, 3) := by decide +kernel
theorem dX5_shaken_36 : decode cX5_shaken 36 = .ok (.invokestatic 122, 3) := by decide +kernel
theorem dX5_shaken_39 : decode cX5_shaken 39 = .ok (.bipush 15, 2) := by decide +kernel
theorem dX5_shaken_41 : decode cX5_shaken 41 = .ok (.iand, 1) := by decide +kernel
theorem dX5_shaken_42 : decode cX5_shaken 42 = .ok (.istore 4, 2) := by decide +kernel
theorem dX5_shaken_44 : decode cX5_shaken 44 = .ok (.iload 4, 2) := by decide +kernel
theorem dX5_shaken_46 : decode cX5_shaken 46 = .ok (.invokestatic 97, 3) := by decide +kernel
theorem dX5_shaken_49 : decode cX5_shaken 49 = .ok (.istore 5, 2) := by decide +kernel
theorem dX5_shaken_51 : decode cX5_shaken 51 = .ok (.iconst 0, 1) := by decide +kernel
theorem dX5_shaken_52 : decode cX5_shaken 52 = .ok (.istore 6, 2) := by decide +kernel
theorem dX5_shaken_54 : decode cX5_shaken 54 = .ok (.iconst 0, 1) := by decide +kernel
theorem dX5_shaken_55 : decode cX5_shaken 55 = .ok (.istore 7, 2) := by decide +kernel
theorem dX5_shaken_57 : decode cX5_shaken 57 = .ok (.iload 7, 2) := by decide +kernel
theorem dX5_shaken_59 : decode cX5_shaken 59 = .ok (.bipush 16, 2) := by decide +kernel
theorem dX5_shaken_61 : decode cX5_shaken 61 = .ok (.if_icmp .ge 84, 3) := by decide +kernel
theorem dX5_shaken_64 : decode cX5_shaken 64 = .ok (.iload 7, 2) := by decide +kernel
theorem dX5_shaken_66 : decode cX5_shaken 66 = .ok (.iload 4, 2) := by decide +kernel
theorem dX5_shaken_68 : decode cX5_shaken 68 = .ok (.iconst (-1), 1) := by decide +kernel
theorem dX5_shaken_69 : decode cX5_shaken 69 = .ok (.ixor, 1) := by decide +kernel
theorem dX5_shaken_70 : decode cX5_shaken 70 = .ok (.iand, 1) := by decide +kernel
theorem dX5_shaken_71 : decode cX5_shaken 71 = .ok (.ifCond .ne 68, 3) := by decide +kernel
theorem dX5_shaken_74 : decode cX5_shaken 74 = .ok (.aload_n 0, 1) := by decide +kernel
theorem dX5_shaken_75 : decode cX5_shaken 75 = .ok (.getfield 22, 3) := by decide +kernel
theorem dX5_shaken_78 : decode cX5_shaken 78 = .ok (.invokestatic 122, 3) := by decide +kernel
theorem dX5_shaken_81 : decode cX5_shaken 81 = .ok (.aload_n 0, 1) := by decide +kernel
theorem dX5_shaken_82 : decode cX5_shaken 82 = .ok (.getfield 22, 3) := by decide +kernel
theorem dX5_shaken_85 : decode cX5_shaken 85 = .ok (.iload 7, 2) := by decide +kernel
theorem dX5_shaken_87 : decode cX5_shaken 87 = .ok (.invokestatic 94, 3) := by decide +kernel
theorem dX5_shaken_90 : decode cX5_shaken 90 = .ok (.iconst (-1), 1) := by decide +kernel
theorem dX5_shaken_91 : decode cX5_shaken 91 = .ok (.ixor, 1) := by decide +kernel
theorem dX5_shaken_92 : decode cX5_shaken 92 = .ok (.iand, 1) := by decide +kernel
theorem dX5_shaken_93 : decode cX5_shaken 93 = .ok (.invokestatic 97, 3) := by decide +kernel
theorem dX5_shaken_96 : decode cX5_shaken 96 = .ok (.istore 8, 2) := by decide +kernel
theorem dX5_shaken_98 : decode cX5_shaken 98 = .ok (.iload 7, 2) := by decide +kernel
theorem dX5_shaken_100 : decode cX5_shaken 100 = .ok (.invokestatic 97, 3) := by decide +kernel
theorem dX5_shaken_103 : decode cX5_shaken 103 = .ok (.istore 9, 2) := by decide +kernel
theorem dX5_shaken_105 : decode cX5_shaken 105 = .ok (.iload 6, 2) := by decide +kernel
theorem dX5_shaken_107 : decode cX5_shaken 107 = .ok (.iload 8, 2) := by decide +kernel
theorem dX5_shaken_109 : decode cX5_shaken 109 = .ok (.iload_n 1, 1) := by decide +kernel
theorem dX5_shaken_110 : decode cX5_shaken 110 = .ok (.if_icmp .lt 25, 3) := by decide +kernel
theorem dX5_shaken_113 : decode cX5_shaken 113 = .ok (.iload_n 2, 1) := by decide +kernel
theorem dX5_shaken_114 : decode cX5_shaken 114 = .ok (.iload 9, 2) := by decide +kernel
theorem dX5_shaken_116 : decode cX5_shaken 116 = .ok (.invokestatic 256, 3) := by decide +kernel
theorem dX5_shaken_119 : decode cX5_shaken 119 = .ok (.bipush 10, 2) := by decide +kernel
theorem dX5_shaken_121 : decode cX5_shaken 121 = .ok (.iload_n 2, 1) := by decide +kernel
theorem dX5_shaken_122 : decode cX5_shaken 122 = .ok (.isub, 1) := by decide +kernel
theorem dX5_shaken_123 : decode cX5_shaken 123 = .ok (.iload 5, 2) := by decide +kernel
theorem dX5_shaken_125 : decode cX5_shaken 125 = .ok (.iload 9, 2) := by decide +kernel
theorem dX5_shaken_127 : decode cX5_shaken 127 = .ok (.isub, 1) := by decide +kernel
theorem dX5_shaken_128 : decode cX5_shaken 128 = .ok (.invokestatic 256, 3) := by decide +kernel
theorem dX5_shaken_131 : decode cX5_shaken 131 = .ok (.imul, 1) := by decide +kernel
theorem dX5_shaken_132 : decode cX5_shaken 132 = .ok (.goto 4, 3) := by decide +kernel
theorem dX5_shaken_135 : decode cX5_shaken 135 = .ok (.iconst 0, 1) := by decide +kernel
theorem dX5_shaken_136 : decode cX5_shaken 136 = .ok (.iadd, 1) := by decide +kernel
theorem dX5_shaken_137 : decode cX5_shaken 137 = .ok (.istore 6, 2) := by decide +kernel
theorem dX5_shaken_139 : decode cX5_shaken 139 = .ok (.iinc 7 1, 3) := by decide +kernel
theorem dX5_shaken_142 : decode cX5_shaken 142 = .ok (.goto (-85), 3) := by decide +kernel
theorem dX5_shaken_145 : decode cX5_shaken 145 = .ok (.iload 6, 2) := by decide +kernel
theorem dX5_shaken_147 : decode cX5_shaken 147 = .ok (.bipush 10, 2) := by decide +kernel
theorem dX5_shaken_149 : decode cX5_shaken 149 = .ok (.iload 5, 2) := by decide +kernel
theorem dX5_shaken_151 : decode cX5_shaken 151 = .ok (.invokestatic 256, 3) := by decide +kernel
theorem dX5_shaken_154 : decode cX5_shaken 154 = .ok (.iload_n 3, 1) := by decide +kernel
theorem dX5_shaken_155 : decode cX5_shaken 155 = .ok (.invokestatic 236, 3) := by decide +kernel
theorem dX5_shaken_158 : decode cX5_shaken 158 = .ok (.ireturn, 1) := by decide +kernel
theorem dX5_seed_0 : decode cX5_seed 0 = .ok (.aload_n 0, 1) := by decide +kernel
theorem dX5_seed_1 : decode cX5_seed 1 = .ok (.iconst 0, 1) := by decide +kernel
theorem dX5_seed_2 : decode cX5_seed 2 = .ok (.putfield 59, 3) := by decide +kernel
theorem dX5_seed_5 : decode cX5_seed 5 = .ok (.aload_n 0, 1) := by decide +kernel
theorem dX5_seed_6 : decode cX5_seed 6 = .ok (.getfield 259, 3) := by decide +kernel
theorem dX5_seed_9 : decode cX5_seed 9 = .ok (.lstore_n 3, 1) := by decide +kernel
theorem dX5_seed_10 : decode cX5_seed 10 = .ok (.aload_n 0, 1) := by decide +kernel
theorem dX5_seed_11 : decode cX5_seed 11 = .ok (.lload_n 1, 1) := by decide +kernel
theorem dX5_seed_12 : decode cX5_seed 12 = .ok (.putfield 259, 3) := by decide +kernel
theorem dX5_seed_15 : decode cX5_seed 15 = .ok (.lload_n 3, 1) := by decide +kernel
theorem dX5_seed_16 : decode cX5_seed 16 = .ok (.lreturn, 1) := by decide +kernel
theorem dX5_evenings_0 : decode cX5_evenings 0 = .ok (.aload_n 0, 1) := by decide +kernel
theorem dX5_evenings_1 : decode cX5_evenings 1 = .ok (.iconst 0, 1) := by decide +kernel
theorem dX5_evenings_2 : decode cX5_evenings 2 = .ok (.putfield 59, 3) := by decide +kernel
theorem dX5_evenings_5 : decode cX5_evenings 5 = .ok (.iload_n 1, 1) := by decide +kernel
theorem dX5_evenings_6 : decode cX5_evenings 6 = .ok (.i2l, 1) := by decide +kernel
theorem dX5_evenings_7 : decode cX5_evenings 7 = .ok (.lconst 1, 1) := by decide +kernel
theorem dX5_evenings_8 : decode cX5_evenings 8 = .ok (.ldc2_w 263, 3) := by decide +kernel
theorem dX5_evenings_11 : decode cX5_evenings 11 = .ok (.invokestatic 65, 3) := by decide +kernel
theorem dX5_evenings_14 : decode cX5_evenings 14 = .ok (.ifCond .ne 6, 3) := by decide +kernel
theorem dX5_evenings_17 : decode cX5_evenings 17 = .ok (.bipush (-2), 2) := by decide +kernel
theorem dX5_evenings_19 : decode cX5_evenings 19 = .ok (.ireturn, 1) := by decide +kernel
theorem dX5_evenings_20 : decode cX5_evenings 20 = .ok (.aload_n 0, 1) := by decide +kernel
theorem dX5_evenings_21 : decode cX5_evenings 21 = .ok (.invokevirtual 209, 3) := by decide +kernel
theorem dX5_evenings_24 : decode cX5_evenings 24 = .ok (.iconst 0, 1) := by decide +kernel
theorem dX5_evenings_25 : decode cX5_evenings 25 = .ok (.istore_n 2, 1) := by decide +kernel
theorem dX5_evenings_26 : decode cX5_evenings 26 = .ok (.iconst 0, 1) := by decide +kernel
theorem dX5_evenings_27 : decode cX5_evenings 27 = .ok (.istore_n 3, 1) := by decide +kernel
theorem dX5_evenings_28 : decode cX5_evenings 28 = .ok (.iload_n 3, 1) := by decide +kernel
theorem dX5_evenings_29 : decode cX5_evenings 29 = .ok (.iload_n 1, 1) := by decide +kernel
theorem dX5_evenings_30 : decode cX5_evenings 30 = .ok (.if_icmp .ge 116, 3) := by decide +kernel
theorem dX5_evenings_33 : decode cX5_evenings 33 = .ok (.aload_n 0, 1) := by decide +kernel
theorem dX5_evenings_34 : decode cX5_evenings 34 = .ok (.aload_n 0, 1) := by decide +kernel
theorem dX5_evenings_35 : decode cX5_evenings 35 = .ok (.getfield 259, 3) := by decide +kernel
theorem dX5_evenings_38 : decode cX5_evenings 38 = .ok (.ldc2_w 265, 3) := by decide +kernel
theorem dX5_evenings_41 : decode cX5_evenings 41 = .ok (.lmul, 1) := by decide +kernel
theorem dX5_evenings_42 : decode cX5_evenings 42 = .ok (.ldc2_w 267, 3) := by decide +kernel
theorem dX5_evenings_45 : decode cX5_evenings 45 = .ok (.ladd, 1) := by decide +kernel
theorem dX5_evenings_46 : decode cX5_evenings 46 = .ok (.putfield 259, 3) := by decide +kernel
theorem dX5_evenings_49 : decode cX5_evenings 49 = .ok (.aload_n 0, 1) := by decide +kernel
theorem dX5_evenings_50 : decode cX5_evenings 50 = .ok (.getfield 259, 3) := by decide +kernel
theorem dX5_evenings_53 : decode cX5_evenings 53 = .ok (.bipush 33, 2) := by decide +kernel
theorem dX5_evenings_55 : decode cX5_evenings 55 = .ok (.lushr, 1) := by decide +kernel
theorem dX5_evenings_56 : decode cX5_evenings 56 = .ok (.ldc2_w 269, 3) := by decide +kernel
theorem dX5_evenings_59 : decode cX5_evenings 59 = .ok (.lrem, 1) := by decide +kernel
theorem dX5_evenings_60 : decode cX5_evenings 60 = .ok (.l2i, 1) := by decide +kernel
theorem dX5_evenings_61 : decode cX5_evenings 61 = .ok (.istore 4, 2) := by decide +kernel
theorem dX5_evenings_63 : decode cX5_evenings 63 = .ok (.iload 4, 2) := by decide +kernel
theorem dX5_evenings_65 : decode cX5_evenings 65 = .ok (.bipush 64, 2) := by decide +kernel
theorem dX5_evenings_67 : decode cX5_evenings 67 = .ok (.if_icmp .ge 19, 3) := by decide +kernel
theorem dX5_evenings_70 : decode cX5_evenings 70 = .ok (.aload_n 0, 1) := by decide +kernel
theorem dX5_evenings_71 : decode cX5_evenings 71 = .ok (.iload 4, 2) := by decide +kernel
theorem dX5_evenings_73 : decode cX5_evenings 73 = .ok (.iconst 4, 1) := by decide +kernel
theorem dX5_evenings_74 : decode cX5_evenings 74 = .ok (.idiv, 1) := by decide +kernel
theorem dX5_evenings_75 : decode cX5_evenings 75 = .ok (.iload 4, 2) := by decide +kernel
theorem dX5_evenings_77 : decode cX5_evenings 77 = .ok (.iconst 4, 1) := by decide +kernel
theorem dX5_evenings_78 : decode cX5_evenings 78 = .ok (.irem, 1) := by decide +kernel
theorem dX5_evenings_79 : decode cX5_evenings 79 = .ok (.invokevirtual 212, 3) := by decide +kernel
theorem dX5_evenings_82 : decode cX5_evenings 82 = .ok (.pop, 1) := by decide +kernel
theorem dX5_evenings_83 : decode cX5_evenings 83 = .ok (.goto 44, 3) := by decide +kernel
theorem dX5_evenings_86 : decode cX5_evenings 86 = .ok (.iload 4, 2) := by decide +kernel
theorem dX5_evenings_88 : decode cX5_evenings 88 = .ok (.bipush 76, 2) := by decide +kernel
theorem dX5_evenings_90 : decode cX5_evenings 90 = .ok (.if_icmp .ge 27, 3) := by decide +kernel
theorem dX5_evenings_93 : decode cX5_evenings 93 = .ok (.aload_n 0, 1) := by decide +kernel
theorem dX5_evenings_94 : decode cX5_evenings 94 = .ok (.iload 4, 2) := by decide +kernel
theorem dX5_evenings_96 : decode cX5_evenings 96 = .ok (.bipush 64, 2) := by decide +kernel
theorem dX5_evenings_98 : decode cX5_evenings 98 = .ok (.isub, 1) := by decide +kernel
theorem dX5_evenings_99 : decode cX5_evenings 99 = .ok (.iconst 3, 1) := by decide +kernel
theorem dX5_evenings_100 : decode cX5_evenings 100 = .ok (.idiv, 1) := by decide +kernel
theorem dX5_evenings_101 : decode cX5_evenings 101 = .ok (.iconst 2, 1) := by decide +kernel
theorem dX5_evenings_102 : decode cX5_evenings 102 = .ok (.iload 4, 2) := by decide +kernel
theorem dX5_evenings_104 : decode cX5_evenings 104 = .ok (.bipush 64, 2) := by decide +kernel
theorem dX5_evenings_106 : decode cX5_evenings 106 = .ok (.isub, 1) := by decide +kernel
theorem dX5_evenings_107 : decode cX5_evenings 107 = .ok (.iconst 3, 1) := by decide +kernel
theorem dX5_evenings_108 : decode cX5_evenings 108 = .ok (.irem, 1) := by decide +kernel
theorem dX5_evenings_109 : decode cX5_evenings 109 = .ok (.iadd, 1) := by decide +kernel
theorem dX5_evenings_110 : decode cX5_evenings 110 = .ok (.invokevirtual 218, 3) := by decide +kernel
theorem dX5_evenings_113 : decode cX5_evenings 113 = .ok (.pop, 1) := by decide +kernel
theorem dX5_evenings_114 : decode cX5_evenings 114 = .ok (.goto 13, 3) := by decide +kernel
theorem dX5_evenings_117 : decode cX5_evenings 117 = .ok (.aload_n 0, 1) := by decide +kernel
theorem dX5_evenings_118 : decode cX5_evenings 118 = .ok (.iload 4, 2) := by decide +kernel
theorem dX5_evenings_120 : decode cX5_evenings 120 = .ok (.bipush 64, 2) := by decide +kernel
theorem dX5_evenings_122 : decode cX5_evenings 122 = .ok (.isub, 1) := by decide +kernel
theorem dX5_evenings_123 : decode cX5_evenings 123 = .ok (.invokevirtual 215, 3) := by decide +kernel
theorem dX5_evenings_126 : decode cX5_evenings 126 = .ok (.pop, 1) := by decide +kernel
theorem dX5_evenings_127 : decode cX5_evenings 127 = .ok (.iload_n 2, 1) := by decide +kernel
theorem dX5_evenings_128 : decode cX5_evenings 128 = .ok (.aload_n 0, 1) := by decide +kernel
theorem dX5_evenings_129 : decode cX5_evenings 129 = .ok (.getfield 25, 3) := by decide +kernel
theorem dX5_evenings_132 : decode cX5_evenings 132 = .ok (.invokestatic 122, 3) := by decide +kernel
theorem dX5_evenings_135 : decode cX5_evenings 135 = .ok (.invokestatic 97, 3) := by decide +kernel
theorem dX5_evenings_138 : decode cX5_evenings 138 = .ok (.iadd, 1) := by decide +kernel
theorem dX5_evenings_139 : decode cX5_evenings 139 = .ok (.istore_n 2, 1) := by decide +kernel
theorem dX5_evenings_140 : decode cX5_evenings 140 = .ok (.iinc 3 1, 3) := by decide +kernel
theorem dX5_evenings_143 : decode cX5_evenings 143 = .ok (.goto (-115), 3) := by decide +kernel
theorem dX5_evenings_146 : decode cX5_evenings 146 = .ok (.iload_n 2, 1) := by decide +kernel
theorem dX5_evenings_147 : decode cX5_evenings 147 = .ok (.ireturn, 1) := by decide +kernel
theorem dX5_keep_0 : decode cX5_keep 0 = .ok (.aload_n 0, 1) := by decide +kernel
theorem dX5_keep_1 : decode cX5_keep 1 = .ok (.iconst 0, 1) := by decide +kernel
theorem dX5_keep_2 : decode cX5_keep 2 = .ok (.putfield 59, 3) := by decide +kernel
theorem dX5_keep_5 : decode cX5_keep 5 = .ok (.iload_n 1, 1) := by decide +kernel
theorem dX5_keep_6 : decode cX5_keep 6 = .ok (.i2l, 1) := by decide +kernel
theorem dX5_keep_7 : decode cX5_keep 7 = .ok (.lconst 0, 1) := by decide +kernel
theorem dX5_keep_8 : decode cX5_keep 8 = .ok (.lconst 1, 1) := by decide +kernel
theorem dX5_keep_9 : decode cX5_keep 9 = .ok (.invokestatic 65, 3) := by decide +kernel
theorem dX5_keep_12 : decode cX5_keep 12 = .ok (.ifCond .ne 5, 3) := by decide +kernel
theorem dX5_keep_15 : decode cX5_keep 15 = .ok (.iconst (-1), 1) := by decide +kernel
theorem dX5_keep_16 : decode cX5_keep 16 = .ok (.ireturn, 1) := by decide +kernel
theorem dX5_keep_17 : decode cX5_keep 17 = .ok (.aload_n 0, 1) := by decide +kernel
theorem dX5_keep_18 : decode cX5_keep 18 = .ok (.getfield 37, 3) := by decide +kernel
theorem dX5_keep_21 : decode cX5_keep 21 = .ok (.iload_n 1, 1) := by decide +kernel
theorem dX5_keep_22 : decode cX5_keep 22 = .ok (.iconst 1, 1) := by decide +kernel
theorem dX5_keep_23 : decode cX5_keep 23 = .ok (.bastore, 1) := by decide +kernel
theorem dX5_keep_24 : decode cX5_keep 24 = .ok (.iconst 0, 1) := by decide +kernel
theorem dX5_keep_25 : decode cX5_keep 25 = .ok (.istore_n 2, 1) := by decide +kernel
theorem dX5_keep_26 : decode cX5_keep 26 = .ok (.iload_n 2, 1) := by decide +kernel
theorem dX5_keep_27 : decode cX5_keep 27 = .ok (.bipush 17, 2) := by decide +kernel
theorem dX5_keep_29 : decode cX5_keep 29 = .ok (.if_icmp .ge 26, 3) := by decide +kernel
theorem dX5_keep_32 : decode cX5_keep 32 = .ok (.aload_n 0, 1) := by decide +kernel
theorem dX5_keep_33 : decode cX5_keep 33 = .ok (.getfield 34, 3) := by decide +kernel
theorem dX5_keep_36 : decode cX5_keep 36 = .ok (.bipush 17, 2) := by decide +kernel
theorem dX5_keep_38 : decode cX5_keep 38 = .ok (.iload_n 1, 1) := by decide +kernel
theorem dX5_keep_39 : decode cX5_keep 39 = .ok (.imul, 1) := by decide +kernel
theorem dX5_keep_40 : decode cX5_keep 40 = .ok (.iload_n 2, 1) := by decide +kernel
theorem dX5_keep_41 : decode cX5_keep 41 = .ok (.iadd, 1) := by decide +kernel
theorem dX5_keep_42 : decode cX5_keep 42 = .ok (.aload_n 0, 1) := by decide +kernel
theorem dX5_keep_43 : decode cX5_keep 43 = .ok (.getfield 22, 3) := by decide +kernel
theorem dX5_keep_46 : decode cX5_keep 46 = .ok (.iload_n 2, 1) := by decide +kernel
theorem dX5_keep_47 : decode cX5_keep 47 = .ok (.iaload, 1) := by decide +kernel
theorem dX5_keep_48 : decode cX5_keep 48 = .ok (.iastore, 1) := by decide +kernel
theorem dX5_keep_49 : decode cX5_keep 49 = .ok (.iinc 2 1, 3) := by decide +kernel
theorem dX5_keep_52 : decode cX5_keep 52 = .ok (.goto (-26), 3) := by decide +kernel
theorem dX5_keep_55 : decode cX5_keep 55 = .ok (.aload_n 0, 1) := by decide +kernel
theorem dX5_keep_56 : decode cX5_keep 56 = .ok (.getfield 22, 3) := by decide +kernel
theorem dX5_keep_59 : decode cX5_keep 59 = .ok (.invokestatic 122, 3) := by decide +kernel
theorem dX5_keep_62 : decode cX5_keep 62 = .ok (.invokestatic 97, 3) := by decide +kernel
theorem dX5_keep_65 : decode cX5_keep 65 = .ok (.ireturn, 1) := by decide +kernel
theorem dX5_again_0 : decode cX5_again 0 = .ok (.aload_n 0, 1) := by decide +kernel
theorem dX5_again_1 : decode cX5_again 1 = .ok (.iconst 0, 1) := by decide +kernel
theorem dX5_again_2 : decode cX5_again 2 = .ok (.putfield 59, 3) := by decide +kernel
theorem dX5_again_5 : decode cX5_again 5 = .ok (.iload_n 1, 1) := by decide +kernel
theorem dX5_again_6 : decode cX5_again 6 = .ok (.i2l, 1) := by decide +kernel
theorem dX5_again_7 : decode cX5_again 7 = .ok (.lconst 0, 1) := by decide +kernel
theorem dX5_again_8 : decode cX5_again 8 = .ok (.lconst 1, 1) := by decide +kernel
theorem dX5_again_9 : decode cX5_again 9 = .ok (.invokestatic 65, 3) := by decide +kernel
theorem dX5_again_12 : decode cX5_again 12 = .ok (.ifCond .ne 5, 3) := by decide +kernel
theorem dX5_again_15 : decode cX5_again 15 = .ok (.iconst (-1), 1) := by decide +kernel
theorem dX5_again_16 : decode cX5_again 16 = .ok (.ireturn, 1) := by decide +kernel
theorem dX5_again_17 : decode cX5_again 17 = .ok (.aload_n 0, 1) := by decide +kernel
theorem dX5_again_18 : decode cX5_again 18 = .ok (.getfield 37, 3) := by decide +kernel
theorem dX5_again_21 : decode cX5_again 21 = .ok (.iload_n 1, 1) := by decide +kernel
theorem dX5_again_22 : decode cX5_again 22 = .ok (.baload, 1) := by decide +kernel
theorem dX5_again_23 : decode cX5_again 23 = .ok (.ifCond .ne 6, 3) := by decide +kernel
theorem dX5_again_26 : decode cX5_again 26 = .ok (.bipush (-3), 2) := by decide +kernel
theorem dX5_again_28 : decode cX5_again 28 = .ok (.ireturn, 1) := by decide +kernel
theorem dX5_again_29 : decode cX5_again 29 = .ok (.iconst 0, 1) := by decide +kernel
theorem dX5_again_30 : decode cX5_again 30 = .ok (.istore_n 2, 1) := by decide +kernel
theorem dX5_again_31 : decode cX5_again 31 = .ok (.iload_n 2, 1) := by decide +kernel
theorem dX5_again_32 : decode cX5_again 32 = .ok (.bipush 17, 2) := by decide +kernel
theorem dX5_again_34 : decode cX5_again 34 = .ok (.if_icmp .ge 26, 3) := by decide +kernel
theorem dX5_again_37 : decode cX5_again 37 = .ok (.aload_n 0, 1) := by decide +kernel
theorem dX5_again_38 : decode cX5_again 38 = .ok (.getfield 22, 3) := by decide +kernel
theorem dX5_again_41 : decode cX5_again 41 = .ok (.iload_n 2, 1) := by decide +kernel
theorem dX5_again_42 : decode cX5_again 42 = .ok (.aload_n 0, 1) := by decide +kernel
theorem dX5_again_43 : decode cX5_again 43 = .ok (.getfield 34, 3) := by decide +kernel
theorem dX5_again_46 : decode cX5_again 46 = .ok (.bipush 17, 2) := by decide +kernel
theorem dX5_again_48 : decode cX5_again 48 = .ok (.iload_n 1, 1) := by decide +kernel
theorem dX5_again_49 : decode cX5_again 49 = .ok (.imul, 1) := by decide +kernel
theorem dX5_again_50 : decode cX5_again 50 = .ok (.iload_n 2, 1) := by decide +kernel
theorem dX5_again_51 : decode cX5_again 51 = .ok (.iadd, 1) := by decide +kernel
theorem dX5_again_52 : decode cX5_again 52 = .ok (.iaload, 1) := by decide +kernel
theorem dX5_again_53 : decode cX5_again 53 = .ok (.iastore, 1) := by decide +kernel
theorem dX5_again_54 : decode cX5_again 54 = .ok (.iinc 2 1, 3) := by decide +kernel
theorem dX5_again_57 : decode cX5_again 57 = .ok (.goto (-26), 3) := by decide +kernel
theorem dX5_again_60 : decode cX5_again 60 = .ok (.aload_n 0, 1) := by decide +kernel
theorem dX5_again_61 : decode cX5_again 61 = .ok (.iconst 0, 1) := by decide +kernel
theorem dX5_again_62 : decode cX5_again 62 = .ok (.putfield 154, 3) := by decide +kernel
theorem dX5_again_65 : decode cX5_again 65 = .ok (.aload_n 0, 1) := by decide +kernel
theorem dX5_again_66 : decode cX5_again 66 = .ok (.getfield 22, 3) := by decide +kernel
theorem dX5_again_69 : decode cX5_again 69 = .ok (.invokestatic 122, 3) := by decide +kernel
theorem dX5_again_72 : decode cX5_again 72 = .ok (.invokestatic 97, 3) := by decide +kernel
theorem dX5_again_75 : decode cX5_again 75 = .ok (.ireturn, 1) := by decide +kernel
theorem dJ6_numberOfTrailingZeros_0f7a4_0 : decode cJ6_numberOfTrailingZeros_0f7a4 0 = .ok (.iload_n 0, 1) := by decide +kernel
theorem dJ6_numberOfTrailingZeros_0f7a4_1 : decode cJ6_numberOfTrailingZeros_0f7a4 1 = .ok (.iconst (-1), 1) := by decide +kernel
theorem dJ6_numberOfTrailingZeros_0f7a4_2 : decode cJ6_numberOfTrailingZeros_0f7a4 2 = .ok (.ixor, 1) := by decide +kernel
theorem dJ6_numberOfTrailingZeros_0f7a4_3 : decode cJ6_numberOfTrailingZeros_0f7a4 3 = .ok (.iload_n 0, 1) := by decide +kernel
theorem dJ6_numberOfTrailingZeros_0f7a4_4 : decode cJ6_numberOfTrailingZeros_0f7a4 4 = .ok (.iconst 1, 1) := by decide +kernel
theorem dJ6_numberOfTrailingZeros_0f7a4_5 : decode cJ6_numberOfTrailingZeros_0f7a4 5 = .ok (.isub, 1) := by decide +kernel
theorem dJ6_numberOfTrailingZeros_0f7a4_6 : decode cJ6_numberOfTrailingZeros_0f7a4 6 = .ok (.iand, 1) := by decide +kernel
theorem dJ6_numberOfTrailingZeros_0f7a4_7 : decode cJ6_numberOfTrailingZeros_0f7a4 7 = .ok (.istore_n 0, 1) := by decide +kernel
theorem dJ6_numberOfTrailingZeros_0f7a4_8 : decode cJ6_numberOfTrailingZeros_0f7a4 8 = .ok (.iload_n 0, 1) := by decide +kernel
theorem dJ6_numberOfTrailingZeros_0f7a4_9 : decode cJ6_numberOfTrailingZeros_0f7a4 9 = .ok (.ifCond .gt 8, 3) := by decide +kernel
theorem dJ6_numberOfTrailingZeros_0f7a4_12 : decode cJ6_numberOfTrailingZeros_0f7a4 12 = .ok (.iload_n 0, 1) := by decide +kernel
theorem dJ6_numberOfTrailingZeros_0f7a4_13 : decode cJ6_numberOfTrailingZeros_0f7a4 13 = .ok (.bipush 32, 2) := by decide +kernel
theorem dJ6_numberOfTrailingZeros_0f7a4_15 : decode cJ6_numberOfTrailingZeros_0f7a4 15 = .ok (.iand, 1) := by decide +kernel
theorem dJ6_numberOfTrailingZeros_0f7a4_16 : decode cJ6_numberOfTrailingZeros_0f7a4 16 = .ok (.ireturn, 1) := by decide +kernel
theorem dJ6_numberOfTrailingZeros_0f7a4_17 : decode cJ6_numberOfTrailingZeros_0f7a4 17 = .ok (.iconst 1, 1) := by decide +kernel
theorem dJ6_numberOfTrailingZeros_0f7a4_18 : decode cJ6_numberOfTrailingZeros_0f7a4 18 = .ok (.istore_n 1, 1) := by decide +kernel
theorem dJ6_numberOfTrailingZeros_0f7a4_19 : decode cJ6_numberOfTrailingZeros_0f7a4 19 = .ok (.iload_n 0, 1) := by decide +kernel
theorem dJ6_numberOfTrailingZeros_0f7a4_20 : decode cJ6_numberOfTrailingZeros_0f7a4 20 = .ok (.ldc_w 264, 3) := by decide +kernel
theorem dJ6_numberOfTrailingZeros_0f7a4_23 : decode cJ6_numberOfTrailingZeros_0f7a4 23 = .ok (.if_icmp .le 11, 3) := by decide +kernel
theorem dJ6_numberOfTrailingZeros_0f7a4_26 : decode cJ6_numberOfTrailingZeros_0f7a4 26 = .ok (.iinc 1 16, 3) := by decide +kernel
theorem dJ6_numberOfTrailingZeros_0f7a4_29 : decode cJ6_numberOfTrailingZeros_0f7a4 29 = .ok (.iload_n 0, 1) := by decide +kernel
theorem dJ6_numberOfTrailingZeros_0f7a4_30 : decode cJ6_numberOfTrailingZeros_0f7a4 30 = .ok (.bipush 16, 2) := by decide +kernel
theorem dJ6_numberOfTrailingZeros_0f7a4_32 : decode cJ6_numberOfTrailingZeros_0f7a4 32 = .ok (.iushr, 1) := by decide +kernel
theorem dJ6_numberOfTrailingZeros_0f7a4_33 : decode cJ6_numberOfTrailingZeros_0f7a4 33 = .ok (.istore_n 0, 1) := by decide +kernel
theorem dJ6_numberOfTrailingZeros_0f7a4_34 : decode cJ6_numberOfTrailingZeros_0f7a4 34 = .ok (.iload_n 0, 1) := by decide +kernel
theorem dJ6_numberOfTrailingZeros_0f7a4_35 : decode cJ6_numberOfTrailingZeros_0f7a4 35 = .ok (.sipush 256, 3) := by decide +kernel
theorem dJ6_numberOfTrailingZeros_0f7a4_38 : decode cJ6_numberOfTrailingZeros_0f7a4 38 = .ok (.if_icmp .le 11, 3) := by decide +kernel
theorem dJ6_numberOfTrailingZeros_0f7a4_41 : decode cJ6_numberOfTrailingZeros_0f7a4 41 = .ok (.iinc 1 8, 3) := by decide +kernel
theorem dJ6_numberOfTrailingZeros_0f7a4_44 : decode cJ6_numberOfTrailingZeros_0f7a4 44 = .ok (.iload_n 0, 1) := by decide +kernel
theorem dJ6_numberOfTrailingZeros_0f7a4_45 : decode cJ6_numberOfTrailingZeros_0f7a4 45 = .ok (.bipush 8, 2) := by decide +kernel
theorem dJ6_numberOfTrailingZeros_0f7a4_47 : decode cJ6_numberOfTrailingZeros_0f7a4 47 = .ok (.iushr, 1) := by decide +kernel
theorem dJ6_numberOfTrailingZeros_0f7a4_48 : decode cJ6_numberOfTrailingZeros_0f7a4 48 = .ok (.istore_n 0, 1) := by decide +kernel
theorem dJ6_numberOfTrailingZeros_0f7a4_49 : decode cJ6_numberOfTrailingZeros_0f7a4 49 = .ok (.iload_n 0, 1) := by decide +kernel
theorem dJ6_numberOfTrailingZeros_0f7a4_50 : decode cJ6_numberOfTrailingZeros_0f7a4 50 = .ok (.bipush 16, 2) := by decide +kernel
theorem dJ6_numberOfTrailingZeros_0f7a4_52 : decode cJ6_numberOfTrailingZeros_0f7a4 52 = .ok (.if_icmp .le 10, 3) := by decide +kernel
theorem dJ6_numberOfTrailingZeros_0f7a4_55 : decode cJ6_numberOfTrailingZeros_0f7a4 55 = .ok (.iinc 1 4, 3) := by decide +kernel
theorem dJ6_numberOfTrailingZeros_0f7a4_58 : decode cJ6_numberOfTrailingZeros_0f7a4 58 = .ok (.iload_n 0, 1) := by decide +kernel
theorem dJ6_numberOfTrailingZeros_0f7a4_59 : decode cJ6_numberOfTrailingZeros_0f7a4 59 = .ok (.iconst 4, 1) := by decide +kernel
theorem dJ6_numberOfTrailingZeros_0f7a4_60 : decode cJ6_numberOfTrailingZeros_0f7a4 60 = .ok (.iushr, 1) := by decide +kernel
theorem dJ6_numberOfTrailingZeros_0f7a4_61 : decode cJ6_numberOfTrailingZeros_0f7a4 61 = .ok (.istore_n 0, 1) := by decide +kernel
theorem dJ6_numberOfTrailingZeros_0f7a4_62 : decode cJ6_numberOfTrailingZeros_0f7a4 62 = .ok (.iload_n 0, 1) := by decide +kernel
theorem dJ6_numberOfTrailingZeros_0f7a4_63 : decode cJ6_numberOfTrailingZeros_0f7a4 63 = .ok (.iconst 4, 1) := by decide +kernel
theorem dJ6_numberOfTrailingZeros_0f7a4_64 : decode cJ6_numberOfTrailingZeros_0f7a4 64 = .ok (.if_icmp .le 10, 3) := by decide +kernel
theorem dJ6_numberOfTrailingZeros_0f7a4_67 : decode cJ6_numberOfTrailingZeros_0f7a4 67 = .ok (.iinc 1 2, 3) := by decide +kernel
theorem dJ6_numberOfTrailingZeros_0f7a4_70 : decode cJ6_numberOfTrailingZeros_0f7a4 70 = .ok (.iload_n 0, 1) := by decide +kernel
theorem dJ6_numberOfTrailingZeros_0f7a4_71 : decode cJ6_numberOfTrailingZeros_0f7a4 71 = .ok (.iconst 2, 1) := by decide +kernel
theorem dJ6_numberOfTrailingZeros_0f7a4_72 : decode cJ6_numberOfTrailingZeros_0f7a4 72 = .ok (.iushr, 1) := by decide +kernel
theorem dJ6_numberOfTrailingZeros_0f7a4_73 : decode cJ6_numberOfTrailingZeros_0f7a4 73 = .ok (.istore_n 0, 1) := by decide +kernel
theorem dJ6_numberOfTrailingZeros_0f7a4_74 : decode cJ6_numberOfTrailingZeros_0f7a4 74 = .ok (.iload_n 1, 1) := by decide +kernel
theorem dJ6_numberOfTrailingZeros_0f7a4_75 : decode cJ6_numberOfTrailingZeros_0f7a4 75 = .ok (.iload_n 0, 1) := by decide +kernel
theorem dJ6_numberOfTrailingZeros_0f7a4_76 : decode cJ6_numberOfTrailingZeros_0f7a4 76 = .ok (.iconst 1, 1) := by decide +kernel
theorem dJ6_numberOfTrailingZeros_0f7a4_77 : decode cJ6_numberOfTrailingZeros_0f7a4 77 = .ok (.iushr, 1) := by decide +kernel
theorem dJ6_numberOfTrailingZeros_0f7a4_78 : decode cJ6_numberOfTrailingZeros_0f7a4 78 = .ok (.iadd, 1) := by decide +kernel
theorem dJ6_numberOfTrailingZeros_0f7a4_79 : decode cJ6_numberOfTrailingZeros_0f7a4 79 = .ok (.ireturn, 1) := by decide +kernel
theorem dJ6_bitCount_0f7a4_0 : decode cJ6_bitCount_0f7a4 0 = .ok (.iload_n 0, 1) := by decide +kernel
theorem dJ6_bitCount_0f7a4_1 : decode cJ6_bitCount_0f7a4 1 = .ok (.iload_n 0, 1) := by decide +kernel
theorem dJ6_bitCount_0f7a4_2 : decode cJ6_bitCount_0f7a4 2 = .ok (.iconst 1, 1) := by decide +kernel
theorem dJ6_bitCount_0f7a4_3 : decode cJ6_bitCount_0f7a4 3 = .ok (.iushr, 1) := by decide +kernel
theorem dJ6_bitCount_0f7a4_4 : decode cJ6_bitCount_0f7a4 4 = .ok (.ldc_w 265, 3) := by decide +kernel
theorem dJ6_bitCount_0f7a4_7 : decode cJ6_bitCount_0f7a4 7 = .ok (.iand, 1) := by decide +kernel
theorem dJ6_bitCount_0f7a4_8 : decode cJ6_bitCount_0f7a4 8 = .ok (.isub, 1) := by decide +kernel
theorem dJ6_bitCount_0f7a4_9 : decode cJ6_bitCount_0f7a4 9 = .ok (.istore_n 0, 1) := by decide +kernel
theorem dJ6_bitCount_0f7a4_10 : decode cJ6_bitCount_0f7a4 10 = .ok (.iload_n 0, 1) := by decide +kernel
theorem dJ6_bitCount_0f7a4_11 : decode cJ6_bitCount_0f7a4 11 = .ok (.ldc_w 266, 3) := by decide +kernel
theorem dJ6_bitCount_0f7a4_14 : decode cJ6_bitCount_0f7a4 14 = .ok (.iand, 1) := by decide +kernel
theorem dJ6_bitCount_0f7a4_15 : decode cJ6_bitCount_0f7a4 15 = .ok (.iload_n 0, 1) := by decide +kernel
theorem dJ6_bitCount_0f7a4_16 : decode cJ6_bitCount_0f7a4 16 = .ok (.iconst 2, 1) := by decide +kernel
theorem dJ6_bitCount_0f7a4_17 : decode cJ6_bitCount_0f7a4 17 = .ok (.iushr, 1) := by decide +kernel
theorem dJ6_bitCount_0f7a4_18 : decode cJ6_bitCount_0f7a4 18 = .ok (.ldc_w 266, 3) := by decide +kernel
theorem dJ6_bitCount_0f7a4_21 : decode cJ6_bitCount_0f7a4 21 = .ok (.iand, 1) := by decide +kernel
theorem dJ6_bitCount_0f7a4_22 : decode cJ6_bitCount_0f7a4 22 = .ok (.iadd, 1) := by decide +kernel
theorem dJ6_bitCount_0f7a4_23 : decode cJ6_bitCount_0f7a4 23 = .ok (.istore_n 0, 1) := by decide +kernel
theorem dJ6_bitCount_0f7a4_24 : decode cJ6_bitCount_0f7a4 24 = .ok (.iload_n 0, 1) := by decide +kernel
theorem dJ6_bitCount_0f7a4_25 : decode cJ6_bitCount_0f7a4 25 = .ok (.iload_n 0, 1) := by decide +kernel
theorem dJ6_bitCount_0f7a4_26 : decode cJ6_bitCount_0f7a4 26 = .ok (.iconst 4, 1) := by decide +kernel
theorem dJ6_bitCount_0f7a4_27 : decode cJ6_bitCount_0f7a4 27 = .ok (.iushr, 1) := by decide +kernel
theorem dJ6_bitCount_0f7a4_28 : decode cJ6_bitCount_0f7a4 28 = .ok (.iadd, 1) := by decide +kernel
theorem dJ6_bitCount_0f7a4_29 : decode cJ6_bitCount_0f7a4 29 = .ok (.ldc_w 267, 3) := by decide +kernel
theorem dJ6_bitCount_0f7a4_32 : decode cJ6_bitCount_0f7a4 32 = .ok (.iand, 1) := by decide +kernel
theorem dJ6_bitCount_0f7a4_33 : decode cJ6_bitCount_0f7a4 33 = .ok (.istore_n 0, 1) := by decide +kernel
theorem dJ6_bitCount_0f7a4_34 : decode cJ6_bitCount_0f7a4 34 = .ok (.iload_n 0, 1) := by decide +kernel
theorem dJ6_bitCount_0f7a4_35 : decode cJ6_bitCount_0f7a4 35 = .ok (.iload_n 0, 1) := by decide +kernel
theorem dJ6_bitCount_0f7a4_36 : decode cJ6_bitCount_0f7a4 36 = .ok (.bipush 8, 2) := by decide +kernel
theorem dJ6_bitCount_0f7a4_38 : decode cJ6_bitCount_0f7a4 38 = .ok (.iushr, 1) := by decide +kernel
theorem dJ6_bitCount_0f7a4_39 : decode cJ6_bitCount_0f7a4 39 = .ok (.iadd, 1) := by decide +kernel
theorem dJ6_bitCount_0f7a4_40 : decode cJ6_bitCount_0f7a4 40 = .ok (.istore_n 0, 1) := by decide +kernel
theorem dJ6_bitCount_0f7a4_41 : decode cJ6_bitCount_0f7a4 41 = .ok (.iload_n 0, 1) := by decide +kernel
theorem dJ6_bitCount_0f7a4_42 : decode cJ6_bitCount_0f7a4 42 = .ok (.iload_n 0, 1) := by decide +kernel
theorem dJ6_bitCount_0f7a4_43 : decode cJ6_bitCount_0f7a4 43 = .ok (.bipush 16, 2) := by decide +kernel
theorem dJ6_bitCount_0f7a4_45 : decode cJ6_bitCount_0f7a4 45 = .ok (.iushr, 1) := by decide +kernel
theorem dJ6_bitCount_0f7a4_46 : decode cJ6_bitCount_0f7a4 46 = .ok (.iadd, 1) := by decide +kernel
theorem dJ6_bitCount_0f7a4_47 : decode cJ6_bitCount_0f7a4 47 = .ok (.istore_n 0, 1) := by decide +kernel
theorem dJ6_bitCount_0f7a4_48 : decode cJ6_bitCount_0f7a4 48 = .ok (.iload_n 0, 1) := by decide +kernel
theorem dJ6_bitCount_0f7a4_49 : decode cJ6_bitCount_0f7a4 49 = .ok (.bipush 63, 2) := by decide +kernel
theorem dJ6_bitCount_0f7a4_51 : decode cJ6_bitCount_0f7a4 51 = .ok (.iand, 1) := by decide +kernel
theorem dJ6_bitCount_0f7a4_52 : decode cJ6_bitCount_0f7a4 52 = .ok (.ireturn, 1) := by decide +kernel
theorem dJ9_abs_0f7a4_0 : decode cJ9_abs_0f7a4 0 = .ok (.iload_n 0, 1) := by decide +kernel
theorem dJ9_abs_0f7a4_1 : decode cJ9_abs_0f7a4 1 = .ok (.ifCond .ge 8, 3) := by decide +kernel
theorem dJ9_abs_0f7a4_4 : decode cJ9_abs_0f7a4 4 = .ok (.iload_n 0, 1) := by decide +kernel
theorem dJ9_abs_0f7a4_5 : decode cJ9_abs_0f7a4 5 = .ok (.ineg, 1) := by decide +kernel
theorem dJ9_abs_0f7a4_6 : decode cJ9_abs_0f7a4 6 = .ok (.goto 4, 3) := by decide +kernel
theorem dJ9_abs_0f7a4_9 : decode cJ9_abs_0f7a4 9 = .ok (.iload_n 0, 1) := by decide +kernel
theorem dJ9_abs_0f7a4_10 : decode cJ9_abs_0f7a4 10 = .ok (.ireturn, 1) := by decide +kernel
theorem dJ9_max_7cf53_0 : decode cJ9_max_7cf53 0 = .ok (.iload_n 0, 1) := by decide +kernel
theorem dJ9_max_7cf53_1 : decode cJ9_max_7cf53 1 = .ok (.iload_n 1, 1) := by decide +kernel
theorem dJ9_max_7cf53_2 : decode cJ9_max_7cf53 2 = .ok (.if_icmp .lt 7, 3) := by decide +kernel
theorem dJ9_max_7cf53_5 : decode cJ9_max_7cf53 5 = .ok (.iload_n 0, 1) := by decide +kernel
theorem dJ9_max_7cf53_6 : decode cJ9_max_7cf53 6 = .ok (.goto 4, 3) := by decide +kernel
theorem dJ9_max_7cf53_9 : decode cJ9_max_7cf53 9 = .ok (.iload_n 1, 1) := by decide +kernel
theorem dJ9_max_7cf53_10 : decode cJ9_max_7cf53 10 = .ok (.ireturn, 1) := by decide +kernel
theorem dJ9_min_7cf53_0 : decode cJ9_min_7cf53 0 = .ok (.iload_n 0, 1) := by decide +kernel
theorem dJ9_min_7cf53_1 : decode cJ9_min_7cf53 1 = .ok (.iload_n 1, 1) := by decide +kernel
theorem dJ9_min_7cf53_2 : decode cJ9_min_7cf53 2 = .ok (.if_icmp .gt 7, 3) := by decide +kernel
theorem dJ9_min_7cf53_5 : decode cJ9_min_7cf53 5 = .ok (.iload_n 0, 1) := by decide +kernel
theorem dJ9_min_7cf53_6 : decode cJ9_min_7cf53 6 = .ok (.goto 4, 3) := by decide +kernel
theorem dJ9_min_7cf53_9 : decode cJ9_min_7cf53 9 = .ok (.iload_n 1, 1) := by decide +kernel
theorem dJ9_min_7cf53_10 : decode cJ9_min_7cf53 10 = .ok (.ireturn, 1) := by decide +kernel
theorem dL_law_0 : decode cL_law 0 = .ok (.new 7, 3) := by decide +kernel
theorem dL_law_3 : decode cL_law 3 = .ok (.dup, 1) := by decide +kernel
theorem dL_law_4 : decode cL_law 4 = .ok (.invokespecial 9, 3) := by decide +kernel
theorem dL_law_7 : decode cL_law 7 = .ok (.astore_n 1, 1) := by decide +kernel
theorem dL_law_8 : decode cL_law 8 = .ok (.new 10, 3) := by decide +kernel
theorem dL_law_11 : decode cL_law 11 = .ok (.dup, 1) := by decide +kernel
theorem dL_law_12 : decode cL_law 12 = .ok (.invokespecial 12, 3) := by decide +kernel
theorem dL_law_15 : decode cL_law 15 = .ok (.astore_n 2, 1) := by decide +kernel
theorem dL_law_16 : decode cL_law 16 = .ok (.iconst 0, 1) := by decide +kernel
theorem dL_law_17 : decode cL_law 17 = .ok (.istore_n 3, 1) := by decide +kernel
theorem dL_law_18 : decode cL_law 18 = .ok (.iload_n 3, 1) := by decide +kernel
theorem dL_law_19 : decode cL_law 19 = .ok (.aload_n 0, 1) := by decide +kernel
theorem dL_law_20 : decode cL_law 20 = .ok (.arraylength, 1) := by decide +kernel
theorem dL_law_21 : decode cL_law 21 = .ok (.iconst 5, 1) := by decide +kernel
theorem dL_law_22 : decode cL_law 22 = .ok (.isub, 1) := by decide +kernel
theorem dL_law_23 : decode cL_law 23 = .ok (.if_icmp .gt 933, 3) := by decide +kernel
theorem dL_law_26 : decode cL_law 26 = .ok (.aload_n 0, 1) := by decide +kernel
theorem dL_law_27 : decode cL_law 27 = .ok (.iload_n 3, 1) := by decide +kernel
theorem dL_law_28 : decode cL_law 28 = .ok (.iaload, 1) := by decide +kernel
theorem dL_law_29 : decode cL_law 29 = .ok (.bipush 31, 2) := by decide +kernel
theorem dL_law_31 : decode cL_law 31 = .ok (.iand, 1) := by decide +kernel
theorem dL_law_32 : decode cL_law 32 = .ok (.tableswitch 918 0 26 #[124, 147, 160, 173, 186, 209, 232, 265, 298, 321, 354, 367, 390, 413, 436, 469, 492, 555, 604, 657, 670, 693, 736, 795, 849, 872, 895], 124) := by decide +kernel
theorem dL_law_156 : decode cL_law 156 = .ok (.aload_n 1, 1) := by decide +kernel
theorem dL_law_157 : decode cL_law 157 = .ok (.aload_n 0, 1) := by decide +kernel
theorem dL_law_158 : decode cL_law 158 = .ok (.iload_n 3, 1) := by decide +kernel
theorem dL_law_159 : decode cL_law 159 = .ok (.iconst 1, 1) := by decide +kernel
theorem dL_law_160 : decode cL_law 160 = .ok (.iadd, 1) := by decide +kernel
theorem dL_law_161 : decode cL_law 161 = .ok (.iaload, 1) := by decide +kernel
theorem dL_law_162 : decode cL_law 162 = .ok (.invokevirtual 13, 3) := by decide +kernel
theorem dL_law_165 : decode cL_law 165 = .ok (.aload_n 2, 1) := by decide +kernel
theorem dL_law_166 : decode cL_law 166 = .ok (.aload_n 0, 1) := by decide +kernel
theorem dL_law_167 : decode cL_law 167 = .ok (.iload_n 3, 1) := by decide +kernel
theorem dL_law_168 : decode cL_law 168 = .ok (.iconst 1, 1) := by decide +kernel
theorem dL_law_169 : decode cL_law 169 = .ok (.iadd, 1) := by decide +kernel
theorem dL_law_170 : decode cL_law 170 = .ok (.iaload, 1) := by decide +kernel
theorem dL_law_171 : decode cL_law 171 = .ok (.invokevirtual 17, 3) := by decide +kernel
theorem dL_law_174 : decode cL_law 174 = .ok (.if_icmp .eq 776, 3) := by decide +kernel
theorem dL_law_177 : decode cL_law 177 = .ok (.iconst 0, 1) := by decide +kernel
theorem dL_law_178 : decode cL_law 178 = .ok (.ireturn, 1) := by decide +kernel
theorem dL_law_179 : decode cL_law 179 = .ok (.aload_n 1, 1) := by decide +kernel
theorem dL_law_180 : decode cL_law 180 = .ok (.invokevirtual 18, 3) := by decide +kernel
theorem dL_law_183 : decode cL_law 183 = .ok (.aload_n 2, 1) := by decide +kernel
theorem dL_law_184 : decode cL_law 184 = .ok (.invokevirtual 22, 3) := by decide +kernel
theorem dL_law_187 : decode cL_law 187 = .ok (.if_icmp .eq 763, 3) := by decide +kernel
theorem dL_law_190 : decode cL_law 190 = .ok (.iconst 0, 1) := by decide +kernel
theorem dL_law_191 : decode cL_law 191 = .ok (.ireturn, 1) := by decide +kernel
theorem dL_law_192 : decode cL_law 192 = .ok (.aload_n 1, 1) := by decide +kernel
theorem dL_law_193 : decode cL_law 193 = .ok (.invokevirtual 23, 3) := by decide +kernel
theorem dL_law_196 : decode cL_law 196 = .ok (.aload_n 2, 1) := by decide +kernel
theorem dL_law_197 : decode cL_law 197 = .ok (.invokevirtual 26, 3) := by decide +kernel
theorem dL_law_200 : decode cL_law 200 = .ok (.if_icmp .eq 750, 3) := by decide +kernel
theorem dL_law_203 : decode cL_law 203 = .ok (.iconst 0, 1) := by decide +kernel
theorem dL_law_204 : decode cL_law 204 = .ok (.ireturn, 1) := by decide +kernel
theorem dL_law_205 : decode cL_law 205 = .ok (.aload_n 1, 1) := by decide +kernel
theorem dL_law_206 : decode cL_law 206 = .ok (.invokevirtual 27, 3) := by decide +kernel
theorem dL_law_209 : decode cL_law 209 = .ok (.aload_n 2, 1) := by decide +kernel
theorem dL_law_210 : decode cL_law 210 = .ok (.invokevirtual 30, 3) := by decide +kernel
theorem dL_law_213 : decode cL_law 213 = .ok (.if_icmp .eq 737, 3) := by decide +kernel
theorem dL_law_216 : decode cL_law 216 = .ok (.iconst 0, 1) := by decide +kernel
theorem dL_law_217 : decode cL_law 217 = .ok (.ireturn, 1) := by decide +kernel
theorem dL_law_218 : decode cL_law 218 = .ok (.aload_n 1, 1) := by decide +kernel
theorem dL_law_219 : decode cL_law 219 = .ok (.aload_n 0, 1) := by decide +kernel
theorem dL_law_220 : decode cL_law 220 = .ok (.iload_n 3, 1) := by decide +kernel
theorem dL_law_221 : decode cL_law 221 = .ok (.iconst 1, 1) := by decide +kernel
theorem dL_law_222 : decode cL_law 222 = .ok (.iadd, 1) := by decide +kernel
theorem dL_law_223 : decode cL_law 223 = .ok (.iaload, 1) := by decide +kernel
theorem dL_law_224 : decode cL_law 224 = .ok (.invokevirtual 31, 3) := by decide +kernel
theorem dL_law_227 : decode cL_law 227 = .ok (.aload_n 2, 1) := by decide +kernel
theorem dL_law_228 : decode cL_law 228 = .ok (.aload_n 0, 1) := by decide +kernel
theorem dL_law_229 : decode cL_law 229 = .ok (.iload_n 3, 1) := by decide +kernel
theorem dL_law_230 : decode cL_law 230 = .ok (.iconst 1, 1) := by decide +kernel
theorem dL_law_231 : decode cL_law 231 = .ok (.iadd, 1) := by decide +kernel
theorem dL_law_232 : decode cL_law 232 = .ok (.iaload, 1) := by decide +kernel
theorem dL_law_233 : decode cL_law 233 = .ok (.invokevirtual 34, 3) := by decide +kernel
theorem dL_law_236 : decode cL_law 236 = .ok (.if_icmp .eq 714, 3) := by decide +kernel
theorem dL_law_239 : decode cL_law 239 = .ok (.iconst 0, 1) := by decide +kernel
theorem dL_law_240 : decode cL_law 240 = .ok (.ireturn, 1) := by decide +kernel
theorem dL_law_241 : decode cL_law 241 = .ok (.aload_n 1, 1) := by decide +kernel
theorem dL_law_242 : decode cL_law 242 = .ok (.aload_n 0, 1) := by decide +kernel
theorem dL_law_243 : decode cL_law 243 = .ok (.iload_n 3, 1) := by decide +kernel
theorem dL_law_244 : decode cL_law 244 = .ok (.iconst 1, 1) := by decide +kernel
theorem dL_law_245 : decode cL_law 245 = .ok (.iadd, 1) := by decide +kernel
theorem dL_law_246 : decode cL_law 246 = .ok (.iaload, 1) := by decide +kernel
theorem dL_law_247 : decode cL_law 247 = .ok (.invokevirtual 35, 3) := by decide +kernel
theorem dL_law_250 : decode cL_law 250 = .ok (.aload_n 2, 1) := by decide +kernel
theorem dL_law_251 : decode cL_law 251 = .ok (.aload_n 0, 1) := by decide +kernel
theorem dL_law_252 : decode cL_law 252 = .ok (.iload_n 3, 1) := by decide +kernel
theorem dL_law_253 : decode cL_law 253 = .ok (.iconst 1, 1) := by decide +kernel
theorem dL_law_254 : decode cL_law 254 = .ok (.iadd, 1) := by decide +kernel
theorem dL_law_255 : decode cL_law 255 = .ok (.iaload, 1) := by decide +kernel
theorem dL_law_256 : decode cL_law 256 = .ok (.invokevirtual 38, 3) := by decide +kernel
theorem dL_law_259 : decode cL_law 259 = .ok (.if_icmp .eq 691, 3) := by decide +kernel
theorem dL_law_262 : decode cL_law 262 = .ok (.iconst 0, 1) := by decide +kernel
theorem dL_law_263 : decode cL_law 263 = .ok (.ireturn, 1) := by decide +kernel
theorem dL_law_264 : decode cL_law 264 = .ok (.aload_n 1, 1) := by decide +kernel
theorem dL_law_265 : decode cL_law 265 = .ok (.aload_n 0, 1) := by decide +kernel
theorem dL_law_266 : decode cL_law 266 = .ok (.iload_n 3, 1) := by decide +kernel
theorem dL_law_267 : decode cL_law 267 = .ok (.iconst 1, 1) := by decide +kernel
theorem dL_law_268 : decode cL_law 268 = .ok (.iadd, 1) := by decide +kernel
theorem dL_law_269 : decode cL_law 269 = .ok (.iaload, 1) := by decide +kernel
theorem dL_law_270 : decode cL_law 270 = .ok (.aload_n 0, 1) := by decide +kernel
theorem dL_law_271 : decode cL_law 271 = .ok (.iload_n 3, 1) := by decide +kernel
theorem dL_law_272 : decode cL_law 272 = .ok (.iconst 2, 1) := by decide +kernel
theorem dL_law_273 : decode cL_law 273 = .ok (.iadd, 1) := by decide +kernel
theorem dL_law_274 : decode cL_law 274 = .ok (.iaload, 1) := by decide +kernel
theorem dL_law_275 : decode cL_law 275 = .ok (.invokevirtual 39, 3) := by decide +kernel
theorem dL_law_278 : decode cL_law 278 = .ok (.aload_n 2, 1) := by decide +kernel
theorem dL_law_279 : decode cL_law 279 = .ok (.aload_n 0, 1) := by decide +kernel
theorem dL_law_280 : decode cL_law 280 = .ok (.iload_n 3, 1) := by decide +kernel
theorem dL_law_281 : decode cL_law 281 = .ok (.iconst 1, 1) := by decide +kernel
theorem dL_law_282 : decode cL_law 282 = .ok (.iadd, 1) := by decide +kernel
theorem dL_law_283 : decode cL_law 283 = .ok (.iaload, 1) := by decide +kernel
theorem dL_law_284 : decode cL_law 284 = .ok (.aload_n 0, 1) := by decide +kernel
theorem dL_law_285 : decode cL_law 285 = .ok (.iload_n 3, 1) := by decide +kernel
theorem dL_law_286 : decode cL_law 286 = .ok (.iconst 2, 1) := by decide +kernel
theorem dL_law_287 : decode cL_law 287 = .ok (.iadd, 1) := by decide +kernel
theorem dL_law_288 : decode cL_law 288 = .ok (.iaload, 1) := by decide +kernel
theorem dL_law_289 : decode cL_law 289 = .ok (.invokevirtual 43, 3) := by decide +kernel
theorem dL_law_292 : decode cL_law 292 = .ok (.if_icmp .eq 658, 3) := by decide +kernel
theorem dL_law_295 : decode cL_law 295 = .ok (.iconst 0, 1) := by decide +kernel
theorem dL_law_296 : decode cL_law 296 = .ok (.ireturn, 1) := by decide +kernel
theorem dL_law_297 : decode cL_law 297 = .ok (.aload_n 1, 1) := by decide +kernel
theorem dL_law_298 : decode cL_law 298 = .ok (.aload_n 0, 1) := by decide +kernel
theorem dL_law_299 : decode cL_law 299 = .ok (.iload_n 3, 1) := by decide +kernel
theorem dL_law_300 : decode cL_law 300 = .ok (.iconst 1, 1) := by decide +kernel
theorem dL_law_301 : decode cL_law 301 = .ok (.iadd, 1) := by decide +kernel
theorem dL_law_302 : decode cL_law 302 = .ok (.iaload, 1) := by decide +kernel
theorem dL_law_303 : decode cL_law 303 = .ok (.aload_n 0, 1) := by decide +kernel
theorem dL_law_304 : decode cL_law 304 = .ok (.iload_n 3, 1) := by decide +kernel
theorem dL_law_305 : decode cL_law 305 = .ok (.iconst 2, 1) := by decide +kernel
theorem dL_law_306 : decode cL_law 306 = .ok (.iadd, 1) := by decide +kernel
theorem dL_law_307 : decode cL_law 307 = .ok (.iaload, 1) := by decide +kernel
theorem dL_law_308 : decode cL_law 308 = .ok (.invokevirtual 44, 3) := by decide +kernel
theorem dL_law_311 : decode cL_law 311 = .ok (.aload_n 2, 1) := by decide +kernel
theorem dL_law_312 : decode cL_law 312 = .ok (.aload_n 0, 1) := by decide +kernel
theorem dL_law_313 : decode cL_law 313 = .ok (.iload_n 3, 1) := by decide +kernel
theorem dL_law_314 : decode cL_law 314 = .ok (.iconst 1, 1) := by decide +kernel
theorem dL_law_315 : decode cL_law 315 = .ok (.iadd, 1) := by decide +kernel
theorem dL_law_316 : decode cL_law 316 = .ok (.iaload, 1) := by decide +kernel
theorem dL_law_317 : decode cL_law 317 = .ok (.aload_n 0, 1) := by decide +kernel
theorem dL_law_318 : decode cL_law 318 = .ok (.iload_n 3, 1) := by decide +kernel
theorem dL_law_319 : decode cL_law 319 = .ok (.iconst 2, 1) := by decide +kernel
theorem dL_law_320 : decode cL_law 320 = .ok (.iadd, 1) := by decide +kernel
theorem dL_law_321 : decode cL_law 321 = .ok (.iaload, 1) := by decide +kernel
theorem dL_law_322 : decode cL_law 322 = .ok (.invokevirtual 47, 3) := by decide +kernel
theorem dL_law_325 : decode cL_law 325 = .ok (.if_icmp .eq 625, 3) := by decide +kernel
theorem dL_law_328 : decode cL_law 328 = .ok (.iconst 0, 1) := by decide +kernel
theorem dL_law_329 : decode cL_law 329 = .ok (.ireturn, 1) := by decide +kernel
theorem dL_law_330 : decode cL_law 330 = .ok (.aload_n 1, 1) := by decide +kernel
theorem dL_law_331 : decode cL_law 331 = .ok (.aload_n 0, 1) := by decide +kernel
theorem dL_law_332 : decode cL_law 332 = .ok (.iload_n 3, 1) := by decide +kernel
theorem dL_law_333 : decode cL_law 333 = .ok (.iconst 1, 1) := by decide +kernel
theorem dL_law_334 : decode cL_law 334 = .ok (.iadd, 1) := by decide +kernel
theorem dL_law_335 : decode cL_law 335 = .ok (.iaload, 1) := by decide +kernel
theorem dL_law_336 : decode cL_law 336 = .ok (.invokevirtual 48, 3) := by decide +kernel
theorem dL_law_339 : decode cL_law 339 = .ok (.aload_n 2, 1) := by decide +kernel
theorem dL_law_340 : decode cL_law 340 = .ok (.aload_n 0, 1) := by decide +kernel
theorem dL_law_341 : decode cL_law 341 = .ok (.iload_n 3, 1) := by decide +kernel
theorem dL_law_342 : decode cL_law 342 = .ok (.iconst 1, 1) := by decide +kernel
theorem dL_law_343 : decode cL_law 343 = .ok (.iadd, 1) := by decide +kernel
theorem dL_law_344 : decode cL_law 344 = .ok (.iaload, 1) := by decide +kernel
theorem dL_law_345 : decode cL_law 345 = .ok (.invokevirtual 51, 3) := by decide +kernel
theorem dL_law_348 : decode cL_law 348 = .ok (.if_icmp .eq 602, 3) := by decide +kernel
theorem dL_law_351 : decode cL_law 351 = .ok (.iconst 0, 1) := by decide +kernel
theorem dL_law_352 : decode cL_law 352 = .ok (.ireturn, 1) := by decide +kernel
theorem dL_law_353 : decode cL_law 353 = .ok (.aload_n 1, 1) := by decide +kernel
theorem dL_law_354 : decode cL_law 354 = .ok (.aload_n 0, 1) := by decide +kernel
theorem dL_law_355 : decode cL_law 355 = .ok (.iload_n 3, 1) := by decide +kernel
theorem dL_law_356 : decode cL_law 356 = .ok (.iconst 1, 1) := by decide +kernel
theorem dL_law_357 : decode cL_law 357 = .ok (.iadd, 1) := by decide +kernel
theorem dL_law_358 : decode cL_law 358 = .ok (.iaload, 1) := by decide +kernel
theorem dL_law_359 : decode cL_law 359 = .ok (.aload_n 0, 1) := by decide +kernel
theorem dL_law_360 : decode cL_law 360 = .ok (.iload_n 3, 1) := by decide +kernel
theorem dL_law_361 : decode cL_law 361 = .ok (.iconst 2, 1) := by decide +kernel
theorem dL_law_362 : decode cL_law 362 = .ok (.iadd, 1) := by decide +kernel
theorem dL_law_363 : decode cL_law 363 = .ok (.iaload, 1) := by decide +kernel
theorem dL_law_364 : decode cL_law 364 = .ok (.invokevirtual 52, 3) := by decide +kernel
theorem dL_law_367 : decode cL_law 367 = .ok (.aload_n 2, 1) := by decide +kernel
theorem dL_law_368 : decode cL_law 368 = .ok (.aload_n 0, 1) := by decide +kernel
theorem dL_law_369 : decode cL_law 369 = .ok (.iload_n 3, 1) := by decide +kernel
theorem dL_law_370 : decode cL_law 370 = .ok (.iconst 1, 1) := by decide +kernel
theorem dL_law_371 : decode cL_law 371 = .ok (.iadd, 1) := by decide +kernel
theorem dL_law_372 : decode cL_law 372 = .ok (.iaload, 1) := by decide +kernel
theorem dL_law_373 : decode cL_law 373 = .ok (.aload_n 0, 1) := by decide +kernel
theorem dL_law_374 : decode cL_law 374 = .ok (.iload_n 3, 1) := by decide +kernel
theorem dL_law_375 : decode cL_law 375 = .ok (.iconst 2, 1) := by decide +kernel
theorem dL_law_376 : decode cL_law 376 = .ok (.iadd, 1) := by decide +kernel
theorem dL_law_377 : decode cL_law 377 = .ok (.iaload, 1) := by decide +kernel
theorem dL_law_378 : decode cL_law 378 = .ok (.invokevirtual 55, 3) := by decide +kernel
theorem dL_law_381 : decode cL_law 381 = .ok (.if_icmp .eq 569, 3) := by decide +kernel
theorem dL_law_384 : decode cL_law 384 = .ok (.iconst 0, 1) := by decide +kernel
theorem dL_law_385 : decode cL_law 385 = .ok (.ireturn, 1) := by decide +kernel
theorem dL_law_386 : decode cL_law 386 = .ok (.aload_n 1, 1) := by decide +kernel
theorem dL_law_387 : decode cL_law 387 = .ok (.invokevirtual 56, 3) := by decide +kernel
theorem dL_law_390 : decode cL_law 390 = .ok (.aload_n 2, 1) := by decide +kernel
theorem dL_law_391 : decode cL_law 391 = .ok (.invokevirtual 59, 3) := by decide +kernel
theorem dL_law_394 : decode cL_law 394 = .ok (.if_icmp .eq 556, 3) := by decide +kernel
theorem dL_law_397 : decode cL_law 397 = .ok (.iconst 0, 1) := by decide +kernel
theorem dL_law_398 : decode cL_law 398 = .ok (.ireturn, 1) := by decide +kernel
theorem dL_law_399 : decode cL_law 399 = .ok (.aload_n 1, 1) := by decide +kernel
theorem dL_law_400 : decode cL_law 400 = .ok (.aload_n 0, 1) := by decide +kernel
theorem dL_law_401 : decode cL_law 401 = .ok (.iload_n 3, 1) := by decide +kernel
theorem dL_law_402 : decode cL_law 402 = .ok (.iconst 1, 1) := by decide +kernel
theorem dL_law_403 : decode cL_law 403 = .ok (.iadd, 1) := by decide +kernel
theorem dL_law_404 : decode cL_law 404 = .ok (.iaload, 1) := by decide +kernel
theorem dL_law_405 : decode cL_law 405 = .ok (.invokevirtual 60, 3) := by decide +kernel
theorem dL_law_408 : decode cL_law 408 = .ok (.aload_n 2, 1) := by decide +kernel
theorem dL_law_409 : decode cL_law 409 = .ok (.aload_n 0, 1) := by decide +kernel
theorem dL_law_410 : decode cL_law 410 = .ok (.iload_n 3, 1) := by decide +kernel
theorem dL_law_411 : decode cL_law 411 = .ok (.iconst 1, 1) := by decide +kernel
theorem dL_law_412 : decode cL_law 412 = .ok (.iadd, 1) := by decide +kernel
theorem dL_law_413 : decode cL_law 413 = .ok (.iaload, 1) := by decide +kernel
theorem dL_law_414 : decode cL_law 414 = .ok (.invokevirtual 63, 3) := by decide +kernel
theorem dL_law_417 : decode cL_law 417 = .ok (.if_icmp .eq 533, 3) := by decide +kernel
theorem dL_law_420 : decode cL_law 420 = .ok (.iconst 0, 1) := by decide +kernel
theorem dL_law_421 : decode cL_law 421 = .ok (.ireturn, 1) := by decide +kernel
theorem dL_law_422 : decode cL_law 422 = .ok (.aload_n 1, 1) := by decide +kernel
theorem dL_law_423 : decode cL_law 423 = .ok (.aload_n 0, 1) := by decide +kernel
theorem dL_law_424 : decode cL_law 424 = .ok (.iload_n 3, 1) := by decide +kernel
theorem dL_law_425 : decode cL_law 425 = .ok (.iconst 1, 1) := by decide +kernel
theorem dL_law_426 : decode cL_law 426 = .ok (.iadd, 1) := by decide +kernel
theorem dL_law_427 : decode cL_law 427 = .ok (.iaload, 1) := by decide +kernel
theorem dL_law_428 : decode cL_law 428 = .ok (.invokevirtual 64, 3) := by decide +kernel
theorem dL_law_431 : decode cL_law 431 = .ok (.aload_n 2, 1) := by decide +kernel
theorem dL_law_432 : decode cL_law 432 = .ok (.aload_n 0, 1) := by decide +kernel
theorem dL_law_433 : decode cL_law 433 = .ok (.iload_n 3, 1) := by decide +kernel
theorem dL_law_434 : decode cL_law 434 = .ok (.iconst 1, 1) := by decide +kernel
theorem dL_law_435 : decode cL_law 435 = .ok (.iadd, 1) := by decide +kernel
theorem dL_law_436 : decode cL_law 436 = .ok (.iaload, 1) := by decide +kernel
theorem dL_law_437 : decode cL_law 437 = .ok (.invokevirtual 67, 3) := by decide +kernel
theorem dL_law_440 : decode cL_law 440 = .ok (.if_icmp .eq 510, 3) := by decide +kernel
theorem dL_law_443 : decode cL_law 443 = .ok (.iconst 0, 1) := by decide +kernel
theorem dL_law_444 : decode cL_law 444 = .ok (.ireturn, 1) := by decide +kernel
theorem dL_law_445 : decode cL_law 445 = .ok (.aload_n 1, 1) := by decide +kernel
theorem dL_law_446 : decode cL_law 446 = .ok (.aload_n 0, 1) := by decide +kernel
theorem dL_law_447 : decode cL_law 447 = .ok (.iload_n 3, 1) := by decide +kernel
theorem dL_law_448 : decode cL_law 448 = .ok (.iconst 1, 1) := by decide +kernel
theorem dL_law_449 : decode cL_law 449 = .ok (.iadd, 1) := by decide +kernel
theorem dL_law_450 : decode cL_law 450 = .ok (.iaload, 1) := by decide +kernel
theorem dL_law_451 : decode cL_law 451 = .ok (.invokevirtual 68, 3) := by decide +kernel
theorem dL_law_454 : decode cL_law 454 = .ok (.aload_n 2, 1) := by decide +kernel
theorem dL_law_455 : decode cL_law 455 = .ok (.aload_n 0, 1) := by decide +kernel
theorem dL_law_456 : decode cL_law 456 = .ok (.iload_n 3, 1) := by decide +kernel
theorem dL_law_457 : decode cL_law 457 = .ok (.iconst 1, 1) := by decide +kernel
theorem dL_law_458 : decode cL_law 458 = .ok (.iadd, 1) := by decide +kernel
theorem dL_law_459 : decode cL_law 459 = .ok (.iaload, 1) := by decide +kernel
theorem dL_law_460 : decode cL_law 460 = .ok (.invokevirtual 71, 3) := by decide +kernel
theorem dL_law_463 : decode cL_law 463 = .ok (.if_icmp .eq 487, 3) := by decide +kernel
theorem dL_law_466 : decode cL_law 466 = .ok (.iconst 0, 1) := by decide +kernel
theorem dL_law_467 : decode cL_law 467 = .ok (.ireturn, 1) := by decide +kernel
theorem dL_law_468 : decode cL_law 468 = .ok (.aload_n 1, 1) := by decide +kernel
theorem dL_law_469 : decode cL_law 469 = .ok (.aload_n 0, 1) := by decide +kernel
theorem dL_law_470 : decode cL_law 470 = .ok (.iload_n 3, 1) := by decide +kernel
theorem dL_law_471 : decode cL_law 471 = .ok (.iconst 1, 1) := by decide +kernel
theorem dL_law_472 : decode cL_law 472 = .ok (.iadd, 1) := by decide +kernel
theorem dL_law_473 : decode cL_law 473 = .ok (.iaload, 1) := by decide +kernel
theorem dL_law_474 : decode cL_law 474 = .ok (.aload_n 0, 1) := by decide +kernel
theorem dL_law_475 : decode cL_law 475 = .ok (.iload_n 3, 1) := by decide +kernel
theorem dL_law_476 : decode cL_law 476 = .ok (.iconst 2, 1) := by decide +kernel
theorem dL_law_477 : decode cL_law 477 = .ok (.iadd, 1) := by decide +kernel
theorem dL_law_478 : decode cL_law 478 = .ok (.iaload, 1) := by decide +kernel
theorem dL_law_479 : decode cL_law 479 = .ok (.invokevirtual 72, 3) := by decide +kernel
theorem dL_law_482 : decode cL_law 482 = .ok (.aload_n 2, 1) := by decide +kernel
theorem dL_law_483 : decode cL_law 483 = .ok (.aload_n 0, 1) := by decide +kernel
theorem dL_law_484 : decode cL_law 484 = .ok (.iload_n 3, 1) := by decide +kernel
theorem dL_law_485 : decode cL_law 485 = .ok (.iconst 1, 1) := by decide +kernel
theorem dL_law_486 : decode cL_law 486 = .ok (.iadd, 1) := by decide +kernel
theorem dL_law_487 : decode cL_law 487 = .ok (.iaload, 1) := by decide +kernel
theorem dL_law_488 : decode cL_law 488 = .ok (.aload_n 0, 1) := by decide +kernel
theorem dL_law_489 : decode cL_law 489 = .ok (.iload_n 3, 1) := by decide +kernel
theorem dL_law_490 : decode cL_law 490 = .ok (.iconst 2, 1) := by decide +kernel
theorem dL_law_491 : decode cL_law 491 = .ok (.iadd, 1) := by decide +kernel
theorem dL_law_492 : decode cL_law 492 = .ok (.iaload, 1) := by decide +kernel
theorem dL_law_493 : decode cL_law 493 = .ok (.invokevirtual 75, 3) := by decide +kernel
theorem dL_law_496 : decode cL_law 496 = .ok (.if_icmp .eq 454, 3) := by decide +kernel
theorem dL_law_499 : decode cL_law 499 = .ok (.iconst 0, 1) := by decide +kernel
theorem dL_law_500 : decode cL_law 500 = .ok (.ireturn, 1) := by decide +kernel
theorem dL_law_501 : decode cL_law 501 = .ok (.aload_n 1, 1) := by decide +kernel
theorem dL_law_502 : decode cL_law 502 = .ok (.aload_n 0, 1) := by decide +kernel
theorem dL_law_503 : decode cL_law 503 = .ok (.iload_n 3, 1) := by decide +kernel
theorem dL_law_504 : decode cL_law 504 = .ok (.iconst 1, 1) := by decide +kernel
theorem dL_law_505 : decode cL_law 505 = .ok (.iadd, 1) := by decide +kernel
theorem dL_law_506 : decode cL_law 506 = .ok (.iaload, 1) := by decide +kernel
theorem dL_law_507 : decode cL_law 507 = .ok (.invokevirtual 76, 3) := by decide +kernel
theorem dL_law_510 : decode cL_law 510 = .ok (.aload_n 2, 1) := by decide +kernel
theorem dL_law_511 : decode cL_law 511 = .ok (.aload_n 0, 1) := by decide +kernel
theorem dL_law_512 : decode cL_law 512 = .ok (.iload_n 3, 1) := by decide +kernel
theorem dL_law_513 : decode cL_law 513 = .ok (.iconst 1, 1) := by decide +kernel
theorem dL_law_514 : decode cL_law 514 = .ok (.iadd, 1) := by decide +kernel
theorem dL_law_515 : decode cL_law 515 = .ok (.iaload, 1) := by decide +kernel
theorem dL_law_516 : decode cL_law 516 = .ok (.invokevirtual 79, 3) := by decide +kernel
theorem dL_law_519 : decode cL_law 519 = .ok (.if_icmp .eq 431, 3) := by decide +kernel
theorem dL_law_522 : decode cL_law 522 = .ok (.iconst 0, 1) := by decide +kernel
theorem dL_law_523 : decode cL_law 523 = .ok (.ireturn, 1) := by decide +kernel
theorem dL_law_524 : decode cL_law 524 = .ok (.aload_n 1, 1) := by decide +kernel
theorem dL_law_525 : decode cL_law 525 = .ok (.aload_n 0, 1) := by decide +kernel
theorem dL_law_526 : decode cL_law 526 = .ok (.iload_n 3, 1) := by decide +kernel
theorem dL_law_527 : decode cL_law 527 = .ok (.iconst 1, 1) := by decide +kernel
theorem dL_law_528 : decode cL_law 528 = .ok (.iadd, 1) := by decide +kernel
theorem dL_law_529 : decode cL_law 529 = .ok (.iaload, 1) := by decide +kernel
theorem dL_law_530 : decode cL_law 530 = .ok (.aload_n 0, 1) := by decide +kernel
theorem dL_law_531 : decode cL_law 531 = .ok (.iload_n 3, 1) := by decide +kernel
theorem dL_law_532 : decode cL_law 532 = .ok (.iconst 2, 1) := by decide +kernel
theorem dL_law_533 : decode cL_law 533 = .ok (.iadd, 1) := by decide +kernel
theorem dL_law_534 : decode cL_law 534 = .ok (.iaload, 1) := by decide +kernel
theorem dL_law_535 : decode cL_law 535 = .ok (.i2l, 1) := by decide +kernel
theorem dL_law_536 : decode cL_law 536 = .ok (.bipush 32, 2) := by decide +kernel
theorem dL_law_538 : decode cL_law 538 = .ok (.lshl, 1) := by decide +kernel
theorem dL_law_539 : decode cL_law 539 = .ok (.aload_n 0, 1) := by decide +kernel
theorem dL_law_540 : decode cL_law 540 = .ok (.iload_n 3, 1) := by decide +kernel
theorem dL_law_541 : decode cL_law 541 = .ok (.iconst 3, 1) := by decide +kernel
theorem dL_law_542 : decode cL_law 542 = .ok (.iadd, 1) := by decide +kernel
theorem dL_law_543 : decode cL_law 543 = .ok (.iaload, 1) := by decide +kernel
theorem dL_law_544 : decode cL_law 544 = .ok (.i2l, 1) := by decide +kernel
theorem dL_law_545 : decode cL_law 545 = .ok (.ldc2_w 80, 3) := by decide +kernel
theorem dL_law_548 : decode cL_law 548 = .ok (.land, 1) := by decide +kernel
theorem dL_law_549 : decode cL_law 549 = .ok (.lor, 1) := by decide +kernel
theorem dL_law_550 : decode cL_law 550 = .ok (.invokevirtual 82, 3) := by decide +kernel
theorem dL_law_553 : decode cL_law 553 = .ok (.aload_n 2, 1) := by decide +kernel
theorem dL_law_554 : decode cL_law 554 = .ok (.aload_n 0, 1) := by decide +kernel
theorem dL_law_555 : decode cL_law 555 = .ok (.iload_n 3, 1) := by decide +kernel
theorem dL_law_556 : decode cL_law 556 = .ok (.iconst 1, 1) := by decide +kernel
theorem dL_law_557 : decode cL_law 557 = .ok (.iadd, 1) := by decide +kernel
theorem dL_law_558 : decode cL_law 558 = .ok (.iaload, 1) := by decide +kernel
theorem dL_law_559 : decode cL_law 559 = .ok (.aload_n 0, 1) := by decide +kernel
theorem dL_law_560 : decode cL_law 560 = .ok (.iload_n 3, 1) := by decide +kernel
theorem dL_law_561 : decode cL_law 561 = .ok (.iconst 2, 1) := by decide +kernel
theorem dL_law_562 : decode cL_law 562 = .ok (.iadd, 1) := by decide +kernel
theorem dL_law_563 : decode cL_law 563 = .ok (.iaload, 1) := by decide +kernel
theorem dL_law_564 : decode cL_law 564 = .ok (.i2l, 1) := by decide +kernel
theorem dL_law_565 : decode cL_law 565 = .ok (.bipush 32, 2) := by decide +kernel
theorem dL_law_567 : decode cL_law 567 = .ok (.lshl, 1) := by decide +kernel
theorem dL_law_568 : decode cL_law 568 = .ok (.aload_n 0, 1) := by decide +kernel
theorem dL_law_569 : decode cL_law 569 = .ok (.iload_n 3, 1) := by decide +kernel
theorem dL_law_570 : decode cL_law 570 = .ok (.iconst 3, 1) := by decide +kernel
theorem dL_law_571 : decode cL_law 571 = .ok (.iadd, 1) := by decide +kernel
theorem dL_law_572 : decode cL_law 572 = .ok (.iaload, 1) := by decide +kernel
theorem dL_law_573 : decode cL_law 573 = .ok (.i2l, 1) := by decide +kernel
theorem dL_law_574 : decode cL_law 574 = .ok (.ldc2_w 80, 3) := by decide +kernel
theorem dL_law_577 : decode cL_law 577 = .ok (.land, 1) := by decide +kernel
theorem dL_law_578 : decode cL_law 578 = .ok (.lor, 1) := by decide +kernel
theorem dL_law_579 : decode cL_law 579 = .ok (.invokevirtual 86, 3) := by decide +kernel
theorem dL_law_582 : decode cL_law 582 = .ok (.if_icmp .eq 368, 3) := by decide +kernel
theorem dL_law_585 : decode cL_law 585 = .ok (.iconst 0, 1) := by decide +kernel
theorem dL_law_586 : decode cL_law 586 = .ok (.ireturn, 1) := by decide +kernel
theorem dL_law_587 : decode cL_law 587 = .ok (.aload_n 1, 1) := by decide +kernel
theorem dL_law_588 : decode cL_law 588 = .ok (.aload_n 0, 1) := by decide +kernel
theorem dL_law_589 : decode cL_law 589 = .ok (.iload_n 3, 1) := by decide +kernel
theorem dL_law_590 : decode cL_law 590 = .ok (.iconst 1, 1) := by decide +kernel
theorem dL_law_591 : decode cL_law 591 = .ok (.iadd, 1) := by decide +kernel
theorem dL_law_592 : decode cL_law 592 = .ok (.iaload, 1) := by decide +kernel
theorem dL_law_593 : decode cL_law 593 = .ok (.aload_n 0, 1) := by decide +kernel
theorem dL_law_594 : decode cL_law 594 = .ok (.iload_n 3, 1) := by decide +kernel
theorem dL_law_595 : decode cL_law 595 = .ok (.iconst 2, 1) := by decide +kernel
theorem dL_law_596 : decode cL_law 596 = .ok (.iadd, 1) := by decide +kernel
theorem dL_law_597 : decode cL_law 597 = .ok (.iaload, 1) := by decide +kernel
theorem dL_law_598 : decode cL_law 598 = .ok (.ifCond .eq 7, 3) := by decide +kernel
theorem dL_law_601 : decode cL_law 601 = .ok (.iconst 1, 1) := by decide +kernel
theorem dL_law_602 : decode cL_law 602 = .ok (.goto 4, 3) := by decide +kernel
theorem dL_law_605 : decode cL_law 605 = .ok (.iconst 0, 1) := by decide +kernel
theorem dL_law_606 : decode cL_law 606 = .ok (.invokevirtual 87, 3) := by decide +kernel
theorem dL_law_609 : decode cL_law 609 = .ok (.aload_n 2, 1) := by decide +kernel
theorem dL_law_610 : decode cL_law 610 = .ok (.aload_n 0, 1) := by decide +kernel
theorem dL_law_611 : decode cL_law 611 = .ok (.iload_n 3, 1) := by decide +kernel
theorem dL_law_612 : decode cL_law 612 = .ok (.iconst 1, 1) := by decide +kernel
theorem dL_law_613 : decode cL_law 613 = .ok (.iadd, 1) := by decide +kernel
theorem dL_law_614 : decode cL_law 614 = .ok (.iaload, 1) := by decide +kernel
theorem dL_law_615 : decode cL_law 615 = .ok (.aload_n 0, 1) := by decide +kernel
theorem dL_law_616 : decode cL_law 616 = .ok (.iload_n 3, 1) := by decide +kernel
theorem dL_law_617 : decode cL_law 617 = .ok (.iconst 2, 1) := by decide +kernel
theorem dL_law_618 : decode cL_law 618 = .ok (.iadd, 1) := by decide +kernel
theorem dL_law_619 : decode cL_law 619 = .ok (.iaload, 1) := by decide +kernel
theorem dL_law_620 : decode cL_law 620 = .ok (.ifCond .eq 7, 3) := by decide +kernel
theorem dL_law_623 : decode cL_law 623 = .ok (.iconst 1, 1) := by decide +kernel
theorem dL_law_624 : decode cL_law 624 = .ok (.goto 4, 3) := by decide +kernel
theorem dL_law_627 : decode cL_law 627 = .ok (.iconst 0, 1) := by decide +kernel
theorem dL_law_628 : decode cL_law 628 = .ok (.invokevirtual 91, 3) := by decide +kernel
theorem dL_law_631 : decode cL_law 631 = .ok (.if_icmp .eq 319, 3) := by decide +kernel
theorem dL_law_634 : decode cL_law 634 = .ok (.iconst 0, 1) := by decide +kernel
theorem dL_law_635 : decode cL_law 635 = .ok (.ireturn, 1) := by decide +kernel
theorem dL_law_636 : decode cL_law 636 = .ok (.aload_n 1, 1) := by decide +kernel
theorem dL_law_637 : decode cL_law 637 = .ok (.aload_n 0, 1) := by decide +kernel
theorem dL_law_638 : decode cL_law 638 = .ok (.iload_n 3, 1) := by decide +kernel
theorem dL_law_639 : decode cL_law 639 = .ok (.iconst 1, 1) := by decide +kernel
theorem dL_law_640 : decode cL_law 640 = .ok (.iadd, 1) := by decide +kernel
theorem dL_law_641 : decode cL_law 641 = .ok (.iaload, 1) := by decide +kernel
theorem dL_law_642 : decode cL_law 642 = .ok (.aload_n 0, 1) := by decide +kernel
theorem dL_law_643 : decode cL_law 643 = .ok (.iload_n 3, 1) := by decide +kernel
theorem dL_law_644 : decode cL_law 644 = .ok (.iconst 2, 1) := by decide +kernel
theorem dL_law_645 : decode cL_law 645 = .ok (.iadd, 1) := by decide +kernel
theorem dL_law_646 : decode cL_law 646 = .ok (.iaload, 1) := by decide +kernel
theorem dL_law_647 : decode cL_law 647 = .ok (.aload_n 0, 1) := by decide +kernel
theorem dL_law_648 : decode cL_law 648 = .ok (.iload_n 3, 1) := by decide +kernel
theorem dL_law_649 : decode cL_law 649 = .ok (.iconst 3, 1) := by decide +kernel
theorem dL_law_650 : decode cL_law 650 = .ok (.iadd, 1) := by decide +kernel
theorem dL_law_651 : decode cL_law 651 = .ok (.iaload, 1) := by decide +kernel
theorem dL_law_652 : decode cL_law 652 = .ok (.aload_n 0, 1) := by decide +kernel
theorem dL_law_653 : decode cL_law 653 = .ok (.iload_n 3, 1) := by decide +kernel
theorem dL_law_654 : decode cL_law 654 = .ok (.iconst 4, 1) := by decide +kernel
theorem dL_law_655 : decode cL_law 655 = .ok (.iadd, 1) := by decide +kernel
theorem dL_law_656 : decode cL_law 656 = .ok (.iaload, 1) := by decide +kernel
theorem dL_law_657 : decode cL_law 657 = .ok (.invokevirtual 92, 3) := by decide +kernel
theorem dL_law_660 : decode cL_law 660 = .ok (.aload_n 2, 1) := by decide +kernel
theorem dL_law_661 : decode cL_law 661 = .ok (.aload_n 0, 1) := by decide +kernel
theorem dL_law_662 : decode cL_law 662 = .ok (.iload_n 3, 1) := by decide +kernel
theorem dL_law_663 : decode cL_law 663 = .ok (.iconst 1, 1) := by decide +kernel
theorem dL_law_664 : decode cL_law 664 = .ok (.iadd, 1) := by decide +kernel
theorem dL_law_665 : decode cL_law 665 = .ok (.iaload, 1) := by decide +kernel
theorem dL_law_666 : decode cL_law 666 = .ok (.aload_n 0, 1) := by decide +kernel
theorem dL_law_667 : decode cL_law 667 = .ok (.iload_n 3, 1) := by decide +kernel
theorem dL_law_668 : decode cL_law 668 = .ok (.iconst 2, 1) := by decide +kernel
theorem dL_law_669 : decode cL_law 669 = .ok (.iadd, 1) := by decide +kernel
theorem dL_law_670 : decode cL_law 670 = .ok (.iaload, 1) := by decide +kernel
theorem dL_law_671 : decode cL_law 671 = .ok (.aload_n 0, 1) := by decide +kernel
theorem dL_law_672 : decode cL_law 672 = .ok (.iload_n 3, 1) := by decide +kernel
theorem dL_law_673 : decode cL_law 673 = .ok (.iconst 3, 1) := by decide +kernel
theorem dL_law_674 : decode cL_law 674 = .ok (.iadd, 1) := by decide +kernel
theorem dL_law_675 : decode cL_law 675 = .ok (.iaload, 1) := by decide +kernel
theorem dL_law_676 : decode cL_law 676 = .ok (.aload_n 0, 1) := by decide +kernel
theorem dL_law_677 : decode cL_law 677 = .ok (.iload_n 3, 1) := by decide +kernel
theorem dL_law_678 : decode cL_law 678 = .ok (.iconst 4, 1) := by decide +kernel
theorem dL_law_679 : decode cL_law 679 = .ok (.iadd, 1) := by decide +kernel
theorem dL_law_680 : decode cL_law 680 = .ok (.iaload, 1) := by decide +kernel
theorem dL_law_681 : decode cL_law 681 = .ok (.invokevirtual 96, 3) := by decide +kernel
theorem dL_law_684 : decode cL_law 684 = .ok (.if_icmp .eq 266, 3) := by decide +kernel
theorem dL_law_687 : decode cL_law 687 = .ok (.iconst 0, 1) := by decide +kernel
theorem dL_law_688 : decode cL_law 688 = .ok (.ireturn, 1) := by decide +kernel
theorem dL_law_689 : decode cL_law 689 = .ok (.aload_n 1, 1) := by decide +kernel
theorem dL_law_690 : decode cL_law 690 = .ok (.invokevirtual 97, 3) := by decide +kernel
theorem dL_law_693 : decode cL_law 693 = .ok (.aload_n 2, 1) := by decide +kernel
theorem dL_law_694 : decode cL_law 694 = .ok (.invokevirtual 100, 3) := by decide +kernel
theorem dL_law_697 : decode cL_law 697 = .ok (.if_icmp .eq 253, 3) := by decide +kernel
theorem dL_law_700 : decode cL_law 700 = .ok (.iconst 0, 1) := by decide +kernel
theorem dL_law_701 : decode cL_law 701 = .ok (.ireturn, 1) := by decide +kernel
theorem dL_law_702 : decode cL_law 702 = .ok (.aload_n 1, 1) := by decide +kernel
theorem dL_law_703 : decode cL_law 703 = .ok (.aload_n 0, 1) := by decide +kernel
theorem dL_law_704 : decode cL_law 704 = .ok (.iload_n 3, 1) := by decide +kernel
theorem dL_law_705 : decode cL_law 705 = .ok (.iconst 1, 1) := by decide +kernel
theorem dL_law_706 : decode cL_law 706 = .ok (.iadd, 1) := by decide +kernel
theorem dL_law_707 : decode cL_law 707 = .ok (.iaload, 1) := by decide +kernel
theorem dL_law_708 : decode cL_law 708 = .ok (.invokevirtual 101, 3) := by decide +kernel
theorem dL_law_711 : decode cL_law 711 = .ok (.aload_n 2, 1) := by decide +kernel
theorem dL_law_712 : decode cL_law 712 = .ok (.aload_n 0, 1) := by decide +kernel
theorem dL_law_713 : decode cL_law 713 = .ok (.iload_n 3, 1) := by decide +kernel
theorem dL_law_714 : decode cL_law 714 = .ok (.iconst 1, 1) := by decide +kernel
theorem dL_law_715 : decode cL_law 715 = .ok (.iadd, 1) := by decide +kernel
theorem dL_law_716 : decode cL_law 716 = .ok (.iaload, 1) := by decide +kernel
theorem dL_law_717 : decode cL_law 717 = .ok (.invokevirtual 104, 3) := by decide +kernel
theorem dL_law_720 : decode cL_law 720 = .ok (.if_icmp .eq 230, 3) := by decide +kernel
theorem dL_law_723 : decode cL_law 723 = .ok (.iconst 0, 1) := by decide +kernel
theorem dL_law_724 : decode cL_law 724 = .ok (.ireturn, 1) := by decide +kernel
theorem dL_law_725 : decode cL_law 725 = .ok (.aload_n 1, 1) := by decide +kernel
theorem dL_law_726 : decode cL_law 726 = .ok (.aload_n 0, 1) := by decide +kernel
theorem dL_law_727 : decode cL_law 727 = .ok (.iload_n 3, 1) := by decide +kernel
theorem dL_law_728 : decode cL_law 728 = .ok (.iconst 1, 1) := by decide +kernel
theorem dL_law_729 : decode cL_law 729 = .ok (.iadd, 1) := by decide +kernel
theorem dL_law_730 : decode cL_law 730 = .ok (.iaload, 1) := by decide +kernel
theorem dL_law_731 : decode cL_law 731 = .ok (.aload_n 0, 1) := by decide +kernel
theorem dL_law_732 : decode cL_law 732 = .ok (.iload_n 3, 1) := by decide +kernel
theorem dL_law_733 : decode cL_law 733 = .ok (.iconst 2, 1) := by decide +kernel
theorem dL_law_734 : decode cL_law 734 = .ok (.iadd, 1) := by decide +kernel
theorem dL_law_735 : decode cL_law 735 = .ok (.iaload, 1) := by decide +kernel
theorem dL_law_736 : decode cL_law 736 = .ok (.aload_n 0, 1) := by decide +kernel
theorem dL_law_737 : decode cL_law 737 = .ok (.iload_n 3, 1) := by decide +kernel
theorem dL_law_738 : decode cL_law 738 = .ok (.iconst 3, 1) := by decide +kernel
theorem dL_law_739 : decode cL_law 739 = .ok (.iadd, 1) := by decide +kernel
theorem dL_law_740 : decode cL_law 740 = .ok (.iaload, 1) := by decide +kernel
theorem dL_law_741 : decode cL_law 741 = .ok (.invokevirtual 105, 3) := by decide +kernel
theorem dL_law_744 : decode cL_law 744 = .ok (.aload_n 2, 1) := by decide +kernel
theorem dL_law_745 : decode cL_law 745 = .ok (.aload_n 0, 1) := by decide +kernel
theorem dL_law_746 : decode cL_law 746 = .ok (.iload_n 3, 1) := by decide +kernel
theorem dL_law_747 : decode cL_law 747 = .ok (.iconst 1, 1) := by decide +kernel
theorem dL_law_748 : decode cL_law 748 = .ok (.iadd, 1) := by decide +kernel
theorem dL_law_749 : decode cL_law 749 = .ok (.iaload, 1) := by decide +kernel
theorem dL_law_750 : decode cL_law 750 = .ok (.aload_n 0, 1) := by decide +kernel
theorem dL_law_751 : decode cL_law 751 = .ok (.iload_n 3, 1) := by decide +kernel
theorem dL_law_752 : decode cL_law 752 = .ok (.iconst 2, 1) := by decide +kernel
theorem dL_law_753 : decode cL_law 753 = .ok (.iadd, 1) := by decide +kernel
theorem dL_law_754 : decode cL_law 754 = .ok (.iaload, 1) := by decide +kernel
theorem dL_law_755 : decode cL_law 755 = .ok (.aload_n 0, 1) := by decide +kernel
theorem dL_law_756 : decode cL_law 756 = .ok (.iload_n 3, 1) := by decide +kernel
theorem dL_law_757 : decode cL_law 757 = .ok (.iconst 3, 1) := by decide +kernel
theorem dL_law_758 : decode cL_law 758 = .ok (.iadd, 1) := by decide +kernel
theorem dL_law_759 : decode cL_law 759 = .ok (.iaload, 1) := by decide +kernel
theorem dL_law_760 : decode cL_law 760 = .ok (.invokevirtual 109, 3) := by decide +kernel
theorem dL_law_763 : decode cL_law 763 = .ok (.if_icmp .eq 187, 3) := by decide +kernel
theorem dL_law_766 : decode cL_law 766 = .ok (.iconst 0, 1) := by decide +kernel
theorem dL_law_767 : decode cL_law 767 = .ok (.ireturn, 1) := by decide +kernel
theorem dL_law_768 : decode cL_law 768 = .ok (.aload_n 1, 1) := by decide +kernel
theorem dL_law_769 : decode cL_law 769 = .ok (.aload_n 0, 1) := by decide +kernel
theorem dL_law_770 : decode cL_law 770 = .ok (.iload_n 3, 1) := by decide +kernel
theorem dL_law_771 : decode cL_law 771 = .ok (.iconst 1, 1) := by decide +kernel
theorem dL_law_772 : decode cL_law 772 = .ok (.iadd, 1) := by decide +kernel
theorem dL_law_773 : decode cL_law 773 = .ok (.iaload, 1) := by decide +kernel
theorem dL_law_774 : decode cL_law 774 = .ok (.aload_n 0, 1) := by decide +kernel
theorem dL_law_775 : decode cL_law 775 = .ok (.iload_n 3, 1) := by decide +kernel
theorem dL_law_776 : decode cL_law 776 = .ok (.iconst 2, 1) := by decide +kernel
theorem dL_law_777 : decode cL_law 777 = .ok (.iadd, 1) := by decide +kernel
theorem dL_law_778 : decode cL_law 778 = .ok (.iaload, 1) := by decide +kernel
theorem dL_law_779 : decode cL_law 779 = .ok (.aload_n 0, 1) := by decide +kernel
theorem dL_law_780 : decode cL_law 780 = .ok (.iload_n 3, 1) := by decide +kernel
theorem dL_law_781 : decode cL_law 781 = .ok (.iconst 3, 1) := by decide +kernel
theorem dL_law_782 : decode cL_law 782 = .ok (.iadd, 1) := by decide +kernel
theorem dL_law_783 : decode cL_law 783 = .ok (.iaload, 1) := by decide +kernel
theorem dL_law_784 : decode cL_law 784 = .ok (.ifCond .eq 7, 3) := by decide +kernel
theorem dL_law_787 : decode cL_law 787 = .ok (.iconst 1, 1) := by decide +kernel
theorem dL_law_788 : decode cL_law 788 = .ok (.goto 4, 3) := by decide +kernel
theorem dL_law_791 : decode cL_law 791 = .ok (.iconst 0, 1) := by decide +kernel
theorem dL_law_792 : decode cL_law 792 = .ok (.invokevirtual 110, 3) := by decide +kernel
theorem dL_law_795 : decode cL_law 795 = .ok (.aload_n 2, 1) := by decide +kernel
theorem dL_law_796 : decode cL_law 796 = .ok (.aload_n 0, 1) := by decide +kernel
theorem dL_law_797 : decode cL_law 797 = .ok (.iload_n 3, 1) := by decide +kernel
theorem dL_law_798 : decode cL_law 798 = .ok (.iconst 1, 1) := by decide +kernel
theorem dL_law_799 : decode cL_law 799 = .ok (.iadd, 1) := by decide +kernel
theorem dL_law_800 : decode cL_law 800 = .ok (.iaload, 1) := by decide +kernel
theorem dL_law_801 : decode cL_law 801 = .ok (.aload_n 0, 1) := by decide +kernel
theorem dL_law_802 : decode cL_law 802 = .ok (.iload_n 3, 1) := by decide +kernel
theorem dL_law_803 : decode cL_law 803 = .ok (.iconst 2, 1) := by decide +kernel
theorem dL_law_804 : decode cL_law 804 = .ok (.iadd, 1) := by decide +kernel
theorem dL_law_805 : decode cL_law 805 = .ok (.iaload, 1) := by decide +kernel
theorem dL_law_806 : decode cL_law 806 = .ok (.aload_n 0, 1) := by decide +kernel
theorem dL_law_807 : decode cL_law 807 = .ok (.iload_n 3, 1) := by decide +kernel
theorem dL_law_808 : decode cL_law 808 = .ok (.iconst 3, 1) := by decide +kernel
theorem dL_law_809 : decode cL_law 809 = .ok (.iadd, 1) := by decide +kernel
theorem dL_law_810 : decode cL_law 810 = .ok (.iaload, 1) := by decide +kernel
theorem dL_law_811 : decode cL_law 811 = .ok (.ifCond .eq 7, 3) := by decide +kernel
theorem dL_law_814 : decode cL_law 814 = .ok (.iconst 1, 1) := by decide +kernel
theorem dL_law_815 : decode cL_law 815 = .ok (.goto 4, 3) := by decide +kernel
theorem dL_law_818 : decode cL_law 818 = .ok (.iconst 0, 1) := by decide +kernel
theorem dL_law_819 : decode cL_law 819 = .ok (.invokevirtual 114, 3) := by decide +kernel
theorem dL_law_822 : decode cL_law 822 = .ok (.if_icmp .eq 128, 3) := by decide +kernel
theorem dL_law_825 : decode cL_law 825 = .ok (.iconst 0, 1) := by decide +kernel
theorem dL_law_826 : decode cL_law 826 = .ok (.ireturn, 1) := by decide +kernel
theorem dL_law_827 : decode cL_law 827 = .ok (.aload_n 1, 1) := by decide +kernel
theorem dL_law_828 : decode cL_law 828 = .ok (.aload_n 0, 1) := by decide +kernel
theorem dL_law_829 : decode cL_law 829 = .ok (.iload_n 3, 1) := by decide +kernel
theorem dL_law_830 : decode cL_law 830 = .ok (.iconst 1, 1) := by decide +kernel
theorem dL_law_831 : decode cL_law 831 = .ok (.iadd, 1) := by decide +kernel
theorem dL_law_832 : decode cL_law 832 = .ok (.iaload, 1) := by decide +kernel
theorem dL_law_833 : decode cL_law 833 = .ok (.i2l, 1) := by decide +kernel
theorem dL_law_834 : decode cL_law 834 = .ok (.bipush 32, 2) := by decide +kernel
theorem dL_law_836 : decode cL_law 836 = .ok (.lshl, 1) := by decide +kernel
theorem dL_law_837 : decode cL_law 837 = .ok (.aload_n 0, 1) := by decide +kernel
theorem dL_law_838 : decode cL_law 838 = .ok (.iload_n 3, 1) := by decide +kernel
theorem dL_law_839 : decode cL_law 839 = .ok (.iconst 2, 1) := by decide +kernel
theorem dL_law_840 : decode cL_law 840 = .ok (.iadd, 1) := by decide +kernel
theorem dL_law_841 : decode cL_law 841 = .ok (.iaload, 1) := by decide +kernel
theorem dL_law_842 : decode cL_law 842 = .ok (.i2l, 1) := by decide +kernel
theorem dL_law_843 : decode cL_law 843 = .ok (.ldc2_w 80, 3) := by decide +kernel
theorem dL_law_846 : decode cL_law 846 = .ok (.land, 1) := by decide +kernel
theorem dL_law_847 : decode cL_law 847 = .ok (.lor, 1) := by decide +kernel
theorem dL_law_848 : decode cL_law 848 = .ok (.invokevirtual 115, 3) := by decide +kernel
theorem dL_law_851 : decode cL_law 851 = .ok (.aload_n 2, 1) := by decide +kernel
theorem dL_law_852 : decode cL_law 852 = .ok (.aload_n 0, 1) := by decide +kernel
theorem dL_law_853 : decode cL_law 853 = .ok (.iload_n 3, 1) := by decide +kernel
theorem dL_law_854 : decode cL_law 854 = .ok (.iconst 1, 1) := by decide +kernel
theorem dL_law_855 : decode cL_law 855 = .ok (.iadd, 1) := by decide +kernel
theorem dL_law_856 : decode cL_law 856 = .ok (.iaload, 1) := by decide +kernel
theorem dL_law_857 : decode cL_law 857 = .ok (.i2l, 1) := by decide +kernel
theorem dL_law_858 : decode cL_law 858 = .ok (.bipush 32, 2) := by decide +kernel
theorem dL_law_860 : decode cL_law 860 = .ok (.lshl, 1) := by decide +kernel
theorem dL_law_861 : decode cL_law 861 = .ok (.aload_n 0, 1) := by decide +kernel
theorem dL_law_862 : decode cL_law 862 = .ok (.iload_n 3, 1) := by decide +kernel
theorem dL_law_863 : decode cL_law 863 = .ok (.iconst 2, 1) := by decide +kernel
theorem dL_law_864 : decode cL_law 864 = .ok (.iadd, 1) := by decide +kernel
theorem dL_law_865 : decode cL_law 865 = .ok (.iaload, 1) := by decide +kernel
theorem dL_law_866 : decode cL_law 866 = .ok (.i2l, 1) := by decide +kernel
theorem dL_law_867 : decode cL_law 867 = .ok (.ldc2_w 80, 3) := by decide +kernel
theorem dL_law_870 : decode cL_law 870 = .ok (.land, 1) := by decide +kernel
theorem dL_law_871 : decode cL_law 871 = .ok (.lor, 1) := by decide +kernel
theorem dL_law_872 : decode cL_law 872 = .ok (.invokevirtual 119, 3) := by decide +kernel
theorem dL_law_875 : decode cL_law 875 = .ok (.lcmp, 1) := by decide +kernel
theorem dL_law_876 : decode cL_law 876 = .ok (.ifCond .eq 74, 3) := by decide +kernel
theorem dL_law_879 : decode cL_law 879 = .ok (.iconst 0, 1) := by decide +kernel
theorem dL_law_880 : decode cL_law 880 = .ok (.ireturn, 1) := by decide +kernel
theorem dL_law_881 : decode cL_law 881 = .ok (.aload_n 1, 1) := by decide +kernel
theorem dL_law_882 : decode cL_law 882 = .ok (.aload_n 0, 1) := by decide +kernel
theorem dL_law_883 : decode cL_law 883 = .ok (.iload_n 3, 1) := by decide +kernel
theorem dL_law_884 : decode cL_law 884 = .ok (.iconst 1, 1) := by decide +kernel
theorem dL_law_885 : decode cL_law 885 = .ok (.iadd, 1) := by decide +kernel
theorem dL_law_886 : decode cL_law 886 = .ok (.iaload, 1) := by decide +kernel
theorem dL_law_887 : decode cL_law 887 = .ok (.invokevirtual 120, 3) := by decide +kernel
theorem dL_law_890 : decode cL_law 890 = .ok (.aload_n 2, 1) := by decide +kernel
theorem dL_law_891 : decode cL_law 891 = .ok (.aload_n 0, 1) := by decide +kernel
theorem dL_law_892 : decode cL_law 892 = .ok (.iload_n 3, 1) := by decide +kernel
theorem dL_law_893 : decode cL_law 893 = .ok (.iconst 1, 1) := by decide +kernel
theorem dL_law_894 : decode cL_law 894 = .ok (.iadd, 1) := by decide +kernel
theorem dL_law_895 : decode cL_law 895 = .ok (.iaload, 1) := by decide +kernel
theorem dL_law_896 : decode cL_law 896 = .ok (.invokevirtual 123, 3) := by decide +kernel
theorem dL_law_899 : decode cL_law 899 = .ok (.if_icmp .eq 51, 3) := by decide +kernel
theorem dL_law_902 : decode cL_law 902 = .ok (.iconst 0, 1) := by decide +kernel
theorem dL_law_903 : decode cL_law 903 = .ok (.ireturn, 1) := by decide +kernel
theorem dL_law_904 : decode cL_law 904 = .ok (.aload_n 1, 1) := by decide +kernel
theorem dL_law_905 : decode cL_law 905 = .ok (.aload_n 0, 1) := by decide +kernel
theorem dL_law_906 : decode cL_law 906 = .ok (.iload_n 3, 1) := by decide +kernel
theorem dL_law_907 : decode cL_law 907 = .ok (.iconst 1, 1) := by decide +kernel
theorem dL_law_908 : decode cL_law 908 = .ok (.iadd, 1) := by decide +kernel
theorem dL_law_909 : decode cL_law 909 = .ok (.iaload, 1) := by decide +kernel
theorem dL_law_910 : decode cL_law 910 = .ok (.invokevirtual 124, 3) := by decide +kernel
theorem dL_law_913 : decode cL_law 913 = .ok (.aload_n 2, 1) := by decide +kernel
theorem dL_law_914 : decode cL_law 914 = .ok (.aload_n 0, 1) := by decide +kernel
theorem dL_law_915 : decode cL_law 915 = .ok (.iload_n 3, 1) := by decide +kernel
theorem dL_law_916 : decode cL_law 916 = .ok (.iconst 1, 1) := by decide +kernel
theorem dL_law_917 : decode cL_law 917 = .ok (.iadd, 1) := by decide +kernel
theorem dL_law_918 : decode cL_law 918 = .ok (.iaload, 1) := by decide +kernel
theorem dL_law_919 : decode cL_law 919 = .ok (.invokevirtual 127, 3) := by decide +kernel
theorem dL_law_922 : decode cL_law 922 = .ok (.if_icmp .eq 28, 3) := by decide +kernel
theorem dL_law_925 : decode cL_law 925 = .ok (.iconst 0, 1) := by decide +kernel
theorem dL_law_926 : decode cL_law 926 = .ok (.ireturn, 1) := by decide +kernel
theorem dL_law_927 : decode cL_law 927 = .ok (.aload_n 1, 1) := by decide +kernel
theorem dL_law_928 : decode cL_law 928 = .ok (.aload_n 0, 1) := by decide +kernel
theorem dL_law_929 : decode cL_law 929 = .ok (.iload_n 3, 1) := by decide +kernel
theorem dL_law_930 : decode cL_law 930 = .ok (.iconst 1, 1) := by decide +kernel
theorem dL_law_931 : decode cL_law 931 = .ok (.iadd, 1) := by decide +kernel
theorem dL_law_932 : decode cL_law 932 = .ok (.iaload, 1) := by decide +kernel
theorem dL_law_933 : decode cL_law 933 = .ok (.invokevirtual 128, 3) := by decide +kernel
theorem dL_law_936 : decode cL_law 936 = .ok (.aload_n 2, 1) := by decide +kernel
theorem dL_law_937 : decode cL_law 937 = .ok (.aload_n 0, 1) := by decide +kernel
theorem dL_law_938 : decode cL_law 938 = .ok (.iload_n 3, 1) := by decide +kernel
theorem dL_law_939 : decode cL_law 939 = .ok (.iconst 1, 1) := by decide +kernel
theorem dL_law_940 : decode cL_law 940 = .ok (.iadd, 1) := by decide +kernel
theorem dL_law_941 : decode cL_law 941 = .ok (.iaload, 1) := by decide +kernel
theorem dL_law_942 : decode cL_law 942 = .ok (.invokevirtual 131, 3) := by decide +kernel
theorem dL_law_945 : decode cL_law 945 = .ok (.if_icmp .eq 5, 3) := by decide +kernel
theorem dL_law_948 : decode cL_law 948 = .ok (.iconst 0, 1) := by decide +kernel
theorem dL_law_949 : decode cL_law 949 = .ok (.ireturn, 1) := by decide +kernel
theorem dL_law_950 : decode cL_law 950 = .ok (.iinc 3 5, 3) := by decide +kernel
theorem dL_law_953 : decode cL_law 953 = .ok (.goto (-935), 3) := by decide +kernel
theorem dL_law_956 : decode cL_law 956 = .ok (.iconst 1, 1) := by decide +kernel
theorem dL_law_957 : decode cL_law 957 = .ok (.ireturn, 1) := by decide +kernel
