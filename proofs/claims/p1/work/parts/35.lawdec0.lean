theorem d_LW_law_0 : decode b_LW_law 0 = .ok (.new 7, 3) := by decide +kernel
theorem d_LW_law_3 : decode b_LW_law 3 = .ok (.dup, 1) := by decide +kernel
theorem d_LW_law_4 : decode b_LW_law 4 = .ok (.aload_n 0, 1) := by decide +kernel
theorem d_LW_law_5 : decode b_LW_law 5 = .ok (.iconst 0, 1) := by decide +kernel
theorem d_LW_law_6 : decode b_LW_law 6 = .ok (.invokestatic 9, 3) := by decide +kernel
theorem d_LW_law_9 : decode b_LW_law 9 = .ok (.invokespecial 15, 3) := by decide +kernel
theorem d_LW_law_12 : decode b_LW_law 12 = .ok (.astore_n 1, 1) := by decide +kernel
theorem d_LW_law_13 : decode b_LW_law 13 = .ok (.new 18, 3) := by decide +kernel
theorem d_LW_law_16 : decode b_LW_law 16 = .ok (.dup, 1) := by decide +kernel
theorem d_LW_law_17 : decode b_LW_law 17 = .ok (.aload_n 0, 1) := by decide +kernel
theorem d_LW_law_18 : decode b_LW_law 18 = .ok (.iconst 0, 1) := by decide +kernel
theorem d_LW_law_19 : decode b_LW_law 19 = .ok (.invokestatic 9, 3) := by decide +kernel
theorem d_LW_law_22 : decode b_LW_law 22 = .ok (.invokespecial 20, 3) := by decide +kernel
theorem d_LW_law_25 : decode b_LW_law 25 = .ok (.astore_n 2, 1) := by decide +kernel
theorem d_LW_law_26 : decode b_LW_law 26 = .ok (.iconst 1, 1) := by decide +kernel
theorem d_LW_law_27 : decode b_LW_law 27 = .ok (.istore_n 3, 1) := by decide +kernel
theorem d_LW_law_28 : decode b_LW_law 28 = .ok (.iload_n 3, 1) := by decide +kernel
theorem d_LW_law_29 : decode b_LW_law 29 = .ok (.aload_n 0, 1) := by decide +kernel
theorem d_LW_law_30 : decode b_LW_law 30 = .ok (.arraylength, 1) := by decide +kernel
theorem d_LW_law_31 : decode b_LW_law 31 = .ok (.iconst 5, 1) := by decide +kernel
theorem d_LW_law_32 : decode b_LW_law 32 = .ok (.isub, 1) := by decide +kernel
theorem d_LW_law_33 : decode b_LW_law 33 = .ok (.if_icmp .gt 581, 3) := by decide +kernel
theorem d_LW_law_36 : decode b_LW_law 36 = .ok (.aload_n 0, 1) := by decide +kernel
theorem d_LW_law_37 : decode b_LW_law 37 = .ok (.iload_n 3, 1) := by decide +kernel
theorem d_LW_law_38 : decode b_LW_law 38 = .ok (.iaload, 1) := by decide +kernel
theorem d_LW_law_39 : decode b_LW_law 39 = .ok (.bipush 31, 2) := by decide +kernel
theorem d_LW_law_41 : decode b_LW_law 41 = .ok (.iand, 1) := by decide +kernel
theorem d_LW_law_42 : decode b_LW_law 42 = .ok (.tableswitch 566 0 16 #[82, 115, 138, 151, 165, 188, 211, 224, 237, 270, 294, 307, 360, 393, 417, 480, 493], 82) := by decide +kernel
theorem d_LW_law_124 : decode b_LW_law 124 = .ok (.aload_n 1, 1) := by decide +kernel
theorem d_LW_law_125 : decode b_LW_law 125 = .ok (.aload_n 0, 1) := by decide +kernel
theorem d_LW_law_126 : decode b_LW_law 126 = .ok (.iload_n 3, 1) := by decide +kernel
theorem d_LW_law_127 : decode b_LW_law 127 = .ok (.iconst 1, 1) := by decide +kernel
theorem d_LW_law_128 : decode b_LW_law 128 = .ok (.iadd, 1) := by decide +kernel
theorem d_LW_law_129 : decode b_LW_law 129 = .ok (.iaload, 1) := by decide +kernel
theorem d_LW_law_130 : decode b_LW_law 130 = .ok (.aload_n 0, 1) := by decide +kernel
theorem d_LW_law_131 : decode b_LW_law 131 = .ok (.iload_n 3, 1) := by decide +kernel
theorem d_LW_law_132 : decode b_LW_law 132 = .ok (.iconst 2, 1) := by decide +kernel
theorem d_LW_law_133 : decode b_LW_law 133 = .ok (.iadd, 1) := by decide +kernel
theorem d_LW_law_134 : decode b_LW_law 134 = .ok (.iaload, 1) := by decide +kernel
theorem d_LW_law_135 : decode b_LW_law 135 = .ok (.invokevirtual 21, 3) := by decide +kernel
theorem d_LW_law_138 : decode b_LW_law 138 = .ok (.aload_n 2, 1) := by decide +kernel
theorem d_LW_law_139 : decode b_LW_law 139 = .ok (.aload_n 0, 1) := by decide +kernel
theorem d_LW_law_140 : decode b_LW_law 140 = .ok (.iload_n 3, 1) := by decide +kernel
theorem d_LW_law_141 : decode b_LW_law 141 = .ok (.iconst 1, 1) := by decide +kernel
theorem d_LW_law_142 : decode b_LW_law 142 = .ok (.iadd, 1) := by decide +kernel
theorem d_LW_law_143 : decode b_LW_law 143 = .ok (.iaload, 1) := by decide +kernel
theorem d_LW_law_144 : decode b_LW_law 144 = .ok (.aload_n 0, 1) := by decide +kernel
theorem d_LW_law_145 : decode b_LW_law 145 = .ok (.iload_n 3, 1) := by decide +kernel
theorem d_LW_law_146 : decode b_LW_law 146 = .ok (.iconst 2, 1) := by decide +kernel
theorem d_LW_law_147 : decode b_LW_law 147 = .ok (.iadd, 1) := by decide +kernel
theorem d_LW_law_148 : decode b_LW_law 148 = .ok (.iaload, 1) := by decide +kernel
theorem d_LW_law_149 : decode b_LW_law 149 = .ok (.invokevirtual 25, 3) := by decide +kernel
theorem d_LW_law_152 : decode b_LW_law 152 = .ok (.if_icmp .eq 456, 3) := by decide +kernel
theorem d_LW_law_155 : decode b_LW_law 155 = .ok (.iconst 0, 1) := by decide +kernel
theorem d_LW_law_156 : decode b_LW_law 156 = .ok (.ireturn, 1) := by decide +kernel
theorem d_LW_law_157 : decode b_LW_law 157 = .ok (.aload_n 1, 1) := by decide +kernel
theorem d_LW_law_158 : decode b_LW_law 158 = .ok (.aload_n 0, 1) := by decide +kernel
theorem d_LW_law_159 : decode b_LW_law 159 = .ok (.iload_n 3, 1) := by decide +kernel
theorem d_LW_law_160 : decode b_LW_law 160 = .ok (.iconst 1, 1) := by decide +kernel
theorem d_LW_law_161 : decode b_LW_law 161 = .ok (.iadd, 1) := by decide +kernel
theorem d_LW_law_162 : decode b_LW_law 162 = .ok (.iaload, 1) := by decide +kernel
theorem d_LW_law_163 : decode b_LW_law 163 = .ok (.invokevirtual 26, 3) := by decide +kernel
theorem d_LW_law_166 : decode b_LW_law 166 = .ok (.aload_n 2, 1) := by decide +kernel
theorem d_LW_law_167 : decode b_LW_law 167 = .ok (.aload_n 0, 1) := by decide +kernel
theorem d_LW_law_168 : decode b_LW_law 168 = .ok (.iload_n 3, 1) := by decide +kernel
theorem d_LW_law_169 : decode b_LW_law 169 = .ok (.iconst 1, 1) := by decide +kernel
theorem d_LW_law_170 : decode b_LW_law 170 = .ok (.iadd, 1) := by decide +kernel
theorem d_LW_law_171 : decode b_LW_law 171 = .ok (.iaload, 1) := by decide +kernel
theorem d_LW_law_172 : decode b_LW_law 172 = .ok (.invokevirtual 30, 3) := by decide +kernel
theorem d_LW_law_175 : decode b_LW_law 175 = .ok (.if_icmp .eq 433, 3) := by decide +kernel
theorem d_LW_law_178 : decode b_LW_law 178 = .ok (.iconst 0, 1) := by decide +kernel
theorem d_LW_law_179 : decode b_LW_law 179 = .ok (.ireturn, 1) := by decide +kernel
theorem d_LW_law_180 : decode b_LW_law 180 = .ok (.aload_n 1, 1) := by decide +kernel
theorem d_LW_law_181 : decode b_LW_law 181 = .ok (.invokevirtual 31, 3) := by decide +kernel
theorem d_LW_law_184 : decode b_LW_law 184 = .ok (.aload_n 2, 1) := by decide +kernel
theorem d_LW_law_185 : decode b_LW_law 185 = .ok (.invokevirtual 35, 3) := by decide +kernel
theorem d_LW_law_188 : decode b_LW_law 188 = .ok (.if_icmp .eq 420, 3) := by decide +kernel
theorem d_LW_law_191 : decode b_LW_law 191 = .ok (.iconst 0, 1) := by decide +kernel
theorem d_LW_law_192 : decode b_LW_law 192 = .ok (.ireturn, 1) := by decide +kernel
theorem d_LW_law_193 : decode b_LW_law 193 = .ok (.aload_n 1, 1) := by decide +kernel
theorem d_LW_law_194 : decode b_LW_law 194 = .ok (.invokevirtual 36, 3) := by decide +kernel
theorem d_LW_law_197 : decode b_LW_law 197 = .ok (.aload_n 2, 1) := by decide +kernel
theorem d_LW_law_198 : decode b_LW_law 198 = .ok (.invokevirtual 40, 3) := by decide +kernel
theorem d_LW_law_201 : decode b_LW_law 201 = .ok (.lcmp, 1) := by decide +kernel
theorem d_LW_law_202 : decode b_LW_law 202 = .ok (.ifCond .eq 406, 3) := by decide +kernel
theorem d_LW_law_205 : decode b_LW_law 205 = .ok (.iconst 0, 1) := by decide +kernel
theorem d_LW_law_206 : decode b_LW_law 206 = .ok (.ireturn, 1) := by decide +kernel
theorem d_LW_law_207 : decode b_LW_law 207 = .ok (.aload_n 1, 1) := by decide +kernel
theorem d_LW_law_208 : decode b_LW_law 208 = .ok (.aload_n 0, 1) := by decide +kernel
theorem d_LW_law_209 : decode b_LW_law 209 = .ok (.iload_n 3, 1) := by decide +kernel
theorem d_LW_law_210 : decode b_LW_law 210 = .ok (.iconst 1, 1) := by decide +kernel
theorem d_LW_law_211 : decode b_LW_law 211 = .ok (.iadd, 1) := by decide +kernel
theorem d_LW_law_212 : decode b_LW_law 212 = .ok (.iaload, 1) := by decide +kernel
theorem d_LW_law_213 : decode b_LW_law 213 = .ok (.invokevirtual 41, 3) := by decide +kernel
theorem d_LW_law_216 : decode b_LW_law 216 = .ok (.aload_n 2, 1) := by decide +kernel
theorem d_LW_law_217 : decode b_LW_law 217 = .ok (.aload_n 0, 1) := by decide +kernel
theorem d_LW_law_218 : decode b_LW_law 218 = .ok (.iload_n 3, 1) := by decide +kernel
theorem d_LW_law_219 : decode b_LW_law 219 = .ok (.iconst 1, 1) := by decide +kernel
theorem d_LW_law_220 : decode b_LW_law 220 = .ok (.iadd, 1) := by decide +kernel
