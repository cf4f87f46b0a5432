/-! the law, decoded (by program) -/
theorem d_168 : decode code 168 = .ok (.if_icmp .eq 455, 3) := by decide +kernel
theorem d_171 : decode code 171 = .ok (.iconst 0, 1) := by decide +kernel
theorem d_172 : decode code 172 = .ok (.ireturn, 1) := by decide +kernel
theorem d_173 : decode code 173 = .ok (.aload_n 1, 1) := by decide +kernel
theorem d_174 : decode code 174 = .ok (.aload_n 0, 1) := by decide +kernel
theorem d_175 : decode code 175 = .ok (.iload_n 3, 1) := by decide +kernel
theorem d_176 : decode code 176 = .ok (.iconst 1, 1) := by decide +kernel
theorem d_177 : decode code 177 = .ok (.iadd, 1) := by decide +kernel
theorem d_178 : decode code 178 = .ok (.iaload, 1) := by decide +kernel
theorem d_179 : decode code 179 = .ok (.invokevirtual 27, 3) := by decide +kernel
theorem d_182 : decode code 182 = .ok (.aload_n 2, 1) := by decide +kernel
theorem d_183 : decode code 183 = .ok (.aload_n 0, 1) := by decide +kernel
theorem d_184 : decode code 184 = .ok (.iload_n 3, 1) := by decide +kernel
theorem d_185 : decode code 185 = .ok (.iconst 1, 1) := by decide +kernel
theorem d_186 : decode code 186 = .ok (.iadd, 1) := by decide +kernel
theorem d_187 : decode code 187 = .ok (.iaload, 1) := by decide +kernel
theorem d_188 : decode code 188 = .ok (.invokevirtual 30, 3) := by decide +kernel
theorem d_191 : decode code 191 = .ok (.if_icmp .eq 432, 3) := by decide +kernel
theorem d_194 : decode code 194 = .ok (.iconst 0, 1) := by decide +kernel
theorem d_195 : decode code 195 = .ok (.ireturn, 1) := by decide +kernel
theorem d_196 : decode code 196 = .ok (.aload_n 1, 1) := by decide +kernel
theorem d_197 : decode code 197 = .ok (.aload_n 0, 1) := by decide +kernel
theorem d_198 : decode code 198 = .ok (.iload_n 3, 1) := by decide +kernel
theorem d_199 : decode code 199 = .ok (.iconst 1, 1) := by decide +kernel
theorem d_200 : decode code 200 = .ok (.iadd, 1) := by decide +kernel
theorem d_201 : decode code 201 = .ok (.iaload, 1) := by decide +kernel
theorem d_202 : decode code 202 = .ok (.aload_n 0, 1) := by decide +kernel
theorem d_203 : decode code 203 = .ok (.iload_n 3, 1) := by decide +kernel
theorem d_204 : decode code 204 = .ok (.iconst 2, 1) := by decide +kernel
theorem d_205 : decode code 205 = .ok (.iadd, 1) := by decide +kernel
theorem d_206 : decode code 206 = .ok (.iaload, 1) := by decide +kernel
theorem d_207 : decode code 207 = .ok (.invokevirtual 31, 3) := by decide +kernel
theorem d_210 : decode code 210 = .ok (.aload_n 2, 1) := by decide +kernel
theorem d_211 : decode code 211 = .ok (.aload_n 0, 1) := by decide +kernel
theorem d_212 : decode code 212 = .ok (.iload_n 3, 1) := by decide +kernel
theorem d_213 : decode code 213 = .ok (.iconst 1, 1) := by decide +kernel
theorem d_214 : decode code 214 = .ok (.iadd, 1) := by decide +kernel
theorem d_215 : decode code 215 = .ok (.iaload, 1) := by decide +kernel
theorem d_216 : decode code 216 = .ok (.aload_n 0, 1) := by decide +kernel
theorem d_217 : decode code 217 = .ok (.iload_n 3, 1) := by decide +kernel
theorem d_218 : decode code 218 = .ok (.iconst 2, 1) := by decide +kernel
theorem d_219 : decode code 219 = .ok (.iadd, 1) := by decide +kernel
theorem d_220 : decode code 220 = .ok (.iaload, 1) := by decide +kernel
theorem d_221 : decode code 221 = .ok (.invokevirtual 35, 3) := by decide +kernel
theorem d_224 : decode code 224 = .ok (.if_icmp .eq 399, 3) := by decide +kernel
theorem d_227 : decode code 227 = .ok (.iconst 0, 1) := by decide +kernel
theorem d_228 : decode code 228 = .ok (.ireturn, 1) := by decide +kernel
theorem d_229 : decode code 229 = .ok (.aload_n 1, 1) := by decide +kernel
theorem d_230 : decode code 230 = .ok (.aload_n 0, 1) := by decide +kernel
theorem d_231 : decode code 231 = .ok (.iload_n 3, 1) := by decide +kernel
