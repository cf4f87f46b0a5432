/-! the law, decoded (by program) -/
theorem d_0 : decode code 0 = .ok (.new 7, 3) := by decide +kernel
theorem d_3 : decode code 3 = .ok (.dup, 1) := by decide +kernel
theorem d_4 : decode code 4 = .ok (.invokespecial 9, 3) := by decide +kernel
theorem d_7 : decode code 7 = .ok (.astore_n 1, 1) := by decide +kernel
theorem d_8 : decode code 8 = .ok (.new 10, 3) := by decide +kernel
theorem d_11 : decode code 11 = .ok (.dup, 1) := by decide +kernel
theorem d_12 : decode code 12 = .ok (.invokespecial 12, 3) := by decide +kernel
theorem d_15 : decode code 15 = .ok (.astore_n 2, 1) := by decide +kernel
theorem d_16 : decode code 16 = .ok (.iconst 0, 1) := by decide +kernel
theorem d_17 : decode code 17 = .ok (.istore_n 3, 1) := by decide +kernel
theorem d_18 : decode code 18 = .ok (.iload_n 3, 1) := by decide +kernel
theorem d_19 : decode code 19 = .ok (.aload_n 0, 1) := by decide +kernel
theorem d_20 : decode code 20 = .ok (.arraylength, 1) := by decide +kernel
theorem d_21 : decode code 21 = .ok (.iconst 4, 1) := by decide +kernel
theorem d_22 : decode code 22 = .ok (.isub, 1) := by decide +kernel
theorem d_23 : decode code 23 = .ok (.if_icmp .gt 606, 3) := by decide +kernel
theorem d_26 : decode code 26 = .ok (.aload_n 0, 1) := by decide +kernel
theorem d_27 : decode code 27 = .ok (.iload_n 3, 1) := by decide +kernel
theorem d_28 : decode code 28 = .ok (.iaload, 1) := by decide +kernel
theorem d_29 : decode code 29 = .ok (.bipush 31, 2) := by decide +kernel
theorem d_31 : decode code 31 = .ok (.iand, 1) := by decide +kernel
theorem d_32 : decode code 32 = .ok (.tableswitch 591 0 18 #[92, 115, 128, 141, 164, 197, 240, 273, 296, 345, 378, 401, 414, 437, 460, 509, 522, 545, 568], 92) := by decide +kernel
theorem d_124 : decode code 124 = .ok (.aload_n 1, 1) := by decide +kernel
theorem d_125 : decode code 125 = .ok (.aload_n 0, 1) := by decide +kernel
theorem d_126 : decode code 126 = .ok (.iload_n 3, 1) := by decide +kernel
theorem d_127 : decode code 127 = .ok (.iconst 1, 1) := by decide +kernel
theorem d_128 : decode code 128 = .ok (.iadd, 1) := by decide +kernel
theorem d_129 : decode code 129 = .ok (.iaload, 1) := by decide +kernel
theorem d_130 : decode code 130 = .ok (.invokevirtual 13, 3) := by decide +kernel
theorem d_133 : decode code 133 = .ok (.aload_n 2, 1) := by decide +kernel
theorem d_134 : decode code 134 = .ok (.aload_n 0, 1) := by decide +kernel
theorem d_135 : decode code 135 = .ok (.iload_n 3, 1) := by decide +kernel
theorem d_136 : decode code 136 = .ok (.iconst 1, 1) := by decide +kernel
theorem d_137 : decode code 137 = .ok (.iadd, 1) := by decide +kernel
theorem d_138 : decode code 138 = .ok (.iaload, 1) := by decide +kernel
theorem d_139 : decode code 139 = .ok (.invokevirtual 17, 3) := by decide +kernel
theorem d_142 : decode code 142 = .ok (.if_icmp .eq 481, 3) := by decide +kernel
theorem d_145 : decode code 145 = .ok (.iconst 0, 1) := by decide +kernel
theorem d_146 : decode code 146 = .ok (.ireturn, 1) := by decide +kernel
theorem d_147 : decode code 147 = .ok (.aload_n 1, 1) := by decide +kernel
theorem d_148 : decode code 148 = .ok (.invokevirtual 18, 3) := by decide +kernel
theorem d_151 : decode code 151 = .ok (.aload_n 2, 1) := by decide +kernel
theorem d_152 : decode code 152 = .ok (.invokevirtual 22, 3) := by decide +kernel
theorem d_155 : decode code 155 = .ok (.if_icmp .eq 468, 3) := by decide +kernel
theorem d_158 : decode code 158 = .ok (.iconst 0, 1) := by decide +kernel
theorem d_159 : decode code 159 = .ok (.ireturn, 1) := by decide +kernel
theorem d_160 : decode code 160 = .ok (.aload_n 1, 1) := by decide +kernel
theorem d_161 : decode code 161 = .ok (.invokevirtual 23, 3) := by decide +kernel
theorem d_164 : decode code 164 = .ok (.aload_n 2, 1) := by decide +kernel
theorem d_165 : decode code 165 = .ok (.invokevirtual 26, 3) := by decide +kernel
