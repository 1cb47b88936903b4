theorem dX0_init_0 : decode cX0_init 0 = .ok (.aload_n 0, 1) := by decide +kernel
theorem dX0_init_1 : decode cX0_init 1 = .ok (.invokespecial 3, 3) := by decide +kernel
theorem dX0_init_4 : decode cX0_init 4 = .ok (.aload_n 0, 1) := by decide +kernel
theorem dX0_init_5 : decode cX0_init 5 = .ok (.iconst 0, 1) := by decide +kernel
theorem dX0_init_6 : decode cX0_init 6 = .ok (.putfield 9, 3) := by decide +kernel
theorem dX0_init_9 : decode cX0_init 9 = .ok (.aload_n 0, 1) := by decide +kernel
theorem dX0_init_10 : decode cX0_init 10 = .ok (.iconst 0, 1) := by decide +kernel
theorem dX0_init_11 : decode cX0_init 11 = .ok (.putfield 15, 3) := by decide +kernel
theorem dX0_init_14 : decode cX0_init 14 = .ok (.aload_n 0, 1) := by decide +kernel
theorem dX0_init_15 : decode cX0_init 15 = .ok (.iconst 0, 1) := by decide +kernel
theorem dX0_init_16 : decode cX0_init 16 = .ok (.putfield 18, 3) := by decide +kernel
theorem dX0_init_19 : decode cX0_init 19 = .ok (.aload_n 0, 1) := by decide +kernel
theorem dX0_init_20 : decode cX0_init 20 = .ok (.iconst 0, 1) := by decide +kernel
theorem dX0_init_21 : decode cX0_init 21 = .ok (.putfield 21, 3) := by decide +kernel
theorem dX0_init_24 : decode cX0_init 24 = .ok (.aload_n 0, 1) := by decide +kernel
theorem dX0_init_25 : decode cX0_init 25 = .ok (.bipush 20, 2) := by decide +kernel
theorem dX0_init_27 : decode cX0_init 27 = .ok (.newarray .int, 2) := by decide +kernel
theorem dX0_init_29 : decode cX0_init 29 = .ok (.putfield 24, 3) := by decide +kernel
theorem dX0_init_32 : decode cX0_init 32 = .ok (.return_, 1) := by decide +kernel
theorem dX0_runFrom_0 : decode cX0_runFrom 0 = .ok (.iload_n 1, 1) := by decide +kernel
theorem dX0_runFrom_1 : decode cX0_runFrom 1 = .ok (.istore 5, 2) := by decide +kernel
theorem dX0_runFrom_3 : decode cX0_runFrom 3 = .ok (.iconst 0, 1) := by decide +kernel
theorem dX0_runFrom_4 : decode cX0_runFrom 4 = .ok (.istore 6, 2) := by decide +kernel
theorem dX0_runFrom_6 : decode cX0_runFrom 6 = .ok (.iload 6, 2) := by decide +kernel
theorem dX0_runFrom_8 : decode cX0_runFrom 8 = .ok (.bipush 7, 2) := by decide +kernel
theorem dX0_runFrom_10 : decode cX0_runFrom 10 = .ok (.if_icmp .ge 33, 3) := by decide +kernel
theorem dX0_runFrom_13 : decode cX0_runFrom 13 = .ok (.iload 5, 2) := by decide +kernel
theorem dX0_runFrom_15 : decode cX0_runFrom 15 = .ok (.iconst (-1), 1) := by decide +kernel
theorem dX0_runFrom_16 : decode cX0_runFrom 16 = .ok (.if_icmp .eq 27, 3) := by decide +kernel
theorem dX0_runFrom_19 : decode cX0_runFrom 19 = .ok (.iload 5, 2) := by decide +kernel
theorem dX0_runFrom_21 : decode cX0_runFrom 21 = .ok (.iload_n 2, 1) := by decide +kernel
theorem dX0_runFrom_22 : decode cX0_runFrom 22 = .ok (.invokestatic 28, 3) := by decide +kernel
theorem dX0_runFrom_25 : decode cX0_runFrom 25 = .ok (.iconst (-1), 1) := by decide +kernel
theorem dX0_runFrom_26 : decode cX0_runFrom 26 = .ok (.if_icmp .ne 17, 3) := by decide +kernel
theorem dX0_runFrom_29 : decode cX0_runFrom 29 = .ok (.getstatic 32, 3) := by decide +kernel
theorem dX0_runFrom_32 : decode cX0_runFrom 32 = .ok (.iload 5, 2) := by decide +kernel
theorem dX0_runFrom_34 : decode cX0_runFrom 34 = .ok (.iaload, 1) := by decide +kernel
theorem dX0_runFrom_35 : decode cX0_runFrom 35 = .ok (.istore 5, 2) := by decide +kernel
theorem dX0_runFrom_37 : decode cX0_runFrom 37 = .ok (.iinc 6 1, 3) := by decide +kernel
theorem dX0_runFrom_40 : decode cX0_runFrom 40 = .ok (.goto (-34), 3) := by decide +kernel
theorem dX0_runFrom_43 : decode cX0_runFrom 43 = .ok (.iload 5, 2) := by decide +kernel
theorem dX0_runFrom_45 : decode cX0_runFrom 45 = .ok (.iconst (-1), 1) := by decide +kernel
theorem dX0_runFrom_46 : decode cX0_runFrom 46 = .ok (.if_icmp .eq 10, 3) := by decide +kernel
theorem dX0_runFrom_49 : decode cX0_runFrom 49 = .ok (.iload 4, 2) := by decide +kernel
theorem dX0_runFrom_51 : decode cX0_runFrom 51 = .ok (.bipush 20, 2) := by decide +kernel
theorem dX0_runFrom_53 : decode cX0_runFrom 53 = .ok (.if_icmp .lt 5, 3) := by decide +kernel
theorem dX0_runFrom_56 : decode cX0_runFrom 56 = .ok (.iconst 0, 1) := by decide +kernel
theorem dX0_runFrom_57 : decode cX0_runFrom 57 = .ok (.ireturn, 1) := by decide +kernel
theorem dX0_runFrom_58 : decode cX0_runFrom 58 = .ok (.iload 5, 2) := by decide +kernel
theorem dX0_runFrom_60 : decode cX0_runFrom 60 = .ok (.iload_n 2, 1) := by decide +kernel
theorem dX0_runFrom_61 : decode cX0_runFrom 61 = .ok (.invokestatic 28, 3) := by decide +kernel
theorem dX0_runFrom_64 : decode cX0_runFrom 64 = .ok (.istore 6, 2) := by decide +kernel
theorem dX0_runFrom_66 : decode cX0_runFrom 66 = .ok (.aload_n 0, 1) := by decide +kernel
theorem dX0_runFrom_67 : decode cX0_runFrom 67 = .ok (.iload 6, 2) := by decide +kernel
theorem dX0_runFrom_69 : decode cX0_runFrom 69 = .ok (.invokevirtual 35, 3) := by decide +kernel
theorem dX0_runFrom_72 : decode cX0_runFrom 72 = .ok (.aload_n 0, 1) := by decide +kernel
theorem dX0_runFrom_73 : decode cX0_runFrom 73 = .ok (.iload 6, 2) := by decide +kernel
theorem dX0_runFrom_75 : decode cX0_runFrom 75 = .ok (.getstatic 32, 3) := by decide +kernel
theorem dX0_runFrom_78 : decode cX0_runFrom 78 = .ok (.iload 5, 2) := by decide +kernel
theorem dX0_runFrom_80 : decode cX0_runFrom 80 = .ok (.iaload, 1) := by decide +kernel
theorem dX0_runFrom_81 : decode cX0_runFrom 81 = .ok (.iload_n 3, 1) := by decide +kernel
theorem dX0_runFrom_82 : decode cX0_runFrom 82 = .ok (.iload 4, 2) := by decide +kernel
theorem dX0_runFrom_84 : decode cX0_runFrom 84 = .ok (.iconst 1, 1) := by decide +kernel
theorem dX0_runFrom_85 : decode cX0_runFrom 85 = .ok (.iadd, 1) := by decide +kernel
theorem dX0_runFrom_86 : decode cX0_runFrom 86 = .ok (.invokevirtual 39, 3) := by decide +kernel
theorem dX0_runFrom_89 : decode cX0_runFrom 89 = .ok (.ireturn, 1) := by decide +kernel
theorem dX0_bodyOf_0 : decode cX0_bodyOf 0 = .ok (.iload_n 1, 1) := by decide +kernel
theorem dX0_bodyOf_1 : decode cX0_bodyOf 1 = .ok (.lookupswitch 39 #[(0, 27), (1, 33)], 27) := by decide +kernel
theorem dX0_bodyOf_28 : decode cX0_bodyOf 28 = .ok (.getstatic 43, 3) := by decide +kernel
theorem dX0_bodyOf_31 : decode cX0_bodyOf 31 = .ok (.iload_n 0, 1) := by decide +kernel
theorem dX0_bodyOf_32 : decode cX0_bodyOf 32 = .ok (.iaload, 1) := by decide +kernel
theorem dX0_bodyOf_33 : decode cX0_bodyOf 33 = .ok (.ireturn, 1) := by decide +kernel
theorem dX0_bodyOf_34 : decode cX0_bodyOf 34 = .ok (.getstatic 46, 3) := by decide +kernel
theorem dX0_bodyOf_37 : decode cX0_bodyOf 37 = .ok (.iload_n 0, 1) := by decide +kernel
theorem dX0_bodyOf_38 : decode cX0_bodyOf 38 = .ok (.iaload, 1) := by decide +kernel
theorem dX0_bodyOf_39 : decode cX0_bodyOf 39 = .ok (.ireturn, 1) := by decide +kernel
theorem dX0_bodyOf_40 : decode cX0_bodyOf 40 = .ok (.getstatic 49, 3) := by decide +kernel
theorem dX0_bodyOf_43 : decode cX0_bodyOf 43 = .ok (.iload_n 0, 1) := by decide +kernel
theorem dX0_bodyOf_44 : decode cX0_bodyOf 44 = .ok (.iaload, 1) := by decide +kernel
theorem dX0_bodyOf_45 : decode cX0_bodyOf 45 = .ok (.ireturn, 1) := by decide +kernel
theorem dX0_begin_0 : decode cX0_begin 0 = .ok (.aload_n 0, 1) := by decide +kernel
theorem dX0_begin_1 : decode cX0_begin 1 = .ok (.getfield 21, 3) := by decide +kernel
theorem dX0_begin_4 : decode cX0_begin 4 = .ok (.bipush 20, 2) := by decide +kernel
theorem dX0_begin_6 : decode cX0_begin 6 = .ok (.if_icmp .ge 13, 3) := by decide +kernel
theorem dX0_begin_9 : decode cX0_begin 9 = .ok (.aload_n 0, 1) := by decide +kernel
theorem dX0_begin_10 : decode cX0_begin 10 = .ok (.getfield 24, 3) := by decide +kernel
theorem dX0_begin_13 : decode cX0_begin 13 = .ok (.aload_n 0, 1) := by decide +kernel
theorem dX0_begin_14 : decode cX0_begin 14 = .ok (.getfield 21, 3) := by decide +kernel
theorem dX0_begin_17 : decode cX0_begin 17 = .ok (.iload_n 1, 1) := by decide +kernel
theorem dX0_begin_18 : decode cX0_begin 18 = .ok (.iastore, 1) := by decide +kernel
theorem dX0_begin_19 : decode cX0_begin 19 = .ok (.aload_n 0, 1) := by decide +kernel
theorem dX0_begin_20 : decode cX0_begin 20 = .ok (.dup, 1) := by decide +kernel
theorem dX0_begin_21 : decode cX0_begin 21 = .ok (.getfield 21, 3) := by decide +kernel
theorem dX0_begin_24 : decode cX0_begin 24 = .ok (.iconst 1, 1) := by decide +kernel
theorem dX0_begin_25 : decode cX0_begin 25 = .ok (.iadd, 1) := by decide +kernel
theorem dX0_begin_26 : decode cX0_begin 26 = .ok (.putfield 21, 3) := by decide +kernel
theorem dX0_begin_29 : decode cX0_begin 29 = .ok (.return_, 1) := by decide +kernel
theorem dX0_runBody_0 : decode cX0_runBody 0 = .ok (.iload_n 1, 1) := by decide +kernel
theorem dX0_runBody_1 : decode cX0_runBody 1 = .ok (.lookupswitch 214 #[(1, 83), (2, 90), (3, 108), (11, 123), (21, 135), (31, 146), (41, 159), (51, 184), (61, 199)], 83) := by decide +kernel
theorem dX0_runBody_84 : decode cX0_runBody 84 = .ok (.iload_n 3, 1) := by decide +kernel
theorem dX0_runBody_85 : decode cX0_runBody 85 = .ok (.aload_n 0, 1) := by decide +kernel
theorem dX0_runBody_86 : decode cX0_runBody 86 = .ok (.getfield 15, 3) := by decide +kernel
theorem dX0_runBody_89 : decode cX0_runBody 89 = .ok (.iadd, 1) := by decide +kernel
theorem dX0_runBody_90 : decode cX0_runBody 90 = .ok (.ireturn, 1) := by decide +kernel
theorem dX0_runBody_91 : decode cX0_runBody 91 = .ok (.aload_n 0, 1) := by decide +kernel
theorem dX0_runBody_92 : decode cX0_runBody 92 = .ok (.aload_n 0, 1) := by decide +kernel
theorem dX0_runBody_93 : decode cX0_runBody 93 = .ok (.getfield 9, 3) := by decide +kernel
theorem dX0_runBody_96 : decode cX0_runBody 96 = .ok (.iconst 0, 1) := by decide +kernel
theorem dX0_runBody_97 : decode cX0_runBody 97 = .ok (.iload_n 3, 1) := by decide +kernel
theorem dX0_runBody_98 : decode cX0_runBody 98 = .ok (.iload 4, 2) := by decide +kernel
theorem dX0_runBody_100 : decode cX0_runBody 100 = .ok (.invokevirtual 52, 3) := by decide +kernel
theorem dX0_runBody_103 : decode cX0_runBody 103 = .ok (.aload_n 0, 1) := by decide +kernel
theorem dX0_runBody_104 : decode cX0_runBody 104 = .ok (.getfield 18, 3) := by decide +kernel
theorem dX0_runBody_107 : decode cX0_runBody 107 = .ok (.isub, 1) := by decide +kernel
theorem dX0_runBody_108 : decode cX0_runBody 108 = .ok (.ireturn, 1) := by decide +kernel
theorem dX0_runBody_109 : decode cX0_runBody 109 = .ok (.aload_n 0, 1) := by decide +kernel
theorem dX0_runBody_110 : decode cX0_runBody 110 = .ok (.aload_n 0, 1) := by decide +kernel
theorem dX0_runBody_111 : decode cX0_runBody 111 = .ok (.getfield 9, 3) := by decide +kernel
theorem dX0_runBody_114 : decode cX0_runBody 114 = .ok (.iconst 1, 1) := by decide +kernel
theorem dX0_runBody_115 : decode cX0_runBody 115 = .ok (.iload_n 3, 1) := by decide +kernel
theorem dX0_runBody_116 : decode cX0_runBody 116 = .ok (.iload 4, 2) := by decide +kernel
theorem dX0_runBody_118 : decode cX0_runBody 118 = .ok (.invokevirtual 52, 3) := by decide +kernel
theorem dX0_runBody_121 : decode cX0_runBody 121 = .ok (.iconst 2, 1) := by decide +kernel
theorem dX0_runBody_122 : decode cX0_runBody 122 = .ok (.imul, 1) := by decide +kernel
theorem dX0_runBody_123 : decode cX0_runBody 123 = .ok (.ireturn, 1) := by decide +kernel
theorem dX0_runBody_124 : decode cX0_runBody 124 = .ok (.aload_n 0, 1) := by decide +kernel
theorem dX0_runBody_125 : decode cX0_runBody 125 = .ok (.iload_n 2, 1) := by decide +kernel
theorem dX0_runBody_126 : decode cX0_runBody 126 = .ok (.iconst 0, 1) := by decide +kernel
theorem dX0_runBody_127 : decode cX0_runBody 127 = .ok (.iload_n 3, 1) := by decide +kernel
theorem dX0_runBody_128 : decode cX0_runBody 128 = .ok (.iconst 3, 1) := by decide +kernel
theorem dX0_runBody_129 : decode cX0_runBody 129 = .ok (.imul, 1) := by decide +kernel
theorem dX0_runBody_130 : decode cX0_runBody 130 = .ok (.iload 4, 2) := by decide +kernel
theorem dX0_runBody_132 : decode cX0_runBody 132 = .ok (.invokevirtual 52, 3) := by decide +kernel
theorem dX0_runBody_135 : decode cX0_runBody 135 = .ok (.ireturn, 1) := by decide +kernel
theorem dX0_runBody_136 : decode cX0_runBody 136 = .ok (.aload_n 0, 1) := by decide +kernel
theorem dX0_runBody_137 : decode cX0_runBody 137 = .ok (.iload_n 2, 1) := by decide +kernel
theorem dX0_runBody_138 : decode cX0_runBody 138 = .ok (.iconst 1, 1) := by decide +kernel
theorem dX0_runBody_139 : decode cX0_runBody 139 = .ok (.iload_n 3, 1) := by decide +kernel
theorem dX0_runBody_140 : decode cX0_runBody 140 = .ok (.iload 4, 2) := by decide +kernel
theorem dX0_runBody_142 : decode cX0_runBody 142 = .ok (.invokevirtual 52, 3) := by decide +kernel
theorem dX0_runBody_145 : decode cX0_runBody 145 = .ok (.ineg, 1) := by decide +kernel
theorem dX0_runBody_146 : decode cX0_runBody 146 = .ok (.ireturn, 1) := by decide +kernel
theorem dX0_runBody_147 : decode cX0_runBody 147 = .ok (.aload_n 0, 1) := by decide +kernel
theorem dX0_runBody_148 : decode cX0_runBody 148 = .ok (.iload_n 2, 1) := by decide +kernel
theorem dX0_runBody_149 : decode cX0_runBody 149 = .ok (.iconst 2, 1) := by decide +kernel
theorem dX0_runBody_150 : decode cX0_runBody 150 = .ok (.iload_n 3, 1) := by decide +kernel
theorem dX0_runBody_151 : decode cX0_runBody 151 = .ok (.iload 4, 2) := by decide +kernel
theorem dX0_runBody_153 : decode cX0_runBody 153 = .ok (.invokevirtual 52, 3) := by decide +kernel
theorem dX0_runBody_156 : decode cX0_runBody 156 = .ok (.bipush 7, 2) := by decide +kernel
theorem dX0_runBody_158 : decode cX0_runBody 158 = .ok (.ixor, 1) := by decide +kernel
theorem dX0_runBody_159 : decode cX0_runBody 159 = .ok (.ireturn, 1) := by decide +kernel
theorem dX0_runBody_160 : decode cX0_runBody 160 = .ok (.aload_n 0, 1) := by decide +kernel
theorem dX0_runBody_161 : decode cX0_runBody 161 = .ok (.iload_n 2, 1) := by decide +kernel
theorem dX0_runBody_162 : decode cX0_runBody 162 = .ok (.iconst 2, 1) := by decide +kernel
theorem dX0_runBody_163 : decode cX0_runBody 163 = .ok (.iload_n 3, 1) := by decide +kernel
theorem dX0_runBody_164 : decode cX0_runBody 164 = .ok (.iconst 1, 1) := by decide +kernel
theorem dX0_runBody_165 : decode cX0_runBody 165 = .ok (.isub, 1) := by decide +kernel
theorem dX0_runBody_166 : decode cX0_runBody 166 = .ok (.iload 4, 2) := by decide +kernel
theorem dX0_runBody_168 : decode cX0_runBody 168 = .ok (.invokevirtual 52, 3) := by decide +kernel
theorem dX0_runBody_171 : decode cX0_runBody 171 = .ok (.aload_n 0, 1) := by decide +kernel
theorem dX0_runBody_172 : decode cX0_runBody 172 = .ok (.aload_n 0, 1) := by decide +kernel
theorem dX0_runBody_173 : decode cX0_runBody 173 = .ok (.getfield 9, 3) := by decide +kernel
theorem dX0_runBody_176 : decode cX0_runBody 176 = .ok (.iconst 0, 1) := by decide +kernel
theorem dX0_runBody_177 : decode cX0_runBody 177 = .ok (.iconst 2, 1) := by decide +kernel
theorem dX0_runBody_178 : decode cX0_runBody 178 = .ok (.iload 4, 2) := by decide +kernel
theorem dX0_runBody_180 : decode cX0_runBody 180 = .ok (.invokevirtual 52, 3) := by decide +kernel
theorem dX0_runBody_183 : decode cX0_runBody 183 = .ok (.iadd, 1) := by decide +kernel
theorem dX0_runBody_184 : decode cX0_runBody 184 = .ok (.ireturn, 1) := by decide +kernel
theorem dX0_runBody_185 : decode cX0_runBody 185 = .ok (.aload_n 0, 1) := by decide +kernel
theorem dX0_runBody_186 : decode cX0_runBody 186 = .ok (.iload_n 2, 1) := by decide +kernel
theorem dX0_runBody_187 : decode cX0_runBody 187 = .ok (.iconst 0, 1) := by decide +kernel
theorem dX0_runBody_188 : decode cX0_runBody 188 = .ok (.iload_n 3, 1) := by decide +kernel
theorem dX0_runBody_189 : decode cX0_runBody 189 = .ok (.iload 4, 2) := by decide +kernel
theorem dX0_runBody_191 : decode cX0_runBody 191 = .ok (.invokevirtual 52, 3) := by decide +kernel
theorem dX0_runBody_194 : decode cX0_runBody 194 = .ok (.aload_n 0, 1) := by decide +kernel
theorem dX0_runBody_195 : decode cX0_runBody 195 = .ok (.getfield 15, 3) := by decide +kernel
theorem dX0_runBody_198 : decode cX0_runBody 198 = .ok (.ixor, 1) := by decide +kernel
theorem dX0_runBody_199 : decode cX0_runBody 199 = .ok (.ireturn, 1) := by decide +kernel
theorem dX0_runBody_200 : decode cX0_runBody 200 = .ok (.aload_n 0, 1) := by decide +kernel
theorem dX0_runBody_201 : decode cX0_runBody 201 = .ok (.iload_n 2, 1) := by decide +kernel
theorem dX0_runBody_202 : decode cX0_runBody 202 = .ok (.iconst 1, 1) := by decide +kernel
theorem dX0_runBody_203 : decode cX0_runBody 203 = .ok (.iload_n 3, 1) := by decide +kernel
theorem dX0_runBody_204 : decode cX0_runBody 204 = .ok (.iload 4, 2) := by decide +kernel
theorem dX0_runBody_206 : decode cX0_runBody 206 = .ok (.invokevirtual 52, 3) := by decide +kernel
theorem dX0_runBody_209 : decode cX0_runBody 209 = .ok (.aload_n 0, 1) := by decide +kernel
theorem dX0_runBody_210 : decode cX0_runBody 210 = .ok (.getfield 18, 3) := by decide +kernel
theorem dX0_runBody_213 : decode cX0_runBody 213 = .ok (.iadd, 1) := by decide +kernel
theorem dX0_runBody_214 : decode cX0_runBody 214 = .ok (.ireturn, 1) := by decide +kernel
theorem dX0_runBody_215 : decode cX0_runBody 215 = .ok (.iconst 0, 1) := by decide +kernel
theorem dX0_runBody_216 : decode cX0_runBody 216 = .ok (.ireturn, 1) := by decide +kernel
theorem dX1_init_0 : decode cX1_init 0 = .ok (.aload_n 0, 1) := by decide +kernel
theorem dX1_init_1 : decode cX1_init 1 = .ok (.invokespecial 3, 3) := by decide +kernel
theorem dX1_init_4 : decode cX1_init 4 = .ok (.aload_n 0, 1) := by decide +kernel
theorem dX1_init_5 : decode cX1_init 5 = .ok (.iconst 0, 1) := by decide +kernel
theorem dX1_init_6 : decode cX1_init 6 = .ok (.putfield 9, 3) := by decide +kernel
theorem dX1_init_9 : decode cX1_init 9 = .ok (.aload_n 0, 1) := by decide +kernel
theorem dX1_init_10 : decode cX1_init 10 = .ok (.bipush 10, 2) := by decide +kernel
theorem dX1_init_12 : decode cX1_init 12 = .ok (.newarray .int, 2) := by decide +kernel
theorem dX1_init_14 : decode cX1_init 14 = .ok (.putfield 15, 3) := by decide +kernel
theorem dX1_init_17 : decode cX1_init 17 = .ok (.aload_n 0, 1) := by decide +kernel
theorem dX1_init_18 : decode cX1_init 18 = .ok (.bipush 10, 2) := by decide +kernel
theorem dX1_init_20 : decode cX1_init 20 = .ok (.newarray .int, 2) := by decide +kernel
theorem dX1_init_22 : decode cX1_init 22 = .ok (.putfield 19, 3) := by decide +kernel
theorem dX1_init_25 : decode cX1_init 25 = .ok (.aload_n 0, 1) := by decide +kernel
theorem dX1_init_26 : decode cX1_init 26 = .ok (.bipush 10, 2) := by decide +kernel
theorem dX1_init_28 : decode cX1_init 28 = .ok (.newarray .int, 2) := by decide +kernel
theorem dX1_init_30 : decode cX1_init 30 = .ok (.putfield 22, 3) := by decide +kernel
theorem dX1_init_33 : decode cX1_init 33 = .ok (.aload_n 0, 1) := by decide +kernel
theorem dX1_init_34 : decode cX1_init 34 = .ok (.bipush 60, 2) := by decide +kernel
theorem dX1_init_36 : decode cX1_init 36 = .ok (.putfield 25, 3) := by decide +kernel
theorem dX1_init_39 : decode cX1_init 39 = .ok (.aload_n 0, 1) := by decide +kernel
theorem dX1_init_40 : decode cX1_init 40 = .ok (.iconst 0, 1) := by decide +kernel
theorem dX1_init_41 : decode cX1_init 41 = .ok (.putfield 28, 3) := by decide +kernel
theorem dX1_init_44 : decode cX1_init 44 = .ok (.aload_n 0, 1) := by decide +kernel
theorem dX1_init_45 : decode cX1_init 45 = .ok (.bipush 10, 2) := by decide +kernel
theorem dX1_init_47 : decode cX1_init 47 = .ok (.newarray .int, 2) := by decide +kernel
theorem dX1_init_49 : decode cX1_init 49 = .ok (.putfield 31, 3) := by decide +kernel
theorem dX1_init_52 : decode cX1_init 52 = .ok (.aload_n 0, 1) := by decide +kernel
theorem dX1_init_53 : decode cX1_init 53 = .ok (.iconst 0, 1) := by decide +kernel
theorem dX1_init_54 : decode cX1_init 54 = .ok (.putfield 34, 3) := by decide +kernel
theorem dX1_init_57 : decode cX1_init 57 = .ok (.aload_n 0, 1) := by decide +kernel
theorem dX1_init_58 : decode cX1_init 58 = .ok (.bipush 10, 2) := by decide +kernel
theorem dX1_init_60 : decode cX1_init 60 = .ok (.newarray .int, 2) := by decide +kernel
theorem dX1_init_62 : decode cX1_init 62 = .ok (.putfield 37, 3) := by decide +kernel
theorem dX1_init_65 : decode cX1_init 65 = .ok (.aload_n 0, 1) := by decide +kernel
theorem dX1_init_66 : decode cX1_init 66 = .ok (.iconst 0, 1) := by decide +kernel
theorem dX1_init_67 : decode cX1_init 67 = .ok (.putfield 40, 3) := by decide +kernel
theorem dX1_init_70 : decode cX1_init 70 = .ok (.aload_n 0, 1) := by decide +kernel
theorem dX1_init_71 : decode cX1_init 71 = .ok (.bipush 120, 2) := by decide +kernel
theorem dX1_init_73 : decode cX1_init 73 = .ok (.newarray .byte, 2) := by decide +kernel
theorem dX1_init_75 : decode cX1_init 75 = .ok (.putfield 43, 3) := by decide +kernel
theorem dX1_init_78 : decode cX1_init 78 = .ok (.aload_n 0, 1) := by decide +kernel
theorem dX1_init_79 : decode cX1_init 79 = .ok (.iconst 0, 1) := by decide +kernel
theorem dX1_init_80 : decode cX1_init 80 = .ok (.putfield 47, 3) := by decide +kernel
theorem dX1_init_83 : decode cX1_init 83 = .ok (.return_, 1) := by decide +kernel
theorem dX1_takeOver_0 : decode cX1_takeOver 0 = .ok (.aload_n 0, 1) := by decide +kernel
theorem dX1_takeOver_1 : decode cX1_takeOver 1 = .ok (.aload_n 1, 1) := by decide +kernel
theorem dX1_takeOver_2 : decode cX1_takeOver 2 = .ok (.getfield 9, 3) := by decide +kernel
theorem dX1_takeOver_5 : decode cX1_takeOver 5 = .ok (.putfield 9, 3) := by decide +kernel
theorem dX1_takeOver_8 : decode cX1_takeOver 8 = .ok (.aload_n 1, 1) := by decide +kernel
theorem dX1_takeOver_9 : decode cX1_takeOver 9 = .ok (.getfield 15, 3) := by decide +kernel
theorem dX1_takeOver_12 : decode cX1_takeOver 12 = .ok (.iconst 0, 1) := by decide +kernel
theorem dX1_takeOver_13 : decode cX1_takeOver 13 = .ok (.aload_n 0, 1) := by decide +kernel
theorem dX1_takeOver_14 : decode cX1_takeOver 14 = .ok (.getfield 15, 3) := by decide +kernel
theorem dX1_takeOver_17 : decode cX1_takeOver 17 = .ok (.iconst 0, 1) := by decide +kernel
theorem dX1_takeOver_18 : decode cX1_takeOver 18 = .ok (.bipush 10, 2) := by decide +kernel
theorem dX1_takeOver_20 : decode cX1_takeOver 20 = .ok (.invokestatic 50, 3) := by decide +kernel
theorem dX1_takeOver_23 : decode cX1_takeOver 23 = .ok (.aload_n 1, 1) := by decide +kernel
theorem dX1_takeOver_24 : decode cX1_takeOver 24 = .ok (.getfield 19, 3) := by decide +kernel
theorem dX1_takeOver_27 : decode cX1_takeOver 27 = .ok (.iconst 0, 1) := by decide +kernel
theorem dX1_takeOver_28 : decode cX1_takeOver 28 = .ok (.aload_n 0, 1) := by decide +kernel
theorem dX1_takeOver_29 : decode cX1_takeOver 29 = .ok (.getfield 19, 3) := by decide +kernel
theorem dX1_takeOver_32 : decode cX1_takeOver 32 = .ok (.iconst 0, 1) := by decide +kernel
theorem dX1_takeOver_33 : decode cX1_takeOver 33 = .ok (.bipush 10, 2) := by decide +kernel
theorem dX1_takeOver_35 : decode cX1_takeOver 35 = .ok (.invokestatic 50, 3) := by decide +kernel
theorem dX1_takeOver_38 : decode cX1_takeOver 38 = .ok (.aload_n 1, 1) := by decide +kernel
theorem dX1_takeOver_39 : decode cX1_takeOver 39 = .ok (.getfield 22, 3) := by decide +kernel
theorem dX1_takeOver_42 : decode cX1_takeOver 42 = .ok (.iconst 0, 1) := by decide +kernel
theorem dX1_takeOver_43 : decode cX1_takeOver 43 = .ok (.aload_n 0, 1) := by decide +kernel
theorem dX1_takeOver_44 : decode cX1_takeOver 44 = .ok (.getfield 22, 3) := by decide +kernel
theorem dX1_takeOver_47 : decode cX1_takeOver 47 = .ok (.iconst 0, 1) := by decide +kernel
theorem dX1_takeOver_48 : decode cX1_takeOver 48 = .ok (.bipush 10, 2) := by decide +kernel
theorem dX1_takeOver_50 : decode cX1_takeOver 50 = .ok (.invokestatic 50, 3) := by decide +kernel
theorem dX1_takeOver_53 : decode cX1_takeOver 53 = .ok (.aload_n 0, 1) := by decide +kernel
theorem dX1_takeOver_54 : decode cX1_takeOver 54 = .ok (.aload_n 1, 1) := by decide +kernel
theorem dX1_takeOver_55 : decode cX1_takeOver 55 = .ok (.getfield 25, 3) := by decide +kernel
theorem dX1_takeOver_58 : decode cX1_takeOver 58 = .ok (.putfield 25, 3) := by decide +kernel
theorem dX1_takeOver_61 : decode cX1_takeOver 61 = .ok (.aload_n 0, 1) := by decide +kernel
theorem dX1_takeOver_62 : decode cX1_takeOver 62 = .ok (.aload_n 1, 1) := by decide +kernel
theorem dX1_takeOver_63 : decode cX1_takeOver 63 = .ok (.getfield 28, 3) := by decide +kernel
theorem dX1_takeOver_66 : decode cX1_takeOver 66 = .ok (.putfield 28, 3) := by decide +kernel
theorem dX1_takeOver_69 : decode cX1_takeOver 69 = .ok (.aload_n 1, 1) := by decide +kernel
theorem dX1_takeOver_70 : decode cX1_takeOver 70 = .ok (.getfield 31, 3) := by decide +kernel
theorem dX1_takeOver_73 : decode cX1_takeOver 73 = .ok (.iconst 0, 1) := by decide +kernel
theorem dX1_takeOver_74 : decode cX1_takeOver 74 = .ok (.aload_n 0, 1) := by decide +kernel
theorem dX1_takeOver_75 : decode cX1_takeOver 75 = .ok (.getfield 31, 3) := by decide +kernel
theorem dX1_takeOver_78 : decode cX1_takeOver 78 = .ok (.iconst 0, 1) := by decide +kernel
theorem dX1_takeOver_79 : decode cX1_takeOver 79 = .ok (.bipush 10, 2) := by decide +kernel
theorem dX1_takeOver_81 : decode cX1_takeOver 81 = .ok (.invokestatic 50, 3) := by decide +kernel
theorem dX1_takeOver_84 : decode cX1_takeOver 84 = .ok (.aload_n 0, 1) := by decide +kernel
theorem dX1_takeOver_85 : decode cX1_takeOver 85 = .ok (.aload_n 1, 1) := by decide +kernel
theorem dX1_takeOver_86 : decode cX1_takeOver 86 = .ok (.getfield 34, 3) := by decide +kernel
theorem dX1_takeOver_89 : decode cX1_takeOver 89 = .ok (.putfield 34, 3) := by decide +kernel
theorem dX1_takeOver_92 : decode cX1_takeOver 92 = .ok (.aload_n 1, 1) := by decide +kernel
theorem dX1_takeOver_93 : decode cX1_takeOver 93 = .ok (.getfield 37, 3) := by decide +kernel
theorem dX1_takeOver_96 : decode cX1_takeOver 96 = .ok (.iconst 0, 1) := by decide +kernel
theorem dX1_takeOver_97 : decode cX1_takeOver 97 = .ok (.aload_n 0, 1) := by decide +kernel
theorem dX1_takeOver_98 : decode cX1_takeOver 98 = .ok (.getfield 37, 3) := by decide +kernel
theorem dX1_takeOver_101 : decode cX1_takeOver 101 = .ok (.iconst 0, 1) := by decide +kernel
theorem dX1_takeOver_102 : decode cX1_takeOver 102 = .ok (.bipush 10, 2) := by decide +kernel
theorem dX1_takeOver_104 : decode cX1_takeOver 104 = .ok (.invokestatic 50, 3) := by decide +kernel
theorem dX1_takeOver_107 : decode cX1_takeOver 107 = .ok (.aload_n 0, 1) := by decide +kernel
theorem dX1_takeOver_108 : decode cX1_takeOver 108 = .ok (.aload_n 1, 1) := by decide +kernel
theorem dX1_takeOver_109 : decode cX1_takeOver 109 = .ok (.getfield 40, 3) := by decide +kernel
theorem dX1_takeOver_112 : decode cX1_takeOver 112 = .ok (.putfield 40, 3) := by decide +kernel
theorem dX1_takeOver_115 : decode cX1_takeOver 115 = .ok (.aload_n 1, 1) := by decide +kernel
theorem dX1_takeOver_116 : decode cX1_takeOver 116 = .ok (.getfield 43, 3) := by decide +kernel
theorem dX1_takeOver_119 : decode cX1_takeOver 119 = .ok (.iconst 0, 1) := by decide +kernel
theorem dX1_takeOver_120 : decode cX1_takeOver 120 = .ok (.aload_n 0, 1) := by decide +kernel
theorem dX1_takeOver_121 : decode cX1_takeOver 121 = .ok (.getfield 43, 3) := by decide +kernel
theorem dX1_takeOver_124 : decode cX1_takeOver 124 = .ok (.iconst 0, 1) := by decide +kernel
theorem dX1_takeOver_125 : decode cX1_takeOver 125 = .ok (.bipush 120, 2) := by decide +kernel
theorem dX1_takeOver_127 : decode cX1_takeOver 127 = .ok (.invokestatic 50, 3) := by decide +kernel
theorem dX1_takeOver_130 : decode cX1_takeOver 130 = .ok (.aload_n 0, 1) := by decide +kernel
theorem dX1_takeOver_131 : decode cX1_takeOver 131 = .ok (.aload_n 1, 1) := by decide +kernel
theorem dX1_takeOver_132 : decode cX1_takeOver 132 = .ok (.getfield 47, 3) := by decide +kernel
theorem dX1_takeOver_135 : decode cX1_takeOver 135 = .ok (.putfield 47, 3) := by decide +kernel
theorem dX1_takeOver_138 : decode cX1_takeOver 138 = .ok (.return_, 1) := by decide +kernel
theorem dX1_playerOn_0 : decode cX1_playerOn 0 = .ok (.iconst 0, 1) := by decide +kernel
theorem dX1_playerOn_1 : decode cX1_playerOn 1 = .ok (.istore_n 2, 1) := by decide +kernel
theorem dX1_playerOn_2 : decode cX1_playerOn 2 = .ok (.iload_n 2, 1) := by decide +kernel
theorem dX1_playerOn_3 : decode cX1_playerOn 3 = .ok (.aload_n 0, 1) := by decide +kernel
theorem dX1_playerOn_4 : decode cX1_playerOn 4 = .ok (.getfield 9, 3) := by decide +kernel
theorem dX1_playerOn_7 : decode cX1_playerOn 7 = .ok (.if_icmp .ge 21, 3) := by decide +kernel
theorem dX1_playerOn_10 : decode cX1_playerOn 10 = .ok (.aload_n 0, 1) := by decide +kernel
theorem dX1_playerOn_11 : decode cX1_playerOn 11 = .ok (.getfield 22, 3) := by decide +kernel
theorem dX1_playerOn_14 : decode cX1_playerOn 14 = .ok (.iload_n 2, 1) := by decide +kernel
theorem dX1_playerOn_15 : decode cX1_playerOn 15 = .ok (.iaload, 1) := by decide +kernel
theorem dX1_playerOn_16 : decode cX1_playerOn 16 = .ok (.iload_n 1, 1) := by decide +kernel
theorem dX1_playerOn_17 : decode cX1_playerOn 17 = .ok (.if_icmp .ne 5, 3) := by decide +kernel
theorem dX1_playerOn_20 : decode cX1_playerOn 20 = .ok (.iload_n 2, 1) := by decide +kernel
theorem dX1_playerOn_21 : decode cX1_playerOn 21 = .ok (.ireturn, 1) := by decide +kernel
theorem dX1_playerOn_22 : decode cX1_playerOn 22 = .ok (.iinc 2 1, 3) := by decide +kernel
theorem dX1_playerOn_25 : decode cX1_playerOn 25 = .ok (.goto (-23), 3) := by decide +kernel
theorem dX1_playerOn_28 : decode cX1_playerOn 28 = .ok (.iconst (-1), 1) := by decide +kernel
theorem dX1_playerOn_29 : decode cX1_playerOn 29 = .ok (.ireturn, 1) := by decide +kernel
theorem dX1_isInForm_0 : decode cX1_isInForm 0 = .ok (.iconst 0, 1) := by decide +kernel
theorem dX1_isInForm_1 : decode cX1_isInForm 1 = .ok (.istore_n 2, 1) := by decide +kernel
theorem dX1_isInForm_2 : decode cX1_isInForm 2 = .ok (.iload_n 2, 1) := by decide +kernel
theorem dX1_isInForm_3 : decode cX1_isInForm 3 = .ok (.aload_n 0, 1) := by decide +kernel
theorem dX1_isInForm_4 : decode cX1_isInForm 4 = .ok (.getfield 28, 3) := by decide +kernel
theorem dX1_isInForm_7 : decode cX1_isInForm 7 = .ok (.if_icmp .ge 21, 3) := by decide +kernel
theorem dX1_isInForm_10 : decode cX1_isInForm 10 = .ok (.aload_n 0, 1) := by decide +kernel
theorem dX1_isInForm_11 : decode cX1_isInForm 11 = .ok (.getfield 31, 3) := by decide +kernel
theorem dX1_isInForm_14 : decode cX1_isInForm 14 = .ok (.iload_n 2, 1) := by decide +kernel
theorem dX1_isInForm_15 : decode cX1_isInForm 15 = .ok (.iaload, 1) := by decide +kernel
theorem dX1_isInForm_16 : decode cX1_isInForm 16 = .ok (.iload_n 1, 1) := by decide +kernel
theorem dX1_isInForm_17 : decode cX1_isInForm 17 = .ok (.if_icmp .ne 5, 3) := by decide +kernel
theorem dX1_isInForm_20 : decode cX1_isInForm 20 = .ok (.iconst 1, 1) := by decide +kernel
theorem dX1_isInForm_21 : decode cX1_isInForm 21 = .ok (.ireturn, 1) := by decide +kernel
theorem dX1_isInForm_22 : decode cX1_isInForm 22 = .ok (.iinc 2 1, 3) := by decide +kernel
theorem dX1_isInForm_25 : decode cX1_isInForm 25 = .ok (.goto (-23), 3) := by decide +kernel
theorem dX1_isInForm_28 : decode cX1_isInForm 28 = .ok (.iconst 0, 1) := by decide +kernel
theorem dX1_isInForm_29 : decode cX1_isInForm 29 = .ok (.ireturn, 1) := by decide +kernel
theorem dX1_hasTooFewDots_0 : decode cX1_hasTooFewDots 0 = .ok (.aload_n 0, 1) := by decide +kernel
theorem dX1_hasTooFewDots_1 : decode cX1_hasTooFewDots 1 = .ok (.getfield 28, 3) := by decide +kernel
theorem dX1_hasTooFewDots_4 : decode cX1_hasTooFewDots 4 = .ok (.aload_n 0, 1) := by decide +kernel
theorem dX1_hasTooFewDots_5 : decode cX1_hasTooFewDots 5 = .ok (.getfield 9, 3) := by decide +kernel
theorem dX1_hasTooFewDots_8 : decode cX1_hasTooFewDots 8 = .ok (.if_icmp .ge 7, 3) := by decide +kernel
theorem dX1_hasTooFewDots_11 : decode cX1_hasTooFewDots 11 = .ok (.iconst 1, 1) := by decide +kernel
theorem dX1_hasTooFewDots_12 : decode cX1_hasTooFewDots 12 = .ok (.goto 4, 3) := by decide +kernel
theorem dX1_hasTooFewDots_15 : decode cX1_hasTooFewDots 15 = .ok (.iconst 0, 1) := by decide +kernel
theorem dX1_hasTooFewDots_16 : decode cX1_hasTooFewDots 16 = .ok (.ireturn, 1) := by decide +kernel
theorem dX1_meetHalfWay_0 : decode cX1_meetHalfWay 0 = .ok (.aload_n 0, 1) := by decide +kernel
theorem dX1_meetHalfWay_1 : decode cX1_meetHalfWay 1 = .ok (.getfield 22, 3) := by decide +kernel
theorem dX1_meetHalfWay_4 : decode cX1_meetHalfWay 4 = .ok (.iload_n 1, 1) := by decide +kernel
theorem dX1_meetHalfWay_5 : decode cX1_meetHalfWay 5 = .ok (.iaload, 1) := by decide +kernel
theorem dX1_meetHalfWay_6 : decode cX1_meetHalfWay 6 = .ok (.invokestatic 56, 3) := by decide +kernel
theorem dX1_meetHalfWay_9 : decode cX1_meetHalfWay 9 = .ok (.aload_n 0, 1) := by decide +kernel
theorem dX1_meetHalfWay_10 : decode cX1_meetHalfWay 10 = .ok (.getfield 31, 3) := by decide +kernel
theorem dX1_meetHalfWay_13 : decode cX1_meetHalfWay 13 = .ok (.iload_n 1, 1) := by decide +kernel
theorem dX1_meetHalfWay_14 : decode cX1_meetHalfWay 14 = .ok (.iaload, 1) := by decide +kernel
theorem dX1_meetHalfWay_15 : decode cX1_meetHalfWay 15 = .ok (.invokestatic 56, 3) := by decide +kernel
theorem dX1_meetHalfWay_18 : decode cX1_meetHalfWay 18 = .ok (.iadd, 1) := by decide +kernel
theorem dX1_meetHalfWay_19 : decode cX1_meetHalfWay 19 = .ok (.aload_n 0, 1) := by decide +kernel
theorem dX1_meetHalfWay_20 : decode cX1_meetHalfWay 20 = .ok (.getfield 22, 3) := by decide +kernel
theorem dX1_meetHalfWay_23 : decode cX1_meetHalfWay 23 = .ok (.iload_n 2, 1) := by decide +kernel
theorem dX1_meetHalfWay_24 : decode cX1_meetHalfWay 24 = .ok (.iaload, 1) := by decide +kernel
theorem dX1_meetHalfWay_25 : decode cX1_meetHalfWay 25 = .ok (.invokestatic 56, 3) := by decide +kernel
theorem dX1_meetHalfWay_28 : decode cX1_meetHalfWay 28 = .ok (.aload_n 0, 1) := by decide +kernel
theorem dX1_meetHalfWay_29 : decode cX1_meetHalfWay 29 = .ok (.getfield 31, 3) := by decide +kernel
theorem dX1_meetHalfWay_32 : decode cX1_meetHalfWay 32 = .ok (.iload_n 2, 1) := by decide +kernel
theorem dX1_meetHalfWay_33 : decode cX1_meetHalfWay 33 = .ok (.iaload, 1) := by decide +kernel
theorem dX1_meetHalfWay_34 : decode cX1_meetHalfWay 34 = .ok (.invokestatic 56, 3) := by decide +kernel
theorem dX1_meetHalfWay_37 : decode cX1_meetHalfWay 37 = .ok (.iadd, 1) := by decide +kernel
theorem dX1_meetHalfWay_38 : decode cX1_meetHalfWay 38 = .ok (.if_icmp .ne 48, 3) := by decide +kernel
theorem dX1_meetHalfWay_41 : decode cX1_meetHalfWay 41 = .ok (.aload_n 0, 1) := by decide +kernel
theorem dX1_meetHalfWay_42 : decode cX1_meetHalfWay 42 = .ok (.getfield 22, 3) := by decide +kernel
theorem dX1_meetHalfWay_45 : decode cX1_meetHalfWay 45 = .ok (.iload_n 1, 1) := by decide +kernel
theorem dX1_meetHalfWay_46 : decode cX1_meetHalfWay 46 = .ok (.iaload, 1) := by decide +kernel
theorem dX1_meetHalfWay_47 : decode cX1_meetHalfWay 47 = .ok (.invokestatic 60, 3) := by decide +kernel
theorem dX1_meetHalfWay_50 : decode cX1_meetHalfWay 50 = .ok (.aload_n 0, 1) := by decide +kernel
theorem dX1_meetHalfWay_51 : decode cX1_meetHalfWay 51 = .ok (.getfield 31, 3) := by decide +kernel
theorem dX1_meetHalfWay_54 : decode cX1_meetHalfWay 54 = .ok (.iload_n 1, 1) := by decide +kernel
theorem dX1_meetHalfWay_55 : decode cX1_meetHalfWay 55 = .ok (.iaload, 1) := by decide +kernel
theorem dX1_meetHalfWay_56 : decode cX1_meetHalfWay 56 = .ok (.invokestatic 60, 3) := by decide +kernel
theorem dX1_meetHalfWay_59 : decode cX1_meetHalfWay 59 = .ok (.iadd, 1) := by decide +kernel
theorem dX1_meetHalfWay_60 : decode cX1_meetHalfWay 60 = .ok (.aload_n 0, 1) := by decide +kernel
theorem dX1_meetHalfWay_61 : decode cX1_meetHalfWay 61 = .ok (.getfield 22, 3) := by decide +kernel
theorem dX1_meetHalfWay_64 : decode cX1_meetHalfWay 64 = .ok (.iload_n 2, 1) := by decide +kernel
theorem dX1_meetHalfWay_65 : decode cX1_meetHalfWay 65 = .ok (.iaload, 1) := by decide +kernel
theorem dX1_meetHalfWay_66 : decode cX1_meetHalfWay 66 = .ok (.invokestatic 60, 3) := by decide +kernel
theorem dX1_meetHalfWay_69 : decode cX1_meetHalfWay 69 = .ok (.aload_n 0, 1) := by decide +kernel
theorem dX1_meetHalfWay_70 : decode cX1_meetHalfWay 70 = .ok (.getfield 31, 3) := by decide +kernel
theorem dX1_meetHalfWay_73 : decode cX1_meetHalfWay 73 = .ok (.iload_n 2, 1) := by decide +kernel
theorem dX1_meetHalfWay_74 : decode cX1_meetHalfWay 74 = .ok (.iaload, 1) := by decide +kernel
theorem dX1_meetHalfWay_75 : decode cX1_meetHalfWay 75 = .ok (.invokestatic 60, 3) := by decide +kernel
theorem dX1_meetHalfWay_78 : decode cX1_meetHalfWay 78 = .ok (.iadd, 1) := by decide +kernel
theorem dX1_meetHalfWay_79 : decode cX1_meetHalfWay 79 = .ok (.if_icmp .ne 7, 3) := by decide +kernel
theorem dX1_meetHalfWay_82 : decode cX1_meetHalfWay 82 = .ok (.iconst 1, 1) := by decide +kernel
theorem dX1_meetHalfWay_83 : decode cX1_meetHalfWay 83 = .ok (.goto 4, 3) := by decide +kernel
theorem dX1_meetHalfWay_86 : decode cX1_meetHalfWay 86 = .ok (.iconst 0, 1) := by decide +kernel
theorem dX1_meetHalfWay_87 : decode cX1_meetHalfWay 87 = .ok (.ireturn, 1) := by decide +kernel
theorem dX2_init_0 : decode cX2_init 0 = .ok (.aload_n 0, 1) := by decide +kernel
theorem dX2_init_1 : decode cX2_init 1 = .ok (.invokespecial 3, 3) := by decide +kernel
theorem dX2_init_4 : decode cX2_init 4 = .ok (.aload_n 0, 1) := by decide +kernel
theorem dX2_init_5 : decode cX2_init 5 = .ok (.iconst 0, 1) := by decide +kernel
theorem dX2_init_6 : decode cX2_init 6 = .ok (.putfield 9, 3) := by decide +kernel
theorem dX2_init_9 : decode cX2_init 9 = .ok (.aload_n 0, 1) := by decide +kernel
theorem dX2_init_10 : decode cX2_init 10 = .ok (.aload_n 1, 1) := by decide +kernel
theorem dX2_init_11 : decode cX2_init 11 = .ok (.putfield 15, 3) := by decide +kernel
theorem dX2_init_14 : decode cX2_init 14 = .ok (.aload_n 0, 1) := by decide +kernel
theorem dX2_init_15 : decode cX2_init 15 = .ok (.aload_n 2, 1) := by decide +kernel
theorem dX2_init_16 : decode cX2_init 16 = .ok (.putfield 19, 3) := by decide +kernel
theorem dX2_init_19 : decode cX2_init 19 = .ok (.return_, 1) := by decide +kernel
theorem dX2_readInto_0 : decode cX2_readInto 0 = .ok (.aload_n 0, 1) := by decide +kernel
theorem dX2_readInto_1 : decode cX2_readInto 1 = .ok (.aload_n 1, 1) := by decide +kernel
theorem dX2_readInto_2 : decode cX2_readInto 2 = .ok (.putfield 19, 3) := by decide +kernel
theorem dX2_readInto_5 : decode cX2_readInto 5 = .ok (.aload_n 0, 1) := by decide +kernel
theorem dX2_readInto_6 : decode cX2_readInto 6 = .ok (.getfield 19, 3) := by decide +kernel
theorem dX2_readInto_9 : decode cX2_readInto 9 = .ok (.invokevirtual 23, 3) := by decide +kernel
theorem dX2_readInto_12 : decode cX2_readInto 12 = .ok (.aload_n 0, 1) := by decide +kernel
theorem dX2_readInto_13 : decode cX2_readInto 13 = .ok (.iconst 0, 1) := by decide +kernel
theorem dX2_readInto_14 : decode cX2_readInto 14 = .ok (.putfield 9, 3) := by decide +kernel
theorem dX2_readInto_17 : decode cX2_readInto 17 = .ok (.iconst 1, 1) := by decide +kernel
theorem dX2_readInto_18 : decode cX2_readInto 18 = .ok (.istore_n 2, 1) := by decide +kernel
theorem dX2_readInto_19 : decode cX2_readInto 19 = .ok (.iload_n 2, 1) := by decide +kernel
theorem dX2_readInto_20 : decode cX2_readInto 20 = .ok (.bipush 10, 2) := by decide +kernel
theorem dX2_readInto_22 : decode cX2_readInto 22 = .ok (.if_icmp .gt 57, 3) := by decide +kernel
theorem dX2_readInto_25 : decode cX2_readInto 25 = .ok (.aload_n 0, 1) := by decide +kernel
theorem dX2_readInto_26 : decode cX2_readInto 26 = .ok (.invokevirtual 28, 3) := by decide +kernel
theorem dX2_readInto_29 : decode cX2_readInto 29 = .ok (.ifCond .ne 8, 3) := by decide +kernel
theorem dX2_readInto_32 : decode cX2_readInto 32 = .ok (.aload_n 0, 1) := by decide +kernel
theorem dX2_readInto_33 : decode cX2_readInto 33 = .ok (.getfield 9, 3) := by decide +kernel
theorem dX2_readInto_36 : decode cX2_readInto 36 = .ok (.ireturn, 1) := by decide +kernel
theorem dX2_readInto_37 : decode cX2_readInto 37 = .ok (.aload_n 0, 1) := by decide +kernel
theorem dX2_readInto_38 : decode cX2_readInto 38 = .ok (.getfield 9, 3) := by decide +kernel
theorem dX2_readInto_41 : decode cX2_readInto 41 = .ok (.aload_n 0, 1) := by decide +kernel
theorem dX2_readInto_42 : decode cX2_readInto 42 = .ok (.getfield 15, 3) := by decide +kernel
theorem dX2_readInto_45 : decode cX2_readInto 45 = .ok (.getfield 32, 3) := by decide +kernel
theorem dX2_readInto_48 : decode cX2_readInto 48 = .ok (.if_icmp .ne 5, 3) := by decide +kernel
theorem dX2_readInto_51 : decode cX2_readInto 51 = .ok (.iconst (-1), 1) := by decide +kernel
theorem dX2_readInto_52 : decode cX2_readInto 52 = .ok (.ireturn, 1) := by decide +kernel
theorem dX2_readInto_53 : decode cX2_readInto 53 = .ok (.iload_n 2, 1) := by decide +kernel
theorem dX2_readInto_54 : decode cX2_readInto 54 = .ok (.bipush 10, 2) := by decide +kernel
theorem dX2_readInto_56 : decode cX2_readInto 56 = .ok (.if_icmp .eq 12, 3) := by decide +kernel
theorem dX2_readInto_59 : decode cX2_readInto 59 = .ok (.aload_n 0, 1) := by decide +kernel
theorem dX2_readInto_60 : decode cX2_readInto 60 = .ok (.ldc 37, 2) := by decide +kernel
theorem dX2_readInto_62 : decode cX2_readInto 62 = .ok (.invokevirtual 39, 3) := by decide +kernel
theorem dX2_readInto_65 : decode cX2_readInto 65 = .ok (.ifCond .ne 8, 3) := by decide +kernel
theorem dX2_readInto_68 : decode cX2_readInto 68 = .ok (.aload_n 0, 1) := by decide +kernel
theorem dX2_readInto_69 : decode cX2_readInto 69 = .ok (.getfield 9, 3) := by decide +kernel
theorem dX2_readInto_72 : decode cX2_readInto 72 = .ok (.ireturn, 1) := by decide +kernel
theorem dX2_readInto_73 : decode cX2_readInto 73 = .ok (.iinc 2 1, 3) := by decide +kernel
theorem dX2_readInto_76 : decode cX2_readInto 76 = .ok (.goto (-57), 3) := by decide +kernel
theorem dX2_readInto_79 : decode cX2_readInto 79 = .ok (.aload_n 0, 1) := by decide +kernel
theorem dX2_readInto_80 : decode cX2_readInto 80 = .ok (.getfield 9, 3) := by decide +kernel
theorem dX2_readInto_83 : decode cX2_readInto 83 = .ok (.ireturn, 1) := by decide +kernel
theorem dX2_readClause_0 : decode cX2_readClause 0 = .ok (.aload_n 0, 1) := by decide +kernel
theorem dX2_readClause_1 : decode cX2_readClause 1 = .ok (.invokevirtual 43, 3) := by decide +kernel
theorem dX2_readClause_4 : decode cX2_readClause 4 = .ok (.istore_n 1, 1) := by decide +kernel
theorem dX2_readClause_5 : decode cX2_readClause 5 = .ok (.iload_n 1, 1) := by decide +kernel
theorem dX2_readClause_6 : decode cX2_readClause 6 = .ok (.iconst (-1), 1) := by decide +kernel
theorem dX2_readClause_7 : decode cX2_readClause 7 = .ok (.if_icmp .eq 12, 3) := by decide +kernel
theorem dX2_readClause_10 : decode cX2_readClause 10 = .ok (.aload_n 0, 1) := by decide +kernel
theorem dX2_readClause_11 : decode cX2_readClause 11 = .ok (.ldc 47, 2) := by decide +kernel
theorem dX2_readClause_13 : decode cX2_readClause 13 = .ok (.invokevirtual 39, 3) := by decide +kernel
theorem dX2_readClause_16 : decode cX2_readClause 16 = .ok (.ifCond .ne 5, 3) := by decide +kernel
theorem dX2_readClause_19 : decode cX2_readClause 19 = .ok (.iconst 0, 1) := by decide +kernel
theorem dX2_readClause_20 : decode cX2_readClause 20 = .ok (.ireturn, 1) := by decide +kernel
theorem dX2_readClause_21 : decode cX2_readClause 21 = .ok (.aload_n 0, 1) := by decide +kernel
theorem dX2_readClause_22 : decode cX2_readClause 22 = .ok (.invokevirtual 49, 3) := by decide +kernel
theorem dX2_readClause_25 : decode cX2_readClause 25 = .ok (.istore_n 2, 1) := by decide +kernel
theorem dX2_readClause_26 : decode cX2_readClause 26 = .ok (.iload_n 2, 1) := by decide +kernel
theorem dX2_readClause_27 : decode cX2_readClause 27 = .ok (.iconst (-1), 1) := by decide +kernel
theorem dX2_readClause_28 : decode cX2_readClause 28 = .ok (.if_icmp .ne 5, 3) := by decide +kernel
theorem dX2_readClause_31 : decode cX2_readClause 31 = .ok (.iconst 0, 1) := by decide +kernel
theorem dX2_readClause_32 : decode cX2_readClause 32 = .ok (.ireturn, 1) := by decide +kernel
theorem dX2_readClause_33 : decode cX2_readClause 33 = .ok (.aload_n 0, 1) := by decide +kernel
theorem dX2_readClause_34 : decode cX2_readClause 34 = .ok (.getfield 19, 3) := by decide +kernel
theorem dX2_readClause_37 : decode cX2_readClause 37 = .ok (.getfield 52, 3) := by decide +kernel
theorem dX2_readClause_40 : decode cX2_readClause 40 = .ok (.istore_n 3, 1) := by decide +kernel
theorem dX2_readClause_41 : decode cX2_readClause 41 = .ok (.iload_n 1, 1) := by decide +kernel
theorem dX2_readClause_42 : decode cX2_readClause 42 = .ok (.ifCond .eq 8, 3) := by decide +kernel
theorem dX2_readClause_45 : decode cX2_readClause 45 = .ok (.iload_n 1, 1) := by decide +kernel
theorem dX2_readClause_46 : decode cX2_readClause 46 = .ok (.iconst 1, 1) := by decide +kernel
theorem dX2_readClause_47 : decode cX2_readClause 47 = .ok (.if_icmp .ne 22, 3) := by decide +kernel
theorem dX2_readClause_50 : decode cX2_readClause 50 = .ok (.aload_n 0, 1) := by decide +kernel
theorem dX2_readClause_51 : decode cX2_readClause 51 = .ok (.ldc 47, 2) := by decide +kernel
theorem dX2_readClause_53 : decode cX2_readClause 53 = .ok (.invokevirtual 39, 3) := by decide +kernel
theorem dX2_readClause_56 : decode cX2_readClause 56 = .ok (.ifCond .eq 11, 3) := by decide +kernel
theorem dX2_readClause_59 : decode cX2_readClause 59 = .ok (.aload_n 0, 1) := by decide +kernel
theorem dX2_readClause_60 : decode cX2_readClause 60 = .ok (.iconst 0, 1) := by decide +kernel
theorem dX2_readClause_61 : decode cX2_readClause 61 = .ok (.invokevirtual 55, 3) := by decide +kernel
theorem dX2_readClause_64 : decode cX2_readClause 64 = .ok (.ifCond .ne 5, 3) := by decide +kernel
theorem dX2_readClause_67 : decode cX2_readClause 67 = .ok (.iconst 0, 1) := by decide +kernel
theorem dX2_readClause_68 : decode cX2_readClause 68 = .ok (.ireturn, 1) := by decide +kernel
theorem dX2_readClause_69 : decode cX2_readClause 69 = .ok (.aload_n 0, 1) := by decide +kernel
theorem dX2_readClause_70 : decode cX2_readClause 70 = .ok (.getfield 19, 3) := by decide +kernel
theorem dX2_readClause_73 : decode cX2_readClause 73 = .ok (.iload_n 1, 1) := by decide +kernel
theorem dX2_readClause_74 : decode cX2_readClause 74 = .ok (.iload_n 2, 1) := by decide +kernel
theorem dX2_readClause_75 : decode cX2_readClause 75 = .ok (.iload_n 3, 1) := by decide +kernel
theorem dX2_readClause_76 : decode cX2_readClause 76 = .ok (.invokevirtual 59, 3) := by decide +kernel
theorem dX2_readClause_79 : decode cX2_readClause 79 = .ok (.iconst 1, 1) := by decide +kernel
theorem dX2_readClause_80 : decode cX2_readClause 80 = .ok (.ireturn, 1) := by decide +kernel
theorem dX2_readWord_0 : decode cX2_readWord 0 = .ok (.iconst 0, 1) := by decide +kernel
theorem dX2_readWord_1 : decode cX2_readWord 1 = .ok (.istore_n 1, 1) := by decide +kernel
theorem dX2_readWord_2 : decode cX2_readWord 2 = .ok (.iconst 0, 1) := by decide +kernel
theorem dX2_readWord_3 : decode cX2_readWord 3 = .ok (.istore_n 2, 1) := by decide +kernel
theorem dX2_readWord_4 : decode cX2_readWord 4 = .ok (.iload_n 2, 1) := by decide +kernel
theorem dX2_readWord_5 : decode cX2_readWord 5 = .ok (.iconst 5, 1) := by decide +kernel
theorem dX2_readWord_6 : decode cX2_readWord 6 = .ok (.if_icmp .ge 50, 3) := by decide +kernel
theorem dX2_readWord_9 : decode cX2_readWord 9 = .ok (.iload_n 2, 1) := by decide +kernel
theorem dX2_readWord_10 : decode cX2_readWord 10 = .ok (.invokestatic 63, 3) := by decide +kernel
theorem dX2_readWord_13 : decode cX2_readWord 13 = .ok (.astore_n 3, 1) := by decide +kernel
theorem dX2_readWord_14 : decode cX2_readWord 14 = .ok (.aload_n 0, 1) := by decide +kernel
theorem dX2_readWord_15 : decode cX2_readWord 15 = .ok (.aload_n 3, 1) := by decide +kernel
theorem dX2_readWord_16 : decode cX2_readWord 16 = .ok (.invokevirtual 67, 3) := by decide +kernel
theorem dX2_readWord_19 : decode cX2_readWord 19 = .ok (.istore 4, 2) := by decide +kernel
theorem dX2_readWord_21 : decode cX2_readWord 21 = .ok (.iload 4, 2) := by decide +kernel
theorem dX2_readWord_23 : decode cX2_readWord 23 = .ok (.aload_n 3, 1) := by decide +kernel
theorem dX2_readWord_24 : decode cX2_readWord 24 = .ok (.invokevirtual 71, 3) := by decide +kernel
theorem dX2_readWord_27 : decode cX2_readWord 27 = .ok (.if_icmp .ne 16, 3) := by decide +kernel
theorem dX2_readWord_30 : decode cX2_readWord 30 = .ok (.aload_n 0, 1) := by decide +kernel
theorem dX2_readWord_31 : decode cX2_readWord 31 = .ok (.dup, 1) := by decide +kernel
theorem dX2_readWord_32 : decode cX2_readWord 32 = .ok (.getfield 9, 3) := by decide +kernel
theorem dX2_readWord_35 : decode cX2_readWord 35 = .ok (.iload 4, 2) := by decide +kernel
theorem dX2_readWord_37 : decode cX2_readWord 37 = .ok (.iadd, 1) := by decide +kernel
theorem dX2_readWord_38 : decode cX2_readWord 38 = .ok (.putfield 9, 3) := by decide +kernel
theorem dX2_readWord_41 : decode cX2_readWord 41 = .ok (.iload_n 2, 1) := by decide +kernel
theorem dX2_readWord_42 : decode cX2_readWord 42 = .ok (.ireturn, 1) := by decide +kernel
theorem dX2_readWord_43 : decode cX2_readWord 43 = .ok (.iload_n 1, 1) := by decide +kernel
theorem dX2_readWord_44 : decode cX2_readWord 44 = .ok (.iload 4, 2) := by decide +kernel
theorem dX2_readWord_46 : decode cX2_readWord 46 = .ok (.invokestatic 76, 3) := by decide +kernel
theorem dX2_readWord_49 : decode cX2_readWord 49 = .ok (.istore_n 1, 1) := by decide +kernel
theorem dX2_readWord_50 : decode cX2_readWord 50 = .ok (.iinc 2 1, 3) := by decide +kernel
theorem dX2_readWord_53 : decode cX2_readWord 53 = .ok (.goto (-49), 3) := by decide +kernel
theorem dX2_readWord_56 : decode cX2_readWord 56 = .ok (.aload_n 0, 1) := by decide +kernel
theorem dX2_readWord_57 : decode cX2_readWord 57 = .ok (.dup, 1) := by decide +kernel
theorem dX2_readWord_58 : decode cX2_readWord 58 = .ok (.getfield 9, 3) := by decide +kernel
theorem dX2_readWord_61 : decode cX2_readWord 61 = .ok (.iload_n 1, 1) := by decide +kernel
theorem dX2_readWord_62 : decode cX2_readWord 62 = .ok (.iadd, 1) := by decide +kernel
theorem dX2_readWord_63 : decode cX2_readWord 63 = .ok (.putfield 9, 3) := by decide +kernel
theorem dX2_readWord_66 : decode cX2_readWord 66 = .ok (.iconst (-1), 1) := by decide +kernel
theorem dX2_readWord_67 : decode cX2_readWord 67 = .ok (.ireturn, 1) := by decide +kernel
theorem dX2_textOf_0 : decode cX2_textOf 0 = .ok (.iload_n 0, 1) := by decide +kernel
theorem dX2_textOf_1 : decode cX2_textOf 1 = .ok (.tableswitch 43 0 3 #[31, 34, 37, 40], 31) := by decide +kernel
theorem dX2_textOf_32 : decode cX2_textOf 32 = .ok (.ldc 82, 2) := by decide +kernel
theorem dX2_textOf_34 : decode cX2_textOf 34 = .ok (.areturn, 1) := by decide +kernel
theorem dX2_textOf_35 : decode cX2_textOf 35 = .ok (.ldc 84, 2) := by decide +kernel
theorem dX2_textOf_37 : decode cX2_textOf 37 = .ok (.areturn, 1) := by decide +kernel
theorem dX2_textOf_38 : decode cX2_textOf 38 = .ok (.ldc 86, 2) := by decide +kernel
theorem dX2_textOf_40 : decode cX2_textOf 40 = .ok (.areturn, 1) := by decide +kernel
theorem dX2_textOf_41 : decode cX2_textOf 41 = .ok (.ldc 88, 2) := by decide +kernel
theorem dX2_textOf_43 : decode cX2_textOf 43 = .ok (.areturn, 1) := by decide +kernel
theorem dX2_textOf_44 : decode cX2_textOf 44 = .ok (.ldc 90, 2) := by decide +kernel
theorem dX2_textOf_46 : decode cX2_textOf 46 = .ok (.areturn, 1) := by decide +kernel
theorem dX2_sameSigns_0 : decode cX2_sameSigns 0 = .ok (.iconst 0, 1) := by decide +kernel
theorem dX2_sameSigns_1 : decode cX2_sameSigns 1 = .ok (.istore_n 2, 1) := by decide +kernel
theorem dX2_sameSigns_2 : decode cX2_sameSigns 2 = .ok (.iload_n 2, 1) := by decide +kernel
theorem dX2_sameSigns_3 : decode cX2_sameSigns 3 = .ok (.aload_n 1, 1) := by decide +kernel
theorem dX2_sameSigns_4 : decode cX2_sameSigns 4 = .ok (.invokevirtual 71, 3) := by decide +kernel
theorem dX2_sameSigns_7 : decode cX2_sameSigns 7 = .ok (.if_icmp .ge 47, 3) := by decide +kernel
theorem dX2_sameSigns_10 : decode cX2_sameSigns 10 = .ok (.aload_n 0, 1) := by decide +kernel
theorem dX2_sameSigns_11 : decode cX2_sameSigns 11 = .ok (.getfield 9, 3) := by decide +kernel
theorem dX2_sameSigns_14 : decode cX2_sameSigns 14 = .ok (.iload_n 2, 1) := by decide +kernel
theorem dX2_sameSigns_15 : decode cX2_sameSigns 15 = .ok (.iadd, 1) := by decide +kernel
theorem dX2_sameSigns_16 : decode cX2_sameSigns 16 = .ok (.aload_n 0, 1) := by decide +kernel
theorem dX2_sameSigns_17 : decode cX2_sameSigns 17 = .ok (.getfield 15, 3) := by decide +kernel
theorem dX2_sameSigns_20 : decode cX2_sameSigns 20 = .ok (.getfield 32, 3) := by decide +kernel
theorem dX2_sameSigns_23 : decode cX2_sameSigns 23 = .ok (.if_icmp .ge 31, 3) := by decide +kernel
theorem dX2_sameSigns_26 : decode cX2_sameSigns 26 = .ok (.aload_n 0, 1) := by decide +kernel
theorem dX2_sameSigns_27 : decode cX2_sameSigns 27 = .ok (.getfield 15, 3) := by decide +kernel
theorem dX2_sameSigns_30 : decode cX2_sameSigns 30 = .ok (.getfield 92, 3) := by decide +kernel
theorem dX2_sameSigns_33 : decode cX2_sameSigns 33 = .ok (.aload_n 0, 1) := by decide +kernel
theorem dX2_sameSigns_34 : decode cX2_sameSigns 34 = .ok (.getfield 9, 3) := by decide +kernel
theorem dX2_sameSigns_37 : decode cX2_sameSigns 37 = .ok (.iload_n 2, 1) := by decide +kernel
theorem dX2_sameSigns_38 : decode cX2_sameSigns 38 = .ok (.iadd, 1) := by decide +kernel
theorem dX2_sameSigns_39 : decode cX2_sameSigns 39 = .ok (.baload, 1) := by decide +kernel
theorem dX2_sameSigns_40 : decode cX2_sameSigns 40 = .ok (.aload_n 1, 1) := by decide +kernel
theorem dX2_sameSigns_41 : decode cX2_sameSigns 41 = .ok (.iload_n 2, 1) := by decide +kernel
theorem dX2_sameSigns_42 : decode cX2_sameSigns 42 = .ok (.invokevirtual 96, 3) := by decide +kernel
theorem dX2_sameSigns_45 : decode cX2_sameSigns 45 = .ok (.if_icmp .ne 9, 3) := by decide +kernel
theorem dX2_sameSigns_48 : decode cX2_sameSigns 48 = .ok (.iinc 2 1, 3) := by decide +kernel
theorem dX2_sameSigns_51 : decode cX2_sameSigns 51 = .ok (.goto (-49), 3) := by decide +kernel
theorem dX2_sameSigns_54 : decode cX2_sameSigns 54 = .ok (.iload_n 2, 1) := by decide +kernel
theorem dX2_sameSigns_55 : decode cX2_sameSigns 55 = .ok (.ireturn, 1) := by decide +kernel
theorem dX2_readEither_0 : decode cX2_readEither 0 = .ok (.aload_n 0, 1) := by decide +kernel
theorem dX2_readEither_1 : decode cX2_readEither 1 = .ok (.iload_n 1, 1) := by decide +kernel
theorem dX2_readEither_2 : decode cX2_readEither 2 = .ok (.invokevirtual 100, 3) := by decide +kernel
theorem dX2_readEither_5 : decode cX2_readEither 5 = .ok (.ifCond .ne 5, 3) := by decide +kernel
theorem dX2_readEither_8 : decode cX2_readEither 8 = .ok (.iconst 0, 1) := by decide +kernel
theorem dX2_readEither_9 : decode cX2_readEither 9 = .ok (.ireturn, 1) := by decide +kernel
theorem dX2_readEither_10 : decode cX2_readEither 10 = .ok (.iconst 0, 1) := by decide +kernel
theorem dX2_readEither_11 : decode cX2_readEither 11 = .ok (.istore_n 2, 1) := by decide +kernel
theorem dX2_readEither_12 : decode cX2_readEither 12 = .ok (.iload_n 2, 1) := by decide +kernel
theorem dX2_readEither_13 : decode cX2_readEither 13 = .ok (.bipush 120, 2) := by decide +kernel
theorem dX2_readEither_15 : decode cX2_readEither 15 = .ok (.if_icmp .ge 37, 3) := by decide +kernel
theorem dX2_readEither_18 : decode cX2_readEither 18 = .ok (.aload_n 0, 1) := by decide +kernel
theorem dX2_readEither_19 : decode cX2_readEither 19 = .ok (.ldc 103, 2) := by decide +kernel
theorem dX2_readEither_21 : decode cX2_readEither 21 = .ok (.invokevirtual 39, 3) := by decide +kernel
theorem dX2_readEither_24 : decode cX2_readEither 24 = .ok (.ifCond .eq 28, 3) := by decide +kernel
theorem dX2_readEither_27 : decode cX2_readEither 27 = .ok (.aload_n 0, 1) := by decide +kernel
theorem dX2_readEither_28 : decode cX2_readEither 28 = .ok (.iload_n 1, 1) := by decide +kernel
theorem dX2_readEither_29 : decode cX2_readEither 29 = .ok (.invokevirtual 100, 3) := by decide +kernel
theorem dX2_readEither_32 : decode cX2_readEither 32 = .ok (.ifCond .ne 5, 3) := by decide +kernel
theorem dX2_readEither_35 : decode cX2_readEither 35 = .ok (.iconst 0, 1) := by decide +kernel
theorem dX2_readEither_36 : decode cX2_readEither 36 = .ok (.ireturn, 1) := by decide +kernel
theorem dX2_readEither_37 : decode cX2_readEither 37 = .ok (.aload_n 0, 1) := by decide +kernel
theorem dX2_readEither_38 : decode cX2_readEither 38 = .ok (.getfield 19, 3) := by decide +kernel
theorem dX2_readEither_41 : decode cX2_readEither 41 = .ok (.bipush (-3), 2) := by decide +kernel
theorem dX2_readEither_43 : decode cX2_readEither 43 = .ok (.invokevirtual 105, 3) := by decide +kernel
theorem dX2_readEither_46 : decode cX2_readEither 46 = .ok (.iinc 2 1, 3) := by decide +kernel
theorem dX2_readEither_49 : decode cX2_readEither 49 = .ok (.goto (-37), 3) := by decide +kernel
theorem dX2_readEither_52 : decode cX2_readEither 52 = .ok (.iconst 1, 1) := by decide +kernel
theorem dX2_readEither_53 : decode cX2_readEither 53 = .ok (.ireturn, 1) := by decide +kernel
theorem dX2_readBoth_0 : decode cX2_readBoth 0 = .ok (.aload_n 0, 1) := by decide +kernel
theorem dX2_readBoth_1 : decode cX2_readBoth 1 = .ok (.iload_n 1, 1) := by decide +kernel
theorem dX2_readBoth_2 : decode cX2_readBoth 2 = .ok (.invokevirtual 109, 3) := by decide +kernel
theorem dX2_readBoth_5 : decode cX2_readBoth 5 = .ok (.ifCond .ne 5, 3) := by decide +kernel
theorem dX2_readBoth_8 : decode cX2_readBoth 8 = .ok (.iconst 0, 1) := by decide +kernel
theorem dX2_readBoth_9 : decode cX2_readBoth 9 = .ok (.ireturn, 1) := by decide +kernel
theorem dX2_readBoth_10 : decode cX2_readBoth 10 = .ok (.iconst 0, 1) := by decide +kernel
theorem dX2_readBoth_11 : decode cX2_readBoth 11 = .ok (.istore_n 2, 1) := by decide +kernel
theorem dX2_readBoth_12 : decode cX2_readBoth 12 = .ok (.iload_n 2, 1) := by decide +kernel
theorem dX2_readBoth_13 : decode cX2_readBoth 13 = .ok (.bipush 120, 2) := by decide +kernel
theorem dX2_readBoth_15 : decode cX2_readBoth 15 = .ok (.if_icmp .ge 37, 3) := by decide +kernel
theorem dX2_readBoth_18 : decode cX2_readBoth 18 = .ok (.aload_n 0, 1) := by decide +kernel
theorem dX2_readBoth_19 : decode cX2_readBoth 19 = .ok (.ldc 112, 2) := by decide +kernel
theorem dX2_readBoth_21 : decode cX2_readBoth 21 = .ok (.invokevirtual 39, 3) := by decide +kernel
theorem dX2_readBoth_24 : decode cX2_readBoth 24 = .ok (.ifCond .eq 28, 3) := by decide +kernel
theorem dX2_readBoth_27 : decode cX2_readBoth 27 = .ok (.aload_n 0, 1) := by decide +kernel
theorem dX2_readBoth_28 : decode cX2_readBoth 28 = .ok (.iload_n 1, 1) := by decide +kernel
theorem dX2_readBoth_29 : decode cX2_readBoth 29 = .ok (.invokevirtual 109, 3) := by decide +kernel
theorem dX2_readBoth_32 : decode cX2_readBoth 32 = .ok (.ifCond .ne 5, 3) := by decide +kernel
theorem dX2_readBoth_35 : decode cX2_readBoth 35 = .ok (.iconst 0, 1) := by decide +kernel
theorem dX2_readBoth_36 : decode cX2_readBoth 36 = .ok (.ireturn, 1) := by decide +kernel
theorem dX2_readBoth_37 : decode cX2_readBoth 37 = .ok (.aload_n 0, 1) := by decide +kernel
theorem dX2_readBoth_38 : decode cX2_readBoth 38 = .ok (.getfield 19, 3) := by decide +kernel
theorem dX2_readBoth_41 : decode cX2_readBoth 41 = .ok (.bipush (-2), 2) := by decide +kernel
theorem dX2_readBoth_43 : decode cX2_readBoth 43 = .ok (.invokevirtual 105, 3) := by decide +kernel
theorem dX2_readBoth_46 : decode cX2_readBoth 46 = .ok (.iinc 2 1, 3) := by decide +kernel
theorem dX2_readBoth_49 : decode cX2_readBoth 49 = .ok (.goto (-37), 3) := by decide +kernel
theorem dX2_readBoth_52 : decode cX2_readBoth 52 = .ok (.iconst 1, 1) := by decide +kernel
theorem dX2_readBoth_53 : decode cX2_readBoth 53 = .ok (.ireturn, 1) := by decide +kernel
theorem dX2_readFactor_0 : decode cX2_readFactor 0 = .ok (.iload_n 1, 1) := by decide +kernel
theorem dX2_readFactor_1 : decode cX2_readFactor 1 = .ok (.iconst 5, 1) := by decide +kernel
theorem dX2_readFactor_2 : decode cX2_readFactor 2 = .ok (.if_icmp .ge 34, 3) := by decide +kernel
theorem dX2_readFactor_5 : decode cX2_readFactor 5 = .ok (.aload_n 0, 1) := by decide +kernel
theorem dX2_readFactor_6 : decode cX2_readFactor 6 = .ok (.ldc 114, 2) := by decide +kernel
theorem dX2_readFactor_8 : decode cX2_readFactor 8 = .ok (.invokevirtual 39, 3) := by decide +kernel
theorem dX2_readFactor_11 : decode cX2_readFactor 11 = .ok (.ifCond .eq 25, 3) := by decide +kernel
theorem dX2_readFactor_14 : decode cX2_readFactor 14 = .ok (.aload_n 0, 1) := by decide +kernel
theorem dX2_readFactor_15 : decode cX2_readFactor 15 = .ok (.iload_n 1, 1) := by decide +kernel
theorem dX2_readFactor_16 : decode cX2_readFactor 16 = .ok (.iconst 1, 1) := by decide +kernel
theorem dX2_readFactor_17 : decode cX2_readFactor 17 = .ok (.iadd, 1) := by decide +kernel
theorem dX2_readFactor_18 : decode cX2_readFactor 18 = .ok (.invokevirtual 109, 3) := by decide +kernel
theorem dX2_readFactor_21 : decode cX2_readFactor 21 = .ok (.ifCond .ne 5, 3) := by decide +kernel
theorem dX2_readFactor_24 : decode cX2_readFactor 24 = .ok (.iconst 0, 1) := by decide +kernel
theorem dX2_readFactor_25 : decode cX2_readFactor 25 = .ok (.ireturn, 1) := by decide +kernel
theorem dX2_readFactor_26 : decode cX2_readFactor 26 = .ok (.aload_n 0, 1) := by decide +kernel
theorem dX2_readFactor_27 : decode cX2_readFactor 27 = .ok (.getfield 19, 3) := by decide +kernel
theorem dX2_readFactor_30 : decode cX2_readFactor 30 = .ok (.iconst (-1), 1) := by decide +kernel
theorem dX2_readFactor_31 : decode cX2_readFactor 31 = .ok (.invokevirtual 105, 3) := by decide +kernel
theorem dX2_readFactor_34 : decode cX2_readFactor 34 = .ok (.iconst 1, 1) := by decide +kernel
theorem dX2_readFactor_35 : decode cX2_readFactor 35 = .ok (.ireturn, 1) := by decide +kernel
theorem dX2_readFactor_36 : decode cX2_readFactor 36 = .ok (.iload_n 1, 1) := by decide +kernel
theorem dX2_readFactor_37 : decode cX2_readFactor 37 = .ok (.iconst 5, 1) := by decide +kernel
theorem dX2_readFactor_38 : decode cX2_readFactor 38 = .ok (.if_icmp .ge 37, 3) := by decide +kernel
theorem dX2_readFactor_41 : decode cX2_readFactor 41 = .ok (.aload_n 0, 1) := by decide +kernel
theorem dX2_readFactor_42 : decode cX2_readFactor 42 = .ok (.ldc 116, 2) := by decide +kernel
theorem dX2_readFactor_44 : decode cX2_readFactor 44 = .ok (.invokevirtual 39, 3) := by decide +kernel
theorem dX2_readFactor_47 : decode cX2_readFactor 47 = .ok (.ifCond .eq 28, 3) := by decide +kernel
theorem dX2_readFactor_50 : decode cX2_readFactor 50 = .ok (.aload_n 0, 1) := by decide +kernel
theorem dX2_readFactor_51 : decode cX2_readFactor 51 = .ok (.iload_n 1, 1) := by decide +kernel
theorem dX2_readFactor_52 : decode cX2_readFactor 52 = .ok (.iconst 1, 1) := by decide +kernel
theorem dX2_readFactor_53 : decode cX2_readFactor 53 = .ok (.iadd, 1) := by decide +kernel
theorem dX2_readFactor_54 : decode cX2_readFactor 54 = .ok (.invokevirtual 55, 3) := by decide +kernel
theorem dX2_readFactor_57 : decode cX2_readFactor 57 = .ok (.ifCond .eq 16, 3) := by decide +kernel
theorem dX2_readFactor_60 : decode cX2_readFactor 60 = .ok (.aload_n 0, 1) := by decide +kernel
theorem dX2_readFactor_61 : decode cX2_readFactor 61 = .ok (.ldc 118, 2) := by decide +kernel
theorem dX2_readFactor_63 : decode cX2_readFactor 63 = .ok (.invokevirtual 39, 3) := by decide +kernel
theorem dX2_readFactor_66 : decode cX2_readFactor 66 = .ok (.ifCond .eq 7, 3) := by decide +kernel
theorem dX2_readFactor_69 : decode cX2_readFactor 69 = .ok (.iconst 1, 1) := by decide +kernel
theorem dX2_readFactor_70 : decode cX2_readFactor 70 = .ok (.goto 4, 3) := by decide +kernel
theorem dX2_readFactor_73 : decode cX2_readFactor 73 = .ok (.iconst 0, 1) := by decide +kernel
theorem dX2_readFactor_74 : decode cX2_readFactor 74 = .ok (.ireturn, 1) := by decide +kernel
theorem dX2_readFactor_75 : decode cX2_readFactor 75 = .ok (.aload_n 0, 1) := by decide +kernel
theorem dX2_readFactor_76 : decode cX2_readFactor 76 = .ok (.invokevirtual 120, 3) := by decide +kernel
theorem dX2_readFactor_79 : decode cX2_readFactor 79 = .ok (.ireturn, 1) := by decide +kernel
theorem dX2_readTest_0 : decode cX2_readTest 0 = .ok (.aload_n 0, 1) := by decide +kernel
theorem dX2_readTest_1 : decode cX2_readTest 1 = .ok (.ldc 123, 2) := by decide +kernel
theorem dX2_readTest_3 : decode cX2_readTest 3 = .ok (.invokevirtual 125, 3) := by decide +kernel
theorem dX2_readTest_6 : decode cX2_readTest 6 = .ok (.istore_n 1, 1) := by decide +kernel
theorem dX2_readTest_7 : decode cX2_readTest 7 = .ok (.iload_n 1, 1) := by decide +kernel
theorem dX2_readTest_8 : decode cX2_readTest 8 = .ok (.iconst (-1), 1) := by decide +kernel
theorem dX2_readTest_9 : decode cX2_readTest 9 = .ok (.if_icmp .ne 5, 3) := by decide +kernel
theorem dX2_readTest_12 : decode cX2_readTest 12 = .ok (.iconst 0, 1) := by decide +kernel
theorem dX2_readTest_13 : decode cX2_readTest 13 = .ok (.ireturn, 1) := by decide +kernel
theorem dX2_readTest_14 : decode cX2_readTest 14 = .ok (.aload_n 0, 1) := by decide +kernel
theorem dX2_readTest_15 : decode cX2_readTest 15 = .ok (.ldc 128, 2) := by decide +kernel
theorem dX2_readTest_17 : decode cX2_readTest 17 = .ok (.invokevirtual 125, 3) := by decide +kernel
theorem dX2_readTest_20 : decode cX2_readTest 20 = .ok (.istore_n 2, 1) := by decide +kernel
theorem dX2_readTest_21 : decode cX2_readTest 21 = .ok (.iload_n 2, 1) := by decide +kernel
theorem dX2_readTest_22 : decode cX2_readTest 22 = .ok (.iconst (-1), 1) := by decide +kernel
theorem dX2_readTest_23 : decode cX2_readTest 23 = .ok (.if_icmp .ne 5, 3) := by decide +kernel
theorem dX2_readTest_26 : decode cX2_readTest 26 = .ok (.iconst 0, 1) := by decide +kernel
theorem dX2_readTest_27 : decode cX2_readTest 27 = .ok (.ireturn, 1) := by decide +kernel
theorem dX2_readTest_28 : decode cX2_readTest 28 = .ok (.aload_n 0, 1) := by decide +kernel
theorem dX2_readTest_29 : decode cX2_readTest 29 = .ok (.invokevirtual 49, 3) := by decide +kernel
theorem dX2_readTest_32 : decode cX2_readTest 32 = .ok (.istore_n 3, 1) := by decide +kernel
theorem dX2_readTest_33 : decode cX2_readTest 33 = .ok (.iload_n 3, 1) := by decide +kernel
theorem dX2_readTest_34 : decode cX2_readTest 34 = .ok (.iconst (-1), 1) := by decide +kernel
theorem dX2_readTest_35 : decode cX2_readTest 35 = .ok (.if_icmp .ne 5, 3) := by decide +kernel
theorem dX2_readTest_38 : decode cX2_readTest 38 = .ok (.iconst 0, 1) := by decide +kernel
theorem dX2_readTest_39 : decode cX2_readTest 39 = .ok (.ireturn, 1) := by decide +kernel
theorem dX2_readTest_40 : decode cX2_readTest 40 = .ok (.aload_n 0, 1) := by decide +kernel
theorem dX2_readTest_41 : decode cX2_readTest 41 = .ok (.getfield 19, 3) := by decide +kernel
theorem dX2_readTest_44 : decode cX2_readTest 44 = .ok (.iload_n 1, 1) := by decide +kernel
theorem dX2_readTest_45 : decode cX2_readTest 45 = .ok (.iload_n 2, 1) := by decide +kernel
theorem dX2_readTest_46 : decode cX2_readTest 46 = .ok (.iload_n 3, 1) := by decide +kernel
theorem dX2_readTest_47 : decode cX2_readTest 47 = .ok (.invokestatic 130, 3) := by decide +kernel
theorem dX2_readTest_50 : decode cX2_readTest 50 = .ok (.invokevirtual 105, 3) := by decide +kernel
theorem dX2_readTest_53 : decode cX2_readTest 53 = .ok (.iconst 1, 1) := by decide +kernel
theorem dX2_readTest_54 : decode cX2_readTest 54 = .ok (.ireturn, 1) := by decide +kernel
theorem dX2_readNumber_0 : decode cX2_readNumber 0 = .ok (.aload_n 0, 1) := by decide +kernel
theorem dX2_readNumber_1 : decode cX2_readNumber 1 = .ok (.ldc 134, 2) := by decide +kernel
theorem dX2_readNumber_3 : decode cX2_readNumber 3 = .ok (.invokevirtual 125, 3) := by decide +kernel
theorem dX2_readNumber_6 : decode cX2_readNumber 6 = .ok (.istore_n 1, 1) := by decide +kernel
theorem dX2_readNumber_7 : decode cX2_readNumber 7 = .ok (.iload_n 1, 1) := by decide +kernel
theorem dX2_readNumber_8 : decode cX2_readNumber 8 = .ok (.iconst (-1), 1) := by decide +kernel
theorem dX2_readNumber_9 : decode cX2_readNumber 9 = .ok (.if_icmp .eq 7, 3) := by decide +kernel
theorem dX2_readNumber_12 : decode cX2_readNumber 12 = .ok (.iload_n 1, 1) := by decide +kernel
theorem dX2_readNumber_13 : decode cX2_readNumber 13 = .ok (.ifCond .ne 5, 3) := by decide +kernel
theorem dX2_readNumber_16 : decode cX2_readNumber 16 = .ok (.iload_n 1, 1) := by decide +kernel
theorem dX2_readNumber_17 : decode cX2_readNumber 17 = .ok (.ireturn, 1) := by decide +kernel
theorem dX2_readNumber_18 : decode cX2_readNumber 18 = .ok (.aload_n 0, 1) := by decide +kernel
theorem dX2_readNumber_19 : decode cX2_readNumber 19 = .ok (.ldc 134, 2) := by decide +kernel
theorem dX2_readNumber_21 : decode cX2_readNumber 21 = .ok (.invokevirtual 125, 3) := by decide +kernel
theorem dX2_readNumber_24 : decode cX2_readNumber 24 = .ok (.istore_n 2, 1) := by decide +kernel
theorem dX2_readNumber_25 : decode cX2_readNumber 25 = .ok (.iload_n 2, 1) := by decide +kernel
theorem dX2_readNumber_26 : decode cX2_readNumber 26 = .ok (.iconst (-1), 1) := by decide +kernel
theorem dX2_readNumber_27 : decode cX2_readNumber 27 = .ok (.if_icmp .ne 7, 3) := by decide +kernel
theorem dX2_readNumber_30 : decode cX2_readNumber 30 = .ok (.iload_n 1, 1) := by decide +kernel
theorem dX2_readNumber_31 : decode cX2_readNumber 31 = .ok (.goto 9, 3) := by decide +kernel
theorem dX2_readNumber_34 : decode cX2_readNumber 34 = .ok (.bipush 10, 2) := by decide +kernel
theorem dX2_readNumber_36 : decode cX2_readNumber 36 = .ok (.iload_n 1, 1) := by decide +kernel
theorem dX2_readNumber_37 : decode cX2_readNumber 37 = .ok (.imul, 1) := by decide +kernel
theorem dX2_readNumber_38 : decode cX2_readNumber 38 = .ok (.iload_n 2, 1) := by decide +kernel
theorem dX2_readNumber_39 : decode cX2_readNumber 39 = .ok (.iadd, 1) := by decide +kernel
theorem dX2_readNumber_40 : decode cX2_readNumber 40 = .ok (.ireturn, 1) := by decide +kernel
theorem dX2_take_0 : decode cX2_take 0 = .ok (.aload_n 0, 1) := by decide +kernel
theorem dX2_take_1 : decode cX2_take 1 = .ok (.aload_n 1, 1) := by decide +kernel
theorem dX2_take_2 : decode cX2_take 2 = .ok (.invokevirtual 125, 3) := by decide +kernel
theorem dX2_take_5 : decode cX2_take 5 = .ok (.iconst (-1), 1) := by decide +kernel
theorem dX2_take_6 : decode cX2_take 6 = .ok (.if_icmp .eq 7, 3) := by decide +kernel
theorem dX2_take_9 : decode cX2_take 9 = .ok (.iconst 1, 1) := by decide +kernel
theorem dX2_take_10 : decode cX2_take 10 = .ok (.goto 4, 3) := by decide +kernel
theorem dX2_take_13 : decode cX2_take 13 = .ok (.iconst 0, 1) := by decide +kernel
theorem dX2_take_14 : decode cX2_take 14 = .ok (.ireturn, 1) := by decide +kernel
theorem dX2_takeOneOf_0 : decode cX2_takeOneOf 0 = .ok (.aload_n 0, 1) := by decide +kernel
theorem dX2_takeOneOf_1 : decode cX2_takeOneOf 1 = .ok (.getfield 9, 3) := by decide +kernel
theorem dX2_takeOneOf_4 : decode cX2_takeOneOf 4 = .ok (.aload_n 0, 1) := by decide +kernel
theorem dX2_takeOneOf_5 : decode cX2_takeOneOf 5 = .ok (.getfield 15, 3) := by decide +kernel
theorem dX2_takeOneOf_8 : decode cX2_takeOneOf 8 = .ok (.getfield 32, 3) := by decide +kernel
theorem dX2_takeOneOf_11 : decode cX2_takeOneOf 11 = .ok (.if_icmp .lt 5, 3) := by decide +kernel
theorem dX2_takeOneOf_14 : decode cX2_takeOneOf 14 = .ok (.iconst (-1), 1) := by decide +kernel
theorem dX2_takeOneOf_15 : decode cX2_takeOneOf 15 = .ok (.ireturn, 1) := by decide +kernel
theorem dX2_takeOneOf_16 : decode cX2_takeOneOf 16 = .ok (.aload_n 1, 1) := by decide +kernel
theorem dX2_takeOneOf_17 : decode cX2_takeOneOf 17 = .ok (.aload_n 0, 1) := by decide +kernel
theorem dX2_takeOneOf_18 : decode cX2_takeOneOf 18 = .ok (.getfield 15, 3) := by decide +kernel
theorem dX2_takeOneOf_21 : decode cX2_takeOneOf 21 = .ok (.getfield 92, 3) := by decide +kernel
theorem dX2_takeOneOf_24 : decode cX2_takeOneOf 24 = .ok (.aload_n 0, 1) := by decide +kernel
theorem dX2_takeOneOf_25 : decode cX2_takeOneOf 25 = .ok (.getfield 9, 3) := by decide +kernel
theorem dX2_takeOneOf_28 : decode cX2_takeOneOf 28 = .ok (.baload, 1) := by decide +kernel
theorem dX2_takeOneOf_29 : decode cX2_takeOneOf 29 = .ok (.sipush 255, 3) := by decide +kernel
theorem dX2_takeOneOf_32 : decode cX2_takeOneOf 32 = .ok (.iand, 1) := by decide +kernel
theorem dX2_takeOneOf_33 : decode cX2_takeOneOf 33 = .ok (.i2c, 1) := by decide +kernel
theorem dX2_takeOneOf_34 : decode cX2_takeOneOf 34 = .ok (.invokevirtual 136, 3) := by decide +kernel
theorem dX2_takeOneOf_37 : decode cX2_takeOneOf 37 = .ok (.istore_n 2, 1) := by decide +kernel
theorem dX2_takeOneOf_38 : decode cX2_takeOneOf 38 = .ok (.iload_n 2, 1) := by decide +kernel
theorem dX2_takeOneOf_39 : decode cX2_takeOneOf 39 = .ok (.ifCond .ge 5, 3) := by decide +kernel
theorem dX2_takeOneOf_42 : decode cX2_takeOneOf 42 = .ok (.iconst (-1), 1) := by decide +kernel
theorem dX2_takeOneOf_43 : decode cX2_takeOneOf 43 = .ok (.ireturn, 1) := by decide +kernel
theorem dX2_takeOneOf_44 : decode cX2_takeOneOf 44 = .ok (.aload_n 0, 1) := by decide +kernel
theorem dX2_takeOneOf_45 : decode cX2_takeOneOf 45 = .ok (.dup, 1) := by decide +kernel
theorem dX2_takeOneOf_46 : decode cX2_takeOneOf 46 = .ok (.getfield 9, 3) := by decide +kernel
theorem dX2_takeOneOf_49 : decode cX2_takeOneOf 49 = .ok (.iconst 1, 1) := by decide +kernel
theorem dX2_takeOneOf_50 : decode cX2_takeOneOf 50 = .ok (.iadd, 1) := by decide +kernel
theorem dX2_takeOneOf_51 : decode cX2_takeOneOf 51 = .ok (.putfield 9, 3) := by decide +kernel
theorem dX2_takeOneOf_54 : decode cX2_takeOneOf 54 = .ok (.iload_n 2, 1) := by decide +kernel
theorem dX2_takeOneOf_55 : decode cX2_takeOneOf 55 = .ok (.ireturn, 1) := by decide +kernel
theorem dX3_init_0 : decode cX3_init 0 = .ok (.aload_n 0, 1) := by decide +kernel
theorem dX3_init_1 : decode cX3_init 1 = .ok (.invokespecial 3, 3) := by decide +kernel
theorem dX3_init_4 : decode cX3_init 4 = .ok (.aload_n 0, 1) := by decide +kernel
theorem dX3_init_5 : decode cX3_init 5 = .ok (.iconst 3, 1) := by decide +kernel
theorem dX3_init_6 : decode cX3_init 6 = .ok (.putfield 9, 3) := by decide +kernel
theorem dX3_init_9 : decode cX3_init 9 = .ok (.aload_n 0, 1) := by decide +kernel
theorem dX3_init_10 : decode cX3_init 10 = .ok (.bipush 50, 2) := by decide +kernel
theorem dX3_init_12 : decode cX3_init 12 = .ok (.putfield 15, 3) := by decide +kernel
theorem dX3_init_15 : decode cX3_init 15 = .ok (.aload_n 0, 1) := by decide +kernel
theorem dX3_init_16 : decode cX3_init 16 = .ok (.iconst 2, 1) := by decide +kernel
theorem dX3_init_17 : decode cX3_init 17 = .ok (.putfield 18, 3) := by decide +kernel
theorem dX3_init_20 : decode cX3_init 20 = .ok (.aload_n 0, 1) := by decide +kernel
theorem dX3_init_21 : decode cX3_init 21 = .ok (.iconst 0, 1) := by decide +kernel
theorem dX3_init_22 : decode cX3_init 22 = .ok (.putfield 21, 3) := by decide +kernel
theorem dX3_init_25 : decode cX3_init 25 = .ok (.aload_n 0, 1) := by decide +kernel
theorem dX3_init_26 : decode cX3_init 26 = .ok (.bipush 10, 2) := by decide +kernel
theorem dX3_init_28 : decode cX3_init 28 = .ok (.newarray .int, 2) := by decide +kernel
theorem dX3_init_30 : decode cX3_init 30 = .ok (.putfield 24, 3) := by decide +kernel
theorem dX3_init_33 : decode cX3_init 33 = .ok (.aload_n 0, 1) := by decide +kernel
theorem dX3_init_34 : decode cX3_init 34 = .ok (.bipush 10, 2) := by decide +kernel
theorem dX3_init_36 : decode cX3_init 36 = .ok (.newarray .int, 2) := by decide +kernel
theorem dX3_init_38 : decode cX3_init 38 = .ok (.putfield 28, 3) := by decide +kernel
theorem dX3_init_41 : decode cX3_init 41 = .ok (.aload_n 0, 1) := by decide +kernel
theorem dX3_init_42 : decode cX3_init 42 = .ok (.bipush 10, 2) := by decide +kernel
theorem dX3_init_44 : decode cX3_init 44 = .ok (.newarray .int, 2) := by decide +kernel
theorem dX3_init_46 : decode cX3_init 46 = .ok (.putfield 31, 3) := by decide +kernel
theorem dX3_init_49 : decode cX3_init 49 = .ok (.aload_n 0, 1) := by decide +kernel
theorem dX3_init_50 : decode cX3_init 50 = .ok (.bipush 10, 2) := by decide +kernel
theorem dX3_init_52 : decode cX3_init 52 = .ok (.newarray .int, 2) := by decide +kernel
theorem dX3_init_54 : decode cX3_init 54 = .ok (.putfield 34, 3) := by decide +kernel
theorem dX3_init_57 : decode cX3_init 57 = .ok (.aload_n 0, 1) := by decide +kernel
theorem dX3_init_58 : decode cX3_init 58 = .ok (.iconst 0, 1) := by decide +kernel
theorem dX3_init_59 : decode cX3_init 59 = .ok (.putfield 37, 3) := by decide +kernel
theorem dX3_init_62 : decode cX3_init 62 = .ok (.aload_n 0, 1) := by decide +kernel
theorem dX3_init_63 : decode cX3_init 63 = .ok (.bipush 120, 2) := by decide +kernel
theorem dX3_init_65 : decode cX3_init 65 = .ok (.newarray .int, 2) := by decide +kernel
theorem dX3_init_67 : decode cX3_init 67 = .ok (.putfield 40, 3) := by decide +kernel
theorem dX3_init_70 : decode cX3_init 70 = .ok (.return_, 1) := by decide +kernel
theorem dX3_clear_0 : decode cX3_clear 0 = .ok (.aload_n 0, 1) := by decide +kernel
theorem dX3_clear_1 : decode cX3_clear 1 = .ok (.iconst 3, 1) := by decide +kernel
theorem dX3_clear_2 : decode cX3_clear 2 = .ok (.putfield 9, 3) := by decide +kernel
theorem dX3_clear_5 : decode cX3_clear 5 = .ok (.aload_n 0, 1) := by decide +kernel
theorem dX3_clear_6 : decode cX3_clear 6 = .ok (.bipush 50, 2) := by decide +kernel
theorem dX3_clear_8 : decode cX3_clear 8 = .ok (.putfield 15, 3) := by decide +kernel
theorem dX3_clear_11 : decode cX3_clear 11 = .ok (.aload_n 0, 1) := by decide +kernel
theorem dX3_clear_12 : decode cX3_clear 12 = .ok (.iconst 2, 1) := by decide +kernel
theorem dX3_clear_13 : decode cX3_clear 13 = .ok (.putfield 18, 3) := by decide +kernel
theorem dX3_clear_16 : decode cX3_clear 16 = .ok (.aload_n 0, 1) := by decide +kernel
theorem dX3_clear_17 : decode cX3_clear 17 = .ok (.iconst 0, 1) := by decide +kernel
theorem dX3_clear_18 : decode cX3_clear 18 = .ok (.putfield 21, 3) := by decide +kernel
theorem dX3_clear_21 : decode cX3_clear 21 = .ok (.aload_n 0, 1) := by decide +kernel
theorem dX3_clear_22 : decode cX3_clear 22 = .ok (.iconst 0, 1) := by decide +kernel
theorem dX3_clear_23 : decode cX3_clear 23 = .ok (.putfield 37, 3) := by decide +kernel
theorem dX3_clear_26 : decode cX3_clear 26 = .ok (.return_, 1) := by decide +kernel
theorem dX3_write_0 : decode cX3_write 0 = .ok (.aload_n 0, 1) := by decide +kernel
theorem dX3_write_1 : decode cX3_write 1 = .ok (.getfield 37, 3) := by decide +kernel
theorem dX3_write_4 : decode cX3_write 4 = .ok (.bipush 120, 2) := by decide +kernel
theorem dX3_write_6 : decode cX3_write 6 = .ok (.if_icmp .ge 23, 3) := by decide +kernel
theorem dX3_write_9 : decode cX3_write 9 = .ok (.aload_n 0, 1) := by decide +kernel
theorem dX3_write_10 : decode cX3_write 10 = .ok (.getfield 40, 3) := by decide +kernel
theorem dX3_write_13 : decode cX3_write 13 = .ok (.aload_n 0, 1) := by decide +kernel
theorem dX3_write_14 : decode cX3_write 14 = .ok (.getfield 37, 3) := by decide +kernel
theorem dX3_write_17 : decode cX3_write 17 = .ok (.iload_n 1, 1) := by decide +kernel
theorem dX3_write_18 : decode cX3_write 18 = .ok (.iastore, 1) := by decide +kernel
theorem dX3_write_19 : decode cX3_write 19 = .ok (.aload_n 0, 1) := by decide +kernel
theorem dX3_write_20 : decode cX3_write 20 = .ok (.dup, 1) := by decide +kernel
theorem dX3_write_21 : decode cX3_write 21 = .ok (.getfield 37, 3) := by decide +kernel
theorem dX3_write_24 : decode cX3_write 24 = .ok (.iconst 1, 1) := by decide +kernel
theorem dX3_write_25 : decode cX3_write 25 = .ok (.iadd, 1) := by decide +kernel
theorem dX3_write_26 : decode cX3_write 26 = .ok (.putfield 37, 3) := by decide +kernel
theorem dX3_write_29 : decode cX3_write 29 = .ok (.return_, 1) := by decide +kernel
theorem dX3_addClause_0 : decode cX3_addClause 0 = .ok (.iload_n 1, 1) := by decide +kernel
theorem dX3_addClause_1 : decode cX3_addClause 1 = .ok (.tableswitch 59 2 4 #[27, 35, 47], 27) := by decide +kernel
theorem dX3_addClause_28 : decode cX3_addClause 28 = .ok (.aload_n 0, 1) := by decide +kernel
theorem dX3_addClause_29 : decode cX3_addClause 29 = .ok (.iload_n 2, 1) := by decide +kernel
theorem dX3_addClause_30 : decode cX3_addClause 30 = .ok (.putfield 9, 3) := by decide +kernel
theorem dX3_addClause_33 : decode cX3_addClause 33 = .ok (.goto 27, 3) := by decide +kernel
theorem dX3_addClause_36 : decode cX3_addClause 36 = .ok (.aload_n 0, 1) := by decide +kernel
theorem dX3_addClause_37 : decode cX3_addClause 37 = .ok (.iconst 1, 1) := by decide +kernel
theorem dX3_addClause_38 : decode cX3_addClause 38 = .ok (.iload_n 2, 1) := by decide +kernel
theorem dX3_addClause_39 : decode cX3_addClause 39 = .ok (.invokestatic 43, 3) := by decide +kernel
theorem dX3_addClause_42 : decode cX3_addClause 42 = .ok (.putfield 15, 3) := by decide +kernel
theorem dX3_addClause_45 : decode cX3_addClause 45 = .ok (.goto 15, 3) := by decide +kernel
theorem dX3_addClause_48 : decode cX3_addClause 48 = .ok (.aload_n 0, 1) := by decide +kernel
theorem dX3_addClause_49 : decode cX3_addClause 49 = .ok (.iconst 1, 1) := by decide +kernel
theorem dX3_addClause_50 : decode cX3_addClause 50 = .ok (.iload_n 2, 1) := by decide +kernel
theorem dX3_addClause_51 : decode cX3_addClause 51 = .ok (.invokestatic 43, 3) := by decide +kernel
theorem dX3_addClause_54 : decode cX3_addClause 54 = .ok (.putfield 18, 3) := by decide +kernel
theorem dX3_addClause_57 : decode cX3_addClause 57 = .ok (.goto 3, 3) := by decide +kernel
theorem dX3_addClause_60 : decode cX3_addClause 60 = .ok (.aload_n 0, 1) := by decide +kernel
theorem dX3_addClause_61 : decode cX3_addClause 61 = .ok (.getfield 21, 3) := by decide +kernel
theorem dX3_addClause_64 : decode cX3_addClause 64 = .ok (.bipush 10, 2) := by decide +kernel
theorem dX3_addClause_66 : decode cX3_addClause 66 = .ok (.if_icmp .ge 56, 3) := by decide +kernel
theorem dX3_addClause_69 : decode cX3_addClause 69 = .ok (.aload_n 0, 1) := by decide +kernel
theorem dX3_addClause_70 : decode cX3_addClause 70 = .ok (.getfield 24, 3) := by decide +kernel
theorem dX3_addClause_73 : decode cX3_addClause 73 = .ok (.aload_n 0, 1) := by decide +kernel
theorem dX3_addClause_74 : decode cX3_addClause 74 = .ok (.getfield 21, 3) := by decide +kernel
theorem dX3_addClause_77 : decode cX3_addClause 77 = .ok (.iload_n 1, 1) := by decide +kernel
theorem dX3_addClause_78 : decode cX3_addClause 78 = .ok (.iastore, 1) := by decide +kernel
theorem dX3_addClause_79 : decode cX3_addClause 79 = .ok (.aload_n 0, 1) := by decide +kernel
theorem dX3_addClause_80 : decode cX3_addClause 80 = .ok (.getfield 28, 3) := by decide +kernel
theorem dX3_addClause_83 : decode cX3_addClause 83 = .ok (.aload_n 0, 1) := by decide +kernel
theorem dX3_addClause_84 : decode cX3_addClause 84 = .ok (.getfield 21, 3) := by decide +kernel
theorem dX3_addClause_87 : decode cX3_addClause 87 = .ok (.iload_n 2, 1) := by decide +kernel
theorem dX3_addClause_88 : decode cX3_addClause 88 = .ok (.iastore, 1) := by decide +kernel
theorem dX3_addClause_89 : decode cX3_addClause 89 = .ok (.aload_n 0, 1) := by decide +kernel
theorem dX3_addClause_90 : decode cX3_addClause 90 = .ok (.getfield 31, 3) := by decide +kernel
theorem dX3_addClause_93 : decode cX3_addClause 93 = .ok (.aload_n 0, 1) := by decide +kernel
theorem dX3_addClause_94 : decode cX3_addClause 94 = .ok (.getfield 21, 3) := by decide +kernel
theorem dX3_addClause_97 : decode cX3_addClause 97 = .ok (.iload_n 3, 1) := by decide +kernel
theorem dX3_addClause_98 : decode cX3_addClause 98 = .ok (.iastore, 1) := by decide +kernel
theorem dX3_addClause_99 : decode cX3_addClause 99 = .ok (.aload_n 0, 1) := by decide +kernel
theorem dX3_addClause_100 : decode cX3_addClause 100 = .ok (.getfield 34, 3) := by decide +kernel
theorem dX3_addClause_103 : decode cX3_addClause 103 = .ok (.aload_n 0, 1) := by decide +kernel
theorem dX3_addClause_104 : decode cX3_addClause 104 = .ok (.getfield 21, 3) := by decide +kernel
theorem dX3_addClause_107 : decode cX3_addClause 107 = .ok (.aload_n 0, 1) := by decide +kernel
theorem dX3_addClause_108 : decode cX3_addClause 108 = .ok (.getfield 37, 3) := by decide +kernel
theorem dX3_addClause_111 : decode cX3_addClause 111 = .ok (.iastore, 1) := by decide +kernel
theorem dX3_addClause_112 : decode cX3_addClause 112 = .ok (.aload_n 0, 1) := by decide +kernel
theorem dX3_addClause_113 : decode cX3_addClause 113 = .ok (.dup, 1) := by decide +kernel
theorem dX3_addClause_114 : decode cX3_addClause 114 = .ok (.getfield 21, 3) := by decide +kernel
theorem dX3_addClause_117 : decode cX3_addClause 117 = .ok (.iconst 1, 1) := by decide +kernel
theorem dX3_addClause_118 : decode cX3_addClause 118 = .ok (.iadd, 1) := by decide +kernel
theorem dX3_addClause_119 : decode cX3_addClause 119 = .ok (.putfield 21, 3) := by decide +kernel
theorem dX3_addClause_122 : decode cX3_addClause 122 = .ok (.return_, 1) := by decide +kernel
theorem dX3_sumOf_0 : decode cX3_sumOf 0 = .ok (.iconst 0, 1) := by decide +kernel
theorem dX3_sumOf_1 : decode cX3_sumOf 1 = .ok (.istore_n 3, 1) := by decide +kernel
theorem dX3_sumOf_2 : decode cX3_sumOf 2 = .ok (.iconst 0, 1) := by decide +kernel
theorem dX3_sumOf_3 : decode cX3_sumOf 3 = .ok (.istore 4, 2) := by decide +kernel
theorem dX3_sumOf_5 : decode cX3_sumOf 5 = .ok (.iload 4, 2) := by decide +kernel
theorem dX3_sumOf_7 : decode cX3_sumOf 7 = .ok (.aload_n 0, 1) := by decide +kernel
theorem dX3_sumOf_8 : decode cX3_sumOf 8 = .ok (.getfield 21, 3) := by decide +kernel
theorem dX3_sumOf_11 : decode cX3_sumOf 11 = .ok (.if_icmp .ge 52, 3) := by decide +kernel
theorem dX3_sumOf_14 : decode cX3_sumOf 14 = .ok (.aload_n 0, 1) := by decide +kernel
theorem dX3_sumOf_15 : decode cX3_sumOf 15 = .ok (.getfield 24, 3) := by decide +kernel
theorem dX3_sumOf_18 : decode cX3_sumOf 18 = .ok (.iload 4, 2) := by decide +kernel
theorem dX3_sumOf_20 : decode cX3_sumOf 20 = .ok (.iaload, 1) := by decide +kernel
theorem dX3_sumOf_21 : decode cX3_sumOf 21 = .ok (.iload_n 1, 1) := by decide +kernel
theorem dX3_sumOf_22 : decode cX3_sumOf 22 = .ok (.if_icmp .ne 35, 3) := by decide +kernel
theorem dX3_sumOf_25 : decode cX3_sumOf 25 = .ok (.aload_n 0, 1) := by decide +kernel
theorem dX3_sumOf_26 : decode cX3_sumOf 26 = .ok (.aload_n 0, 1) := by decide +kernel
theorem dX3_sumOf_27 : decode cX3_sumOf 27 = .ok (.getfield 31, 3) := by decide +kernel
theorem dX3_sumOf_30 : decode cX3_sumOf 30 = .ok (.iload 4, 2) := by decide +kernel
theorem dX3_sumOf_32 : decode cX3_sumOf 32 = .ok (.iaload, 1) := by decide +kernel
theorem dX3_sumOf_33 : decode cX3_sumOf 33 = .ok (.aload_n 0, 1) := by decide +kernel
theorem dX3_sumOf_34 : decode cX3_sumOf 34 = .ok (.getfield 34, 3) := by decide +kernel
theorem dX3_sumOf_37 : decode cX3_sumOf 37 = .ok (.iload 4, 2) := by decide +kernel
theorem dX3_sumOf_39 : decode cX3_sumOf 39 = .ok (.iaload, 1) := by decide +kernel
theorem dX3_sumOf_40 : decode cX3_sumOf 40 = .ok (.aload_n 2, 1) := by decide +kernel
theorem dX3_sumOf_41 : decode cX3_sumOf 41 = .ok (.invokevirtual 49, 3) := by decide +kernel
theorem dX3_sumOf_44 : decode cX3_sumOf 44 = .ok (.ifCond .eq 13, 3) := by decide +kernel
theorem dX3_sumOf_47 : decode cX3_sumOf 47 = .ok (.iload_n 3, 1) := by decide +kernel
theorem dX3_sumOf_48 : decode cX3_sumOf 48 = .ok (.aload_n 0, 1) := by decide +kernel
theorem dX3_sumOf_49 : decode cX3_sumOf 49 = .ok (.getfield 28, 3) := by decide +kernel
theorem dX3_sumOf_52 : decode cX3_sumOf 52 = .ok (.iload 4, 2) := by decide +kernel
theorem dX3_sumOf_54 : decode cX3_sumOf 54 = .ok (.iaload, 1) := by decide +kernel
theorem dX3_sumOf_55 : decode cX3_sumOf 55 = .ok (.iadd, 1) := by decide +kernel
theorem dX3_sumOf_56 : decode cX3_sumOf 56 = .ok (.istore_n 3, 1) := by decide +kernel
theorem dX3_sumOf_57 : decode cX3_sumOf 57 = .ok (.iinc 4 1, 3) := by decide +kernel
theorem dX3_sumOf_60 : decode cX3_sumOf 60 = .ok (.goto (-55), 3) := by decide +kernel
theorem dX3_sumOf_63 : decode cX3_sumOf 63 = .ok (.iload_n 3, 1) := by decide +kernel
theorem dX3_sumOf_64 : decode cX3_sumOf 64 = .ok (.ireturn, 1) := by decide +kernel
theorem dX3_holds_0 : decode cX3_holds 0 = .ok (.iconst 0, 1) := by decide +kernel
theorem dX3_holds_1 : decode cX3_holds 1 = .ok (.istore 4, 2) := by decide +kernel
theorem dX3_holds_3 : decode cX3_holds 3 = .ok (.iload_n 1, 1) := by decide +kernel
theorem dX3_holds_4 : decode cX3_holds 4 = .ok (.istore 5, 2) := by decide +kernel
theorem dX3_holds_6 : decode cX3_holds 6 = .ok (.iload 5, 2) := by decide +kernel
theorem dX3_holds_8 : decode cX3_holds 8 = .ok (.iload_n 2, 1) := by decide +kernel
theorem dX3_holds_9 : decode cX3_holds 9 = .ok (.if_icmp .ge 111, 3) := by decide +kernel
theorem dX3_holds_12 : decode cX3_holds 12 = .ok (.iload 4, 2) := by decide +kernel
theorem dX3_holds_14 : decode cX3_holds 14 = .ok (.iconst 1, 1) := by decide +kernel
theorem dX3_holds_15 : decode cX3_holds 15 = .ok (.iand, 1) := by decide +kernel
theorem dX3_holds_16 : decode cX3_holds 16 = .ok (.istore 6, 2) := by decide +kernel
theorem dX3_holds_18 : decode cX3_holds 18 = .ok (.aload_n 0, 1) := by decide +kernel
theorem dX3_holds_19 : decode cX3_holds 19 = .ok (.getfield 40, 3) := by decide +kernel
theorem dX3_holds_22 : decode cX3_holds 22 = .ok (.iload 5, 2) := by decide +kernel
theorem dX3_holds_24 : decode cX3_holds 24 = .ok (.iaload, 1) := by decide +kernel
theorem dX3_holds_25 : decode cX3_holds 25 = .ok (.tableswitch 63 (-3) (-1) #[51, 36, 27], 27) := by decide +kernel
theorem dX3_holds_52 : decode cX3_holds 52 = .ok (.iload 4, 2) := by decide +kernel
theorem dX3_holds_54 : decode cX3_holds 54 = .ok (.iconst 1, 1) := by decide +kernel
theorem dX3_holds_55 : decode cX3_holds 55 = .ok (.ixor, 1) := by decide +kernel
theorem dX3_holds_56 : decode cX3_holds 56 = .ok (.istore 4, 2) := by decide +kernel
theorem dX3_holds_58 : decode cX3_holds 58 = .ok (.goto 56, 3) := by decide +kernel
theorem dX3_holds_61 : decode cX3_holds 61 = .ok (.iload 4, 2) := by decide +kernel
theorem dX3_holds_63 : decode cX3_holds 63 = .ok (.iconst 1, 1) := by decide +kernel
theorem dX3_holds_64 : decode cX3_holds 64 = .ok (.iushr, 1) := by decide +kernel
theorem dX3_holds_65 : decode cX3_holds 65 = .ok (.iload 6, 2) := by decide +kernel
theorem dX3_holds_67 : decode cX3_holds 67 = .ok (.bipush (-2), 2) := by decide +kernel
theorem dX3_holds_69 : decode cX3_holds 69 = .ok (.ior, 1) := by decide +kernel
theorem dX3_holds_70 : decode cX3_holds 70 = .ok (.iand, 1) := by decide +kernel
theorem dX3_holds_71 : decode cX3_holds 71 = .ok (.istore 4, 2) := by decide +kernel
theorem dX3_holds_73 : decode cX3_holds 73 = .ok (.goto 41, 3) := by decide +kernel
theorem dX3_holds_76 : decode cX3_holds 76 = .ok (.iload 4, 2) := by decide +kernel
theorem dX3_holds_78 : decode cX3_holds 78 = .ok (.iconst 1, 1) := by decide +kernel
theorem dX3_holds_79 : decode cX3_holds 79 = .ok (.iushr, 1) := by decide +kernel
theorem dX3_holds_80 : decode cX3_holds 80 = .ok (.iload 6, 2) := by decide +kernel
theorem dX3_holds_82 : decode cX3_holds 82 = .ok (.ior, 1) := by decide +kernel
theorem dX3_holds_83 : decode cX3_holds 83 = .ok (.istore 4, 2) := by decide +kernel
theorem dX3_holds_85 : decode cX3_holds 85 = .ok (.goto 29, 3) := by decide +kernel
theorem dX3_holds_88 : decode cX3_holds 88 = .ok (.iload 4, 2) := by decide +kernel
theorem dX3_holds_90 : decode cX3_holds 90 = .ok (.iconst 1, 1) := by decide +kernel
theorem dX3_holds_91 : decode cX3_holds 91 = .ok (.ishl, 1) := by decide +kernel
theorem dX3_holds_92 : decode cX3_holds 92 = .ok (.aload_n 0, 1) := by decide +kernel
theorem dX3_holds_93 : decode cX3_holds 93 = .ok (.getfield 40, 3) := by decide +kernel
theorem dX3_holds_96 : decode cX3_holds 96 = .ok (.iload 5, 2) := by decide +kernel
theorem dX3_holds_98 : decode cX3_holds 98 = .ok (.iaload, 1) := by decide +kernel
theorem dX3_holds_99 : decode cX3_holds 99 = .ok (.aload_n 3, 1) := by decide +kernel
theorem dX3_holds_100 : decode cX3_holds 100 = .ok (.invokestatic 53, 3) := by decide +kernel
theorem dX3_holds_103 : decode cX3_holds 103 = .ok (.ifCond .eq 7, 3) := by decide +kernel
theorem dX3_holds_106 : decode cX3_holds 106 = .ok (.iconst 1, 1) := by decide +kernel
theorem dX3_holds_107 : decode cX3_holds 107 = .ok (.goto 4, 3) := by decide +kernel
theorem dX3_holds_110 : decode cX3_holds 110 = .ok (.iconst 0, 1) := by decide +kernel
theorem dX3_holds_111 : decode cX3_holds 111 = .ok (.ior, 1) := by decide +kernel
theorem dX3_holds_112 : decode cX3_holds 112 = .ok (.istore 4, 2) := by decide +kernel
theorem dX3_holds_114 : decode cX3_holds 114 = .ok (.iinc 5 1, 3) := by decide +kernel
theorem dX3_holds_117 : decode cX3_holds 117 = .ok (.goto (-111), 3) := by decide +kernel
theorem dX3_holds_120 : decode cX3_holds 120 = .ok (.iload 4, 2) := by decide +kernel
theorem dX3_holds_122 : decode cX3_holds 122 = .ok (.iconst 1, 1) := by decide +kernel
theorem dX3_holds_123 : decode cX3_holds 123 = .ok (.iand, 1) := by decide +kernel
theorem dX3_holds_124 : decode cX3_holds 124 = .ok (.iconst 1, 1) := by decide +kernel
theorem dX3_holds_125 : decode cX3_holds 125 = .ok (.if_icmp .ne 7, 3) := by decide +kernel
theorem dX3_holds_128 : decode cX3_holds 128 = .ok (.iconst 1, 1) := by decide +kernel
theorem dX3_holds_129 : decode cX3_holds 129 = .ok (.goto 4, 3) := by decide +kernel
theorem dX3_holds_132 : decode cX3_holds 132 = .ok (.iconst 0, 1) := by decide +kernel
theorem dX3_holds_133 : decode cX3_holds 133 = .ok (.ireturn, 1) := by decide +kernel
theorem dX3_codeOfTest_0 : decode cX3_codeOfTest 0 = .ok (.iload_n 0, 1) := by decide +kernel
theorem dX3_codeOfTest_1 : decode cX3_codeOfTest 1 = .ok (.iconst 3, 1) := by decide +kernel
theorem dX3_codeOfTest_2 : decode cX3_codeOfTest 2 = .ok (.imul, 1) := by decide +kernel
theorem dX3_codeOfTest_3 : decode cX3_codeOfTest 3 = .ok (.iload_n 1, 1) := by decide +kernel
theorem dX3_codeOfTest_4 : decode cX3_codeOfTest 4 = .ok (.iadd, 1) := by decide +kernel
theorem dX3_codeOfTest_5 : decode cX3_codeOfTest 5 = .ok (.bipush 100, 2) := by decide +kernel
theorem dX3_codeOfTest_7 : decode cX3_codeOfTest 7 = .ok (.imul, 1) := by decide +kernel
theorem dX3_codeOfTest_8 : decode cX3_codeOfTest 8 = .ok (.iload_n 2, 1) := by decide +kernel
theorem dX3_codeOfTest_9 : decode cX3_codeOfTest 9 = .ok (.iadd, 1) := by decide +kernel
theorem dX3_codeOfTest_10 : decode cX3_codeOfTest 10 = .ok (.ireturn, 1) := by decide +kernel
theorem dX3_passes_0 : decode cX3_passes 0 = .ok (.iload_n 0, 1) := by decide +kernel
theorem dX3_passes_1 : decode cX3_passes 1 = .ok (.bipush 100, 2) := by decide +kernel
theorem dX3_passes_3 : decode cX3_passes 3 = .ok (.irem, 1) := by decide +kernel
theorem dX3_passes_4 : decode cX3_passes 4 = .ok (.istore_n 2, 1) := by decide +kernel
theorem dX3_passes_5 : decode cX3_passes 5 = .ok (.iload_n 0, 1) := by decide +kernel
theorem dX3_passes_6 : decode cX3_passes 6 = .ok (.bipush 100, 2) := by decide +kernel
theorem dX3_passes_8 : decode cX3_passes 8 = .ok (.idiv, 1) := by decide +kernel
theorem dX3_passes_9 : decode cX3_passes 9 = .ok (.iconst 3, 1) := by decide +kernel
theorem dX3_passes_10 : decode cX3_passes 10 = .ok (.irem, 1) := by decide +kernel
theorem dX3_passes_11 : decode cX3_passes 11 = .ok (.istore_n 3, 1) := by decide +kernel
theorem dX3_passes_12 : decode cX3_passes 12 = .ok (.iload_n 0, 1) := by decide +kernel
theorem dX3_passes_13 : decode cX3_passes 13 = .ok (.bipush 100, 2) := by decide +kernel
theorem dX3_passes_15 : decode cX3_passes 15 = .ok (.idiv, 1) := by decide +kernel
theorem dX3_passes_16 : decode cX3_passes 16 = .ok (.iconst 3, 1) := by decide +kernel
theorem dX3_passes_17 : decode cX3_passes 17 = .ok (.idiv, 1) := by decide +kernel
theorem dX3_passes_18 : decode cX3_passes 18 = .ok (.istore 4, 2) := by decide +kernel
theorem dX3_passes_20 : decode cX3_passes 20 = .ok (.iload 4, 2) := by decide +kernel
theorem dX3_passes_22 : decode cX3_passes 22 = .ok (.ifCond .lt 17, 3) := by decide +kernel
theorem dX3_passes_25 : decode cX3_passes 25 = .ok (.iload 4, 2) := by decide +kernel
theorem dX3_passes_27 : decode cX3_passes 27 = .ok (.aload_n 1, 1) := by decide +kernel
theorem dX3_passes_28 : decode cX3_passes 28 = .ok (.arraylength, 1) := by decide +kernel
theorem dX3_passes_29 : decode cX3_passes 29 = .ok (.if_icmp .ge 10, 3) := by decide +kernel
theorem dX3_passes_32 : decode cX3_passes 32 = .ok (.aload_n 1, 1) := by decide +kernel
theorem dX3_passes_33 : decode cX3_passes 33 = .ok (.iload 4, 2) := by decide +kernel
theorem dX3_passes_35 : decode cX3_passes 35 = .ok (.iaload, 1) := by decide +kernel
theorem dX3_passes_36 : decode cX3_passes 36 = .ok (.goto 4, 3) := by decide +kernel
theorem dX3_passes_39 : decode cX3_passes 39 = .ok (.iconst 0, 1) := by decide +kernel
theorem dX3_passes_40 : decode cX3_passes 40 = .ok (.istore 5, 2) := by decide +kernel
theorem dX3_passes_42 : decode cX3_passes 42 = .ok (.iload_n 3, 1) := by decide +kernel
theorem dX3_passes_43 : decode cX3_passes 43 = .ok (.lookupswitch 49 #[(0, 25), (1, 37)], 25) := by decide +kernel
theorem dX3_passes_68 : decode cX3_passes 68 = .ok (.iload 5, 2) := by decide +kernel
theorem dX3_passes_70 : decode cX3_passes 70 = .ok (.iload_n 2, 1) := by decide +kernel
theorem dX3_passes_71 : decode cX3_passes 71 = .ok (.if_icmp .ge 7, 3) := by decide +kernel
theorem dX3_passes_74 : decode cX3_passes 74 = .ok (.iconst 1, 1) := by decide +kernel
theorem dX3_passes_75 : decode cX3_passes 75 = .ok (.goto 4, 3) := by decide +kernel
theorem dX3_passes_78 : decode cX3_passes 78 = .ok (.iconst 0, 1) := by decide +kernel
theorem dX3_passes_79 : decode cX3_passes 79 = .ok (.ireturn, 1) := by decide +kernel
theorem dX3_passes_80 : decode cX3_passes 80 = .ok (.iload 5, 2) := by decide +kernel
theorem dX3_passes_82 : decode cX3_passes 82 = .ok (.iload_n 2, 1) := by decide +kernel
theorem dX3_passes_83 : decode cX3_passes 83 = .ok (.if_icmp .ne 7, 3) := by decide +kernel
theorem dX3_passes_86 : decode cX3_passes 86 = .ok (.iconst 1, 1) := by decide +kernel
theorem dX3_passes_87 : decode cX3_passes 87 = .ok (.goto 4, 3) := by decide +kernel
theorem dX3_passes_90 : decode cX3_passes 90 = .ok (.iconst 0, 1) := by decide +kernel
theorem dX3_passes_91 : decode cX3_passes 91 = .ok (.ireturn, 1) := by decide +kernel
theorem dX3_passes_92 : decode cX3_passes 92 = .ok (.iload 5, 2) := by decide +kernel
theorem dX3_passes_94 : decode cX3_passes 94 = .ok (.iload_n 2, 1) := by decide +kernel
theorem dX3_passes_95 : decode cX3_passes 95 = .ok (.if_icmp .le 7, 3) := by decide +kernel
theorem dX3_passes_98 : decode cX3_passes 98 = .ok (.iconst 1, 1) := by decide +kernel
theorem dX3_passes_99 : decode cX3_passes 99 = .ok (.goto 4, 3) := by decide +kernel
theorem dX3_passes_102 : decode cX3_passes 102 = .ok (.iconst 0, 1) := by decide +kernel
theorem dX3_passes_103 : decode cX3_passes 103 = .ok (.ireturn, 1) := by decide +kernel
theorem dX4_init_0 : decode cX4_init 0 = .ok (.aload_n 0, 1) := by decide +kernel
theorem dX4_init_1 : decode cX4_init 1 = .ok (.invokespecial 3, 3) := by decide +kernel
theorem dX4_init_4 : decode cX4_init 4 = .ok (.aload_n 0, 1) := by decide +kernel
theorem dX4_init_5 : decode cX4_init 5 = .ok (.bipush 60, 2) := by decide +kernel
theorem dX4_init_7 : decode cX4_init 7 = .ok (.putfield 9, 3) := by decide +kernel
theorem dX4_init_10 : decode cX4_init 10 = .ok (.aload_n 0, 1) := by decide +kernel
theorem dX4_init_11 : decode cX4_init 11 = .ok (.iconst (-1), 1) := by decide +kernel
theorem dX4_init_12 : decode cX4_init 12 = .ok (.putfield 15, 3) := by decide +kernel
theorem dX4_init_15 : decode cX4_init 15 = .ok (.aload_n 0, 1) := by decide +kernel
theorem dX4_init_16 : decode cX4_init 16 = .ok (.bipush 10, 2) := by decide +kernel
theorem dX4_init_18 : decode cX4_init 18 = .ok (.newarray .int, 2) := by decide +kernel
theorem dX4_init_20 : decode cX4_init 20 = .ok (.putfield 18, 3) := by decide +kernel
theorem dX4_init_23 : decode cX4_init 23 = .ok (.aload_n 0, 1) := by decide +kernel
theorem dX4_init_24 : decode cX4_init 24 = .ok (.bipush 10, 2) := by decide +kernel
theorem dX4_init_26 : decode cX4_init 26 = .ok (.newarray .int, 2) := by decide +kernel
theorem dX4_init_28 : decode cX4_init 28 = .ok (.putfield 22, 3) := by decide +kernel
theorem dX4_init_31 : decode cX4_init 31 = .ok (.aload_n 0, 1) := by decide +kernel
theorem dX4_init_32 : decode cX4_init 32 = .ok (.bipush 10, 2) := by decide +kernel
theorem dX4_init_34 : decode cX4_init 34 = .ok (.newarray .int, 2) := by decide +kernel
theorem dX4_init_36 : decode cX4_init 36 = .ok (.putfield 25, 3) := by decide +kernel
theorem dX4_init_39 : decode cX4_init 39 = .ok (.aload_n 0, 1) := by decide +kernel
theorem dX4_init_40 : decode cX4_init 40 = .ok (.bipush 10, 2) := by decide +kernel
theorem dX4_init_42 : decode cX4_init 42 = .ok (.newarray .int, 2) := by decide +kernel
theorem dX4_init_44 : decode cX4_init 44 = .ok (.putfield 28, 3) := by decide +kernel
theorem dX4_init_47 : decode cX4_init 47 = .ok (.aload_n 0, 1) := by decide +kernel
theorem dX4_init_48 : decode cX4_init 48 = .ok (.ldc 31, 2) := by decide +kernel
theorem dX4_init_50 : decode cX4_init 50 = .ok (.invokevirtual 33, 3) := by decide +kernel
theorem dX4_init_53 : decode cX4_init 53 = .ok (.newarray .int, 2) := by decide +kernel
theorem dX4_init_55 : decode cX4_init 55 = .ok (.putfield 39, 3) := by decide +kernel
theorem dX4_init_58 : decode cX4_init 58 = .ok (.aload_n 0, 1) := by decide +kernel
theorem dX4_init_59 : decode cX4_init 59 = .ok (.aload_n 1, 1) := by decide +kernel
theorem dX4_init_60 : decode cX4_init 60 = .ok (.putfield 42, 3) := by decide +kernel
theorem dX4_init_63 : decode cX4_init 63 = .ok (.aload_n 0, 1) := by decide +kernel
theorem dX4_init_64 : decode cX4_init 64 = .ok (.aload_n 2, 1) := by decide +kernel
theorem dX4_init_65 : decode cX4_init 65 = .ok (.putfield 46, 3) := by decide +kernel
theorem dX4_init_68 : decode cX4_init 68 = .ok (.return_, 1) := by decide +kernel
theorem dX4_hearAll_0 : decode cX4_hearAll 0 = .ok (.aload_n 0, 1) := by decide +kernel
theorem dX4_hearAll_1 : decode cX4_hearAll 1 = .ok (.aload_n 1, 1) := by decide +kernel
theorem dX4_hearAll_2 : decode cX4_hearAll 2 = .ok (.putfield 46, 3) := by decide +kernel
theorem dX4_hearAll_5 : decode cX4_hearAll 5 = .ok (.aload_n 0, 1) := by decide +kernel
theorem dX4_hearAll_6 : decode cX4_hearAll 6 = .ok (.aload_n 0, 1) := by decide +kernel
theorem dX4_hearAll_7 : decode cX4_hearAll 7 = .ok (.getfield 42, 3) := by decide +kernel
theorem dX4_hearAll_10 : decode cX4_hearAll 10 = .ok (.getfield 50, 3) := by decide +kernel
theorem dX4_hearAll_13 : decode cX4_hearAll 13 = .ok (.putfield 9, 3) := by decide +kernel
theorem dX4_hearAll_16 : decode cX4_hearAll 16 = .ok (.aload_n 0, 1) := by decide +kernel
theorem dX4_hearAll_17 : decode cX4_hearAll 17 = .ok (.iconst (-1), 1) := by decide +kernel
theorem dX4_hearAll_18 : decode cX4_hearAll 18 = .ok (.putfield 15, 3) := by decide +kernel
theorem dX4_hearAll_21 : decode cX4_hearAll 21 = .ok (.aload_n 0, 1) := by decide +kernel
theorem dX4_hearAll_22 : decode cX4_hearAll 22 = .ok (.getfield 42, 3) := by decide +kernel
theorem dX4_hearAll_25 : decode cX4_hearAll 25 = .ok (.getfield 53, 3) := by decide +kernel
theorem dX4_hearAll_28 : decode cX4_hearAll 28 = .ok (.iconst 0, 1) := by decide +kernel
theorem dX4_hearAll_29 : decode cX4_hearAll 29 = .ok (.aload_n 0, 1) := by decide +kernel
theorem dX4_hearAll_30 : decode cX4_hearAll 30 = .ok (.getfield 18, 3) := by decide +kernel
theorem dX4_hearAll_33 : decode cX4_hearAll 33 = .ok (.iconst 0, 1) := by decide +kernel
theorem dX4_hearAll_34 : decode cX4_hearAll 34 = .ok (.bipush 10, 2) := by decide +kernel
theorem dX4_hearAll_36 : decode cX4_hearAll 36 = .ok (.invokestatic 54, 3) := by decide +kernel
theorem dX4_hearAll_39 : decode cX4_hearAll 39 = .ok (.aload_n 0, 1) := by decide +kernel
theorem dX4_hearAll_40 : decode cX4_hearAll 40 = .ok (.invokevirtual 60, 3) := by decide +kernel
theorem dX4_hearAll_43 : decode cX4_hearAll 43 = .ok (.aload_n 0, 1) := by decide +kernel
theorem dX4_hearAll_44 : decode cX4_hearAll 44 = .ok (.invokevirtual 63, 3) := by decide +kernel
theorem dX4_hearAll_47 : decode cX4_hearAll 47 = .ok (.aload_n 0, 1) := by decide +kernel
theorem dX4_hearAll_48 : decode cX4_hearAll 48 = .ok (.invokevirtual 66, 3) := by decide +kernel
theorem dX4_hearAll_51 : decode cX4_hearAll 51 = .ok (.return_, 1) := by decide +kernel
theorem dX4_slipAll_0 : decode cX4_slipAll 0 = .ok (.iconst 0, 1) := by decide +kernel
theorem dX4_slipAll_1 : decode cX4_slipAll 1 = .ok (.istore_n 1, 1) := by decide +kernel
theorem dX4_slipAll_2 : decode cX4_slipAll 2 = .ok (.iload_n 1, 1) := by decide +kernel
theorem dX4_slipAll_3 : decode cX4_slipAll 3 = .ok (.aload_n 0, 1) := by decide +kernel
theorem dX4_slipAll_4 : decode cX4_slipAll 4 = .ok (.getfield 42, 3) := by decide +kernel
theorem dX4_slipAll_7 : decode cX4_slipAll 7 = .ok (.getfield 69, 3) := by decide +kernel
theorem dX4_slipAll_10 : decode cX4_slipAll 10 = .ok (.if_icmp .ge 21, 3) := by decide +kernel
theorem dX4_slipAll_13 : decode cX4_slipAll 13 = .ok (.aload_n 0, 1) := by decide +kernel
theorem dX4_slipAll_14 : decode cX4_slipAll 14 = .ok (.getfield 22, 3) := by decide +kernel
theorem dX4_slipAll_17 : decode cX4_slipAll 17 = .ok (.iload_n 1, 1) := by decide +kernel
theorem dX4_slipAll_18 : decode cX4_slipAll 18 = .ok (.aload_n 0, 1) := by decide +kernel
theorem dX4_slipAll_19 : decode cX4_slipAll 19 = .ok (.iconst 1, 1) := by decide +kernel
theorem dX4_slipAll_20 : decode cX4_slipAll 20 = .ok (.iload_n 1, 1) := by decide +kernel
theorem dX4_slipAll_21 : decode cX4_slipAll 21 = .ok (.invokevirtual 72, 3) := by decide +kernel
theorem dX4_slipAll_24 : decode cX4_slipAll 24 = .ok (.iastore, 1) := by decide +kernel
theorem dX4_slipAll_25 : decode cX4_slipAll 25 = .ok (.iinc 1 1, 3) := by decide +kernel
theorem dX4_slipAll_28 : decode cX4_slipAll 28 = .ok (.goto (-26), 3) := by decide +kernel
theorem dX4_slipAll_31 : decode cX4_slipAll 31 = .ok (.return_, 1) := by decide +kernel
theorem dX4_arrange_0 : decode cX4_arrange 0 = .ok (.iconst 0, 1) := by decide +kernel
theorem dX4_arrange_1 : decode cX4_arrange 1 = .ok (.istore_n 1, 1) := by decide +kernel
theorem dX4_arrange_2 : decode cX4_arrange 2 = .ok (.iload_n 1, 1) := by decide +kernel
theorem dX4_arrange_3 : decode cX4_arrange 3 = .ok (.aload_n 0, 1) := by decide +kernel
theorem dX4_arrange_4 : decode cX4_arrange 4 = .ok (.getfield 42, 3) := by decide +kernel
theorem dX4_arrange_7 : decode cX4_arrange 7 = .ok (.getfield 69, 3) := by decide +kernel
theorem dX4_arrange_10 : decode cX4_arrange 10 = .ok (.if_icmp .ge 20, 3) := by decide +kernel
theorem dX4_arrange_13 : decode cX4_arrange 13 = .ok (.aload_n 0, 1) := by decide +kernel
theorem dX4_arrange_14 : decode cX4_arrange 14 = .ok (.getfield 25, 3) := by decide +kernel
theorem dX4_arrange_17 : decode cX4_arrange 17 = .ok (.iload_n 1, 1) := by decide +kernel
theorem dX4_arrange_18 : decode cX4_arrange 18 = .ok (.aload_n 0, 1) := by decide +kernel
theorem dX4_arrange_19 : decode cX4_arrange 19 = .ok (.iload_n 1, 1) := by decide +kernel
theorem dX4_arrange_20 : decode cX4_arrange 20 = .ok (.invokevirtual 76, 3) := by decide +kernel
theorem dX4_arrange_23 : decode cX4_arrange 23 = .ok (.iastore, 1) := by decide +kernel
theorem dX4_arrange_24 : decode cX4_arrange 24 = .ok (.iinc 1 1, 3) := by decide +kernel
theorem dX4_arrange_27 : decode cX4_arrange 27 = .ok (.goto (-25), 3) := by decide +kernel
theorem dX4_arrange_30 : decode cX4_arrange 30 = .ok (.return_, 1) := by decide +kernel
theorem dX4_playAll_0 : decode cX4_playAll 0 = .ok (.iconst 0, 1) := by decide +kernel
theorem dX4_playAll_1 : decode cX4_playAll 1 = .ok (.istore_n 1, 1) := by decide +kernel
theorem dX4_playAll_2 : decode cX4_playAll 2 = .ok (.iload_n 1, 1) := by decide +kernel
theorem dX4_playAll_3 : decode cX4_playAll 3 = .ok (.aload_n 0, 1) := by decide +kernel
theorem dX4_playAll_4 : decode cX4_playAll 4 = .ok (.getfield 42, 3) := by decide +kernel
theorem dX4_playAll_7 : decode cX4_playAll 7 = .ok (.getfield 69, 3) := by decide +kernel
theorem dX4_playAll_10 : decode cX4_playAll 10 = .ok (.if_icmp .ge 20, 3) := by decide +kernel
theorem dX4_playAll_13 : decode cX4_playAll 13 = .ok (.aload_n 0, 1) := by decide +kernel
theorem dX4_playAll_14 : decode cX4_playAll 14 = .ok (.getfield 28, 3) := by decide +kernel
theorem dX4_playAll_17 : decode cX4_playAll 17 = .ok (.iload_n 1, 1) := by decide +kernel
theorem dX4_playAll_18 : decode cX4_playAll 18 = .ok (.aload_n 0, 1) := by decide +kernel
theorem dX4_playAll_19 : decode cX4_playAll 19 = .ok (.iload_n 1, 1) := by decide +kernel
theorem dX4_playAll_20 : decode cX4_playAll 20 = .ok (.invokevirtual 80, 3) := by decide +kernel
theorem dX4_playAll_23 : decode cX4_playAll 23 = .ok (.iastore, 1) := by decide +kernel
theorem dX4_playAll_24 : decode cX4_playAll 24 = .ok (.iinc 1 1, 3) := by decide +kernel
theorem dX4_playAll_27 : decode cX4_playAll 27 = .ok (.goto (-25), 3) := by decide +kernel
theorem dX4_playAll_30 : decode cX4_playAll 30 = .ok (.return_, 1) := by decide +kernel
theorem dX4_loudness_0 : decode cX4_loudness 0 = .ok (.iconst 1, 1) := by decide +kernel
theorem dX4_loudness_1 : decode cX4_loudness 1 = .ok (.aload_n 0, 1) := by decide +kernel
theorem dX4_loudness_2 : decode cX4_loudness 2 = .ok (.iconst 0, 1) := by decide +kernel
theorem dX4_loudness_3 : decode cX4_loudness 3 = .ok (.iload_n 1, 1) := by decide +kernel
theorem dX4_loudness_4 : decode cX4_loudness 4 = .ok (.invokevirtual 72, 3) := by decide +kernel
theorem dX4_loudness_7 : decode cX4_loudness 7 = .ok (.iadd, 1) := by decide +kernel
theorem dX4_loudness_8 : decode cX4_loudness 8 = .ok (.ireturn, 1) := by decide +kernel
theorem dX4_sumFor_0 : decode cX4_sumFor 0 = .ok (.aload_n 0, 1) := by decide +kernel
theorem dX4_sumFor_1 : decode cX4_sumFor 1 = .ok (.getfield 39, 3) := by decide +kernel
theorem dX4_sumFor_4 : decode cX4_sumFor 4 = .ok (.iconst 0, 1) := by decide +kernel
theorem dX4_sumFor_5 : decode cX4_sumFor 5 = .ok (.iload_n 2, 1) := by decide +kernel
theorem dX4_sumFor_6 : decode cX4_sumFor 6 = .ok (.iastore, 1) := by decide +kernel
theorem dX4_sumFor_7 : decode cX4_sumFor 7 = .ok (.aload_n 0, 1) := by decide +kernel
theorem dX4_sumFor_8 : decode cX4_sumFor 8 = .ok (.getfield 39, 3) := by decide +kernel
theorem dX4_sumFor_11 : decode cX4_sumFor 11 = .ok (.iconst 1, 1) := by decide +kernel
theorem dX4_sumFor_12 : decode cX4_sumFor 12 = .ok (.aload_n 0, 1) := by decide +kernel
theorem dX4_sumFor_13 : decode cX4_sumFor 13 = .ok (.getfield 42, 3) := by decide +kernel
theorem dX4_sumFor_16 : decode cX4_sumFor 16 = .ok (.getfield 83, 3) := by decide +kernel
theorem dX4_sumFor_19 : decode cX4_sumFor 19 = .ok (.iload_n 2, 1) := by decide +kernel
theorem dX4_sumFor_20 : decode cX4_sumFor 20 = .ok (.iaload, 1) := by decide +kernel
theorem dX4_sumFor_21 : decode cX4_sumFor 21 = .ok (.invokestatic 86, 3) := by decide +kernel
theorem dX4_sumFor_24 : decode cX4_sumFor 24 = .ok (.iastore, 1) := by decide +kernel
theorem dX4_sumFor_25 : decode cX4_sumFor 25 = .ok (.aload_n 0, 1) := by decide +kernel
theorem dX4_sumFor_26 : decode cX4_sumFor 26 = .ok (.getfield 39, 3) := by decide +kernel
theorem dX4_sumFor_29 : decode cX4_sumFor 29 = .ok (.iconst 2, 1) := by decide +kernel
theorem dX4_sumFor_30 : decode cX4_sumFor 30 = .ok (.aload_n 0, 1) := by decide +kernel
theorem dX4_sumFor_31 : decode cX4_sumFor 31 = .ok (.getfield 42, 3) := by decide +kernel
theorem dX4_sumFor_34 : decode cX4_sumFor 34 = .ok (.getfield 83, 3) := by decide +kernel
theorem dX4_sumFor_37 : decode cX4_sumFor 37 = .ok (.iload_n 2, 1) := by decide +kernel
theorem dX4_sumFor_38 : decode cX4_sumFor 38 = .ok (.iaload, 1) := by decide +kernel
theorem dX4_sumFor_39 : decode cX4_sumFor 39 = .ok (.invokestatic 89, 3) := by decide +kernel
theorem dX4_sumFor_42 : decode cX4_sumFor 42 = .ok (.iastore, 1) := by decide +kernel
theorem dX4_sumFor_43 : decode cX4_sumFor 43 = .ok (.aload_n 0, 1) := by decide +kernel
theorem dX4_sumFor_44 : decode cX4_sumFor 44 = .ok (.getfield 39, 3) := by decide +kernel
theorem dX4_sumFor_47 : decode cX4_sumFor 47 = .ok (.iconst 3, 1) := by decide +kernel
theorem dX4_sumFor_48 : decode cX4_sumFor 48 = .ok (.aload_n 0, 1) := by decide +kernel
theorem dX4_sumFor_49 : decode cX4_sumFor 49 = .ok (.getfield 18, 3) := by decide +kernel
theorem dX4_sumFor_52 : decode cX4_sumFor 52 = .ok (.iload_n 2, 1) := by decide +kernel
theorem dX4_sumFor_53 : decode cX4_sumFor 53 = .ok (.iaload, 1) := by decide +kernel
theorem dX4_sumFor_54 : decode cX4_sumFor 54 = .ok (.iastore, 1) := by decide +kernel
theorem dX4_sumFor_55 : decode cX4_sumFor 55 = .ok (.aload_n 0, 1) := by decide +kernel
theorem dX4_sumFor_56 : decode cX4_sumFor 56 = .ok (.getfield 39, 3) := by decide +kernel
theorem dX4_sumFor_59 : decode cX4_sumFor 59 = .ok (.iconst 4, 1) := by decide +kernel
theorem dX4_sumFor_60 : decode cX4_sumFor 60 = .ok (.aload_n 0, 1) := by decide +kernel
theorem dX4_sumFor_61 : decode cX4_sumFor 61 = .ok (.getfield 42, 3) := by decide +kernel
theorem dX4_sumFor_64 : decode cX4_sumFor 64 = .ok (.getfield 92, 3) := by decide +kernel
theorem dX4_sumFor_67 : decode cX4_sumFor 67 = .ok (.iload_n 2, 1) := by decide +kernel
theorem dX4_sumFor_68 : decode cX4_sumFor 68 = .ok (.iaload, 1) := by decide +kernel
theorem dX4_sumFor_69 : decode cX4_sumFor 69 = .ok (.iastore, 1) := by decide +kernel
theorem dX4_sumFor_70 : decode cX4_sumFor 70 = .ok (.aload_n 0, 1) := by decide +kernel
theorem dX4_sumFor_71 : decode cX4_sumFor 71 = .ok (.getfield 46, 3) := by decide +kernel
theorem dX4_sumFor_74 : decode cX4_sumFor 74 = .ok (.iload_n 1, 1) := by decide +kernel
theorem dX4_sumFor_75 : decode cX4_sumFor 75 = .ok (.aload_n 0, 1) := by decide +kernel
theorem dX4_sumFor_76 : decode cX4_sumFor 76 = .ok (.getfield 39, 3) := by decide +kernel
theorem dX4_sumFor_79 : decode cX4_sumFor 79 = .ok (.invokevirtual 95, 3) := by decide +kernel
theorem dX4_sumFor_82 : decode cX4_sumFor 82 = .ok (.ireturn, 1) := by decide +kernel
theorem dX4_sourceOf_0 : decode cX4_sourceOf 0 = .ok (.aload_n 0, 1) := by decide +kernel
theorem dX4_sourceOf_1 : decode cX4_sourceOf 1 = .ok (.getfield 18, 3) := by decide +kernel
theorem dX4_sourceOf_4 : decode cX4_sourceOf 4 = .ok (.iload_n 1, 1) := by decide +kernel
theorem dX4_sourceOf_5 : decode cX4_sourceOf 5 = .ok (.iaload, 1) := by decide +kernel
theorem dX4_sourceOf_6 : decode cX4_sourceOf 6 = .ok (.tableswitch 92 0 5 #[38, 92, 41, 60, 92, 41], 38) := by decide +kernel
theorem dX4_sourceOf_44 : decode cX4_sourceOf 44 = .ok (.bipush (-2), 2) := by decide +kernel
theorem dX4_sourceOf_46 : decode cX4_sourceOf 46 = .ok (.ireturn, 1) := by decide +kernel
theorem dX4_sourceOf_47 : decode cX4_sourceOf 47 = .ok (.aload_n 0, 1) := by decide +kernel
theorem dX4_sourceOf_48 : decode cX4_sourceOf 48 = .ok (.iload_n 1, 1) := by decide +kernel
theorem dX4_sourceOf_49 : decode cX4_sourceOf 49 = .ok (.iconst 1, 1) := by decide +kernel
theorem dX4_sourceOf_50 : decode cX4_sourceOf 50 = .ok (.invokevirtual 101, 3) := by decide +kernel
theorem dX4_sourceOf_53 : decode cX4_sourceOf 53 = .ok (.istore_n 2, 1) := by decide +kernel
theorem dX4_sourceOf_54 : decode cX4_sourceOf 54 = .ok (.iload_n 2, 1) := by decide +kernel
theorem dX4_sourceOf_55 : decode cX4_sourceOf 55 = .ok (.iconst (-1), 1) := by decide +kernel
theorem dX4_sourceOf_56 : decode cX4_sourceOf 56 = .ok (.if_icmp .ne 8, 3) := by decide +kernel
theorem dX4_sourceOf_59 : decode cX4_sourceOf 59 = .ok (.bipush (-2), 2) := by decide +kernel
theorem dX4_sourceOf_61 : decode cX4_sourceOf 61 = .ok (.goto 4, 3) := by decide +kernel
theorem dX4_sourceOf_64 : decode cX4_sourceOf 64 = .ok (.iload_n 2, 1) := by decide +kernel
theorem dX4_sourceOf_65 : decode cX4_sourceOf 65 = .ok (.ireturn, 1) := by decide +kernel
theorem dX4_sourceOf_66 : decode cX4_sourceOf 66 = .ok (.aload_n 0, 1) := by decide +kernel
theorem dX4_sourceOf_67 : decode cX4_sourceOf 67 = .ok (.iload_n 1, 1) := by decide +kernel
theorem dX4_sourceOf_68 : decode cX4_sourceOf 68 = .ok (.iconst (-1), 1) := by decide +kernel
theorem dX4_sourceOf_69 : decode cX4_sourceOf 69 = .ok (.invokevirtual 101, 3) := by decide +kernel
theorem dX4_sourceOf_72 : decode cX4_sourceOf 72 = .ok (.istore_n 3, 1) := by decide +kernel
theorem dX4_sourceOf_73 : decode cX4_sourceOf 73 = .ok (.iload_n 3, 1) := by decide +kernel
theorem dX4_sourceOf_74 : decode cX4_sourceOf 74 = .ok (.iconst (-1), 1) := by decide +kernel
theorem dX4_sourceOf_75 : decode cX4_sourceOf 75 = .ok (.if_icmp .eq 21, 3) := by decide +kernel
theorem dX4_sourceOf_78 : decode cX4_sourceOf 78 = .ok (.aload_n 0, 1) := by decide +kernel
theorem dX4_sourceOf_79 : decode cX4_sourceOf 79 = .ok (.getfield 18, 3) := by decide +kernel
theorem dX4_sourceOf_82 : decode cX4_sourceOf 82 = .ok (.iload_n 3, 1) := by decide +kernel
theorem dX4_sourceOf_83 : decode cX4_sourceOf 83 = .ok (.iaload, 1) := by decide +kernel
theorem dX4_sourceOf_84 : decode cX4_sourceOf 84 = .ok (.iconst 2, 1) := by decide +kernel
theorem dX4_sourceOf_85 : decode cX4_sourceOf 85 = .ok (.invokestatic 104, 3) := by decide +kernel
theorem dX4_sourceOf_88 : decode cX4_sourceOf 88 = .ok (.ifCond .eq 8, 3) := by decide +kernel
theorem dX4_sourceOf_91 : decode cX4_sourceOf 91 = .ok (.bipush (-2), 2) := by decide +kernel
theorem dX4_sourceOf_93 : decode cX4_sourceOf 93 = .ok (.goto 4, 3) := by decide +kernel
theorem dX4_sourceOf_96 : decode cX4_sourceOf 96 = .ok (.iload_n 3, 1) := by decide +kernel
theorem dX4_sourceOf_97 : decode cX4_sourceOf 97 = .ok (.ireturn, 1) := by decide +kernel
theorem dX4_sourceOf_98 : decode cX4_sourceOf 98 = .ok (.iconst (-1), 1) := by decide +kernel
theorem dX4_sourceOf_99 : decode cX4_sourceOf 99 = .ok (.ireturn, 1) := by decide +kernel
theorem dX4_nearestInColumn_0 : decode cX4_nearestInColumn 0 = .ok (.iconst (-1), 1) := by decide +kernel
theorem dX4_nearestInColumn_1 : decode cX4_nearestInColumn 1 = .ok (.istore_n 3, 1) := by decide +kernel
theorem dX4_nearestInColumn_2 : decode cX4_nearestInColumn 2 = .ok (.bipush 8, 2) := by decide +kernel
theorem dX4_nearestInColumn_4 : decode cX4_nearestInColumn 4 = .ok (.istore 4, 2) := by decide +kernel
theorem dX4_nearestInColumn_6 : decode cX4_nearestInColumn 6 = .ok (.iconst 0, 1) := by decide +kernel
theorem dX4_nearestInColumn_7 : decode cX4_nearestInColumn 7 = .ok (.istore 5, 2) := by decide +kernel
theorem dX4_nearestInColumn_9 : decode cX4_nearestInColumn 9 = .ok (.iload 5, 2) := by decide +kernel
theorem dX4_nearestInColumn_11 : decode cX4_nearestInColumn 11 = .ok (.aload_n 0, 1) := by decide +kernel
theorem dX4_nearestInColumn_12 : decode cX4_nearestInColumn 12 = .ok (.getfield 42, 3) := by decide +kernel
theorem dX4_nearestInColumn_15 : decode cX4_nearestInColumn 15 = .ok (.getfield 69, 3) := by decide +kernel
theorem dX4_nearestInColumn_18 : decode cX4_nearestInColumn 18 = .ok (.if_icmp .ge 107, 3) := by decide +kernel
theorem dX4_nearestInColumn_21 : decode cX4_nearestInColumn 21 = .ok (.iload_n 2, 1) := by decide +kernel
theorem dX4_nearestInColumn_22 : decode cX4_nearestInColumn 22 = .ok (.aload_n 0, 1) := by decide +kernel
theorem dX4_nearestInColumn_23 : decode cX4_nearestInColumn 23 = .ok (.getfield 42, 3) := by decide +kernel
theorem dX4_nearestInColumn_26 : decode cX4_nearestInColumn 26 = .ok (.getfield 83, 3) := by decide +kernel
theorem dX4_nearestInColumn_29 : decode cX4_nearestInColumn 29 = .ok (.iload 5, 2) := by decide +kernel
theorem dX4_nearestInColumn_31 : decode cX4_nearestInColumn 31 = .ok (.iaload, 1) := by decide +kernel
theorem dX4_nearestInColumn_32 : decode cX4_nearestInColumn 32 = .ok (.invokestatic 86, 3) := by decide +kernel
theorem dX4_nearestInColumn_35 : decode cX4_nearestInColumn 35 = .ok (.aload_n 0, 1) := by decide +kernel
theorem dX4_nearestInColumn_36 : decode cX4_nearestInColumn 36 = .ok (.getfield 42, 3) := by decide +kernel
theorem dX4_nearestInColumn_39 : decode cX4_nearestInColumn 39 = .ok (.getfield 83, 3) := by decide +kernel
theorem dX4_nearestInColumn_42 : decode cX4_nearestInColumn 42 = .ok (.iload_n 1, 1) := by decide +kernel
theorem dX4_nearestInColumn_43 : decode cX4_nearestInColumn 43 = .ok (.iaload, 1) := by decide +kernel
theorem dX4_nearestInColumn_44 : decode cX4_nearestInColumn 44 = .ok (.invokestatic 86, 3) := by decide +kernel
theorem dX4_nearestInColumn_47 : decode cX4_nearestInColumn 47 = .ok (.isub, 1) := by decide +kernel
theorem dX4_nearestInColumn_48 : decode cX4_nearestInColumn 48 = .ok (.imul, 1) := by decide +kernel
theorem dX4_nearestInColumn_49 : decode cX4_nearestInColumn 49 = .ok (.istore 6, 2) := by decide +kernel
theorem dX4_nearestInColumn_51 : decode cX4_nearestInColumn 51 = .ok (.iload 5, 2) := by decide +kernel
theorem dX4_nearestInColumn_53 : decode cX4_nearestInColumn 53 = .ok (.aload_n 0, 1) := by decide +kernel
theorem dX4_nearestInColumn_54 : decode cX4_nearestInColumn 54 = .ok (.getfield 15, 3) := by decide +kernel
theorem dX4_nearestInColumn_57 : decode cX4_nearestInColumn 57 = .ok (.if_icmp .eq 35, 3) := by decide +kernel
theorem dX4_nearestInColumn_60 : decode cX4_nearestInColumn 60 = .ok (.aload_n 0, 1) := by decide +kernel
theorem dX4_nearestInColumn_61 : decode cX4_nearestInColumn 61 = .ok (.getfield 42, 3) := by decide +kernel
theorem dX4_nearestInColumn_64 : decode cX4_nearestInColumn 64 = .ok (.getfield 83, 3) := by decide +kernel
theorem dX4_nearestInColumn_67 : decode cX4_nearestInColumn 67 = .ok (.iload 5, 2) := by decide +kernel
theorem dX4_nearestInColumn_69 : decode cX4_nearestInColumn 69 = .ok (.iaload, 1) := by decide +kernel
theorem dX4_nearestInColumn_70 : decode cX4_nearestInColumn 70 = .ok (.invokestatic 89, 3) := by decide +kernel
theorem dX4_nearestInColumn_73 : decode cX4_nearestInColumn 73 = .ok (.aload_n 0, 1) := by decide +kernel
theorem dX4_nearestInColumn_74 : decode cX4_nearestInColumn 74 = .ok (.getfield 42, 3) := by decide +kernel
theorem dX4_nearestInColumn_77 : decode cX4_nearestInColumn 77 = .ok (.getfield 83, 3) := by decide +kernel
theorem dX4_nearestInColumn_80 : decode cX4_nearestInColumn 80 = .ok (.iload_n 1, 1) := by decide +kernel
theorem dX4_nearestInColumn_81 : decode cX4_nearestInColumn 81 = .ok (.iaload, 1) := by decide +kernel
theorem dX4_nearestInColumn_82 : decode cX4_nearestInColumn 82 = .ok (.invokestatic 89, 3) := by decide +kernel
theorem dX4_nearestInColumn_85 : decode cX4_nearestInColumn 85 = .ok (.if_icmp .ne 7, 3) := by decide +kernel
theorem dX4_nearestInColumn_88 : decode cX4_nearestInColumn 88 = .ok (.iconst 1, 1) := by decide +kernel
theorem dX4_nearestInColumn_89 : decode cX4_nearestInColumn 89 = .ok (.goto 4, 3) := by decide +kernel
theorem dX4_nearestInColumn_92 : decode cX4_nearestInColumn 92 = .ok (.iconst 0, 1) := by decide +kernel
theorem dX4_nearestInColumn_93 : decode cX4_nearestInColumn 93 = .ok (.istore 7, 2) := by decide +kernel
theorem dX4_nearestInColumn_95 : decode cX4_nearestInColumn 95 = .ok (.iload 7, 2) := by decide +kernel
theorem dX4_nearestInColumn_97 : decode cX4_nearestInColumn 97 = .ok (.ifCond .eq 22, 3) := by decide +kernel
theorem dX4_nearestInColumn_100 : decode cX4_nearestInColumn 100 = .ok (.iload 6, 2) := by decide +kernel
theorem dX4_nearestInColumn_102 : decode cX4_nearestInColumn 102 = .ok (.ifCond .le 17, 3) := by decide +kernel
theorem dX4_nearestInColumn_105 : decode cX4_nearestInColumn 105 = .ok (.iload 6, 2) := by decide +kernel
theorem dX4_nearestInColumn_107 : decode cX4_nearestInColumn 107 = .ok (.iload 4, 2) := by decide +kernel
theorem dX4_nearestInColumn_109 : decode cX4_nearestInColumn 109 = .ok (.if_icmp .ge 10, 3) := by decide +kernel
theorem dX4_nearestInColumn_112 : decode cX4_nearestInColumn 112 = .ok (.iload 5, 2) := by decide +kernel
theorem dX4_nearestInColumn_114 : decode cX4_nearestInColumn 114 = .ok (.istore_n 3, 1) := by decide +kernel
theorem dX4_nearestInColumn_115 : decode cX4_nearestInColumn 115 = .ok (.iload 6, 2) := by decide +kernel
theorem dX4_nearestInColumn_117 : decode cX4_nearestInColumn 117 = .ok (.istore 4, 2) := by decide +kernel
theorem dX4_nearestInColumn_119 : decode cX4_nearestInColumn 119 = .ok (.iinc 5 1, 3) := by decide +kernel
theorem dX4_nearestInColumn_122 : decode cX4_nearestInColumn 122 = .ok (.goto (-113), 3) := by decide +kernel
theorem dX4_nearestInColumn_125 : decode cX4_nearestInColumn 125 = .ok (.iload_n 3, 1) := by decide +kernel
theorem dX4_nearestInColumn_126 : decode cX4_nearestInColumn 126 = .ok (.ireturn, 1) := by decide +kernel
theorem dX4_playedBy_0 : decode cX4_playedBy 0 = .ok (.iconst 0, 1) := by decide +kernel
theorem dX4_playedBy_1 : decode cX4_playedBy 1 = .ok (.istore_n 2, 1) := by decide +kernel
theorem dX4_playedBy_2 : decode cX4_playedBy 2 = .ok (.iload_n 1, 1) := by decide +kernel
theorem dX4_playedBy_3 : decode cX4_playedBy 3 = .ok (.istore_n 3, 1) := by decide +kernel
theorem dX4_playedBy_4 : decode cX4_playedBy 4 = .ok (.iconst 0, 1) := by decide +kernel
theorem dX4_playedBy_5 : decode cX4_playedBy 5 = .ok (.istore 4, 2) := by decide +kernel
theorem dX4_playedBy_7 : decode cX4_playedBy 7 = .ok (.iload 4, 2) := by decide +kernel
theorem dX4_playedBy_9 : decode cX4_playedBy 9 = .ok (.bipush 10, 2) := by decide +kernel
theorem dX4_playedBy_11 : decode cX4_playedBy 11 = .ok (.if_icmp .ge 110, 3) := by decide +kernel
theorem dX4_playedBy_14 : decode cX4_playedBy 14 = .ok (.iload_n 2, 1) := by decide +kernel
theorem dX4_playedBy_15 : decode cX4_playedBy 15 = .ok (.aload_n 0, 1) := by decide +kernel
theorem dX4_playedBy_16 : decode cX4_playedBy 16 = .ok (.getfield 22, 3) := by decide +kernel
theorem dX4_playedBy_19 : decode cX4_playedBy 19 = .ok (.iload_n 3, 1) := by decide +kernel
theorem dX4_playedBy_20 : decode cX4_playedBy 20 = .ok (.iaload, 1) := by decide +kernel
theorem dX4_playedBy_21 : decode cX4_playedBy 21 = .ok (.aload_n 0, 1) := by decide +kernel
theorem dX4_playedBy_22 : decode cX4_playedBy 22 = .ok (.iload_n 3, 1) := by decide +kernel
theorem dX4_playedBy_23 : decode cX4_playedBy 23 = .ok (.invokevirtual 108, 3) := by decide +kernel
theorem dX4_playedBy_26 : decode cX4_playedBy 26 = .ok (.iadd, 1) := by decide +kernel
theorem dX4_playedBy_27 : decode cX4_playedBy 27 = .ok (.iadd, 1) := by decide +kernel
theorem dX4_playedBy_28 : decode cX4_playedBy 28 = .ok (.istore_n 2, 1) := by decide +kernel
theorem dX4_playedBy_29 : decode cX4_playedBy 29 = .ok (.aload_n 0, 1) := by decide +kernel
theorem dX4_playedBy_30 : decode cX4_playedBy 30 = .ok (.getfield 25, 3) := by decide +kernel
theorem dX4_playedBy_33 : decode cX4_playedBy 33 = .ok (.iload_n 3, 1) := by decide +kernel
theorem dX4_playedBy_34 : decode cX4_playedBy 34 = .ok (.iaload, 1) := by decide +kernel
theorem dX4_playedBy_35 : decode cX4_playedBy 35 = .ok (.istore 5, 2) := by decide +kernel
theorem dX4_playedBy_37 : decode cX4_playedBy 37 = .ok (.iload 5, 2) := by decide +kernel
theorem dX4_playedBy_39 : decode cX4_playedBy 39 = .ok (.iconst (-1), 1) := by decide +kernel
theorem dX4_playedBy_40 : decode cX4_playedBy 40 = .ok (.if_icmp .ne 5, 3) := by decide +kernel
theorem dX4_playedBy_43 : decode cX4_playedBy 43 = .ok (.iload_n 2, 1) := by decide +kernel
theorem dX4_playedBy_44 : decode cX4_playedBy 44 = .ok (.ireturn, 1) := by decide +kernel
theorem dX4_playedBy_45 : decode cX4_playedBy 45 = .ok (.iload 5, 2) := by decide +kernel
theorem dX4_playedBy_47 : decode cX4_playedBy 47 = .ok (.bipush (-2), 2) := by decide +kernel
theorem dX4_playedBy_49 : decode cX4_playedBy 49 = .ok (.if_icmp .ne 30, 3) := by decide +kernel
theorem dX4_playedBy_52 : decode cX4_playedBy 52 = .ok (.iload_n 2, 1) := by decide +kernel
theorem dX4_playedBy_53 : decode cX4_playedBy 53 = .ok (.aload_n 0, 1) := by decide +kernel
theorem dX4_playedBy_54 : decode cX4_playedBy 54 = .ok (.getfield 46, 3) := by decide +kernel
theorem dX4_playedBy_57 : decode cX4_playedBy 57 = .ok (.getfield 111, 3) := by decide +kernel
theorem dX4_playedBy_60 : decode cX4_playedBy 60 = .ok (.aload_n 0, 1) := by decide +kernel
theorem dX4_playedBy_61 : decode cX4_playedBy 61 = .ok (.getfield 42, 3) := by decide +kernel
theorem dX4_playedBy_64 : decode cX4_playedBy 64 = .ok (.getfield 83, 3) := by decide +kernel
theorem dX4_playedBy_67 : decode cX4_playedBy 67 = .ok (.iload_n 3, 1) := by decide +kernel
theorem dX4_playedBy_68 : decode cX4_playedBy 68 = .ok (.iaload, 1) := by decide +kernel
theorem dX4_playedBy_69 : decode cX4_playedBy 69 = .ok (.aload_n 0, 1) := by decide +kernel
theorem dX4_playedBy_70 : decode cX4_playedBy 70 = .ok (.getfield 9, 3) := by decide +kernel
theorem dX4_playedBy_73 : decode cX4_playedBy 73 = .ok (.invokestatic 114, 3) := by decide +kernel
theorem dX4_playedBy_76 : decode cX4_playedBy 76 = .ok (.imul, 1) := by decide +kernel
theorem dX4_playedBy_77 : decode cX4_playedBy 77 = .ok (.iadd, 1) := by decide +kernel
theorem dX4_playedBy_78 : decode cX4_playedBy 78 = .ok (.ireturn, 1) := by decide +kernel
theorem dX4_playedBy_79 : decode cX4_playedBy 79 = .ok (.iload_n 2, 1) := by decide +kernel
theorem dX4_playedBy_80 : decode cX4_playedBy 80 = .ok (.aload_n 0, 1) := by decide +kernel
theorem dX4_playedBy_81 : decode cX4_playedBy 81 = .ok (.getfield 46, 3) := by decide +kernel
theorem dX4_playedBy_84 : decode cX4_playedBy 84 = .ok (.getfield 111, 3) := by decide +kernel
theorem dX4_playedBy_87 : decode cX4_playedBy 87 = .ok (.aload_n 0, 1) := by decide +kernel
theorem dX4_playedBy_88 : decode cX4_playedBy 88 = .ok (.getfield 42, 3) := by decide +kernel
theorem dX4_playedBy_91 : decode cX4_playedBy 91 = .ok (.getfield 83, 3) := by decide +kernel
theorem dX4_playedBy_94 : decode cX4_playedBy 94 = .ok (.iload_n 3, 1) := by decide +kernel
theorem dX4_playedBy_95 : decode cX4_playedBy 95 = .ok (.iaload, 1) := by decide +kernel
theorem dX4_playedBy_96 : decode cX4_playedBy 96 = .ok (.aload_n 0, 1) := by decide +kernel
theorem dX4_playedBy_97 : decode cX4_playedBy 97 = .ok (.getfield 42, 3) := by decide +kernel
theorem dX4_playedBy_100 : decode cX4_playedBy 100 = .ok (.getfield 83, 3) := by decide +kernel
theorem dX4_playedBy_103 : decode cX4_playedBy 103 = .ok (.iload 5, 2) := by decide +kernel
theorem dX4_playedBy_105 : decode cX4_playedBy 105 = .ok (.iaload, 1) := by decide +kernel
theorem dX4_playedBy_106 : decode cX4_playedBy 106 = .ok (.invokestatic 114, 3) := by decide +kernel
theorem dX4_playedBy_109 : decode cX4_playedBy 109 = .ok (.imul, 1) := by decide +kernel
theorem dX4_playedBy_110 : decode cX4_playedBy 110 = .ok (.iadd, 1) := by decide +kernel
theorem dX4_playedBy_111 : decode cX4_playedBy 111 = .ok (.istore_n 2, 1) := by decide +kernel
theorem dX4_playedBy_112 : decode cX4_playedBy 112 = .ok (.iload 5, 2) := by decide +kernel
theorem dX4_playedBy_114 : decode cX4_playedBy 114 = .ok (.istore_n 3, 1) := by decide +kernel
theorem dX4_playedBy_115 : decode cX4_playedBy 115 = .ok (.iinc 4 1, 3) := by decide +kernel
theorem dX4_playedBy_118 : decode cX4_playedBy 118 = .ok (.goto (-111), 3) := by decide +kernel
theorem dX4_playedBy_121 : decode cX4_playedBy 121 = .ok (.iload_n 2, 1) := by decide +kernel
theorem dX4_playedBy_122 : decode cX4_playedBy 122 = .ok (.ireturn, 1) := by decide +kernel
theorem dX4_ownMore_0 : decode cX4_ownMore 0 = .ok (.aload_n 0, 1) := by decide +kernel
theorem dX4_ownMore_1 : decode cX4_ownMore 1 = .ok (.getfield 18, 3) := by decide +kernel
theorem dX4_ownMore_4 : decode cX4_ownMore 4 = .ok (.iload_n 1, 1) := by decide +kernel
theorem dX4_ownMore_5 : decode cX4_ownMore 5 = .ok (.iaload, 1) := by decide +kernel
theorem dX4_ownMore_6 : decode cX4_ownMore 6 = .ok (.tableswitch 70 4 6 #[26, 37, 58], 26) := by decide +kernel
theorem dX4_ownMore_32 : decode cX4_ownMore 32 = .ok (.aload_n 0, 1) := by decide +kernel
theorem dX4_ownMore_33 : decode cX4_ownMore 33 = .ok (.getfield 42, 3) := by decide +kernel
theorem dX4_ownMore_36 : decode cX4_ownMore 36 = .ok (.getfield 92, 3) := by decide +kernel
theorem dX4_ownMore_39 : decode cX4_ownMore 39 = .ok (.iload_n 1, 1) := by decide +kernel
theorem dX4_ownMore_40 : decode cX4_ownMore 40 = .ok (.iaload, 1) := by decide +kernel
theorem dX4_ownMore_41 : decode cX4_ownMore 41 = .ok (.ineg, 1) := by decide +kernel
theorem dX4_ownMore_42 : decode cX4_ownMore 42 = .ok (.ireturn, 1) := by decide +kernel
theorem dX4_ownMore_43 : decode cX4_ownMore 43 = .ok (.aload_n 0, 1) := by decide +kernel
theorem dX4_ownMore_44 : decode cX4_ownMore 44 = .ok (.getfield 46, 3) := by decide +kernel
theorem dX4_ownMore_47 : decode cX4_ownMore 47 = .ok (.getfield 111, 3) := by decide +kernel
theorem dX4_ownMore_50 : decode cX4_ownMore 50 = .ok (.aload_n 0, 1) := by decide +kernel
theorem dX4_ownMore_51 : decode cX4_ownMore 51 = .ok (.getfield 42, 3) := by decide +kernel
theorem dX4_ownMore_54 : decode cX4_ownMore 54 = .ok (.getfield 83, 3) := by decide +kernel
theorem dX4_ownMore_57 : decode cX4_ownMore 57 = .ok (.iload_n 1, 1) := by decide +kernel
theorem dX4_ownMore_58 : decode cX4_ownMore 58 = .ok (.iaload, 1) := by decide +kernel
theorem dX4_ownMore_59 : decode cX4_ownMore 59 = .ok (.invokestatic 86, 3) := by decide +kernel
theorem dX4_ownMore_62 : decode cX4_ownMore 62 = .ok (.imul, 1) := by decide +kernel
theorem dX4_ownMore_63 : decode cX4_ownMore 63 = .ok (.ireturn, 1) := by decide +kernel
theorem dX4_ownMore_64 : decode cX4_ownMore 64 = .ok (.aload_n 0, 1) := by decide +kernel
theorem dX4_ownMore_65 : decode cX4_ownMore 65 = .ok (.getfield 42, 3) := by decide +kernel
theorem dX4_ownMore_68 : decode cX4_ownMore 68 = .ok (.getfield 92, 3) := by decide +kernel
theorem dX4_ownMore_71 : decode cX4_ownMore 71 = .ok (.iload_n 1, 1) := by decide +kernel
theorem dX4_ownMore_72 : decode cX4_ownMore 72 = .ok (.iaload, 1) := by decide +kernel
theorem dX4_ownMore_73 : decode cX4_ownMore 73 = .ok (.iload_n 1, 1) := by decide +kernel
theorem dX4_ownMore_74 : decode cX4_ownMore 74 = .ok (.imul, 1) := by decide +kernel
theorem dX4_ownMore_75 : decode cX4_ownMore 75 = .ok (.ireturn, 1) := by decide +kernel
theorem dX4_ownMore_76 : decode cX4_ownMore 76 = .ok (.iconst 0, 1) := by decide +kernel
theorem dX4_ownMore_77 : decode cX4_ownMore 77 = .ok (.ireturn, 1) := by decide +kernel
theorem dX4_arrival_0 : decode cX4_arrival 0 = .ok (.aload_n 0, 1) := by decide +kernel
theorem dX4_arrival_1 : decode cX4_arrival 1 = .ok (.getfield 28, 3) := by decide +kernel
theorem dX4_arrival_4 : decode cX4_arrival 4 = .ok (.iload_n 2, 1) := by decide +kernel
theorem dX4_arrival_5 : decode cX4_arrival 5 = .ok (.iaload, 1) := by decide +kernel
theorem dX4_arrival_6 : decode cX4_arrival 6 = .ok (.aload_n 0, 1) := by decide +kernel
theorem dX4_arrival_7 : decode cX4_arrival 7 = .ok (.getfield 46, 3) := by decide +kernel
theorem dX4_arrival_10 : decode cX4_arrival 10 = .ok (.getfield 111, 3) := by decide +kernel
theorem dX4_arrival_13 : decode cX4_arrival 13 = .ok (.iload_n 1, 1) := by decide +kernel
theorem dX4_arrival_14 : decode cX4_arrival 14 = .ok (.invokestatic 117, 3) := by decide +kernel
theorem dX4_arrival_17 : decode cX4_arrival 17 = .ok (.aload_n 0, 1) := by decide +kernel
theorem dX4_arrival_18 : decode cX4_arrival 18 = .ok (.getfield 42, 3) := by decide +kernel
theorem dX4_arrival_21 : decode cX4_arrival 21 = .ok (.getfield 83, 3) := by decide +kernel
theorem dX4_arrival_24 : decode cX4_arrival 24 = .ok (.iload_n 2, 1) := by decide +kernel
theorem dX4_arrival_25 : decode cX4_arrival 25 = .ok (.iaload, 1) := by decide +kernel
theorem dX4_arrival_26 : decode cX4_arrival 26 = .ok (.invokestatic 114, 3) := by decide +kernel
theorem dX4_arrival_29 : decode cX4_arrival 29 = .ok (.imul, 1) := by decide +kernel
theorem dX4_arrival_30 : decode cX4_arrival 30 = .ok (.iadd, 1) := by decide +kernel
theorem dX4_arrival_31 : decode cX4_arrival 31 = .ok (.ireturn, 1) := by decide +kernel
theorem dX4_earliest_0 : decode cX4_earliest 0 = .ok (.ldc 122, 2) := by decide +kernel
theorem dX4_earliest_2 : decode cX4_earliest 2 = .ok (.istore_n 2, 1) := by decide +kernel
theorem dX4_earliest_3 : decode cX4_earliest 3 = .ok (.iconst 0, 1) := by decide +kernel
theorem dX4_earliest_4 : decode cX4_earliest 4 = .ok (.istore_n 3, 1) := by decide +kernel
theorem dX4_earliest_5 : decode cX4_earliest 5 = .ok (.iload_n 3, 1) := by decide +kernel
theorem dX4_earliest_6 : decode cX4_earliest 6 = .ok (.aload_n 0, 1) := by decide +kernel
theorem dX4_earliest_7 : decode cX4_earliest 7 = .ok (.getfield 42, 3) := by decide +kernel
theorem dX4_earliest_10 : decode cX4_earliest 10 = .ok (.getfield 69, 3) := by decide +kernel
theorem dX4_earliest_13 : decode cX4_earliest 13 = .ok (.if_icmp .ge 28, 3) := by decide +kernel
theorem dX4_earliest_16 : decode cX4_earliest 16 = .ok (.iload_n 3, 1) := by decide +kernel
theorem dX4_earliest_17 : decode cX4_earliest 17 = .ok (.aload_n 0, 1) := by decide +kernel
theorem dX4_earliest_18 : decode cX4_earliest 18 = .ok (.getfield 15, 3) := by decide +kernel
theorem dX4_earliest_21 : decode cX4_earliest 21 = .ok (.if_icmp .eq 14, 3) := by decide +kernel
theorem dX4_earliest_24 : decode cX4_earliest 24 = .ok (.iload_n 2, 1) := by decide +kernel
theorem dX4_earliest_25 : decode cX4_earliest 25 = .ok (.aload_n 0, 1) := by decide +kernel
theorem dX4_earliest_26 : decode cX4_earliest 26 = .ok (.iload_n 1, 1) := by decide +kernel
theorem dX4_earliest_27 : decode cX4_earliest 27 = .ok (.iload_n 3, 1) := by decide +kernel
theorem dX4_earliest_28 : decode cX4_earliest 28 = .ok (.invokevirtual 123, 3) := by decide +kernel
theorem dX4_earliest_31 : decode cX4_earliest 31 = .ok (.invokestatic 126, 3) := by decide +kernel
theorem dX4_earliest_34 : decode cX4_earliest 34 = .ok (.istore_n 2, 1) := by decide +kernel
theorem dX4_earliest_35 : decode cX4_earliest 35 = .ok (.iinc 3 1, 3) := by decide +kernel
theorem dX4_earliest_38 : decode cX4_earliest 38 = .ok (.goto (-33), 3) := by decide +kernel
theorem dX4_earliest_41 : decode cX4_earliest 41 = .ok (.iload_n 2, 1) := by decide +kernel
theorem dX4_earliest_42 : decode cX4_earliest 42 = .ok (.ireturn, 1) := by decide +kernel
theorem dX4_spreadAt_0 : decode cX4_spreadAt 0 = .ok (.ldc 122, 2) := by decide +kernel
theorem dX4_spreadAt_2 : decode cX4_spreadAt 2 = .ok (.istore_n 2, 1) := by decide +kernel
theorem dX4_spreadAt_3 : decode cX4_spreadAt 3 = .ok (.ldc 131, 2) := by decide +kernel
theorem dX4_spreadAt_5 : decode cX4_spreadAt 5 = .ok (.istore_n 3, 1) := by decide +kernel
theorem dX4_spreadAt_6 : decode cX4_spreadAt 6 = .ok (.iconst 0, 1) := by decide +kernel
theorem dX4_spreadAt_7 : decode cX4_spreadAt 7 = .ok (.istore 4, 2) := by decide +kernel
theorem dX4_spreadAt_9 : decode cX4_spreadAt 9 = .ok (.iload 4, 2) := by decide +kernel
theorem dX4_spreadAt_11 : decode cX4_spreadAt 11 = .ok (.aload_n 0, 1) := by decide +kernel
theorem dX4_spreadAt_12 : decode cX4_spreadAt 12 = .ok (.getfield 42, 3) := by decide +kernel
theorem dX4_spreadAt_15 : decode cX4_spreadAt 15 = .ok (.getfield 69, 3) := by decide +kernel
theorem dX4_spreadAt_18 : decode cX4_spreadAt 18 = .ok (.if_icmp .ge 41, 3) := by decide +kernel
theorem dX4_spreadAt_21 : decode cX4_spreadAt 21 = .ok (.iload 4, 2) := by decide +kernel
theorem dX4_spreadAt_23 : decode cX4_spreadAt 23 = .ok (.aload_n 0, 1) := by decide +kernel
theorem dX4_spreadAt_24 : decode cX4_spreadAt 24 = .ok (.getfield 15, 3) := by decide +kernel
theorem dX4_spreadAt_27 : decode cX4_spreadAt 27 = .ok (.if_icmp .eq 26, 3) := by decide +kernel
theorem dX4_spreadAt_30 : decode cX4_spreadAt 30 = .ok (.aload_n 0, 1) := by decide +kernel
theorem dX4_spreadAt_31 : decode cX4_spreadAt 31 = .ok (.iload_n 1, 1) := by decide +kernel
theorem dX4_spreadAt_32 : decode cX4_spreadAt 32 = .ok (.iload 4, 2) := by decide +kernel
theorem dX4_spreadAt_34 : decode cX4_spreadAt 34 = .ok (.invokevirtual 123, 3) := by decide +kernel
theorem dX4_spreadAt_37 : decode cX4_spreadAt 37 = .ok (.istore 5, 2) := by decide +kernel
theorem dX4_spreadAt_39 : decode cX4_spreadAt 39 = .ok (.iload_n 2, 1) := by decide +kernel
theorem dX4_spreadAt_40 : decode cX4_spreadAt 40 = .ok (.iload 5, 2) := by decide +kernel
theorem dX4_spreadAt_42 : decode cX4_spreadAt 42 = .ok (.invokestatic 126, 3) := by decide +kernel
theorem dX4_spreadAt_45 : decode cX4_spreadAt 45 = .ok (.istore_n 2, 1) := by decide +kernel
theorem dX4_spreadAt_46 : decode cX4_spreadAt 46 = .ok (.iload_n 3, 1) := by decide +kernel
theorem dX4_spreadAt_47 : decode cX4_spreadAt 47 = .ok (.iload 5, 2) := by decide +kernel
theorem dX4_spreadAt_49 : decode cX4_spreadAt 49 = .ok (.invokestatic 132, 3) := by decide +kernel
theorem dX4_spreadAt_52 : decode cX4_spreadAt 52 = .ok (.istore_n 3, 1) := by decide +kernel
theorem dX4_spreadAt_53 : decode cX4_spreadAt 53 = .ok (.iinc 4 1, 3) := by decide +kernel
theorem dX4_spreadAt_56 : decode cX4_spreadAt 56 = .ok (.goto (-47), 3) := by decide +kernel
theorem dX4_spreadAt_59 : decode cX4_spreadAt 59 = .ok (.iload_n 2, 1) := by decide +kernel
theorem dX4_spreadAt_60 : decode cX4_spreadAt 60 = .ok (.iload_n 3, 1) := by decide +kernel
theorem dX4_spreadAt_61 : decode cX4_spreadAt 61 = .ok (.if_icmp .le 7, 3) := by decide +kernel
theorem dX4_spreadAt_64 : decode cX4_spreadAt 64 = .ok (.iconst 0, 1) := by decide +kernel
theorem dX4_spreadAt_65 : decode cX4_spreadAt 65 = .ok (.goto 6, 3) := by decide +kernel
theorem dX4_spreadAt_68 : decode cX4_spreadAt 68 = .ok (.iload_n 3, 1) := by decide +kernel
theorem dX4_spreadAt_69 : decode cX4_spreadAt 69 = .ok (.iload_n 2, 1) := by decide +kernel
theorem dX4_spreadAt_70 : decode cX4_spreadAt 70 = .ok (.isub, 1) := by decide +kernel
theorem dX4_spreadAt_71 : decode cX4_spreadAt 71 = .ok (.ireturn, 1) := by decide +kernel
theorem dX4_sumOfSpreads_0 : decode cX4_sumOfSpreads 0 = .ok (.iconst 0, 1) := by decide +kernel
theorem dX4_sumOfSpreads_1 : decode cX4_sumOfSpreads 1 = .ok (.istore_n 1, 1) := by decide +kernel
theorem dX4_sumOfSpreads_2 : decode cX4_sumOfSpreads 2 = .ok (.iconst 0, 1) := by decide +kernel
theorem dX4_sumOfSpreads_3 : decode cX4_sumOfSpreads 3 = .ok (.istore_n 2, 1) := by decide +kernel
theorem dX4_sumOfSpreads_4 : decode cX4_sumOfSpreads 4 = .ok (.iload_n 2, 1) := by decide +kernel
theorem dX4_sumOfSpreads_5 : decode cX4_sumOfSpreads 5 = .ok (.bipush 8, 2) := by decide +kernel
theorem dX4_sumOfSpreads_7 : decode cX4_sumOfSpreads 7 = .ok (.if_icmp .ge 17, 3) := by decide +kernel
theorem dX4_sumOfSpreads_10 : decode cX4_sumOfSpreads 10 = .ok (.iload_n 1, 1) := by decide +kernel
theorem dX4_sumOfSpreads_11 : decode cX4_sumOfSpreads 11 = .ok (.aload_n 0, 1) := by decide +kernel
theorem dX4_sumOfSpreads_12 : decode cX4_sumOfSpreads 12 = .ok (.iload_n 2, 1) := by decide +kernel
theorem dX4_sumOfSpreads_13 : decode cX4_sumOfSpreads 13 = .ok (.invokevirtual 135, 3) := by decide +kernel
theorem dX4_sumOfSpreads_16 : decode cX4_sumOfSpreads 16 = .ok (.iadd, 1) := by decide +kernel
theorem dX4_sumOfSpreads_17 : decode cX4_sumOfSpreads 17 = .ok (.istore_n 1, 1) := by decide +kernel
theorem dX4_sumOfSpreads_18 : decode cX4_sumOfSpreads 18 = .ok (.iinc 2 1, 3) := by decide +kernel
theorem dX4_sumOfSpreads_21 : decode cX4_sumOfSpreads 21 = .ok (.goto (-17), 3) := by decide +kernel
theorem dX4_sumOfSpreads_24 : decode cX4_sumOfSpreads 24 = .ok (.iload_n 1, 1) := by decide +kernel
theorem dX4_sumOfSpreads_25 : decode cX4_sumOfSpreads 25 = .ok (.ireturn, 1) := by decide +kernel
theorem dX4_sumWithDrumOn_0 : decode cX4_sumWithDrumOn 0 = .ok (.aload_n 0, 1) := by decide +kernel
theorem dX4_sumWithDrumOn_1 : decode cX4_sumWithDrumOn 1 = .ok (.iload_n 1, 1) := by decide +kernel
theorem dX4_sumWithDrumOn_2 : decode cX4_sumWithDrumOn 2 = .ok (.putfield 9, 3) := by decide +kernel
theorem dX4_sumWithDrumOn_5 : decode cX4_sumWithDrumOn 5 = .ok (.aload_n 0, 1) := by decide +kernel
theorem dX4_sumWithDrumOn_6 : decode cX4_sumWithDrumOn 6 = .ok (.invokevirtual 66, 3) := by decide +kernel
theorem dX4_sumWithDrumOn_9 : decode cX4_sumWithDrumOn 9 = .ok (.aload_n 0, 1) := by decide +kernel
theorem dX4_sumWithDrumOn_10 : decode cX4_sumWithDrumOn 10 = .ok (.invokevirtual 138, 3) := by decide +kernel
theorem dX4_sumWithDrumOn_13 : decode cX4_sumWithDrumOn 13 = .ok (.ireturn, 1) := by decide +kernel
theorem dX4_sumWithout_0 : decode cX4_sumWithout 0 = .ok (.aload_n 0, 1) := by decide +kernel
theorem dX4_sumWithout_1 : decode cX4_sumWithout 1 = .ok (.iload_n 1, 1) := by decide +kernel
theorem dX4_sumWithout_2 : decode cX4_sumWithout 2 = .ok (.putfield 15, 3) := by decide +kernel
theorem dX4_sumWithout_5 : decode cX4_sumWithout 5 = .ok (.aload_n 0, 1) := by decide +kernel
theorem dX4_sumWithout_6 : decode cX4_sumWithout 6 = .ok (.invokevirtual 63, 3) := by decide +kernel
theorem dX4_sumWithout_9 : decode cX4_sumWithout 9 = .ok (.aload_n 0, 1) := by decide +kernel
theorem dX4_sumWithout_10 : decode cX4_sumWithout 10 = .ok (.invokevirtual 66, 3) := by decide +kernel
theorem dX4_sumWithout_13 : decode cX4_sumWithout 13 = .ok (.aload_n 0, 1) := by decide +kernel
theorem dX4_sumWithout_14 : decode cX4_sumWithout 14 = .ok (.invokevirtual 138, 3) := by decide +kernel
theorem dX4_sumWithout_17 : decode cX4_sumWithout 17 = .ok (.ireturn, 1) := by decide +kernel
theorem dX4_arrivalAsKind_0 : decode cX4_arrivalAsKind 0 = .ok (.aload_n 0, 1) := by decide +kernel
theorem dX4_arrivalAsKind_1 : decode cX4_arrivalAsKind 1 = .ok (.getfield 18, 3) := by decide +kernel
theorem dX4_arrivalAsKind_4 : decode cX4_arrivalAsKind 4 = .ok (.iload_n 2, 1) := by decide +kernel
theorem dX4_arrivalAsKind_5 : decode cX4_arrivalAsKind 5 = .ok (.iload_n 3, 1) := by decide +kernel
theorem dX4_arrivalAsKind_6 : decode cX4_arrivalAsKind 6 = .ok (.iastore, 1) := by decide +kernel
theorem dX4_arrivalAsKind_7 : decode cX4_arrivalAsKind 7 = .ok (.aload_n 0, 1) := by decide +kernel
theorem dX4_arrivalAsKind_8 : decode cX4_arrivalAsKind 8 = .ok (.getfield 22, 3) := by decide +kernel
theorem dX4_arrivalAsKind_11 : decode cX4_arrivalAsKind 11 = .ok (.iload_n 2, 1) := by decide +kernel
theorem dX4_arrivalAsKind_12 : decode cX4_arrivalAsKind 12 = .ok (.aload_n 0, 1) := by decide +kernel
theorem dX4_arrivalAsKind_13 : decode cX4_arrivalAsKind 13 = .ok (.iconst 1, 1) := by decide +kernel
theorem dX4_arrivalAsKind_14 : decode cX4_arrivalAsKind 14 = .ok (.iload_n 2, 1) := by decide +kernel
theorem dX4_arrivalAsKind_15 : decode cX4_arrivalAsKind 15 = .ok (.invokevirtual 72, 3) := by decide +kernel
theorem dX4_arrivalAsKind_18 : decode cX4_arrivalAsKind 18 = .ok (.iastore, 1) := by decide +kernel
theorem dX4_arrivalAsKind_19 : decode cX4_arrivalAsKind 19 = .ok (.aload_n 0, 1) := by decide +kernel
theorem dX4_arrivalAsKind_20 : decode cX4_arrivalAsKind 20 = .ok (.invokevirtual 63, 3) := by decide +kernel
theorem dX4_arrivalAsKind_23 : decode cX4_arrivalAsKind 23 = .ok (.aload_n 0, 1) := by decide +kernel
theorem dX4_arrivalAsKind_24 : decode cX4_arrivalAsKind 24 = .ok (.invokevirtual 66, 3) := by decide +kernel
theorem dX4_arrivalAsKind_27 : decode cX4_arrivalAsKind 27 = .ok (.aload_n 0, 1) := by decide +kernel
theorem dX4_arrivalAsKind_28 : decode cX4_arrivalAsKind 28 = .ok (.iload_n 1, 1) := by decide +kernel
theorem dX4_arrivalAsKind_29 : decode cX4_arrivalAsKind 29 = .ok (.iload_n 2, 1) := by decide +kernel
theorem dX4_arrivalAsKind_30 : decode cX4_arrivalAsKind 30 = .ok (.invokevirtual 123, 3) := by decide +kernel
theorem dX4_arrivalAsKind_33 : decode cX4_arrivalAsKind 33 = .ok (.ireturn, 1) := by decide +kernel
theorem dX4_loudTogether_0 : decode cX4_loudTogether 0 = .ok (.iconst (-1), 1) := by decide +kernel
theorem dX4_loudTogether_1 : decode cX4_loudTogether 1 = .ok (.istore_n 3, 1) := by decide +kernel
theorem dX4_loudTogether_2 : decode cX4_loudTogether 2 = .ok (.iconst 0, 1) := by decide +kernel
theorem dX4_loudTogether_3 : decode cX4_loudTogether 3 = .ok (.istore 4, 2) := by decide +kernel
theorem dX4_loudTogether_5 : decode cX4_loudTogether 5 = .ok (.iconst 0, 1) := by decide +kernel
theorem dX4_loudTogether_6 : decode cX4_loudTogether 6 = .ok (.istore 5, 2) := by decide +kernel
theorem dX4_loudTogether_8 : decode cX4_loudTogether 8 = .ok (.iload 5, 2) := by decide +kernel
theorem dX4_loudTogether_10 : decode cX4_loudTogether 10 = .ok (.aload_n 0, 1) := by decide +kernel
theorem dX4_loudTogether_11 : decode cX4_loudTogether 11 = .ok (.getfield 42, 3) := by decide +kernel
theorem dX4_loudTogether_14 : decode cX4_loudTogether 14 = .ok (.getfield 69, 3) := by decide +kernel
theorem dX4_loudTogether_17 : decode cX4_loudTogether 17 = .ok (.if_icmp .ge 36, 3) := by decide +kernel
theorem dX4_loudTogether_20 : decode cX4_loudTogether 20 = .ok (.aload_n 0, 1) := by decide +kernel
theorem dX4_loudTogether_21 : decode cX4_loudTogether 21 = .ok (.iload 5, 2) := by decide +kernel
theorem dX4_loudTogether_23 : decode cX4_loudTogether 23 = .ok (.invokevirtual 141, 3) := by decide +kernel
theorem dX4_loudTogether_26 : decode cX4_loudTogether 26 = .ok (.istore 6, 2) := by decide +kernel
theorem dX4_loudTogether_28 : decode cX4_loudTogether 28 = .ok (.iload_n 3, 1) := by decide +kernel
theorem dX4_loudTogether_29 : decode cX4_loudTogether 29 = .ok (.iconst (-1), 1) := by decide +kernel
theorem dX4_loudTogether_30 : decode cX4_loudTogether 30 = .ok (.if_icmp .eq 10, 3) := by decide +kernel
theorem dX4_loudTogether_33 : decode cX4_loudTogether 33 = .ok (.iload 6, 2) := by decide +kernel
theorem dX4_loudTogether_35 : decode cX4_loudTogether 35 = .ok (.iload 4, 2) := by decide +kernel
theorem dX4_loudTogether_37 : decode cX4_loudTogether 37 = .ok (.if_icmp .le 10, 3) := by decide +kernel
theorem dX4_loudTogether_40 : decode cX4_loudTogether 40 = .ok (.iload 5, 2) := by decide +kernel
theorem dX4_loudTogether_42 : decode cX4_loudTogether 42 = .ok (.istore_n 3, 1) := by decide +kernel
theorem dX4_loudTogether_43 : decode cX4_loudTogether 43 = .ok (.iload 6, 2) := by decide +kernel
theorem dX4_loudTogether_45 : decode cX4_loudTogether 45 = .ok (.istore 4, 2) := by decide +kernel
theorem dX4_loudTogether_47 : decode cX4_loudTogether 47 = .ok (.iinc 5 1, 3) := by decide +kernel
theorem dX4_loudTogether_50 : decode cX4_loudTogether 50 = .ok (.goto (-42), 3) := by decide +kernel
theorem dX4_loudTogether_53 : decode cX4_loudTogether 53 = .ok (.iconst 0, 1) := by decide +kernel
theorem dX4_loudTogether_54 : decode cX4_loudTogether 54 = .ok (.istore 5, 2) := by decide +kernel
theorem dX4_loudTogether_56 : decode cX4_loudTogether 56 = .ok (.iconst 0, 1) := by decide +kernel
theorem dX4_loudTogether_57 : decode cX4_loudTogether 57 = .ok (.istore 6, 2) := by decide +kernel
theorem dX4_loudTogether_59 : decode cX4_loudTogether 59 = .ok (.iload 6, 2) := by decide +kernel
theorem dX4_loudTogether_61 : decode cX4_loudTogether 61 = .ok (.aload_n 0, 1) := by decide +kernel
theorem dX4_loudTogether_62 : decode cX4_loudTogether 62 = .ok (.getfield 42, 3) := by decide +kernel
theorem dX4_loudTogether_65 : decode cX4_loudTogether 65 = .ok (.getfield 69, 3) := by decide +kernel
theorem dX4_loudTogether_68 : decode cX4_loudTogether 68 = .ok (.if_icmp .ge 41, 3) := by decide +kernel
theorem dX4_loudTogether_71 : decode cX4_loudTogether 71 = .ok (.aload_n 0, 1) := by decide +kernel
theorem dX4_loudTogether_72 : decode cX4_loudTogether 72 = .ok (.iload_n 1, 1) := by decide +kernel
theorem dX4_loudTogether_73 : decode cX4_loudTogether 73 = .ok (.iload 6, 2) := by decide +kernel
theorem dX4_loudTogether_75 : decode cX4_loudTogether 75 = .ok (.invokevirtual 123, 3) := by decide +kernel
theorem dX4_loudTogether_78 : decode cX4_loudTogether 78 = .ok (.aload_n 0, 1) := by decide +kernel
theorem dX4_loudTogether_79 : decode cX4_loudTogether 79 = .ok (.iload_n 1, 1) := by decide +kernel
theorem dX4_loudTogether_80 : decode cX4_loudTogether 80 = .ok (.iload_n 3, 1) := by decide +kernel
theorem dX4_loudTogether_81 : decode cX4_loudTogether 81 = .ok (.invokevirtual 123, 3) := by decide +kernel
theorem dX4_loudTogether_84 : decode cX4_loudTogether 84 = .ok (.isub, 1) := by decide +kernel
theorem dX4_loudTogether_85 : decode cX4_loudTogether 85 = .ok (.invokestatic 144, 3) := by decide +kernel
theorem dX4_loudTogether_88 : decode cX4_loudTogether 88 = .ok (.iload_n 2, 1) := by decide +kernel
theorem dX4_loudTogether_89 : decode cX4_loudTogether 89 = .ok (.if_icmp .gt 14, 3) := by decide +kernel
theorem dX4_loudTogether_92 : decode cX4_loudTogether 92 = .ok (.iload 5, 2) := by decide +kernel
theorem dX4_loudTogether_94 : decode cX4_loudTogether 94 = .ok (.aload_n 0, 1) := by decide +kernel
theorem dX4_loudTogether_95 : decode cX4_loudTogether 95 = .ok (.iload 6, 2) := by decide +kernel
theorem dX4_loudTogether_97 : decode cX4_loudTogether 97 = .ok (.invokevirtual 141, 3) := by decide +kernel
theorem dX4_loudTogether_100 : decode cX4_loudTogether 100 = .ok (.iadd, 1) := by decide +kernel
theorem dX4_loudTogether_101 : decode cX4_loudTogether 101 = .ok (.istore 5, 2) := by decide +kernel
theorem dX4_loudTogether_103 : decode cX4_loudTogether 103 = .ok (.iinc 6 1, 3) := by decide +kernel
theorem dX4_loudTogether_106 : decode cX4_loudTogether 106 = .ok (.goto (-47), 3) := by decide +kernel
theorem dX4_loudTogether_109 : decode cX4_loudTogether 109 = .ok (.iload 5, 2) := by decide +kernel
theorem dX4_loudTogether_111 : decode cX4_loudTogether 111 = .ok (.ireturn, 1) := by decide +kernel
theorem dX4_likeDrum_0 : decode cX4_likeDrum 0 = .ok (.iconst 0, 1) := by decide +kernel
theorem dX4_likeDrum_1 : decode cX4_likeDrum 1 = .ok (.istore_n 3, 1) := by decide +kernel
theorem dX4_likeDrum_2 : decode cX4_likeDrum 2 = .ok (.iload_n 3, 1) := by decide +kernel
theorem dX4_likeDrum_3 : decode cX4_likeDrum 3 = .ok (.aload_n 0, 1) := by decide +kernel
theorem dX4_likeDrum_4 : decode cX4_likeDrum 4 = .ok (.getfield 42, 3) := by decide +kernel
theorem dX4_likeDrum_7 : decode cX4_likeDrum 7 = .ok (.getfield 69, 3) := by decide +kernel
theorem dX4_likeDrum_10 : decode cX4_likeDrum 10 = .ok (.if_icmp .ge 16, 3) := by decide +kernel
theorem dX4_likeDrum_13 : decode cX4_likeDrum 13 = .ok (.aload_n 0, 1) := by decide +kernel
theorem dX4_likeDrum_14 : decode cX4_likeDrum 14 = .ok (.getfield 18, 3) := by decide +kernel
theorem dX4_likeDrum_17 : decode cX4_likeDrum 17 = .ok (.iload_n 3, 1) := by decide +kernel
theorem dX4_likeDrum_18 : decode cX4_likeDrum 18 = .ok (.iconst 0, 1) := by decide +kernel
theorem dX4_likeDrum_19 : decode cX4_likeDrum 19 = .ok (.iastore, 1) := by decide +kernel
theorem dX4_likeDrum_20 : decode cX4_likeDrum 20 = .ok (.iinc 3 1, 3) := by decide +kernel
theorem dX4_likeDrum_23 : decode cX4_likeDrum 23 = .ok (.goto (-21), 3) := by decide +kernel
theorem dX4_likeDrum_26 : decode cX4_likeDrum 26 = .ok (.aload_n 0, 1) := by decide +kernel
theorem dX4_likeDrum_27 : decode cX4_likeDrum 27 = .ok (.invokevirtual 60, 3) := by decide +kernel
theorem dX4_likeDrum_30 : decode cX4_likeDrum 30 = .ok (.aload_n 0, 1) := by decide +kernel
theorem dX4_likeDrum_31 : decode cX4_likeDrum 31 = .ok (.invokevirtual 63, 3) := by decide +kernel
theorem dX4_likeDrum_34 : decode cX4_likeDrum 34 = .ok (.aload_n 0, 1) := by decide +kernel
theorem dX4_likeDrum_35 : decode cX4_likeDrum 35 = .ok (.invokevirtual 66, 3) := by decide +kernel
theorem dX4_likeDrum_38 : decode cX4_likeDrum 38 = .ok (.aload_n 0, 1) := by decide +kernel
theorem dX4_likeDrum_39 : decode cX4_likeDrum 39 = .ok (.getfield 46, 3) := by decide +kernel
theorem dX4_likeDrum_42 : decode cX4_likeDrum 42 = .ok (.getfield 111, 3) := by decide +kernel
theorem dX4_likeDrum_45 : decode cX4_likeDrum 45 = .ok (.iload_n 1, 1) := by decide +kernel
theorem dX4_likeDrum_46 : decode cX4_likeDrum 46 = .ok (.invokestatic 117, 3) := by decide +kernel
theorem dX4_likeDrum_49 : decode cX4_likeDrum 49 = .ok (.aload_n 0, 1) := by decide +kernel
theorem dX4_likeDrum_50 : decode cX4_likeDrum 50 = .ok (.getfield 9, 3) := by decide +kernel
theorem dX4_likeDrum_53 : decode cX4_likeDrum 53 = .ok (.invokestatic 114, 3) := by decide +kernel
theorem dX4_likeDrum_56 : decode cX4_likeDrum 56 = .ok (.imul, 1) := by decide +kernel
theorem dX4_likeDrum_57 : decode cX4_likeDrum 57 = .ok (.istore_n 3, 1) := by decide +kernel
theorem dX4_likeDrum_58 : decode cX4_likeDrum 58 = .ok (.iconst 0, 1) := by decide +kernel
theorem dX4_likeDrum_59 : decode cX4_likeDrum 59 = .ok (.istore 4, 2) := by decide +kernel
theorem dX4_likeDrum_61 : decode cX4_likeDrum 61 = .ok (.iconst 0, 1) := by decide +kernel
theorem dX4_likeDrum_62 : decode cX4_likeDrum 62 = .ok (.istore 5, 2) := by decide +kernel
theorem dX4_likeDrum_64 : decode cX4_likeDrum 64 = .ok (.iload 5, 2) := by decide +kernel
theorem dX4_likeDrum_66 : decode cX4_likeDrum 66 = .ok (.aload_n 0, 1) := by decide +kernel
theorem dX4_likeDrum_67 : decode cX4_likeDrum 67 = .ok (.getfield 42, 3) := by decide +kernel
theorem dX4_likeDrum_70 : decode cX4_likeDrum 70 = .ok (.getfield 69, 3) := by decide +kernel
theorem dX4_likeDrum_73 : decode cX4_likeDrum 73 = .ok (.if_icmp .ge 34, 3) := by decide +kernel
theorem dX4_likeDrum_76 : decode cX4_likeDrum 76 = .ok (.aload_n 0, 1) := by decide +kernel
theorem dX4_likeDrum_77 : decode cX4_likeDrum 77 = .ok (.iload_n 1, 1) := by decide +kernel
theorem dX4_likeDrum_78 : decode cX4_likeDrum 78 = .ok (.iload 5, 2) := by decide +kernel
theorem dX4_likeDrum_80 : decode cX4_likeDrum 80 = .ok (.invokevirtual 123, 3) := by decide +kernel
theorem dX4_likeDrum_83 : decode cX4_likeDrum 83 = .ok (.iload_n 3, 1) := by decide +kernel
theorem dX4_likeDrum_84 : decode cX4_likeDrum 84 = .ok (.isub, 1) := by decide +kernel
theorem dX4_likeDrum_85 : decode cX4_likeDrum 85 = .ok (.invokestatic 144, 3) := by decide +kernel
theorem dX4_likeDrum_88 : decode cX4_likeDrum 88 = .ok (.iload_n 2, 1) := by decide +kernel
theorem dX4_likeDrum_89 : decode cX4_likeDrum 89 = .ok (.if_icmp .gt 12, 3) := by decide +kernel
theorem dX4_likeDrum_92 : decode cX4_likeDrum 92 = .ok (.iload 4, 2) := by decide +kernel
theorem dX4_likeDrum_94 : decode cX4_likeDrum 94 = .ok (.iconst 1, 1) := by decide +kernel
theorem dX4_likeDrum_95 : decode cX4_likeDrum 95 = .ok (.iload 5, 2) := by decide +kernel
theorem dX4_likeDrum_97 : decode cX4_likeDrum 97 = .ok (.ishl, 1) := by decide +kernel
theorem dX4_likeDrum_98 : decode cX4_likeDrum 98 = .ok (.ior, 1) := by decide +kernel
theorem dX4_likeDrum_99 : decode cX4_likeDrum 99 = .ok (.istore 4, 2) := by decide +kernel
theorem dX4_likeDrum_101 : decode cX4_likeDrum 101 = .ok (.iinc 5 1, 3) := by decide +kernel
theorem dX4_likeDrum_104 : decode cX4_likeDrum 104 = .ok (.goto (-40), 3) := by decide +kernel
theorem dX4_likeDrum_107 : decode cX4_likeDrum 107 = .ok (.iload 4, 2) := by decide +kernel
theorem dX4_likeDrum_109 : decode cX4_likeDrum 109 = .ok (.ireturn, 1) := by decide +kernel
theorem dX5_init_0 : decode cX5_init 0 = .ok (.aload_n 0, 1) := by decide +kernel
theorem dX5_init_1 : decode cX5_init 1 = .ok (.invokespecial 3, 3) := by decide +kernel
theorem dX5_init_4 : decode cX5_init 4 = .ok (.aload_n 0, 1) := by decide +kernel
theorem dX5_init_5 : decode cX5_init 5 = .ok (.bipush 6, 2) := by decide +kernel
theorem dX5_init_7 : decode cX5_init 7 = .ok (.newarray .int, 2) := by decide +kernel
theorem dX5_init_9 : decode cX5_init 9 = .ok (.putfield 9, 3) := by decide +kernel
theorem dX5_init_12 : decode cX5_init 12 = .ok (.aload_n 0, 1) := by decide +kernel
theorem dX5_init_13 : decode cX5_init 13 = .ok (.bipush 6, 2) := by decide +kernel
theorem dX5_init_15 : decode cX5_init 15 = .ok (.newarray .int, 2) := by decide +kernel
theorem dX5_init_17 : decode cX5_init 17 = .ok (.putfield 15, 3) := by decide +kernel
theorem dX5_init_20 : decode cX5_init 20 = .ok (.aload_n 0, 1) := by decide +kernel
theorem dX5_init_21 : decode cX5_init 21 = .ok (.iconst 0, 1) := by decide +kernel
theorem dX5_init_22 : decode cX5_init 22 = .ok (.putfield 18, 3) := by decide +kernel
theorem dX5_init_25 : decode cX5_init 25 = .ok (.aload_n 0, 1) := by decide +kernel
theorem dX5_init_26 : decode cX5_init 26 = .ok (.iconst 0, 1) := by decide +kernel
theorem dX5_init_27 : decode cX5_init 27 = .ok (.putfield 22, 3) := by decide +kernel
theorem dX5_init_30 : decode cX5_init 30 = .ok (.aload_n 0, 1) := by decide +kernel
theorem dX5_init_31 : decode cX5_init 31 = .ok (.aload_n 1, 1) := by decide +kernel
theorem dX5_init_32 : decode cX5_init 32 = .ok (.putfield 25, 3) := by decide +kernel
theorem dX5_init_35 : decode cX5_init 35 = .ok (.return_, 1) := by decide +kernel
theorem dX5_find_0 : decode cX5_find 0 = .ok (.aload_n 0, 1) := by decide +kernel
theorem dX5_find_1 : decode cX5_find 1 = .ok (.ldc 31, 2) := by decide +kernel
theorem dX5_find_3 : decode cX5_find 3 = .ok (.putfield 18, 3) := by decide +kernel
theorem dX5_find_6 : decode cX5_find 6 = .ok (.aload_n 0, 1) := by decide +kernel
theorem dX5_find_7 : decode cX5_find 7 = .ok (.ldc 31, 2) := by decide +kernel
theorem dX5_find_9 : decode cX5_find 9 = .ok (.putfield 22, 3) := by decide +kernel
theorem dX5_find_12 : decode cX5_find 12 = .ok (.aload_n 0, 1) := by decide +kernel
theorem dX5_find_13 : decode cX5_find 13 = .ok (.iconst 0, 1) := by decide +kernel
theorem dX5_find_14 : decode cX5_find 14 = .ok (.iconst 0, 1) := by decide +kernel
theorem dX5_find_15 : decode cX5_find 15 = .ok (.iconst 0, 1) := by decide +kernel
theorem dX5_find_16 : decode cX5_find 16 = .ok (.iconst 0, 1) := by decide +kernel
theorem dX5_find_17 : decode cX5_find 17 = .ok (.invokevirtual 32, 3) := by decide +kernel
theorem dX5_find_20 : decode cX5_find 20 = .ok (.return_, 1) := by decide +kernel
theorem dX5_tryPlaces_0 : decode cX5_tryPlaces 0 = .ok (.aload_n 0, 1) := by decide +kernel
theorem dX5_tryPlaces_1 : decode cX5_tryPlaces 1 = .ok (.iload_n 3, 1) := by decide +kernel
theorem dX5_tryPlaces_2 : decode cX5_tryPlaces 2 = .ok (.iload 4, 2) := by decide +kernel
theorem dX5_tryPlaces_4 : decode cX5_tryPlaces 4 = .ok (.invokevirtual 36, 3) := by decide +kernel
theorem dX5_tryPlaces_7 : decode cX5_tryPlaces 7 = .ok (.ifCond .ne 4, 3) := by decide +kernel
theorem dX5_tryPlaces_10 : decode cX5_tryPlaces 10 = .ok (.return_, 1) := by decide +kernel
theorem dX5_tryPlaces_11 : decode cX5_tryPlaces 11 = .ok (.iload_n 1, 1) := by decide +kernel
theorem dX5_tryPlaces_12 : decode cX5_tryPlaces 12 = .ok (.aload_n 0, 1) := by decide +kernel
theorem dX5_tryPlaces_13 : decode cX5_tryPlaces 13 = .ok (.getfield 25, 3) := by decide +kernel
theorem dX5_tryPlaces_16 : decode cX5_tryPlaces 16 = .ok (.getfield 40, 3) := by decide +kernel
theorem dX5_tryPlaces_19 : decode cX5_tryPlaces 19 = .ok (.if_icmp .ge 9, 3) := by decide +kernel
theorem dX5_tryPlaces_22 : decode cX5_tryPlaces 22 = .ok (.iload_n 1, 1) := by decide +kernel
theorem dX5_tryPlaces_23 : decode cX5_tryPlaces 23 = .ok (.bipush 6, 2) := by decide +kernel
theorem dX5_tryPlaces_25 : decode cX5_tryPlaces 25 = .ok (.if_icmp .lt 30, 3) := by decide +kernel
theorem dX5_tryPlaces_28 : decode cX5_tryPlaces 28 = .ok (.aload_n 0, 1) := by decide +kernel
theorem dX5_tryPlaces_29 : decode cX5_tryPlaces 29 = .ok (.iload_n 3, 1) := by decide +kernel
theorem dX5_tryPlaces_30 : decode cX5_tryPlaces 30 = .ok (.putfield 18, 3) := by decide +kernel
theorem dX5_tryPlaces_33 : decode cX5_tryPlaces 33 = .ok (.aload_n 0, 1) := by decide +kernel
theorem dX5_tryPlaces_34 : decode cX5_tryPlaces 34 = .ok (.iload 4, 2) := by decide +kernel
theorem dX5_tryPlaces_36 : decode cX5_tryPlaces 36 = .ok (.putfield 22, 3) := by decide +kernel
theorem dX5_tryPlaces_39 : decode cX5_tryPlaces 39 = .ok (.aload_n 0, 1) := by decide +kernel
theorem dX5_tryPlaces_40 : decode cX5_tryPlaces 40 = .ok (.getfield 9, 3) := by decide +kernel
theorem dX5_tryPlaces_43 : decode cX5_tryPlaces 43 = .ok (.iconst 0, 1) := by decide +kernel
theorem dX5_tryPlaces_44 : decode cX5_tryPlaces 44 = .ok (.aload_n 0, 1) := by decide +kernel
theorem dX5_tryPlaces_45 : decode cX5_tryPlaces 45 = .ok (.getfield 15, 3) := by decide +kernel
theorem dX5_tryPlaces_48 : decode cX5_tryPlaces 48 = .ok (.iconst 0, 1) := by decide +kernel
theorem dX5_tryPlaces_49 : decode cX5_tryPlaces 49 = .ok (.bipush 6, 2) := by decide +kernel
theorem dX5_tryPlaces_51 : decode cX5_tryPlaces 51 = .ok (.invokestatic 45, 3) := by decide +kernel
theorem dX5_tryPlaces_54 : decode cX5_tryPlaces 54 = .ok (.return_, 1) := by decide +kernel
theorem dX5_tryPlaces_55 : decode cX5_tryPlaces 55 = .ok (.iconst 0, 1) := by decide +kernel
theorem dX5_tryPlaces_56 : decode cX5_tryPlaces 56 = .ok (.istore 5, 2) := by decide +kernel
theorem dX5_tryPlaces_58 : decode cX5_tryPlaces 58 = .ok (.iload 5, 2) := by decide +kernel
theorem dX5_tryPlaces_60 : decode cX5_tryPlaces 60 = .ok (.aload_n 0, 1) := by decide +kernel
theorem dX5_tryPlaces_61 : decode cX5_tryPlaces 61 = .ok (.getfield 25, 3) := by decide +kernel
theorem dX5_tryPlaces_64 : decode cX5_tryPlaces 64 = .ok (.getfield 40, 3) := by decide +kernel
theorem dX5_tryPlaces_67 : decode cX5_tryPlaces 67 = .ok (.if_icmp .ge 74, 3) := by decide +kernel
theorem dX5_tryPlaces_70 : decode cX5_tryPlaces 70 = .ok (.iload_n 2, 1) := by decide +kernel
theorem dX5_tryPlaces_71 : decode cX5_tryPlaces 71 = .ok (.iload 5, 2) := by decide +kernel
theorem dX5_tryPlaces_73 : decode cX5_tryPlaces 73 = .ok (.ishr, 1) := by decide +kernel
theorem dX5_tryPlaces_74 : decode cX5_tryPlaces 74 = .ok (.iconst 1, 1) := by decide +kernel
theorem dX5_tryPlaces_75 : decode cX5_tryPlaces 75 = .ok (.iand, 1) := by decide +kernel
theorem dX5_tryPlaces_76 : decode cX5_tryPlaces 76 = .ok (.ifCond .ne 59, 3) := by decide +kernel
theorem dX5_tryPlaces_79 : decode cX5_tryPlaces 79 = .ok (.aload_n 0, 1) := by decide +kernel
theorem dX5_tryPlaces_80 : decode cX5_tryPlaces 80 = .ok (.getfield 25, 3) := by decide +kernel
theorem dX5_tryPlaces_83 : decode cX5_tryPlaces 83 = .ok (.getfield 51, 3) := by decide +kernel
theorem dX5_tryPlaces_86 : decode cX5_tryPlaces 86 = .ok (.iload_n 1, 1) := by decide +kernel
theorem dX5_tryPlaces_87 : decode cX5_tryPlaces 87 = .ok (.iaload, 1) := by decide +kernel
theorem dX5_tryPlaces_88 : decode cX5_tryPlaces 88 = .ok (.aload_n 0, 1) := by decide +kernel
theorem dX5_tryPlaces_89 : decode cX5_tryPlaces 89 = .ok (.getfield 25, 3) := by decide +kernel
theorem dX5_tryPlaces_92 : decode cX5_tryPlaces 92 = .ok (.getfield 54, 3) := by decide +kernel
theorem dX5_tryPlaces_95 : decode cX5_tryPlaces 95 = .ok (.iload 5, 2) := by decide +kernel
theorem dX5_tryPlaces_97 : decode cX5_tryPlaces 97 = .ok (.iaload, 1) := by decide +kernel
theorem dX5_tryPlaces_98 : decode cX5_tryPlaces 98 = .ok (.invokestatic 57, 3) := by decide +kernel
theorem dX5_tryPlaces_101 : decode cX5_tryPlaces 101 = .ok (.istore 6, 2) := by decide +kernel
theorem dX5_tryPlaces_103 : decode cX5_tryPlaces 103 = .ok (.aload_n 0, 1) := by decide +kernel
theorem dX5_tryPlaces_104 : decode cX5_tryPlaces 104 = .ok (.getfield 9, 3) := by decide +kernel
theorem dX5_tryPlaces_107 : decode cX5_tryPlaces 107 = .ok (.iload_n 1, 1) := by decide +kernel
theorem dX5_tryPlaces_108 : decode cX5_tryPlaces 108 = .ok (.iload 5, 2) := by decide +kernel
theorem dX5_tryPlaces_110 : decode cX5_tryPlaces 110 = .ok (.iastore, 1) := by decide +kernel
theorem dX5_tryPlaces_111 : decode cX5_tryPlaces 111 = .ok (.aload_n 0, 1) := by decide +kernel
theorem dX5_tryPlaces_112 : decode cX5_tryPlaces 112 = .ok (.iload_n 1, 1) := by decide +kernel
theorem dX5_tryPlaces_113 : decode cX5_tryPlaces 113 = .ok (.iconst 1, 1) := by decide +kernel
theorem dX5_tryPlaces_114 : decode cX5_tryPlaces 114 = .ok (.iadd, 1) := by decide +kernel
theorem dX5_tryPlaces_115 : decode cX5_tryPlaces 115 = .ok (.iload_n 2, 1) := by decide +kernel
theorem dX5_tryPlaces_116 : decode cX5_tryPlaces 116 = .ok (.iconst 1, 1) := by decide +kernel
theorem dX5_tryPlaces_117 : decode cX5_tryPlaces 117 = .ok (.iload 5, 2) := by decide +kernel
theorem dX5_tryPlaces_119 : decode cX5_tryPlaces 119 = .ok (.ishl, 1) := by decide +kernel
theorem dX5_tryPlaces_120 : decode cX5_tryPlaces 120 = .ok (.ior, 1) := by decide +kernel
theorem dX5_tryPlaces_121 : decode cX5_tryPlaces 121 = .ok (.iload_n 3, 1) := by decide +kernel
theorem dX5_tryPlaces_122 : decode cX5_tryPlaces 122 = .ok (.iload 6, 2) := by decide +kernel
theorem dX5_tryPlaces_124 : decode cX5_tryPlaces 124 = .ok (.invokestatic 61, 3) := by decide +kernel
theorem dX5_tryPlaces_127 : decode cX5_tryPlaces 127 = .ok (.iload 4, 2) := by decide +kernel
theorem dX5_tryPlaces_129 : decode cX5_tryPlaces 129 = .ok (.iload 6, 2) := by decide +kernel
theorem dX5_tryPlaces_131 : decode cX5_tryPlaces 131 = .ok (.iadd, 1) := by decide +kernel
theorem dX5_tryPlaces_132 : decode cX5_tryPlaces 132 = .ok (.invokevirtual 32, 3) := by decide +kernel
theorem dX5_tryPlaces_135 : decode cX5_tryPlaces 135 = .ok (.iinc 5 1, 3) := by decide +kernel
theorem dX5_tryPlaces_138 : decode cX5_tryPlaces 138 = .ok (.goto (-80), 3) := by decide +kernel
theorem dX5_tryPlaces_141 : decode cX5_tryPlaces 141 = .ok (.return_, 1) := by decide +kernel
theorem dX5_isBetter_0 : decode cX5_isBetter 0 = .ok (.iload_n 1, 1) := by decide +kernel
theorem dX5_isBetter_1 : decode cX5_isBetter 1 = .ok (.aload_n 0, 1) := by decide +kernel
theorem dX5_isBetter_2 : decode cX5_isBetter 2 = .ok (.getfield 18, 3) := by decide +kernel
theorem dX5_isBetter_5 : decode cX5_isBetter 5 = .ok (.if_icmp .lt 19, 3) := by decide +kernel
theorem dX5_isBetter_8 : decode cX5_isBetter 8 = .ok (.iload_n 1, 1) := by decide +kernel
theorem dX5_isBetter_9 : decode cX5_isBetter 9 = .ok (.aload_n 0, 1) := by decide +kernel
theorem dX5_isBetter_10 : decode cX5_isBetter 10 = .ok (.getfield 18, 3) := by decide +kernel
theorem dX5_isBetter_13 : decode cX5_isBetter 13 = .ok (.if_icmp .ne 15, 3) := by decide +kernel
theorem dX5_isBetter_16 : decode cX5_isBetter 16 = .ok (.iload_n 2, 1) := by decide +kernel
theorem dX5_isBetter_17 : decode cX5_isBetter 17 = .ok (.aload_n 0, 1) := by decide +kernel
theorem dX5_isBetter_18 : decode cX5_isBetter 18 = .ok (.getfield 22, 3) := by decide +kernel
theorem dX5_isBetter_21 : decode cX5_isBetter 21 = .ok (.if_icmp .ge 7, 3) := by decide +kernel
theorem dX5_isBetter_24 : decode cX5_isBetter 24 = .ok (.iconst 1, 1) := by decide +kernel
theorem dX5_isBetter_25 : decode cX5_isBetter 25 = .ok (.goto 4, 3) := by decide +kernel
theorem dX5_isBetter_28 : decode cX5_isBetter 28 = .ok (.iconst 0, 1) := by decide +kernel
theorem dX5_isBetter_29 : decode cX5_isBetter 29 = .ok (.ireturn, 1) := by decide +kernel
