theorem d_ED_init_0 : decode c_ED_init 0 = .ok (.aload_n 0, 1) := by decide +kernel
theorem d_ED_init_1 : decode c_ED_init 1 = .ok (.invokespecial 3, 3) := by decide +kernel
theorem d_ED_init_4 : decode c_ED_init 4 = .ok (.aload_n 0, 1) := by decide +kernel
theorem d_ED_init_5 : decode c_ED_init 5 = .ok (.bipush 25, 2) := by decide +kernel
theorem d_ED_init_7 : decode c_ED_init 7 = .ok (.bipush 25, 2) := by decide +kernel
theorem d_ED_init_9 : decode c_ED_init 9 = .ok (.multianewarray 9 2, 4) := by decide +kernel
theorem d_ED_init_13 : decode c_ED_init 13 = .ok (.putfield 11, 3) := by decide +kernel
theorem d_ED_init_16 : decode c_ED_init 16 = .ok (.aload_n 0, 1) := by decide +kernel
theorem d_ED_init_17 : decode c_ED_init 17 = .ok (.bipush 24, 2) := by decide +kernel
theorem d_ED_init_19 : decode c_ED_init 19 = .ok (.bipush 24, 2) := by decide +kernel
theorem d_ED_init_21 : decode c_ED_init 21 = .ok (.multianewarray 9 2, 4) := by decide +kernel
theorem d_ED_init_25 : decode c_ED_init 25 = .ok (.putfield 16, 3) := by decide +kernel
theorem d_ED_init_28 : decode c_ED_init 28 = .ok (.return_, 1) := by decide +kernel
theorem d_ED_compute_0 : decode c_ED_compute 0 = .ok (.aload_n 1, 1) := by decide +kernel
theorem d_ED_compute_1 : decode c_ED_compute 1 = .ok (.getfield 19, 3) := by decide +kernel
theorem d_ED_compute_4 : decode c_ED_compute 4 = .ok (.getfield 25, 3) := by decide +kernel
theorem d_ED_compute_7 : decode c_ED_compute 7 = .ok (.iconst 1, 1) := by decide +kernel
theorem d_ED_compute_8 : decode c_ED_compute 8 = .ok (.isub, 1) := by decide +kernel
theorem d_ED_compute_9 : decode c_ED_compute 9 = .ok (.istore_n 2, 1) := by decide +kernel
theorem d_ED_compute_10 : decode c_ED_compute 10 = .ok (.iload_n 2, 1) := by decide +kernel
theorem d_ED_compute_11 : decode c_ED_compute 11 = .ok (.ifCond .lt 58, 3) := by decide +kernel
theorem d_ED_compute_14 : decode c_ED_compute 14 = .ok (.aload_n 1, 1) := by decide +kernel
theorem d_ED_compute_15 : decode c_ED_compute 15 = .ok (.getfield 31, 3) := by decide +kernel
theorem d_ED_compute_18 : decode c_ED_compute 18 = .ok (.getfield 25, 3) := by decide +kernel
theorem d_ED_compute_21 : decode c_ED_compute 21 = .ok (.iconst 1, 1) := by decide +kernel
theorem d_ED_compute_22 : decode c_ED_compute 22 = .ok (.isub, 1) := by decide +kernel
theorem d_ED_compute_23 : decode c_ED_compute 23 = .ok (.istore_n 3, 1) := by decide +kernel
theorem d_ED_compute_24 : decode c_ED_compute 24 = .ok (.iload_n 3, 1) := by decide +kernel
theorem d_ED_compute_25 : decode c_ED_compute 25 = .ok (.ifCond .lt 38, 3) := by decide +kernel
theorem d_ED_compute_28 : decode c_ED_compute 28 = .ok (.aload_n 1, 1) := by decide +kernel
theorem d_ED_compute_29 : decode c_ED_compute 29 = .ok (.getfield 19, 3) := by decide +kernel
theorem d_ED_compute_32 : decode c_ED_compute 32 = .ok (.iload_n 2, 1) := by decide +kernel
theorem d_ED_compute_33 : decode c_ED_compute 33 = .ok (.invokestatic 34, 3) := by decide +kernel
theorem d_ED_compute_36 : decode c_ED_compute 36 = .ok (.ifCond .eq 21, 3) := by decide +kernel
theorem d_ED_compute_39 : decode c_ED_compute 39 = .ok (.aload_n 1, 1) := by decide +kernel
theorem d_ED_compute_40 : decode c_ED_compute 40 = .ok (.getfield 31, 3) := by decide +kernel
theorem d_ED_compute_43 : decode c_ED_compute 43 = .ok (.iload_n 3, 1) := by decide +kernel
theorem d_ED_compute_44 : decode c_ED_compute 44 = .ok (.invokestatic 34, 3) := by decide +kernel
theorem d_ED_compute_47 : decode c_ED_compute 47 = .ok (.ifCond .eq 10, 3) := by decide +kernel
theorem d_ED_compute_50 : decode c_ED_compute 50 = .ok (.aload_n 0, 1) := by decide +kernel
theorem d_ED_compute_51 : decode c_ED_compute 51 = .ok (.aload_n 1, 1) := by decide +kernel
theorem d_ED_compute_52 : decode c_ED_compute 52 = .ok (.iload_n 2, 1) := by decide +kernel
theorem d_ED_compute_53 : decode c_ED_compute 53 = .ok (.iload_n 3, 1) := by decide +kernel
theorem d_ED_compute_54 : decode c_ED_compute 54 = .ok (.invokevirtual 38, 3) := by decide +kernel
theorem d_ED_compute_57 : decode c_ED_compute 57 = .ok (.iinc 3 (-1), 3) := by decide +kernel
theorem d_ED_compute_60 : decode c_ED_compute 60 = .ok (.goto (-36), 3) := by decide +kernel
theorem d_ED_compute_63 : decode c_ED_compute 63 = .ok (.iinc 2 (-1), 3) := by decide +kernel
theorem d_ED_compute_66 : decode c_ED_compute 66 = .ok (.goto (-56), 3) := by decide +kernel
theorem d_ED_compute_69 : decode c_ED_compute 69 = .ok (.aload_n 0, 1) := by decide +kernel
theorem d_ED_compute_70 : decode c_ED_compute 70 = .ok (.getfield 16, 3) := by decide +kernel
theorem d_ED_compute_73 : decode c_ED_compute 73 = .ok (.iconst 0, 1) := by decide +kernel
theorem d_ED_compute_74 : decode c_ED_compute 74 = .ok (.aaload, 1) := by decide +kernel
theorem d_ED_compute_75 : decode c_ED_compute 75 = .ok (.iconst 0, 1) := by decide +kernel
theorem d_ED_compute_76 : decode c_ED_compute 76 = .ok (.iaload, 1) := by decide +kernel
theorem d_ED_compute_77 : decode c_ED_compute 77 = .ok (.ireturn, 1) := by decide +kernel
theorem d_ED_isKey_0 : decode c_ED_isKey 0 = .ok (.aload_n 0, 1) := by decide +kernel
theorem d_ED_isKey_1 : decode c_ED_isKey 1 = .ok (.getfield 42, 3) := by decide +kernel
theorem d_ED_isKey_4 : decode c_ED_isKey 4 = .ok (.iload_n 1, 1) := by decide +kernel
theorem d_ED_isKey_5 : decode c_ED_isKey 5 = .ok (.iaload, 1) := by decide +kernel
theorem d_ED_isKey_6 : decode c_ED_isKey 6 = .ok (.istore_n 2, 1) := by decide +kernel
theorem d_ED_isKey_7 : decode c_ED_isKey 7 = .ok (.iload_n 2, 1) := by decide +kernel
theorem d_ED_isKey_8 : decode c_ED_isKey 8 = .ok (.ifCond .lt 16, 3) := by decide +kernel
theorem d_ED_isKey_11 : decode c_ED_isKey 11 = .ok (.aload_n 0, 1) := by decide +kernel
theorem d_ED_isKey_12 : decode c_ED_isKey 12 = .ok (.iload_n 2, 1) := by decide +kernel
theorem d_ED_isKey_13 : decode c_ED_isKey 13 = .ok (.invokevirtual 46, 3) := by decide +kernel
theorem d_ED_isKey_16 : decode c_ED_isKey 16 = .ok (.aload_n 0, 1) := by decide +kernel
theorem d_ED_isKey_17 : decode c_ED_isKey 17 = .ok (.iload_n 1, 1) := by decide +kernel
theorem d_ED_isKey_18 : decode c_ED_isKey 18 = .ok (.invokevirtual 46, 3) := by decide +kernel
theorem d_ED_isKey_21 : decode c_ED_isKey 21 = .ok (.if_icmp .eq 7, 3) := by decide +kernel
theorem d_ED_isKey_24 : decode c_ED_isKey 24 = .ok (.iconst 1, 1) := by decide +kernel
theorem d_ED_isKey_25 : decode c_ED_isKey 25 = .ok (.goto 4, 3) := by decide +kernel
theorem d_ED_isKey_28 : decode c_ED_isKey 28 = .ok (.iconst 0, 1) := by decide +kernel
theorem d_ED_isKey_29 : decode c_ED_isKey 29 = .ok (.ireturn, 1) := by decide +kernel
theorem d_ED_compareSubtrees_0 : decode c_ED_compareSubtrees 0 = .ok (.aload_n 1, 1) := by decide +kernel
theorem d_ED_compareSubtrees_1 : decode c_ED_compareSubtrees 1 = .ok (.getfield 19, 3) := by decide +kernel
theorem d_ED_compareSubtrees_4 : decode c_ED_compareSubtrees 4 = .ok (.iload_n 2, 1) := by decide +kernel
theorem d_ED_compareSubtrees_5 : decode c_ED_compareSubtrees 5 = .ok (.invokevirtual 46, 3) := by decide +kernel
theorem d_ED_compareSubtrees_8 : decode c_ED_compareSubtrees 8 = .ok (.istore 4, 2) := by decide +kernel
theorem d_ED_compareSubtrees_10 : decode c_ED_compareSubtrees 10 = .ok (.aload_n 1, 1) := by decide +kernel
theorem d_ED_compareSubtrees_11 : decode c_ED_compareSubtrees 11 = .ok (.getfield 31, 3) := by decide +kernel
theorem d_ED_compareSubtrees_14 : decode c_ED_compareSubtrees 14 = .ok (.iload_n 3, 1) := by decide +kernel
theorem d_ED_compareSubtrees_15 : decode c_ED_compareSubtrees 15 = .ok (.invokevirtual 46, 3) := by decide +kernel
theorem d_ED_compareSubtrees_18 : decode c_ED_compareSubtrees 18 = .ok (.istore 5, 2) := by decide +kernel
theorem d_ED_compareSubtrees_20 : decode c_ED_compareSubtrees 20 = .ok (.iload 4, 2) := by decide +kernel
theorem d_ED_compareSubtrees_22 : decode c_ED_compareSubtrees 22 = .ok (.istore 6, 2) := by decide +kernel
theorem d_ED_compareSubtrees_24 : decode c_ED_compareSubtrees 24 = .ok (.iload 6, 2) := by decide +kernel
theorem d_ED_compareSubtrees_26 : decode c_ED_compareSubtrees 26 = .ok (.iload_n 2, 1) := by decide +kernel
theorem d_ED_compareSubtrees_27 : decode c_ED_compareSubtrees 27 = .ok (.if_icmp .lt 24, 3) := by decide +kernel
theorem d_ED_compareSubtrees_30 : decode c_ED_compareSubtrees 30 = .ok (.aload_n 0, 1) := by decide +kernel
theorem d_ED_compareSubtrees_31 : decode c_ED_compareSubtrees 31 = .ok (.getfield 11, 3) := by decide +kernel
theorem d_ED_compareSubtrees_34 : decode c_ED_compareSubtrees 34 = .ok (.iload 6, 2) := by decide +kernel
theorem d_ED_compareSubtrees_36 : decode c_ED_compareSubtrees 36 = .ok (.aaload, 1) := by decide +kernel
theorem d_ED_compareSubtrees_37 : decode c_ED_compareSubtrees 37 = .ok (.iload 5, 2) := by decide +kernel
theorem d_ED_compareSubtrees_39 : decode c_ED_compareSubtrees 39 = .ok (.iload 4, 2) := by decide +kernel
theorem d_ED_compareSubtrees_41 : decode c_ED_compareSubtrees 41 = .ok (.iload 6, 2) := by decide +kernel
theorem d_ED_compareSubtrees_43 : decode c_ED_compareSubtrees 43 = .ok (.isub, 1) := by decide +kernel
theorem d_ED_compareSubtrees_44 : decode c_ED_compareSubtrees 44 = .ok (.iastore, 1) := by decide +kernel
theorem d_ED_compareSubtrees_45 : decode c_ED_compareSubtrees 45 = .ok (.iinc 6 (-1), 3) := by decide +kernel
theorem d_ED_compareSubtrees_48 : decode c_ED_compareSubtrees 48 = .ok (.goto (-24), 3) := by decide +kernel
theorem d_ED_compareSubtrees_51 : decode c_ED_compareSubtrees 51 = .ok (.iload 5, 2) := by decide +kernel
theorem d_ED_compareSubtrees_53 : decode c_ED_compareSubtrees 53 = .ok (.istore 6, 2) := by decide +kernel
theorem d_ED_compareSubtrees_55 : decode c_ED_compareSubtrees 55 = .ok (.iload 6, 2) := by decide +kernel
theorem d_ED_compareSubtrees_57 : decode c_ED_compareSubtrees 57 = .ok (.iload_n 3, 1) := by decide +kernel
theorem d_ED_compareSubtrees_58 : decode c_ED_compareSubtrees 58 = .ok (.if_icmp .lt 24, 3) := by decide +kernel
theorem d_ED_compareSubtrees_61 : decode c_ED_compareSubtrees 61 = .ok (.aload_n 0, 1) := by decide +kernel
theorem d_ED_compareSubtrees_62 : decode c_ED_compareSubtrees 62 = .ok (.getfield 11, 3) := by decide +kernel
theorem d_ED_compareSubtrees_65 : decode c_ED_compareSubtrees 65 = .ok (.iload 4, 2) := by decide +kernel
theorem d_ED_compareSubtrees_67 : decode c_ED_compareSubtrees 67 = .ok (.aaload, 1) := by decide +kernel
theorem d_ED_compareSubtrees_68 : decode c_ED_compareSubtrees 68 = .ok (.iload 6, 2) := by decide +kernel
theorem d_ED_compareSubtrees_70 : decode c_ED_compareSubtrees 70 = .ok (.iload 5, 2) := by decide +kernel
theorem d_ED_compareSubtrees_72 : decode c_ED_compareSubtrees 72 = .ok (.iload 6, 2) := by decide +kernel
theorem d_ED_compareSubtrees_74 : decode c_ED_compareSubtrees 74 = .ok (.isub, 1) := by decide +kernel
theorem d_ED_compareSubtrees_75 : decode c_ED_compareSubtrees 75 = .ok (.iastore, 1) := by decide +kernel
theorem d_ED_compareSubtrees_76 : decode c_ED_compareSubtrees 76 = .ok (.iinc 6 (-1), 3) := by decide +kernel
theorem d_ED_compareSubtrees_79 : decode c_ED_compareSubtrees 79 = .ok (.goto (-24), 3) := by decide +kernel
theorem d_ED_compareSubtrees_82 : decode c_ED_compareSubtrees 82 = .ok (.iload 4, 2) := by decide +kernel
theorem d_ED_compareSubtrees_84 : decode c_ED_compareSubtrees 84 = .ok (.iconst 1, 1) := by decide +kernel
theorem d_ED_compareSubtrees_85 : decode c_ED_compareSubtrees 85 = .ok (.isub, 1) := by decide +kernel
theorem d_ED_compareSubtrees_86 : decode c_ED_compareSubtrees 86 = .ok (.istore 6, 2) := by decide +kernel
theorem d_ED_compareSubtrees_88 : decode c_ED_compareSubtrees 88 = .ok (.iload 6, 2) := by decide +kernel
theorem d_ED_compareSubtrees_90 : decode c_ED_compareSubtrees 90 = .ok (.iload_n 2, 1) := by decide +kernel
theorem d_ED_compareSubtrees_91 : decode c_ED_compareSubtrees 91 = .ok (.if_icmp .lt 180, 3) := by decide +kernel
theorem d_ED_compareSubtrees_94 : decode c_ED_compareSubtrees 94 = .ok (.iload 5, 2) := by decide +kernel
theorem d_ED_compareSubtrees_96 : decode c_ED_compareSubtrees 96 = .ok (.iconst 1, 1) := by decide +kernel
theorem d_ED_compareSubtrees_97 : decode c_ED_compareSubtrees 97 = .ok (.isub, 1) := by decide +kernel
theorem d_ED_compareSubtrees_98 : decode c_ED_compareSubtrees 98 = .ok (.istore 7, 2) := by decide +kernel
theorem d_ED_compareSubtrees_100 : decode c_ED_compareSubtrees 100 = .ok (.iload 7, 2) := by decide +kernel
theorem d_ED_compareSubtrees_102 : decode c_ED_compareSubtrees 102 = .ok (.iload_n 3, 1) := by decide +kernel
theorem d_ED_compareSubtrees_103 : decode c_ED_compareSubtrees 103 = .ok (.if_icmp .lt 162, 3) := by decide +kernel
theorem d_ED_compareSubtrees_106 : decode c_ED_compareSubtrees 106 = .ok (.aload_n 0, 1) := by decide +kernel
theorem d_ED_compareSubtrees_107 : decode c_ED_compareSubtrees 107 = .ok (.getfield 11, 3) := by decide +kernel
theorem d_ED_compareSubtrees_110 : decode c_ED_compareSubtrees 110 = .ok (.iload 6, 2) := by decide +kernel
theorem d_ED_compareSubtrees_112 : decode c_ED_compareSubtrees 112 = .ok (.iconst 1, 1) := by decide +kernel
theorem d_ED_compareSubtrees_113 : decode c_ED_compareSubtrees 113 = .ok (.iadd, 1) := by decide +kernel
theorem d_ED_compareSubtrees_114 : decode c_ED_compareSubtrees 114 = .ok (.aaload, 1) := by decide +kernel
theorem d_ED_compareSubtrees_115 : decode c_ED_compareSubtrees 115 = .ok (.iload 7, 2) := by decide +kernel
theorem d_ED_compareSubtrees_117 : decode c_ED_compareSubtrees 117 = .ok (.iaload, 1) := by decide +kernel
theorem d_ED_compareSubtrees_118 : decode c_ED_compareSubtrees 118 = .ok (.aload_n 0, 1) := by decide +kernel
theorem d_ED_compareSubtrees_119 : decode c_ED_compareSubtrees 119 = .ok (.getfield 11, 3) := by decide +kernel
theorem d_ED_compareSubtrees_122 : decode c_ED_compareSubtrees 122 = .ok (.iload 6, 2) := by decide +kernel
theorem d_ED_compareSubtrees_124 : decode c_ED_compareSubtrees 124 = .ok (.aaload, 1) := by decide +kernel
theorem d_ED_compareSubtrees_125 : decode c_ED_compareSubtrees 125 = .ok (.iload 7, 2) := by decide +kernel
theorem d_ED_compareSubtrees_127 : decode c_ED_compareSubtrees 127 = .ok (.iconst 1, 1) := by decide +kernel
theorem d_ED_compareSubtrees_128 : decode c_ED_compareSubtrees 128 = .ok (.iadd, 1) := by decide +kernel
theorem d_ED_compareSubtrees_129 : decode c_ED_compareSubtrees 129 = .ok (.iaload, 1) := by decide +kernel
theorem d_ED_compareSubtrees_130 : decode c_ED_compareSubtrees 130 = .ok (.invokestatic 50, 3) := by decide +kernel
theorem d_ED_compareSubtrees_133 : decode c_ED_compareSubtrees 133 = .ok (.iconst 1, 1) := by decide +kernel
theorem d_ED_compareSubtrees_134 : decode c_ED_compareSubtrees 134 = .ok (.iadd, 1) := by decide +kernel
theorem d_ED_compareSubtrees_135 : decode c_ED_compareSubtrees 135 = .ok (.istore 8, 2) := by decide +kernel
theorem d_ED_compareSubtrees_137 : decode c_ED_compareSubtrees 137 = .ok (.aload_n 1, 1) := by decide +kernel
theorem d_ED_compareSubtrees_138 : decode c_ED_compareSubtrees 138 = .ok (.getfield 19, 3) := by decide +kernel
theorem d_ED_compareSubtrees_141 : decode c_ED_compareSubtrees 141 = .ok (.iload 6, 2) := by decide +kernel
theorem d_ED_compareSubtrees_143 : decode c_ED_compareSubtrees 143 = .ok (.invokevirtual 46, 3) := by decide +kernel
theorem d_ED_compareSubtrees_146 : decode c_ED_compareSubtrees 146 = .ok (.istore 9, 2) := by decide +kernel
theorem d_ED_compareSubtrees_148 : decode c_ED_compareSubtrees 148 = .ok (.aload_n 1, 1) := by decide +kernel
theorem d_ED_compareSubtrees_149 : decode c_ED_compareSubtrees 149 = .ok (.getfield 31, 3) := by decide +kernel
theorem d_ED_compareSubtrees_152 : decode c_ED_compareSubtrees 152 = .ok (.iload 7, 2) := by decide +kernel
theorem d_ED_compareSubtrees_154 : decode c_ED_compareSubtrees 154 = .ok (.invokevirtual 46, 3) := by decide +kernel
theorem d_ED_compareSubtrees_157 : decode c_ED_compareSubtrees 157 = .ok (.istore 10, 2) := by decide +kernel
theorem d_ED_compareSubtrees_159 : decode c_ED_compareSubtrees 159 = .ok (.iload 9, 2) := by decide +kernel
theorem d_ED_compareSubtrees_161 : decode c_ED_compareSubtrees 161 = .ok (.iload 4, 2) := by decide +kernel
theorem d_ED_compareSubtrees_163 : decode c_ED_compareSubtrees 163 = .ok (.if_icmp .ne 60, 3) := by decide +kernel
theorem d_ED_compareSubtrees_166 : decode c_ED_compareSubtrees 166 = .ok (.iload 10, 2) := by decide +kernel
theorem d_ED_compareSubtrees_168 : decode c_ED_compareSubtrees 168 = .ok (.iload 5, 2) := by decide +kernel
theorem d_ED_compareSubtrees_170 : decode c_ED_compareSubtrees 170 = .ok (.if_icmp .ne 53, 3) := by decide +kernel
theorem d_ED_compareSubtrees_173 : decode c_ED_compareSubtrees 173 = .ok (.aload_n 1, 1) := by decide +kernel
theorem d_ED_compareSubtrees_174 : decode c_ED_compareSubtrees 174 = .ok (.iload 6, 2) := by decide +kernel
theorem d_ED_compareSubtrees_176 : decode c_ED_compareSubtrees 176 = .ok (.iload 7, 2) := by decide +kernel
theorem d_ED_compareSubtrees_178 : decode c_ED_compareSubtrees 178 = .ok (.invokevirtual 56, 3) := by decide +kernel
theorem d_ED_compareSubtrees_181 : decode c_ED_compareSubtrees 181 = .ok (.ifCond .eq 7, 3) := by decide +kernel
theorem d_ED_compareSubtrees_184 : decode c_ED_compareSubtrees 184 = .ok (.iconst 0, 1) := by decide +kernel
theorem d_ED_compareSubtrees_185 : decode c_ED_compareSubtrees 185 = .ok (.goto 4, 3) := by decide +kernel
theorem d_ED_compareSubtrees_188 : decode c_ED_compareSubtrees 188 = .ok (.iconst 1, 1) := by decide +kernel
theorem d_ED_compareSubtrees_189 : decode c_ED_compareSubtrees 189 = .ok (.istore 11, 2) := by decide +kernel
theorem d_ED_compareSubtrees_191 : decode c_ED_compareSubtrees 191 = .ok (.aload_n 0, 1) := by decide +kernel
theorem d_ED_compareSubtrees_192 : decode c_ED_compareSubtrees 192 = .ok (.getfield 16, 3) := by decide +kernel
theorem d_ED_compareSubtrees_195 : decode c_ED_compareSubtrees 195 = .ok (.iload 6, 2) := by decide +kernel
theorem d_ED_compareSubtrees_197 : decode c_ED_compareSubtrees 197 = .ok (.aaload, 1) := by decide +kernel
theorem d_ED_compareSubtrees_198 : decode c_ED_compareSubtrees 198 = .ok (.iload 7, 2) := by decide +kernel
theorem d_ED_compareSubtrees_200 : decode c_ED_compareSubtrees 200 = .ok (.iload 8, 2) := by decide +kernel
theorem d_ED_compareSubtrees_202 : decode c_ED_compareSubtrees 202 = .ok (.aload_n 0, 1) := by decide +kernel
theorem d_ED_compareSubtrees_203 : decode c_ED_compareSubtrees 203 = .ok (.getfield 11, 3) := by decide +kernel
theorem d_ED_compareSubtrees_206 : decode c_ED_compareSubtrees 206 = .ok (.iload 6, 2) := by decide +kernel
theorem d_ED_compareSubtrees_208 : decode c_ED_compareSubtrees 208 = .ok (.iconst 1, 1) := by decide +kernel
theorem d_ED_compareSubtrees_209 : decode c_ED_compareSubtrees 209 = .ok (.iadd, 1) := by decide +kernel
theorem d_ED_compareSubtrees_210 : decode c_ED_compareSubtrees 210 = .ok (.aaload, 1) := by decide +kernel
theorem d_ED_compareSubtrees_211 : decode c_ED_compareSubtrees 211 = .ok (.iload 7, 2) := by decide +kernel
theorem d_ED_compareSubtrees_213 : decode c_ED_compareSubtrees 213 = .ok (.iconst 1, 1) := by decide +kernel
theorem d_ED_compareSubtrees_214 : decode c_ED_compareSubtrees 214 = .ok (.iadd, 1) := by decide +kernel
theorem d_ED_compareSubtrees_215 : decode c_ED_compareSubtrees 215 = .ok (.iaload, 1) := by decide +kernel
theorem d_ED_compareSubtrees_216 : decode c_ED_compareSubtrees 216 = .ok (.iload 11, 2) := by decide +kernel
theorem d_ED_compareSubtrees_218 : decode c_ED_compareSubtrees 218 = .ok (.iadd, 1) := by decide +kernel
theorem d_ED_compareSubtrees_219 : decode c_ED_compareSubtrees 219 = .ok (.invokestatic 50, 3) := by decide +kernel
theorem d_ED_compareSubtrees_222 : decode c_ED_compareSubtrees 222 = .ok (.iastore, 1) := by decide +kernel
theorem d_ED_compareSubtrees_223 : decode c_ED_compareSubtrees 223 = .ok (.aload_n 0, 1) := by decide +kernel
theorem d_ED_compareSubtrees_224 : decode c_ED_compareSubtrees 224 = .ok (.getfield 11, 3) := by decide +kernel
theorem d_ED_compareSubtrees_227 : decode c_ED_compareSubtrees 227 = .ok (.iload 6, 2) := by decide +kernel
theorem d_ED_compareSubtrees_229 : decode c_ED_compareSubtrees 229 = .ok (.aaload, 1) := by decide +kernel
theorem d_ED_compareSubtrees_230 : decode c_ED_compareSubtrees 230 = .ok (.iload 7, 2) := by decide +kernel
theorem d_ED_compareSubtrees_232 : decode c_ED_compareSubtrees 232 = .ok (.iload 8, 2) := by decide +kernel
theorem d_ED_compareSubtrees_234 : decode c_ED_compareSubtrees 234 = .ok (.aload_n 0, 1) := by decide +kernel
theorem d_ED_compareSubtrees_235 : decode c_ED_compareSubtrees 235 = .ok (.getfield 11, 3) := by decide +kernel
theorem d_ED_compareSubtrees_238 : decode c_ED_compareSubtrees 238 = .ok (.iload 9, 2) := by decide +kernel
theorem d_ED_compareSubtrees_240 : decode c_ED_compareSubtrees 240 = .ok (.aaload, 1) := by decide +kernel
theorem d_ED_compareSubtrees_241 : decode c_ED_compareSubtrees 241 = .ok (.iload 10, 2) := by decide +kernel
theorem d_ED_compareSubtrees_243 : decode c_ED_compareSubtrees 243 = .ok (.iaload, 1) := by decide +kernel
theorem d_ED_compareSubtrees_244 : decode c_ED_compareSubtrees 244 = .ok (.aload_n 0, 1) := by decide +kernel
theorem d_ED_compareSubtrees_245 : decode c_ED_compareSubtrees 245 = .ok (.getfield 16, 3) := by decide +kernel
theorem d_ED_compareSubtrees_248 : decode c_ED_compareSubtrees 248 = .ok (.iload 6, 2) := by decide +kernel
theorem d_ED_compareSubtrees_250 : decode c_ED_compareSubtrees 250 = .ok (.aaload, 1) := by decide +kernel
theorem d_ED_compareSubtrees_251 : decode c_ED_compareSubtrees 251 = .ok (.iload 7, 2) := by decide +kernel
theorem d_ED_compareSubtrees_253 : decode c_ED_compareSubtrees 253 = .ok (.iaload, 1) := by decide +kernel
theorem d_ED_compareSubtrees_254 : decode c_ED_compareSubtrees 254 = .ok (.iadd, 1) := by decide +kernel
theorem d_ED_compareSubtrees_255 : decode c_ED_compareSubtrees 255 = .ok (.invokestatic 50, 3) := by decide +kernel
theorem d_ED_compareSubtrees_258 : decode c_ED_compareSubtrees 258 = .ok (.iastore, 1) := by decide +kernel
theorem d_ED_compareSubtrees_259 : decode c_ED_compareSubtrees 259 = .ok (.iinc 7 (-1), 3) := by decide +kernel
theorem d_ED_compareSubtrees_262 : decode c_ED_compareSubtrees 262 = .ok (.goto (-162), 3) := by decide +kernel
theorem d_ED_compareSubtrees_265 : decode c_ED_compareSubtrees 265 = .ok (.iinc 6 (-1), 3) := by decide +kernel
theorem d_ED_compareSubtrees_268 : decode c_ED_compareSubtrees 268 = .ok (.goto (-180), 3) := by decide +kernel
theorem d_ED_compareSubtrees_271 : decode c_ED_compareSubtrees 271 = .ok (.return_, 1) := by decide +kernel
theorem d_Ma_init_0 : decode c_Ma_init 0 = .ok (.aload_n 0, 1) := by decide +kernel
theorem d_Ma_init_1 : decode c_Ma_init 1 = .ok (.invokespecial 3, 3) := by decide +kernel
theorem d_Ma_init_4 : decode c_Ma_init 4 = .ok (.aload_n 0, 1) := by decide +kernel
theorem d_Ma_init_5 : decode c_Ma_init 5 = .ok (.iconst 0, 1) := by decide +kernel
theorem d_Ma_init_6 : decode c_Ma_init 6 = .ok (.putfield 9, 3) := by decide +kernel
theorem d_Ma_init_9 : decode c_Ma_init 9 = .ok (.aload_n 0, 1) := by decide +kernel
theorem d_Ma_init_10 : decode c_Ma_init 10 = .ok (.bipush 24, 2) := by decide +kernel
theorem d_Ma_init_12 : decode c_Ma_init 12 = .ok (.newarray .int, 2) := by decide +kernel
theorem d_Ma_init_14 : decode c_Ma_init 14 = .ok (.putfield 15, 3) := by decide +kernel
theorem d_Ma_init_17 : decode c_Ma_init 17 = .ok (.aload_n 0, 1) := by decide +kernel
theorem d_Ma_init_18 : decode c_Ma_init 18 = .ok (.bipush 24, 2) := by decide +kernel
theorem d_Ma_init_20 : decode c_Ma_init 20 = .ok (.newarray .int, 2) := by decide +kernel
theorem d_Ma_init_22 : decode c_Ma_init 22 = .ok (.putfield 19, 3) := by decide +kernel
theorem d_Ma_init_25 : decode c_Ma_init 25 = .ok (.aload_n 0, 1) := by decide +kernel
theorem d_Ma_init_26 : decode c_Ma_init 26 = .ok (.bipush 24, 2) := by decide +kernel
theorem d_Ma_init_28 : decode c_Ma_init 28 = .ok (.newarray .int, 2) := by decide +kernel
theorem d_Ma_init_30 : decode c_Ma_init 30 = .ok (.putfield 22, 3) := by decide +kernel
theorem d_Ma_init_33 : decode c_Ma_init 33 = .ok (.return_, 1) := by decide +kernel
theorem d_Ma_find_0 : decode c_Ma_find 0 = .ok (.aload_n 0, 1) := by decide +kernel
theorem d_Ma_find_1 : decode c_Ma_find 1 = .ok (.iconst 0, 1) := by decide +kernel
theorem d_Ma_find_2 : decode c_Ma_find 2 = .ok (.putfield 9, 3) := by decide +kernel
theorem d_Ma_find_5 : decode c_Ma_find 5 = .ok (.iconst 0, 1) := by decide +kernel
theorem d_Ma_find_6 : decode c_Ma_find 6 = .ok (.istore_n 2, 1) := by decide +kernel
theorem d_Ma_find_7 : decode c_Ma_find 7 = .ok (.iload_n 2, 1) := by decide +kernel
theorem d_Ma_find_8 : decode c_Ma_find 8 = .ok (.bipush 24, 2) := by decide +kernel
theorem d_Ma_find_10 : decode c_Ma_find 10 = .ok (.if_icmp .ge 30, 3) := by decide +kernel
theorem d_Ma_find_13 : decode c_Ma_find 13 = .ok (.aload_n 0, 1) := by decide +kernel
theorem d_Ma_find_14 : decode c_Ma_find 14 = .ok (.getfield 15, 3) := by decide +kernel
theorem d_Ma_find_17 : decode c_Ma_find 17 = .ok (.iload_n 2, 1) := by decide +kernel
theorem d_Ma_find_18 : decode c_Ma_find 18 = .ok (.iconst (-1), 1) := by decide +kernel
theorem d_Ma_find_19 : decode c_Ma_find 19 = .ok (.iastore, 1) := by decide +kernel
theorem d_Ma_find_20 : decode c_Ma_find 20 = .ok (.aload_n 0, 1) := by decide +kernel
theorem d_Ma_find_21 : decode c_Ma_find 21 = .ok (.getfield 19, 3) := by decide +kernel
theorem d_Ma_find_24 : decode c_Ma_find 24 = .ok (.iload_n 2, 1) := by decide +kernel
theorem d_Ma_find_25 : decode c_Ma_find 25 = .ok (.iconst (-1), 1) := by decide +kernel
theorem d_Ma_find_26 : decode c_Ma_find 26 = .ok (.iastore, 1) := by decide +kernel
theorem d_Ma_find_27 : decode c_Ma_find 27 = .ok (.aload_n 0, 1) := by decide +kernel
theorem d_Ma_find_28 : decode c_Ma_find 28 = .ok (.getfield 22, 3) := by decide +kernel
theorem d_Ma_find_31 : decode c_Ma_find 31 = .ok (.iload_n 2, 1) := by decide +kernel
theorem d_Ma_find_32 : decode c_Ma_find 32 = .ok (.iconst (-1), 1) := by decide +kernel
theorem d_Ma_find_33 : decode c_Ma_find 33 = .ok (.iastore, 1) := by decide +kernel
theorem d_Ma_find_34 : decode c_Ma_find 34 = .ok (.iinc 2 1, 3) := by decide +kernel
theorem d_Ma_find_37 : decode c_Ma_find 37 = .ok (.goto (-30), 3) := by decide +kernel
theorem d_Ma_find_40 : decode c_Ma_find 40 = .ok (.aload_n 0, 1) := by decide +kernel
theorem d_Ma_find_41 : decode c_Ma_find 41 = .ok (.aload_n 1, 1) := by decide +kernel
theorem d_Ma_find_42 : decode c_Ma_find 42 = .ok (.invokevirtual 25, 3) := by decide +kernel
theorem d_Ma_find_45 : decode c_Ma_find 45 = .ok (.aload_n 0, 1) := by decide +kernel
theorem d_Ma_find_46 : decode c_Ma_find 46 = .ok (.aload_n 1, 1) := by decide +kernel
theorem d_Ma_find_47 : decode c_Ma_find 47 = .ok (.invokevirtual 29, 3) := by decide +kernel
theorem d_Ma_find_50 : decode c_Ma_find 50 = .ok (.aload_n 0, 1) := by decide +kernel
theorem d_Ma_find_51 : decode c_Ma_find 51 = .ok (.aload_n 1, 1) := by decide +kernel
theorem d_Ma_find_52 : decode c_Ma_find 52 = .ok (.invokevirtual 32, 3) := by decide +kernel
theorem d_Ma_find_55 : decode c_Ma_find 55 = .ok (.return_, 1) := by decide +kernel
theorem d_Ma_pair_0 : decode c_Ma_pair 0 = .ok (.aload_n 0, 1) := by decide +kernel
theorem d_Ma_pair_1 : decode c_Ma_pair 1 = .ok (.getfield 15, 3) := by decide +kernel
theorem d_Ma_pair_4 : decode c_Ma_pair 4 = .ok (.iload_n 1, 1) := by decide +kernel
theorem d_Ma_pair_5 : decode c_Ma_pair 5 = .ok (.iload_n 2, 1) := by decide +kernel
theorem d_Ma_pair_6 : decode c_Ma_pair 6 = .ok (.iastore, 1) := by decide +kernel
theorem d_Ma_pair_7 : decode c_Ma_pair 7 = .ok (.aload_n 0, 1) := by decide +kernel
theorem d_Ma_pair_8 : decode c_Ma_pair 8 = .ok (.getfield 19, 3) := by decide +kernel
theorem d_Ma_pair_11 : decode c_Ma_pair 11 = .ok (.iload_n 2, 1) := by decide +kernel
theorem d_Ma_pair_12 : decode c_Ma_pair 12 = .ok (.iload_n 1, 1) := by decide +kernel
theorem d_Ma_pair_13 : decode c_Ma_pair 13 = .ok (.iastore, 1) := by decide +kernel
theorem d_Ma_pair_14 : decode c_Ma_pair 14 = .ok (.aload_n 0, 1) := by decide +kernel
theorem d_Ma_pair_15 : decode c_Ma_pair 15 = .ok (.getfield 22, 3) := by decide +kernel
theorem d_Ma_pair_18 : decode c_Ma_pair 18 = .ok (.iload_n 1, 1) := by decide +kernel
theorem d_Ma_pair_19 : decode c_Ma_pair 19 = .ok (.iload_n 3, 1) := by decide +kernel
theorem d_Ma_pair_20 : decode c_Ma_pair 20 = .ok (.iastore, 1) := by decide +kernel
theorem d_Ma_pair_21 : decode c_Ma_pair 21 = .ok (.aload_n 0, 1) := by decide +kernel
theorem d_Ma_pair_22 : decode c_Ma_pair 22 = .ok (.dup, 1) := by decide +kernel
theorem d_Ma_pair_23 : decode c_Ma_pair 23 = .ok (.getfield 9, 3) := by decide +kernel
theorem d_Ma_pair_26 : decode c_Ma_pair 26 = .ok (.iconst 1, 1) := by decide +kernel
theorem d_Ma_pair_27 : decode c_Ma_pair 27 = .ok (.iadd, 1) := by decide +kernel
theorem d_Ma_pair_28 : decode c_Ma_pair 28 = .ok (.putfield 9, 3) := by decide +kernel
theorem d_Ma_pair_31 : decode c_Ma_pair 31 = .ok (.return_, 1) := by decide +kernel
theorem d_Ma_pairEqualSubtrees_0 : decode c_Ma_pairEqualSubtrees 0 = .ok (.aload_n 1, 1) := by decide +kernel
theorem d_Ma_pairEqualSubtrees_1 : decode c_Ma_pairEqualSubtrees 1 = .ok (.getfield 35, 3) := by decide +kernel
theorem d_Ma_pairEqualSubtrees_4 : decode c_Ma_pairEqualSubtrees 4 = .ok (.getfield 41, 3) := by decide +kernel
theorem d_Ma_pairEqualSubtrees_7 : decode c_Ma_pairEqualSubtrees 7 = .ok (.iconst 0, 1) := by decide +kernel
theorem d_Ma_pairEqualSubtrees_8 : decode c_Ma_pairEqualSubtrees 8 = .ok (.iaload, 1) := by decide +kernel
theorem d_Ma_pairEqualSubtrees_9 : decode c_Ma_pairEqualSubtrees 9 = .ok (.aload_n 1, 1) := by decide +kernel
theorem d_Ma_pairEqualSubtrees_10 : decode c_Ma_pairEqualSubtrees 10 = .ok (.getfield 46, 3) := by decide +kernel
theorem d_Ma_pairEqualSubtrees_13 : decode c_Ma_pairEqualSubtrees 13 = .ok (.getfield 41, 3) := by decide +kernel
theorem d_Ma_pairEqualSubtrees_16 : decode c_Ma_pairEqualSubtrees 16 = .ok (.iconst 0, 1) := by decide +kernel
theorem d_Ma_pairEqualSubtrees_17 : decode c_Ma_pairEqualSubtrees 17 = .ok (.iaload, 1) := by decide +kernel
theorem d_Ma_pairEqualSubtrees_18 : decode c_Ma_pairEqualSubtrees 18 = .ok (.invokestatic 49, 3) := by decide +kernel
theorem d_Ma_pairEqualSubtrees_21 : decode c_Ma_pairEqualSubtrees 21 = .ok (.istore_n 2, 1) := by decide +kernel
theorem d_Ma_pairEqualSubtrees_22 : decode c_Ma_pairEqualSubtrees 22 = .ok (.iload_n 2, 1) := by decide +kernel
theorem d_Ma_pairEqualSubtrees_23 : decode c_Ma_pairEqualSubtrees 23 = .ok (.istore_n 3, 1) := by decide +kernel
theorem d_Ma_pairEqualSubtrees_24 : decode c_Ma_pairEqualSubtrees 24 = .ok (.iload_n 3, 1) := by decide +kernel
theorem d_Ma_pairEqualSubtrees_25 : decode c_Ma_pairEqualSubtrees 25 = .ok (.aload_n 1, 1) := by decide +kernel
theorem d_Ma_pairEqualSubtrees_26 : decode c_Ma_pairEqualSubtrees 26 = .ok (.getfield 55, 3) := by decide +kernel
theorem d_Ma_pairEqualSubtrees_29 : decode c_Ma_pairEqualSubtrees 29 = .ok (.if_icmp .lt 41, 3) := by decide +kernel
theorem d_Ma_pairEqualSubtrees_32 : decode c_Ma_pairEqualSubtrees 32 = .ok (.iconst 1, 1) := by decide +kernel
theorem d_Ma_pairEqualSubtrees_33 : decode c_Ma_pairEqualSubtrees 33 = .ok (.istore 4, 2) := by decide +kernel
theorem d_Ma_pairEqualSubtrees_35 : decode c_Ma_pairEqualSubtrees 35 = .ok (.iconst 0, 1) := by decide +kernel
theorem d_Ma_pairEqualSubtrees_36 : decode c_Ma_pairEqualSubtrees 36 = .ok (.istore 5, 2) := by decide +kernel
theorem d_Ma_pairEqualSubtrees_38 : decode c_Ma_pairEqualSubtrees 38 = .ok (.iload 5, 2) := by decide +kernel
theorem d_Ma_pairEqualSubtrees_40 : decode c_Ma_pairEqualSubtrees 40 = .ok (.bipush 24, 2) := by decide +kernel
theorem d_Ma_pairEqualSubtrees_42 : decode c_Ma_pairEqualSubtrees 42 = .ok (.if_icmp .ge 22, 3) := by decide +kernel
theorem d_Ma_pairEqualSubtrees_45 : decode c_Ma_pairEqualSubtrees 45 = .ok (.iload 4, 2) := by decide +kernel
theorem d_Ma_pairEqualSubtrees_47 : decode c_Ma_pairEqualSubtrees 47 = .ok (.ifCond .eq 17, 3) := by decide +kernel
theorem d_Ma_pairEqualSubtrees_50 : decode c_Ma_pairEqualSubtrees 50 = .ok (.aload_n 0, 1) := by decide +kernel
theorem d_Ma_pairEqualSubtrees_51 : decode c_Ma_pairEqualSubtrees 51 = .ok (.aload_n 1, 1) := by decide +kernel
theorem d_Ma_pairEqualSubtrees_52 : decode c_Ma_pairEqualSubtrees 52 = .ok (.iload_n 3, 1) := by decide +kernel
theorem d_Ma_pairEqualSubtrees_53 : decode c_Ma_pairEqualSubtrees 53 = .ok (.invokevirtual 57, 3) := by decide +kernel
theorem d_Ma_pairEqualSubtrees_56 : decode c_Ma_pairEqualSubtrees 56 = .ok (.istore 4, 2) := by decide +kernel
theorem d_Ma_pairEqualSubtrees_58 : decode c_Ma_pairEqualSubtrees 58 = .ok (.iinc 5 1, 3) := by decide +kernel
theorem d_Ma_pairEqualSubtrees_61 : decode c_Ma_pairEqualSubtrees 61 = .ok (.goto (-23), 3) := by decide +kernel
theorem d_Ma_pairEqualSubtrees_64 : decode c_Ma_pairEqualSubtrees 64 = .ok (.iinc 3 (-1), 3) := by decide +kernel
theorem d_Ma_pairEqualSubtrees_67 : decode c_Ma_pairEqualSubtrees 67 = .ok (.goto (-43), 3) := by decide +kernel
theorem d_Ma_pairEqualSubtrees_70 : decode c_Ma_pairEqualSubtrees 70 = .ok (.return_, 1) := by decide +kernel
theorem d_Ma_pairNearest_0 : decode c_Ma_pairNearest 0 = .ok (.iconst (-1), 1) := by decide +kernel
theorem d_Ma_pairNearest_1 : decode c_Ma_pairNearest 1 = .ok (.istore_n 3, 1) := by decide +kernel
theorem d_Ma_pairNearest_2 : decode c_Ma_pairNearest 2 = .ok (.iconst (-1), 1) := by decide +kernel
theorem d_Ma_pairNearest_3 : decode c_Ma_pairNearest 3 = .ok (.istore 4, 2) := by decide +kernel
theorem d_Ma_pairNearest_5 : decode c_Ma_pairNearest 5 = .ok (.iconst (-1), 1) := by decide +kernel
theorem d_Ma_pairNearest_6 : decode c_Ma_pairNearest 6 = .ok (.istore 5, 2) := by decide +kernel
theorem d_Ma_pairNearest_8 : decode c_Ma_pairNearest 8 = .ok (.iconst 0, 1) := by decide +kernel
theorem d_Ma_pairNearest_9 : decode c_Ma_pairNearest 9 = .ok (.istore 6, 2) := by decide +kernel
theorem d_Ma_pairNearest_11 : decode c_Ma_pairNearest 11 = .ok (.iload 6, 2) := by decide +kernel
theorem d_Ma_pairNearest_13 : decode c_Ma_pairNearest 13 = .ok (.aload_n 1, 1) := by decide +kernel
theorem d_Ma_pairNearest_14 : decode c_Ma_pairNearest 14 = .ok (.getfield 35, 3) := by decide +kernel
theorem d_Ma_pairNearest_17 : decode c_Ma_pairNearest 17 = .ok (.getfield 61, 3) := by decide +kernel
theorem d_Ma_pairNearest_20 : decode c_Ma_pairNearest 20 = .ok (.if_icmp .ge 112, 3) := by decide +kernel
theorem d_Ma_pairNearest_23 : decode c_Ma_pairNearest 23 = .ok (.aload_n 0, 1) := by decide +kernel
theorem d_Ma_pairNearest_24 : decode c_Ma_pairNearest 24 = .ok (.getfield 15, 3) := by decide +kernel
theorem d_Ma_pairNearest_27 : decode c_Ma_pairNearest 27 = .ok (.iload 6, 2) := by decide +kernel
theorem d_Ma_pairNearest_29 : decode c_Ma_pairNearest 29 = .ok (.iaload, 1) := by decide +kernel
theorem d_Ma_pairNearest_30 : decode c_Ma_pairNearest 30 = .ok (.iconst (-1), 1) := by decide +kernel
theorem d_Ma_pairNearest_31 : decode c_Ma_pairNearest 31 = .ok (.if_icmp .ne 95, 3) := by decide +kernel
theorem d_Ma_pairNearest_34 : decode c_Ma_pairNearest 34 = .ok (.aload_n 1, 1) := by decide +kernel
theorem d_Ma_pairNearest_35 : decode c_Ma_pairNearest 35 = .ok (.getfield 35, 3) := by decide +kernel
theorem d_Ma_pairNearest_38 : decode c_Ma_pairNearest 38 = .ok (.getfield 41, 3) := by decide +kernel
theorem d_Ma_pairNearest_41 : decode c_Ma_pairNearest 41 = .ok (.iload 6, 2) := by decide +kernel
theorem d_Ma_pairNearest_43 : decode c_Ma_pairNearest 43 = .ok (.iaload, 1) := by decide +kernel
theorem d_Ma_pairNearest_44 : decode c_Ma_pairNearest 44 = .ok (.iload_n 2, 1) := by decide +kernel
theorem d_Ma_pairNearest_45 : decode c_Ma_pairNearest 45 = .ok (.if_icmp .eq 6, 3) := by decide +kernel
theorem d_Ma_pairNearest_48 : decode c_Ma_pairNearest 48 = .ok (.goto 78, 3) := by decide +kernel
theorem d_Ma_pairNearest_51 : decode c_Ma_pairNearest 51 = .ok (.iconst 0, 1) := by decide +kernel
theorem d_Ma_pairNearest_52 : decode c_Ma_pairNearest 52 = .ok (.istore 7, 2) := by decide +kernel
theorem d_Ma_pairNearest_54 : decode c_Ma_pairNearest 54 = .ok (.iload 7, 2) := by decide +kernel
theorem d_Ma_pairNearest_56 : decode c_Ma_pairNearest 56 = .ok (.aload_n 1, 1) := by decide +kernel
theorem d_Ma_pairNearest_57 : decode c_Ma_pairNearest 57 = .ok (.getfield 46, 3) := by decide +kernel
theorem d_Ma_pairNearest_60 : decode c_Ma_pairNearest 60 = .ok (.getfield 61, 3) := by decide +kernel
theorem d_Ma_pairNearest_63 : decode c_Ma_pairNearest 63 = .ok (.if_icmp .ge 63, 3) := by decide +kernel
theorem d_Ma_pairNearest_66 : decode c_Ma_pairNearest 66 = .ok (.aload_n 0, 1) := by decide +kernel
theorem d_Ma_pairNearest_67 : decode c_Ma_pairNearest 67 = .ok (.getfield 19, 3) := by decide +kernel
theorem d_Ma_pairNearest_70 : decode c_Ma_pairNearest 70 = .ok (.iload 7, 2) := by decide +kernel
theorem d_Ma_pairNearest_72 : decode c_Ma_pairNearest 72 = .ok (.iaload, 1) := by decide +kernel
theorem d_Ma_pairNearest_73 : decode c_Ma_pairNearest 73 = .ok (.iconst (-1), 1) := by decide +kernel
theorem d_Ma_pairNearest_74 : decode c_Ma_pairNearest 74 = .ok (.if_icmp .ne 46, 3) := by decide +kernel
theorem d_Ma_pairNearest_77 : decode c_Ma_pairNearest 77 = .ok (.aload_n 1, 1) := by decide +kernel
theorem d_Ma_pairNearest_78 : decode c_Ma_pairNearest 78 = .ok (.iload 6, 2) := by decide +kernel
theorem d_Ma_pairNearest_80 : decode c_Ma_pairNearest 80 = .ok (.iload 7, 2) := by decide +kernel
theorem d_Ma_pairNearest_82 : decode c_Ma_pairNearest 82 = .ok (.invokevirtual 64, 3) := by decide +kernel
theorem d_Ma_pairNearest_85 : decode c_Ma_pairNearest 85 = .ok (.ifCond .ne 6, 3) := by decide +kernel
theorem d_Ma_pairNearest_88 : decode c_Ma_pairNearest 88 = .ok (.goto 32, 3) := by decide +kernel
theorem d_Ma_pairNearest_91 : decode c_Ma_pairNearest 91 = .ok (.aload_n 0, 1) := by decide +kernel
theorem d_Ma_pairNearest_92 : decode c_Ma_pairNearest 92 = .ok (.aload_n 1, 1) := by decide +kernel
theorem d_Ma_pairNearest_93 : decode c_Ma_pairNearest 93 = .ok (.iload 6, 2) := by decide +kernel
theorem d_Ma_pairNearest_95 : decode c_Ma_pairNearest 95 = .ok (.iload 7, 2) := by decide +kernel
theorem d_Ma_pairNearest_97 : decode c_Ma_pairNearest 97 = .ok (.invokevirtual 68, 3) := by decide +kernel
theorem d_Ma_pairNearest_100 : decode c_Ma_pairNearest 100 = .ok (.istore 8, 2) := by decide +kernel
theorem d_Ma_pairNearest_102 : decode c_Ma_pairNearest 102 = .ok (.iload 8, 2) := by decide +kernel
theorem d_Ma_pairNearest_104 : decode c_Ma_pairNearest 104 = .ok (.iload 5, 2) := by decide +kernel
theorem d_Ma_pairNearest_106 : decode c_Ma_pairNearest 106 = .ok (.if_icmp .le 14, 3) := by decide +kernel
theorem d_Ma_pairNearest_109 : decode c_Ma_pairNearest 109 = .ok (.iload 8, 2) := by decide +kernel
theorem d_Ma_pairNearest_111 : decode c_Ma_pairNearest 111 = .ok (.istore 5, 2) := by decide +kernel
theorem d_Ma_pairNearest_113 : decode c_Ma_pairNearest 113 = .ok (.iload 6, 2) := by decide +kernel
theorem d_Ma_pairNearest_115 : decode c_Ma_pairNearest 115 = .ok (.istore_n 3, 1) := by decide +kernel
theorem d_Ma_pairNearest_116 : decode c_Ma_pairNearest 116 = .ok (.iload 7, 2) := by decide +kernel
theorem d_Ma_pairNearest_118 : decode c_Ma_pairNearest 118 = .ok (.istore 4, 2) := by decide +kernel
theorem d_Ma_pairNearest_120 : decode c_Ma_pairNearest 120 = .ok (.iinc 7 1, 3) := by decide +kernel
theorem d_Ma_pairNearest_123 : decode c_Ma_pairNearest 123 = .ok (.goto (-69), 3) := by decide +kernel
theorem d_Ma_pairNearest_126 : decode c_Ma_pairNearest 126 = .ok (.iinc 6 1, 3) := by decide +kernel
theorem d_Ma_pairNearest_129 : decode c_Ma_pairNearest 129 = .ok (.goto (-118), 3) := by decide +kernel
theorem d_Ma_pairNearest_132 : decode c_Ma_pairNearest 132 = .ok (.iload_n 3, 1) := by decide +kernel
theorem d_Ma_pairNearest_133 : decode c_Ma_pairNearest 133 = .ok (.iconst (-1), 1) := by decide +kernel
theorem d_Ma_pairNearest_134 : decode c_Ma_pairNearest 134 = .ok (.if_icmp .eq 9, 3) := by decide +kernel
theorem d_Ma_pairNearest_137 : decode c_Ma_pairNearest 137 = .ok (.iload 4, 2) := by decide +kernel
theorem d_Ma_pairNearest_139 : decode c_Ma_pairNearest 139 = .ok (.iconst (-1), 1) := by decide +kernel
theorem d_Ma_pairNearest_140 : decode c_Ma_pairNearest 140 = .ok (.if_icmp .ne 5, 3) := by decide +kernel
theorem d_Ma_pairNearest_143 : decode c_Ma_pairNearest 143 = .ok (.iconst 0, 1) := by decide +kernel
theorem d_Ma_pairNearest_144 : decode c_Ma_pairNearest 144 = .ok (.ireturn, 1) := by decide +kernel
theorem d_Ma_pairNearest_145 : decode c_Ma_pairNearest 145 = .ok (.iconst 0, 1) := by decide +kernel
theorem d_Ma_pairNearest_146 : decode c_Ma_pairNearest 146 = .ok (.istore 6, 2) := by decide +kernel
theorem d_Ma_pairNearest_148 : decode c_Ma_pairNearest 148 = .ok (.iload 6, 2) := by decide +kernel
theorem d_Ma_pairNearest_150 : decode c_Ma_pairNearest 150 = .ok (.aload_n 1, 1) := by decide +kernel
theorem d_Ma_pairNearest_151 : decode c_Ma_pairNearest 151 = .ok (.getfield 35, 3) := by decide +kernel
theorem d_Ma_pairNearest_154 : decode c_Ma_pairNearest 154 = .ok (.getfield 72, 3) := by decide +kernel
theorem d_Ma_pairNearest_157 : decode c_Ma_pairNearest 157 = .ok (.iload_n 3, 1) := by decide +kernel
theorem d_Ma_pairNearest_158 : decode c_Ma_pairNearest 158 = .ok (.iaload, 1) := by decide +kernel
theorem d_Ma_pairNearest_159 : decode c_Ma_pairNearest 159 = .ok (.if_icmp .gt 23, 3) := by decide +kernel
theorem d_Ma_pairNearest_162 : decode c_Ma_pairNearest 162 = .ok (.aload_n 0, 1) := by decide +kernel
theorem d_Ma_pairNearest_163 : decode c_Ma_pairNearest 163 = .ok (.iload_n 3, 1) := by decide +kernel
theorem d_Ma_pairNearest_164 : decode c_Ma_pairNearest 164 = .ok (.iload 6, 2) := by decide +kernel
theorem d_Ma_pairNearest_166 : decode c_Ma_pairNearest 166 = .ok (.iadd, 1) := by decide +kernel
theorem d_Ma_pairNearest_167 : decode c_Ma_pairNearest 167 = .ok (.iload 4, 2) := by decide +kernel
theorem d_Ma_pairNearest_169 : decode c_Ma_pairNearest 169 = .ok (.iload 6, 2) := by decide +kernel
theorem d_Ma_pairNearest_171 : decode c_Ma_pairNearest 171 = .ok (.iadd, 1) := by decide +kernel
theorem d_Ma_pairNearest_172 : decode c_Ma_pairNearest 172 = .ok (.iconst 1, 1) := by decide +kernel
theorem d_Ma_pairNearest_173 : decode c_Ma_pairNearest 173 = .ok (.invokevirtual 75, 3) := by decide +kernel
theorem d_Ma_pairNearest_176 : decode c_Ma_pairNearest 176 = .ok (.iinc 6 1, 3) := by decide +kernel
theorem d_Ma_pairNearest_179 : decode c_Ma_pairNearest 179 = .ok (.goto (-31), 3) := by decide +kernel
theorem d_Ma_pairNearest_182 : decode c_Ma_pairNearest 182 = .ok (.iconst 1, 1) := by decide +kernel
theorem d_Ma_pairNearest_183 : decode c_Ma_pairNearest 183 = .ok (.ireturn, 1) := by decide +kernel
theorem d_Ma_nearness_0 : decode c_Ma_nearness 0 = .ok (.aload_n 1, 1) := by decide +kernel
theorem d_Ma_nearness_1 : decode c_Ma_nearness 1 = .ok (.getfield 35, 3) := by decide +kernel
theorem d_Ma_nearness_4 : decode c_Ma_nearness 4 = .ok (.getfield 79, 3) := by decide +kernel
theorem d_Ma_nearness_7 : decode c_Ma_nearness 7 = .ok (.iload_n 2, 1) := by decide +kernel
theorem d_Ma_nearness_8 : decode c_Ma_nearness 8 = .ok (.iaload, 1) := by decide +kernel
theorem d_Ma_nearness_9 : decode c_Ma_nearness 9 = .ok (.aload_n 1, 1) := by decide +kernel
theorem d_Ma_nearness_10 : decode c_Ma_nearness 10 = .ok (.getfield 46, 3) := by decide +kernel
theorem d_Ma_nearness_13 : decode c_Ma_nearness 13 = .ok (.getfield 79, 3) := by decide +kernel
theorem d_Ma_nearness_16 : decode c_Ma_nearness 16 = .ok (.iload_n 3, 1) := by decide +kernel
theorem d_Ma_nearness_17 : decode c_Ma_nearness 17 = .ok (.iaload, 1) := by decide +kernel
theorem d_Ma_nearness_18 : decode c_Ma_nearness 18 = .ok (.isub, 1) := by decide +kernel
theorem d_Ma_nearness_19 : decode c_Ma_nearness 19 = .ok (.invokestatic 82, 3) := by decide +kernel
theorem d_Ma_nearness_22 : decode c_Ma_nearness 22 = .ok (.istore 4, 2) := by decide +kernel
theorem d_Ma_nearness_24 : decode c_Ma_nearness 24 = .ok (.bipush 24, 2) := by decide +kernel
theorem d_Ma_nearness_26 : decode c_Ma_nearness 26 = .ok (.aload_n 1, 1) := by decide +kernel
theorem d_Ma_nearness_27 : decode c_Ma_nearness 27 = .ok (.iload_n 2, 1) := by decide +kernel
theorem d_Ma_nearness_28 : decode c_Ma_nearness 28 = .ok (.iload_n 3, 1) := by decide +kernel
theorem d_Ma_nearness_29 : decode c_Ma_nearness 29 = .ok (.invokevirtual 86, 3) := by decide +kernel
theorem d_Ma_nearness_32 : decode c_Ma_nearness 32 = .ok (.imul, 1) := by decide +kernel
theorem d_Ma_nearness_33 : decode c_Ma_nearness 33 = .ok (.bipush 24, 2) := by decide +kernel
theorem d_Ma_nearness_35 : decode c_Ma_nearness 35 = .ok (.iadd, 1) := by decide +kernel
theorem d_Ma_nearness_36 : decode c_Ma_nearness 36 = .ok (.iconst 1, 1) := by decide +kernel
theorem d_Ma_nearness_37 : decode c_Ma_nearness 37 = .ok (.isub, 1) := by decide +kernel
theorem d_Ma_nearness_38 : decode c_Ma_nearness 38 = .ok (.iload 4, 2) := by decide +kernel
theorem d_Ma_nearness_40 : decode c_Ma_nearness 40 = .ok (.isub, 1) := by decide +kernel
theorem d_Ma_nearness_41 : decode c_Ma_nearness 41 = .ok (.ireturn, 1) := by decide +kernel
theorem d_Ma_pairByDescendants_0 : decode c_Ma_pairByDescendants 0 = .ok (.aload_n 1, 1) := by decide +kernel
theorem d_Ma_pairByDescendants_1 : decode c_Ma_pairByDescendants 1 = .ok (.getfield 35, 3) := by decide +kernel
theorem d_Ma_pairByDescendants_4 : decode c_Ma_pairByDescendants 4 = .ok (.astore_n 2, 1) := by decide +kernel
theorem d_Ma_pairByDescendants_5 : decode c_Ma_pairByDescendants 5 = .ok (.iconst 0, 1) := by decide +kernel
theorem d_Ma_pairByDescendants_6 : decode c_Ma_pairByDescendants 6 = .ok (.istore_n 3, 1) := by decide +kernel
theorem d_Ma_pairByDescendants_7 : decode c_Ma_pairByDescendants 7 = .ok (.iload_n 3, 1) := by decide +kernel
theorem d_Ma_pairByDescendants_8 : decode c_Ma_pairByDescendants 8 = .ok (.aload_n 2, 1) := by decide +kernel
theorem d_Ma_pairByDescendants_9 : decode c_Ma_pairByDescendants 9 = .ok (.getfield 61, 3) := by decide +kernel
theorem d_Ma_pairByDescendants_12 : decode c_Ma_pairByDescendants 12 = .ok (.if_icmp .ge 108, 3) := by decide +kernel
theorem d_Ma_pairByDescendants_15 : decode c_Ma_pairByDescendants 15 = .ok (.aload_n 2, 1) := by decide +kernel
theorem d_Ma_pairByDescendants_16 : decode c_Ma_pairByDescendants 16 = .ok (.getfield 89, 3) := by decide +kernel
theorem d_Ma_pairByDescendants_19 : decode c_Ma_pairByDescendants 19 = .ok (.iload_n 3, 1) := by decide +kernel
theorem d_Ma_pairByDescendants_20 : decode c_Ma_pairByDescendants 20 = .ok (.iaload, 1) := by decide +kernel
theorem d_Ma_pairByDescendants_21 : decode c_Ma_pairByDescendants 21 = .ok (.istore 4, 2) := by decide +kernel
theorem d_Ma_pairByDescendants_23 : decode c_Ma_pairByDescendants 23 = .ok (.aload_n 0, 1) := by decide +kernel
theorem d_Ma_pairByDescendants_24 : decode c_Ma_pairByDescendants 24 = .ok (.getfield 15, 3) := by decide +kernel
theorem d_Ma_pairByDescendants_27 : decode c_Ma_pairByDescendants 27 = .ok (.iload 4, 2) := by decide +kernel
theorem d_Ma_pairByDescendants_29 : decode c_Ma_pairByDescendants 29 = .ok (.iaload, 1) := by decide +kernel
theorem d_Ma_pairByDescendants_30 : decode c_Ma_pairByDescendants 30 = .ok (.iconst (-1), 1) := by decide +kernel
theorem d_Ma_pairByDescendants_31 : decode c_Ma_pairByDescendants 31 = .ok (.if_icmp .ne 83, 3) := by decide +kernel
theorem d_Ma_pairByDescendants_34 : decode c_Ma_pairByDescendants 34 = .ok (.aload_n 2, 1) := by decide +kernel
theorem d_Ma_pairByDescendants_35 : decode c_Ma_pairByDescendants 35 = .ok (.getfield 72, 3) := by decide +kernel
theorem d_Ma_pairByDescendants_38 : decode c_Ma_pairByDescendants 38 = .ok (.iload 4, 2) := by decide +kernel
theorem d_Ma_pairByDescendants_40 : decode c_Ma_pairByDescendants 40 = .ok (.iaload, 1) := by decide +kernel
theorem d_Ma_pairByDescendants_41 : decode c_Ma_pairByDescendants 41 = .ok (.ifCond .ne 6, 3) := by decide +kernel
theorem d_Ma_pairByDescendants_44 : decode c_Ma_pairByDescendants 44 = .ok (.goto 70, 3) := by decide +kernel
theorem d_Ma_pairByDescendants_47 : decode c_Ma_pairByDescendants 47 = .ok (.aload_n 0, 1) := by decide +kernel
theorem d_Ma_pairByDescendants_48 : decode c_Ma_pairByDescendants 48 = .ok (.aload_n 1, 1) := by decide +kernel
theorem d_Ma_pairByDescendants_49 : decode c_Ma_pairByDescendants 49 = .ok (.iload 4, 2) := by decide +kernel
theorem d_Ma_pairByDescendants_51 : decode c_Ma_pairByDescendants 51 = .ok (.invokevirtual 92, 3) := by decide +kernel
theorem d_Ma_pairByDescendants_54 : decode c_Ma_pairByDescendants 54 = .ok (.istore 5, 2) := by decide +kernel
theorem d_Ma_pairByDescendants_56 : decode c_Ma_pairByDescendants 56 = .ok (.iload 5, 2) := by decide +kernel
theorem d_Ma_pairByDescendants_58 : decode c_Ma_pairByDescendants 58 = .ok (.iconst (-1), 1) := by decide +kernel
theorem d_Ma_pairByDescendants_59 : decode c_Ma_pairByDescendants 59 = .ok (.if_icmp .eq 55, 3) := by decide +kernel
theorem d_Ma_pairByDescendants_62 : decode c_Ma_pairByDescendants 62 = .ok (.aload_n 2, 1) := by decide +kernel
theorem d_Ma_pairByDescendants_63 : decode c_Ma_pairByDescendants 63 = .ok (.getfield 72, 3) := by decide +kernel
theorem d_Ma_pairByDescendants_66 : decode c_Ma_pairByDescendants 66 = .ok (.iload 4, 2) := by decide +kernel
theorem d_Ma_pairByDescendants_68 : decode c_Ma_pairByDescendants 68 = .ok (.iaload, 1) := by decide +kernel
theorem d_Ma_pairByDescendants_69 : decode c_Ma_pairByDescendants 69 = .ok (.aload_n 1, 1) := by decide +kernel
theorem d_Ma_pairByDescendants_70 : decode c_Ma_pairByDescendants 70 = .ok (.getfield 46, 3) := by decide +kernel
theorem d_Ma_pairByDescendants_73 : decode c_Ma_pairByDescendants 73 = .ok (.getfield 72, 3) := by decide +kernel
theorem d_Ma_pairByDescendants_76 : decode c_Ma_pairByDescendants 76 = .ok (.iload 5, 2) := by decide +kernel
theorem d_Ma_pairByDescendants_78 : decode c_Ma_pairByDescendants 78 = .ok (.iaload, 1) := by decide +kernel
theorem d_Ma_pairByDescendants_79 : decode c_Ma_pairByDescendants 79 = .ok (.iadd, 1) := by decide +kernel
theorem d_Ma_pairByDescendants_80 : decode c_Ma_pairByDescendants 80 = .ok (.istore 6, 2) := by decide +kernel
theorem d_Ma_pairByDescendants_82 : decode c_Ma_pairByDescendants 82 = .ok (.sipush 200, 3) := by decide +kernel
theorem d_Ma_pairByDescendants_85 : decode c_Ma_pairByDescendants 85 = .ok (.aload_n 0, 1) := by decide +kernel
theorem d_Ma_pairByDescendants_86 : decode c_Ma_pairByDescendants 86 = .ok (.aload_n 1, 1) := by decide +kernel
theorem d_Ma_pairByDescendants_87 : decode c_Ma_pairByDescendants 87 = .ok (.iload 4, 2) := by decide +kernel
theorem d_Ma_pairByDescendants_89 : decode c_Ma_pairByDescendants 89 = .ok (.iload 5, 2) := by decide +kernel
theorem d_Ma_pairByDescendants_91 : decode c_Ma_pairByDescendants 91 = .ok (.invokevirtual 96, 3) := by decide +kernel
theorem d_Ma_pairByDescendants_94 : decode c_Ma_pairByDescendants 94 = .ok (.imul, 1) := by decide +kernel
theorem d_Ma_pairByDescendants_95 : decode c_Ma_pairByDescendants 95 = .ok (.aload_n 1, 1) := by decide +kernel
theorem d_Ma_pairByDescendants_96 : decode c_Ma_pairByDescendants 96 = .ok (.getfield 99, 3) := by decide +kernel
theorem d_Ma_pairByDescendants_99 : decode c_Ma_pairByDescendants 99 = .ok (.iload 6, 2) := by decide +kernel
theorem d_Ma_pairByDescendants_101 : decode c_Ma_pairByDescendants 101 = .ok (.imul, 1) := by decide +kernel
theorem d_Ma_pairByDescendants_102 : decode c_Ma_pairByDescendants 102 = .ok (.if_icmp .lt 12, 3) := by decide +kernel
theorem d_Ma_pairByDescendants_105 : decode c_Ma_pairByDescendants 105 = .ok (.aload_n 0, 1) := by decide +kernel
theorem d_Ma_pairByDescendants_106 : decode c_Ma_pairByDescendants 106 = .ok (.iload 4, 2) := by decide +kernel
theorem d_Ma_pairByDescendants_108 : decode c_Ma_pairByDescendants 108 = .ok (.iload 5, 2) := by decide +kernel
theorem d_Ma_pairByDescendants_110 : decode c_Ma_pairByDescendants 110 = .ok (.iconst 2, 1) := by decide +kernel
theorem d_Ma_pairByDescendants_111 : decode c_Ma_pairByDescendants 111 = .ok (.invokevirtual 75, 3) := by decide +kernel
theorem d_Ma_pairByDescendants_114 : decode c_Ma_pairByDescendants 114 = .ok (.iinc 3 1, 3) := by decide +kernel
theorem d_Ma_pairByDescendants_117 : decode c_Ma_pairByDescendants 117 = .ok (.goto (-110), 3) := by decide +kernel
theorem d_Ma_pairByDescendants_120 : decode c_Ma_pairByDescendants 120 = .ok (.return_, 1) := by decide +kernel
theorem d_Ma_mostAlike_0 : decode c_Ma_mostAlike 0 = .ok (.iconst (-1), 1) := by decide +kernel
theorem d_Ma_mostAlike_1 : decode c_Ma_mostAlike 1 = .ok (.istore_n 3, 1) := by decide +kernel
theorem d_Ma_mostAlike_2 : decode c_Ma_mostAlike 2 = .ok (.iconst 0, 1) := by decide +kernel
theorem d_Ma_mostAlike_3 : decode c_Ma_mostAlike 3 = .ok (.istore 4, 2) := by decide +kernel
theorem d_Ma_mostAlike_5 : decode c_Ma_mostAlike 5 = .ok (.iconst 1, 1) := by decide +kernel
theorem d_Ma_mostAlike_6 : decode c_Ma_mostAlike 6 = .ok (.istore 5, 2) := by decide +kernel
theorem d_Ma_mostAlike_8 : decode c_Ma_mostAlike 8 = .ok (.iconst 0, 1) := by decide +kernel
theorem d_Ma_mostAlike_9 : decode c_Ma_mostAlike 9 = .ok (.istore 6, 2) := by decide +kernel
theorem d_Ma_mostAlike_11 : decode c_Ma_mostAlike 11 = .ok (.iload 6, 2) := by decide +kernel
theorem d_Ma_mostAlike_13 : decode c_Ma_mostAlike 13 = .ok (.aload_n 1, 1) := by decide +kernel
theorem d_Ma_mostAlike_14 : decode c_Ma_mostAlike 14 = .ok (.getfield 46, 3) := by decide +kernel
theorem d_Ma_mostAlike_17 : decode c_Ma_mostAlike 17 = .ok (.getfield 61, 3) := by decide +kernel
theorem d_Ma_mostAlike_20 : decode c_Ma_mostAlike 20 = .ok (.if_icmp .ge 89, 3) := by decide +kernel
theorem d_Ma_mostAlike_23 : decode c_Ma_mostAlike 23 = .ok (.aload_n 0, 1) := by decide +kernel
theorem d_Ma_mostAlike_24 : decode c_Ma_mostAlike 24 = .ok (.getfield 19, 3) := by decide +kernel
theorem d_Ma_mostAlike_27 : decode c_Ma_mostAlike 27 = .ok (.iload 6, 2) := by decide +kernel
theorem d_Ma_mostAlike_29 : decode c_Ma_mostAlike 29 = .ok (.iaload, 1) := by decide +kernel
theorem d_Ma_mostAlike_30 : decode c_Ma_mostAlike 30 = .ok (.iconst (-1), 1) := by decide +kernel
theorem d_Ma_mostAlike_31 : decode c_Ma_mostAlike 31 = .ok (.if_icmp .ne 72, 3) := by decide +kernel
theorem d_Ma_mostAlike_34 : decode c_Ma_mostAlike 34 = .ok (.aload_n 1, 1) := by decide +kernel
theorem d_Ma_mostAlike_35 : decode c_Ma_mostAlike 35 = .ok (.iload_n 2, 1) := by decide +kernel
theorem d_Ma_mostAlike_36 : decode c_Ma_mostAlike 36 = .ok (.iload 6, 2) := by decide +kernel
theorem d_Ma_mostAlike_38 : decode c_Ma_mostAlike 38 = .ok (.invokevirtual 102, 3) := by decide +kernel
theorem d_Ma_mostAlike_41 : decode c_Ma_mostAlike 41 = .ok (.ifCond .ne 6, 3) := by decide +kernel
theorem d_Ma_mostAlike_44 : decode c_Ma_mostAlike 44 = .ok (.goto 59, 3) := by decide +kernel
theorem d_Ma_mostAlike_47 : decode c_Ma_mostAlike 47 = .ok (.aload_n 0, 1) := by decide +kernel
theorem d_Ma_mostAlike_48 : decode c_Ma_mostAlike 48 = .ok (.aload_n 1, 1) := by decide +kernel
theorem d_Ma_mostAlike_49 : decode c_Ma_mostAlike 49 = .ok (.iload_n 2, 1) := by decide +kernel
theorem d_Ma_mostAlike_50 : decode c_Ma_mostAlike 50 = .ok (.iload 6, 2) := by decide +kernel
theorem d_Ma_mostAlike_52 : decode c_Ma_mostAlike 52 = .ok (.invokevirtual 96, 3) := by decide +kernel
theorem d_Ma_mostAlike_55 : decode c_Ma_mostAlike 55 = .ok (.istore 7, 2) := by decide +kernel
theorem d_Ma_mostAlike_57 : decode c_Ma_mostAlike 57 = .ok (.aload_n 1, 1) := by decide +kernel
theorem d_Ma_mostAlike_58 : decode c_Ma_mostAlike 58 = .ok (.getfield 35, 3) := by decide +kernel
theorem d_Ma_mostAlike_61 : decode c_Ma_mostAlike 61 = .ok (.getfield 72, 3) := by decide +kernel
theorem d_Ma_mostAlike_64 : decode c_Ma_mostAlike 64 = .ok (.iload_n 2, 1) := by decide +kernel
theorem d_Ma_mostAlike_65 : decode c_Ma_mostAlike 65 = .ok (.iaload, 1) := by decide +kernel
theorem d_Ma_mostAlike_66 : decode c_Ma_mostAlike 66 = .ok (.aload_n 1, 1) := by decide +kernel
theorem d_Ma_mostAlike_67 : decode c_Ma_mostAlike 67 = .ok (.getfield 46, 3) := by decide +kernel
theorem d_Ma_mostAlike_70 : decode c_Ma_mostAlike 70 = .ok (.getfield 72, 3) := by decide +kernel
theorem d_Ma_mostAlike_73 : decode c_Ma_mostAlike 73 = .ok (.iload 6, 2) := by decide +kernel
theorem d_Ma_mostAlike_75 : decode c_Ma_mostAlike 75 = .ok (.iaload, 1) := by decide +kernel
theorem d_Ma_mostAlike_76 : decode c_Ma_mostAlike 76 = .ok (.iadd, 1) := by decide +kernel
theorem d_Ma_mostAlike_77 : decode c_Ma_mostAlike 77 = .ok (.istore 8, 2) := by decide +kernel
theorem d_Ma_mostAlike_79 : decode c_Ma_mostAlike 79 = .ok (.iload 7, 2) := by decide +kernel
theorem d_Ma_mostAlike_81 : decode c_Ma_mostAlike 81 = .ok (.iload 5, 2) := by decide +kernel
theorem d_Ma_mostAlike_83 : decode c_Ma_mostAlike 83 = .ok (.imul, 1) := by decide +kernel
theorem d_Ma_mostAlike_84 : decode c_Ma_mostAlike 84 = .ok (.iload 4, 2) := by decide +kernel
theorem d_Ma_mostAlike_86 : decode c_Ma_mostAlike 86 = .ok (.iload 8, 2) := by decide +kernel
theorem d_Ma_mostAlike_88 : decode c_Ma_mostAlike 88 = .ok (.imul, 1) := by decide +kernel
theorem d_Ma_mostAlike_89 : decode c_Ma_mostAlike 89 = .ok (.if_icmp .le 14, 3) := by decide +kernel
theorem d_Ma_mostAlike_92 : decode c_Ma_mostAlike 92 = .ok (.iload 6, 2) := by decide +kernel
theorem d_Ma_mostAlike_94 : decode c_Ma_mostAlike 94 = .ok (.istore_n 3, 1) := by decide +kernel
theorem d_Ma_mostAlike_95 : decode c_Ma_mostAlike 95 = .ok (.iload 7, 2) := by decide +kernel
theorem d_Ma_mostAlike_97 : decode c_Ma_mostAlike 97 = .ok (.istore 4, 2) := by decide +kernel
theorem d_Ma_mostAlike_99 : decode c_Ma_mostAlike 99 = .ok (.iload 8, 2) := by decide +kernel
theorem d_Ma_mostAlike_101 : decode c_Ma_mostAlike 101 = .ok (.istore 5, 2) := by decide +kernel
theorem d_Ma_mostAlike_103 : decode c_Ma_mostAlike 103 = .ok (.iinc 6 1, 3) := by decide +kernel
theorem d_Ma_mostAlike_106 : decode c_Ma_mostAlike 106 = .ok (.goto (-95), 3) := by decide +kernel
theorem d_Ma_mostAlike_109 : decode c_Ma_mostAlike 109 = .ok (.iload_n 3, 1) := by decide +kernel
theorem d_Ma_mostAlike_110 : decode c_Ma_mostAlike 110 = .ok (.ireturn, 1) := by decide +kernel
theorem d_Ma_commonBelow_0 : decode c_Ma_commonBelow 0 = .ok (.iconst 0, 1) := by decide +kernel
theorem d_Ma_commonBelow_1 : decode c_Ma_commonBelow 1 = .ok (.istore 4, 2) := by decide +kernel
theorem d_Ma_commonBelow_3 : decode c_Ma_commonBelow 3 = .ok (.aload_n 1, 1) := by decide +kernel
theorem d_Ma_commonBelow_4 : decode c_Ma_commonBelow 4 = .ok (.getfield 35, 3) := by decide +kernel
theorem d_Ma_commonBelow_7 : decode c_Ma_commonBelow 7 = .ok (.iload_n 2, 1) := by decide +kernel
theorem d_Ma_commonBelow_8 : decode c_Ma_commonBelow 8 = .ok (.invokevirtual 105, 3) := by decide +kernel
theorem d_Ma_commonBelow_11 : decode c_Ma_commonBelow 11 = .ok (.istore 5, 2) := by decide +kernel
theorem d_Ma_commonBelow_13 : decode c_Ma_commonBelow 13 = .ok (.aload_n 1, 1) := by decide +kernel
theorem d_Ma_commonBelow_14 : decode c_Ma_commonBelow 14 = .ok (.getfield 46, 3) := by decide +kernel
theorem d_Ma_commonBelow_17 : decode c_Ma_commonBelow 17 = .ok (.iload_n 3, 1) := by decide +kernel
theorem d_Ma_commonBelow_18 : decode c_Ma_commonBelow 18 = .ok (.invokevirtual 105, 3) := by decide +kernel
theorem d_Ma_commonBelow_21 : decode c_Ma_commonBelow 21 = .ok (.istore 6, 2) := by decide +kernel
theorem d_Ma_commonBelow_23 : decode c_Ma_commonBelow 23 = .ok (.iload_n 2, 1) := by decide +kernel
theorem d_Ma_commonBelow_24 : decode c_Ma_commonBelow 24 = .ok (.iconst 1, 1) := by decide +kernel
theorem d_Ma_commonBelow_25 : decode c_Ma_commonBelow 25 = .ok (.iadd, 1) := by decide +kernel
theorem d_Ma_commonBelow_26 : decode c_Ma_commonBelow 26 = .ok (.istore 7, 2) := by decide +kernel
theorem d_Ma_commonBelow_28 : decode c_Ma_commonBelow 28 = .ok (.iload 7, 2) := by decide +kernel
theorem d_Ma_commonBelow_30 : decode c_Ma_commonBelow 30 = .ok (.iload 5, 2) := by decide +kernel
theorem d_Ma_commonBelow_32 : decode c_Ma_commonBelow 32 = .ok (.if_icmp .ge 35, 3) := by decide +kernel
theorem d_Ma_commonBelow_35 : decode c_Ma_commonBelow 35 = .ok (.aload_n 0, 1) := by decide +kernel
theorem d_Ma_commonBelow_36 : decode c_Ma_commonBelow 36 = .ok (.getfield 15, 3) := by decide +kernel
theorem d_Ma_commonBelow_39 : decode c_Ma_commonBelow 39 = .ok (.iload 7, 2) := by decide +kernel
theorem d_Ma_commonBelow_41 : decode c_Ma_commonBelow 41 = .ok (.iaload, 1) := by decide +kernel
theorem d_Ma_commonBelow_42 : decode c_Ma_commonBelow 42 = .ok (.iload_n 3, 1) := by decide +kernel
theorem d_Ma_commonBelow_43 : decode c_Ma_commonBelow 43 = .ok (.if_icmp .le 18, 3) := by decide +kernel
theorem d_Ma_commonBelow_46 : decode c_Ma_commonBelow 46 = .ok (.aload_n 0, 1) := by decide +kernel
theorem d_Ma_commonBelow_47 : decode c_Ma_commonBelow 47 = .ok (.getfield 15, 3) := by decide +kernel
theorem d_Ma_commonBelow_50 : decode c_Ma_commonBelow 50 = .ok (.iload 7, 2) := by decide +kernel
theorem d_Ma_commonBelow_52 : decode c_Ma_commonBelow 52 = .ok (.iaload, 1) := by decide +kernel
theorem d_Ma_commonBelow_53 : decode c_Ma_commonBelow 53 = .ok (.iload 6, 2) := by decide +kernel
theorem d_Ma_commonBelow_55 : decode c_Ma_commonBelow 55 = .ok (.if_icmp .ge 6, 3) := by decide +kernel
theorem d_Ma_commonBelow_58 : decode c_Ma_commonBelow 58 = .ok (.iinc 4 1, 3) := by decide +kernel
theorem d_Ma_commonBelow_61 : decode c_Ma_commonBelow 61 = .ok (.iinc 7 1, 3) := by decide +kernel
theorem d_Ma_commonBelow_64 : decode c_Ma_commonBelow 64 = .ok (.goto (-36), 3) := by decide +kernel
theorem d_Ma_commonBelow_67 : decode c_Ma_commonBelow 67 = .ok (.iload 4, 2) := by decide +kernel
theorem d_Ma_commonBelow_69 : decode c_Ma_commonBelow 69 = .ok (.ireturn, 1) := by decide +kernel
theorem d_Ma_pairRoots_0 : decode c_Ma_pairRoots 0 = .ok (.aload_n 0, 1) := by decide +kernel
theorem d_Ma_pairRoots_1 : decode c_Ma_pairRoots 1 = .ok (.getfield 15, 3) := by decide +kernel
theorem d_Ma_pairRoots_4 : decode c_Ma_pairRoots 4 = .ok (.iconst 0, 1) := by decide +kernel
theorem d_Ma_pairRoots_5 : decode c_Ma_pairRoots 5 = .ok (.iaload, 1) := by decide +kernel
theorem d_Ma_pairRoots_6 : decode c_Ma_pairRoots 6 = .ok (.iconst (-1), 1) := by decide +kernel
theorem d_Ma_pairRoots_7 : decode c_Ma_pairRoots 7 = .ok (.if_icmp .ne 17, 3) := by decide +kernel
theorem d_Ma_pairRoots_10 : decode c_Ma_pairRoots 10 = .ok (.aload_n 0, 1) := by decide +kernel
theorem d_Ma_pairRoots_11 : decode c_Ma_pairRoots 11 = .ok (.getfield 19, 3) := by decide +kernel
theorem d_Ma_pairRoots_14 : decode c_Ma_pairRoots 14 = .ok (.iconst 0, 1) := by decide +kernel
theorem d_Ma_pairRoots_15 : decode c_Ma_pairRoots 15 = .ok (.iaload, 1) := by decide +kernel
theorem d_Ma_pairRoots_16 : decode c_Ma_pairRoots 16 = .ok (.iconst (-1), 1) := by decide +kernel
theorem d_Ma_pairRoots_17 : decode c_Ma_pairRoots 17 = .ok (.if_icmp .ne 7, 3) := by decide +kernel
theorem d_Ma_pairRoots_20 : decode c_Ma_pairRoots 20 = .ok (.iconst 1, 1) := by decide +kernel
theorem d_Ma_pairRoots_21 : decode c_Ma_pairRoots 21 = .ok (.goto 4, 3) := by decide +kernel
theorem d_Ma_pairRoots_24 : decode c_Ma_pairRoots 24 = .ok (.iconst 0, 1) := by decide +kernel
theorem d_Ma_pairRoots_25 : decode c_Ma_pairRoots 25 = .ok (.istore_n 2, 1) := by decide +kernel
theorem d_Ma_pairRoots_26 : decode c_Ma_pairRoots 26 = .ok (.iload_n 2, 1) := by decide +kernel
theorem d_Ma_pairRoots_27 : decode c_Ma_pairRoots 27 = .ok (.ifCond .eq 19, 3) := by decide +kernel
theorem d_Ma_pairRoots_30 : decode c_Ma_pairRoots 30 = .ok (.aload_n 1, 1) := by decide +kernel
theorem d_Ma_pairRoots_31 : decode c_Ma_pairRoots 31 = .ok (.iconst 0, 1) := by decide +kernel
theorem d_Ma_pairRoots_32 : decode c_Ma_pairRoots 32 = .ok (.iconst 0, 1) := by decide +kernel
theorem d_Ma_pairRoots_33 : decode c_Ma_pairRoots 33 = .ok (.invokevirtual 102, 3) := by decide +kernel
theorem d_Ma_pairRoots_36 : decode c_Ma_pairRoots 36 = .ok (.ifCond .eq 10, 3) := by decide +kernel
theorem d_Ma_pairRoots_39 : decode c_Ma_pairRoots 39 = .ok (.aload_n 0, 1) := by decide +kernel
theorem d_Ma_pairRoots_40 : decode c_Ma_pairRoots 40 = .ok (.iconst 0, 1) := by decide +kernel
theorem d_Ma_pairRoots_41 : decode c_Ma_pairRoots 41 = .ok (.iconst 0, 1) := by decide +kernel
theorem d_Ma_pairRoots_42 : decode c_Ma_pairRoots 42 = .ok (.iconst 3, 1) := by decide +kernel
theorem d_Ma_pairRoots_43 : decode c_Ma_pairRoots 43 = .ok (.invokevirtual 75, 3) := by decide +kernel
theorem d_Ma_pairRoots_46 : decode c_Ma_pairRoots 46 = .ok (.return_, 1) := by decide +kernel
theorem d_Ou_init_0 : decode c_Ou_init 0 = .ok (.aload_n 0, 1) := by decide +kernel
theorem d_Ou_init_1 : decode c_Ou_init 1 = .ok (.invokespecial 3, 3) := by decide +kernel
theorem d_Ou_init_4 : decode c_Ou_init 4 = .ok (.aload_n 0, 1) := by decide +kernel
theorem d_Ou_init_5 : decode c_Ou_init 5 = .ok (.sipush 288, 3) := by decide +kernel
theorem d_Ou_init_8 : decode c_Ou_init 8 = .ok (.newarray .int, 2) := by decide +kernel
theorem d_Ou_init_10 : decode c_Ou_init 10 = .ok (.putfield 9, 3) := by decide +kernel
theorem d_Ou_init_13 : decode c_Ou_init 13 = .ok (.aload_n 0, 1) := by decide +kernel
theorem d_Ou_init_14 : decode c_Ou_init 14 = .ok (.iconst 0, 1) := by decide +kernel
theorem d_Ou_init_15 : decode c_Ou_init 15 = .ok (.putfield 15, 3) := by decide +kernel
theorem d_Ou_init_18 : decode c_Ou_init 18 = .ok (.return_, 1) := by decide +kernel
theorem d_Ou_write_0 : decode c_Ou_write 0 = .ok (.aload_n 0, 1) := by decide +kernel
theorem d_Ou_write_1 : decode c_Ou_write 1 = .ok (.iconst 0, 1) := by decide +kernel
theorem d_Ou_write_2 : decode c_Ou_write 2 = .ok (.putfield 15, 3) := by decide +kernel
theorem d_Ou_write_5 : decode c_Ou_write 5 = .ok (.aload_n 1, 1) := by decide +kernel
theorem d_Ou_write_6 : decode c_Ou_write 6 = .ok (.bipush 48, 2) := by decide +kernel
theorem d_Ou_write_8 : decode c_Ou_write 8 = .ok (.iconst 0, 1) := by decide +kernel
theorem d_Ou_write_9 : decode c_Ou_write 9 = .ok (.invokevirtual 19, 3) := by decide +kernel
theorem d_Ou_write_12 : decode c_Ou_write 12 = .ok (.istore_n 2, 1) := by decide +kernel
theorem d_Ou_write_13 : decode c_Ou_write 13 = .ok (.iconst 0, 1) := by decide +kernel
theorem d_Ou_write_14 : decode c_Ou_write 14 = .ok (.istore_n 3, 1) := by decide +kernel
theorem d_Ou_write_15 : decode c_Ou_write 15 = .ok (.iload_n 3, 1) := by decide +kernel
theorem d_Ou_write_16 : decode c_Ou_write 16 = .ok (.bipush 48, 2) := by decide +kernel
theorem d_Ou_write_18 : decode c_Ou_write 18 = .ok (.if_icmp .ge 63, 3) := by decide +kernel
theorem d_Ou_write_21 : decode c_Ou_write 21 = .ok (.iload_n 2, 1) := by decide +kernel
theorem d_Ou_write_22 : decode c_Ou_write 22 = .ok (.iconst (-1), 1) := by decide +kernel
theorem d_Ou_write_23 : decode c_Ou_write 23 = .ok (.if_icmp .eq 58, 3) := by decide +kernel
theorem d_Ou_write_26 : decode c_Ou_write 26 = .ok (.aload_n 0, 1) := by decide +kernel
theorem d_Ou_write_27 : decode c_Ou_write 27 = .ok (.aload_n 1, 1) := by decide +kernel
theorem d_Ou_write_28 : decode c_Ou_write 28 = .ok (.getfield 25, 3) := by decide +kernel
theorem d_Ou_write_31 : decode c_Ou_write 31 = .ok (.iload_n 2, 1) := by decide +kernel
theorem d_Ou_write_32 : decode c_Ou_write 32 = .ok (.iaload, 1) := by decide +kernel
theorem d_Ou_write_33 : decode c_Ou_write 33 = .ok (.aload_n 1, 1) := by decide +kernel
theorem d_Ou_write_34 : decode c_Ou_write 34 = .ok (.getfield 28, 3) := by decide +kernel
theorem d_Ou_write_37 : decode c_Ou_write 37 = .ok (.iload_n 2, 1) := by decide +kernel
theorem d_Ou_write_38 : decode c_Ou_write 38 = .ok (.iaload, 1) := by decide +kernel
theorem d_Ou_write_39 : decode c_Ou_write 39 = .ok (.invokevirtual 31, 3) := by decide +kernel
theorem d_Ou_write_42 : decode c_Ou_write 42 = .ok (.aload_n 1, 1) := by decide +kernel
theorem d_Ou_write_43 : decode c_Ou_write 43 = .ok (.iload_n 2, 1) := by decide +kernel
theorem d_Ou_write_44 : decode c_Ou_write 44 = .ok (.iconst 0, 1) := by decide +kernel
theorem d_Ou_write_45 : decode c_Ou_write 45 = .ok (.invokevirtual 19, 3) := by decide +kernel
theorem d_Ou_write_48 : decode c_Ou_write 48 = .ok (.istore 4, 2) := by decide +kernel
theorem d_Ou_write_50 : decode c_Ou_write 50 = .ok (.iload 4, 2) := by decide +kernel
theorem d_Ou_write_52 : decode c_Ou_write 52 = .ok (.iconst (-1), 1) := by decide +kernel
theorem d_Ou_write_53 : decode c_Ou_write 53 = .ok (.if_icmp .ne 13, 3) := by decide +kernel
theorem d_Ou_write_56 : decode c_Ou_write 56 = .ok (.aload_n 0, 1) := by decide +kernel
theorem d_Ou_write_57 : decode c_Ou_write 57 = .ok (.aload_n 1, 1) := by decide +kernel
theorem d_Ou_write_58 : decode c_Ou_write 58 = .ok (.iload_n 2, 1) := by decide +kernel
theorem d_Ou_write_59 : decode c_Ou_write 59 = .ok (.invokevirtual 35, 3) := by decide +kernel
theorem d_Ou_write_62 : decode c_Ou_write 62 = .ok (.istore_n 2, 1) := by decide +kernel
theorem d_Ou_write_63 : decode c_Ou_write 63 = .ok (.goto 12, 3) := by decide +kernel
theorem d_Ou_write_66 : decode c_Ou_write 66 = .ok (.aload_n 0, 1) := by decide +kernel
theorem d_Ou_write_67 : decode c_Ou_write 67 = .ok (.bipush 40, 2) := by decide +kernel
theorem d_Ou_write_69 : decode c_Ou_write 69 = .ok (.invokevirtual 39, 3) := by decide +kernel
theorem d_Ou_write_72 : decode c_Ou_write 72 = .ok (.iload 4, 2) := by decide +kernel
theorem d_Ou_write_74 : decode c_Ou_write 74 = .ok (.istore_n 2, 1) := by decide +kernel
theorem d_Ou_write_75 : decode c_Ou_write 75 = .ok (.iinc 3 1, 3) := by decide +kernel
theorem d_Ou_write_78 : decode c_Ou_write 78 = .ok (.goto (-63), 3) := by decide +kernel
theorem d_Ou_write_81 : decode c_Ou_write 81 = .ok (.return_, 1) := by decide +kernel
theorem d_Ou_closeUpToNext_0 : decode c_Ou_closeUpToNext 0 = .ok (.iload_n 2, 1) := by decide +kernel
theorem d_Ou_closeUpToNext_1 : decode c_Ou_closeUpToNext 1 = .ok (.istore_n 3, 1) := by decide +kernel
theorem d_Ou_closeUpToNext_2 : decode c_Ou_closeUpToNext 2 = .ok (.iconst 0, 1) := by decide +kernel
theorem d_Ou_closeUpToNext_3 : decode c_Ou_closeUpToNext 3 = .ok (.istore 4, 2) := by decide +kernel
theorem d_Ou_closeUpToNext_5 : decode c_Ou_closeUpToNext 5 = .ok (.iload 4, 2) := by decide +kernel
theorem d_Ou_closeUpToNext_7 : decode c_Ou_closeUpToNext 7 = .ok (.bipush 49, 2) := by decide +kernel
theorem d_Ou_closeUpToNext_9 : decode c_Ou_closeUpToNext 9 = .ok (.if_icmp .ge 71, 3) := by decide +kernel
theorem d_Ou_closeUpToNext_12 : decode c_Ou_closeUpToNext 12 = .ok (.aload_n 1, 1) := by decide +kernel
theorem d_Ou_closeUpToNext_13 : decode c_Ou_closeUpToNext 13 = .ok (.iload_n 3, 1) := by decide +kernel
theorem d_Ou_closeUpToNext_14 : decode c_Ou_closeUpToNext 14 = .ok (.invokevirtual 43, 3) := by decide +kernel
theorem d_Ou_closeUpToNext_17 : decode c_Ou_closeUpToNext 17 = .ok (.ifCond .eq 63, 3) := by decide +kernel
theorem d_Ou_closeUpToNext_20 : decode c_Ou_closeUpToNext 20 = .ok (.aload_n 1, 1) := by decide +kernel
theorem d_Ou_closeUpToNext_21 : decode c_Ou_closeUpToNext 21 = .ok (.aload_n 1, 1) := by decide +kernel
theorem d_Ou_closeUpToNext_22 : decode c_Ou_closeUpToNext 22 = .ok (.getfield 47, 3) := by decide +kernel
theorem d_Ou_closeUpToNext_25 : decode c_Ou_closeUpToNext 25 = .ok (.iload_n 3, 1) := by decide +kernel
theorem d_Ou_closeUpToNext_26 : decode c_Ou_closeUpToNext 26 = .ok (.iaload, 1) := by decide +kernel
theorem d_Ou_closeUpToNext_27 : decode c_Ou_closeUpToNext 27 = .ok (.aload_n 1, 1) := by decide +kernel
theorem d_Ou_closeUpToNext_28 : decode c_Ou_closeUpToNext 28 = .ok (.getfield 50, 3) := by decide +kernel
theorem d_Ou_closeUpToNext_31 : decode c_Ou_closeUpToNext 31 = .ok (.iload_n 3, 1) := by decide +kernel
theorem d_Ou_closeUpToNext_32 : decode c_Ou_closeUpToNext 32 = .ok (.iaload, 1) := by decide +kernel
theorem d_Ou_closeUpToNext_33 : decode c_Ou_closeUpToNext 33 = .ok (.iconst 1, 1) := by decide +kernel
theorem d_Ou_closeUpToNext_34 : decode c_Ou_closeUpToNext 34 = .ok (.iadd, 1) := by decide +kernel
theorem d_Ou_closeUpToNext_35 : decode c_Ou_closeUpToNext 35 = .ok (.invokevirtual 19, 3) := by decide +kernel
theorem d_Ou_closeUpToNext_38 : decode c_Ou_closeUpToNext 38 = .ok (.istore 5, 2) := by decide +kernel
theorem d_Ou_closeUpToNext_40 : decode c_Ou_closeUpToNext 40 = .ok (.iload 5, 2) := by decide +kernel
theorem d_Ou_closeUpToNext_42 : decode c_Ou_closeUpToNext 42 = .ok (.iconst (-1), 1) := by decide +kernel
theorem d_Ou_closeUpToNext_43 : decode c_Ou_closeUpToNext 43 = .ok (.if_icmp .eq 12, 3) := by decide +kernel
theorem d_Ou_closeUpToNext_46 : decode c_Ou_closeUpToNext 46 = .ok (.aload_n 0, 1) := by decide +kernel
theorem d_Ou_closeUpToNext_47 : decode c_Ou_closeUpToNext 47 = .ok (.bipush 32, 2) := by decide +kernel
theorem d_Ou_closeUpToNext_49 : decode c_Ou_closeUpToNext 49 = .ok (.invokevirtual 39, 3) := by decide +kernel
theorem d_Ou_closeUpToNext_52 : decode c_Ou_closeUpToNext 52 = .ok (.iload 5, 2) := by decide +kernel
theorem d_Ou_closeUpToNext_54 : decode c_Ou_closeUpToNext 54 = .ok (.ireturn, 1) := by decide +kernel
theorem d_Ou_closeUpToNext_55 : decode c_Ou_closeUpToNext 55 = .ok (.aload_n 1, 1) := by decide +kernel
theorem d_Ou_closeUpToNext_56 : decode c_Ou_closeUpToNext 56 = .ok (.getfield 47, 3) := by decide +kernel
theorem d_Ou_closeUpToNext_59 : decode c_Ou_closeUpToNext 59 = .ok (.iload_n 3, 1) := by decide +kernel
theorem d_Ou_closeUpToNext_60 : decode c_Ou_closeUpToNext 60 = .ok (.iaload, 1) := by decide +kernel
theorem d_Ou_closeUpToNext_61 : decode c_Ou_closeUpToNext 61 = .ok (.istore_n 3, 1) := by decide +kernel
theorem d_Ou_closeUpToNext_62 : decode c_Ou_closeUpToNext 62 = .ok (.iload_n 3, 1) := by decide +kernel
theorem d_Ou_closeUpToNext_63 : decode c_Ou_closeUpToNext 63 = .ok (.bipush 48, 2) := by decide +kernel
theorem d_Ou_closeUpToNext_65 : decode c_Ou_closeUpToNext 65 = .ok (.if_icmp .eq 9, 3) := by decide +kernel
theorem d_Ou_closeUpToNext_68 : decode c_Ou_closeUpToNext 68 = .ok (.aload_n 0, 1) := by decide +kernel
theorem d_Ou_closeUpToNext_69 : decode c_Ou_closeUpToNext 69 = .ok (.bipush 41, 2) := by decide +kernel
theorem d_Ou_closeUpToNext_71 : decode c_Ou_closeUpToNext 71 = .ok (.invokevirtual 39, 3) := by decide +kernel
theorem d_Ou_closeUpToNext_74 : decode c_Ou_closeUpToNext 74 = .ok (.iinc 4 1, 3) := by decide +kernel
theorem d_Ou_closeUpToNext_77 : decode c_Ou_closeUpToNext 77 = .ok (.goto (-72), 3) := by decide +kernel
theorem d_Ou_closeUpToNext_80 : decode c_Ou_closeUpToNext 80 = .ok (.iconst (-1), 1) := by decide +kernel
theorem d_Ou_closeUpToNext_81 : decode c_Ou_closeUpToNext 81 = .ok (.ireturn, 1) := by decide +kernel
theorem d_Ou_putContent_0 : decode c_Ou_putContent 0 = .ok (.aload_n 0, 1) := by decide +kernel
theorem d_Ou_putContent_1 : decode c_Ou_putContent 1 = .ok (.bipush 97, 2) := by decide +kernel
theorem d_Ou_putContent_3 : decode c_Ou_putContent 3 = .ok (.iload_n 1, 1) := by decide +kernel
theorem d_Ou_putContent_4 : decode c_Ou_putContent 4 = .ok (.iadd, 1) := by decide +kernel
theorem d_Ou_putContent_5 : decode c_Ou_putContent 5 = .ok (.invokevirtual 39, 3) := by decide +kernel
theorem d_Ou_putContent_8 : decode c_Ou_putContent 8 = .ok (.iload_n 2, 1) := by decide +kernel
theorem d_Ou_putContent_9 : decode c_Ou_putContent 9 = .ok (.bipush 10, 2) := by decide +kernel
theorem d_Ou_putContent_11 : decode c_Ou_putContent 11 = .ok (.if_icmp .lt 14, 3) := by decide +kernel
theorem d_Ou_putContent_14 : decode c_Ou_putContent 14 = .ok (.aload_n 0, 1) := by decide +kernel
theorem d_Ou_putContent_15 : decode c_Ou_putContent 15 = .ok (.bipush 48, 2) := by decide +kernel
theorem d_Ou_putContent_17 : decode c_Ou_putContent 17 = .ok (.iload_n 2, 1) := by decide +kernel
theorem d_Ou_putContent_18 : decode c_Ou_putContent 18 = .ok (.bipush 10, 2) := by decide +kernel
theorem d_Ou_putContent_20 : decode c_Ou_putContent 20 = .ok (.idiv, 1) := by decide +kernel
theorem d_Ou_putContent_21 : decode c_Ou_putContent 21 = .ok (.iadd, 1) := by decide +kernel
theorem d_Ou_putContent_22 : decode c_Ou_putContent 22 = .ok (.invokevirtual 39, 3) := by decide +kernel
theorem d_Ou_putContent_25 : decode c_Ou_putContent 25 = .ok (.iload_n 2, 1) := by decide +kernel
theorem d_Ou_putContent_26 : decode c_Ou_putContent 26 = .ok (.ifCond .le 14, 3) := by decide +kernel
theorem d_Ou_putContent_29 : decode c_Ou_putContent 29 = .ok (.aload_n 0, 1) := by decide +kernel
theorem d_Ou_putContent_30 : decode c_Ou_putContent 30 = .ok (.bipush 48, 2) := by decide +kernel
theorem d_Ou_putContent_32 : decode c_Ou_putContent 32 = .ok (.iload_n 2, 1) := by decide +kernel
theorem d_Ou_putContent_33 : decode c_Ou_putContent 33 = .ok (.bipush 10, 2) := by decide +kernel
theorem d_Ou_putContent_35 : decode c_Ou_putContent 35 = .ok (.irem, 1) := by decide +kernel
theorem d_Ou_putContent_36 : decode c_Ou_putContent 36 = .ok (.iadd, 1) := by decide +kernel
theorem d_Ou_putContent_37 : decode c_Ou_putContent 37 = .ok (.invokevirtual 39, 3) := by decide +kernel
theorem d_Ou_putContent_40 : decode c_Ou_putContent 40 = .ok (.return_, 1) := by decide +kernel
theorem d_Ou_put_0 : decode c_Ou_put 0 = .ok (.aload_n 0, 1) := by decide +kernel
theorem d_Ou_put_1 : decode c_Ou_put 1 = .ok (.getfield 15, 3) := by decide +kernel
theorem d_Ou_put_4 : decode c_Ou_put 4 = .ok (.sipush 288, 3) := by decide +kernel
theorem d_Ou_put_7 : decode c_Ou_put 7 = .ok (.if_icmp .ge 23, 3) := by decide +kernel
theorem d_Ou_put_10 : decode c_Ou_put 10 = .ok (.aload_n 0, 1) := by decide +kernel
theorem d_Ou_put_11 : decode c_Ou_put 11 = .ok (.getfield 9, 3) := by decide +kernel
theorem d_Ou_put_14 : decode c_Ou_put 14 = .ok (.aload_n 0, 1) := by decide +kernel
theorem d_Ou_put_15 : decode c_Ou_put 15 = .ok (.getfield 15, 3) := by decide +kernel
theorem d_Ou_put_18 : decode c_Ou_put 18 = .ok (.iload_n 1, 1) := by decide +kernel
theorem d_Ou_put_19 : decode c_Ou_put 19 = .ok (.iastore, 1) := by decide +kernel
theorem d_Ou_put_20 : decode c_Ou_put 20 = .ok (.aload_n 0, 1) := by decide +kernel
theorem d_Ou_put_21 : decode c_Ou_put 21 = .ok (.dup, 1) := by decide +kernel
theorem d_Ou_put_22 : decode c_Ou_put 22 = .ok (.getfield 15, 3) := by decide +kernel
theorem d_Ou_put_25 : decode c_Ou_put 25 = .ok (.iconst 1, 1) := by decide +kernel
theorem d_Ou_put_26 : decode c_Ou_put 26 = .ok (.iadd, 1) := by decide +kernel
theorem d_Ou_put_27 : decode c_Ou_put 27 = .ok (.putfield 15, 3) := by decide +kernel
theorem d_Ou_put_30 : decode c_Ou_put 30 = .ok (.return_, 1) := by decide +kernel
theorem d_Sc_init_0 : decode c_Sc_init 0 = .ok (.aload_n 0, 1) := by decide +kernel
theorem d_Sc_init_1 : decode c_Sc_init 1 = .ok (.invokespecial 3, 3) := by decide +kernel
theorem d_Sc_init_4 : decode c_Sc_init 4 = .ok (.aload_n 0, 1) := by decide +kernel
theorem d_Sc_init_5 : decode c_Sc_init 5 = .ok (.bipush 96, 2) := by decide +kernel
theorem d_Sc_init_7 : decode c_Sc_init 7 = .ok (.anewarray 9, 3) := by decide +kernel
theorem d_Sc_init_10 : decode c_Sc_init 10 = .ok (.putfield 11, 3) := by decide +kernel
theorem d_Sc_init_13 : decode c_Sc_init 13 = .ok (.aload_n 0, 1) := by decide +kernel
theorem d_Sc_init_14 : decode c_Sc_init 14 = .ok (.iconst 0, 1) := by decide +kernel
theorem d_Sc_init_15 : decode c_Sc_init 15 = .ok (.putfield 17, 3) := by decide +kernel
theorem d_Sc_init_18 : decode c_Sc_init 18 = .ok (.aload_n 0, 1) := by decide +kernel
theorem d_Sc_init_19 : decode c_Sc_init 19 = .ok (.new 21, 3) := by decide +kernel
theorem d_Sc_init_22 : decode c_Sc_init 22 = .ok (.dup, 1) := by decide +kernel
theorem d_Sc_init_23 : decode c_Sc_init 23 = .ok (.invokespecial 23, 3) := by decide +kernel
theorem d_Sc_init_26 : decode c_Sc_init 26 = .ok (.putfield 24, 3) := by decide +kernel
theorem d_Sc_init_29 : decode c_Sc_init 29 = .ok (.aload_n 0, 1) := by decide +kernel
theorem d_Sc_init_30 : decode c_Sc_init 30 = .ok (.bipush 24, 2) := by decide +kernel
theorem d_Sc_init_32 : decode c_Sc_init 32 = .ok (.newarray .int, 2) := by decide +kernel
theorem d_Sc_init_34 : decode c_Sc_init 34 = .ok (.putfield 28, 3) := by decide +kernel
theorem d_Sc_init_37 : decode c_Sc_init 37 = .ok (.aload_n 0, 1) := by decide +kernel
theorem d_Sc_init_38 : decode c_Sc_init 38 = .ok (.bipush 24, 2) := by decide +kernel
theorem d_Sc_init_40 : decode c_Sc_init 40 = .ok (.newarray .boolean, 2) := by decide +kernel
theorem d_Sc_init_42 : decode c_Sc_init 42 = .ok (.putfield 32, 3) := by decide +kernel
theorem d_Sc_init_45 : decode c_Sc_init 45 = .ok (.aload_n 0, 1) := by decide +kernel
theorem d_Sc_init_46 : decode c_Sc_init 46 = .ok (.bipush 24, 2) := by decide +kernel
theorem d_Sc_init_48 : decode c_Sc_init 48 = .ok (.newarray .int, 2) := by decide +kernel
theorem d_Sc_init_50 : decode c_Sc_init 50 = .ok (.putfield 36, 3) := by decide +kernel
theorem d_Sc_init_53 : decode c_Sc_init 53 = .ok (.aload_n 0, 1) := by decide +kernel
theorem d_Sc_init_54 : decode c_Sc_init 54 = .ok (.bipush 24, 2) := by decide +kernel
theorem d_Sc_init_56 : decode c_Sc_init 56 = .ok (.newarray .int, 2) := by decide +kernel
theorem d_Sc_init_58 : decode c_Sc_init 58 = .ok (.putfield 39, 3) := by decide +kernel
theorem d_Sc_init_61 : decode c_Sc_init 61 = .ok (.iconst 0, 1) := by decide +kernel
theorem d_Sc_init_62 : decode c_Sc_init 62 = .ok (.istore_n 1, 1) := by decide +kernel
theorem d_Sc_init_63 : decode c_Sc_init 63 = .ok (.iload_n 1, 1) := by decide +kernel
theorem d_Sc_init_64 : decode c_Sc_init 64 = .ok (.bipush 96, 2) := by decide +kernel
theorem d_Sc_init_66 : decode c_Sc_init 66 = .ok (.if_icmp .ge 22, 3) := by decide +kernel
theorem d_Sc_init_69 : decode c_Sc_init 69 = .ok (.aload_n 0, 1) := by decide +kernel
theorem d_Sc_init_70 : decode c_Sc_init 70 = .ok (.getfield 11, 3) := by decide +kernel
theorem d_Sc_init_73 : decode c_Sc_init 73 = .ok (.iload_n 1, 1) := by decide +kernel
theorem d_Sc_init_74 : decode c_Sc_init 74 = .ok (.new 9, 3) := by decide +kernel
theorem d_Sc_init_77 : decode c_Sc_init 77 = .ok (.dup, 1) := by decide +kernel
theorem d_Sc_init_78 : decode c_Sc_init 78 = .ok (.invokespecial 42, 3) := by decide +kernel
theorem d_Sc_init_81 : decode c_Sc_init 81 = .ok (.aastore, 1) := by decide +kernel
theorem d_Sc_init_82 : decode c_Sc_init 82 = .ok (.iinc 1 1, 3) := by decide +kernel
theorem d_Sc_init_85 : decode c_Sc_init 85 = .ok (.goto (-22), 3) := by decide +kernel
theorem d_Sc_init_88 : decode c_Sc_init 88 = .ok (.return_, 1) := by decide +kernel
theorem d_Sc_make_0 : decode c_Sc_make 0 = .ok (.aload_n 0, 1) := by decide +kernel
theorem d_Sc_make_1 : decode c_Sc_make 1 = .ok (.iconst 0, 1) := by decide +kernel
theorem d_Sc_make_2 : decode c_Sc_make 2 = .ok (.putfield 17, 3) := by decide +kernel
theorem d_Sc_make_5 : decode c_Sc_make 5 = .ok (.aload_n 0, 1) := by decide +kernel
theorem d_Sc_make_6 : decode c_Sc_make 6 = .ok (.getfield 24, 3) := by decide +kernel
theorem d_Sc_make_9 : decode c_Sc_make 9 = .ok (.aload_n 1, 1) := by decide +kernel
theorem d_Sc_make_10 : decode c_Sc_make 10 = .ok (.getfield 43, 3) := by decide +kernel
theorem d_Sc_make_13 : decode c_Sc_make 13 = .ok (.invokevirtual 49, 3) := by decide +kernel
theorem d_Sc_make_16 : decode c_Sc_make 16 = .ok (.iconst 0, 1) := by decide +kernel
theorem d_Sc_make_17 : decode c_Sc_make 17 = .ok (.istore_n 3, 1) := by decide +kernel
theorem d_Sc_make_18 : decode c_Sc_make 18 = .ok (.iload_n 3, 1) := by decide +kernel
theorem d_Sc_make_19 : decode c_Sc_make 19 = .ok (.bipush 24, 2) := by decide +kernel
theorem d_Sc_make_21 : decode c_Sc_make 21 = .ok (.if_icmp .ge 28, 3) := by decide +kernel
theorem d_Sc_make_24 : decode c_Sc_make 24 = .ok (.aload_n 0, 1) := by decide +kernel
theorem d_Sc_make_25 : decode c_Sc_make 25 = .ok (.getfield 28, 3) := by decide +kernel
theorem d_Sc_make_28 : decode c_Sc_make 28 = .ok (.iload_n 3, 1) := by decide +kernel
theorem d_Sc_make_29 : decode c_Sc_make 29 = .ok (.aload_n 2, 1) := by decide +kernel
theorem d_Sc_make_30 : decode c_Sc_make 30 = .ok (.getfield 53, 3) := by decide +kernel
theorem d_Sc_make_33 : decode c_Sc_make 33 = .ok (.iload_n 3, 1) := by decide +kernel
theorem d_Sc_make_34 : decode c_Sc_make 34 = .ok (.iaload, 1) := by decide +kernel
theorem d_Sc_make_35 : decode c_Sc_make 35 = .ok (.iastore, 1) := by decide +kernel
theorem d_Sc_make_36 : decode c_Sc_make 36 = .ok (.aload_n 0, 1) := by decide +kernel
theorem d_Sc_make_37 : decode c_Sc_make 37 = .ok (.getfield 32, 3) := by decide +kernel
theorem d_Sc_make_40 : decode c_Sc_make 40 = .ok (.iload_n 3, 1) := by decide +kernel
theorem d_Sc_make_41 : decode c_Sc_make 41 = .ok (.iconst 0, 1) := by decide +kernel
theorem d_Sc_make_42 : decode c_Sc_make 42 = .ok (.bastore, 1) := by decide +kernel
theorem d_Sc_make_43 : decode c_Sc_make 43 = .ok (.iinc 3 1, 3) := by decide +kernel
theorem d_Sc_make_46 : decode c_Sc_make 46 = .ok (.goto (-28), 3) := by decide +kernel
theorem d_Sc_make_49 : decode c_Sc_make 49 = .ok (.aload_n 1, 1) := by decide +kernel
theorem d_Sc_make_50 : decode c_Sc_make 50 = .ok (.getfield 58, 3) := by decide +kernel
theorem d_Sc_make_53 : decode c_Sc_make 53 = .ok (.astore_n 3, 1) := by decide +kernel
theorem d_Sc_make_54 : decode c_Sc_make 54 = .ok (.aload_n 0, 1) := by decide +kernel
theorem d_Sc_make_55 : decode c_Sc_make 55 = .ok (.aload_n 3, 1) := by decide +kernel
theorem d_Sc_make_56 : decode c_Sc_make 56 = .ok (.iconst (-1), 1) := by decide +kernel
theorem d_Sc_make_57 : decode c_Sc_make 57 = .ok (.invokevirtual 61, 3) := by decide +kernel
theorem d_Sc_make_60 : decode c_Sc_make 60 = .ok (.iconst 0, 1) := by decide +kernel
theorem d_Sc_make_61 : decode c_Sc_make 61 = .ok (.istore 4, 2) := by decide +kernel
theorem d_Sc_make_63 : decode c_Sc_make 63 = .ok (.iload 4, 2) := by decide +kernel
theorem d_Sc_make_65 : decode c_Sc_make 65 = .ok (.aload_n 3, 1) := by decide +kernel
theorem d_Sc_make_66 : decode c_Sc_make 66 = .ok (.getfield 65, 3) := by decide +kernel
theorem d_Sc_make_69 : decode c_Sc_make 69 = .ok (.iconst 0, 1) := by decide +kernel
theorem d_Sc_make_70 : decode c_Sc_make 70 = .ok (.iaload, 1) := by decide +kernel
theorem d_Sc_make_71 : decode c_Sc_make 71 = .ok (.if_icmp .ge 46, 3) := by decide +kernel
theorem d_Sc_make_74 : decode c_Sc_make 74 = .ok (.iconst 0, 1) := by decide +kernel
theorem d_Sc_make_75 : decode c_Sc_make 75 = .ok (.istore 5, 2) := by decide +kernel
theorem d_Sc_make_77 : decode c_Sc_make 77 = .ok (.iload 5, 2) := by decide +kernel
theorem d_Sc_make_79 : decode c_Sc_make 79 = .ok (.aload_n 3, 1) := by decide +kernel
theorem d_Sc_make_80 : decode c_Sc_make 80 = .ok (.getfield 70, 3) := by decide +kernel
theorem d_Sc_make_83 : decode c_Sc_make 83 = .ok (.if_icmp .ge 28, 3) := by decide +kernel
theorem d_Sc_make_86 : decode c_Sc_make 86 = .ok (.aload_n 3, 1) := by decide +kernel
theorem d_Sc_make_87 : decode c_Sc_make 87 = .ok (.getfield 73, 3) := by decide +kernel
theorem d_Sc_make_90 : decode c_Sc_make 90 = .ok (.iload 5, 2) := by decide +kernel
theorem d_Sc_make_92 : decode c_Sc_make 92 = .ok (.iaload, 1) := by decide +kernel
theorem d_Sc_make_93 : decode c_Sc_make 93 = .ok (.iload 4, 2) := by decide +kernel
theorem d_Sc_make_95 : decode c_Sc_make 95 = .ok (.if_icmp .ne 10, 3) := by decide +kernel
theorem d_Sc_make_98 : decode c_Sc_make 98 = .ok (.aload_n 0, 1) := by decide +kernel
theorem d_Sc_make_99 : decode c_Sc_make 99 = .ok (.aload_n 3, 1) := by decide +kernel
theorem d_Sc_make_100 : decode c_Sc_make 100 = .ok (.iload 5, 2) := by decide +kernel
theorem d_Sc_make_102 : decode c_Sc_make 102 = .ok (.invokevirtual 76, 3) := by decide +kernel
theorem d_Sc_make_105 : decode c_Sc_make 105 = .ok (.iinc 5 1, 3) := by decide +kernel
theorem d_Sc_make_108 : decode c_Sc_make 108 = .ok (.goto (-31), 3) := by decide +kernel
theorem d_Sc_make_111 : decode c_Sc_make 111 = .ok (.iinc 4 1, 3) := by decide +kernel
theorem d_Sc_make_114 : decode c_Sc_make 114 = .ok (.goto (-51), 3) := by decide +kernel
theorem d_Sc_make_117 : decode c_Sc_make 117 = .ok (.aload_n 0, 1) := by decide +kernel
theorem d_Sc_make_118 : decode c_Sc_make 118 = .ok (.aload_n 1, 1) := by decide +kernel
theorem d_Sc_make_119 : decode c_Sc_make 119 = .ok (.getfield 43, 3) := by decide +kernel
theorem d_Sc_make_122 : decode c_Sc_make 122 = .ok (.aload_n 2, 1) := by decide +kernel
theorem d_Sc_make_123 : decode c_Sc_make 123 = .ok (.invokevirtual 79, 3) := by decide +kernel
theorem d_Sc_make_126 : decode c_Sc_make 126 = .ok (.return_, 1) := by decide +kernel
theorem d_Sc_addStep_0 : decode c_Sc_addStep 0 = .ok (.aload_n 0, 1) := by decide +kernel
theorem d_Sc_addStep_1 : decode c_Sc_addStep 1 = .ok (.getfield 17, 3) := by decide +kernel
theorem d_Sc_addStep_4 : decode c_Sc_addStep 4 = .ok (.bipush 95, 2) := by decide +kernel
theorem d_Sc_addStep_6 : decode c_Sc_addStep 6 = .ok (.invokestatic 83, 3) := by decide +kernel
theorem d_Sc_addStep_9 : decode c_Sc_addStep 9 = .ok (.istore_n 3, 1) := by decide +kernel
theorem d_Sc_addStep_10 : decode c_Sc_addStep 10 = .ok (.aload_n 0, 1) := by decide +kernel
theorem d_Sc_addStep_11 : decode c_Sc_addStep 11 = .ok (.iload_n 3, 1) := by decide +kernel
theorem d_Sc_addStep_12 : decode c_Sc_addStep 12 = .ok (.iconst 1, 1) := by decide +kernel
theorem d_Sc_addStep_13 : decode c_Sc_addStep 13 = .ok (.iadd, 1) := by decide +kernel
theorem d_Sc_addStep_14 : decode c_Sc_addStep 14 = .ok (.putfield 17, 3) := by decide +kernel
theorem d_Sc_addStep_17 : decode c_Sc_addStep 17 = .ok (.aload_n 0, 1) := by decide +kernel
theorem d_Sc_addStep_18 : decode c_Sc_addStep 18 = .ok (.getfield 11, 3) := by decide +kernel
theorem d_Sc_addStep_21 : decode c_Sc_addStep 21 = .ok (.iload_n 3, 1) := by decide +kernel
theorem d_Sc_addStep_22 : decode c_Sc_addStep 22 = .ok (.aaload, 1) := by decide +kernel
theorem d_Sc_addStep_23 : decode c_Sc_addStep 23 = .ok (.astore 4, 2) := by decide +kernel
theorem d_Sc_addStep_25 : decode c_Sc_addStep 25 = .ok (.aload 4, 2) := by decide +kernel
theorem d_Sc_addStep_27 : decode c_Sc_addStep 27 = .ok (.iload_n 1, 1) := by decide +kernel
theorem d_Sc_addStep_28 : decode c_Sc_addStep 28 = .ok (.putfield 89, 3) := by decide +kernel
theorem d_Sc_addStep_31 : decode c_Sc_addStep 31 = .ok (.aload 4, 2) := by decide +kernel
theorem d_Sc_addStep_33 : decode c_Sc_addStep 33 = .ok (.iload_n 2, 1) := by decide +kernel
theorem d_Sc_addStep_34 : decode c_Sc_addStep 34 = .ok (.putfield 92, 3) := by decide +kernel
theorem d_Sc_addStep_37 : decode c_Sc_addStep 37 = .ok (.aload 4, 2) := by decide +kernel
theorem d_Sc_addStep_39 : decode c_Sc_addStep 39 = .ok (.areturn, 1) := by decide +kernel
theorem d_Sc_bringIntoLine_0 : decode c_Sc_bringIntoLine 0 = .ok (.aload_n 0, 1) := by decide +kernel
theorem d_Sc_bringIntoLine_1 : decode c_Sc_bringIntoLine 1 = .ok (.getfield 28, 3) := by decide +kernel
theorem d_Sc_bringIntoLine_4 : decode c_Sc_bringIntoLine 4 = .ok (.iload_n 2, 1) := by decide +kernel
theorem d_Sc_bringIntoLine_5 : decode c_Sc_bringIntoLine 5 = .ok (.iaload, 1) := by decide +kernel
theorem d_Sc_bringIntoLine_6 : decode c_Sc_bringIntoLine 6 = .ok (.iconst (-1), 1) := by decide +kernel
theorem d_Sc_bringIntoLine_7 : decode c_Sc_bringIntoLine 7 = .ok (.if_icmp .ne 12, 3) := by decide +kernel
theorem d_Sc_bringIntoLine_10 : decode c_Sc_bringIntoLine 10 = .ok (.aload_n 0, 1) := by decide +kernel
theorem d_Sc_bringIntoLine_11 : decode c_Sc_bringIntoLine 11 = .ok (.aload_n 1, 1) := by decide +kernel
theorem d_Sc_bringIntoLine_12 : decode c_Sc_bringIntoLine 12 = .ok (.iload_n 2, 1) := by decide +kernel
theorem d_Sc_bringIntoLine_13 : decode c_Sc_bringIntoLine 13 = .ok (.invokevirtual 95, 3) := by decide +kernel
theorem d_Sc_bringIntoLine_16 : decode c_Sc_bringIntoLine 16 = .ok (.goto 67, 3) := by decide +kernel
theorem d_Sc_bringIntoLine_19 : decode c_Sc_bringIntoLine 19 = .ok (.aload_n 0, 1) := by decide +kernel
theorem d_Sc_bringIntoLine_20 : decode c_Sc_bringIntoLine 20 = .ok (.getfield 28, 3) := by decide +kernel
theorem d_Sc_bringIntoLine_23 : decode c_Sc_bringIntoLine 23 = .ok (.iload_n 2, 1) := by decide +kernel
theorem d_Sc_bringIntoLine_24 : decode c_Sc_bringIntoLine 24 = .ok (.iaload, 1) := by decide +kernel
theorem d_Sc_bringIntoLine_25 : decode c_Sc_bringIntoLine 25 = .ok (.istore_n 3, 1) := by decide +kernel
theorem d_Sc_bringIntoLine_26 : decode c_Sc_bringIntoLine 26 = .ok (.aload_n 0, 1) := by decide +kernel
theorem d_Sc_bringIntoLine_27 : decode c_Sc_bringIntoLine 27 = .ok (.getfield 24, 3) := by decide +kernel
theorem d_Sc_bringIntoLine_30 : decode c_Sc_bringIntoLine 30 = .ok (.getfield 98, 3) := by decide +kernel
theorem d_Sc_bringIntoLine_33 : decode c_Sc_bringIntoLine 33 = .ok (.iload_n 3, 1) := by decide +kernel
theorem d_Sc_bringIntoLine_34 : decode c_Sc_bringIntoLine 34 = .ok (.iaload, 1) := by decide +kernel
theorem d_Sc_bringIntoLine_35 : decode c_Sc_bringIntoLine 35 = .ok (.aload_n 1, 1) := by decide +kernel
theorem d_Sc_bringIntoLine_36 : decode c_Sc_bringIntoLine 36 = .ok (.getfield 101, 3) := by decide +kernel
theorem d_Sc_bringIntoLine_39 : decode c_Sc_bringIntoLine 39 = .ok (.iload_n 2, 1) := by decide +kernel
theorem d_Sc_bringIntoLine_40 : decode c_Sc_bringIntoLine 40 = .ok (.iaload, 1) := by decide +kernel
theorem d_Sc_bringIntoLine_41 : decode c_Sc_bringIntoLine 41 = .ok (.if_icmp .eq 14, 3) := by decide +kernel
theorem d_Sc_bringIntoLine_44 : decode c_Sc_bringIntoLine 44 = .ok (.aload_n 0, 1) := by decide +kernel
theorem d_Sc_bringIntoLine_45 : decode c_Sc_bringIntoLine 45 = .ok (.iload_n 3, 1) := by decide +kernel
theorem d_Sc_bringIntoLine_46 : decode c_Sc_bringIntoLine 46 = .ok (.aload_n 1, 1) := by decide +kernel
theorem d_Sc_bringIntoLine_47 : decode c_Sc_bringIntoLine 47 = .ok (.getfield 101, 3) := by decide +kernel
theorem d_Sc_bringIntoLine_50 : decode c_Sc_bringIntoLine 50 = .ok (.iload_n 2, 1) := by decide +kernel
theorem d_Sc_bringIntoLine_51 : decode c_Sc_bringIntoLine 51 = .ok (.iaload, 1) := by decide +kernel
theorem d_Sc_bringIntoLine_52 : decode c_Sc_bringIntoLine 52 = .ok (.invokevirtual 102, 3) := by decide +kernel
theorem d_Sc_bringIntoLine_55 : decode c_Sc_bringIntoLine 55 = .ok (.aload_n 0, 1) := by decide +kernel
theorem d_Sc_bringIntoLine_56 : decode c_Sc_bringIntoLine 56 = .ok (.getfield 24, 3) := by decide +kernel
theorem d_Sc_bringIntoLine_59 : decode c_Sc_bringIntoLine 59 = .ok (.getfield 106, 3) := by decide +kernel
theorem d_Sc_bringIntoLine_62 : decode c_Sc_bringIntoLine 62 = .ok (.iload_n 3, 1) := by decide +kernel
theorem d_Sc_bringIntoLine_63 : decode c_Sc_bringIntoLine 63 = .ok (.iaload, 1) := by decide +kernel
theorem d_Sc_bringIntoLine_64 : decode c_Sc_bringIntoLine 64 = .ok (.aload_n 0, 1) := by decide +kernel
theorem d_Sc_bringIntoLine_65 : decode c_Sc_bringIntoLine 65 = .ok (.aload_n 1, 1) := by decide +kernel
theorem d_Sc_bringIntoLine_66 : decode c_Sc_bringIntoLine 66 = .ok (.getfield 109, 3) := by decide +kernel
theorem d_Sc_bringIntoLine_69 : decode c_Sc_bringIntoLine 69 = .ok (.iload_n 2, 1) := by decide +kernel
theorem d_Sc_bringIntoLine_70 : decode c_Sc_bringIntoLine 70 = .ok (.iaload, 1) := by decide +kernel
theorem d_Sc_bringIntoLine_71 : decode c_Sc_bringIntoLine 71 = .ok (.invokevirtual 110, 3) := by decide +kernel
theorem d_Sc_bringIntoLine_74 : decode c_Sc_bringIntoLine 74 = .ok (.if_icmp .eq 9, 3) := by decide +kernel
theorem d_Sc_bringIntoLine_77 : decode c_Sc_bringIntoLine 77 = .ok (.aload_n 0, 1) := by decide +kernel
theorem d_Sc_bringIntoLine_78 : decode c_Sc_bringIntoLine 78 = .ok (.aload_n 1, 1) := by decide +kernel
theorem d_Sc_bringIntoLine_79 : decode c_Sc_bringIntoLine 79 = .ok (.iload_n 2, 1) := by decide +kernel
theorem d_Sc_bringIntoLine_80 : decode c_Sc_bringIntoLine 80 = .ok (.invokevirtual 114, 3) := by decide +kernel
theorem d_Sc_bringIntoLine_83 : decode c_Sc_bringIntoLine 83 = .ok (.aload_n 0, 1) := by decide +kernel
theorem d_Sc_bringIntoLine_84 : decode c_Sc_bringIntoLine 84 = .ok (.aload_n 1, 1) := by decide +kernel
theorem d_Sc_bringIntoLine_85 : decode c_Sc_bringIntoLine 85 = .ok (.iload_n 2, 1) := by decide +kernel
theorem d_Sc_bringIntoLine_86 : decode c_Sc_bringIntoLine 86 = .ok (.invokevirtual 61, 3) := by decide +kernel
theorem d_Sc_bringIntoLine_89 : decode c_Sc_bringIntoLine 89 = .ok (.return_, 1) := by decide +kernel
theorem d_Sc_partnerOf_0 : decode c_Sc_partnerOf 0 = .ok (.iload_n 1, 1) := by decide +kernel
theorem d_Sc_partnerOf_1 : decode c_Sc_partnerOf 1 = .ok (.ifCond .ge 8, 3) := by decide +kernel
theorem d_Sc_partnerOf_4 : decode c_Sc_partnerOf 4 = .ok (.bipush 48, 2) := by decide +kernel
theorem d_Sc_partnerOf_6 : decode c_Sc_partnerOf 6 = .ok (.goto 9, 3) := by decide +kernel
theorem d_Sc_partnerOf_9 : decode c_Sc_partnerOf 9 = .ok (.aload_n 0, 1) := by decide +kernel
theorem d_Sc_partnerOf_10 : decode c_Sc_partnerOf 10 = .ok (.getfield 28, 3) := by decide +kernel
theorem d_Sc_partnerOf_13 : decode c_Sc_partnerOf 13 = .ok (.iload_n 1, 1) := by decide +kernel
theorem d_Sc_partnerOf_14 : decode c_Sc_partnerOf 14 = .ok (.iaload, 1) := by decide +kernel
theorem d_Sc_partnerOf_15 : decode c_Sc_partnerOf 15 = .ok (.ireturn, 1) := by decide +kernel
theorem d_Sc_insert_0 : decode c_Sc_insert 0 = .ok (.aload_n 0, 1) := by decide +kernel
theorem d_Sc_insert_1 : decode c_Sc_insert 1 = .ok (.iconst 1, 1) := by decide +kernel
theorem d_Sc_insert_2 : decode c_Sc_insert 2 = .ok (.iload_n 2, 1) := by decide +kernel
theorem d_Sc_insert_3 : decode c_Sc_insert 3 = .ok (.invokestatic 117, 3) := by decide +kernel
theorem d_Sc_insert_6 : decode c_Sc_insert 6 = .ok (.invokevirtual 120, 3) := by decide +kernel
theorem d_Sc_insert_9 : decode c_Sc_insert 9 = .ok (.astore_n 3, 1) := by decide +kernel
theorem d_Sc_insert_10 : decode c_Sc_insert 10 = .ok (.aload_n 3, 1) := by decide +kernel
theorem d_Sc_insert_11 : decode c_Sc_insert 11 = .ok (.aload_n 0, 1) := by decide +kernel
theorem d_Sc_insert_12 : decode c_Sc_insert 12 = .ok (.aload_n 1, 1) := by decide +kernel
theorem d_Sc_insert_13 : decode c_Sc_insert 13 = .ok (.getfield 109, 3) := by decide +kernel
theorem d_Sc_insert_16 : decode c_Sc_insert 16 = .ok (.iload_n 2, 1) := by decide +kernel
theorem d_Sc_insert_17 : decode c_Sc_insert 17 = .ok (.iaload, 1) := by decide +kernel
theorem d_Sc_insert_18 : decode c_Sc_insert 18 = .ok (.invokevirtual 110, 3) := by decide +kernel
theorem d_Sc_insert_21 : decode c_Sc_insert 21 = .ok (.putfield 124, 3) := by decide +kernel
theorem d_Sc_insert_24 : decode c_Sc_insert 24 = .ok (.aload_n 3, 1) := by decide +kernel
theorem d_Sc_insert_25 : decode c_Sc_insert 25 = .ok (.aload_n 0, 1) := by decide +kernel
theorem d_Sc_insert_26 : decode c_Sc_insert 26 = .ok (.aload_n 1, 1) := by decide +kernel
theorem d_Sc_insert_27 : decode c_Sc_insert 27 = .ok (.iload_n 2, 1) := by decide +kernel
theorem d_Sc_insert_28 : decode c_Sc_insert 28 = .ok (.invokevirtual 127, 3) := by decide +kernel
theorem d_Sc_insert_31 : decode c_Sc_insert 31 = .ok (.putfield 131, 3) := by decide +kernel
theorem d_Sc_insert_34 : decode c_Sc_insert 34 = .ok (.aload_n 3, 1) := by decide +kernel
theorem d_Sc_insert_35 : decode c_Sc_insert 35 = .ok (.aload_n 1, 1) := by decide +kernel
theorem d_Sc_insert_36 : decode c_Sc_insert 36 = .ok (.getfield 134, 3) := by decide +kernel
theorem d_Sc_insert_39 : decode c_Sc_insert 39 = .ok (.iload_n 2, 1) := by decide +kernel
theorem d_Sc_insert_40 : decode c_Sc_insert 40 = .ok (.iaload, 1) := by decide +kernel
theorem d_Sc_insert_41 : decode c_Sc_insert 41 = .ok (.putfield 137, 3) := by decide +kernel
theorem d_Sc_insert_44 : decode c_Sc_insert 44 = .ok (.aload_n 3, 1) := by decide +kernel
theorem d_Sc_insert_45 : decode c_Sc_insert 45 = .ok (.aload_n 1, 1) := by decide +kernel
theorem d_Sc_insert_46 : decode c_Sc_insert 46 = .ok (.getfield 101, 3) := by decide +kernel
theorem d_Sc_insert_49 : decode c_Sc_insert 49 = .ok (.iload_n 2, 1) := by decide +kernel
theorem d_Sc_insert_50 : decode c_Sc_insert 50 = .ok (.iaload, 1) := by decide +kernel
theorem d_Sc_insert_51 : decode c_Sc_insert 51 = .ok (.putfield 139, 3) := by decide +kernel
theorem d_Sc_insert_54 : decode c_Sc_insert 54 = .ok (.aload_n 0, 1) := by decide +kernel
theorem d_Sc_insert_55 : decode c_Sc_insert 55 = .ok (.getfield 24, 3) := by decide +kernel
theorem d_Sc_insert_58 : decode c_Sc_insert 58 = .ok (.aload_n 3, 1) := by decide +kernel
theorem d_Sc_insert_59 : decode c_Sc_insert 59 = .ok (.invokevirtual 141, 3) := by decide +kernel
theorem d_Sc_insert_62 : decode c_Sc_insert 62 = .ok (.aload_n 0, 1) := by decide +kernel
theorem d_Sc_insert_63 : decode c_Sc_insert 63 = .ok (.getfield 28, 3) := by decide +kernel
theorem d_Sc_insert_66 : decode c_Sc_insert 66 = .ok (.iload_n 2, 1) := by decide +kernel
theorem d_Sc_insert_67 : decode c_Sc_insert 67 = .ok (.aload_n 3, 1) := by decide +kernel
theorem d_Sc_insert_68 : decode c_Sc_insert 68 = .ok (.getfield 92, 3) := by decide +kernel
theorem d_Sc_insert_71 : decode c_Sc_insert 71 = .ok (.iastore, 1) := by decide +kernel
theorem d_Sc_insert_72 : decode c_Sc_insert 72 = .ok (.aload_n 0, 1) := by decide +kernel
theorem d_Sc_insert_73 : decode c_Sc_insert 73 = .ok (.getfield 32, 3) := by decide +kernel
theorem d_Sc_insert_76 : decode c_Sc_insert 76 = .ok (.iload_n 2, 1) := by decide +kernel
theorem d_Sc_insert_77 : decode c_Sc_insert 77 = .ok (.iconst 1, 1) := by decide +kernel
theorem d_Sc_insert_78 : decode c_Sc_insert 78 = .ok (.bastore, 1) := by decide +kernel
theorem d_Sc_insert_79 : decode c_Sc_insert 79 = .ok (.return_, 1) := by decide +kernel
theorem d_Sc_update_0 : decode c_Sc_update 0 = .ok (.aload_n 0, 1) := by decide +kernel
theorem d_Sc_update_1 : decode c_Sc_update 1 = .ok (.iconst 0, 1) := by decide +kernel
theorem d_Sc_update_2 : decode c_Sc_update 2 = .ok (.iload_n 1, 1) := by decide +kernel
theorem d_Sc_update_3 : decode c_Sc_update 3 = .ok (.invokevirtual 120, 3) := by decide +kernel
theorem d_Sc_update_6 : decode c_Sc_update 6 = .ok (.astore_n 3, 1) := by decide +kernel
theorem d_Sc_update_7 : decode c_Sc_update 7 = .ok (.aload_n 3, 1) := by decide +kernel
theorem d_Sc_update_8 : decode c_Sc_update 8 = .ok (.iload_n 2, 1) := by decide +kernel
theorem d_Sc_update_9 : decode c_Sc_update 9 = .ok (.putfield 139, 3) := by decide +kernel
theorem d_Sc_update_12 : decode c_Sc_update 12 = .ok (.aload_n 3, 1) := by decide +kernel
theorem d_Sc_update_13 : decode c_Sc_update 13 = .ok (.aload_n 0, 1) := by decide +kernel
theorem d_Sc_update_14 : decode c_Sc_update 14 = .ok (.getfield 24, 3) := by decide +kernel
theorem d_Sc_update_17 : decode c_Sc_update 17 = .ok (.getfield 98, 3) := by decide +kernel
theorem d_Sc_update_20 : decode c_Sc_update 20 = .ok (.iload_n 1, 1) := by decide +kernel
theorem d_Sc_update_21 : decode c_Sc_update 21 = .ok (.iaload, 1) := by decide +kernel
theorem d_Sc_update_22 : decode c_Sc_update 22 = .ok (.putfield 145, 3) := by decide +kernel
theorem d_Sc_update_25 : decode c_Sc_update 25 = .ok (.aload_n 0, 1) := by decide +kernel
theorem d_Sc_update_26 : decode c_Sc_update 26 = .ok (.getfield 24, 3) := by decide +kernel
theorem d_Sc_update_29 : decode c_Sc_update 29 = .ok (.aload_n 3, 1) := by decide +kernel
theorem d_Sc_update_30 : decode c_Sc_update 30 = .ok (.invokevirtual 141, 3) := by decide +kernel
theorem d_Sc_update_33 : decode c_Sc_update 33 = .ok (.return_, 1) := by decide +kernel
theorem d_Sc_move_0 : decode c_Sc_move 0 = .ok (.aload_n 0, 1) := by decide +kernel
theorem d_Sc_move_1 : decode c_Sc_move 1 = .ok (.getfield 28, 3) := by decide +kernel
theorem d_Sc_move_4 : decode c_Sc_move 4 = .ok (.iload_n 2, 1) := by decide +kernel
theorem d_Sc_move_5 : decode c_Sc_move 5 = .ok (.iaload, 1) := by decide +kernel
theorem d_Sc_move_6 : decode c_Sc_move 6 = .ok (.istore_n 3, 1) := by decide +kernel
theorem d_Sc_move_7 : decode c_Sc_move 7 = .ok (.aload_n 0, 1) := by decide +kernel
theorem d_Sc_move_8 : decode c_Sc_move 8 = .ok (.iconst 2, 1) := by decide +kernel
theorem d_Sc_move_9 : decode c_Sc_move 9 = .ok (.iload_n 3, 1) := by decide +kernel
theorem d_Sc_move_10 : decode c_Sc_move 10 = .ok (.invokevirtual 120, 3) := by decide +kernel
theorem d_Sc_move_13 : decode c_Sc_move 13 = .ok (.astore 4, 2) := by decide +kernel
theorem d_Sc_move_15 : decode c_Sc_move 15 = .ok (.aload 4, 2) := by decide +kernel
theorem d_Sc_move_17 : decode c_Sc_move 17 = .ok (.aload_n 0, 1) := by decide +kernel
theorem d_Sc_move_18 : decode c_Sc_move 18 = .ok (.getfield 24, 3) := by decide +kernel
theorem d_Sc_move_21 : decode c_Sc_move 21 = .ok (.getfield 106, 3) := by decide +kernel
theorem d_Sc_move_24 : decode c_Sc_move 24 = .ok (.iload_n 3, 1) := by decide +kernel
theorem d_Sc_move_25 : decode c_Sc_move 25 = .ok (.iaload, 1) := by decide +kernel
theorem d_Sc_move_26 : decode c_Sc_move 26 = .ok (.putfield 148, 3) := by decide +kernel
theorem d_Sc_move_29 : decode c_Sc_move 29 = .ok (.aload 4, 2) := by decide +kernel
theorem d_Sc_move_31 : decode c_Sc_move 31 = .ok (.aload_n 0, 1) := by decide +kernel
theorem d_Sc_move_32 : decode c_Sc_move 32 = .ok (.getfield 24, 3) := by decide +kernel
theorem d_Sc_move_35 : decode c_Sc_move 35 = .ok (.getfield 151, 3) := by decide +kernel
theorem d_Sc_move_38 : decode c_Sc_move 38 = .ok (.iload_n 3, 1) := by decide +kernel
theorem d_Sc_move_39 : decode c_Sc_move 39 = .ok (.iaload, 1) := by decide +kernel
theorem d_Sc_move_40 : decode c_Sc_move 40 = .ok (.putfield 153, 3) := by decide +kernel
theorem d_Sc_move_43 : decode c_Sc_move 43 = .ok (.aload 4, 2) := by decide +kernel
theorem d_Sc_move_45 : decode c_Sc_move 45 = .ok (.aload_n 0, 1) := by decide +kernel
theorem d_Sc_move_46 : decode c_Sc_move 46 = .ok (.aload_n 1, 1) := by decide +kernel
theorem d_Sc_move_47 : decode c_Sc_move 47 = .ok (.getfield 109, 3) := by decide +kernel
theorem d_Sc_move_50 : decode c_Sc_move 50 = .ok (.iload_n 2, 1) := by decide +kernel
theorem d_Sc_move_51 : decode c_Sc_move 51 = .ok (.iaload, 1) := by decide +kernel
theorem d_Sc_move_52 : decode c_Sc_move 52 = .ok (.invokevirtual 110, 3) := by decide +kernel
theorem d_Sc_move_55 : decode c_Sc_move 55 = .ok (.putfield 124, 3) := by decide +kernel
theorem d_Sc_move_58 : decode c_Sc_move 58 = .ok (.aload_n 0, 1) := by decide +kernel
theorem d_Sc_move_59 : decode c_Sc_move 59 = .ok (.getfield 24, 3) := by decide +kernel
theorem d_Sc_move_62 : decode c_Sc_move 62 = .ok (.iload_n 3, 1) := by decide +kernel
theorem d_Sc_move_63 : decode c_Sc_move 63 = .ok (.invokevirtual 156, 3) := by decide +kernel
theorem d_Sc_move_66 : decode c_Sc_move 66 = .ok (.aload 4, 2) := by decide +kernel
theorem d_Sc_move_68 : decode c_Sc_move 68 = .ok (.aload_n 0, 1) := by decide +kernel
theorem d_Sc_move_69 : decode c_Sc_move 69 = .ok (.aload_n 1, 1) := by decide +kernel
theorem d_Sc_move_70 : decode c_Sc_move 70 = .ok (.iload_n 2, 1) := by decide +kernel
theorem d_Sc_move_71 : decode c_Sc_move 71 = .ok (.invokevirtual 127, 3) := by decide +kernel
theorem d_Sc_move_74 : decode c_Sc_move 74 = .ok (.putfield 131, 3) := by decide +kernel
theorem d_Sc_move_77 : decode c_Sc_move 77 = .ok (.aload_n 0, 1) := by decide +kernel
theorem d_Sc_move_78 : decode c_Sc_move 78 = .ok (.getfield 24, 3) := by decide +kernel
theorem d_Sc_move_81 : decode c_Sc_move 81 = .ok (.iload_n 3, 1) := by decide +kernel
theorem d_Sc_move_82 : decode c_Sc_move 82 = .ok (.aload 4, 2) := by decide +kernel
theorem d_Sc_move_84 : decode c_Sc_move 84 = .ok (.getfield 124, 3) := by decide +kernel
theorem d_Sc_move_87 : decode c_Sc_move 87 = .ok (.aload 4, 2) := by decide +kernel
theorem d_Sc_move_89 : decode c_Sc_move 89 = .ok (.getfield 131, 3) := by decide +kernel
theorem d_Sc_move_92 : decode c_Sc_move 92 = .ok (.invokevirtual 160, 3) := by decide +kernel
theorem d_Sc_move_95 : decode c_Sc_move 95 = .ok (.aload_n 0, 1) := by decide +kernel
theorem d_Sc_move_96 : decode c_Sc_move 96 = .ok (.getfield 32, 3) := by decide +kernel
theorem d_Sc_move_99 : decode c_Sc_move 99 = .ok (.iload_n 2, 1) := by decide +kernel
theorem d_Sc_move_100 : decode c_Sc_move 100 = .ok (.iconst 1, 1) := by decide +kernel
theorem d_Sc_move_101 : decode c_Sc_move 101 = .ok (.bastore, 1) := by decide +kernel
theorem d_Sc_move_102 : decode c_Sc_move 102 = .ok (.return_, 1) := by decide +kernel
theorem d_Sc_placeFor_0 : decode c_Sc_placeFor 0 = .ok (.iconst 0, 1) := by decide +kernel
theorem d_Sc_placeFor_1 : decode c_Sc_placeFor 1 = .ok (.istore_n 3, 1) := by decide +kernel
theorem d_Sc_placeFor_2 : decode c_Sc_placeFor 2 = .ok (.aload_n 1, 1) := by decide +kernel
theorem d_Sc_placeFor_3 : decode c_Sc_placeFor 3 = .ok (.getfield 109, 3) := by decide +kernel
theorem d_Sc_placeFor_6 : decode c_Sc_placeFor 6 = .ok (.iload_n 2, 1) := by decide +kernel
theorem d_Sc_placeFor_7 : decode c_Sc_placeFor 7 = .ok (.iaload, 1) := by decide +kernel
theorem d_Sc_placeFor_8 : decode c_Sc_placeFor 8 = .ok (.istore 4, 2) := by decide +kernel
theorem d_Sc_placeFor_10 : decode c_Sc_placeFor 10 = .ok (.iload 4, 2) := by decide +kernel
theorem d_Sc_placeFor_12 : decode c_Sc_placeFor 12 = .ok (.iconst 1, 1) := by decide +kernel
theorem d_Sc_placeFor_13 : decode c_Sc_placeFor 13 = .ok (.iadd, 1) := by decide +kernel
theorem d_Sc_placeFor_14 : decode c_Sc_placeFor 14 = .ok (.istore 5, 2) := by decide +kernel
theorem d_Sc_placeFor_16 : decode c_Sc_placeFor 16 = .ok (.iload 5, 2) := by decide +kernel
theorem d_Sc_placeFor_18 : decode c_Sc_placeFor 18 = .ok (.iload_n 2, 1) := by decide +kernel
theorem d_Sc_placeFor_19 : decode c_Sc_placeFor 19 = .ok (.if_icmp .ge 49, 3) := by decide +kernel
theorem d_Sc_placeFor_22 : decode c_Sc_placeFor 22 = .ok (.aload_n 1, 1) := by decide +kernel
theorem d_Sc_placeFor_23 : decode c_Sc_placeFor 23 = .ok (.getfield 109, 3) := by decide +kernel
theorem d_Sc_placeFor_26 : decode c_Sc_placeFor 26 = .ok (.iload 5, 2) := by decide +kernel
theorem d_Sc_placeFor_28 : decode c_Sc_placeFor 28 = .ok (.iaload, 1) := by decide +kernel
theorem d_Sc_placeFor_29 : decode c_Sc_placeFor 29 = .ok (.iload 4, 2) := by decide +kernel
theorem d_Sc_placeFor_31 : decode c_Sc_placeFor 31 = .ok (.if_icmp .ne 31, 3) := by decide +kernel
theorem d_Sc_placeFor_34 : decode c_Sc_placeFor 34 = .ok (.aload_n 0, 1) := by decide +kernel
theorem d_Sc_placeFor_35 : decode c_Sc_placeFor 35 = .ok (.getfield 32, 3) := by decide +kernel
theorem d_Sc_placeFor_38 : decode c_Sc_placeFor 38 = .ok (.iload 5, 2) := by decide +kernel
theorem d_Sc_placeFor_40 : decode c_Sc_placeFor 40 = .ok (.baload, 1) := by decide +kernel
theorem d_Sc_placeFor_41 : decode c_Sc_placeFor 41 = .ok (.ifCond .eq 21, 3) := by decide +kernel
theorem d_Sc_placeFor_44 : decode c_Sc_placeFor 44 = .ok (.aload_n 0, 1) := by decide +kernel
theorem d_Sc_placeFor_45 : decode c_Sc_placeFor 45 = .ok (.getfield 24, 3) := by decide +kernel
theorem d_Sc_placeFor_48 : decode c_Sc_placeFor 48 = .ok (.getfield 151, 3) := by decide +kernel
theorem d_Sc_placeFor_51 : decode c_Sc_placeFor 51 = .ok (.aload_n 0, 1) := by decide +kernel
theorem d_Sc_placeFor_52 : decode c_Sc_placeFor 52 = .ok (.getfield 28, 3) := by decide +kernel
theorem d_Sc_placeFor_55 : decode c_Sc_placeFor 55 = .ok (.iload 5, 2) := by decide +kernel
theorem d_Sc_placeFor_57 : decode c_Sc_placeFor 57 = .ok (.iaload, 1) := by decide +kernel
theorem d_Sc_placeFor_58 : decode c_Sc_placeFor 58 = .ok (.iaload, 1) := by decide +kernel
theorem d_Sc_placeFor_59 : decode c_Sc_placeFor 59 = .ok (.iconst 1, 1) := by decide +kernel
theorem d_Sc_placeFor_60 : decode c_Sc_placeFor 60 = .ok (.iadd, 1) := by decide +kernel
theorem d_Sc_placeFor_61 : decode c_Sc_placeFor 61 = .ok (.istore_n 3, 1) := by decide +kernel
theorem d_Sc_placeFor_62 : decode c_Sc_placeFor 62 = .ok (.iinc 5 1, 3) := by decide +kernel
theorem d_Sc_placeFor_65 : decode c_Sc_placeFor 65 = .ok (.goto (-49), 3) := by decide +kernel
theorem d_Sc_placeFor_68 : decode c_Sc_placeFor 68 = .ok (.iload_n 3, 1) := by decide +kernel
theorem d_Sc_placeFor_69 : decode c_Sc_placeFor 69 = .ok (.ireturn, 1) := by decide +kernel
theorem d_Sc_putChildrenInOrder_0 : decode c_Sc_putChildrenInOrder 0 = .ok (.aload_n 0, 1) := by decide +kernel
theorem d_Sc_putChildrenInOrder_1 : decode c_Sc_putChildrenInOrder 1 = .ok (.aload_n 1, 1) := by decide +kernel
theorem d_Sc_putChildrenInOrder_2 : decode c_Sc_putChildrenInOrder 2 = .ok (.iload_n 2, 1) := by decide +kernel
theorem d_Sc_putChildrenInOrder_3 : decode c_Sc_putChildrenInOrder 3 = .ok (.invokevirtual 164, 3) := by decide +kernel
theorem d_Sc_putChildrenInOrder_6 : decode c_Sc_putChildrenInOrder 6 = .ok (.istore_n 3, 1) := by decide +kernel
theorem d_Sc_putChildrenInOrder_7 : decode c_Sc_putChildrenInOrder 7 = .ok (.aload_n 0, 1) := by decide +kernel
theorem d_Sc_putChildrenInOrder_8 : decode c_Sc_putChildrenInOrder 8 = .ok (.iload_n 3, 1) := by decide +kernel
theorem d_Sc_putChildrenInOrder_9 : decode c_Sc_putChildrenInOrder 9 = .ok (.aload_n 0, 1) := by decide +kernel
theorem d_Sc_putChildrenInOrder_10 : decode c_Sc_putChildrenInOrder 10 = .ok (.iload_n 3, 1) := by decide +kernel
theorem d_Sc_putChildrenInOrder_11 : decode c_Sc_putChildrenInOrder 11 = .ok (.invokevirtual 167, 3) := by decide +kernel
theorem d_Sc_putChildrenInOrder_14 : decode c_Sc_putChildrenInOrder 14 = .ok (.invokevirtual 170, 3) := by decide +kernel
theorem d_Sc_putChildrenInOrder_17 : decode c_Sc_putChildrenInOrder 17 = .ok (.iconst 0, 1) := by decide +kernel
theorem d_Sc_putChildrenInOrder_18 : decode c_Sc_putChildrenInOrder 18 = .ok (.istore 4, 2) := by decide +kernel
theorem d_Sc_putChildrenInOrder_20 : decode c_Sc_putChildrenInOrder 20 = .ok (.iload 4, 2) := by decide +kernel
theorem d_Sc_putChildrenInOrder_22 : decode c_Sc_putChildrenInOrder 22 = .ok (.iload_n 3, 1) := by decide +kernel
theorem d_Sc_putChildrenInOrder_23 : decode c_Sc_putChildrenInOrder 23 = .ok (.if_icmp .ge 36, 3) := by decide +kernel
theorem d_Sc_putChildrenInOrder_26 : decode c_Sc_putChildrenInOrder 26 = .ok (.aload_n 0, 1) := by decide +kernel
theorem d_Sc_putChildrenInOrder_27 : decode c_Sc_putChildrenInOrder 27 = .ok (.getfield 32, 3) := by decide +kernel
theorem d_Sc_putChildrenInOrder_30 : decode c_Sc_putChildrenInOrder 30 = .ok (.aload_n 0, 1) := by decide +kernel
theorem d_Sc_putChildrenInOrder_31 : decode c_Sc_putChildrenInOrder 31 = .ok (.getfield 36, 3) := by decide +kernel
theorem d_Sc_putChildrenInOrder_34 : decode c_Sc_putChildrenInOrder 34 = .ok (.iload 4, 2) := by decide +kernel
theorem d_Sc_putChildrenInOrder_36 : decode c_Sc_putChildrenInOrder 36 = .ok (.iaload, 1) := by decide +kernel
theorem d_Sc_putChildrenInOrder_37 : decode c_Sc_putChildrenInOrder 37 = .ok (.baload, 1) := by decide +kernel
theorem d_Sc_putChildrenInOrder_38 : decode c_Sc_putChildrenInOrder 38 = .ok (.ifCond .ne 15, 3) := by decide +kernel
theorem d_Sc_putChildrenInOrder_41 : decode c_Sc_putChildrenInOrder 41 = .ok (.aload_n 0, 1) := by decide +kernel
theorem d_Sc_putChildrenInOrder_42 : decode c_Sc_putChildrenInOrder 42 = .ok (.aload_n 1, 1) := by decide +kernel
theorem d_Sc_putChildrenInOrder_43 : decode c_Sc_putChildrenInOrder 43 = .ok (.aload_n 0, 1) := by decide +kernel
theorem d_Sc_putChildrenInOrder_44 : decode c_Sc_putChildrenInOrder 44 = .ok (.getfield 36, 3) := by decide +kernel
theorem d_Sc_putChildrenInOrder_47 : decode c_Sc_putChildrenInOrder 47 = .ok (.iload 4, 2) := by decide +kernel
theorem d_Sc_putChildrenInOrder_49 : decode c_Sc_putChildrenInOrder 49 = .ok (.iaload, 1) := by decide +kernel
theorem d_Sc_putChildrenInOrder_50 : decode c_Sc_putChildrenInOrder 50 = .ok (.invokevirtual 114, 3) := by decide +kernel
theorem d_Sc_putChildrenInOrder_53 : decode c_Sc_putChildrenInOrder 53 = .ok (.iinc 4 1, 3) := by decide +kernel
theorem d_Sc_putChildrenInOrder_56 : decode c_Sc_putChildrenInOrder 56 = .ok (.goto (-36), 3) := by decide +kernel
theorem d_Sc_putChildrenInOrder_59 : decode c_Sc_putChildrenInOrder 59 = .ok (.return_, 1) := by decide +kernel
theorem d_Sc_gatherChildren_0 : decode c_Sc_gatherChildren 0 = .ok (.iconst 0, 1) := by decide +kernel
theorem d_Sc_gatherChildren_1 : decode c_Sc_gatherChildren 1 = .ok (.istore_n 3, 1) := by decide +kernel
theorem d_Sc_gatherChildren_2 : decode c_Sc_gatherChildren 2 = .ok (.aload_n 1, 1) := by decide +kernel
theorem d_Sc_gatherChildren_3 : decode c_Sc_gatherChildren 3 = .ok (.iload_n 2, 1) := by decide +kernel
theorem d_Sc_gatherChildren_4 : decode c_Sc_gatherChildren 4 = .ok (.invokevirtual 173, 3) := by decide +kernel
theorem d_Sc_gatherChildren_7 : decode c_Sc_gatherChildren 7 = .ok (.istore 4, 2) := by decide +kernel
theorem d_Sc_gatherChildren_9 : decode c_Sc_gatherChildren 9 = .ok (.iload_n 2, 1) := by decide +kernel
theorem d_Sc_gatherChildren_10 : decode c_Sc_gatherChildren 10 = .ok (.iconst 1, 1) := by decide +kernel
theorem d_Sc_gatherChildren_11 : decode c_Sc_gatherChildren 11 = .ok (.iadd, 1) := by decide +kernel
theorem d_Sc_gatherChildren_12 : decode c_Sc_gatherChildren 12 = .ok (.istore 5, 2) := by decide +kernel
theorem d_Sc_gatherChildren_14 : decode c_Sc_gatherChildren 14 = .ok (.iload 5, 2) := by decide +kernel
theorem d_Sc_gatherChildren_16 : decode c_Sc_gatherChildren 16 = .ok (.iload 4, 2) := by decide +kernel
theorem d_Sc_gatherChildren_18 : decode c_Sc_gatherChildren 18 = .ok (.if_icmp .ge 50, 3) := by decide +kernel
theorem d_Sc_gatherChildren_21 : decode c_Sc_gatherChildren 21 = .ok (.aload_n 1, 1) := by decide +kernel
theorem d_Sc_gatherChildren_22 : decode c_Sc_gatherChildren 22 = .ok (.getfield 109, 3) := by decide +kernel
theorem d_Sc_gatherChildren_25 : decode c_Sc_gatherChildren 25 = .ok (.iload 5, 2) := by decide +kernel
theorem d_Sc_gatherChildren_27 : decode c_Sc_gatherChildren 27 = .ok (.iaload, 1) := by decide +kernel
theorem d_Sc_gatherChildren_28 : decode c_Sc_gatherChildren 28 = .ok (.iload_n 2, 1) := by decide +kernel
theorem d_Sc_gatherChildren_29 : decode c_Sc_gatherChildren 29 = .ok (.if_icmp .ne 33, 3) := by decide +kernel
theorem d_Sc_gatherChildren_32 : decode c_Sc_gatherChildren 32 = .ok (.aload_n 0, 1) := by decide +kernel
theorem d_Sc_gatherChildren_33 : decode c_Sc_gatherChildren 33 = .ok (.aload_n 0, 1) := by decide +kernel
theorem d_Sc_gatherChildren_34 : decode c_Sc_gatherChildren 34 = .ok (.getfield 28, 3) := by decide +kernel
theorem d_Sc_gatherChildren_37 : decode c_Sc_gatherChildren 37 = .ok (.iload 5, 2) := by decide +kernel
theorem d_Sc_gatherChildren_39 : decode c_Sc_gatherChildren 39 = .ok (.iaload, 1) := by decide +kernel
theorem d_Sc_gatherChildren_40 : decode c_Sc_gatherChildren 40 = .ok (.aload_n 0, 1) := by decide +kernel
theorem d_Sc_gatherChildren_41 : decode c_Sc_gatherChildren 41 = .ok (.iload_n 2, 1) := by decide +kernel
theorem d_Sc_gatherChildren_42 : decode c_Sc_gatherChildren 42 = .ok (.invokevirtual 110, 3) := by decide +kernel
theorem d_Sc_gatherChildren_45 : decode c_Sc_gatherChildren 45 = .ok (.invokevirtual 176, 3) := by decide +kernel
theorem d_Sc_gatherChildren_48 : decode c_Sc_gatherChildren 48 = .ok (.ifCond .eq 14, 3) := by decide +kernel
theorem d_Sc_gatherChildren_51 : decode c_Sc_gatherChildren 51 = .ok (.aload_n 0, 1) := by decide +kernel
theorem d_Sc_gatherChildren_52 : decode c_Sc_gatherChildren 52 = .ok (.getfield 36, 3) := by decide +kernel
theorem d_Sc_gatherChildren_55 : decode c_Sc_gatherChildren 55 = .ok (.iload_n 3, 1) := by decide +kernel
theorem d_Sc_gatherChildren_56 : decode c_Sc_gatherChildren 56 = .ok (.iload 5, 2) := by decide +kernel
theorem d_Sc_gatherChildren_58 : decode c_Sc_gatherChildren 58 = .ok (.iastore, 1) := by decide +kernel
theorem d_Sc_gatherChildren_59 : decode c_Sc_gatherChildren 59 = .ok (.iinc 3 1, 3) := by decide +kernel
theorem d_Sc_gatherChildren_62 : decode c_Sc_gatherChildren 62 = .ok (.iinc 5 1, 3) := by decide +kernel
theorem d_Sc_gatherChildren_65 : decode c_Sc_gatherChildren 65 = .ok (.goto (-51), 3) := by decide +kernel
theorem d_Sc_gatherChildren_68 : decode c_Sc_gatherChildren 68 = .ok (.iload_n 3, 1) := by decide +kernel
theorem d_Sc_gatherChildren_69 : decode c_Sc_gatherChildren 69 = .ok (.ireturn, 1) := by decide +kernel
theorem d_Sc_isBelow_0 : decode c_Sc_isBelow 0 = .ok (.iload_n 1, 1) := by decide +kernel
theorem d_Sc_isBelow_1 : decode c_Sc_isBelow 1 = .ok (.iconst (-1), 1) := by decide +kernel
theorem d_Sc_isBelow_2 : decode c_Sc_isBelow 2 = .ok (.if_icmp .eq 20, 3) := by decide +kernel
theorem d_Sc_isBelow_5 : decode c_Sc_isBelow 5 = .ok (.aload_n 0, 1) := by decide +kernel
theorem d_Sc_isBelow_6 : decode c_Sc_isBelow 6 = .ok (.getfield 24, 3) := by decide +kernel
theorem d_Sc_isBelow_9 : decode c_Sc_isBelow 9 = .ok (.getfield 106, 3) := by decide +kernel
theorem d_Sc_isBelow_12 : decode c_Sc_isBelow 12 = .ok (.iload_n 1, 1) := by decide +kernel
theorem d_Sc_isBelow_13 : decode c_Sc_isBelow 13 = .ok (.iaload, 1) := by decide +kernel
theorem d_Sc_isBelow_14 : decode c_Sc_isBelow 14 = .ok (.iload_n 2, 1) := by decide +kernel
theorem d_Sc_isBelow_15 : decode c_Sc_isBelow 15 = .ok (.if_icmp .ne 7, 3) := by decide +kernel
theorem d_Sc_isBelow_18 : decode c_Sc_isBelow 18 = .ok (.iconst 1, 1) := by decide +kernel
theorem d_Sc_isBelow_19 : decode c_Sc_isBelow 19 = .ok (.goto 4, 3) := by decide +kernel
theorem d_Sc_isBelow_22 : decode c_Sc_isBelow 22 = .ok (.iconst 0, 1) := by decide +kernel
theorem d_Sc_isBelow_23 : decode c_Sc_isBelow 23 = .ok (.ireturn, 1) := by decide +kernel
theorem d_Sc_placeOf_0 : decode c_Sc_placeOf 0 = .ok (.aload_n 0, 1) := by decide +kernel
theorem d_Sc_placeOf_1 : decode c_Sc_placeOf 1 = .ok (.getfield 24, 3) := by decide +kernel
theorem d_Sc_placeOf_4 : decode c_Sc_placeOf 4 = .ok (.getfield 151, 3) := by decide +kernel
theorem d_Sc_placeOf_7 : decode c_Sc_placeOf 7 = .ok (.aload_n 0, 1) := by decide +kernel
theorem d_Sc_placeOf_8 : decode c_Sc_placeOf 8 = .ok (.getfield 28, 3) := by decide +kernel
theorem d_Sc_placeOf_11 : decode c_Sc_placeOf 11 = .ok (.iload_n 1, 1) := by decide +kernel
theorem d_Sc_placeOf_12 : decode c_Sc_placeOf 12 = .ok (.iaload, 1) := by decide +kernel
theorem d_Sc_placeOf_13 : decode c_Sc_placeOf 13 = .ok (.iaload, 1) := by decide +kernel
theorem d_Sc_placeOf_14 : decode c_Sc_placeOf 14 = .ok (.ireturn, 1) := by decide +kernel
theorem d_Sc_measureSequences_0 : decode c_Sc_measureSequences 0 = .ok (.iconst 0, 1) := by decide +kernel
theorem d_Sc_measureSequences_1 : decode c_Sc_measureSequences 1 = .ok (.istore_n 2, 1) := by decide +kernel
theorem d_Sc_measureSequences_2 : decode c_Sc_measureSequences 2 = .ok (.iload_n 1, 1) := by decide +kernel
theorem d_Sc_measureSequences_3 : decode c_Sc_measureSequences 3 = .ok (.iconst 1, 1) := by decide +kernel
theorem d_Sc_measureSequences_4 : decode c_Sc_measureSequences 4 = .ok (.isub, 1) := by decide +kernel
theorem d_Sc_measureSequences_5 : decode c_Sc_measureSequences 5 = .ok (.istore_n 3, 1) := by decide +kernel
theorem d_Sc_measureSequences_6 : decode c_Sc_measureSequences 6 = .ok (.iload_n 3, 1) := by decide +kernel
theorem d_Sc_measureSequences_7 : decode c_Sc_measureSequences 7 = .ok (.ifCond .lt 92, 3) := by decide +kernel
theorem d_Sc_measureSequences_10 : decode c_Sc_measureSequences 10 = .ok (.aload_n 0, 1) := by decide +kernel
theorem d_Sc_measureSequences_11 : decode c_Sc_measureSequences 11 = .ok (.getfield 39, 3) := by decide +kernel
theorem d_Sc_measureSequences_14 : decode c_Sc_measureSequences 14 = .ok (.iload_n 3, 1) := by decide +kernel
theorem d_Sc_measureSequences_15 : decode c_Sc_measureSequences 15 = .ok (.iconst 1, 1) := by decide +kernel
theorem d_Sc_measureSequences_16 : decode c_Sc_measureSequences 16 = .ok (.iastore, 1) := by decide +kernel
theorem d_Sc_measureSequences_17 : decode c_Sc_measureSequences 17 = .ok (.iload_n 3, 1) := by decide +kernel
theorem d_Sc_measureSequences_18 : decode c_Sc_measureSequences 18 = .ok (.iconst 1, 1) := by decide +kernel
theorem d_Sc_measureSequences_19 : decode c_Sc_measureSequences 19 = .ok (.iadd, 1) := by decide +kernel
theorem d_Sc_measureSequences_20 : decode c_Sc_measureSequences 20 = .ok (.istore 4, 2) := by decide +kernel
theorem d_Sc_measureSequences_22 : decode c_Sc_measureSequences 22 = .ok (.iload 4, 2) := by decide +kernel
theorem d_Sc_measureSequences_24 : decode c_Sc_measureSequences 24 = .ok (.iload_n 1, 1) := by decide +kernel
theorem d_Sc_measureSequences_25 : decode c_Sc_measureSequences 25 = .ok (.if_icmp .ge 57, 3) := by decide +kernel
theorem d_Sc_measureSequences_28 : decode c_Sc_measureSequences 28 = .ok (.aload_n 0, 1) := by decide +kernel
theorem d_Sc_measureSequences_29 : decode c_Sc_measureSequences 29 = .ok (.aload_n 0, 1) := by decide +kernel
theorem d_Sc_measureSequences_30 : decode c_Sc_measureSequences 30 = .ok (.getfield 36, 3) := by decide +kernel
theorem d_Sc_measureSequences_33 : decode c_Sc_measureSequences 33 = .ok (.iload 4, 2) := by decide +kernel
theorem d_Sc_measureSequences_35 : decode c_Sc_measureSequences 35 = .ok (.iaload, 1) := by decide +kernel
theorem d_Sc_measureSequences_36 : decode c_Sc_measureSequences 36 = .ok (.invokevirtual 180, 3) := by decide +kernel
theorem d_Sc_measureSequences_39 : decode c_Sc_measureSequences 39 = .ok (.aload_n 0, 1) := by decide +kernel
theorem d_Sc_measureSequences_40 : decode c_Sc_measureSequences 40 = .ok (.aload_n 0, 1) := by decide +kernel
theorem d_Sc_measureSequences_41 : decode c_Sc_measureSequences 41 = .ok (.getfield 36, 3) := by decide +kernel
theorem d_Sc_measureSequences_44 : decode c_Sc_measureSequences 44 = .ok (.iload_n 3, 1) := by decide +kernel
theorem d_Sc_measureSequences_45 : decode c_Sc_measureSequences 45 = .ok (.iaload, 1) := by decide +kernel
theorem d_Sc_measureSequences_46 : decode c_Sc_measureSequences 46 = .ok (.invokevirtual 180, 3) := by decide +kernel
theorem d_Sc_measureSequences_49 : decode c_Sc_measureSequences 49 = .ok (.if_icmp .le 27, 3) := by decide +kernel
theorem d_Sc_measureSequences_52 : decode c_Sc_measureSequences 52 = .ok (.aload_n 0, 1) := by decide +kernel
theorem d_Sc_measureSequences_53 : decode c_Sc_measureSequences 53 = .ok (.getfield 39, 3) := by decide +kernel
theorem d_Sc_measureSequences_56 : decode c_Sc_measureSequences 56 = .ok (.iload_n 3, 1) := by decide +kernel
theorem d_Sc_measureSequences_57 : decode c_Sc_measureSequences 57 = .ok (.aload_n 0, 1) := by decide +kernel
theorem d_Sc_measureSequences_58 : decode c_Sc_measureSequences 58 = .ok (.getfield 39, 3) := by decide +kernel
theorem d_Sc_measureSequences_61 : decode c_Sc_measureSequences 61 = .ok (.iload_n 3, 1) := by decide +kernel
theorem d_Sc_measureSequences_62 : decode c_Sc_measureSequences 62 = .ok (.iaload, 1) := by decide +kernel
theorem d_Sc_measureSequences_63 : decode c_Sc_measureSequences 63 = .ok (.aload_n 0, 1) := by decide +kernel
theorem d_Sc_measureSequences_64 : decode c_Sc_measureSequences 64 = .ok (.getfield 39, 3) := by decide +kernel
theorem d_Sc_measureSequences_67 : decode c_Sc_measureSequences 67 = .ok (.iload 4, 2) := by decide +kernel
theorem d_Sc_measureSequences_69 : decode c_Sc_measureSequences 69 = .ok (.iaload, 1) := by decide +kernel
theorem d_Sc_measureSequences_70 : decode c_Sc_measureSequences 70 = .ok (.iconst 1, 1) := by decide +kernel
theorem d_Sc_measureSequences_71 : decode c_Sc_measureSequences 71 = .ok (.iadd, 1) := by decide +kernel
theorem d_Sc_measureSequences_72 : decode c_Sc_measureSequences 72 = .ok (.invokestatic 183, 3) := by decide +kernel
theorem d_Sc_measureSequences_75 : decode c_Sc_measureSequences 75 = .ok (.iastore, 1) := by decide +kernel
theorem d_Sc_measureSequences_76 : decode c_Sc_measureSequences 76 = .ok (.iinc 4 1, 3) := by decide +kernel
theorem d_Sc_measureSequences_79 : decode c_Sc_measureSequences 79 = .ok (.goto (-57), 3) := by decide +kernel
theorem d_Sc_measureSequences_82 : decode c_Sc_measureSequences 82 = .ok (.iload_n 2, 1) := by decide +kernel
theorem d_Sc_measureSequences_83 : decode c_Sc_measureSequences 83 = .ok (.aload_n 0, 1) := by decide +kernel
theorem d_Sc_measureSequences_84 : decode c_Sc_measureSequences 84 = .ok (.getfield 39, 3) := by decide +kernel
theorem d_Sc_measureSequences_87 : decode c_Sc_measureSequences 87 = .ok (.iload_n 3, 1) := by decide +kernel
theorem d_Sc_measureSequences_88 : decode c_Sc_measureSequences 88 = .ok (.iaload, 1) := by decide +kernel
theorem d_Sc_measureSequences_89 : decode c_Sc_measureSequences 89 = .ok (.invokestatic 183, 3) := by decide +kernel
theorem d_Sc_measureSequences_92 : decode c_Sc_measureSequences 92 = .ok (.istore_n 2, 1) := by decide +kernel
theorem d_Sc_measureSequences_93 : decode c_Sc_measureSequences 93 = .ok (.iinc 3 (-1), 3) := by decide +kernel
theorem d_Sc_measureSequences_96 : decode c_Sc_measureSequences 96 = .ok (.goto (-90), 3) := by decide +kernel
theorem d_Sc_measureSequences_99 : decode c_Sc_measureSequences 99 = .ok (.iload_n 2, 1) := by decide +kernel
theorem d_Sc_measureSequences_100 : decode c_Sc_measureSequences 100 = .ok (.ireturn, 1) := by decide +kernel
theorem d_Sc_markLongest_0 : decode c_Sc_markLongest 0 = .ok (.iload_n 2, 1) := by decide +kernel
theorem d_Sc_markLongest_1 : decode c_Sc_markLongest 1 = .ok (.istore_n 3, 1) := by decide +kernel
theorem d_Sc_markLongest_2 : decode c_Sc_markLongest 2 = .ok (.iconst (-1), 1) := by decide +kernel
theorem d_Sc_markLongest_3 : decode c_Sc_markLongest 3 = .ok (.istore 4, 2) := by decide +kernel
theorem d_Sc_markLongest_5 : decode c_Sc_markLongest 5 = .ok (.iconst 0, 1) := by decide +kernel
theorem d_Sc_markLongest_6 : decode c_Sc_markLongest 6 = .ok (.istore 5, 2) := by decide +kernel
theorem d_Sc_markLongest_8 : decode c_Sc_markLongest 8 = .ok (.iload 5, 2) := by decide +kernel
theorem d_Sc_markLongest_10 : decode c_Sc_markLongest 10 = .ok (.iload_n 1, 1) := by decide +kernel
theorem d_Sc_markLongest_11 : decode c_Sc_markLongest 11 = .ok (.if_icmp .ge 65, 3) := by decide +kernel
theorem d_Sc_markLongest_14 : decode c_Sc_markLongest 14 = .ok (.aload_n 0, 1) := by decide +kernel
theorem d_Sc_markLongest_15 : decode c_Sc_markLongest 15 = .ok (.getfield 39, 3) := by decide +kernel
theorem d_Sc_markLongest_18 : decode c_Sc_markLongest 18 = .ok (.iload 5, 2) := by decide +kernel
theorem d_Sc_markLongest_20 : decode c_Sc_markLongest 20 = .ok (.iaload, 1) := by decide +kernel
theorem d_Sc_markLongest_21 : decode c_Sc_markLongest 21 = .ok (.iload_n 3, 1) := by decide +kernel
theorem d_Sc_markLongest_22 : decode c_Sc_markLongest 22 = .ok (.if_icmp .ne 48, 3) := by decide +kernel
theorem d_Sc_markLongest_25 : decode c_Sc_markLongest 25 = .ok (.aload_n 0, 1) := by decide +kernel
theorem d_Sc_markLongest_26 : decode c_Sc_markLongest 26 = .ok (.aload_n 0, 1) := by decide +kernel
theorem d_Sc_markLongest_27 : decode c_Sc_markLongest 27 = .ok (.getfield 36, 3) := by decide +kernel
theorem d_Sc_markLongest_30 : decode c_Sc_markLongest 30 = .ok (.iload 5, 2) := by decide +kernel
theorem d_Sc_markLongest_32 : decode c_Sc_markLongest 32 = .ok (.iaload, 1) := by decide +kernel
theorem d_Sc_markLongest_33 : decode c_Sc_markLongest 33 = .ok (.invokevirtual 180, 3) := by decide +kernel
theorem d_Sc_markLongest_36 : decode c_Sc_markLongest 36 = .ok (.iload 4, 2) := by decide +kernel
theorem d_Sc_markLongest_38 : decode c_Sc_markLongest 38 = .ok (.if_icmp .le 32, 3) := by decide +kernel
theorem d_Sc_markLongest_41 : decode c_Sc_markLongest 41 = .ok (.aload_n 0, 1) := by decide +kernel
theorem d_Sc_markLongest_42 : decode c_Sc_markLongest 42 = .ok (.getfield 32, 3) := by decide +kernel
theorem d_Sc_markLongest_45 : decode c_Sc_markLongest 45 = .ok (.aload_n 0, 1) := by decide +kernel
theorem d_Sc_markLongest_46 : decode c_Sc_markLongest 46 = .ok (.getfield 36, 3) := by decide +kernel
theorem d_Sc_markLongest_49 : decode c_Sc_markLongest 49 = .ok (.iload 5, 2) := by decide +kernel
theorem d_Sc_markLongest_51 : decode c_Sc_markLongest 51 = .ok (.iaload, 1) := by decide +kernel
theorem d_Sc_markLongest_52 : decode c_Sc_markLongest 52 = .ok (.iconst 1, 1) := by decide +kernel
theorem d_Sc_markLongest_53 : decode c_Sc_markLongest 53 = .ok (.bastore, 1) := by decide +kernel
theorem d_Sc_markLongest_54 : decode c_Sc_markLongest 54 = .ok (.aload_n 0, 1) := by decide +kernel
theorem d_Sc_markLongest_55 : decode c_Sc_markLongest 55 = .ok (.aload_n 0, 1) := by decide +kernel
theorem d_Sc_markLongest_56 : decode c_Sc_markLongest 56 = .ok (.getfield 36, 3) := by decide +kernel
theorem d_Sc_markLongest_59 : decode c_Sc_markLongest 59 = .ok (.iload 5, 2) := by decide +kernel
theorem d_Sc_markLongest_61 : decode c_Sc_markLongest 61 = .ok (.iaload, 1) := by decide +kernel
theorem d_Sc_markLongest_62 : decode c_Sc_markLongest 62 = .ok (.invokevirtual 180, 3) := by decide +kernel
theorem d_Sc_markLongest_65 : decode c_Sc_markLongest 65 = .ok (.istore 4, 2) := by decide +kernel
theorem d_Sc_markLongest_67 : decode c_Sc_markLongest 67 = .ok (.iinc 3 (-1), 3) := by decide +kernel
theorem d_Sc_markLongest_70 : decode c_Sc_markLongest 70 = .ok (.iinc 5 1, 3) := by decide +kernel
theorem d_Sc_markLongest_73 : decode c_Sc_markLongest 73 = .ok (.goto (-65), 3) := by decide +kernel
theorem d_Sc_markLongest_76 : decode c_Sc_markLongest 76 = .ok (.return_, 1) := by decide +kernel
theorem d_Sc_deleteRest_0 : decode c_Sc_deleteRest 0 = .ok (.iconst 0, 1) := by decide +kernel
theorem d_Sc_deleteRest_1 : decode c_Sc_deleteRest 1 = .ok (.istore_n 3, 1) := by decide +kernel
theorem d_Sc_deleteRest_2 : decode c_Sc_deleteRest 2 = .ok (.iload_n 3, 1) := by decide +kernel
theorem d_Sc_deleteRest_3 : decode c_Sc_deleteRest 3 = .ok (.aload_n 1, 1) := by decide +kernel
theorem d_Sc_deleteRest_4 : decode c_Sc_deleteRest 4 = .ok (.getfield 70, 3) := by decide +kernel
theorem d_Sc_deleteRest_7 : decode c_Sc_deleteRest 7 = .ok (.if_icmp .ge 76, 3) := by decide +kernel
theorem d_Sc_deleteRest_10 : decode c_Sc_deleteRest 10 = .ok (.aload_n 1, 1) := by decide +kernel
theorem d_Sc_deleteRest_11 : decode c_Sc_deleteRest 11 = .ok (.getfield 186, 3) := by decide +kernel
theorem d_Sc_deleteRest_14 : decode c_Sc_deleteRest 14 = .ok (.iload_n 3, 1) := by decide +kernel
theorem d_Sc_deleteRest_15 : decode c_Sc_deleteRest 15 = .ok (.iaload, 1) := by decide +kernel
theorem d_Sc_deleteRest_16 : decode c_Sc_deleteRest 16 = .ok (.istore 4, 2) := by decide +kernel
theorem d_Sc_deleteRest_18 : decode c_Sc_deleteRest 18 = .ok (.aload_n 2, 1) := by decide +kernel
theorem d_Sc_deleteRest_19 : decode c_Sc_deleteRest 19 = .ok (.getfield 189, 3) := by decide +kernel
theorem d_Sc_deleteRest_22 : decode c_Sc_deleteRest 22 = .ok (.iload 4, 2) := by decide +kernel
theorem d_Sc_deleteRest_24 : decode c_Sc_deleteRest 24 = .ok (.iaload, 1) := by decide +kernel
theorem d_Sc_deleteRest_25 : decode c_Sc_deleteRest 25 = .ok (.iconst (-1), 1) := by decide +kernel
theorem d_Sc_deleteRest_26 : decode c_Sc_deleteRest 26 = .ok (.if_icmp .ne 51, 3) := by decide +kernel
theorem d_Sc_deleteRest_29 : decode c_Sc_deleteRest 29 = .ok (.aload_n 0, 1) := by decide +kernel
theorem d_Sc_deleteRest_30 : decode c_Sc_deleteRest 30 = .ok (.iconst 3, 1) := by decide +kernel
theorem d_Sc_deleteRest_31 : decode c_Sc_deleteRest 31 = .ok (.iload 4, 2) := by decide +kernel
theorem d_Sc_deleteRest_33 : decode c_Sc_deleteRest 33 = .ok (.invokevirtual 120, 3) := by decide +kernel
theorem d_Sc_deleteRest_36 : decode c_Sc_deleteRest 36 = .ok (.astore 5, 2) := by decide +kernel
theorem d_Sc_deleteRest_38 : decode c_Sc_deleteRest 38 = .ok (.aload 5, 2) := by decide +kernel
theorem d_Sc_deleteRest_40 : decode c_Sc_deleteRest 40 = .ok (.aload_n 0, 1) := by decide +kernel
theorem d_Sc_deleteRest_41 : decode c_Sc_deleteRest 41 = .ok (.getfield 24, 3) := by decide +kernel
theorem d_Sc_deleteRest_44 : decode c_Sc_deleteRest 44 = .ok (.getfield 106, 3) := by decide +kernel
theorem d_Sc_deleteRest_47 : decode c_Sc_deleteRest 47 = .ok (.iload 4, 2) := by decide +kernel
theorem d_Sc_deleteRest_49 : decode c_Sc_deleteRest 49 = .ok (.iaload, 1) := by decide +kernel
theorem d_Sc_deleteRest_50 : decode c_Sc_deleteRest 50 = .ok (.putfield 148, 3) := by decide +kernel
theorem d_Sc_deleteRest_53 : decode c_Sc_deleteRest 53 = .ok (.aload 5, 2) := by decide +kernel
theorem d_Sc_deleteRest_55 : decode c_Sc_deleteRest 55 = .ok (.aload_n 0, 1) := by decide +kernel
theorem d_Sc_deleteRest_56 : decode c_Sc_deleteRest 56 = .ok (.getfield 24, 3) := by decide +kernel
theorem d_Sc_deleteRest_59 : decode c_Sc_deleteRest 59 = .ok (.getfield 151, 3) := by decide +kernel
theorem d_Sc_deleteRest_62 : decode c_Sc_deleteRest 62 = .ok (.iload 4, 2) := by decide +kernel
theorem d_Sc_deleteRest_64 : decode c_Sc_deleteRest 64 = .ok (.iaload, 1) := by decide +kernel
theorem d_Sc_deleteRest_65 : decode c_Sc_deleteRest 65 = .ok (.putfield 153, 3) := by decide +kernel
theorem d_Sc_deleteRest_68 : decode c_Sc_deleteRest 68 = .ok (.aload_n 0, 1) := by decide +kernel
theorem d_Sc_deleteRest_69 : decode c_Sc_deleteRest 69 = .ok (.getfield 24, 3) := by decide +kernel
theorem d_Sc_deleteRest_72 : decode c_Sc_deleteRest 72 = .ok (.aload 5, 2) := by decide +kernel
theorem d_Sc_deleteRest_74 : decode c_Sc_deleteRest 74 = .ok (.invokevirtual 141, 3) := by decide +kernel
theorem d_Sc_deleteRest_77 : decode c_Sc_deleteRest 77 = .ok (.iinc 3 1, 3) := by decide +kernel
theorem d_Sc_deleteRest_80 : decode c_Sc_deleteRest 80 = .ok (.goto (-78), 3) := by decide +kernel
theorem d_Sc_deleteRest_83 : decode c_Sc_deleteRest 83 = .ok (.return_, 1) := by decide +kernel
theorem d_Se_init_0 : decode c_Se_init 0 = .ok (.aload_n 0, 1) := by decide +kernel
theorem d_Se_init_1 : decode c_Se_init 1 = .ok (.invokespecial 3, 3) := by decide +kernel
theorem d_Se_init_4 : decode c_Se_init 4 = .ok (.aload_n 0, 1) := by decide +kernel
theorem d_Se_init_5 : decode c_Se_init 5 = .ok (.new 9, 3) := by decide +kernel
theorem d_Se_init_8 : decode c_Se_init 8 = .ok (.dup, 1) := by decide +kernel
theorem d_Se_init_9 : decode c_Se_init 9 = .ok (.invokespecial 11, 3) := by decide +kernel
theorem d_Se_init_12 : decode c_Se_init 12 = .ok (.putfield 12, 3) := by decide +kernel
theorem d_Se_init_15 : decode c_Se_init 15 = .ok (.aload_n 0, 1) := by decide +kernel
theorem d_Se_init_16 : decode c_Se_init 16 = .ok (.new 9, 3) := by decide +kernel
theorem d_Se_init_19 : decode c_Se_init 19 = .ok (.dup, 1) := by decide +kernel
theorem d_Se_init_20 : decode c_Se_init 20 = .ok (.invokespecial 11, 3) := by decide +kernel
theorem d_Se_init_23 : decode c_Se_init 23 = .ok (.putfield 18, 3) := by decide +kernel
theorem d_Se_init_26 : decode c_Se_init 26 = .ok (.aload_n 0, 1) := by decide +kernel
theorem d_Se_init_27 : decode c_Se_init 27 = .ok (.iconst 2, 1) := by decide +kernel
theorem d_Se_init_28 : decode c_Se_init 28 = .ok (.putfield 21, 3) := by decide +kernel
theorem d_Se_init_31 : decode c_Se_init 31 = .ok (.aload_n 0, 1) := by decide +kernel
theorem d_Se_init_32 : decode c_Se_init 32 = .ok (.bipush 50, 2) := by decide +kernel
theorem d_Se_init_34 : decode c_Se_init 34 = .ok (.putfield 25, 3) := by decide +kernel
theorem d_Se_init_37 : decode c_Se_init 37 = .ok (.return_, 1) := by decide +kernel
theorem d_Se_treeOf_0 : decode c_Se_treeOf 0 = .ok (.iload_n 1, 1) := by decide +kernel
theorem d_Se_treeOf_1 : decode c_Se_treeOf 1 = .ok (.ifCond .ne 10, 3) := by decide +kernel
theorem d_Se_treeOf_4 : decode c_Se_treeOf 4 = .ok (.aload_n 0, 1) := by decide +kernel
theorem d_Se_treeOf_5 : decode c_Se_treeOf 5 = .ok (.getfield 12, 3) := by decide +kernel
theorem d_Se_treeOf_8 : decode c_Se_treeOf 8 = .ok (.goto 7, 3) := by decide +kernel
theorem d_Se_treeOf_11 : decode c_Se_treeOf 11 = .ok (.aload_n 0, 1) := by decide +kernel
theorem d_Se_treeOf_12 : decode c_Se_treeOf 12 = .ok (.getfield 18, 3) := by decide +kernel
theorem d_Se_treeOf_15 : decode c_Se_treeOf 15 = .ok (.areturn, 1) := by decide +kernel
theorem d_Se_copy_0 : decode c_Se_copy 0 = .ok (.aload_n 0, 1) := by decide +kernel
theorem d_Se_copy_1 : decode c_Se_copy 1 = .ok (.getfield 12, 3) := by decide +kernel
theorem d_Se_copy_4 : decode c_Se_copy 4 = .ok (.aload_n 1, 1) := by decide +kernel
theorem d_Se_copy_5 : decode c_Se_copy 5 = .ok (.getfield 12, 3) := by decide +kernel
theorem d_Se_copy_8 : decode c_Se_copy 8 = .ok (.invokevirtual 28, 3) := by decide +kernel
theorem d_Se_copy_11 : decode c_Se_copy 11 = .ok (.aload_n 0, 1) := by decide +kernel
theorem d_Se_copy_12 : decode c_Se_copy 12 = .ok (.getfield 18, 3) := by decide +kernel
theorem d_Se_copy_15 : decode c_Se_copy 15 = .ok (.aload_n 1, 1) := by decide +kernel
theorem d_Se_copy_16 : decode c_Se_copy 16 = .ok (.getfield 18, 3) := by decide +kernel
theorem d_Se_copy_19 : decode c_Se_copy 19 = .ok (.invokevirtual 28, 3) := by decide +kernel
theorem d_Se_copy_22 : decode c_Se_copy 22 = .ok (.aload_n 0, 1) := by decide +kernel
theorem d_Se_copy_23 : decode c_Se_copy 23 = .ok (.aload_n 1, 1) := by decide +kernel
theorem d_Se_copy_24 : decode c_Se_copy 24 = .ok (.getfield 21, 3) := by decide +kernel
theorem d_Se_copy_27 : decode c_Se_copy 27 = .ok (.putfield 21, 3) := by decide +kernel
theorem d_Se_copy_30 : decode c_Se_copy 30 = .ok (.aload_n 0, 1) := by decide +kernel
theorem d_Se_copy_31 : decode c_Se_copy 31 = .ok (.aload_n 1, 1) := by decide +kernel
theorem d_Se_copy_32 : decode c_Se_copy 32 = .ok (.getfield 25, 3) := by decide +kernel
theorem d_Se_copy_35 : decode c_Se_copy 35 = .ok (.putfield 25, 3) := by decide +kernel
theorem d_Se_copy_38 : decode c_Se_copy 38 = .ok (.return_, 1) := by decide +kernel
theorem d_Se_swapTrees_0 : decode c_Se_swapTrees 0 = .ok (.aload_n 0, 1) := by decide +kernel
theorem d_Se_swapTrees_1 : decode c_Se_swapTrees 1 = .ok (.getfield 12, 3) := by decide +kernel
theorem d_Se_swapTrees_4 : decode c_Se_swapTrees 4 = .ok (.astore_n 1, 1) := by decide +kernel
theorem d_Se_swapTrees_5 : decode c_Se_swapTrees 5 = .ok (.aload_n 0, 1) := by decide +kernel
theorem d_Se_swapTrees_6 : decode c_Se_swapTrees 6 = .ok (.aload_n 0, 1) := by decide +kernel
theorem d_Se_swapTrees_7 : decode c_Se_swapTrees 7 = .ok (.getfield 18, 3) := by decide +kernel
theorem d_Se_swapTrees_10 : decode c_Se_swapTrees 10 = .ok (.putfield 12, 3) := by decide +kernel
theorem d_Se_swapTrees_13 : decode c_Se_swapTrees 13 = .ok (.aload_n 0, 1) := by decide +kernel
theorem d_Se_swapTrees_14 : decode c_Se_swapTrees 14 = .ok (.aload_n 1, 1) := by decide +kernel
theorem d_Se_swapTrees_15 : decode c_Se_swapTrees 15 = .ok (.putfield 18, 3) := by decide +kernel
theorem d_Se_swapTrees_18 : decode c_Se_swapTrees 18 = .ok (.return_, 1) := by decide +kernel
theorem d_Se_haveSameLabel_0 : decode c_Se_haveSameLabel 0 = .ok (.aload_n 0, 1) := by decide +kernel
theorem d_Se_haveSameLabel_1 : decode c_Se_haveSameLabel 1 = .ok (.getfield 12, 3) := by decide +kernel
theorem d_Se_haveSameLabel_4 : decode c_Se_haveSameLabel 4 = .ok (.getfield 32, 3) := by decide +kernel
theorem d_Se_haveSameLabel_7 : decode c_Se_haveSameLabel 7 = .ok (.iload_n 1, 1) := by decide +kernel
theorem d_Se_haveSameLabel_8 : decode c_Se_haveSameLabel 8 = .ok (.iaload, 1) := by decide +kernel
theorem d_Se_haveSameLabel_9 : decode c_Se_haveSameLabel 9 = .ok (.aload_n 0, 1) := by decide +kernel
theorem d_Se_haveSameLabel_10 : decode c_Se_haveSameLabel 10 = .ok (.getfield 18, 3) := by decide +kernel
theorem d_Se_haveSameLabel_13 : decode c_Se_haveSameLabel 13 = .ok (.getfield 32, 3) := by decide +kernel
theorem d_Se_haveSameLabel_16 : decode c_Se_haveSameLabel 16 = .ok (.iload_n 2, 1) := by decide +kernel
theorem d_Se_haveSameLabel_17 : decode c_Se_haveSameLabel 17 = .ok (.iaload, 1) := by decide +kernel
theorem d_Se_haveSameLabel_18 : decode c_Se_haveSameLabel 18 = .ok (.if_icmp .ne 7, 3) := by decide +kernel
theorem d_Se_haveSameLabel_21 : decode c_Se_haveSameLabel 21 = .ok (.iconst 1, 1) := by decide +kernel
theorem d_Se_haveSameLabel_22 : decode c_Se_haveSameLabel 22 = .ok (.goto 4, 3) := by decide +kernel
theorem d_Se_haveSameLabel_25 : decode c_Se_haveSameLabel 25 = .ok (.iconst 0, 1) := by decide +kernel
theorem d_Se_haveSameLabel_26 : decode c_Se_haveSameLabel 26 = .ok (.ireturn, 1) := by decide +kernel
theorem d_Se_haveSameContent_0 : decode c_Se_haveSameContent 0 = .ok (.aload_n 0, 1) := by decide +kernel
theorem d_Se_haveSameContent_1 : decode c_Se_haveSameContent 1 = .ok (.getfield 12, 3) := by decide +kernel
theorem d_Se_haveSameContent_4 : decode c_Se_haveSameContent 4 = .ok (.getfield 32, 3) := by decide +kernel
theorem d_Se_haveSameContent_7 : decode c_Se_haveSameContent 7 = .ok (.iload_n 1, 1) := by decide +kernel
theorem d_Se_haveSameContent_8 : decode c_Se_haveSameContent 8 = .ok (.iaload, 1) := by decide +kernel
theorem d_Se_haveSameContent_9 : decode c_Se_haveSameContent 9 = .ok (.aload_n 0, 1) := by decide +kernel
theorem d_Se_haveSameContent_10 : decode c_Se_haveSameContent 10 = .ok (.getfield 18, 3) := by decide +kernel
theorem d_Se_haveSameContent_13 : decode c_Se_haveSameContent 13 = .ok (.getfield 32, 3) := by decide +kernel
theorem d_Se_haveSameContent_16 : decode c_Se_haveSameContent 16 = .ok (.iload_n 2, 1) := by decide +kernel
theorem d_Se_haveSameContent_17 : decode c_Se_haveSameContent 17 = .ok (.iaload, 1) := by decide +kernel
theorem d_Se_haveSameContent_18 : decode c_Se_haveSameContent 18 = .ok (.if_icmp .ne 28, 3) := by decide +kernel
theorem d_Se_haveSameContent_21 : decode c_Se_haveSameContent 21 = .ok (.aload_n 0, 1) := by decide +kernel
theorem d_Se_haveSameContent_22 : decode c_Se_haveSameContent 22 = .ok (.getfield 12, 3) := by decide +kernel
theorem d_Se_haveSameContent_25 : decode c_Se_haveSameContent 25 = .ok (.getfield 36, 3) := by decide +kernel
theorem d_Se_haveSameContent_28 : decode c_Se_haveSameContent 28 = .ok (.iload_n 1, 1) := by decide +kernel
theorem d_Se_haveSameContent_29 : decode c_Se_haveSameContent 29 = .ok (.iaload, 1) := by decide +kernel
theorem d_Se_haveSameContent_30 : decode c_Se_haveSameContent 30 = .ok (.aload_n 0, 1) := by decide +kernel
theorem d_Se_haveSameContent_31 : decode c_Se_haveSameContent 31 = .ok (.getfield 18, 3) := by decide +kernel
theorem d_Se_haveSameContent_34 : decode c_Se_haveSameContent 34 = .ok (.getfield 36, 3) := by decide +kernel
theorem d_Se_haveSameContent_37 : decode c_Se_haveSameContent 37 = .ok (.iload_n 2, 1) := by decide +kernel
theorem d_Se_haveSameContent_38 : decode c_Se_haveSameContent 38 = .ok (.iaload, 1) := by decide +kernel
theorem d_Se_haveSameContent_39 : decode c_Se_haveSameContent 39 = .ok (.if_icmp .ne 7, 3) := by decide +kernel
theorem d_Se_haveSameContent_42 : decode c_Se_haveSameContent 42 = .ok (.iconst 1, 1) := by decide +kernel
theorem d_Se_haveSameContent_43 : decode c_Se_haveSameContent 43 = .ok (.goto 4, 3) := by decide +kernel
theorem d_Se_haveSameContent_46 : decode c_Se_haveSameContent 46 = .ok (.iconst 0, 1) := by decide +kernel
theorem d_Se_haveSameContent_47 : decode c_Se_haveSameContent 47 = .ok (.ireturn, 1) := by decide +kernel
theorem d_Se_areEqual_0 : decode c_Se_areEqual 0 = .ok (.aload_n 0, 1) := by decide +kernel
theorem d_Se_areEqual_1 : decode c_Se_areEqual 1 = .ok (.getfield 12, 3) := by decide +kernel
theorem d_Se_areEqual_4 : decode c_Se_areEqual 4 = .ok (.getfield 39, 3) := by decide +kernel
theorem d_Se_areEqual_7 : decode c_Se_areEqual 7 = .ok (.iload_n 1, 1) := by decide +kernel
theorem d_Se_areEqual_8 : decode c_Se_areEqual 8 = .ok (.iaload, 1) := by decide +kernel
theorem d_Se_areEqual_9 : decode c_Se_areEqual 9 = .ok (.aload_n 0, 1) := by decide +kernel
theorem d_Se_areEqual_10 : decode c_Se_areEqual 10 = .ok (.getfield 18, 3) := by decide +kernel
theorem d_Se_areEqual_13 : decode c_Se_areEqual 13 = .ok (.getfield 39, 3) := by decide +kernel
theorem d_Se_areEqual_16 : decode c_Se_areEqual 16 = .ok (.iload_n 2, 1) := by decide +kernel
theorem d_Se_areEqual_17 : decode c_Se_areEqual 17 = .ok (.iaload, 1) := by decide +kernel
theorem d_Se_areEqual_18 : decode c_Se_areEqual 18 = .ok (.if_icmp .eq 5, 3) := by decide +kernel
theorem d_Se_areEqual_21 : decode c_Se_areEqual 21 = .ok (.iconst 0, 1) := by decide +kernel
theorem d_Se_areEqual_22 : decode c_Se_areEqual 22 = .ok (.ireturn, 1) := by decide +kernel
theorem d_Se_areEqual_23 : decode c_Se_areEqual 23 = .ok (.iconst 0, 1) := by decide +kernel
theorem d_Se_areEqual_24 : decode c_Se_areEqual 24 = .ok (.istore_n 3, 1) := by decide +kernel
theorem d_Se_areEqual_25 : decode c_Se_areEqual 25 = .ok (.iload_n 3, 1) := by decide +kernel
theorem d_Se_areEqual_26 : decode c_Se_areEqual 26 = .ok (.aload_n 0, 1) := by decide +kernel
theorem d_Se_areEqual_27 : decode c_Se_areEqual 27 = .ok (.getfield 12, 3) := by decide +kernel
theorem d_Se_areEqual_30 : decode c_Se_areEqual 30 = .ok (.getfield 39, 3) := by decide +kernel
theorem d_Se_areEqual_33 : decode c_Se_areEqual 33 = .ok (.iload_n 1, 1) := by decide +kernel
theorem d_Se_areEqual_34 : decode c_Se_areEqual 34 = .ok (.iaload, 1) := by decide +kernel
theorem d_Se_areEqual_35 : decode c_Se_areEqual 35 = .ok (.if_icmp .gt 49, 3) := by decide +kernel
theorem d_Se_areEqual_38 : decode c_Se_areEqual 38 = .ok (.aload_n 0, 1) := by decide +kernel
theorem d_Se_areEqual_39 : decode c_Se_areEqual 39 = .ok (.iload_n 1, 1) := by decide +kernel
theorem d_Se_areEqual_40 : decode c_Se_areEqual 40 = .ok (.iload_n 3, 1) := by decide +kernel
theorem d_Se_areEqual_41 : decode c_Se_areEqual 41 = .ok (.iadd, 1) := by decide +kernel
theorem d_Se_areEqual_42 : decode c_Se_areEqual 42 = .ok (.iload_n 2, 1) := by decide +kernel
theorem d_Se_areEqual_43 : decode c_Se_areEqual 43 = .ok (.iload_n 3, 1) := by decide +kernel
theorem d_Se_areEqual_44 : decode c_Se_areEqual 44 = .ok (.iadd, 1) := by decide +kernel
theorem d_Se_areEqual_45 : decode c_Se_areEqual 45 = .ok (.invokevirtual 42, 3) := by decide +kernel
theorem d_Se_areEqual_48 : decode c_Se_areEqual 48 = .ok (.ifCond .eq 28, 3) := by decide +kernel
theorem d_Se_areEqual_51 : decode c_Se_areEqual 51 = .ok (.aload_n 0, 1) := by decide +kernel
theorem d_Se_areEqual_52 : decode c_Se_areEqual 52 = .ok (.getfield 12, 3) := by decide +kernel
theorem d_Se_areEqual_55 : decode c_Se_areEqual 55 = .ok (.getfield 39, 3) := by decide +kernel
theorem d_Se_areEqual_58 : decode c_Se_areEqual 58 = .ok (.iload_n 1, 1) := by decide +kernel
theorem d_Se_areEqual_59 : decode c_Se_areEqual 59 = .ok (.iload_n 3, 1) := by decide +kernel
theorem d_Se_areEqual_60 : decode c_Se_areEqual 60 = .ok (.iadd, 1) := by decide +kernel
theorem d_Se_areEqual_61 : decode c_Se_areEqual 61 = .ok (.iaload, 1) := by decide +kernel
theorem d_Se_areEqual_62 : decode c_Se_areEqual 62 = .ok (.aload_n 0, 1) := by decide +kernel
theorem d_Se_areEqual_63 : decode c_Se_areEqual 63 = .ok (.getfield 18, 3) := by decide +kernel
theorem d_Se_areEqual_66 : decode c_Se_areEqual 66 = .ok (.getfield 39, 3) := by decide +kernel
theorem d_Se_areEqual_69 : decode c_Se_areEqual 69 = .ok (.iload_n 2, 1) := by decide +kernel
theorem d_Se_areEqual_70 : decode c_Se_areEqual 70 = .ok (.iload_n 3, 1) := by decide +kernel
theorem d_Se_areEqual_71 : decode c_Se_areEqual 71 = .ok (.iadd, 1) := by decide +kernel
theorem d_Se_areEqual_72 : decode c_Se_areEqual 72 = .ok (.iaload, 1) := by decide +kernel
theorem d_Se_areEqual_73 : decode c_Se_areEqual 73 = .ok (.if_icmp .eq 5, 3) := by decide +kernel
theorem d_Se_areEqual_76 : decode c_Se_areEqual 76 = .ok (.iconst 0, 1) := by decide +kernel
theorem d_Se_areEqual_77 : decode c_Se_areEqual 77 = .ok (.ireturn, 1) := by decide +kernel
theorem d_Se_areEqual_78 : decode c_Se_areEqual 78 = .ok (.iinc 3 1, 3) := by decide +kernel
theorem d_Se_areEqual_81 : decode c_Se_areEqual 81 = .ok (.goto (-56), 3) := by decide +kernel
theorem d_Se_areEqual_84 : decode c_Se_areEqual 84 = .ok (.iconst 1, 1) := by decide +kernel
theorem d_Se_areEqual_85 : decode c_Se_areEqual 85 = .ok (.ireturn, 1) := by decide +kernel
theorem d_Se_kinship_0 : decode c_Se_kinship 0 = .ok (.aload_n 0, 1) := by decide +kernel
theorem d_Se_kinship_1 : decode c_Se_kinship 1 = .ok (.getfield 12, 3) := by decide +kernel
theorem d_Se_kinship_4 : decode c_Se_kinship 4 = .ok (.getfield 46, 3) := by decide +kernel
theorem d_Se_kinship_7 : decode c_Se_kinship 7 = .ok (.iload_n 1, 1) := by decide +kernel
theorem d_Se_kinship_8 : decode c_Se_kinship 8 = .ok (.iaload, 1) := by decide +kernel
theorem d_Se_kinship_9 : decode c_Se_kinship 9 = .ok (.istore_n 3, 1) := by decide +kernel
theorem d_Se_kinship_10 : decode c_Se_kinship 10 = .ok (.aload_n 0, 1) := by decide +kernel
theorem d_Se_kinship_11 : decode c_Se_kinship 11 = .ok (.getfield 18, 3) := by decide +kernel
theorem d_Se_kinship_14 : decode c_Se_kinship 14 = .ok (.getfield 46, 3) := by decide +kernel
theorem d_Se_kinship_17 : decode c_Se_kinship 17 = .ok (.iload_n 2, 1) := by decide +kernel
theorem d_Se_kinship_18 : decode c_Se_kinship 18 = .ok (.iaload, 1) := by decide +kernel
theorem d_Se_kinship_19 : decode c_Se_kinship 19 = .ok (.istore 4, 2) := by decide +kernel
theorem d_Se_kinship_21 : decode c_Se_kinship 21 = .ok (.iconst 0, 1) := by decide +kernel
theorem d_Se_kinship_22 : decode c_Se_kinship 22 = .ok (.istore 5, 2) := by decide +kernel
theorem d_Se_kinship_24 : decode c_Se_kinship 24 = .ok (.iload 5, 2) := by decide +kernel
theorem d_Se_kinship_26 : decode c_Se_kinship 26 = .ok (.bipush 24, 2) := by decide +kernel
theorem d_Se_kinship_28 : decode c_Se_kinship 28 = .ok (.if_icmp .ge 65, 3) := by decide +kernel
theorem d_Se_kinship_31 : decode c_Se_kinship 31 = .ok (.iload_n 3, 1) := by decide +kernel
theorem d_Se_kinship_32 : decode c_Se_kinship 32 = .ok (.ifCond .lt 30, 3) := by decide +kernel
theorem d_Se_kinship_35 : decode c_Se_kinship 35 = .ok (.iload 4, 2) := by decide +kernel
theorem d_Se_kinship_37 : decode c_Se_kinship 37 = .ok (.ifCond .lt 25, 3) := by decide +kernel
theorem d_Se_kinship_40 : decode c_Se_kinship 40 = .ok (.aload_n 0, 1) := by decide +kernel
theorem d_Se_kinship_41 : decode c_Se_kinship 41 = .ok (.getfield 12, 3) := by decide +kernel
theorem d_Se_kinship_44 : decode c_Se_kinship 44 = .ok (.getfield 32, 3) := by decide +kernel
theorem d_Se_kinship_47 : decode c_Se_kinship 47 = .ok (.iload_n 3, 1) := by decide +kernel
theorem d_Se_kinship_48 : decode c_Se_kinship 48 = .ok (.iaload, 1) := by decide +kernel
theorem d_Se_kinship_49 : decode c_Se_kinship 49 = .ok (.aload_n 0, 1) := by decide +kernel
theorem d_Se_kinship_50 : decode c_Se_kinship 50 = .ok (.getfield 18, 3) := by decide +kernel
theorem d_Se_kinship_53 : decode c_Se_kinship 53 = .ok (.getfield 32, 3) := by decide +kernel
theorem d_Se_kinship_56 : decode c_Se_kinship 56 = .ok (.iload 4, 2) := by decide +kernel
theorem d_Se_kinship_58 : decode c_Se_kinship 58 = .ok (.iaload, 1) := by decide +kernel
theorem d_Se_kinship_59 : decode c_Se_kinship 59 = .ok (.if_icmp .eq 6, 3) := by decide +kernel
theorem d_Se_kinship_62 : decode c_Se_kinship 62 = .ok (.iload 5, 2) := by decide +kernel
theorem d_Se_kinship_64 : decode c_Se_kinship 64 = .ok (.ireturn, 1) := by decide +kernel
theorem d_Se_kinship_65 : decode c_Se_kinship 65 = .ok (.aload_n 0, 1) := by decide +kernel
theorem d_Se_kinship_66 : decode c_Se_kinship 66 = .ok (.getfield 12, 3) := by decide +kernel
theorem d_Se_kinship_69 : decode c_Se_kinship 69 = .ok (.getfield 46, 3) := by decide +kernel
theorem d_Se_kinship_72 : decode c_Se_kinship 72 = .ok (.iload_n 3, 1) := by decide +kernel
theorem d_Se_kinship_73 : decode c_Se_kinship 73 = .ok (.iaload, 1) := by decide +kernel
theorem d_Se_kinship_74 : decode c_Se_kinship 74 = .ok (.istore_n 3, 1) := by decide +kernel
theorem d_Se_kinship_75 : decode c_Se_kinship 75 = .ok (.aload_n 0, 1) := by decide +kernel
theorem d_Se_kinship_76 : decode c_Se_kinship 76 = .ok (.getfield 18, 3) := by decide +kernel
theorem d_Se_kinship_79 : decode c_Se_kinship 79 = .ok (.getfield 46, 3) := by decide +kernel
theorem d_Se_kinship_82 : decode c_Se_kinship 82 = .ok (.iload 4, 2) := by decide +kernel
theorem d_Se_kinship_84 : decode c_Se_kinship 84 = .ok (.iaload, 1) := by decide +kernel
theorem d_Se_kinship_85 : decode c_Se_kinship 85 = .ok (.istore 4, 2) := by decide +kernel
theorem d_Se_kinship_87 : decode c_Se_kinship 87 = .ok (.iinc 5 1, 3) := by decide +kernel
theorem d_Se_kinship_90 : decode c_Se_kinship 90 = .ok (.goto (-66), 3) := by decide +kernel
theorem d_Se_kinship_93 : decode c_Se_kinship 93 = .ok (.bipush 24, 2) := by decide +kernel
theorem d_Se_kinship_95 : decode c_Se_kinship 95 = .ok (.ireturn, 1) := by decide +kernel
theorem d_Sp_init_0 : decode c_Sp_init 0 = .ok (.aload_n 0, 1) := by decide +kernel
theorem d_Sp_init_1 : decode c_Sp_init 1 = .ok (.invokespecial 3, 3) := by decide +kernel
theorem d_Sp_init_4 : decode c_Sp_init 4 = .ok (.return_, 1) := by decide +kernel
theorem d_Sp_tell_0 : decode c_Sp_tell 0 = .ok (.aload_n 0, 1) := by decide +kernel
theorem d_Sp_tell_1 : decode c_Sp_tell 1 = .ok (.getfield 9, 3) := by decide +kernel
theorem d_Sp_tell_4 : decode c_Sp_tell 4 = .ok (.iconst 1, 1) := by decide +kernel
theorem d_Sp_tell_5 : decode c_Sp_tell 5 = .ok (.if_icmp .eq 11, 3) := by decide +kernel
theorem d_Sp_tell_8 : decode c_Sp_tell 8 = .ok (.aload_n 0, 1) := by decide +kernel
theorem d_Sp_tell_9 : decode c_Sp_tell 9 = .ok (.getfield 9, 3) := by decide +kernel
theorem d_Sp_tell_12 : decode c_Sp_tell 12 = .ok (.iconst 2, 1) := by decide +kernel
theorem d_Sp_tell_13 : decode c_Sp_tell 13 = .ok (.if_icmp .ne 7, 3) := by decide +kernel
theorem d_Sp_tell_16 : decode c_Sp_tell 16 = .ok (.iconst 1, 1) := by decide +kernel
theorem d_Sp_tell_17 : decode c_Sp_tell 17 = .ok (.goto 4, 3) := by decide +kernel
theorem d_Sp_tell_20 : decode c_Sp_tell 20 = .ok (.iconst 0, 1) := by decide +kernel
theorem d_Sp_tell_21 : decode c_Sp_tell 21 = .ok (.istore_n 2, 1) := by decide +kernel
theorem d_Sp_tell_22 : decode c_Sp_tell 22 = .ok (.iload_n 1, 1) := by decide +kernel
theorem d_Sp_tell_23 : decode c_Sp_tell 23 = .ok (.tableswitch 124 0 5 #[37, 42, 50, 67, 81, 99], 37) := by decide +kernel
theorem d_Sp_tell_60 : decode c_Sp_tell 60 = .ok (.aload_n 0, 1) := by decide +kernel
theorem d_Sp_tell_61 : decode c_Sp_tell 61 = .ok (.getfield 9, 3) := by decide +kernel
theorem d_Sp_tell_64 : decode c_Sp_tell 64 = .ok (.ireturn, 1) := by decide +kernel
theorem d_Sp_tell_65 : decode c_Sp_tell 65 = .ok (.aload_n 0, 1) := by decide +kernel
theorem d_Sp_tell_66 : decode c_Sp_tell 66 = .ok (.getfield 15, 3) := by decide +kernel
theorem d_Sp_tell_69 : decode c_Sp_tell 69 = .ok (.invokestatic 18, 3) := by decide +kernel
theorem d_Sp_tell_72 : decode c_Sp_tell 72 = .ok (.ireturn, 1) := by decide +kernel
theorem d_Sp_tell_73 : decode c_Sp_tell 73 = .ok (.iload_n 2, 1) := by decide +kernel
theorem d_Sp_tell_74 : decode c_Sp_tell 74 = .ok (.ifCond .eq 13, 3) := by decide +kernel
theorem d_Sp_tell_77 : decode c_Sp_tell 77 = .ok (.aload_n 0, 1) := by decide +kernel
theorem d_Sp_tell_78 : decode c_Sp_tell 78 = .ok (.getfield 22, 3) := by decide +kernel
theorem d_Sp_tell_81 : decode c_Sp_tell 81 = .ok (.invokestatic 18, 3) := by decide +kernel
theorem d_Sp_tell_84 : decode c_Sp_tell 84 = .ok (.goto 5, 3) := by decide +kernel
theorem d_Sp_tell_87 : decode c_Sp_tell 87 = .ok (.bipush (-15), 2) := by decide +kernel
theorem d_Sp_tell_89 : decode c_Sp_tell 89 = .ok (.ireturn, 1) := by decide +kernel
theorem d_Sp_tell_90 : decode c_Sp_tell 90 = .ok (.iload_n 2, 1) := by decide +kernel
theorem d_Sp_tell_91 : decode c_Sp_tell 91 = .ok (.ifCond .eq 10, 3) := by decide +kernel
theorem d_Sp_tell_94 : decode c_Sp_tell 94 = .ok (.aload_n 0, 1) := by decide +kernel
theorem d_Sp_tell_95 : decode c_Sp_tell 95 = .ok (.getfield 25, 3) := by decide +kernel
theorem d_Sp_tell_98 : decode c_Sp_tell 98 = .ok (.goto 5, 3) := by decide +kernel
theorem d_Sp_tell_101 : decode c_Sp_tell 101 = .ok (.bipush (-15), 2) := by decide +kernel
theorem d_Sp_tell_103 : decode c_Sp_tell 103 = .ok (.ireturn, 1) := by decide +kernel
theorem d_Sp_tell_104 : decode c_Sp_tell 104 = .ok (.aload_n 0, 1) := by decide +kernel
theorem d_Sp_tell_105 : decode c_Sp_tell 105 = .ok (.getfield 9, 3) := by decide +kernel
theorem d_Sp_tell_108 : decode c_Sp_tell 108 = .ok (.iconst 1, 1) := by decide +kernel
theorem d_Sp_tell_109 : decode c_Sp_tell 109 = .ok (.if_icmp .ne 10, 3) := by decide +kernel
theorem d_Sp_tell_112 : decode c_Sp_tell 112 = .ok (.aload_n 0, 1) := by decide +kernel
theorem d_Sp_tell_113 : decode c_Sp_tell 113 = .ok (.getfield 28, 3) := by decide +kernel
theorem d_Sp_tell_116 : decode c_Sp_tell 116 = .ok (.goto 5, 3) := by decide +kernel
theorem d_Sp_tell_119 : decode c_Sp_tell 119 = .ok (.bipush (-15), 2) := by decide +kernel
theorem d_Sp_tell_121 : decode c_Sp_tell 121 = .ok (.ireturn, 1) := by decide +kernel
theorem d_Sp_tell_122 : decode c_Sp_tell 122 = .ok (.aload_n 0, 1) := by decide +kernel
theorem d_Sp_tell_123 : decode c_Sp_tell 123 = .ok (.getfield 9, 3) := by decide +kernel
theorem d_Sp_tell_126 : decode c_Sp_tell 126 = .ok (.iconst 1, 1) := by decide +kernel
theorem d_Sp_tell_127 : decode c_Sp_tell 127 = .ok (.if_icmp .eq 10, 3) := by decide +kernel
theorem d_Sp_tell_130 : decode c_Sp_tell 130 = .ok (.aload_n 0, 1) := by decide +kernel
theorem d_Sp_tell_131 : decode c_Sp_tell 131 = .ok (.getfield 9, 3) := by decide +kernel
theorem d_Sp_tell_134 : decode c_Sp_tell 134 = .ok (.ifCond .ne 10, 3) := by decide +kernel
theorem d_Sp_tell_137 : decode c_Sp_tell 137 = .ok (.aload_n 0, 1) := by decide +kernel
theorem d_Sp_tell_138 : decode c_Sp_tell 138 = .ok (.getfield 31, 3) := by decide +kernel
theorem d_Sp_tell_141 : decode c_Sp_tell 141 = .ok (.goto 5, 3) := by decide +kernel
theorem d_Sp_tell_144 : decode c_Sp_tell 144 = .ok (.bipush (-15), 2) := by decide +kernel
theorem d_Sp_tell_146 : decode c_Sp_tell 146 = .ok (.ireturn, 1) := by decide +kernel
theorem d_Sp_tell_147 : decode c_Sp_tell 147 = .ok (.bipush (-12), 2) := by decide +kernel
theorem d_Sp_tell_149 : decode c_Sp_tell 149 = .ok (.ireturn, 1) := by decide +kernel
theorem d_Tx_init_0 : decode c_Tx_init 0 = .ok (.aload_n 0, 1) := by decide +kernel
theorem d_Tx_init_1 : decode c_Tx_init 1 = .ok (.invokespecial 3, 3) := by decide +kernel
theorem d_Tx_init_4 : decode c_Tx_init 4 = .ok (.aload_n 0, 1) := by decide +kernel
theorem d_Tx_init_5 : decode c_Tx_init 5 = .ok (.bipush 100, 2) := by decide +kernel
theorem d_Tx_init_7 : decode c_Tx_init 7 = .ok (.newarray .int, 2) := by decide +kernel
theorem d_Tx_init_9 : decode c_Tx_init 9 = .ok (.putfield 9, 3) := by decide +kernel
theorem d_Tx_init_12 : decode c_Tx_init 12 = .ok (.aload_n 0, 1) := by decide +kernel
theorem d_Tx_init_13 : decode c_Tx_init 13 = .ok (.iconst 0, 1) := by decide +kernel
theorem d_Tx_init_14 : decode c_Tx_init 14 = .ok (.putfield 15, 3) := by decide +kernel
theorem d_Tx_init_17 : decode c_Tx_init 17 = .ok (.aload_n 0, 1) := by decide +kernel
theorem d_Tx_init_18 : decode c_Tx_init 18 = .ok (.new 19, 3) := by decide +kernel
theorem d_Tx_init_21 : decode c_Tx_init 21 = .ok (.dup, 1) := by decide +kernel
theorem d_Tx_init_22 : decode c_Tx_init 22 = .ok (.invokespecial 21, 3) := by decide +kernel
theorem d_Tx_init_25 : decode c_Tx_init 25 = .ok (.putfield 22, 3) := by decide +kernel
theorem d_Tx_init_28 : decode c_Tx_init 28 = .ok (.aload_n 0, 1) := by decide +kernel
theorem d_Tx_init_29 : decode c_Tx_init 29 = .ok (.iconst 0, 1) := by decide +kernel
theorem d_Tx_init_30 : decode c_Tx_init 30 = .ok (.putfield 26, 3) := by decide +kernel
theorem d_Tx_init_33 : decode c_Tx_init 33 = .ok (.aload_n 0, 1) := by decide +kernel
theorem d_Tx_init_34 : decode c_Tx_init 34 = .ok (.iconst 0, 1) := by decide +kernel
theorem d_Tx_init_35 : decode c_Tx_init 35 = .ok (.putfield 29, 3) := by decide +kernel
theorem d_Tx_init_38 : decode c_Tx_init 38 = .ok (.aload_n 0, 1) := by decide +kernel
theorem d_Tx_init_39 : decode c_Tx_init 39 = .ok (.iconst (-1), 1) := by decide +kernel
theorem d_Tx_init_40 : decode c_Tx_init 40 = .ok (.putfield 32, 3) := by decide +kernel
theorem d_Tx_init_43 : decode c_Tx_init 43 = .ok (.return_, 1) := by decide +kernel
theorem d_Tx_add_0 : decode c_Tx_add 0 = .ok (.aload_n 0, 1) := by decide +kernel
theorem d_Tx_add_1 : decode c_Tx_add 1 = .ok (.getfield 15, 3) := by decide +kernel
theorem d_Tx_add_4 : decode c_Tx_add 4 = .ok (.bipush 100, 2) := by decide +kernel
theorem d_Tx_add_6 : decode c_Tx_add 6 = .ok (.if_icmp .lt 5, 3) := by decide +kernel
theorem d_Tx_add_9 : decode c_Tx_add 9 = .ok (.iconst 0, 1) := by decide +kernel
theorem d_Tx_add_10 : decode c_Tx_add 10 = .ok (.ireturn, 1) := by decide +kernel
theorem d_Tx_add_11 : decode c_Tx_add 11 = .ok (.aload_n 0, 1) := by decide +kernel
theorem d_Tx_add_12 : decode c_Tx_add 12 = .ok (.getfield 9, 3) := by decide +kernel
theorem d_Tx_add_15 : decode c_Tx_add 15 = .ok (.aload_n 0, 1) := by decide +kernel
theorem d_Tx_add_16 : decode c_Tx_add 16 = .ok (.getfield 15, 3) := by decide +kernel
theorem d_Tx_add_19 : decode c_Tx_add 19 = .ok (.iload_n 1, 1) := by decide +kernel
theorem d_Tx_add_20 : decode c_Tx_add 20 = .ok (.iastore, 1) := by decide +kernel
theorem d_Tx_add_21 : decode c_Tx_add 21 = .ok (.aload_n 0, 1) := by decide +kernel
theorem d_Tx_add_22 : decode c_Tx_add 22 = .ok (.dup, 1) := by decide +kernel
theorem d_Tx_add_23 : decode c_Tx_add 23 = .ok (.getfield 15, 3) := by decide +kernel
theorem d_Tx_add_26 : decode c_Tx_add 26 = .ok (.iconst 1, 1) := by decide +kernel
theorem d_Tx_add_27 : decode c_Tx_add 27 = .ok (.iadd, 1) := by decide +kernel
theorem d_Tx_add_28 : decode c_Tx_add 28 = .ok (.putfield 15, 3) := by decide +kernel
theorem d_Tx_add_31 : decode c_Tx_add 31 = .ok (.iconst 1, 1) := by decide +kernel
theorem d_Tx_add_32 : decode c_Tx_add 32 = .ok (.ireturn, 1) := by decide +kernel
theorem d_Tx_findFault_0 : decode c_Tx_findFault 0 = .ok (.aload_n 0, 1) := by decide +kernel
theorem d_Tx_findFault_1 : decode c_Tx_findFault 1 = .ok (.getfield 22, 3) := by decide +kernel
theorem d_Tx_findFault_4 : decode c_Tx_findFault 4 = .ok (.iconst 0, 1) := by decide +kernel
theorem d_Tx_findFault_5 : decode c_Tx_findFault 5 = .ok (.putfield 35, 3) := by decide +kernel
theorem d_Tx_findFault_8 : decode c_Tx_findFault 8 = .ok (.aload_n 0, 1) := by decide +kernel
theorem d_Tx_findFault_9 : decode c_Tx_findFault 9 = .ok (.iconst 0, 1) := by decide +kernel
theorem d_Tx_findFault_10 : decode c_Tx_findFault 10 = .ok (.putfield 26, 3) := by decide +kernel
theorem d_Tx_findFault_13 : decode c_Tx_findFault 13 = .ok (.aload_n 0, 1) := by decide +kernel
theorem d_Tx_findFault_14 : decode c_Tx_findFault 14 = .ok (.iconst 0, 1) := by decide +kernel
theorem d_Tx_findFault_15 : decode c_Tx_findFault 15 = .ok (.putfield 29, 3) := by decide +kernel
theorem d_Tx_findFault_18 : decode c_Tx_findFault 18 = .ok (.aload_n 0, 1) := by decide +kernel
theorem d_Tx_findFault_19 : decode c_Tx_findFault 19 = .ok (.iconst (-1), 1) := by decide +kernel
theorem d_Tx_findFault_20 : decode c_Tx_findFault 20 = .ok (.putfield 32, 3) := by decide +kernel
theorem d_Tx_findFault_23 : decode c_Tx_findFault 23 = .ok (.iconst 0, 1) := by decide +kernel
theorem d_Tx_findFault_24 : decode c_Tx_findFault 24 = .ok (.istore_n 1, 1) := by decide +kernel
theorem d_Tx_findFault_25 : decode c_Tx_findFault 25 = .ok (.iload_n 1, 1) := by decide +kernel
theorem d_Tx_findFault_26 : decode c_Tx_findFault 26 = .ok (.aload_n 0, 1) := by decide +kernel
theorem d_Tx_findFault_27 : decode c_Tx_findFault 27 = .ok (.getfield 15, 3) := by decide +kernel
theorem d_Tx_findFault_30 : decode c_Tx_findFault 30 = .ok (.if_icmp .ge 24, 3) := by decide +kernel
theorem d_Tx_findFault_33 : decode c_Tx_findFault 33 = .ok (.aload_n 0, 1) := by decide +kernel
theorem d_Tx_findFault_34 : decode c_Tx_findFault 34 = .ok (.aload_n 0, 1) := by decide +kernel
theorem d_Tx_findFault_35 : decode c_Tx_findFault 35 = .ok (.getfield 9, 3) := by decide +kernel
theorem d_Tx_findFault_38 : decode c_Tx_findFault 38 = .ok (.iload_n 1, 1) := by decide +kernel
theorem d_Tx_findFault_39 : decode c_Tx_findFault 39 = .ok (.iaload, 1) := by decide +kernel
theorem d_Tx_findFault_40 : decode c_Tx_findFault 40 = .ok (.invokevirtual 38, 3) := by decide +kernel
theorem d_Tx_findFault_43 : decode c_Tx_findFault 43 = .ok (.ifCond .ne 5, 3) := by decide +kernel
theorem d_Tx_findFault_46 : decode c_Tx_findFault 46 = .ok (.iload_n 1, 1) := by decide +kernel
theorem d_Tx_findFault_47 : decode c_Tx_findFault 47 = .ok (.ireturn, 1) := by decide +kernel
theorem d_Tx_findFault_48 : decode c_Tx_findFault 48 = .ok (.iinc 1 1, 3) := by decide +kernel
theorem d_Tx_findFault_51 : decode c_Tx_findFault 51 = .ok (.goto (-26), 3) := by decide +kernel
theorem d_Tx_findFault_54 : decode c_Tx_findFault 54 = .ok (.aload_n 0, 1) := by decide +kernel
theorem d_Tx_findFault_55 : decode c_Tx_findFault 55 = .ok (.getfield 26, 3) := by decide +kernel
theorem d_Tx_findFault_58 : decode c_Tx_findFault 58 = .ok (.ifCond .ne 15, 3) := by decide +kernel
theorem d_Tx_findFault_61 : decode c_Tx_findFault 61 = .ok (.aload_n 0, 1) := by decide +kernel
theorem d_Tx_findFault_62 : decode c_Tx_findFault 62 = .ok (.getfield 29, 3) := by decide +kernel
theorem d_Tx_findFault_65 : decode c_Tx_findFault 65 = .ok (.ifCond .eq 8, 3) := by decide +kernel
theorem d_Tx_findFault_68 : decode c_Tx_findFault 68 = .ok (.bipush (-15), 2) := by decide +kernel
theorem d_Tx_findFault_70 : decode c_Tx_findFault 70 = .ok (.goto 7, 3) := by decide +kernel
theorem d_Tx_findFault_73 : decode c_Tx_findFault 73 = .ok (.aload_n 0, 1) := by decide +kernel
theorem d_Tx_findFault_74 : decode c_Tx_findFault 74 = .ok (.getfield 15, 3) := by decide +kernel
theorem d_Tx_findFault_77 : decode c_Tx_findFault 77 = .ok (.ireturn, 1) := by decide +kernel
theorem d_Tx_takes_0 : decode c_Tx_takes 0 = .ok (.aload_n 0, 1) := by decide +kernel
theorem d_Tx_takes_1 : decode c_Tx_takes 1 = .ok (.getfield 29, 3) := by decide +kernel
theorem d_Tx_takes_4 : decode c_Tx_takes 4 = .ok (.ifCond .ne 9, 3) := by decide +kernel
theorem d_Tx_takes_7 : decode c_Tx_takes 7 = .ok (.aload_n 0, 1) := by decide +kernel
theorem d_Tx_takes_8 : decode c_Tx_takes 8 = .ok (.iload_n 1, 1) := by decide +kernel
theorem d_Tx_takes_9 : decode c_Tx_takes 9 = .ok (.invokevirtual 42, 3) := by decide +kernel
theorem d_Tx_takes_12 : decode c_Tx_takes 12 = .ok (.ireturn, 1) := by decide +kernel
theorem d_Tx_takes_13 : decode c_Tx_takes 13 = .ok (.iload_n 1, 1) := by decide +kernel
theorem d_Tx_takes_14 : decode c_Tx_takes 14 = .ok (.lookupswitch 49 #[(32, 39), (40, 34), (41, 44)], 34) := by decide +kernel
theorem d_Tx_takes_48 : decode c_Tx_takes 48 = .ok (.aload_n 0, 1) := by decide +kernel
theorem d_Tx_takes_49 : decode c_Tx_takes 49 = .ok (.invokevirtual 45, 3) := by decide +kernel
theorem d_Tx_takes_52 : decode c_Tx_takes 52 = .ok (.ireturn, 1) := by decide +kernel
theorem d_Tx_takes_53 : decode c_Tx_takes 53 = .ok (.aload_n 0, 1) := by decide +kernel
theorem d_Tx_takes_54 : decode c_Tx_takes 54 = .ok (.invokevirtual 49, 3) := by decide +kernel
theorem d_Tx_takes_57 : decode c_Tx_takes 57 = .ok (.ireturn, 1) := by decide +kernel
theorem d_Tx_takes_58 : decode c_Tx_takes 58 = .ok (.aload_n 0, 1) := by decide +kernel
theorem d_Tx_takes_59 : decode c_Tx_takes 59 = .ok (.invokevirtual 52, 3) := by decide +kernel
theorem d_Tx_takes_62 : decode c_Tx_takes 62 = .ok (.ireturn, 1) := by decide +kernel
theorem d_Tx_takes_63 : decode c_Tx_takes 63 = .ok (.aload_n 0, 1) := by decide +kernel
theorem d_Tx_takes_64 : decode c_Tx_takes 64 = .ok (.iload_n 1, 1) := by decide +kernel
theorem d_Tx_takes_65 : decode c_Tx_takes 65 = .ok (.invokevirtual 55, 3) := by decide +kernel
theorem d_Tx_takes_68 : decode c_Tx_takes 68 = .ok (.ireturn, 1) := by decide +kernel
theorem d_Tx_takesLabel_0 : decode c_Tx_takesLabel 0 = .ok (.iload_n 1, 1) := by decide +kernel
theorem d_Tx_takesLabel_1 : decode c_Tx_takesLabel 1 = .ok (.bipush 97, 2) := by decide +kernel
theorem d_Tx_takesLabel_3 : decode c_Tx_takesLabel 3 = .ok (.if_icmp .lt 27, 3) := by decide +kernel
theorem d_Tx_takesLabel_6 : decode c_Tx_takesLabel 6 = .ok (.iload_n 1, 1) := by decide +kernel
theorem d_Tx_takesLabel_7 : decode c_Tx_takesLabel 7 = .ok (.bipush 104, 2) := by decide +kernel
theorem d_Tx_takesLabel_9 : decode c_Tx_takesLabel 9 = .ok (.if_icmp .gt 21, 3) := by decide +kernel
theorem d_Tx_takesLabel_12 : decode c_Tx_takesLabel 12 = .ok (.aload_n 0, 1) := by decide +kernel
theorem d_Tx_takesLabel_13 : decode c_Tx_takesLabel 13 = .ok (.getfield 22, 3) := by decide +kernel
theorem d_Tx_takesLabel_16 : decode c_Tx_takesLabel 16 = .ok (.iload_n 1, 1) := by decide +kernel
theorem d_Tx_takesLabel_17 : decode c_Tx_takesLabel 17 = .ok (.bipush 97, 2) := by decide +kernel
theorem d_Tx_takesLabel_19 : decode c_Tx_takesLabel 19 = .ok (.isub, 1) := by decide +kernel
theorem d_Tx_takesLabel_20 : decode c_Tx_takesLabel 20 = .ok (.aload_n 0, 1) := by decide +kernel
theorem d_Tx_takesLabel_21 : decode c_Tx_takesLabel 21 = .ok (.getfield 32, 3) := by decide +kernel
theorem d_Tx_takesLabel_24 : decode c_Tx_takesLabel 24 = .ok (.invokevirtual 58, 3) := by decide +kernel
theorem d_Tx_takesLabel_27 : decode c_Tx_takesLabel 27 = .ok (.ifCond .ne 5, 3) := by decide +kernel
theorem d_Tx_takesLabel_30 : decode c_Tx_takesLabel 30 = .ok (.iconst 0, 1) := by decide +kernel
theorem d_Tx_takesLabel_31 : decode c_Tx_takesLabel 31 = .ok (.ireturn, 1) := by decide +kernel
theorem d_Tx_takesLabel_32 : decode c_Tx_takesLabel 32 = .ok (.aload_n 0, 1) := by decide +kernel
theorem d_Tx_takesLabel_33 : decode c_Tx_takesLabel 33 = .ok (.iconst 1, 1) := by decide +kernel
theorem d_Tx_takesLabel_34 : decode c_Tx_takesLabel 34 = .ok (.putfield 29, 3) := by decide +kernel
theorem d_Tx_takesLabel_37 : decode c_Tx_takesLabel 37 = .ok (.iconst 1, 1) := by decide +kernel
theorem d_Tx_takesLabel_38 : decode c_Tx_takesLabel 38 = .ok (.ireturn, 1) := by decide +kernel
theorem d_Tx_takesDigit_0 : decode c_Tx_takesDigit 0 = .ok (.aload_n 0, 1) := by decide +kernel
theorem d_Tx_takesDigit_1 : decode c_Tx_takesDigit 1 = .ok (.getfield 29, 3) := by decide +kernel
theorem d_Tx_takesDigit_4 : decode c_Tx_takesDigit 4 = .ok (.iconst 1, 1) := by decide +kernel
theorem d_Tx_takesDigit_5 : decode c_Tx_takesDigit 5 = .ok (.if_icmp .eq 11, 3) := by decide +kernel
theorem d_Tx_takesDigit_8 : decode c_Tx_takesDigit 8 = .ok (.aload_n 0, 1) := by decide +kernel
theorem d_Tx_takesDigit_9 : decode c_Tx_takesDigit 9 = .ok (.getfield 29, 3) := by decide +kernel
theorem d_Tx_takesDigit_12 : decode c_Tx_takesDigit 12 = .ok (.iconst 2, 1) := by decide +kernel
theorem d_Tx_takesDigit_13 : decode c_Tx_takesDigit 13 = .ok (.if_icmp .ne 7, 3) := by decide +kernel
theorem d_Tx_takesDigit_16 : decode c_Tx_takesDigit 16 = .ok (.iconst 1, 1) := by decide +kernel
theorem d_Tx_takesDigit_17 : decode c_Tx_takesDigit 17 = .ok (.goto 4, 3) := by decide +kernel
theorem d_Tx_takesDigit_20 : decode c_Tx_takesDigit 20 = .ok (.iconst 0, 1) := by decide +kernel
theorem d_Tx_takesDigit_21 : decode c_Tx_takesDigit 21 = .ok (.istore_n 2, 1) := by decide +kernel
theorem d_Tx_takesDigit_22 : decode c_Tx_takesDigit 22 = .ok (.aload_n 0, 1) := by decide +kernel
theorem d_Tx_takesDigit_23 : decode c_Tx_takesDigit 23 = .ok (.getfield 22, 3) := by decide +kernel
theorem d_Tx_takesDigit_26 : decode c_Tx_takesDigit 26 = .ok (.getfield 35, 3) := by decide +kernel
theorem d_Tx_takesDigit_29 : decode c_Tx_takesDigit 29 = .ok (.iconst 1, 1) := by decide +kernel
theorem d_Tx_takesDigit_30 : decode c_Tx_takesDigit 30 = .ok (.isub, 1) := by decide +kernel
theorem d_Tx_takesDigit_31 : decode c_Tx_takesDigit 31 = .ok (.istore_n 3, 1) := by decide +kernel
theorem d_Tx_takesDigit_32 : decode c_Tx_takesDigit 32 = .ok (.iload_n 1, 1) := by decide +kernel
theorem d_Tx_takesDigit_33 : decode c_Tx_takesDigit 33 = .ok (.bipush 48, 2) := by decide +kernel
theorem d_Tx_takesDigit_35 : decode c_Tx_takesDigit 35 = .ok (.if_icmp .lt 17, 3) := by decide +kernel
theorem d_Tx_takesDigit_38 : decode c_Tx_takesDigit 38 = .ok (.iload_n 1, 1) := by decide +kernel
theorem d_Tx_takesDigit_39 : decode c_Tx_takesDigit 39 = .ok (.bipush 57, 2) := by decide +kernel
theorem d_Tx_takesDigit_41 : decode c_Tx_takesDigit 41 = .ok (.if_icmp .gt 11, 3) := by decide +kernel
theorem d_Tx_takesDigit_44 : decode c_Tx_takesDigit 44 = .ok (.iload_n 2, 1) := by decide +kernel
theorem d_Tx_takesDigit_45 : decode c_Tx_takesDigit 45 = .ok (.ifCond .eq 7, 3) := by decide +kernel
theorem d_Tx_takesDigit_48 : decode c_Tx_takesDigit 48 = .ok (.iload_n 3, 1) := by decide +kernel
theorem d_Tx_takesDigit_49 : decode c_Tx_takesDigit 49 = .ok (.ifCond .ge 5, 3) := by decide +kernel
theorem d_Tx_takesDigit_52 : decode c_Tx_takesDigit 52 = .ok (.iconst 0, 1) := by decide +kernel
theorem d_Tx_takesDigit_53 : decode c_Tx_takesDigit 53 = .ok (.ireturn, 1) := by decide +kernel
theorem d_Tx_takesDigit_54 : decode c_Tx_takesDigit 54 = .ok (.aload_n 0, 1) := by decide +kernel
theorem d_Tx_takesDigit_55 : decode c_Tx_takesDigit 55 = .ok (.getfield 22, 3) := by decide +kernel
theorem d_Tx_takesDigit_58 : decode c_Tx_takesDigit 58 = .ok (.getfield 62, 3) := by decide +kernel
theorem d_Tx_takesDigit_61 : decode c_Tx_takesDigit 61 = .ok (.iload_n 3, 1) := by decide +kernel
theorem d_Tx_takesDigit_62 : decode c_Tx_takesDigit 62 = .ok (.bipush 10, 2) := by decide +kernel
theorem d_Tx_takesDigit_64 : decode c_Tx_takesDigit 64 = .ok (.aload_n 0, 1) := by decide +kernel
theorem d_Tx_takesDigit_65 : decode c_Tx_takesDigit 65 = .ok (.getfield 22, 3) := by decide +kernel
theorem d_Tx_takesDigit_68 : decode c_Tx_takesDigit 68 = .ok (.getfield 62, 3) := by decide +kernel
theorem d_Tx_takesDigit_71 : decode c_Tx_takesDigit 71 = .ok (.iload_n 3, 1) := by decide +kernel
theorem d_Tx_takesDigit_72 : decode c_Tx_takesDigit 72 = .ok (.iaload, 1) := by decide +kernel
theorem d_Tx_takesDigit_73 : decode c_Tx_takesDigit 73 = .ok (.imul, 1) := by decide +kernel
theorem d_Tx_takesDigit_74 : decode c_Tx_takesDigit 74 = .ok (.iload_n 1, 1) := by decide +kernel
theorem d_Tx_takesDigit_75 : decode c_Tx_takesDigit 75 = .ok (.iadd, 1) := by decide +kernel
theorem d_Tx_takesDigit_76 : decode c_Tx_takesDigit 76 = .ok (.bipush 48, 2) := by decide +kernel
theorem d_Tx_takesDigit_78 : decode c_Tx_takesDigit 78 = .ok (.isub, 1) := by decide +kernel
theorem d_Tx_takesDigit_79 : decode c_Tx_takesDigit 79 = .ok (.iastore, 1) := by decide +kernel
theorem d_Tx_takesDigit_80 : decode c_Tx_takesDigit 80 = .ok (.aload_n 0, 1) := by decide +kernel
theorem d_Tx_takesDigit_81 : decode c_Tx_takesDigit 81 = .ok (.aload_n 0, 1) := by decide +kernel
theorem d_Tx_takesDigit_82 : decode c_Tx_takesDigit 82 = .ok (.getfield 29, 3) := by decide +kernel
theorem d_Tx_takesDigit_85 : decode c_Tx_takesDigit 85 = .ok (.iconst 1, 1) := by decide +kernel
theorem d_Tx_takesDigit_86 : decode c_Tx_takesDigit 86 = .ok (.if_icmp .ne 13, 3) := by decide +kernel
theorem d_Tx_takesDigit_89 : decode c_Tx_takesDigit 89 = .ok (.iload_n 1, 1) := by decide +kernel
theorem d_Tx_takesDigit_90 : decode c_Tx_takesDigit 90 = .ok (.bipush 48, 2) := by decide +kernel
theorem d_Tx_takesDigit_92 : decode c_Tx_takesDigit 92 = .ok (.if_icmp .eq 7, 3) := by decide +kernel
theorem d_Tx_takesDigit_95 : decode c_Tx_takesDigit 95 = .ok (.iconst 2, 1) := by decide +kernel
theorem d_Tx_takesDigit_96 : decode c_Tx_takesDigit 96 = .ok (.goto 4, 3) := by decide +kernel
theorem d_Tx_takesDigit_99 : decode c_Tx_takesDigit 99 = .ok (.iconst 3, 1) := by decide +kernel
theorem d_Tx_takesDigit_100 : decode c_Tx_takesDigit 100 = .ok (.putfield 29, 3) := by decide +kernel
theorem d_Tx_takesDigit_103 : decode c_Tx_takesDigit 103 = .ok (.iconst 1, 1) := by decide +kernel
theorem d_Tx_takesDigit_104 : decode c_Tx_takesDigit 104 = .ok (.ireturn, 1) := by decide +kernel
theorem d_Tx_takesOpening_0 : decode c_Tx_takesOpening 0 = .ok (.aload_n 0, 1) := by decide +kernel
theorem d_Tx_takesOpening_1 : decode c_Tx_takesOpening 1 = .ok (.getfield 29, 3) := by decide +kernel
theorem d_Tx_takesOpening_4 : decode c_Tx_takesOpening 4 = .ok (.iconst 4, 1) := by decide +kernel
theorem d_Tx_takesOpening_5 : decode c_Tx_takesOpening 5 = .ok (.if_icmp .ne 5, 3) := by decide +kernel
theorem d_Tx_takesOpening_8 : decode c_Tx_takesOpening 8 = .ok (.iconst 0, 1) := by decide +kernel
theorem d_Tx_takesOpening_9 : decode c_Tx_takesOpening 9 = .ok (.ireturn, 1) := by decide +kernel
theorem d_Tx_takesOpening_10 : decode c_Tx_takesOpening 10 = .ok (.aload_n 0, 1) := by decide +kernel
theorem d_Tx_takesOpening_11 : decode c_Tx_takesOpening 11 = .ok (.dup, 1) := by decide +kernel
theorem d_Tx_takesOpening_12 : decode c_Tx_takesOpening 12 = .ok (.getfield 26, 3) := by decide +kernel
theorem d_Tx_takesOpening_15 : decode c_Tx_takesOpening 15 = .ok (.iconst 1, 1) := by decide +kernel
theorem d_Tx_takesOpening_16 : decode c_Tx_takesOpening 16 = .ok (.iadd, 1) := by decide +kernel
theorem d_Tx_takesOpening_17 : decode c_Tx_takesOpening 17 = .ok (.putfield 26, 3) := by decide +kernel
theorem d_Tx_takesOpening_20 : decode c_Tx_takesOpening 20 = .ok (.aload_n 0, 1) := by decide +kernel
theorem d_Tx_takesOpening_21 : decode c_Tx_takesOpening 21 = .ok (.aload_n 0, 1) := by decide +kernel
theorem d_Tx_takesOpening_22 : decode c_Tx_takesOpening 22 = .ok (.getfield 22, 3) := by decide +kernel
theorem d_Tx_takesOpening_25 : decode c_Tx_takesOpening 25 = .ok (.getfield 35, 3) := by decide +kernel
theorem d_Tx_takesOpening_28 : decode c_Tx_takesOpening 28 = .ok (.iconst 1, 1) := by decide +kernel
theorem d_Tx_takesOpening_29 : decode c_Tx_takesOpening 29 = .ok (.isub, 1) := by decide +kernel
theorem d_Tx_takesOpening_30 : decode c_Tx_takesOpening 30 = .ok (.putfield 32, 3) := by decide +kernel
theorem d_Tx_takesOpening_33 : decode c_Tx_takesOpening 33 = .ok (.aload_n 0, 1) := by decide +kernel
theorem d_Tx_takesOpening_34 : decode c_Tx_takesOpening 34 = .ok (.iconst 0, 1) := by decide +kernel
theorem d_Tx_takesOpening_35 : decode c_Tx_takesOpening 35 = .ok (.putfield 29, 3) := by decide +kernel
theorem d_Tx_takesOpening_38 : decode c_Tx_takesOpening 38 = .ok (.iconst 1, 1) := by decide +kernel
theorem d_Tx_takesOpening_39 : decode c_Tx_takesOpening 39 = .ok (.ireturn, 1) := by decide +kernel
theorem d_Tx_takesSpace_0 : decode c_Tx_takesSpace 0 = .ok (.aload_n 0, 1) := by decide +kernel
theorem d_Tx_takesSpace_1 : decode c_Tx_takesSpace 1 = .ok (.getfield 26, 3) := by decide +kernel
theorem d_Tx_takesSpace_4 : decode c_Tx_takesSpace 4 = .ok (.ifCond .ne 5, 3) := by decide +kernel
theorem d_Tx_takesSpace_7 : decode c_Tx_takesSpace 7 = .ok (.iconst 0, 1) := by decide +kernel
theorem d_Tx_takesSpace_8 : decode c_Tx_takesSpace 8 = .ok (.ireturn, 1) := by decide +kernel
theorem d_Tx_takesSpace_9 : decode c_Tx_takesSpace 9 = .ok (.aload_n 0, 1) := by decide +kernel
theorem d_Tx_takesSpace_10 : decode c_Tx_takesSpace 10 = .ok (.iconst 0, 1) := by decide +kernel
theorem d_Tx_takesSpace_11 : decode c_Tx_takesSpace 11 = .ok (.putfield 29, 3) := by decide +kernel
theorem d_Tx_takesSpace_14 : decode c_Tx_takesSpace 14 = .ok (.iconst 1, 1) := by decide +kernel
theorem d_Tx_takesSpace_15 : decode c_Tx_takesSpace 15 = .ok (.ireturn, 1) := by decide +kernel
theorem d_Tx_takesClosing_0 : decode c_Tx_takesClosing 0 = .ok (.aload_n 0, 1) := by decide +kernel
theorem d_Tx_takesClosing_1 : decode c_Tx_takesClosing 1 = .ok (.getfield 26, 3) := by decide +kernel
theorem d_Tx_takesClosing_4 : decode c_Tx_takesClosing 4 = .ok (.ifCond .eq 10, 3) := by decide +kernel
theorem d_Tx_takesClosing_7 : decode c_Tx_takesClosing 7 = .ok (.aload_n 0, 1) := by decide +kernel
theorem d_Tx_takesClosing_8 : decode c_Tx_takesClosing 8 = .ok (.getfield 32, 3) := by decide +kernel
theorem d_Tx_takesClosing_11 : decode c_Tx_takesClosing 11 = .ok (.ifCond .ge 5, 3) := by decide +kernel
theorem d_Tx_takesClosing_14 : decode c_Tx_takesClosing 14 = .ok (.iconst 0, 1) := by decide +kernel
theorem d_Tx_takesClosing_15 : decode c_Tx_takesClosing 15 = .ok (.ireturn, 1) := by decide +kernel
theorem d_Tx_takesClosing_16 : decode c_Tx_takesClosing 16 = .ok (.aload_n 0, 1) := by decide +kernel
theorem d_Tx_takesClosing_17 : decode c_Tx_takesClosing 17 = .ok (.dup, 1) := by decide +kernel
theorem d_Tx_takesClosing_18 : decode c_Tx_takesClosing 18 = .ok (.getfield 26, 3) := by decide +kernel
theorem d_Tx_takesClosing_21 : decode c_Tx_takesClosing 21 = .ok (.iconst 1, 1) := by decide +kernel
theorem d_Tx_takesClosing_22 : decode c_Tx_takesClosing 22 = .ok (.isub, 1) := by decide +kernel
theorem d_Tx_takesClosing_23 : decode c_Tx_takesClosing 23 = .ok (.putfield 26, 3) := by decide +kernel
theorem d_Tx_takesClosing_26 : decode c_Tx_takesClosing 26 = .ok (.aload_n 0, 1) := by decide +kernel
theorem d_Tx_takesClosing_27 : decode c_Tx_takesClosing 27 = .ok (.aload_n 0, 1) := by decide +kernel
theorem d_Tx_takesClosing_28 : decode c_Tx_takesClosing 28 = .ok (.getfield 22, 3) := by decide +kernel
theorem d_Tx_takesClosing_31 : decode c_Tx_takesClosing 31 = .ok (.getfield 65, 3) := by decide +kernel
theorem d_Tx_takesClosing_34 : decode c_Tx_takesClosing 34 = .ok (.aload_n 0, 1) := by decide +kernel
theorem d_Tx_takesClosing_35 : decode c_Tx_takesClosing 35 = .ok (.getfield 32, 3) := by decide +kernel
theorem d_Tx_takesClosing_38 : decode c_Tx_takesClosing 38 = .ok (.iaload, 1) := by decide +kernel
theorem d_Tx_takesClosing_39 : decode c_Tx_takesClosing 39 = .ok (.putfield 32, 3) := by decide +kernel
theorem d_Tx_takesClosing_42 : decode c_Tx_takesClosing 42 = .ok (.aload_n 0, 1) := by decide +kernel
theorem d_Tx_takesClosing_43 : decode c_Tx_takesClosing 43 = .ok (.iconst 4, 1) := by decide +kernel
theorem d_Tx_takesClosing_44 : decode c_Tx_takesClosing 44 = .ok (.putfield 29, 3) := by decide +kernel
theorem d_Tx_takesClosing_47 : decode c_Tx_takesClosing 47 = .ok (.iconst 1, 1) := by decide +kernel
theorem d_Tx_takesClosing_48 : decode c_Tx_takesClosing 48 = .ok (.ireturn, 1) := by decide +kernel
theorem d_Tr_init_0 : decode c_Tr_init 0 = .ok (.aload_n 0, 1) := by decide +kernel
theorem d_Tr_init_1 : decode c_Tr_init 1 = .ok (.invokespecial 3, 3) := by decide +kernel
theorem d_Tr_init_4 : decode c_Tr_init 4 = .ok (.aload_n 0, 1) := by decide +kernel
theorem d_Tr_init_5 : decode c_Tr_init 5 = .ok (.bipush 24, 2) := by decide +kernel
theorem d_Tr_init_7 : decode c_Tr_init 7 = .ok (.newarray .int, 2) := by decide +kernel
theorem d_Tr_init_9 : decode c_Tr_init 9 = .ok (.putfield 9, 3) := by decide +kernel
theorem d_Tr_init_12 : decode c_Tr_init 12 = .ok (.aload_n 0, 1) := by decide +kernel
theorem d_Tr_init_13 : decode c_Tr_init 13 = .ok (.bipush 24, 2) := by decide +kernel
theorem d_Tr_init_15 : decode c_Tr_init 15 = .ok (.newarray .int, 2) := by decide +kernel
theorem d_Tr_init_17 : decode c_Tr_init 17 = .ok (.putfield 15, 3) := by decide +kernel
theorem d_Tr_init_20 : decode c_Tr_init 20 = .ok (.aload_n 0, 1) := by decide +kernel
theorem d_Tr_init_21 : decode c_Tr_init 21 = .ok (.bipush 24, 2) := by decide +kernel
theorem d_Tr_init_23 : decode c_Tr_init 23 = .ok (.newarray .int, 2) := by decide +kernel
theorem d_Tr_init_25 : decode c_Tr_init 25 = .ok (.putfield 18, 3) := by decide +kernel
theorem d_Tr_init_28 : decode c_Tr_init 28 = .ok (.aload_n 0, 1) := by decide +kernel
theorem d_Tr_init_29 : decode c_Tr_init 29 = .ok (.bipush 24, 2) := by decide +kernel
theorem d_Tr_init_31 : decode c_Tr_init 31 = .ok (.newarray .int, 2) := by decide +kernel
theorem d_Tr_init_33 : decode c_Tr_init 33 = .ok (.putfield 21, 3) := by decide +kernel
theorem d_Tr_init_36 : decode c_Tr_init 36 = .ok (.aload_n 0, 1) := by decide +kernel
theorem d_Tr_init_37 : decode c_Tr_init 37 = .ok (.bipush 24, 2) := by decide +kernel
theorem d_Tr_init_39 : decode c_Tr_init 39 = .ok (.newarray .int, 2) := by decide +kernel
theorem d_Tr_init_41 : decode c_Tr_init 41 = .ok (.putfield 24, 3) := by decide +kernel
theorem d_Tr_init_44 : decode c_Tr_init 44 = .ok (.aload_n 0, 1) := by decide +kernel
theorem d_Tr_init_45 : decode c_Tr_init 45 = .ok (.bipush 24, 2) := by decide +kernel
theorem d_Tr_init_47 : decode c_Tr_init 47 = .ok (.newarray .int, 2) := by decide +kernel
theorem d_Tr_init_49 : decode c_Tr_init 49 = .ok (.putfield 27, 3) := by decide +kernel
theorem d_Tr_init_52 : decode c_Tr_init 52 = .ok (.aload_n 0, 1) := by decide +kernel
theorem d_Tr_init_53 : decode c_Tr_init 53 = .ok (.bipush 24, 2) := by decide +kernel
theorem d_Tr_init_55 : decode c_Tr_init 55 = .ok (.newarray .int, 2) := by decide +kernel
theorem d_Tr_init_57 : decode c_Tr_init 57 = .ok (.putfield 30, 3) := by decide +kernel
theorem d_Tr_init_60 : decode c_Tr_init 60 = .ok (.aload_n 0, 1) := by decide +kernel
theorem d_Tr_init_61 : decode c_Tr_init 61 = .ok (.bipush 24, 2) := by decide +kernel
theorem d_Tr_init_63 : decode c_Tr_init 63 = .ok (.newarray .int, 2) := by decide +kernel
theorem d_Tr_init_65 : decode c_Tr_init 65 = .ok (.putfield 33, 3) := by decide +kernel
theorem d_Tr_init_68 : decode c_Tr_init 68 = .ok (.aload_n 0, 1) := by decide +kernel
theorem d_Tr_init_69 : decode c_Tr_init 69 = .ok (.bipush 24, 2) := by decide +kernel
theorem d_Tr_init_71 : decode c_Tr_init 71 = .ok (.newarray .int, 2) := by decide +kernel
theorem d_Tr_init_73 : decode c_Tr_init 73 = .ok (.putfield 36, 3) := by decide +kernel
theorem d_Tr_init_76 : decode c_Tr_init 76 = .ok (.aload_n 0, 1) := by decide +kernel
theorem d_Tr_init_77 : decode c_Tr_init 77 = .ok (.iconst 1, 1) := by decide +kernel
theorem d_Tr_init_78 : decode c_Tr_init 78 = .ok (.putfield 39, 3) := by decide +kernel
theorem d_Tr_init_81 : decode c_Tr_init 81 = .ok (.aload_n 0, 1) := by decide +kernel
theorem d_Tr_init_82 : decode c_Tr_init 82 = .ok (.getfield 18, 3) := by decide +kernel
theorem d_Tr_init_85 : decode c_Tr_init 85 = .ok (.iconst 0, 1) := by decide +kernel
theorem d_Tr_init_86 : decode c_Tr_init 86 = .ok (.iconst (-1), 1) := by decide +kernel
theorem d_Tr_init_87 : decode c_Tr_init 87 = .ok (.iastore, 1) := by decide +kernel
theorem d_Tr_init_88 : decode c_Tr_init 88 = .ok (.aload_n 0, 1) := by decide +kernel
theorem d_Tr_init_89 : decode c_Tr_init 89 = .ok (.getfield 33, 3) := by decide +kernel
theorem d_Tr_init_92 : decode c_Tr_init 92 = .ok (.iconst 0, 1) := by decide +kernel
theorem d_Tr_init_93 : decode c_Tr_init 93 = .ok (.iconst 1, 1) := by decide +kernel
theorem d_Tr_init_94 : decode c_Tr_init 94 = .ok (.iastore, 1) := by decide +kernel
theorem d_Tr_init_95 : decode c_Tr_init 95 = .ok (.return_, 1) := by decide +kernel
theorem d_Tr_copy_0 : decode c_Tr_copy 0 = .ok (.aload_n 0, 1) := by decide +kernel
theorem d_Tr_copy_1 : decode c_Tr_copy 1 = .ok (.aload_n 1, 1) := by decide +kernel
theorem d_Tr_copy_2 : decode c_Tr_copy 2 = .ok (.getfield 39, 3) := by decide +kernel
theorem d_Tr_copy_5 : decode c_Tr_copy 5 = .ok (.putfield 39, 3) := by decide +kernel
theorem d_Tr_copy_8 : decode c_Tr_copy 8 = .ok (.iconst 0, 1) := by decide +kernel
theorem d_Tr_copy_9 : decode c_Tr_copy 9 = .ok (.istore_n 2, 1) := by decide +kernel
theorem d_Tr_copy_10 : decode c_Tr_copy 10 = .ok (.iload_n 2, 1) := by decide +kernel
theorem d_Tr_copy_11 : decode c_Tr_copy 11 = .ok (.bipush 24, 2) := by decide +kernel
theorem d_Tr_copy_13 : decode c_Tr_copy 13 = .ok (.if_icmp .ge 117, 3) := by decide +kernel
theorem d_Tr_copy_16 : decode c_Tr_copy 16 = .ok (.aload_n 0, 1) := by decide +kernel
theorem d_Tr_copy_17 : decode c_Tr_copy 17 = .ok (.getfield 9, 3) := by decide +kernel
theorem d_Tr_copy_20 : decode c_Tr_copy 20 = .ok (.iload_n 2, 1) := by decide +kernel
theorem d_Tr_copy_21 : decode c_Tr_copy 21 = .ok (.aload_n 1, 1) := by decide +kernel
theorem d_Tr_copy_22 : decode c_Tr_copy 22 = .ok (.getfield 9, 3) := by decide +kernel
theorem d_Tr_copy_25 : decode c_Tr_copy 25 = .ok (.iload_n 2, 1) := by decide +kernel
theorem d_Tr_copy_26 : decode c_Tr_copy 26 = .ok (.iaload, 1) := by decide +kernel
theorem d_Tr_copy_27 : decode c_Tr_copy 27 = .ok (.iastore, 1) := by decide +kernel
theorem d_Tr_copy_28 : decode c_Tr_copy 28 = .ok (.aload_n 0, 1) := by decide +kernel
theorem d_Tr_copy_29 : decode c_Tr_copy 29 = .ok (.getfield 15, 3) := by decide +kernel
theorem d_Tr_copy_32 : decode c_Tr_copy 32 = .ok (.iload_n 2, 1) := by decide +kernel
theorem d_Tr_copy_33 : decode c_Tr_copy 33 = .ok (.aload_n 1, 1) := by decide +kernel
theorem d_Tr_copy_34 : decode c_Tr_copy 34 = .ok (.getfield 15, 3) := by decide +kernel
theorem d_Tr_copy_37 : decode c_Tr_copy 37 = .ok (.iload_n 2, 1) := by decide +kernel
theorem d_Tr_copy_38 : decode c_Tr_copy 38 = .ok (.iaload, 1) := by decide +kernel
theorem d_Tr_copy_39 : decode c_Tr_copy 39 = .ok (.iastore, 1) := by decide +kernel
theorem d_Tr_copy_40 : decode c_Tr_copy 40 = .ok (.aload_n 0, 1) := by decide +kernel
theorem d_Tr_copy_41 : decode c_Tr_copy 41 = .ok (.getfield 18, 3) := by decide +kernel
theorem d_Tr_copy_44 : decode c_Tr_copy 44 = .ok (.iload_n 2, 1) := by decide +kernel
theorem d_Tr_copy_45 : decode c_Tr_copy 45 = .ok (.aload_n 1, 1) := by decide +kernel
theorem d_Tr_copy_46 : decode c_Tr_copy 46 = .ok (.getfield 18, 3) := by decide +kernel
theorem d_Tr_copy_49 : decode c_Tr_copy 49 = .ok (.iload_n 2, 1) := by decide +kernel
theorem d_Tr_copy_50 : decode c_Tr_copy 50 = .ok (.iaload, 1) := by decide +kernel
theorem d_Tr_copy_51 : decode c_Tr_copy 51 = .ok (.iastore, 1) := by decide +kernel
theorem d_Tr_copy_52 : decode c_Tr_copy 52 = .ok (.aload_n 0, 1) := by decide +kernel
theorem d_Tr_copy_53 : decode c_Tr_copy 53 = .ok (.getfield 21, 3) := by decide +kernel
theorem d_Tr_copy_56 : decode c_Tr_copy 56 = .ok (.iload_n 2, 1) := by decide +kernel
theorem d_Tr_copy_57 : decode c_Tr_copy 57 = .ok (.aload_n 1, 1) := by decide +kernel
theorem d_Tr_copy_58 : decode c_Tr_copy 58 = .ok (.getfield 21, 3) := by decide +kernel
theorem d_Tr_copy_61 : decode c_Tr_copy 61 = .ok (.iload_n 2, 1) := by decide +kernel
theorem d_Tr_copy_62 : decode c_Tr_copy 62 = .ok (.iaload, 1) := by decide +kernel
theorem d_Tr_copy_63 : decode c_Tr_copy 63 = .ok (.iastore, 1) := by decide +kernel
theorem d_Tr_copy_64 : decode c_Tr_copy 64 = .ok (.aload_n 0, 1) := by decide +kernel
theorem d_Tr_copy_65 : decode c_Tr_copy 65 = .ok (.getfield 24, 3) := by decide +kernel
theorem d_Tr_copy_68 : decode c_Tr_copy 68 = .ok (.iload_n 2, 1) := by decide +kernel
theorem d_Tr_copy_69 : decode c_Tr_copy 69 = .ok (.aload_n 1, 1) := by decide +kernel
theorem d_Tr_copy_70 : decode c_Tr_copy 70 = .ok (.getfield 24, 3) := by decide +kernel
theorem d_Tr_copy_73 : decode c_Tr_copy 73 = .ok (.iload_n 2, 1) := by decide +kernel
theorem d_Tr_copy_74 : decode c_Tr_copy 74 = .ok (.iaload, 1) := by decide +kernel
theorem d_Tr_copy_75 : decode c_Tr_copy 75 = .ok (.iastore, 1) := by decide +kernel
theorem d_Tr_copy_76 : decode c_Tr_copy 76 = .ok (.aload_n 0, 1) := by decide +kernel
theorem d_Tr_copy_77 : decode c_Tr_copy 77 = .ok (.getfield 27, 3) := by decide +kernel
theorem d_Tr_copy_80 : decode c_Tr_copy 80 = .ok (.iload_n 2, 1) := by decide +kernel
theorem d_Tr_copy_81 : decode c_Tr_copy 81 = .ok (.aload_n 1, 1) := by decide +kernel
theorem d_Tr_copy_82 : decode c_Tr_copy 82 = .ok (.getfield 27, 3) := by decide +kernel
theorem d_Tr_copy_85 : decode c_Tr_copy 85 = .ok (.iload_n 2, 1) := by decide +kernel
theorem d_Tr_copy_86 : decode c_Tr_copy 86 = .ok (.iaload, 1) := by decide +kernel
theorem d_Tr_copy_87 : decode c_Tr_copy 87 = .ok (.iastore, 1) := by decide +kernel
theorem d_Tr_copy_88 : decode c_Tr_copy 88 = .ok (.aload_n 0, 1) := by decide +kernel
theorem d_Tr_copy_89 : decode c_Tr_copy 89 = .ok (.getfield 30, 3) := by decide +kernel
theorem d_Tr_copy_92 : decode c_Tr_copy 92 = .ok (.iload_n 2, 1) := by decide +kernel
theorem d_Tr_copy_93 : decode c_Tr_copy 93 = .ok (.aload_n 1, 1) := by decide +kernel
theorem d_Tr_copy_94 : decode c_Tr_copy 94 = .ok (.getfield 30, 3) := by decide +kernel
theorem d_Tr_copy_97 : decode c_Tr_copy 97 = .ok (.iload_n 2, 1) := by decide +kernel
theorem d_Tr_copy_98 : decode c_Tr_copy 98 = .ok (.iaload, 1) := by decide +kernel
theorem d_Tr_copy_99 : decode c_Tr_copy 99 = .ok (.iastore, 1) := by decide +kernel
theorem d_Tr_copy_100 : decode c_Tr_copy 100 = .ok (.aload_n 0, 1) := by decide +kernel
theorem d_Tr_copy_101 : decode c_Tr_copy 101 = .ok (.getfield 33, 3) := by decide +kernel
theorem d_Tr_copy_104 : decode c_Tr_copy 104 = .ok (.iload_n 2, 1) := by decide +kernel
theorem d_Tr_copy_105 : decode c_Tr_copy 105 = .ok (.aload_n 1, 1) := by decide +kernel
theorem d_Tr_copy_106 : decode c_Tr_copy 106 = .ok (.getfield 33, 3) := by decide +kernel
theorem d_Tr_copy_109 : decode c_Tr_copy 109 = .ok (.iload_n 2, 1) := by decide +kernel
theorem d_Tr_copy_110 : decode c_Tr_copy 110 = .ok (.iaload, 1) := by decide +kernel
theorem d_Tr_copy_111 : decode c_Tr_copy 111 = .ok (.iastore, 1) := by decide +kernel
theorem d_Tr_copy_112 : decode c_Tr_copy 112 = .ok (.aload_n 0, 1) := by decide +kernel
theorem d_Tr_copy_113 : decode c_Tr_copy 113 = .ok (.getfield 36, 3) := by decide +kernel
theorem d_Tr_copy_116 : decode c_Tr_copy 116 = .ok (.iload_n 2, 1) := by decide +kernel
theorem d_Tr_copy_117 : decode c_Tr_copy 117 = .ok (.aload_n 1, 1) := by decide +kernel
theorem d_Tr_copy_118 : decode c_Tr_copy 118 = .ok (.getfield 36, 3) := by decide +kernel
theorem d_Tr_copy_121 : decode c_Tr_copy 121 = .ok (.iload_n 2, 1) := by decide +kernel
theorem d_Tr_copy_122 : decode c_Tr_copy 122 = .ok (.iaload, 1) := by decide +kernel
theorem d_Tr_copy_123 : decode c_Tr_copy 123 = .ok (.iastore, 1) := by decide +kernel
theorem d_Tr_copy_124 : decode c_Tr_copy 124 = .ok (.iinc 2 1, 3) := by decide +kernel
theorem d_Tr_copy_127 : decode c_Tr_copy 127 = .ok (.goto (-117), 3) := by decide +kernel
theorem d_Tr_copy_130 : decode c_Tr_copy 130 = .ok (.return_, 1) := by decide +kernel
theorem d_Tr_add_0 : decode c_Tr_add 0 = .ok (.aload_n 0, 1) := by decide +kernel
theorem d_Tr_add_1 : decode c_Tr_add 1 = .ok (.getfield 39, 3) := by decide +kernel
theorem d_Tr_add_4 : decode c_Tr_add 4 = .ok (.bipush 24, 2) := by decide +kernel
theorem d_Tr_add_6 : decode c_Tr_add 6 = .ok (.if_icmp .lt 5, 3) := by decide +kernel
theorem d_Tr_add_9 : decode c_Tr_add 9 = .ok (.iconst 0, 1) := by decide +kernel
theorem d_Tr_add_10 : decode c_Tr_add 10 = .ok (.ireturn, 1) := by decide +kernel
theorem d_Tr_add_11 : decode c_Tr_add 11 = .ok (.aload_n 0, 1) := by decide +kernel
theorem d_Tr_add_12 : decode c_Tr_add 12 = .ok (.getfield 9, 3) := by decide +kernel
theorem d_Tr_add_15 : decode c_Tr_add 15 = .ok (.aload_n 0, 1) := by decide +kernel
theorem d_Tr_add_16 : decode c_Tr_add 16 = .ok (.getfield 39, 3) := by decide +kernel
theorem d_Tr_add_19 : decode c_Tr_add 19 = .ok (.iload_n 1, 1) := by decide +kernel
theorem d_Tr_add_20 : decode c_Tr_add 20 = .ok (.iastore, 1) := by decide +kernel
theorem d_Tr_add_21 : decode c_Tr_add 21 = .ok (.aload_n 0, 1) := by decide +kernel
theorem d_Tr_add_22 : decode c_Tr_add 22 = .ok (.getfield 15, 3) := by decide +kernel
theorem d_Tr_add_25 : decode c_Tr_add 25 = .ok (.aload_n 0, 1) := by decide +kernel
theorem d_Tr_add_26 : decode c_Tr_add 26 = .ok (.getfield 39, 3) := by decide +kernel
theorem d_Tr_add_29 : decode c_Tr_add 29 = .ok (.iconst 0, 1) := by decide +kernel
theorem d_Tr_add_30 : decode c_Tr_add 30 = .ok (.iastore, 1) := by decide +kernel
theorem d_Tr_add_31 : decode c_Tr_add 31 = .ok (.aload_n 0, 1) := by decide +kernel
theorem d_Tr_add_32 : decode c_Tr_add 32 = .ok (.getfield 18, 3) := by decide +kernel
theorem d_Tr_add_35 : decode c_Tr_add 35 = .ok (.aload_n 0, 1) := by decide +kernel
theorem d_Tr_add_36 : decode c_Tr_add 36 = .ok (.getfield 39, 3) := by decide +kernel
theorem d_Tr_add_39 : decode c_Tr_add 39 = .ok (.iload_n 2, 1) := by decide +kernel
theorem d_Tr_add_40 : decode c_Tr_add 40 = .ok (.iastore, 1) := by decide +kernel
theorem d_Tr_add_41 : decode c_Tr_add 41 = .ok (.aload_n 0, 1) := by decide +kernel
theorem d_Tr_add_42 : decode c_Tr_add 42 = .ok (.dup, 1) := by decide +kernel
theorem d_Tr_add_43 : decode c_Tr_add 43 = .ok (.getfield 39, 3) := by decide +kernel
theorem d_Tr_add_46 : decode c_Tr_add 46 = .ok (.iconst 1, 1) := by decide +kernel
theorem d_Tr_add_47 : decode c_Tr_add 47 = .ok (.iadd, 1) := by decide +kernel
theorem d_Tr_add_48 : decode c_Tr_add 48 = .ok (.putfield 39, 3) := by decide +kernel
theorem d_Tr_add_51 : decode c_Tr_add 51 = .ok (.iconst 1, 1) := by decide +kernel
theorem d_Tr_add_52 : decode c_Tr_add 52 = .ok (.ireturn, 1) := by decide +kernel
theorem d_Tr_complete_0 : decode c_Tr_complete 0 = .ok (.iconst 0, 1) := by decide +kernel
theorem d_Tr_complete_1 : decode c_Tr_complete 1 = .ok (.istore_n 1, 1) := by decide +kernel
theorem d_Tr_complete_2 : decode c_Tr_complete 2 = .ok (.iload_n 1, 1) := by decide +kernel
theorem d_Tr_complete_3 : decode c_Tr_complete 3 = .ok (.aload_n 0, 1) := by decide +kernel
theorem d_Tr_complete_4 : decode c_Tr_complete 4 = .ok (.getfield 39, 3) := by decide +kernel
theorem d_Tr_complete_7 : decode c_Tr_complete 7 = .ok (.if_icmp .ge 93, 3) := by decide +kernel
theorem d_Tr_complete_10 : decode c_Tr_complete 10 = .ok (.aload_n 0, 1) := by decide +kernel
theorem d_Tr_complete_11 : decode c_Tr_complete 11 = .ok (.getfield 27, 3) := by decide +kernel
theorem d_Tr_complete_14 : decode c_Tr_complete 14 = .ok (.iload_n 1, 1) := by decide +kernel
theorem d_Tr_complete_15 : decode c_Tr_complete 15 = .ok (.iconst 0, 1) := by decide +kernel
theorem d_Tr_complete_16 : decode c_Tr_complete 16 = .ok (.iastore, 1) := by decide +kernel
theorem d_Tr_complete_17 : decode c_Tr_complete 17 = .ok (.aload_n 0, 1) := by decide +kernel
theorem d_Tr_complete_18 : decode c_Tr_complete 18 = .ok (.getfield 30, 3) := by decide +kernel
theorem d_Tr_complete_21 : decode c_Tr_complete 21 = .ok (.iload_n 1, 1) := by decide +kernel
theorem d_Tr_complete_22 : decode c_Tr_complete 22 = .ok (.iconst 0, 1) := by decide +kernel
theorem d_Tr_complete_23 : decode c_Tr_complete 23 = .ok (.iastore, 1) := by decide +kernel
theorem d_Tr_complete_24 : decode c_Tr_complete 24 = .ok (.aload_n 0, 1) := by decide +kernel
theorem d_Tr_complete_25 : decode c_Tr_complete 25 = .ok (.getfield 33, 3) := by decide +kernel
theorem d_Tr_complete_28 : decode c_Tr_complete 28 = .ok (.iload_n 1, 1) := by decide +kernel
theorem d_Tr_complete_29 : decode c_Tr_complete 29 = .ok (.iconst 1, 1) := by decide +kernel
theorem d_Tr_complete_30 : decode c_Tr_complete 30 = .ok (.iastore, 1) := by decide +kernel
theorem d_Tr_complete_31 : decode c_Tr_complete 31 = .ok (.aload_n 0, 1) := by decide +kernel
theorem d_Tr_complete_32 : decode c_Tr_complete 32 = .ok (.getfield 18, 3) := by decide +kernel
theorem d_Tr_complete_35 : decode c_Tr_complete 35 = .ok (.iload_n 1, 1) := by decide +kernel
theorem d_Tr_complete_36 : decode c_Tr_complete 36 = .ok (.iaload, 1) := by decide +kernel
theorem d_Tr_complete_37 : decode c_Tr_complete 37 = .ok (.istore_n 2, 1) := by decide +kernel
theorem d_Tr_complete_38 : decode c_Tr_complete 38 = .ok (.aload_n 0, 1) := by decide +kernel
theorem d_Tr_complete_39 : decode c_Tr_complete 39 = .ok (.getfield 21, 3) := by decide +kernel
theorem d_Tr_complete_42 : decode c_Tr_complete 42 = .ok (.iload_n 1, 1) := by decide +kernel
theorem d_Tr_complete_43 : decode c_Tr_complete 43 = .ok (.iload_n 2, 1) := by decide +kernel
theorem d_Tr_complete_44 : decode c_Tr_complete 44 = .ok (.ifCond .ge 7, 3) := by decide +kernel
theorem d_Tr_complete_47 : decode c_Tr_complete 47 = .ok (.iconst 0, 1) := by decide +kernel
theorem d_Tr_complete_48 : decode c_Tr_complete 48 = .ok (.goto 9, 3) := by decide +kernel
theorem d_Tr_complete_51 : decode c_Tr_complete 51 = .ok (.aload_n 0, 1) := by decide +kernel
theorem d_Tr_complete_52 : decode c_Tr_complete 52 = .ok (.getfield 27, 3) := by decide +kernel
theorem d_Tr_complete_55 : decode c_Tr_complete 55 = .ok (.iload_n 2, 1) := by decide +kernel
theorem d_Tr_complete_56 : decode c_Tr_complete 56 = .ok (.iaload, 1) := by decide +kernel
theorem d_Tr_complete_57 : decode c_Tr_complete 57 = .ok (.iastore, 1) := by decide +kernel
theorem d_Tr_complete_58 : decode c_Tr_complete 58 = .ok (.aload_n 0, 1) := by decide +kernel
theorem d_Tr_complete_59 : decode c_Tr_complete 59 = .ok (.getfield 24, 3) := by decide +kernel
theorem d_Tr_complete_62 : decode c_Tr_complete 62 = .ok (.iload_n 1, 1) := by decide +kernel
theorem d_Tr_complete_63 : decode c_Tr_complete 63 = .ok (.iload_n 2, 1) := by decide +kernel
theorem d_Tr_complete_64 : decode c_Tr_complete 64 = .ok (.ifCond .ge 7, 3) := by decide +kernel
theorem d_Tr_complete_67 : decode c_Tr_complete 67 = .ok (.iconst 0, 1) := by decide +kernel
theorem d_Tr_complete_68 : decode c_Tr_complete 68 = .ok (.goto 11, 3) := by decide +kernel
theorem d_Tr_complete_71 : decode c_Tr_complete 71 = .ok (.aload_n 0, 1) := by decide +kernel
theorem d_Tr_complete_72 : decode c_Tr_complete 72 = .ok (.getfield 24, 3) := by decide +kernel
theorem d_Tr_complete_75 : decode c_Tr_complete 75 = .ok (.iload_n 2, 1) := by decide +kernel
theorem d_Tr_complete_76 : decode c_Tr_complete 76 = .ok (.iaload, 1) := by decide +kernel
theorem d_Tr_complete_77 : decode c_Tr_complete 77 = .ok (.iconst 1, 1) := by decide +kernel
theorem d_Tr_complete_78 : decode c_Tr_complete 78 = .ok (.iadd, 1) := by decide +kernel
theorem d_Tr_complete_79 : decode c_Tr_complete 79 = .ok (.iastore, 1) := by decide +kernel
theorem d_Tr_complete_80 : decode c_Tr_complete 80 = .ok (.iload_n 2, 1) := by decide +kernel
theorem d_Tr_complete_81 : decode c_Tr_complete 81 = .ok (.ifCond .lt 13, 3) := by decide +kernel
theorem d_Tr_complete_84 : decode c_Tr_complete 84 = .ok (.aload_n 0, 1) := by decide +kernel
theorem d_Tr_complete_85 : decode c_Tr_complete 85 = .ok (.getfield 27, 3) := by decide +kernel
theorem d_Tr_complete_88 : decode c_Tr_complete 88 = .ok (.iload_n 2, 1) := by decide +kernel
theorem d_Tr_complete_89 : decode c_Tr_complete 89 = .ok (.dup2, 1) := by decide +kernel
theorem d_Tr_complete_90 : decode c_Tr_complete 90 = .ok (.iaload, 1) := by decide +kernel
theorem d_Tr_complete_91 : decode c_Tr_complete 91 = .ok (.iconst 1, 1) := by decide +kernel
theorem d_Tr_complete_92 : decode c_Tr_complete 92 = .ok (.iadd, 1) := by decide +kernel
theorem d_Tr_complete_93 : decode c_Tr_complete 93 = .ok (.iastore, 1) := by decide +kernel
theorem d_Tr_complete_94 : decode c_Tr_complete 94 = .ok (.iinc 1 1, 3) := by decide +kernel
theorem d_Tr_complete_97 : decode c_Tr_complete 97 = .ok (.goto (-95), 3) := by decide +kernel
theorem d_Tr_complete_100 : decode c_Tr_complete 100 = .ok (.aload_n 0, 1) := by decide +kernel
theorem d_Tr_complete_101 : decode c_Tr_complete 101 = .ok (.getfield 39, 3) := by decide +kernel
theorem d_Tr_complete_104 : decode c_Tr_complete 104 = .ok (.iconst 1, 1) := by decide +kernel
theorem d_Tr_complete_105 : decode c_Tr_complete 105 = .ok (.isub, 1) := by decide +kernel
theorem d_Tr_complete_106 : decode c_Tr_complete 106 = .ok (.istore_n 1, 1) := by decide +kernel
theorem d_Tr_complete_107 : decode c_Tr_complete 107 = .ok (.iload_n 1, 1) := by decide +kernel
theorem d_Tr_complete_108 : decode c_Tr_complete 108 = .ok (.ifCond .lt 60, 3) := by decide +kernel
theorem d_Tr_complete_111 : decode c_Tr_complete 111 = .ok (.aload_n 0, 1) := by decide +kernel
theorem d_Tr_complete_112 : decode c_Tr_complete 112 = .ok (.getfield 18, 3) := by decide +kernel
theorem d_Tr_complete_115 : decode c_Tr_complete 115 = .ok (.iload_n 1, 1) := by decide +kernel
theorem d_Tr_complete_116 : decode c_Tr_complete 116 = .ok (.iaload, 1) := by decide +kernel
theorem d_Tr_complete_117 : decode c_Tr_complete 117 = .ok (.istore_n 2, 1) := by decide +kernel
theorem d_Tr_complete_118 : decode c_Tr_complete 118 = .ok (.iload_n 2, 1) := by decide +kernel
theorem d_Tr_complete_119 : decode c_Tr_complete 119 = .ok (.ifCond .lt 43, 3) := by decide +kernel
theorem d_Tr_complete_122 : decode c_Tr_complete 122 = .ok (.aload_n 0, 1) := by decide +kernel
theorem d_Tr_complete_123 : decode c_Tr_complete 123 = .ok (.getfield 30, 3) := by decide +kernel
theorem d_Tr_complete_126 : decode c_Tr_complete 126 = .ok (.iload_n 2, 1) := by decide +kernel
theorem d_Tr_complete_127 : decode c_Tr_complete 127 = .ok (.dup2, 1) := by decide +kernel
theorem d_Tr_complete_128 : decode c_Tr_complete 128 = .ok (.iaload, 1) := by decide +kernel
theorem d_Tr_complete_129 : decode c_Tr_complete 129 = .ok (.aload_n 0, 1) := by decide +kernel
theorem d_Tr_complete_130 : decode c_Tr_complete 130 = .ok (.getfield 30, 3) := by decide +kernel
theorem d_Tr_complete_133 : decode c_Tr_complete 133 = .ok (.iload_n 1, 1) := by decide +kernel
theorem d_Tr_complete_134 : decode c_Tr_complete 134 = .ok (.iaload, 1) := by decide +kernel
theorem d_Tr_complete_135 : decode c_Tr_complete 135 = .ok (.iconst 1, 1) := by decide +kernel
theorem d_Tr_complete_136 : decode c_Tr_complete 136 = .ok (.iadd, 1) := by decide +kernel
theorem d_Tr_complete_137 : decode c_Tr_complete 137 = .ok (.iadd, 1) := by decide +kernel
theorem d_Tr_complete_138 : decode c_Tr_complete 138 = .ok (.iastore, 1) := by decide +kernel
theorem d_Tr_complete_139 : decode c_Tr_complete 139 = .ok (.aload_n 0, 1) := by decide +kernel
theorem d_Tr_complete_140 : decode c_Tr_complete 140 = .ok (.getfield 33, 3) := by decide +kernel
theorem d_Tr_complete_143 : decode c_Tr_complete 143 = .ok (.iload_n 2, 1) := by decide +kernel
theorem d_Tr_complete_144 : decode c_Tr_complete 144 = .ok (.aload_n 0, 1) := by decide +kernel
theorem d_Tr_complete_145 : decode c_Tr_complete 145 = .ok (.getfield 33, 3) := by decide +kernel
theorem d_Tr_complete_148 : decode c_Tr_complete 148 = .ok (.iload_n 2, 1) := by decide +kernel
theorem d_Tr_complete_149 : decode c_Tr_complete 149 = .ok (.iaload, 1) := by decide +kernel
theorem d_Tr_complete_150 : decode c_Tr_complete 150 = .ok (.aload_n 0, 1) := by decide +kernel
theorem d_Tr_complete_151 : decode c_Tr_complete 151 = .ok (.getfield 33, 3) := by decide +kernel
theorem d_Tr_complete_154 : decode c_Tr_complete 154 = .ok (.iload_n 1, 1) := by decide +kernel
theorem d_Tr_complete_155 : decode c_Tr_complete 155 = .ok (.iaload, 1) := by decide +kernel
theorem d_Tr_complete_156 : decode c_Tr_complete 156 = .ok (.iconst 1, 1) := by decide +kernel
theorem d_Tr_complete_157 : decode c_Tr_complete 157 = .ok (.iadd, 1) := by decide +kernel
theorem d_Tr_complete_158 : decode c_Tr_complete 158 = .ok (.invokestatic 43, 3) := by decide +kernel
theorem d_Tr_complete_161 : decode c_Tr_complete 161 = .ok (.iastore, 1) := by decide +kernel
theorem d_Tr_complete_162 : decode c_Tr_complete 162 = .ok (.iinc 1 (-1), 3) := by decide +kernel
theorem d_Tr_complete_165 : decode c_Tr_complete 165 = .ok (.goto (-58), 3) := by decide +kernel
theorem d_Tr_complete_168 : decode c_Tr_complete 168 = .ok (.aload_n 0, 1) := by decide +kernel
theorem d_Tr_complete_169 : decode c_Tr_complete 169 = .ok (.invokevirtual 49, 3) := by decide +kernel
theorem d_Tr_complete_172 : decode c_Tr_complete 172 = .ok (.return_, 1) := by decide +kernel
theorem d_Tr_sortInPostorder_0 : decode c_Tr_sortInPostorder 0 = .ok (.iconst 0, 1) := by decide +kernel
theorem d_Tr_sortInPostorder_1 : decode c_Tr_sortInPostorder 1 = .ok (.istore_n 1, 1) := by decide +kernel
theorem d_Tr_sortInPostorder_2 : decode c_Tr_sortInPostorder 2 = .ok (.iload_n 1, 1) := by decide +kernel
theorem d_Tr_sortInPostorder_3 : decode c_Tr_sortInPostorder 3 = .ok (.aload_n 0, 1) := by decide +kernel
theorem d_Tr_sortInPostorder_4 : decode c_Tr_sortInPostorder 4 = .ok (.getfield 39, 3) := by decide +kernel
theorem d_Tr_sortInPostorder_7 : decode c_Tr_sortInPostorder 7 = .ok (.if_icmp .ge 30, 3) := by decide +kernel
theorem d_Tr_sortInPostorder_10 : decode c_Tr_sortInPostorder 10 = .ok (.aload_n 0, 1) := by decide +kernel
theorem d_Tr_sortInPostorder_11 : decode c_Tr_sortInPostorder 11 = .ok (.getfield 36, 3) := by decide +kernel
theorem d_Tr_sortInPostorder_14 : decode c_Tr_sortInPostorder 14 = .ok (.iload_n 1, 1) := by decide +kernel
theorem d_Tr_sortInPostorder_15 : decode c_Tr_sortInPostorder 15 = .ok (.aload_n 0, 1) := by decide +kernel
theorem d_Tr_sortInPostorder_16 : decode c_Tr_sortInPostorder 16 = .ok (.getfield 24, 3) := by decide +kernel
theorem d_Tr_sortInPostorder_19 : decode c_Tr_sortInPostorder 19 = .ok (.iload_n 1, 1) := by decide +kernel
theorem d_Tr_sortInPostorder_20 : decode c_Tr_sortInPostorder 20 = .ok (.iaload, 1) := by decide +kernel
theorem d_Tr_sortInPostorder_21 : decode c_Tr_sortInPostorder 21 = .ok (.isub, 1) := by decide +kernel
theorem d_Tr_sortInPostorder_22 : decode c_Tr_sortInPostorder 22 = .ok (.aload_n 0, 1) := by decide +kernel
theorem d_Tr_sortInPostorder_23 : decode c_Tr_sortInPostorder 23 = .ok (.getfield 30, 3) := by decide +kernel
theorem d_Tr_sortInPostorder_26 : decode c_Tr_sortInPostorder 26 = .ok (.iload_n 1, 1) := by decide +kernel
theorem d_Tr_sortInPostorder_27 : decode c_Tr_sortInPostorder 27 = .ok (.iaload, 1) := by decide +kernel
theorem d_Tr_sortInPostorder_28 : decode c_Tr_sortInPostorder 28 = .ok (.iadd, 1) := by decide +kernel
theorem d_Tr_sortInPostorder_29 : decode c_Tr_sortInPostorder 29 = .ok (.iload_n 1, 1) := by decide +kernel
theorem d_Tr_sortInPostorder_30 : decode c_Tr_sortInPostorder 30 = .ok (.iastore, 1) := by decide +kernel
theorem d_Tr_sortInPostorder_31 : decode c_Tr_sortInPostorder 31 = .ok (.iinc 1 1, 3) := by decide +kernel
theorem d_Tr_sortInPostorder_34 : decode c_Tr_sortInPostorder 34 = .ok (.goto (-32), 3) := by decide +kernel
theorem d_Tr_sortInPostorder_37 : decode c_Tr_sortInPostorder 37 = .ok (.return_, 1) := by decide +kernel
theorem d_Tr_endOf_0 : decode c_Tr_endOf 0 = .ok (.iload_n 1, 1) := by decide +kernel
theorem d_Tr_endOf_1 : decode c_Tr_endOf 1 = .ok (.ifCond .ge 10, 3) := by decide +kernel
theorem d_Tr_endOf_4 : decode c_Tr_endOf 4 = .ok (.aload_n 0, 1) := by decide +kernel
theorem d_Tr_endOf_5 : decode c_Tr_endOf 5 = .ok (.getfield 39, 3) := by decide +kernel
theorem d_Tr_endOf_8 : decode c_Tr_endOf 8 = .ok (.goto 13, 3) := by decide +kernel
theorem d_Tr_endOf_11 : decode c_Tr_endOf 11 = .ok (.iload_n 1, 1) := by decide +kernel
theorem d_Tr_endOf_12 : decode c_Tr_endOf 12 = .ok (.iconst 1, 1) := by decide +kernel
theorem d_Tr_endOf_13 : decode c_Tr_endOf 13 = .ok (.iadd, 1) := by decide +kernel
theorem d_Tr_endOf_14 : decode c_Tr_endOf 14 = .ok (.aload_n 0, 1) := by decide +kernel
theorem d_Tr_endOf_15 : decode c_Tr_endOf 15 = .ok (.getfield 30, 3) := by decide +kernel
theorem d_Tr_endOf_18 : decode c_Tr_endOf 18 = .ok (.iload_n 1, 1) := by decide +kernel
theorem d_Tr_endOf_19 : decode c_Tr_endOf 19 = .ok (.iaload, 1) := by decide +kernel
theorem d_Tr_endOf_20 : decode c_Tr_endOf 20 = .ok (.iadd, 1) := by decide +kernel
theorem d_Tr_endOf_21 : decode c_Tr_endOf 21 = .ok (.ireturn, 1) := by decide +kernel
theorem d_Tr_childAt_0 : decode c_Tr_childAt 0 = .ok (.aload_n 0, 1) := by decide +kernel
theorem d_Tr_childAt_1 : decode c_Tr_childAt 1 = .ok (.iload_n 1, 1) := by decide +kernel
theorem d_Tr_childAt_2 : decode c_Tr_childAt 2 = .ok (.invokevirtual 52, 3) := by decide +kernel
theorem d_Tr_childAt_5 : decode c_Tr_childAt 5 = .ok (.istore_n 3, 1) := by decide +kernel
theorem d_Tr_childAt_6 : decode c_Tr_childAt 6 = .ok (.iload_n 1, 1) := by decide +kernel
theorem d_Tr_childAt_7 : decode c_Tr_childAt 7 = .ok (.iconst 1, 1) := by decide +kernel
theorem d_Tr_childAt_8 : decode c_Tr_childAt 8 = .ok (.iadd, 1) := by decide +kernel
theorem d_Tr_childAt_9 : decode c_Tr_childAt 9 = .ok (.istore 4, 2) := by decide +kernel
theorem d_Tr_childAt_11 : decode c_Tr_childAt 11 = .ok (.iload 4, 2) := by decide +kernel
theorem d_Tr_childAt_13 : decode c_Tr_childAt 13 = .ok (.iload_n 3, 1) := by decide +kernel
theorem d_Tr_childAt_14 : decode c_Tr_childAt 14 = .ok (.if_icmp .ge 34, 3) := by decide +kernel
theorem d_Tr_childAt_17 : decode c_Tr_childAt 17 = .ok (.aload_n 0, 1) := by decide +kernel
theorem d_Tr_childAt_18 : decode c_Tr_childAt 18 = .ok (.getfield 18, 3) := by decide +kernel
theorem d_Tr_childAt_21 : decode c_Tr_childAt 21 = .ok (.iload 4, 2) := by decide +kernel
theorem d_Tr_childAt_23 : decode c_Tr_childAt 23 = .ok (.iaload, 1) := by decide +kernel
theorem d_Tr_childAt_24 : decode c_Tr_childAt 24 = .ok (.iload_n 1, 1) := by decide +kernel
theorem d_Tr_childAt_25 : decode c_Tr_childAt 25 = .ok (.if_icmp .ne 17, 3) := by decide +kernel
theorem d_Tr_childAt_28 : decode c_Tr_childAt 28 = .ok (.aload_n 0, 1) := by decide +kernel
theorem d_Tr_childAt_29 : decode c_Tr_childAt 29 = .ok (.getfield 21, 3) := by decide +kernel
theorem d_Tr_childAt_32 : decode c_Tr_childAt 32 = .ok (.iload 4, 2) := by decide +kernel
theorem d_Tr_childAt_34 : decode c_Tr_childAt 34 = .ok (.iaload, 1) := by decide +kernel
theorem d_Tr_childAt_35 : decode c_Tr_childAt 35 = .ok (.iload_n 2, 1) := by decide +kernel
theorem d_Tr_childAt_36 : decode c_Tr_childAt 36 = .ok (.if_icmp .ne 6, 3) := by decide +kernel
theorem d_Tr_childAt_39 : decode c_Tr_childAt 39 = .ok (.iload 4, 2) := by decide +kernel
theorem d_Tr_childAt_41 : decode c_Tr_childAt 41 = .ok (.ireturn, 1) := by decide +kernel
theorem d_Tr_childAt_42 : decode c_Tr_childAt 42 = .ok (.iinc 4 1, 3) := by decide +kernel
theorem d_Tr_childAt_45 : decode c_Tr_childAt 45 = .ok (.goto (-34), 3) := by decide +kernel
theorem d_Tr_childAt_48 : decode c_Tr_childAt 48 = .ok (.bipush (-15), 2) := by decide +kernel
theorem d_Tr_childAt_50 : decode c_Tr_childAt 50 = .ok (.ireturn, 1) := by decide +kernel
theorem d_Wt_init_0 : decode c_Wt_init 0 = .ok (.aload_n 0, 1) := by decide +kernel
theorem d_Wt_init_1 : decode c_Wt_init 1 = .ok (.invokespecial 3, 3) := by decide +kernel
theorem d_Wt_init_4 : decode c_Wt_init 4 = .ok (.aload_n 0, 1) := by decide +kernel
theorem d_Wt_init_5 : decode c_Wt_init 5 = .ok (.bipush 49, 2) := by decide +kernel
theorem d_Wt_init_7 : decode c_Wt_init 7 = .ok (.newarray .int, 2) := by decide +kernel
theorem d_Wt_init_9 : decode c_Wt_init 9 = .ok (.putfield 9, 3) := by decide +kernel
theorem d_Wt_init_12 : decode c_Wt_init 12 = .ok (.aload_n 0, 1) := by decide +kernel
theorem d_Wt_init_13 : decode c_Wt_init 13 = .ok (.bipush 49, 2) := by decide +kernel
theorem d_Wt_init_15 : decode c_Wt_init 15 = .ok (.newarray .int, 2) := by decide +kernel
theorem d_Wt_init_17 : decode c_Wt_init 17 = .ok (.putfield 15, 3) := by decide +kernel
theorem d_Wt_init_20 : decode c_Wt_init 20 = .ok (.aload_n 0, 1) := by decide +kernel
theorem d_Wt_init_21 : decode c_Wt_init 21 = .ok (.bipush 49, 2) := by decide +kernel
theorem d_Wt_init_23 : decode c_Wt_init 23 = .ok (.newarray .int, 2) := by decide +kernel
theorem d_Wt_init_25 : decode c_Wt_init 25 = .ok (.putfield 18, 3) := by decide +kernel
theorem d_Wt_init_28 : decode c_Wt_init 28 = .ok (.aload_n 0, 1) := by decide +kernel
theorem d_Wt_init_29 : decode c_Wt_init 29 = .ok (.bipush 49, 2) := by decide +kernel
theorem d_Wt_init_31 : decode c_Wt_init 31 = .ok (.newarray .int, 2) := by decide +kernel
theorem d_Wt_init_33 : decode c_Wt_init 33 = .ok (.putfield 21, 3) := by decide +kernel
theorem d_Wt_init_36 : decode c_Wt_init 36 = .ok (.return_, 1) := by decide +kernel
theorem d_Wt_load_0 : decode c_Wt_load 0 = .ok (.iconst 0, 1) := by decide +kernel
theorem d_Wt_load_1 : decode c_Wt_load 1 = .ok (.istore_n 2, 1) := by decide +kernel
theorem d_Wt_load_2 : decode c_Wt_load 2 = .ok (.iload_n 2, 1) := by decide +kernel
theorem d_Wt_load_3 : decode c_Wt_load 3 = .ok (.bipush 49, 2) := by decide +kernel
theorem d_Wt_load_5 : decode c_Wt_load 5 = .ok (.if_icmp .ge 16, 3) := by decide +kernel
theorem d_Wt_load_8 : decode c_Wt_load 8 = .ok (.aload_n 0, 1) := by decide +kernel
theorem d_Wt_load_9 : decode c_Wt_load 9 = .ok (.getfield 18, 3) := by decide +kernel
theorem d_Wt_load_12 : decode c_Wt_load 12 = .ok (.iload_n 2, 1) := by decide +kernel
theorem d_Wt_load_13 : decode c_Wt_load 13 = .ok (.iconst (-1), 1) := by decide +kernel
theorem d_Wt_load_14 : decode c_Wt_load 14 = .ok (.iastore, 1) := by decide +kernel
theorem d_Wt_load_15 : decode c_Wt_load 15 = .ok (.iinc 2 1, 3) := by decide +kernel
theorem d_Wt_load_18 : decode c_Wt_load 18 = .ok (.goto (-16), 3) := by decide +kernel
theorem d_Wt_load_21 : decode c_Wt_load 21 = .ok (.iconst 0, 1) := by decide +kernel
theorem d_Wt_load_22 : decode c_Wt_load 22 = .ok (.istore_n 2, 1) := by decide +kernel
theorem d_Wt_load_23 : decode c_Wt_load 23 = .ok (.iload_n 2, 1) := by decide +kernel
theorem d_Wt_load_24 : decode c_Wt_load 24 = .ok (.aload_n 1, 1) := by decide +kernel
theorem d_Wt_load_25 : decode c_Wt_load 25 = .ok (.getfield 24, 3) := by decide +kernel
theorem d_Wt_load_28 : decode c_Wt_load 28 = .ok (.if_icmp .ge 71, 3) := by decide +kernel
theorem d_Wt_load_31 : decode c_Wt_load 31 = .ok (.aload_n 0, 1) := by decide +kernel
theorem d_Wt_load_32 : decode c_Wt_load 32 = .ok (.getfield 9, 3) := by decide +kernel
theorem d_Wt_load_35 : decode c_Wt_load 35 = .ok (.iload_n 2, 1) := by decide +kernel
theorem d_Wt_load_36 : decode c_Wt_load 36 = .ok (.aload_n 1, 1) := by decide +kernel
theorem d_Wt_load_37 : decode c_Wt_load 37 = .ok (.getfield 30, 3) := by decide +kernel
theorem d_Wt_load_40 : decode c_Wt_load 40 = .ok (.iload_n 2, 1) := by decide +kernel
theorem d_Wt_load_41 : decode c_Wt_load 41 = .ok (.iaload, 1) := by decide +kernel
theorem d_Wt_load_42 : decode c_Wt_load 42 = .ok (.iastore, 1) := by decide +kernel
theorem d_Wt_load_43 : decode c_Wt_load 43 = .ok (.aload_n 0, 1) := by decide +kernel
theorem d_Wt_load_44 : decode c_Wt_load 44 = .ok (.getfield 15, 3) := by decide +kernel
theorem d_Wt_load_47 : decode c_Wt_load 47 = .ok (.iload_n 2, 1) := by decide +kernel
theorem d_Wt_load_48 : decode c_Wt_load 48 = .ok (.aload_n 1, 1) := by decide +kernel
theorem d_Wt_load_49 : decode c_Wt_load 49 = .ok (.getfield 31, 3) := by decide +kernel
theorem d_Wt_load_52 : decode c_Wt_load 52 = .ok (.iload_n 2, 1) := by decide +kernel
theorem d_Wt_load_53 : decode c_Wt_load 53 = .ok (.iaload, 1) := by decide +kernel
theorem d_Wt_load_54 : decode c_Wt_load 54 = .ok (.iastore, 1) := by decide +kernel
theorem d_Wt_load_55 : decode c_Wt_load 55 = .ok (.aload_n 0, 1) := by decide +kernel
theorem d_Wt_load_56 : decode c_Wt_load 56 = .ok (.getfield 18, 3) := by decide +kernel
theorem d_Wt_load_59 : decode c_Wt_load 59 = .ok (.iload_n 2, 1) := by decide +kernel
theorem d_Wt_load_60 : decode c_Wt_load 60 = .ok (.aload_n 1, 1) := by decide +kernel
theorem d_Wt_load_61 : decode c_Wt_load 61 = .ok (.getfield 32, 3) := by decide +kernel
theorem d_Wt_load_64 : decode c_Wt_load 64 = .ok (.iload_n 2, 1) := by decide +kernel
theorem d_Wt_load_65 : decode c_Wt_load 65 = .ok (.iaload, 1) := by decide +kernel
theorem d_Wt_load_66 : decode c_Wt_load 66 = .ok (.ifCond .ge 8, 3) := by decide +kernel
theorem d_Wt_load_69 : decode c_Wt_load 69 = .ok (.bipush 48, 2) := by decide +kernel
theorem d_Wt_load_71 : decode c_Wt_load 71 = .ok (.goto 9, 3) := by decide +kernel
theorem d_Wt_load_74 : decode c_Wt_load 74 = .ok (.aload_n 1, 1) := by decide +kernel
theorem d_Wt_load_75 : decode c_Wt_load 75 = .ok (.getfield 32, 3) := by decide +kernel
theorem d_Wt_load_78 : decode c_Wt_load 78 = .ok (.iload_n 2, 1) := by decide +kernel
theorem d_Wt_load_79 : decode c_Wt_load 79 = .ok (.iaload, 1) := by decide +kernel
theorem d_Wt_load_80 : decode c_Wt_load 80 = .ok (.iastore, 1) := by decide +kernel
theorem d_Wt_load_81 : decode c_Wt_load 81 = .ok (.aload_n 0, 1) := by decide +kernel
theorem d_Wt_load_82 : decode c_Wt_load 82 = .ok (.getfield 21, 3) := by decide +kernel
theorem d_Wt_load_85 : decode c_Wt_load 85 = .ok (.iload_n 2, 1) := by decide +kernel
theorem d_Wt_load_86 : decode c_Wt_load 86 = .ok (.aload_n 1, 1) := by decide +kernel
theorem d_Wt_load_87 : decode c_Wt_load 87 = .ok (.getfield 33, 3) := by decide +kernel
theorem d_Wt_load_90 : decode c_Wt_load 90 = .ok (.iload_n 2, 1) := by decide +kernel
theorem d_Wt_load_91 : decode c_Wt_load 91 = .ok (.iaload, 1) := by decide +kernel
theorem d_Wt_load_92 : decode c_Wt_load 92 = .ok (.iastore, 1) := by decide +kernel
theorem d_Wt_load_93 : decode c_Wt_load 93 = .ok (.iinc 2 1, 3) := by decide +kernel
theorem d_Wt_load_96 : decode c_Wt_load 96 = .ok (.goto (-73), 3) := by decide +kernel
theorem d_Wt_load_99 : decode c_Wt_load 99 = .ok (.return_, 1) := by decide +kernel
theorem d_Wt_has_0 : decode c_Wt_has 0 = .ok (.iload_n 1, 1) := by decide +kernel
theorem d_Wt_has_1 : decode c_Wt_has 1 = .ok (.ifCond .lt 23, 3) := by decide +kernel
theorem d_Wt_has_4 : decode c_Wt_has 4 = .ok (.iload_n 1, 1) := by decide +kernel
theorem d_Wt_has_5 : decode c_Wt_has 5 = .ok (.bipush 48, 2) := by decide +kernel
theorem d_Wt_has_7 : decode c_Wt_has 7 = .ok (.if_icmp .ge 17, 3) := by decide +kernel
theorem d_Wt_has_10 : decode c_Wt_has 10 = .ok (.aload_n 0, 1) := by decide +kernel
theorem d_Wt_has_11 : decode c_Wt_has 11 = .ok (.getfield 18, 3) := by decide +kernel
theorem d_Wt_has_14 : decode c_Wt_has 14 = .ok (.iload_n 1, 1) := by decide +kernel
theorem d_Wt_has_15 : decode c_Wt_has 15 = .ok (.iaload, 1) := by decide +kernel
theorem d_Wt_has_16 : decode c_Wt_has 16 = .ok (.iconst (-1), 1) := by decide +kernel
theorem d_Wt_has_17 : decode c_Wt_has 17 = .ok (.if_icmp .eq 7, 3) := by decide +kernel
theorem d_Wt_has_20 : decode c_Wt_has 20 = .ok (.iconst 1, 1) := by decide +kernel
theorem d_Wt_has_21 : decode c_Wt_has 21 = .ok (.goto 4, 3) := by decide +kernel
theorem d_Wt_has_24 : decode c_Wt_has 24 = .ok (.iconst 0, 1) := by decide +kernel
theorem d_Wt_has_25 : decode c_Wt_has 25 = .ok (.ireturn, 1) := by decide +kernel
theorem d_Wt_childAt_0 : decode c_Wt_childAt 0 = .ok (.iconst 0, 1) := by decide +kernel
theorem d_Wt_childAt_1 : decode c_Wt_childAt 1 = .ok (.istore_n 3, 1) := by decide +kernel
theorem d_Wt_childAt_2 : decode c_Wt_childAt 2 = .ok (.iload_n 3, 1) := by decide +kernel
theorem d_Wt_childAt_3 : decode c_Wt_childAt 3 = .ok (.bipush 48, 2) := by decide +kernel
theorem d_Wt_childAt_5 : decode c_Wt_childAt 5 = .ok (.if_icmp .ge 31, 3) := by decide +kernel
theorem d_Wt_childAt_8 : decode c_Wt_childAt 8 = .ok (.aload_n 0, 1) := by decide +kernel
theorem d_Wt_childAt_9 : decode c_Wt_childAt 9 = .ok (.getfield 18, 3) := by decide +kernel
theorem d_Wt_childAt_12 : decode c_Wt_childAt 12 = .ok (.iload_n 3, 1) := by decide +kernel
theorem d_Wt_childAt_13 : decode c_Wt_childAt 13 = .ok (.iaload, 1) := by decide +kernel
theorem d_Wt_childAt_14 : decode c_Wt_childAt 14 = .ok (.iload_n 1, 1) := by decide +kernel
theorem d_Wt_childAt_15 : decode c_Wt_childAt 15 = .ok (.if_icmp .ne 15, 3) := by decide +kernel
theorem d_Wt_childAt_18 : decode c_Wt_childAt 18 = .ok (.aload_n 0, 1) := by decide +kernel
theorem d_Wt_childAt_19 : decode c_Wt_childAt 19 = .ok (.getfield 21, 3) := by decide +kernel
theorem d_Wt_childAt_22 : decode c_Wt_childAt 22 = .ok (.iload_n 3, 1) := by decide +kernel
theorem d_Wt_childAt_23 : decode c_Wt_childAt 23 = .ok (.iaload, 1) := by decide +kernel
theorem d_Wt_childAt_24 : decode c_Wt_childAt 24 = .ok (.iload_n 2, 1) := by decide +kernel
theorem d_Wt_childAt_25 : decode c_Wt_childAt 25 = .ok (.if_icmp .ne 5, 3) := by decide +kernel
theorem d_Wt_childAt_28 : decode c_Wt_childAt 28 = .ok (.iload_n 3, 1) := by decide +kernel
theorem d_Wt_childAt_29 : decode c_Wt_childAt 29 = .ok (.ireturn, 1) := by decide +kernel
theorem d_Wt_childAt_30 : decode c_Wt_childAt 30 = .ok (.iinc 3 1, 3) := by decide +kernel
theorem d_Wt_childAt_33 : decode c_Wt_childAt 33 = .ok (.goto (-31), 3) := by decide +kernel
theorem d_Wt_childAt_36 : decode c_Wt_childAt 36 = .ok (.iconst (-1), 1) := by decide +kernel
theorem d_Wt_childAt_37 : decode c_Wt_childAt 37 = .ok (.ireturn, 1) := by decide +kernel
theorem d_Wt_takeOut_0 : decode c_Wt_takeOut 0 = .ok (.aload_n 0, 1) := by decide +kernel
theorem d_Wt_takeOut_1 : decode c_Wt_takeOut 1 = .ok (.iload_n 1, 1) := by decide +kernel
theorem d_Wt_takeOut_2 : decode c_Wt_takeOut 2 = .ok (.invokevirtual 34, 3) := by decide +kernel
theorem d_Wt_takeOut_5 : decode c_Wt_takeOut 5 = .ok (.ifCond .ne 4, 3) := by decide +kernel
theorem d_Wt_takeOut_8 : decode c_Wt_takeOut 8 = .ok (.return_, 1) := by decide +kernel
theorem d_Wt_takeOut_9 : decode c_Wt_takeOut 9 = .ok (.aload_n 0, 1) := by decide +kernel
theorem d_Wt_takeOut_10 : decode c_Wt_takeOut 10 = .ok (.getfield 18, 3) := by decide +kernel
theorem d_Wt_takeOut_13 : decode c_Wt_takeOut 13 = .ok (.iload_n 1, 1) := by decide +kernel
theorem d_Wt_takeOut_14 : decode c_Wt_takeOut 14 = .ok (.iaload, 1) := by decide +kernel
