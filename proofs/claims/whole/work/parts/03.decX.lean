theorem dX0_init_0 : decode cX0_init 0 = .ok (.aload_n 0, 1) := by decide +kernel
theorem dX0_init_1 : decode cX0_init 1 = .ok (.invokespecial 3, 3) := by decide +kernel
theorem dX0_init_4 : decode cX0_init 4 = .ok (.iload_n 2, 1) := by decide +kernel
theorem dX0_init_5 : decode cX0_init 5 = .ok (.sipush 128, 3) := by decide +kernel
theorem dX0_init_8 : decode cX0_init 8 = .ok (.invokestatic 9, 3) := by decide +kernel
theorem dX0_init_11 : decode cX0_init 11 = .ok (.istore_n 3, 1) := by decide +kernel
theorem dX0_init_12 : decode cX0_init 12 = .ok (.aload_n 0, 1) := by decide +kernel
theorem dX0_init_13 : decode cX0_init 13 = .ok (.aload_n 1, 1) := by decide +kernel
theorem dX0_init_14 : decode cX0_init 14 = .ok (.putfield 15, 3) := by decide +kernel
theorem dX0_init_17 : decode cX0_init 17 = .ok (.aload_n 0, 1) := by decide +kernel
theorem dX0_init_18 : decode cX0_init 18 = .ok (.new 21, 3) := by decide +kernel
theorem dX0_init_21 : decode cX0_init 21 = .ok (.dup, 1) := by decide +kernel
theorem dX0_init_22 : decode cX0_init 22 = .ok (.iload_n 3, 1) := by decide +kernel
theorem dX0_init_23 : decode cX0_init 23 = .ok (.invokespecial 23, 3) := by decide +kernel
theorem dX0_init_26 : decode cX0_init 26 = .ok (.putfield 26, 3) := by decide +kernel
theorem dX0_init_29 : decode cX0_init 29 = .ok (.aload_n 0, 1) := by decide +kernel
theorem dX0_init_30 : decode cX0_init 30 = .ok (.new 21, 3) := by decide +kernel
theorem dX0_init_33 : decode cX0_init 33 = .ok (.dup, 1) := by decide +kernel
theorem dX0_init_34 : decode cX0_init 34 = .ok (.iload_n 3, 1) := by decide +kernel
theorem dX0_init_35 : decode cX0_init 35 = .ok (.invokespecial 23, 3) := by decide +kernel
theorem dX0_init_38 : decode cX0_init 38 = .ok (.putfield 30, 3) := by decide +kernel
theorem dX0_init_41 : decode cX0_init 41 = .ok (.aload_n 0, 1) := by decide +kernel
theorem dX0_init_42 : decode cX0_init 42 = .ok (.iload_n 3, 1) := by decide +kernel
theorem dX0_init_43 : decode cX0_init 43 = .ok (.newarray .int, 2) := by decide +kernel
theorem dX0_init_45 : decode cX0_init 45 = .ok (.putfield 33, 3) := by decide +kernel
theorem dX0_init_48 : decode cX0_init 48 = .ok (.aload_n 0, 1) := by decide +kernel
theorem dX0_init_49 : decode cX0_init 49 = .ok (.iload_n 2, 1) := by decide +kernel
theorem dX0_init_50 : decode cX0_init 50 = .ok (.newarray .int, 2) := by decide +kernel
theorem dX0_init_52 : decode cX0_init 52 = .ok (.putfield 37, 3) := by decide +kernel
theorem dX0_init_55 : decode cX0_init 55 = .ok (.return_, 1) := by decide +kernel
theorem dX0_drop_0 : decode cX0_drop 0 = .ok (.aload_n 0, 1) := by decide +kernel
theorem dX0_drop_1 : decode cX0_drop 1 = .ok (.iconst 0, 1) := by decide +kernel
theorem dX0_drop_2 : decode cX0_drop 2 = .ok (.putfield 40, 3) := by decide +kernel
theorem dX0_drop_5 : decode cX0_drop 5 = .ok (.aload_n 0, 1) := by decide +kernel
theorem dX0_drop_6 : decode cX0_drop 6 = .ok (.getfield 26, 3) := by decide +kernel
theorem dX0_drop_9 : decode cX0_drop 9 = .ok (.iconst 0, 1) := by decide +kernel
theorem dX0_drop_10 : decode cX0_drop 10 = .ok (.putfield 44, 3) := by decide +kernel
theorem dX0_drop_13 : decode cX0_drop 13 = .ok (.return_, 1) := by decide +kernel
theorem dX0_search_0 : decode cX0_search 0 = .ok (.aload_n 0, 1) := by decide +kernel
theorem dX0_search_1 : decode cX0_search 1 = .ok (.invokevirtual 48, 3) := by decide +kernel
theorem dX0_search_4 : decode cX0_search 4 = .ok (.aload_n 0, 1) := by decide +kernel
theorem dX0_search_5 : decode cX0_search 5 = .ok (.getfield 15, 3) := by decide +kernel
theorem dX0_search_8 : decode cX0_search 8 = .ok (.invokevirtual 51, 3) := by decide +kernel
theorem dX0_search_11 : decode cX0_search 11 = .ok (.istore_n 2, 1) := by decide +kernel
theorem dX0_search_12 : decode cX0_search 12 = .ok (.iconst 0, 1) := by decide +kernel
theorem dX0_search_13 : decode cX0_search 13 = .ok (.istore_n 3, 1) := by decide +kernel
theorem dX0_search_14 : decode cX0_search 14 = .ok (.iconst 0, 1) := by decide +kernel
theorem dX0_search_15 : decode cX0_search 15 = .ok (.istore 4, 2) := by decide +kernel
theorem dX0_search_17 : decode cX0_search 17 = .ok (.iconst 0, 1) := by decide +kernel
theorem dX0_search_18 : decode cX0_search 18 = .ok (.istore 5, 2) := by decide +kernel
theorem dX0_search_20 : decode cX0_search 20 = .ok (.iconst 0, 1) := by decide +kernel
theorem dX0_search_21 : decode cX0_search 21 = .ok (.istore 6, 2) := by decide +kernel
theorem dX0_search_23 : decode cX0_search 23 = .ok (.iload 6, 2) := by decide +kernel
theorem dX0_search_25 : decode cX0_search 25 = .ok (.aload_n 0, 1) := by decide +kernel
theorem dX0_search_26 : decode cX0_search 26 = .ok (.getfield 15, 3) := by decide +kernel
theorem dX0_search_29 : decode cX0_search 29 = .ok (.getfield 57, 3) := by decide +kernel
theorem dX0_search_32 : decode cX0_search 32 = .ok (.if_icmp .ge 229, 3) := by decide +kernel
theorem dX0_search_35 : decode cX0_search 35 = .ok (.iload_n 3, 1) := by decide +kernel
theorem dX0_search_36 : decode cX0_search 36 = .ok (.iload 6, 2) := by decide +kernel
theorem dX0_search_38 : decode cX0_search 38 = .ok (.invokestatic 60, 3) := by decide +kernel
theorem dX0_search_41 : decode cX0_search 41 = .ok (.istore_n 3, 1) := by decide +kernel
theorem dX0_search_42 : decode cX0_search 42 = .ok (.iload_n 3, 1) := by decide +kernel
theorem dX0_search_43 : decode cX0_search 43 = .ok (.aload_n 0, 1) := by decide +kernel
theorem dX0_search_44 : decode cX0_search 44 = .ok (.getfield 15, 3) := by decide +kernel
theorem dX0_search_47 : decode cX0_search 47 = .ok (.getfield 57, 3) := by decide +kernel
theorem dX0_search_50 : decode cX0_search 50 = .ok (.if_icmp .ge 65, 3) := by decide +kernel
theorem dX0_search_53 : decode cX0_search 53 = .ok (.iload 4, 2) := by decide +kernel
theorem dX0_search_55 : decode cX0_search 55 = .ok (.iload_n 1, 1) := by decide +kernel
theorem dX0_search_56 : decode cX0_search 56 = .ok (.if_icmp .ge 59, 3) := by decide +kernel
theorem dX0_search_59 : decode cX0_search 59 = .ok (.aload_n 0, 1) := by decide +kernel
theorem dX0_search_60 : decode cX0_search 60 = .ok (.getfield 15, 3) := by decide +kernel
theorem dX0_search_63 : decode cX0_search 63 = .ok (.getfield 63, 3) := by decide +kernel
theorem dX0_search_66 : decode cX0_search 66 = .ok (.iload_n 3, 1) := by decide +kernel
theorem dX0_search_67 : decode cX0_search 67 = .ok (.iaload, 1) := by decide +kernel
theorem dX0_search_68 : decode cX0_search 68 = .ok (.iconst 2, 1) := by decide +kernel
theorem dX0_search_69 : decode cX0_search 69 = .ok (.if_icmp .eq 46, 3) := by decide +kernel
theorem dX0_search_72 : decode cX0_search 72 = .ok (.iload 4, 2) := by decide +kernel
theorem dX0_search_74 : decode cX0_search 74 = .ok (.aload_n 0, 1) := by decide +kernel
theorem dX0_search_75 : decode cX0_search 75 = .ok (.getfield 15, 3) := by decide +kernel
theorem dX0_search_78 : decode cX0_search 78 = .ok (.getfield 66, 3) := by decide +kernel
theorem dX0_search_81 : decode cX0_search 81 = .ok (.iload_n 3, 1) := by decide +kernel
theorem dX0_search_82 : decode cX0_search 82 = .ok (.iaload, 1) := by decide +kernel
theorem dX0_search_83 : decode cX0_search 83 = .ok (.iadd, 1) := by decide +kernel
theorem dX0_search_84 : decode cX0_search 84 = .ok (.istore 4, 2) := by decide +kernel
theorem dX0_search_86 : decode cX0_search 86 = .ok (.iload 5, 2) := by decide +kernel
theorem dX0_search_88 : decode cX0_search 88 = .ok (.aload_n 0, 1) := by decide +kernel
theorem dX0_search_89 : decode cX0_search 89 = .ok (.getfield 15, 3) := by decide +kernel
theorem dX0_search_92 : decode cX0_search 92 = .ok (.getfield 63, 3) := by decide +kernel
theorem dX0_search_95 : decode cX0_search 95 = .ok (.iload_n 3, 1) := by decide +kernel
theorem dX0_search_96 : decode cX0_search 96 = .ok (.iaload, 1) := by decide +kernel
theorem dX0_search_97 : decode cX0_search 97 = .ok (.iconst 1, 1) := by decide +kernel
theorem dX0_search_98 : decode cX0_search 98 = .ok (.if_icmp .ne 7, 3) := by decide +kernel
theorem dX0_search_101 : decode cX0_search 101 = .ok (.iconst 1, 1) := by decide +kernel
theorem dX0_search_102 : decode cX0_search 102 = .ok (.goto 4, 3) := by decide +kernel
theorem dX0_search_105 : decode cX0_search 105 = .ok (.iconst 0, 1) := by decide +kernel
theorem dX0_search_106 : decode cX0_search 106 = .ok (.iadd, 1) := by decide +kernel
theorem dX0_search_107 : decode cX0_search 107 = .ok (.istore 5, 2) := by decide +kernel
theorem dX0_search_109 : decode cX0_search 109 = .ok (.iinc 3 1, 3) := by decide +kernel
theorem dX0_search_112 : decode cX0_search 112 = .ok (.goto (-70), 3) := by decide +kernel
theorem dX0_search_115 : decode cX0_search 115 = .ok (.iload 4, 2) := by decide +kernel
theorem dX0_search_117 : decode cX0_search 117 = .ok (.iload_n 1, 1) := by decide +kernel
theorem dX0_search_118 : decode cX0_search 118 = .ok (.if_icmp .lt 13, 3) := by decide +kernel
theorem dX0_search_121 : decode cX0_search 121 = .ok (.iload 4, 2) := by decide +kernel
theorem dX0_search_123 : decode cX0_search 123 = .ok (.iload_n 2, 1) := by decide +kernel
theorem dX0_search_124 : decode cX0_search 124 = .ok (.if_icmp .gt 7, 3) := by decide +kernel
theorem dX0_search_127 : decode cX0_search 127 = .ok (.iconst 1, 1) := by decide +kernel
theorem dX0_search_128 : decode cX0_search 128 = .ok (.goto 4, 3) := by decide +kernel
theorem dX0_search_131 : decode cX0_search 131 = .ok (.iconst 0, 1) := by decide +kernel
theorem dX0_search_132 : decode cX0_search 132 = .ok (.istore 7, 2) := by decide +kernel
theorem dX0_search_134 : decode cX0_search 134 = .ok (.aload_n 0, 1) := by decide +kernel
theorem dX0_search_135 : decode cX0_search 135 = .ok (.getfield 40, 3) := by decide +kernel
theorem dX0_search_138 : decode cX0_search 138 = .ok (.ifCond .eq 15, 3) := by decide +kernel
theorem dX0_search_141 : decode cX0_search 141 = .ok (.iload 5, 2) := by decide +kernel
theorem dX0_search_143 : decode cX0_search 143 = .ok (.aload_n 0, 1) := by decide +kernel
theorem dX0_search_144 : decode cX0_search 144 = .ok (.getfield 26, 3) := by decide +kernel
theorem dX0_search_147 : decode cX0_search 147 = .ok (.getfield 44, 3) := by decide +kernel
theorem dX0_search_150 : decode cX0_search 150 = .ok (.if_icmp .ge 7, 3) := by decide +kernel
theorem dX0_search_153 : decode cX0_search 153 = .ok (.iconst 1, 1) := by decide +kernel
theorem dX0_search_154 : decode cX0_search 154 = .ok (.goto 4, 3) := by decide +kernel
theorem dX0_search_157 : decode cX0_search 157 = .ok (.iconst 0, 1) := by decide +kernel
theorem dX0_search_158 : decode cX0_search 158 = .ok (.istore 8, 2) := by decide +kernel
theorem dX0_search_160 : decode cX0_search 160 = .ok (.iload 7, 2) := by decide +kernel
theorem dX0_search_162 : decode cX0_search 162 = .ok (.ifCond .eq 48, 3) := by decide +kernel
theorem dX0_search_165 : decode cX0_search 165 = .ok (.iload 8, 2) := by decide +kernel
theorem dX0_search_167 : decode cX0_search 167 = .ok (.ifCond .eq 43, 3) := by decide +kernel
theorem dX0_search_170 : decode cX0_search 170 = .ok (.aload_n 0, 1) := by decide +kernel
theorem dX0_search_171 : decode cX0_search 171 = .ok (.iload 6, 2) := by decide +kernel
theorem dX0_search_173 : decode cX0_search 173 = .ok (.iload_n 3, 1) := by decide +kernel
theorem dX0_search_174 : decode cX0_search 174 = .ok (.invokevirtual 69, 3) := by decide +kernel
theorem dX0_search_177 : decode cX0_search 177 = .ok (.ifCond .eq 33, 3) := by decide +kernel
theorem dX0_search_180 : decode cX0_search 180 = .ok (.aload_n 0, 1) := by decide +kernel
theorem dX0_search_181 : decode cX0_search 181 = .ok (.iconst 1, 1) := by decide +kernel
theorem dX0_search_182 : decode cX0_search 182 = .ok (.putfield 40, 3) := by decide +kernel
theorem dX0_search_185 : decode cX0_search 185 = .ok (.aload_n 0, 1) := by decide +kernel
theorem dX0_search_186 : decode cX0_search 186 = .ok (.aload_n 0, 1) := by decide +kernel
theorem dX0_search_187 : decode cX0_search 187 = .ok (.getfield 15, 3) := by decide +kernel
theorem dX0_search_190 : decode cX0_search 190 = .ok (.getfield 73, 3) := by decide +kernel
theorem dX0_search_193 : decode cX0_search 193 = .ok (.iload 6, 2) := by decide +kernel
theorem dX0_search_195 : decode cX0_search 195 = .ok (.iaload, 1) := by decide +kernel
theorem dX0_search_196 : decode cX0_search 196 = .ok (.putfield 76, 3) := by decide +kernel
theorem dX0_search_199 : decode cX0_search 199 = .ok (.aload_n 0, 1) := by decide +kernel
theorem dX0_search_200 : decode cX0_search 200 = .ok (.getfield 26, 3) := by decide +kernel
theorem dX0_search_203 : decode cX0_search 203 = .ok (.aload_n 0, 1) := by decide +kernel
theorem dX0_search_204 : decode cX0_search 204 = .ok (.getfield 30, 3) := by decide +kernel
theorem dX0_search_207 : decode cX0_search 207 = .ok (.invokevirtual 79, 3) := by decide +kernel
theorem dX0_search_210 : decode cX0_search 210 = .ok (.iload 6, 2) := by decide +kernel
theorem dX0_search_212 : decode cX0_search 212 = .ok (.iload_n 3, 1) := by decide +kernel
theorem dX0_search_213 : decode cX0_search 213 = .ok (.if_icmp .ge 42, 3) := by decide +kernel
theorem dX0_search_216 : decode cX0_search 216 = .ok (.iload 4, 2) := by decide +kernel
theorem dX0_search_218 : decode cX0_search 218 = .ok (.aload_n 0, 1) := by decide +kernel
theorem dX0_search_219 : decode cX0_search 219 = .ok (.getfield 15, 3) := by decide +kernel
theorem dX0_search_222 : decode cX0_search 222 = .ok (.getfield 66, 3) := by decide +kernel
theorem dX0_search_225 : decode cX0_search 225 = .ok (.iload 6, 2) := by decide +kernel
theorem dX0_search_227 : decode cX0_search 227 = .ok (.iaload, 1) := by decide +kernel
theorem dX0_search_228 : decode cX0_search 228 = .ok (.isub, 1) := by decide +kernel
theorem dX0_search_229 : decode cX0_search 229 = .ok (.istore 4, 2) := by decide +kernel
theorem dX0_search_231 : decode cX0_search 231 = .ok (.iload 5, 2) := by decide +kernel
theorem dX0_search_233 : decode cX0_search 233 = .ok (.aload_n 0, 1) := by decide +kernel
theorem dX0_search_234 : decode cX0_search 234 = .ok (.getfield 15, 3) := by decide +kernel
theorem dX0_search_237 : decode cX0_search 237 = .ok (.getfield 63, 3) := by decide +kernel
theorem dX0_search_240 : decode cX0_search 240 = .ok (.iload 6, 2) := by decide +kernel
theorem dX0_search_242 : decode cX0_search 242 = .ok (.iaload, 1) := by decide +kernel
theorem dX0_search_243 : decode cX0_search 243 = .ok (.iconst 1, 1) := by decide +kernel
theorem dX0_search_244 : decode cX0_search 244 = .ok (.if_icmp .ne 7, 3) := by decide +kernel
theorem dX0_search_247 : decode cX0_search 247 = .ok (.iconst 1, 1) := by decide +kernel
theorem dX0_search_248 : decode cX0_search 248 = .ok (.goto 4, 3) := by decide +kernel
theorem dX0_search_251 : decode cX0_search 251 = .ok (.iconst 0, 1) := by decide +kernel
theorem dX0_search_252 : decode cX0_search 252 = .ok (.isub, 1) := by decide +kernel
theorem dX0_search_253 : decode cX0_search 253 = .ok (.istore 5, 2) := by decide +kernel
theorem dX0_search_255 : decode cX0_search 255 = .ok (.iinc 6 1, 3) := by decide +kernel
theorem dX0_search_258 : decode cX0_search 258 = .ok (.goto (-235), 3) := by decide +kernel
theorem dX0_search_261 : decode cX0_search 261 = .ok (.return_, 1) := by decide +kernel
theorem dX0_rankMovables_0 : decode cX0_rankMovables 0 = .ok (.aload_n 0, 1) := by decide +kernel
theorem dX0_rankMovables_1 : decode cX0_rankMovables 1 = .ok (.iconst 0, 1) := by decide +kernel
theorem dX0_rankMovables_2 : decode cX0_rankMovables 2 = .ok (.putfield 83, 3) := by decide +kernel
theorem dX0_rankMovables_5 : decode cX0_rankMovables 5 = .ok (.iconst 0, 1) := by decide +kernel
theorem dX0_rankMovables_6 : decode cX0_rankMovables 6 = .ok (.istore_n 1, 1) := by decide +kernel
theorem dX0_rankMovables_7 : decode cX0_rankMovables 7 = .ok (.iload_n 1, 1) := by decide +kernel
theorem dX0_rankMovables_8 : decode cX0_rankMovables 8 = .ok (.aload_n 0, 1) := by decide +kernel
theorem dX0_rankMovables_9 : decode cX0_rankMovables 9 = .ok (.getfield 15, 3) := by decide +kernel
theorem dX0_rankMovables_12 : decode cX0_rankMovables 12 = .ok (.getfield 57, 3) := by decide +kernel
theorem dX0_rankMovables_15 : decode cX0_rankMovables 15 = .ok (.if_icmp .ge 108, 3) := by decide +kernel
theorem dX0_rankMovables_18 : decode cX0_rankMovables 18 = .ok (.aload_n 0, 1) := by decide +kernel
theorem dX0_rankMovables_19 : decode cX0_rankMovables 19 = .ok (.getfield 83, 3) := by decide +kernel
theorem dX0_rankMovables_22 : decode cX0_rankMovables 22 = .ok (.aload_n 0, 1) := by decide +kernel
theorem dX0_rankMovables_23 : decode cX0_rankMovables 23 = .ok (.getfield 33, 3) := by decide +kernel
theorem dX0_rankMovables_26 : decode cX0_rankMovables 26 = .ok (.arraylength, 1) := by decide +kernel
theorem dX0_rankMovables_27 : decode cX0_rankMovables 27 = .ok (.if_icmp .ge 96, 3) := by decide +kernel
theorem dX0_rankMovables_30 : decode cX0_rankMovables 30 = .ok (.aload_n 0, 1) := by decide +kernel
theorem dX0_rankMovables_31 : decode cX0_rankMovables 31 = .ok (.getfield 15, 3) := by decide +kernel
theorem dX0_rankMovables_34 : decode cX0_rankMovables 34 = .ok (.getfield 63, 3) := by decide +kernel
theorem dX0_rankMovables_37 : decode cX0_rankMovables 37 = .ok (.iload_n 1, 1) := by decide +kernel
theorem dX0_rankMovables_38 : decode cX0_rankMovables 38 = .ok (.iaload, 1) := by decide +kernel
theorem dX0_rankMovables_39 : decode cX0_rankMovables 39 = .ok (.iconst 1, 1) := by decide +kernel
theorem dX0_rankMovables_40 : decode cX0_rankMovables 40 = .ok (.if_icmp .ne 77, 3) := by decide +kernel
theorem dX0_rankMovables_43 : decode cX0_rankMovables 43 = .ok (.aload_n 0, 1) := by decide +kernel
theorem dX0_rankMovables_44 : decode cX0_rankMovables 44 = .ok (.getfield 83, 3) := by decide +kernel
theorem dX0_rankMovables_47 : decode cX0_rankMovables 47 = .ok (.istore_n 2, 1) := by decide +kernel
theorem dX0_rankMovables_48 : decode cX0_rankMovables 48 = .ok (.iload_n 2, 1) := by decide +kernel
theorem dX0_rankMovables_49 : decode cX0_rankMovables 49 = .ok (.ifCond .le 51, 3) := by decide +kernel
theorem dX0_rankMovables_52 : decode cX0_rankMovables 52 = .ok (.aload_n 0, 1) := by decide +kernel
theorem dX0_rankMovables_53 : decode cX0_rankMovables 53 = .ok (.getfield 15, 3) := by decide +kernel
theorem dX0_rankMovables_56 : decode cX0_rankMovables 56 = .ok (.getfield 66, 3) := by decide +kernel
theorem dX0_rankMovables_59 : decode cX0_rankMovables 59 = .ok (.aload_n 0, 1) := by decide +kernel
theorem dX0_rankMovables_60 : decode cX0_rankMovables 60 = .ok (.getfield 33, 3) := by decide +kernel
theorem dX0_rankMovables_63 : decode cX0_rankMovables 63 = .ok (.iload_n 2, 1) := by decide +kernel
theorem dX0_rankMovables_64 : decode cX0_rankMovables 64 = .ok (.iconst 1, 1) := by decide +kernel
theorem dX0_rankMovables_65 : decode cX0_rankMovables 65 = .ok (.isub, 1) := by decide +kernel
theorem dX0_rankMovables_66 : decode cX0_rankMovables 66 = .ok (.iaload, 1) := by decide +kernel
theorem dX0_rankMovables_67 : decode cX0_rankMovables 67 = .ok (.iaload, 1) := by decide +kernel
theorem dX0_rankMovables_68 : decode cX0_rankMovables 68 = .ok (.aload_n 0, 1) := by decide +kernel
theorem dX0_rankMovables_69 : decode cX0_rankMovables 69 = .ok (.getfield 15, 3) := by decide +kernel
theorem dX0_rankMovables_72 : decode cX0_rankMovables 72 = .ok (.getfield 66, 3) := by decide +kernel
theorem dX0_rankMovables_75 : decode cX0_rankMovables 75 = .ok (.iload_n 1, 1) := by decide +kernel
theorem dX0_rankMovables_76 : decode cX0_rankMovables 76 = .ok (.iaload, 1) := by decide +kernel
theorem dX0_rankMovables_77 : decode cX0_rankMovables 77 = .ok (.if_icmp .ge 23, 3) := by decide +kernel
theorem dX0_rankMovables_80 : decode cX0_rankMovables 80 = .ok (.aload_n 0, 1) := by decide +kernel
theorem dX0_rankMovables_81 : decode cX0_rankMovables 81 = .ok (.getfield 33, 3) := by decide +kernel
theorem dX0_rankMovables_84 : decode cX0_rankMovables 84 = .ok (.iload_n 2, 1) := by decide +kernel
theorem dX0_rankMovables_85 : decode cX0_rankMovables 85 = .ok (.aload_n 0, 1) := by decide +kernel
theorem dX0_rankMovables_86 : decode cX0_rankMovables 86 = .ok (.getfield 33, 3) := by decide +kernel
theorem dX0_rankMovables_89 : decode cX0_rankMovables 89 = .ok (.iload_n 2, 1) := by decide +kernel
theorem dX0_rankMovables_90 : decode cX0_rankMovables 90 = .ok (.iconst 1, 1) := by decide +kernel
theorem dX0_rankMovables_91 : decode cX0_rankMovables 91 = .ok (.isub, 1) := by decide +kernel
theorem dX0_rankMovables_92 : decode cX0_rankMovables 92 = .ok (.iaload, 1) := by decide +kernel
theorem dX0_rankMovables_93 : decode cX0_rankMovables 93 = .ok (.iastore, 1) := by decide +kernel
theorem dX0_rankMovables_94 : decode cX0_rankMovables 94 = .ok (.iinc 2 (-1), 3) := by decide +kernel
theorem dX0_rankMovables_97 : decode cX0_rankMovables 97 = .ok (.goto (-49), 3) := by decide +kernel
theorem dX0_rankMovables_100 : decode cX0_rankMovables 100 = .ok (.aload_n 0, 1) := by decide +kernel
theorem dX0_rankMovables_101 : decode cX0_rankMovables 101 = .ok (.getfield 33, 3) := by decide +kernel
theorem dX0_rankMovables_104 : decode cX0_rankMovables 104 = .ok (.iload_n 2, 1) := by decide +kernel
theorem dX0_rankMovables_105 : decode cX0_rankMovables 105 = .ok (.iload_n 1, 1) := by decide +kernel
theorem dX0_rankMovables_106 : decode cX0_rankMovables 106 = .ok (.iastore, 1) := by decide +kernel
theorem dX0_rankMovables_107 : decode cX0_rankMovables 107 = .ok (.aload_n 0, 1) := by decide +kernel
theorem dX0_rankMovables_108 : decode cX0_rankMovables 108 = .ok (.dup, 1) := by decide +kernel
theorem dX0_rankMovables_109 : decode cX0_rankMovables 109 = .ok (.getfield 83, 3) := by decide +kernel
theorem dX0_rankMovables_112 : decode cX0_rankMovables 112 = .ok (.iconst 1, 1) := by decide +kernel
theorem dX0_rankMovables_113 : decode cX0_rankMovables 113 = .ok (.iadd, 1) := by decide +kernel
theorem dX0_rankMovables_114 : decode cX0_rankMovables 114 = .ok (.putfield 83, 3) := by decide +kernel
theorem dX0_rankMovables_117 : decode cX0_rankMovables 117 = .ok (.iinc 1 1, 3) := by decide +kernel
theorem dX0_rankMovables_120 : decode cX0_rankMovables 120 = .ok (.goto (-113), 3) := by decide +kernel
theorem dX0_rankMovables_123 : decode cX0_rankMovables 123 = .ok (.return_, 1) := by decide +kernel
theorem dX0_placeVictims_0 : decode cX0_placeVictims 0 = .ok (.aload_n 0, 1) := by decide +kernel
theorem dX0_placeVictims_1 : decode cX0_placeVictims 1 = .ok (.getfield 30, 3) := by decide +kernel
theorem dX0_placeVictims_4 : decode cX0_placeVictims 4 = .ok (.iconst 0, 1) := by decide +kernel
theorem dX0_placeVictims_5 : decode cX0_placeVictims 5 = .ok (.putfield 44, 3) := by decide +kernel
theorem dX0_placeVictims_8 : decode cX0_placeVictims 8 = .ok (.iconst 0, 1) := by decide +kernel
theorem dX0_placeVictims_9 : decode cX0_placeVictims 9 = .ok (.istore_n 3, 1) := by decide +kernel
theorem dX0_placeVictims_10 : decode cX0_placeVictims 10 = .ok (.iload_n 3, 1) := by decide +kernel
theorem dX0_placeVictims_11 : decode cX0_placeVictims 11 = .ok (.aload_n 0, 1) := by decide +kernel
theorem dX0_placeVictims_12 : decode cX0_placeVictims 12 = .ok (.getfield 15, 3) := by decide +kernel
theorem dX0_placeVictims_15 : decode cX0_placeVictims 15 = .ok (.getfield 57, 3) := by decide +kernel
theorem dX0_placeVictims_18 : decode cX0_placeVictims 18 = .ok (.if_icmp .ge 62, 3) := by decide +kernel
theorem dX0_placeVictims_21 : decode cX0_placeVictims 21 = .ok (.iload_n 3, 1) := by decide +kernel
theorem dX0_placeVictims_22 : decode cX0_placeVictims 22 = .ok (.iload_n 1, 1) := by decide +kernel
theorem dX0_placeVictims_23 : decode cX0_placeVictims 23 = .ok (.if_icmp .lt 8, 3) := by decide +kernel
theorem dX0_placeVictims_26 : decode cX0_placeVictims 26 = .ok (.iload_n 3, 1) := by decide +kernel
theorem dX0_placeVictims_27 : decode cX0_placeVictims 27 = .ok (.iload_n 2, 1) := by decide +kernel
theorem dX0_placeVictims_28 : decode cX0_placeVictims 28 = .ok (.if_icmp .lt 7, 3) := by decide +kernel
theorem dX0_placeVictims_31 : decode cX0_placeVictims 31 = .ok (.iconst 1, 1) := by decide +kernel
theorem dX0_placeVictims_32 : decode cX0_placeVictims 32 = .ok (.goto 4, 3) := by decide +kernel
theorem dX0_placeVictims_35 : decode cX0_placeVictims 35 = .ok (.iconst 0, 1) := by decide +kernel
theorem dX0_placeVictims_36 : decode cX0_placeVictims 36 = .ok (.istore 4, 2) := by decide +kernel
theorem dX0_placeVictims_38 : decode cX0_placeVictims 38 = .ok (.aload_n 0, 1) := by decide +kernel
theorem dX0_placeVictims_39 : decode cX0_placeVictims 39 = .ok (.getfield 37, 3) := by decide +kernel
theorem dX0_placeVictims_42 : decode cX0_placeVictims 42 = .ok (.iload_n 3, 1) := by decide +kernel
theorem dX0_placeVictims_43 : decode cX0_placeVictims 43 = .ok (.iload 4, 2) := by decide +kernel
theorem dX0_placeVictims_45 : decode cX0_placeVictims 45 = .ok (.ifCond .eq 27, 3) := by decide +kernel
theorem dX0_placeVictims_48 : decode cX0_placeVictims 48 = .ok (.aload_n 0, 1) := by decide +kernel
theorem dX0_placeVictims_49 : decode cX0_placeVictims 49 = .ok (.getfield 15, 3) := by decide +kernel
theorem dX0_placeVictims_52 : decode cX0_placeVictims 52 = .ok (.getfield 63, 3) := by decide +kernel
theorem dX0_placeVictims_55 : decode cX0_placeVictims 55 = .ok (.iload_n 3, 1) := by decide +kernel
theorem dX0_placeVictims_56 : decode cX0_placeVictims 56 = .ok (.iaload, 1) := by decide +kernel
theorem dX0_placeVictims_57 : decode cX0_placeVictims 57 = .ok (.ifCond .ne 15, 3) := by decide +kernel
theorem dX0_placeVictims_60 : decode cX0_placeVictims 60 = .ok (.aload_n 0, 1) := by decide +kernel
theorem dX0_placeVictims_61 : decode cX0_placeVictims 61 = .ok (.getfield 15, 3) := by decide +kernel
theorem dX0_placeVictims_64 : decode cX0_placeVictims 64 = .ok (.getfield 66, 3) := by decide +kernel
theorem dX0_placeVictims_67 : decode cX0_placeVictims 67 = .ok (.iload_n 3, 1) := by decide +kernel
theorem dX0_placeVictims_68 : decode cX0_placeVictims 68 = .ok (.iaload, 1) := by decide +kernel
theorem dX0_placeVictims_69 : decode cX0_placeVictims 69 = .ok (.goto 4, 3) := by decide +kernel
theorem dX0_placeVictims_72 : decode cX0_placeVictims 72 = .ok (.iconst 0, 1) := by decide +kernel
theorem dX0_placeVictims_73 : decode cX0_placeVictims 73 = .ok (.iastore, 1) := by decide +kernel
theorem dX0_placeVictims_74 : decode cX0_placeVictims 74 = .ok (.iinc 3 1, 3) := by decide +kernel
theorem dX0_placeVictims_77 : decode cX0_placeVictims 77 = .ok (.goto (-67), 3) := by decide +kernel
theorem dX0_placeVictims_80 : decode cX0_placeVictims 80 = .ok (.iconst 0, 1) := by decide +kernel
theorem dX0_placeVictims_81 : decode cX0_placeVictims 81 = .ok (.istore_n 3, 1) := by decide +kernel
theorem dX0_placeVictims_82 : decode cX0_placeVictims 82 = .ok (.iconst 0, 1) := by decide +kernel
theorem dX0_placeVictims_83 : decode cX0_placeVictims 83 = .ok (.istore 4, 2) := by decide +kernel
theorem dX0_placeVictims_85 : decode cX0_placeVictims 85 = .ok (.iconst 0, 1) := by decide +kernel
theorem dX0_placeVictims_86 : decode cX0_placeVictims 86 = .ok (.istore 5, 2) := by decide +kernel
theorem dX0_placeVictims_88 : decode cX0_placeVictims 88 = .ok (.iload 5, 2) := by decide +kernel
theorem dX0_placeVictims_90 : decode cX0_placeVictims 90 = .ok (.aload_n 0, 1) := by decide +kernel
theorem dX0_placeVictims_91 : decode cX0_placeVictims 91 = .ok (.getfield 83, 3) := by decide +kernel
theorem dX0_placeVictims_94 : decode cX0_placeVictims 94 = .ok (.if_icmp .ge 130, 3) := by decide +kernel
theorem dX0_placeVictims_97 : decode cX0_placeVictims 97 = .ok (.aload_n 0, 1) := by decide +kernel
theorem dX0_placeVictims_98 : decode cX0_placeVictims 98 = .ok (.getfield 33, 3) := by decide +kernel
theorem dX0_placeVictims_101 : decode cX0_placeVictims 101 = .ok (.iload 5, 2) := by decide +kernel
theorem dX0_placeVictims_103 : decode cX0_placeVictims 103 = .ok (.iaload, 1) := by decide +kernel
theorem dX0_placeVictims_104 : decode cX0_placeVictims 104 = .ok (.istore 6, 2) := by decide +kernel
theorem dX0_placeVictims_106 : decode cX0_placeVictims 106 = .ok (.iload 6, 2) := by decide +kernel
theorem dX0_placeVictims_108 : decode cX0_placeVictims 108 = .ok (.iload_n 1, 1) := by decide +kernel
theorem dX0_placeVictims_109 : decode cX0_placeVictims 109 = .ok (.if_icmp .lt 109, 3) := by decide +kernel
theorem dX0_placeVictims_112 : decode cX0_placeVictims 112 = .ok (.iload 6, 2) := by decide +kernel
theorem dX0_placeVictims_114 : decode cX0_placeVictims 114 = .ok (.iload_n 2, 1) := by decide +kernel
theorem dX0_placeVictims_115 : decode cX0_placeVictims 115 = .ok (.if_icmp .ge 103, 3) := by decide +kernel
theorem dX0_placeVictims_118 : decode cX0_placeVictims 118 = .ok (.aload_n 0, 1) := by decide +kernel
theorem dX0_placeVictims_119 : decode cX0_placeVictims 119 = .ok (.aload_n 0, 1) := by decide +kernel
theorem dX0_placeVictims_120 : decode cX0_placeVictims 120 = .ok (.getfield 15, 3) := by decide +kernel
theorem dX0_placeVictims_123 : decode cX0_placeVictims 123 = .ok (.getfield 66, 3) := by decide +kernel
theorem dX0_placeVictims_126 : decode cX0_placeVictims 126 = .ok (.iload 6, 2) := by decide +kernel
theorem dX0_placeVictims_128 : decode cX0_placeVictims 128 = .ok (.iaload, 1) := by decide +kernel
theorem dX0_placeVictims_129 : decode cX0_placeVictims 129 = .ok (.iload_n 3, 1) := by decide +kernel
theorem dX0_placeVictims_130 : decode cX0_placeVictims 130 = .ok (.if_icmp .ne 8, 3) := by decide +kernel
theorem dX0_placeVictims_133 : decode cX0_placeVictims 133 = .ok (.iload 4, 2) := by decide +kernel
theorem dX0_placeVictims_135 : decode cX0_placeVictims 135 = .ok (.goto 4, 3) := by decide +kernel
theorem dX0_placeVictims_138 : decode cX0_placeVictims 138 = .ok (.iconst 0, 1) := by decide +kernel
theorem dX0_placeVictims_139 : decode cX0_placeVictims 139 = .ok (.aload_n 0, 1) := by decide +kernel
theorem dX0_placeVictims_140 : decode cX0_placeVictims 140 = .ok (.getfield 15, 3) := by decide +kernel
theorem dX0_placeVictims_143 : decode cX0_placeVictims 143 = .ok (.getfield 66, 3) := by decide +kernel
theorem dX0_placeVictims_146 : decode cX0_placeVictims 146 = .ok (.iload 6, 2) := by decide +kernel
theorem dX0_placeVictims_148 : decode cX0_placeVictims 148 = .ok (.iaload, 1) := by decide +kernel
theorem dX0_placeVictims_149 : decode cX0_placeVictims 149 = .ok (.invokevirtual 86, 3) := by decide +kernel
theorem dX0_placeVictims_152 : decode cX0_placeVictims 152 = .ok (.istore 4, 2) := by decide +kernel
theorem dX0_placeVictims_154 : decode cX0_placeVictims 154 = .ok (.iload 4, 2) := by decide +kernel
theorem dX0_placeVictims_156 : decode cX0_placeVictims 156 = .ok (.iconst (-1), 1) := by decide +kernel
theorem dX0_placeVictims_157 : decode cX0_placeVictims 157 = .ok (.if_icmp .ne 5, 3) := by decide +kernel
theorem dX0_placeVictims_160 : decode cX0_placeVictims 160 = .ok (.iconst 0, 1) := by decide +kernel
theorem dX0_placeVictims_161 : decode cX0_placeVictims 161 = .ok (.ireturn, 1) := by decide +kernel
theorem dX0_placeVictims_162 : decode cX0_placeVictims 162 = .ok (.aload_n 0, 1) := by decide +kernel
theorem dX0_placeVictims_163 : decode cX0_placeVictims 163 = .ok (.getfield 15, 3) := by decide +kernel
theorem dX0_placeVictims_166 : decode cX0_placeVictims 166 = .ok (.getfield 66, 3) := by decide +kernel
theorem dX0_placeVictims_169 : decode cX0_placeVictims 169 = .ok (.iload 6, 2) := by decide +kernel
theorem dX0_placeVictims_171 : decode cX0_placeVictims 171 = .ok (.iaload, 1) := by decide +kernel
theorem dX0_placeVictims_172 : decode cX0_placeVictims 172 = .ok (.istore_n 3, 1) := by decide +kernel
theorem dX0_placeVictims_173 : decode cX0_placeVictims 173 = .ok (.aload_n 0, 1) := by decide +kernel
theorem dX0_placeVictims_174 : decode cX0_placeVictims 174 = .ok (.getfield 30, 3) := by decide +kernel
theorem dX0_placeVictims_177 : decode cX0_placeVictims 177 = .ok (.aload_n 0, 1) := by decide +kernel
theorem dX0_placeVictims_178 : decode cX0_placeVictims 178 = .ok (.getfield 15, 3) := by decide +kernel
theorem dX0_placeVictims_181 : decode cX0_placeVictims 181 = .ok (.getfield 73, 3) := by decide +kernel
theorem dX0_placeVictims_184 : decode cX0_placeVictims 184 = .ok (.iload 6, 2) := by decide +kernel
theorem dX0_placeVictims_186 : decode cX0_placeVictims 186 = .ok (.iaload, 1) := by decide +kernel
theorem dX0_placeVictims_187 : decode cX0_placeVictims 187 = .ok (.aload_n 0, 1) := by decide +kernel
theorem dX0_placeVictims_188 : decode cX0_placeVictims 188 = .ok (.getfield 15, 3) := by decide +kernel
theorem dX0_placeVictims_191 : decode cX0_placeVictims 191 = .ok (.iload 4, 2) := by decide +kernel
theorem dX0_placeVictims_193 : decode cX0_placeVictims 193 = .ok (.invokevirtual 89, 3) := by decide +kernel
theorem dX0_placeVictims_196 : decode cX0_placeVictims 196 = .ok (.aload_n 0, 1) := by decide +kernel
theorem dX0_placeVictims_197 : decode cX0_placeVictims 197 = .ok (.getfield 37, 3) := by decide +kernel
theorem dX0_placeVictims_200 : decode cX0_placeVictims 200 = .ok (.iload 4, 2) := by decide +kernel
theorem dX0_placeVictims_202 : decode cX0_placeVictims 202 = .ok (.iaload, 1) := by decide +kernel
theorem dX0_placeVictims_203 : decode cX0_placeVictims 203 = .ok (.isub, 1) := by decide +kernel
theorem dX0_placeVictims_204 : decode cX0_placeVictims 204 = .ok (.invokevirtual 93, 3) := by decide +kernel
theorem dX0_placeVictims_207 : decode cX0_placeVictims 207 = .ok (.aload_n 0, 1) := by decide +kernel
theorem dX0_placeVictims_208 : decode cX0_placeVictims 208 = .ok (.getfield 37, 3) := by decide +kernel
theorem dX0_placeVictims_211 : decode cX0_placeVictims 211 = .ok (.iload 4, 2) := by decide +kernel
theorem dX0_placeVictims_213 : decode cX0_placeVictims 213 = .ok (.dup2, 1) := by decide +kernel
theorem dX0_placeVictims_214 : decode cX0_placeVictims 214 = .ok (.iaload, 1) := by decide +kernel
theorem dX0_placeVictims_215 : decode cX0_placeVictims 215 = .ok (.iload_n 3, 1) := by decide +kernel
theorem dX0_placeVictims_216 : decode cX0_placeVictims 216 = .ok (.isub, 1) := by decide +kernel
theorem dX0_placeVictims_217 : decode cX0_placeVictims 217 = .ok (.iastore, 1) := by decide +kernel
theorem dX0_placeVictims_218 : decode cX0_placeVictims 218 = .ok (.iinc 5 1, 3) := by decide +kernel
theorem dX0_placeVictims_221 : decode cX0_placeVictims 221 = .ok (.goto (-133), 3) := by decide +kernel
theorem dX0_placeVictims_224 : decode cX0_placeVictims 224 = .ok (.iconst 1, 1) := by decide +kernel
theorem dX0_placeVictims_225 : decode cX0_placeVictims 225 = .ok (.ireturn, 1) := by decide +kernel
theorem dX0_lowestPlace_0 : decode cX0_lowestPlace 0 = .ok (.iload_n 1, 1) := by decide +kernel
theorem dX0_lowestPlace_1 : decode cX0_lowestPlace 1 = .ok (.istore_n 3, 1) := by decide +kernel
theorem dX0_lowestPlace_2 : decode cX0_lowestPlace 2 = .ok (.iload_n 3, 1) := by decide +kernel
theorem dX0_lowestPlace_3 : decode cX0_lowestPlace 3 = .ok (.aload_n 0, 1) := by decide +kernel
theorem dX0_lowestPlace_4 : decode cX0_lowestPlace 4 = .ok (.getfield 15, 3) := by decide +kernel
theorem dX0_lowestPlace_7 : decode cX0_lowestPlace 7 = .ok (.getfield 57, 3) := by decide +kernel
theorem dX0_lowestPlace_10 : decode cX0_lowestPlace 10 = .ok (.if_icmp .ge 21, 3) := by decide +kernel
theorem dX0_lowestPlace_13 : decode cX0_lowestPlace 13 = .ok (.aload_n 0, 1) := by decide +kernel
theorem dX0_lowestPlace_14 : decode cX0_lowestPlace 14 = .ok (.getfield 37, 3) := by decide +kernel
theorem dX0_lowestPlace_17 : decode cX0_lowestPlace 17 = .ok (.iload_n 3, 1) := by decide +kernel
theorem dX0_lowestPlace_18 : decode cX0_lowestPlace 18 = .ok (.iaload, 1) := by decide +kernel
theorem dX0_lowestPlace_19 : decode cX0_lowestPlace 19 = .ok (.iload_n 2, 1) := by decide +kernel
theorem dX0_lowestPlace_20 : decode cX0_lowestPlace 20 = .ok (.if_icmp .lt 5, 3) := by decide +kernel
theorem dX0_lowestPlace_23 : decode cX0_lowestPlace 23 = .ok (.iload_n 3, 1) := by decide +kernel
theorem dX0_lowestPlace_24 : decode cX0_lowestPlace 24 = .ok (.ireturn, 1) := by decide +kernel
theorem dX0_lowestPlace_25 : decode cX0_lowestPlace 25 = .ok (.iinc 3 1, 3) := by decide +kernel
theorem dX0_lowestPlace_28 : decode cX0_lowestPlace 28 = .ok (.goto (-26), 3) := by decide +kernel
theorem dX0_lowestPlace_31 : decode cX0_lowestPlace 31 = .ok (.iconst (-1), 1) := by decide +kernel
theorem dX0_lowestPlace_32 : decode cX0_lowestPlace 32 = .ok (.ireturn, 1) := by decide +kernel
theorem dX1_init_0 : decode cX1_init 0 = .ok (.aload_n 0, 1) := by decide +kernel
theorem dX1_init_1 : decode cX1_init 1 = .ok (.invokespecial 3, 3) := by decide +kernel
theorem dX1_init_4 : decode cX1_init 4 = .ok (.aload_n 0, 1) := by decide +kernel
theorem dX1_init_5 : decode cX1_init 5 = .ok (.iload_n 1, 1) := by decide +kernel
theorem dX1_init_6 : decode cX1_init 6 = .ok (.newarray .int, 2) := by decide +kernel
theorem dX1_init_8 : decode cX1_init 8 = .ok (.putfield 9, 3) := by decide +kernel
theorem dX1_init_11 : decode cX1_init 11 = .ok (.aload_n 0, 1) := by decide +kernel
theorem dX1_init_12 : decode cX1_init 12 = .ok (.iload_n 1, 1) := by decide +kernel
theorem dX1_init_13 : decode cX1_init 13 = .ok (.newarray .int, 2) := by decide +kernel
theorem dX1_init_15 : decode cX1_init 15 = .ok (.putfield 15, 3) := by decide +kernel
theorem dX1_init_18 : decode cX1_init 18 = .ok (.return_, 1) := by decide +kernel
theorem dX1_put_0 : decode cX1_put 0 = .ok (.aload_n 0, 1) := by decide +kernel
theorem dX1_put_1 : decode cX1_put 1 = .ok (.getfield 18, 3) := by decide +kernel
theorem dX1_put_4 : decode cX1_put 4 = .ok (.aload_n 0, 1) := by decide +kernel
theorem dX1_put_5 : decode cX1_put 5 = .ok (.getfield 9, 3) := by decide +kernel
theorem dX1_put_8 : decode cX1_put 8 = .ok (.arraylength, 1) := by decide +kernel
theorem dX1_put_9 : decode cX1_put 9 = .ok (.if_icmp .ge 33, 3) := by decide +kernel
theorem dX1_put_12 : decode cX1_put 12 = .ok (.aload_n 0, 1) := by decide +kernel
theorem dX1_put_13 : decode cX1_put 13 = .ok (.getfield 9, 3) := by decide +kernel
theorem dX1_put_16 : decode cX1_put 16 = .ok (.aload_n 0, 1) := by decide +kernel
theorem dX1_put_17 : decode cX1_put 17 = .ok (.getfield 18, 3) := by decide +kernel
theorem dX1_put_20 : decode cX1_put 20 = .ok (.iload_n 1, 1) := by decide +kernel
theorem dX1_put_21 : decode cX1_put 21 = .ok (.iastore, 1) := by decide +kernel
theorem dX1_put_22 : decode cX1_put 22 = .ok (.aload_n 0, 1) := by decide +kernel
theorem dX1_put_23 : decode cX1_put 23 = .ok (.getfield 15, 3) := by decide +kernel
theorem dX1_put_26 : decode cX1_put 26 = .ok (.aload_n 0, 1) := by decide +kernel
theorem dX1_put_27 : decode cX1_put 27 = .ok (.getfield 18, 3) := by decide +kernel
theorem dX1_put_30 : decode cX1_put 30 = .ok (.iload_n 2, 1) := by decide +kernel
theorem dX1_put_31 : decode cX1_put 31 = .ok (.iastore, 1) := by decide +kernel
theorem dX1_put_32 : decode cX1_put 32 = .ok (.aload_n 0, 1) := by decide +kernel
theorem dX1_put_33 : decode cX1_put 33 = .ok (.dup, 1) := by decide +kernel
theorem dX1_put_34 : decode cX1_put 34 = .ok (.getfield 18, 3) := by decide +kernel
theorem dX1_put_37 : decode cX1_put 37 = .ok (.iconst 1, 1) := by decide +kernel
theorem dX1_put_38 : decode cX1_put 38 = .ok (.iadd, 1) := by decide +kernel
theorem dX1_put_39 : decode cX1_put 39 = .ok (.putfield 18, 3) := by decide +kernel
theorem dX1_put_42 : decode cX1_put 42 = .ok (.return_, 1) := by decide +kernel
theorem dX1_takeOver_0 : decode cX1_takeOver 0 = .ok (.aload_n 0, 1) := by decide +kernel
theorem dX1_takeOver_1 : decode cX1_takeOver 1 = .ok (.iconst 0, 1) := by decide +kernel
theorem dX1_takeOver_2 : decode cX1_takeOver 2 = .ok (.putfield 18, 3) := by decide +kernel
theorem dX1_takeOver_5 : decode cX1_takeOver 5 = .ok (.iconst 0, 1) := by decide +kernel
theorem dX1_takeOver_6 : decode cX1_takeOver 6 = .ok (.istore_n 2, 1) := by decide +kernel
theorem dX1_takeOver_7 : decode cX1_takeOver 7 = .ok (.iload_n 2, 1) := by decide +kernel
theorem dX1_takeOver_8 : decode cX1_takeOver 8 = .ok (.aload_n 1, 1) := by decide +kernel
theorem dX1_takeOver_9 : decode cX1_takeOver 9 = .ok (.getfield 18, 3) := by decide +kernel
theorem dX1_takeOver_12 : decode cX1_takeOver 12 = .ok (.if_icmp .ge 25, 3) := by decide +kernel
theorem dX1_takeOver_15 : decode cX1_takeOver 15 = .ok (.aload_n 0, 1) := by decide +kernel
theorem dX1_takeOver_16 : decode cX1_takeOver 16 = .ok (.aload_n 1, 1) := by decide +kernel
theorem dX1_takeOver_17 : decode cX1_takeOver 17 = .ok (.getfield 9, 3) := by decide +kernel
theorem dX1_takeOver_20 : decode cX1_takeOver 20 = .ok (.iload_n 2, 1) := by decide +kernel
theorem dX1_takeOver_21 : decode cX1_takeOver 21 = .ok (.iaload, 1) := by decide +kernel
theorem dX1_takeOver_22 : decode cX1_takeOver 22 = .ok (.aload_n 1, 1) := by decide +kernel
theorem dX1_takeOver_23 : decode cX1_takeOver 23 = .ok (.getfield 15, 3) := by decide +kernel
theorem dX1_takeOver_26 : decode cX1_takeOver 26 = .ok (.iload_n 2, 1) := by decide +kernel
theorem dX1_takeOver_27 : decode cX1_takeOver 27 = .ok (.iaload, 1) := by decide +kernel
theorem dX1_takeOver_28 : decode cX1_takeOver 28 = .ok (.invokevirtual 22, 3) := by decide +kernel
theorem dX1_takeOver_31 : decode cX1_takeOver 31 = .ok (.iinc 2 1, 3) := by decide +kernel
theorem dX1_takeOver_34 : decode cX1_takeOver 34 = .ok (.goto (-27), 3) := by decide +kernel
theorem dX1_takeOver_37 : decode cX1_takeOver 37 = .ok (.return_, 1) := by decide +kernel
theorem dX1_placeOf_0 : decode cX1_placeOf 0 = .ok (.iconst 0, 1) := by decide +kernel
theorem dX1_placeOf_1 : decode cX1_placeOf 1 = .ok (.istore_n 2, 1) := by decide +kernel
theorem dX1_placeOf_2 : decode cX1_placeOf 2 = .ok (.iload_n 2, 1) := by decide +kernel
theorem dX1_placeOf_3 : decode cX1_placeOf 3 = .ok (.aload_n 0, 1) := by decide +kernel
theorem dX1_placeOf_4 : decode cX1_placeOf 4 = .ok (.getfield 18, 3) := by decide +kernel
theorem dX1_placeOf_7 : decode cX1_placeOf 7 = .ok (.if_icmp .ge 26, 3) := by decide +kernel
theorem dX1_placeOf_10 : decode cX1_placeOf 10 = .ok (.aload_n 0, 1) := by decide +kernel
theorem dX1_placeOf_11 : decode cX1_placeOf 11 = .ok (.getfield 9, 3) := by decide +kernel
theorem dX1_placeOf_14 : decode cX1_placeOf 14 = .ok (.iload_n 2, 1) := by decide +kernel
theorem dX1_placeOf_15 : decode cX1_placeOf 15 = .ok (.iaload, 1) := by decide +kernel
theorem dX1_placeOf_16 : decode cX1_placeOf 16 = .ok (.iload_n 1, 1) := by decide +kernel
theorem dX1_placeOf_17 : decode cX1_placeOf 17 = .ok (.if_icmp .ne 10, 3) := by decide +kernel
theorem dX1_placeOf_20 : decode cX1_placeOf 20 = .ok (.aload_n 0, 1) := by decide +kernel
theorem dX1_placeOf_21 : decode cX1_placeOf 21 = .ok (.getfield 15, 3) := by decide +kernel
theorem dX1_placeOf_24 : decode cX1_placeOf 24 = .ok (.iload_n 2, 1) := by decide +kernel
theorem dX1_placeOf_25 : decode cX1_placeOf 25 = .ok (.iaload, 1) := by decide +kernel
theorem dX1_placeOf_26 : decode cX1_placeOf 26 = .ok (.ireturn, 1) := by decide +kernel
theorem dX1_placeOf_27 : decode cX1_placeOf 27 = .ok (.iinc 2 1, 3) := by decide +kernel
theorem dX1_placeOf_30 : decode cX1_placeOf 30 = .ok (.goto (-28), 3) := by decide +kernel
theorem dX1_placeOf_33 : decode cX1_placeOf 33 = .ok (.iconst (-1), 1) := by decide +kernel
theorem dX1_placeOf_34 : decode cX1_placeOf 34 = .ok (.ireturn, 1) := by decide +kernel
theorem dX2_init_0 : decode cX2_init 0 = .ok (.aload_n 0, 1) := by decide +kernel
theorem dX2_init_1 : decode cX2_init 1 = .ok (.invokespecial 3, 3) := by decide +kernel
theorem dX2_init_4 : decode cX2_init 4 = .ok (.aload_n 0, 1) := by decide +kernel
theorem dX2_init_5 : decode cX2_init 5 = .ok (.iload_n 1, 1) := by decide +kernel
theorem dX2_init_6 : decode cX2_init 6 = .ok (.newarray .int, 2) := by decide +kernel
theorem dX2_init_8 : decode cX2_init 8 = .ok (.putfield 9, 3) := by decide +kernel
theorem dX2_init_11 : decode cX2_init 11 = .ok (.aload_n 0, 1) := by decide +kernel
theorem dX2_init_12 : decode cX2_init 12 = .ok (.iload_n 1, 1) := by decide +kernel
theorem dX2_init_13 : decode cX2_init 13 = .ok (.newarray .int, 2) := by decide +kernel
theorem dX2_init_15 : decode cX2_init 15 = .ok (.putfield 15, 3) := by decide +kernel
theorem dX2_init_18 : decode cX2_init 18 = .ok (.aload_n 0, 1) := by decide +kernel
theorem dX2_init_19 : decode cX2_init 19 = .ok (.iload_n 1, 1) := by decide +kernel
theorem dX2_init_20 : decode cX2_init 20 = .ok (.newarray .int, 2) := by decide +kernel
theorem dX2_init_22 : decode cX2_init 22 = .ok (.putfield 18, 3) := by decide +kernel
theorem dX2_init_25 : decode cX2_init 25 = .ok (.aload_n 0, 1) := by decide +kernel
theorem dX2_init_26 : decode cX2_init 26 = .ok (.getfield 9, 3) := by decide +kernel
theorem dX2_init_29 : decode cX2_init 29 = .ok (.iconst 0, 1) := by decide +kernel
theorem dX2_init_30 : decode cX2_init 30 = .ok (.iconst 4, 1) := by decide +kernel
theorem dX2_init_31 : decode cX2_init 31 = .ok (.iastore, 1) := by decide +kernel
theorem dX2_init_32 : decode cX2_init 32 = .ok (.aload_n 0, 1) := by decide +kernel
theorem dX2_init_33 : decode cX2_init 33 = .ok (.getfield 15, 3) := by decide +kernel
theorem dX2_init_36 : decode cX2_init 36 = .ok (.iconst 0, 1) := by decide +kernel
theorem dX2_init_37 : decode cX2_init 37 = .ok (.iload_n 1, 1) := by decide +kernel
theorem dX2_init_38 : decode cX2_init 38 = .ok (.iconst 4, 1) := by decide +kernel
theorem dX2_init_39 : decode cX2_init 39 = .ok (.imul, 1) := by decide +kernel
theorem dX2_init_40 : decode cX2_init 40 = .ok (.iastore, 1) := by decide +kernel
theorem dX2_init_41 : decode cX2_init 41 = .ok (.aload_n 0, 1) := by decide +kernel
theorem dX2_init_42 : decode cX2_init 42 = .ok (.getfield 18, 3) := by decide +kernel
theorem dX2_init_45 : decode cX2_init 45 = .ok (.iconst 0, 1) := by decide +kernel
theorem dX2_init_46 : decode cX2_init 46 = .ok (.iconst 0, 1) := by decide +kernel
theorem dX2_init_47 : decode cX2_init 47 = .ok (.iastore, 1) := by decide +kernel
theorem dX2_init_48 : decode cX2_init 48 = .ok (.aload_n 0, 1) := by decide +kernel
theorem dX2_init_49 : decode cX2_init 49 = .ok (.iconst 1, 1) := by decide +kernel
theorem dX2_init_50 : decode cX2_init 50 = .ok (.putfield 21, 3) := by decide +kernel
theorem dX2_init_53 : decode cX2_init 53 = .ok (.return_, 1) := by decide +kernel
theorem dX2_end_0 : decode cX2_end 0 = .ok (.aload_n 0, 1) := by decide +kernel
theorem dX2_end_1 : decode cX2_end 1 = .ok (.getfield 9, 3) := by decide +kernel
theorem dX2_end_4 : decode cX2_end 4 = .ok (.iload_n 1, 1) := by decide +kernel
theorem dX2_end_5 : decode cX2_end 5 = .ok (.iaload, 1) := by decide +kernel
theorem dX2_end_6 : decode cX2_end 6 = .ok (.aload_n 0, 1) := by decide +kernel
theorem dX2_end_7 : decode cX2_end 7 = .ok (.getfield 15, 3) := by decide +kernel
theorem dX2_end_10 : decode cX2_end 10 = .ok (.iload_n 1, 1) := by decide +kernel
theorem dX2_end_11 : decode cX2_end 11 = .ok (.iaload, 1) := by decide +kernel
theorem dX2_end_12 : decode cX2_end 12 = .ok (.iadd, 1) := by decide +kernel
theorem dX2_end_13 : decode cX2_end 13 = .ok (.ireturn, 1) := by decide +kernel
theorem dX2_liveIndex_0 : decode cX2_liveIndex 0 = .ok (.aload_n 0, 1) := by decide +kernel
theorem dX2_liveIndex_1 : decode cX2_liveIndex 1 = .ok (.iload_n 1, 1) := by decide +kernel
theorem dX2_liveIndex_2 : decode cX2_liveIndex 2 = .ok (.invokevirtual 25, 3) := by decide +kernel
theorem dX2_liveIndex_5 : decode cX2_liveIndex 5 = .ok (.istore_n 2, 1) := by decide +kernel
theorem dX2_liveIndex_6 : decode cX2_liveIndex 6 = .ok (.iload_n 2, 1) := by decide +kernel
theorem dX2_liveIndex_7 : decode cX2_liveIndex 7 = .ok (.iconst (-1), 1) := by decide +kernel
theorem dX2_liveIndex_8 : decode cX2_liveIndex 8 = .ok (.if_icmp .eq 16, 3) := by decide +kernel
theorem dX2_liveIndex_11 : decode cX2_liveIndex 11 = .ok (.aload_n 0, 1) := by decide +kernel
theorem dX2_liveIndex_12 : decode cX2_liveIndex 12 = .ok (.getfield 18, 3) := by decide +kernel
theorem dX2_liveIndex_15 : decode cX2_liveIndex 15 = .ok (.iload_n 2, 1) := by decide +kernel
theorem dX2_liveIndex_16 : decode cX2_liveIndex 16 = .ok (.iaload, 1) := by decide +kernel
theorem dX2_liveIndex_17 : decode cX2_liveIndex 17 = .ok (.ifCond .eq 7, 3) := by decide +kernel
theorem dX2_liveIndex_20 : decode cX2_liveIndex 20 = .ok (.iload_n 2, 1) := by decide +kernel
theorem dX2_liveIndex_21 : decode cX2_liveIndex 21 = .ok (.goto 4, 3) := by decide +kernel
theorem dX2_liveIndex_24 : decode cX2_liveIndex 24 = .ok (.iconst (-1), 1) := by decide +kernel
theorem dX2_liveIndex_25 : decode cX2_liveIndex 25 = .ok (.ireturn, 1) := by decide +kernel
theorem dX2_freeIndex_0 : decode cX2_freeIndex 0 = .ok (.aload_n 0, 1) := by decide +kernel
theorem dX2_freeIndex_1 : decode cX2_freeIndex 1 = .ok (.iload_n 1, 1) := by decide +kernel
theorem dX2_freeIndex_2 : decode cX2_freeIndex 2 = .ok (.invokevirtual 25, 3) := by decide +kernel
theorem dX2_freeIndex_5 : decode cX2_freeIndex 5 = .ok (.istore_n 2, 1) := by decide +kernel
theorem dX2_freeIndex_6 : decode cX2_freeIndex 6 = .ok (.iload_n 2, 1) := by decide +kernel
theorem dX2_freeIndex_7 : decode cX2_freeIndex 7 = .ok (.iconst (-1), 1) := by decide +kernel
theorem dX2_freeIndex_8 : decode cX2_freeIndex 8 = .ok (.if_icmp .eq 16, 3) := by decide +kernel
theorem dX2_freeIndex_11 : decode cX2_freeIndex 11 = .ok (.aload_n 0, 1) := by decide +kernel
theorem dX2_freeIndex_12 : decode cX2_freeIndex 12 = .ok (.getfield 18, 3) := by decide +kernel
theorem dX2_freeIndex_15 : decode cX2_freeIndex 15 = .ok (.iload_n 2, 1) := by decide +kernel
theorem dX2_freeIndex_16 : decode cX2_freeIndex 16 = .ok (.iaload, 1) := by decide +kernel
theorem dX2_freeIndex_17 : decode cX2_freeIndex 17 = .ok (.ifCond .ne 7, 3) := by decide +kernel
theorem dX2_freeIndex_20 : decode cX2_freeIndex 20 = .ok (.iload_n 2, 1) := by decide +kernel
theorem dX2_freeIndex_21 : decode cX2_freeIndex 21 = .ok (.goto 4, 3) := by decide +kernel
theorem dX2_freeIndex_24 : decode cX2_freeIndex 24 = .ok (.iconst (-1), 1) := by decide +kernel
theorem dX2_freeIndex_25 : decode cX2_freeIndex 25 = .ok (.ireturn, 1) := by decide +kernel
theorem dX2_indexOf_0 : decode cX2_indexOf 0 = .ok (.iconst 0, 1) := by decide +kernel
theorem dX2_indexOf_1 : decode cX2_indexOf 1 = .ok (.istore_n 2, 1) := by decide +kernel
theorem dX2_indexOf_2 : decode cX2_indexOf 2 = .ok (.iload_n 2, 1) := by decide +kernel
theorem dX2_indexOf_3 : decode cX2_indexOf 3 = .ok (.aload_n 0, 1) := by decide +kernel
theorem dX2_indexOf_4 : decode cX2_indexOf 4 = .ok (.getfield 21, 3) := by decide +kernel
theorem dX2_indexOf_7 : decode cX2_indexOf 7 = .ok (.if_icmp .ge 21, 3) := by decide +kernel
theorem dX2_indexOf_10 : decode cX2_indexOf 10 = .ok (.aload_n 0, 1) := by decide +kernel
theorem dX2_indexOf_11 : decode cX2_indexOf 11 = .ok (.getfield 9, 3) := by decide +kernel
theorem dX2_indexOf_14 : decode cX2_indexOf 14 = .ok (.iload_n 2, 1) := by decide +kernel
theorem dX2_indexOf_15 : decode cX2_indexOf 15 = .ok (.iaload, 1) := by decide +kernel
theorem dX2_indexOf_16 : decode cX2_indexOf 16 = .ok (.iload_n 1, 1) := by decide +kernel
theorem dX2_indexOf_17 : decode cX2_indexOf 17 = .ok (.if_icmp .ne 5, 3) := by decide +kernel
theorem dX2_indexOf_20 : decode cX2_indexOf 20 = .ok (.iload_n 2, 1) := by decide +kernel
theorem dX2_indexOf_21 : decode cX2_indexOf 21 = .ok (.ireturn, 1) := by decide +kernel
theorem dX2_indexOf_22 : decode cX2_indexOf 22 = .ok (.iinc 2 1, 3) := by decide +kernel
theorem dX2_indexOf_25 : decode cX2_indexOf 25 = .ok (.goto (-23), 3) := by decide +kernel
theorem dX2_indexOf_28 : decode cX2_indexOf 28 = .ok (.iconst (-1), 1) := by decide +kernel
theorem dX2_indexOf_29 : decode cX2_indexOf 29 = .ok (.ireturn, 1) := by decide +kernel
theorem dX2_freeBlocks_0 : decode cX2_freeBlocks 0 = .ok (.iconst 0, 1) := by decide +kernel
theorem dX2_freeBlocks_1 : decode cX2_freeBlocks 1 = .ok (.istore_n 1, 1) := by decide +kernel
theorem dX2_freeBlocks_2 : decode cX2_freeBlocks 2 = .ok (.iconst 0, 1) := by decide +kernel
theorem dX2_freeBlocks_3 : decode cX2_freeBlocks 3 = .ok (.istore_n 2, 1) := by decide +kernel
theorem dX2_freeBlocks_4 : decode cX2_freeBlocks 4 = .ok (.iload_n 2, 1) := by decide +kernel
theorem dX2_freeBlocks_5 : decode cX2_freeBlocks 5 = .ok (.aload_n 0, 1) := by decide +kernel
theorem dX2_freeBlocks_6 : decode cX2_freeBlocks 6 = .ok (.getfield 21, 3) := by decide +kernel
theorem dX2_freeBlocks_9 : decode cX2_freeBlocks 9 = .ok (.if_icmp .ge 26, 3) := by decide +kernel
theorem dX2_freeBlocks_12 : decode cX2_freeBlocks 12 = .ok (.iload_n 1, 1) := by decide +kernel
theorem dX2_freeBlocks_13 : decode cX2_freeBlocks 13 = .ok (.aload_n 0, 1) := by decide +kernel
theorem dX2_freeBlocks_14 : decode cX2_freeBlocks 14 = .ok (.getfield 18, 3) := by decide +kernel
theorem dX2_freeBlocks_17 : decode cX2_freeBlocks 17 = .ok (.iload_n 2, 1) := by decide +kernel
theorem dX2_freeBlocks_18 : decode cX2_freeBlocks 18 = .ok (.iaload, 1) := by decide +kernel
theorem dX2_freeBlocks_19 : decode cX2_freeBlocks 19 = .ok (.ifCond .ne 7, 3) := by decide +kernel
theorem dX2_freeBlocks_22 : decode cX2_freeBlocks 22 = .ok (.iconst 1, 1) := by decide +kernel
theorem dX2_freeBlocks_23 : decode cX2_freeBlocks 23 = .ok (.goto 4, 3) := by decide +kernel
theorem dX2_freeBlocks_26 : decode cX2_freeBlocks 26 = .ok (.iconst 0, 1) := by decide +kernel
theorem dX2_freeBlocks_27 : decode cX2_freeBlocks 27 = .ok (.iadd, 1) := by decide +kernel
theorem dX2_freeBlocks_28 : decode cX2_freeBlocks 28 = .ok (.istore_n 1, 1) := by decide +kernel
theorem dX2_freeBlocks_29 : decode cX2_freeBlocks 29 = .ok (.iinc 2 1, 3) := by decide +kernel
theorem dX2_freeBlocks_32 : decode cX2_freeBlocks 32 = .ok (.goto (-28), 3) := by decide +kernel
theorem dX2_freeBlocks_35 : decode cX2_freeBlocks 35 = .ok (.iload_n 1, 1) := by decide +kernel
theorem dX2_freeBlocks_36 : decode cX2_freeBlocks 36 = .ok (.ireturn, 1) := by decide +kernel
theorem dX2_liveBlocks_0 : decode cX2_liveBlocks 0 = .ok (.aload_n 0, 1) := by decide +kernel
theorem dX2_liveBlocks_1 : decode cX2_liveBlocks 1 = .ok (.getfield 21, 3) := by decide +kernel
theorem dX2_liveBlocks_4 : decode cX2_liveBlocks 4 = .ok (.aload_n 0, 1) := by decide +kernel
theorem dX2_liveBlocks_5 : decode cX2_liveBlocks 5 = .ok (.invokevirtual 29, 3) := by decide +kernel
theorem dX2_liveBlocks_8 : decode cX2_liveBlocks 8 = .ok (.isub, 1) := by decide +kernel
theorem dX2_liveBlocks_9 : decode cX2_liveBlocks 9 = .ok (.ireturn, 1) := by decide +kernel
theorem dX2_freeWords_0 : decode cX2_freeWords 0 = .ok (.iconst 0, 1) := by decide +kernel
theorem dX2_freeWords_1 : decode cX2_freeWords 1 = .ok (.istore_n 1, 1) := by decide +kernel
theorem dX2_freeWords_2 : decode cX2_freeWords 2 = .ok (.iconst 0, 1) := by decide +kernel
theorem dX2_freeWords_3 : decode cX2_freeWords 3 = .ok (.istore_n 2, 1) := by decide +kernel
theorem dX2_freeWords_4 : decode cX2_freeWords 4 = .ok (.iload_n 2, 1) := by decide +kernel
theorem dX2_freeWords_5 : decode cX2_freeWords 5 = .ok (.aload_n 0, 1) := by decide +kernel
theorem dX2_freeWords_6 : decode cX2_freeWords 6 = .ok (.getfield 21, 3) := by decide +kernel
theorem dX2_freeWords_9 : decode cX2_freeWords 9 = .ok (.if_icmp .ge 31, 3) := by decide +kernel
theorem dX2_freeWords_12 : decode cX2_freeWords 12 = .ok (.iload_n 1, 1) := by decide +kernel
theorem dX2_freeWords_13 : decode cX2_freeWords 13 = .ok (.aload_n 0, 1) := by decide +kernel
theorem dX2_freeWords_14 : decode cX2_freeWords 14 = .ok (.getfield 18, 3) := by decide +kernel
theorem dX2_freeWords_17 : decode cX2_freeWords 17 = .ok (.iload_n 2, 1) := by decide +kernel
theorem dX2_freeWords_18 : decode cX2_freeWords 18 = .ok (.iaload, 1) := by decide +kernel
theorem dX2_freeWords_19 : decode cX2_freeWords 19 = .ok (.ifCond .ne 12, 3) := by decide +kernel
theorem dX2_freeWords_22 : decode cX2_freeWords 22 = .ok (.aload_n 0, 1) := by decide +kernel
theorem dX2_freeWords_23 : decode cX2_freeWords 23 = .ok (.getfield 15, 3) := by decide +kernel
theorem dX2_freeWords_26 : decode cX2_freeWords 26 = .ok (.iload_n 2, 1) := by decide +kernel
theorem dX2_freeWords_27 : decode cX2_freeWords 27 = .ok (.iaload, 1) := by decide +kernel
theorem dX2_freeWords_28 : decode cX2_freeWords 28 = .ok (.goto 4, 3) := by decide +kernel
theorem dX2_freeWords_31 : decode cX2_freeWords 31 = .ok (.iconst 0, 1) := by decide +kernel
theorem dX2_freeWords_32 : decode cX2_freeWords 32 = .ok (.iadd, 1) := by decide +kernel
theorem dX2_freeWords_33 : decode cX2_freeWords 33 = .ok (.istore_n 1, 1) := by decide +kernel
theorem dX2_freeWords_34 : decode cX2_freeWords 34 = .ok (.iinc 2 1, 3) := by decide +kernel
theorem dX2_freeWords_37 : decode cX2_freeWords 37 = .ok (.goto (-33), 3) := by decide +kernel
theorem dX2_freeWords_40 : decode cX2_freeWords 40 = .ok (.iload_n 1, 1) := by decide +kernel
theorem dX2_freeWords_41 : decode cX2_freeWords 41 = .ok (.ireturn, 1) := by decide +kernel
theorem dX2_largestFree_0 : decode cX2_largestFree 0 = .ok (.iconst 0, 1) := by decide +kernel
theorem dX2_largestFree_1 : decode cX2_largestFree 1 = .ok (.istore_n 1, 1) := by decide +kernel
theorem dX2_largestFree_2 : decode cX2_largestFree 2 = .ok (.iconst 0, 1) := by decide +kernel
theorem dX2_largestFree_3 : decode cX2_largestFree 3 = .ok (.istore_n 2, 1) := by decide +kernel
theorem dX2_largestFree_4 : decode cX2_largestFree 4 = .ok (.iload_n 2, 1) := by decide +kernel
theorem dX2_largestFree_5 : decode cX2_largestFree 5 = .ok (.aload_n 0, 1) := by decide +kernel
theorem dX2_largestFree_6 : decode cX2_largestFree 6 = .ok (.getfield 21, 3) := by decide +kernel
theorem dX2_largestFree_9 : decode cX2_largestFree 9 = .ok (.if_icmp .ge 33, 3) := by decide +kernel
theorem dX2_largestFree_12 : decode cX2_largestFree 12 = .ok (.aload_n 0, 1) := by decide +kernel
theorem dX2_largestFree_13 : decode cX2_largestFree 13 = .ok (.getfield 18, 3) := by decide +kernel
theorem dX2_largestFree_16 : decode cX2_largestFree 16 = .ok (.iload_n 2, 1) := by decide +kernel
theorem dX2_largestFree_17 : decode cX2_largestFree 17 = .ok (.iaload, 1) := by decide +kernel
theorem dX2_largestFree_18 : decode cX2_largestFree 18 = .ok (.ifCond .ne 16, 3) := by decide +kernel
theorem dX2_largestFree_21 : decode cX2_largestFree 21 = .ok (.iload_n 1, 1) := by decide +kernel
theorem dX2_largestFree_22 : decode cX2_largestFree 22 = .ok (.aload_n 0, 1) := by decide +kernel
theorem dX2_largestFree_23 : decode cX2_largestFree 23 = .ok (.getfield 15, 3) := by decide +kernel
theorem dX2_largestFree_26 : decode cX2_largestFree 26 = .ok (.iload_n 2, 1) := by decide +kernel
theorem dX2_largestFree_27 : decode cX2_largestFree 27 = .ok (.iaload, 1) := by decide +kernel
theorem dX2_largestFree_28 : decode cX2_largestFree 28 = .ok (.invokestatic 33, 3) := by decide +kernel
theorem dX2_largestFree_31 : decode cX2_largestFree 31 = .ok (.goto 4, 3) := by decide +kernel
theorem dX2_largestFree_34 : decode cX2_largestFree 34 = .ok (.iload_n 1, 1) := by decide +kernel
theorem dX2_largestFree_35 : decode cX2_largestFree 35 = .ok (.istore_n 1, 1) := by decide +kernel
theorem dX2_largestFree_36 : decode cX2_largestFree 36 = .ok (.iinc 2 1, 3) := by decide +kernel
theorem dX2_largestFree_39 : decode cX2_largestFree 39 = .ok (.goto (-35), 3) := by decide +kernel
theorem dX2_largestFree_42 : decode cX2_largestFree 42 = .ok (.iload_n 1, 1) := by decide +kernel
theorem dX2_largestFree_43 : decode cX2_largestFree 43 = .ok (.ireturn, 1) := by decide +kernel
theorem dX2_freeAddress_0 : decode cX2_freeAddress 0 = .ok (.iconst 0, 1) := by decide +kernel
theorem dX2_freeAddress_1 : decode cX2_freeAddress 1 = .ok (.istore_n 2, 1) := by decide +kernel
theorem dX2_freeAddress_2 : decode cX2_freeAddress 2 = .ok (.iconst 0, 1) := by decide +kernel
theorem dX2_freeAddress_3 : decode cX2_freeAddress 3 = .ok (.istore_n 3, 1) := by decide +kernel
theorem dX2_freeAddress_4 : decode cX2_freeAddress 4 = .ok (.iload_n 3, 1) := by decide +kernel
theorem dX2_freeAddress_5 : decode cX2_freeAddress 5 = .ok (.aload_n 0, 1) := by decide +kernel
theorem dX2_freeAddress_6 : decode cX2_freeAddress 6 = .ok (.getfield 21, 3) := by decide +kernel
theorem dX2_freeAddress_9 : decode cX2_freeAddress 9 = .ok (.if_icmp .ge 33, 3) := by decide +kernel
theorem dX2_freeAddress_12 : decode cX2_freeAddress 12 = .ok (.aload_n 0, 1) := by decide +kernel
theorem dX2_freeAddress_13 : decode cX2_freeAddress 13 = .ok (.getfield 18, 3) := by decide +kernel
theorem dX2_freeAddress_16 : decode cX2_freeAddress 16 = .ok (.iload_n 3, 1) := by decide +kernel
theorem dX2_freeAddress_17 : decode cX2_freeAddress 17 = .ok (.iaload, 1) := by decide +kernel
theorem dX2_freeAddress_18 : decode cX2_freeAddress 18 = .ok (.ifCond .ne 18, 3) := by decide +kernel
theorem dX2_freeAddress_21 : decode cX2_freeAddress 21 = .ok (.iload_n 2, 1) := by decide +kernel
theorem dX2_freeAddress_22 : decode cX2_freeAddress 22 = .ok (.iload_n 1, 1) := by decide +kernel
theorem dX2_freeAddress_23 : decode cX2_freeAddress 23 = .ok (.if_icmp .ne 10, 3) := by decide +kernel
theorem dX2_freeAddress_26 : decode cX2_freeAddress 26 = .ok (.aload_n 0, 1) := by decide +kernel
theorem dX2_freeAddress_27 : decode cX2_freeAddress 27 = .ok (.getfield 9, 3) := by decide +kernel
theorem dX2_freeAddress_30 : decode cX2_freeAddress 30 = .ok (.iload_n 3, 1) := by decide +kernel
theorem dX2_freeAddress_31 : decode cX2_freeAddress 31 = .ok (.iaload, 1) := by decide +kernel
theorem dX2_freeAddress_32 : decode cX2_freeAddress 32 = .ok (.ireturn, 1) := by decide +kernel
theorem dX2_freeAddress_33 : decode cX2_freeAddress 33 = .ok (.iinc 2 1, 3) := by decide +kernel
theorem dX2_freeAddress_36 : decode cX2_freeAddress 36 = .ok (.iinc 3 1, 3) := by decide +kernel
theorem dX2_freeAddress_39 : decode cX2_freeAddress 39 = .ok (.goto (-35), 3) := by decide +kernel
theorem dX2_freeAddress_42 : decode cX2_freeAddress 42 = .ok (.iconst (-1), 1) := by decide +kernel
theorem dX2_freeAddress_43 : decode cX2_freeAddress 43 = .ok (.ireturn, 1) := by decide +kernel
theorem dX2_freeBehind_0 : decode cX2_freeBehind 0 = .ok (.aload_n 0, 1) := by decide +kernel
theorem dX2_freeBehind_1 : decode cX2_freeBehind 1 = .ok (.iload_n 1, 1) := by decide +kernel
theorem dX2_freeBehind_2 : decode cX2_freeBehind 2 = .ok (.iconst 1, 1) := by decide +kernel
theorem dX2_freeBehind_3 : decode cX2_freeBehind 3 = .ok (.iadd, 1) := by decide +kernel
theorem dX2_freeBehind_4 : decode cX2_freeBehind 4 = .ok (.invokevirtual 39, 3) := by decide +kernel
theorem dX2_freeBehind_7 : decode cX2_freeBehind 7 = .ok (.ifCond .eq 14, 3) := by decide +kernel
theorem dX2_freeBehind_10 : decode cX2_freeBehind 10 = .ok (.aload_n 0, 1) := by decide +kernel
theorem dX2_freeBehind_11 : decode cX2_freeBehind 11 = .ok (.getfield 15, 3) := by decide +kernel
theorem dX2_freeBehind_14 : decode cX2_freeBehind 14 = .ok (.iload_n 1, 1) := by decide +kernel
theorem dX2_freeBehind_15 : decode cX2_freeBehind 15 = .ok (.iconst 1, 1) := by decide +kernel
theorem dX2_freeBehind_16 : decode cX2_freeBehind 16 = .ok (.iadd, 1) := by decide +kernel
theorem dX2_freeBehind_17 : decode cX2_freeBehind 17 = .ok (.iaload, 1) := by decide +kernel
theorem dX2_freeBehind_18 : decode cX2_freeBehind 18 = .ok (.goto 4, 3) := by decide +kernel
theorem dX2_freeBehind_21 : decode cX2_freeBehind 21 = .ok (.iconst 0, 1) := by decide +kernel
theorem dX2_freeBehind_22 : decode cX2_freeBehind 22 = .ok (.ireturn, 1) := by decide +kernel
theorem dX2_carve_0 : decode cX2_carve 0 = .ok (.iload_n 2, 1) := by decide +kernel
theorem dX2_carve_1 : decode cX2_carve 1 = .ok (.aload_n 0, 1) := by decide +kernel
theorem dX2_carve_2 : decode cX2_carve 2 = .ok (.getfield 9, 3) := by decide +kernel
theorem dX2_carve_5 : decode cX2_carve 5 = .ok (.iload_n 1, 1) := by decide +kernel
theorem dX2_carve_6 : decode cX2_carve 6 = .ok (.iaload, 1) := by decide +kernel
theorem dX2_carve_7 : decode cX2_carve 7 = .ok (.isub, 1) := by decide +kernel
theorem dX2_carve_8 : decode cX2_carve 8 = .ok (.istore 4, 2) := by decide +kernel
theorem dX2_carve_10 : decode cX2_carve 10 = .ok (.iload_n 1, 1) := by decide +kernel
theorem dX2_carve_11 : decode cX2_carve 11 = .ok (.istore 5, 2) := by decide +kernel
theorem dX2_carve_13 : decode cX2_carve 13 = .ok (.iload 4, 2) := by decide +kernel
theorem dX2_carve_15 : decode cX2_carve 15 = .ok (.ifCond .le 15, 3) := by decide +kernel
theorem dX2_carve_18 : decode cX2_carve 18 = .ok (.aload_n 0, 1) := by decide +kernel
theorem dX2_carve_19 : decode cX2_carve 19 = .ok (.iload_n 1, 1) := by decide +kernel
theorem dX2_carve_20 : decode cX2_carve 20 = .ok (.iload 4, 2) := by decide +kernel
theorem dX2_carve_22 : decode cX2_carve 22 = .ok (.invokevirtual 43, 3) := by decide +kernel
theorem dX2_carve_25 : decode cX2_carve 25 = .ok (.iload_n 1, 1) := by decide +kernel
theorem dX2_carve_26 : decode cX2_carve 26 = .ok (.iconst 1, 1) := by decide +kernel
theorem dX2_carve_27 : decode cX2_carve 27 = .ok (.iadd, 1) := by decide +kernel
theorem dX2_carve_28 : decode cX2_carve 28 = .ok (.istore 5, 2) := by decide +kernel
theorem dX2_carve_30 : decode cX2_carve 30 = .ok (.aload_n 0, 1) := by decide +kernel
theorem dX2_carve_31 : decode cX2_carve 31 = .ok (.iload 5, 2) := by decide +kernel
theorem dX2_carve_33 : decode cX2_carve 33 = .ok (.iload_n 3, 1) := by decide +kernel
theorem dX2_carve_34 : decode cX2_carve 34 = .ok (.invokevirtual 43, 3) := by decide +kernel
theorem dX2_carve_37 : decode cX2_carve 37 = .ok (.aload_n 0, 1) := by decide +kernel
theorem dX2_carve_38 : decode cX2_carve 38 = .ok (.getfield 18, 3) := by decide +kernel
theorem dX2_carve_41 : decode cX2_carve 41 = .ok (.iload 5, 2) := by decide +kernel
theorem dX2_carve_43 : decode cX2_carve 43 = .ok (.iconst 1, 1) := by decide +kernel
theorem dX2_carve_44 : decode cX2_carve 44 = .ok (.iastore, 1) := by decide +kernel
theorem dX2_carve_45 : decode cX2_carve 45 = .ok (.return_, 1) := by decide +kernel
theorem dX2_release_0 : decode cX2_release 0 = .ok (.aload_n 0, 1) := by decide +kernel
theorem dX2_release_1 : decode cX2_release 1 = .ok (.getfield 18, 3) := by decide +kernel
theorem dX2_release_4 : decode cX2_release 4 = .ok (.iload_n 1, 1) := by decide +kernel
theorem dX2_release_5 : decode cX2_release 5 = .ok (.iconst 0, 1) := by decide +kernel
theorem dX2_release_6 : decode cX2_release 6 = .ok (.iastore, 1) := by decide +kernel
theorem dX2_release_7 : decode cX2_release 7 = .ok (.aload_n 0, 1) := by decide +kernel
theorem dX2_release_8 : decode cX2_release 8 = .ok (.iload_n 1, 1) := by decide +kernel
theorem dX2_release_9 : decode cX2_release 9 = .ok (.iconst 1, 1) := by decide +kernel
theorem dX2_release_10 : decode cX2_release 10 = .ok (.iadd, 1) := by decide +kernel
theorem dX2_release_11 : decode cX2_release 11 = .ok (.invokevirtual 39, 3) := by decide +kernel
theorem dX2_release_14 : decode cX2_release 14 = .ok (.ifCond .eq 8, 3) := by decide +kernel
theorem dX2_release_17 : decode cX2_release 17 = .ok (.aload_n 0, 1) := by decide +kernel
theorem dX2_release_18 : decode cX2_release 18 = .ok (.iload_n 1, 1) := by decide +kernel
theorem dX2_release_19 : decode cX2_release 19 = .ok (.invokevirtual 47, 3) := by decide +kernel
theorem dX2_release_22 : decode cX2_release 22 = .ok (.aload_n 0, 1) := by decide +kernel
theorem dX2_release_23 : decode cX2_release 23 = .ok (.iload_n 1, 1) := by decide +kernel
theorem dX2_release_24 : decode cX2_release 24 = .ok (.iconst 1, 1) := by decide +kernel
theorem dX2_release_25 : decode cX2_release 25 = .ok (.isub, 1) := by decide +kernel
theorem dX2_release_26 : decode cX2_release 26 = .ok (.invokevirtual 39, 3) := by decide +kernel
theorem dX2_release_29 : decode cX2_release 29 = .ok (.ifCond .eq 10, 3) := by decide +kernel
theorem dX2_release_32 : decode cX2_release 32 = .ok (.aload_n 0, 1) := by decide +kernel
theorem dX2_release_33 : decode cX2_release 33 = .ok (.iload_n 1, 1) := by decide +kernel
theorem dX2_release_34 : decode cX2_release 34 = .ok (.iconst 1, 1) := by decide +kernel
theorem dX2_release_35 : decode cX2_release 35 = .ok (.isub, 1) := by decide +kernel
theorem dX2_release_36 : decode cX2_release 36 = .ok (.invokevirtual 47, 3) := by decide +kernel
theorem dX2_release_39 : decode cX2_release 39 = .ok (.return_, 1) := by decide +kernel
theorem dX2_extend_0 : decode cX2_extend 0 = .ok (.aload_n 0, 1) := by decide +kernel
theorem dX2_extend_1 : decode cX2_extend 1 = .ok (.iload_n 1, 1) := by decide +kernel
theorem dX2_extend_2 : decode cX2_extend 2 = .ok (.iconst 1, 1) := by decide +kernel
theorem dX2_extend_3 : decode cX2_extend 3 = .ok (.iadd, 1) := by decide +kernel
theorem dX2_extend_4 : decode cX2_extend 4 = .ok (.iload_n 2, 1) := by decide +kernel
theorem dX2_extend_5 : decode cX2_extend 5 = .ok (.aload_n 0, 1) := by decide +kernel
theorem dX2_extend_6 : decode cX2_extend 6 = .ok (.getfield 15, 3) := by decide +kernel
theorem dX2_extend_9 : decode cX2_extend 9 = .ok (.iload_n 1, 1) := by decide +kernel
theorem dX2_extend_10 : decode cX2_extend 10 = .ok (.iaload, 1) := by decide +kernel
theorem dX2_extend_11 : decode cX2_extend 11 = .ok (.isub, 1) := by decide +kernel
theorem dX2_extend_12 : decode cX2_extend 12 = .ok (.invokevirtual 43, 3) := by decide +kernel
theorem dX2_extend_15 : decode cX2_extend 15 = .ok (.aload_n 0, 1) := by decide +kernel
theorem dX2_extend_16 : decode cX2_extend 16 = .ok (.iload_n 1, 1) := by decide +kernel
theorem dX2_extend_17 : decode cX2_extend 17 = .ok (.invokevirtual 47, 3) := by decide +kernel
theorem dX2_extend_20 : decode cX2_extend 20 = .ok (.return_, 1) := by decide +kernel
theorem dX2_shorten_0 : decode cX2_shorten 0 = .ok (.iload_n 2, 1) := by decide +kernel
theorem dX2_shorten_1 : decode cX2_shorten 1 = .ok (.aload_n 0, 1) := by decide +kernel
theorem dX2_shorten_2 : decode cX2_shorten 2 = .ok (.getfield 15, 3) := by decide +kernel
theorem dX2_shorten_5 : decode cX2_shorten 5 = .ok (.iload_n 1, 1) := by decide +kernel
theorem dX2_shorten_6 : decode cX2_shorten 6 = .ok (.iaload, 1) := by decide +kernel
theorem dX2_shorten_7 : decode cX2_shorten 7 = .ok (.if_icmp .ge 16, 3) := by decide +kernel
theorem dX2_shorten_10 : decode cX2_shorten 10 = .ok (.aload_n 0, 1) := by decide +kernel
theorem dX2_shorten_11 : decode cX2_shorten 11 = .ok (.iload_n 1, 1) := by decide +kernel
theorem dX2_shorten_12 : decode cX2_shorten 12 = .ok (.iload_n 2, 1) := by decide +kernel
theorem dX2_shorten_13 : decode cX2_shorten 13 = .ok (.invokevirtual 43, 3) := by decide +kernel
theorem dX2_shorten_16 : decode cX2_shorten 16 = .ok (.aload_n 0, 1) := by decide +kernel
theorem dX2_shorten_17 : decode cX2_shorten 17 = .ok (.iload_n 1, 1) := by decide +kernel
theorem dX2_shorten_18 : decode cX2_shorten 18 = .ok (.iconst 1, 1) := by decide +kernel
theorem dX2_shorten_19 : decode cX2_shorten 19 = .ok (.iadd, 1) := by decide +kernel
theorem dX2_shorten_20 : decode cX2_shorten 20 = .ok (.invokevirtual 51, 3) := by decide +kernel
theorem dX2_shorten_23 : decode cX2_shorten 23 = .ok (.return_, 1) := by decide +kernel
theorem dX2_isFree_0 : decode cX2_isFree 0 = .ok (.iload_n 1, 1) := by decide +kernel
theorem dX2_isFree_1 : decode cX2_isFree 1 = .ok (.ifCond .lt 24, 3) := by decide +kernel
theorem dX2_isFree_4 : decode cX2_isFree 4 = .ok (.iload_n 1, 1) := by decide +kernel
theorem dX2_isFree_5 : decode cX2_isFree 5 = .ok (.aload_n 0, 1) := by decide +kernel
theorem dX2_isFree_6 : decode cX2_isFree 6 = .ok (.getfield 21, 3) := by decide +kernel
theorem dX2_isFree_9 : decode cX2_isFree 9 = .ok (.if_icmp .ge 16, 3) := by decide +kernel
theorem dX2_isFree_12 : decode cX2_isFree 12 = .ok (.aload_n 0, 1) := by decide +kernel
theorem dX2_isFree_13 : decode cX2_isFree 13 = .ok (.getfield 18, 3) := by decide +kernel
theorem dX2_isFree_16 : decode cX2_isFree 16 = .ok (.iload_n 1, 1) := by decide +kernel
theorem dX2_isFree_17 : decode cX2_isFree 17 = .ok (.iaload, 1) := by decide +kernel
theorem dX2_isFree_18 : decode cX2_isFree 18 = .ok (.ifCond .ne 7, 3) := by decide +kernel
theorem dX2_isFree_21 : decode cX2_isFree 21 = .ok (.iconst 1, 1) := by decide +kernel
theorem dX2_isFree_22 : decode cX2_isFree 22 = .ok (.goto 4, 3) := by decide +kernel
theorem dX2_isFree_25 : decode cX2_isFree 25 = .ok (.iconst 0, 1) := by decide +kernel
theorem dX2_isFree_26 : decode cX2_isFree 26 = .ok (.ireturn, 1) := by decide +kernel
theorem dX2_split_0 : decode cX2_split 0 = .ok (.aload_n 0, 1) := by decide +kernel
theorem dX2_split_1 : decode cX2_split 1 = .ok (.getfield 15, 3) := by decide +kernel
theorem dX2_split_4 : decode cX2_split 4 = .ok (.iload_n 1, 1) := by decide +kernel
theorem dX2_split_5 : decode cX2_split 5 = .ok (.iaload, 1) := by decide +kernel
theorem dX2_split_6 : decode cX2_split 6 = .ok (.iload_n 2, 1) := by decide +kernel
theorem dX2_split_7 : decode cX2_split 7 = .ok (.isub, 1) := by decide +kernel
theorem dX2_split_8 : decode cX2_split 8 = .ok (.istore_n 3, 1) := by decide +kernel
theorem dX2_split_9 : decode cX2_split 9 = .ok (.iload_n 3, 1) := by decide +kernel
theorem dX2_split_10 : decode cX2_split 10 = .ok (.ifCond .gt 4, 3) := by decide +kernel
theorem dX2_split_13 : decode cX2_split 13 = .ok (.return_, 1) := by decide +kernel
theorem dX2_split_14 : decode cX2_split 14 = .ok (.aload_n 0, 1) := by decide +kernel
theorem dX2_split_15 : decode cX2_split 15 = .ok (.iload_n 1, 1) := by decide +kernel
theorem dX2_split_16 : decode cX2_split 16 = .ok (.iconst 1, 1) := by decide +kernel
theorem dX2_split_17 : decode cX2_split 17 = .ok (.iadd, 1) := by decide +kernel
theorem dX2_split_18 : decode cX2_split 18 = .ok (.iload_n 1, 1) := by decide +kernel
theorem dX2_split_19 : decode cX2_split 19 = .ok (.iconst 2, 1) := by decide +kernel
theorem dX2_split_20 : decode cX2_split 20 = .ok (.iadd, 1) := by decide +kernel
theorem dX2_split_21 : decode cX2_split 21 = .ok (.invokevirtual 54, 3) := by decide +kernel
theorem dX2_split_24 : decode cX2_split 24 = .ok (.aload_n 0, 1) := by decide +kernel
theorem dX2_split_25 : decode cX2_split 25 = .ok (.getfield 9, 3) := by decide +kernel
theorem dX2_split_28 : decode cX2_split 28 = .ok (.iload_n 1, 1) := by decide +kernel
theorem dX2_split_29 : decode cX2_split 29 = .ok (.iconst 1, 1) := by decide +kernel
theorem dX2_split_30 : decode cX2_split 30 = .ok (.iadd, 1) := by decide +kernel
theorem dX2_split_31 : decode cX2_split 31 = .ok (.aload_n 0, 1) := by decide +kernel
theorem dX2_split_32 : decode cX2_split 32 = .ok (.getfield 9, 3) := by decide +kernel
theorem dX2_split_35 : decode cX2_split 35 = .ok (.iload_n 1, 1) := by decide +kernel
theorem dX2_split_36 : decode cX2_split 36 = .ok (.iaload, 1) := by decide +kernel
theorem dX2_split_37 : decode cX2_split 37 = .ok (.iload_n 2, 1) := by decide +kernel
theorem dX2_split_38 : decode cX2_split 38 = .ok (.iadd, 1) := by decide +kernel
theorem dX2_split_39 : decode cX2_split 39 = .ok (.iastore, 1) := by decide +kernel
theorem dX2_split_40 : decode cX2_split 40 = .ok (.aload_n 0, 1) := by decide +kernel
theorem dX2_split_41 : decode cX2_split 41 = .ok (.getfield 15, 3) := by decide +kernel
theorem dX2_split_44 : decode cX2_split 44 = .ok (.iload_n 1, 1) := by decide +kernel
theorem dX2_split_45 : decode cX2_split 45 = .ok (.iconst 1, 1) := by decide +kernel
theorem dX2_split_46 : decode cX2_split 46 = .ok (.iadd, 1) := by decide +kernel
theorem dX2_split_47 : decode cX2_split 47 = .ok (.iload_n 3, 1) := by decide +kernel
theorem dX2_split_48 : decode cX2_split 48 = .ok (.iastore, 1) := by decide +kernel
theorem dX2_split_49 : decode cX2_split 49 = .ok (.aload_n 0, 1) := by decide +kernel
theorem dX2_split_50 : decode cX2_split 50 = .ok (.getfield 18, 3) := by decide +kernel
theorem dX2_split_53 : decode cX2_split 53 = .ok (.iload_n 1, 1) := by decide +kernel
theorem dX2_split_54 : decode cX2_split 54 = .ok (.iconst 1, 1) := by decide +kernel
theorem dX2_split_55 : decode cX2_split 55 = .ok (.iadd, 1) := by decide +kernel
theorem dX2_split_56 : decode cX2_split 56 = .ok (.aload_n 0, 1) := by decide +kernel
theorem dX2_split_57 : decode cX2_split 57 = .ok (.getfield 18, 3) := by decide +kernel
theorem dX2_split_60 : decode cX2_split 60 = .ok (.iload_n 1, 1) := by decide +kernel
theorem dX2_split_61 : decode cX2_split 61 = .ok (.iaload, 1) := by decide +kernel
theorem dX2_split_62 : decode cX2_split 62 = .ok (.iastore, 1) := by decide +kernel
theorem dX2_split_63 : decode cX2_split 63 = .ok (.aload_n 0, 1) := by decide +kernel
theorem dX2_split_64 : decode cX2_split 64 = .ok (.getfield 15, 3) := by decide +kernel
theorem dX2_split_67 : decode cX2_split 67 = .ok (.iload_n 1, 1) := by decide +kernel
theorem dX2_split_68 : decode cX2_split 68 = .ok (.iload_n 2, 1) := by decide +kernel
theorem dX2_split_69 : decode cX2_split 69 = .ok (.iastore, 1) := by decide +kernel
theorem dX2_split_70 : decode cX2_split 70 = .ok (.return_, 1) := by decide +kernel
theorem dX2_join_0 : decode cX2_join 0 = .ok (.aload_n 0, 1) := by decide +kernel
theorem dX2_join_1 : decode cX2_join 1 = .ok (.getfield 15, 3) := by decide +kernel
theorem dX2_join_4 : decode cX2_join 4 = .ok (.iload_n 1, 1) := by decide +kernel
theorem dX2_join_5 : decode cX2_join 5 = .ok (.dup2, 1) := by decide +kernel
theorem dX2_join_6 : decode cX2_join 6 = .ok (.iaload, 1) := by decide +kernel
theorem dX2_join_7 : decode cX2_join 7 = .ok (.aload_n 0, 1) := by decide +kernel
theorem dX2_join_8 : decode cX2_join 8 = .ok (.getfield 15, 3) := by decide +kernel
theorem dX2_join_11 : decode cX2_join 11 = .ok (.iload_n 1, 1) := by decide +kernel
theorem dX2_join_12 : decode cX2_join 12 = .ok (.iconst 1, 1) := by decide +kernel
theorem dX2_join_13 : decode cX2_join 13 = .ok (.iadd, 1) := by decide +kernel
theorem dX2_join_14 : decode cX2_join 14 = .ok (.iaload, 1) := by decide +kernel
theorem dX2_join_15 : decode cX2_join 15 = .ok (.iadd, 1) := by decide +kernel
theorem dX2_join_16 : decode cX2_join 16 = .ok (.iastore, 1) := by decide +kernel
theorem dX2_join_17 : decode cX2_join 17 = .ok (.aload_n 0, 1) := by decide +kernel
theorem dX2_join_18 : decode cX2_join 18 = .ok (.iload_n 1, 1) := by decide +kernel
theorem dX2_join_19 : decode cX2_join 19 = .ok (.iconst 2, 1) := by decide +kernel
theorem dX2_join_20 : decode cX2_join 20 = .ok (.iadd, 1) := by decide +kernel
theorem dX2_join_21 : decode cX2_join 21 = .ok (.iload_n 1, 1) := by decide +kernel
theorem dX2_join_22 : decode cX2_join 22 = .ok (.iconst 1, 1) := by decide +kernel
theorem dX2_join_23 : decode cX2_join 23 = .ok (.iadd, 1) := by decide +kernel
theorem dX2_join_24 : decode cX2_join 24 = .ok (.invokevirtual 54, 3) := by decide +kernel
theorem dX2_join_27 : decode cX2_join 27 = .ok (.return_, 1) := by decide +kernel
theorem dX2_shift_0 : decode cX2_shift 0 = .ok (.aload_n 0, 1) := by decide +kernel
theorem dX2_shift_1 : decode cX2_shift 1 = .ok (.getfield 21, 3) := by decide +kernel
theorem dX2_shift_4 : decode cX2_shift 4 = .ok (.iload_n 1, 1) := by decide +kernel
theorem dX2_shift_5 : decode cX2_shift 5 = .ok (.isub, 1) := by decide +kernel
theorem dX2_shift_6 : decode cX2_shift 6 = .ok (.istore_n 3, 1) := by decide +kernel
theorem dX2_shift_7 : decode cX2_shift 7 = .ok (.aload_n 0, 1) := by decide +kernel
theorem dX2_shift_8 : decode cX2_shift 8 = .ok (.getfield 9, 3) := by decide +kernel
theorem dX2_shift_11 : decode cX2_shift 11 = .ok (.iload_n 1, 1) := by decide +kernel
theorem dX2_shift_12 : decode cX2_shift 12 = .ok (.aload_n 0, 1) := by decide +kernel
theorem dX2_shift_13 : decode cX2_shift 13 = .ok (.getfield 9, 3) := by decide +kernel
theorem dX2_shift_16 : decode cX2_shift 16 = .ok (.iload_n 2, 1) := by decide +kernel
theorem dX2_shift_17 : decode cX2_shift 17 = .ok (.iload_n 3, 1) := by decide +kernel
theorem dX2_shift_18 : decode cX2_shift 18 = .ok (.invokestatic 57, 3) := by decide +kernel
theorem dX2_shift_21 : decode cX2_shift 21 = .ok (.aload_n 0, 1) := by decide +kernel
theorem dX2_shift_22 : decode cX2_shift 22 = .ok (.getfield 15, 3) := by decide +kernel
theorem dX2_shift_25 : decode cX2_shift 25 = .ok (.iload_n 1, 1) := by decide +kernel
theorem dX2_shift_26 : decode cX2_shift 26 = .ok (.aload_n 0, 1) := by decide +kernel
theorem dX2_shift_27 : decode cX2_shift 27 = .ok (.getfield 15, 3) := by decide +kernel
theorem dX2_shift_30 : decode cX2_shift 30 = .ok (.iload_n 2, 1) := by decide +kernel
theorem dX2_shift_31 : decode cX2_shift 31 = .ok (.iload_n 3, 1) := by decide +kernel
theorem dX2_shift_32 : decode cX2_shift 32 = .ok (.invokestatic 57, 3) := by decide +kernel
theorem dX2_shift_35 : decode cX2_shift 35 = .ok (.aload_n 0, 1) := by decide +kernel
theorem dX2_shift_36 : decode cX2_shift 36 = .ok (.getfield 18, 3) := by decide +kernel
theorem dX2_shift_39 : decode cX2_shift 39 = .ok (.iload_n 1, 1) := by decide +kernel
theorem dX2_shift_40 : decode cX2_shift 40 = .ok (.aload_n 0, 1) := by decide +kernel
theorem dX2_shift_41 : decode cX2_shift 41 = .ok (.getfield 18, 3) := by decide +kernel
theorem dX2_shift_44 : decode cX2_shift 44 = .ok (.iload_n 2, 1) := by decide +kernel
theorem dX2_shift_45 : decode cX2_shift 45 = .ok (.iload_n 3, 1) := by decide +kernel
theorem dX2_shift_46 : decode cX2_shift 46 = .ok (.invokestatic 57, 3) := by decide +kernel
theorem dX2_shift_49 : decode cX2_shift 49 = .ok (.aload_n 0, 1) := by decide +kernel
theorem dX2_shift_50 : decode cX2_shift 50 = .ok (.dup, 1) := by decide +kernel
theorem dX2_shift_51 : decode cX2_shift 51 = .ok (.getfield 21, 3) := by decide +kernel
theorem dX2_shift_54 : decode cX2_shift 54 = .ok (.iload_n 2, 1) := by decide +kernel
theorem dX2_shift_55 : decode cX2_shift 55 = .ok (.iload_n 1, 1) := by decide +kernel
theorem dX2_shift_56 : decode cX2_shift 56 = .ok (.isub, 1) := by decide +kernel
theorem dX2_shift_57 : decode cX2_shift 57 = .ok (.iadd, 1) := by decide +kernel
theorem dX2_shift_58 : decode cX2_shift 58 = .ok (.putfield 21, 3) := by decide +kernel
theorem dX2_shift_61 : decode cX2_shift 61 = .ok (.return_, 1) := by decide +kernel
theorem dX3_init_0 : decode cX3_init 0 = .ok (.aload_n 0, 1) := by decide +kernel
theorem dX3_init_1 : decode cX3_init 1 = .ok (.invokespecial 3, 3) := by decide +kernel
theorem dX3_init_4 : decode cX3_init 4 = .ok (.aload_n 0, 1) := by decide +kernel
theorem dX3_init_5 : decode cX3_init 5 = .ok (.aload_n 1, 1) := by decide +kernel
theorem dX3_init_6 : decode cX3_init 6 = .ok (.putfield 9, 3) := by decide +kernel
theorem dX3_init_9 : decode cX3_init 9 = .ok (.aload_n 0, 1) := by decide +kernel
theorem dX3_init_10 : decode cX3_init 10 = .ok (.iload_n 2, 1) := by decide +kernel
theorem dX3_init_11 : decode cX3_init 11 = .ok (.newarray .int, 2) := by decide +kernel
theorem dX3_init_13 : decode cX3_init 13 = .ok (.putfield 15, 3) := by decide +kernel
theorem dX3_init_16 : decode cX3_init 16 = .ok (.aload_n 0, 1) := by decide +kernel
theorem dX3_init_17 : decode cX3_init 17 = .ok (.iload_n 2, 1) := by decide +kernel
theorem dX3_init_18 : decode cX3_init 18 = .ok (.newarray .int, 2) := by decide +kernel
theorem dX3_init_20 : decode cX3_init 20 = .ok (.putfield 19, 3) := by decide +kernel
theorem dX3_init_23 : decode cX3_init 23 = .ok (.return_, 1) := by decide +kernel
theorem dX3_depth_0 : decode cX3_depth 0 = .ok (.iconst 0, 1) := by decide +kernel
theorem dX3_depth_1 : decode cX3_depth 1 = .ok (.istore_n 1, 1) := by decide +kernel
theorem dX3_depth_2 : decode cX3_depth 2 = .ok (.iconst 0, 1) := by decide +kernel
theorem dX3_depth_3 : decode cX3_depth 3 = .ok (.istore_n 2, 1) := by decide +kernel
theorem dX3_depth_4 : decode cX3_depth 4 = .ok (.iload_n 2, 1) := by decide +kernel
theorem dX3_depth_5 : decode cX3_depth 5 = .ok (.aload_n 0, 1) := by decide +kernel
theorem dX3_depth_6 : decode cX3_depth 6 = .ok (.getfield 9, 3) := by decide +kernel
theorem dX3_depth_9 : decode cX3_depth 9 = .ok (.getfield 22, 3) := by decide +kernel
theorem dX3_depth_12 : decode cX3_depth 12 = .ok (.if_icmp .ge 84, 3) := by decide +kernel
theorem dX3_depth_15 : decode cX3_depth 15 = .ok (.aload_n 0, 1) := by decide +kernel
theorem dX3_depth_16 : decode cX3_depth 16 = .ok (.getfield 9, 3) := by decide +kernel
theorem dX3_depth_19 : decode cX3_depth 19 = .ok (.getfield 28, 3) := by decide +kernel
theorem dX3_depth_22 : decode cX3_depth 22 = .ok (.iload_n 2, 1) := by decide +kernel
theorem dX3_depth_23 : decode cX3_depth 23 = .ok (.iaload, 1) := by decide +kernel
theorem dX3_depth_24 : decode cX3_depth 24 = .ok (.ifCond .ne 66, 3) := by decide +kernel
theorem dX3_depth_27 : decode cX3_depth 27 = .ok (.iload_n 1, 1) := by decide +kernel
theorem dX3_depth_28 : decode cX3_depth 28 = .ok (.istore_n 3, 1) := by decide +kernel
theorem dX3_depth_29 : decode cX3_depth 29 = .ok (.iload_n 3, 1) := by decide +kernel
theorem dX3_depth_30 : decode cX3_depth 30 = .ok (.ifCond .le 29, 3) := by decide +kernel
theorem dX3_depth_33 : decode cX3_depth 33 = .ok (.aload_n 0, 1) := by decide +kernel
theorem dX3_depth_34 : decode cX3_depth 34 = .ok (.getfield 15, 3) := by decide +kernel
theorem dX3_depth_37 : decode cX3_depth 37 = .ok (.iload_n 3, 1) := by decide +kernel
theorem dX3_depth_38 : decode cX3_depth 38 = .ok (.iconst 1, 1) := by decide +kernel
theorem dX3_depth_39 : decode cX3_depth 39 = .ok (.isub, 1) := by decide +kernel
theorem dX3_depth_40 : decode cX3_depth 40 = .ok (.iaload, 1) := by decide +kernel
theorem dX3_depth_41 : decode cX3_depth 41 = .ok (.aload_n 0, 1) := by decide +kernel
theorem dX3_depth_42 : decode cX3_depth 42 = .ok (.getfield 9, 3) := by decide +kernel
theorem dX3_depth_45 : decode cX3_depth 45 = .ok (.getfield 31, 3) := by decide +kernel
theorem dX3_depth_48 : decode cX3_depth 48 = .ok (.iload_n 2, 1) := by decide +kernel
theorem dX3_depth_49 : decode cX3_depth 49 = .ok (.iaload, 1) := by decide +kernel
theorem dX3_depth_50 : decode cX3_depth 50 = .ok (.if_icmp .ge 9, 3) := by decide +kernel
theorem dX3_depth_53 : decode cX3_depth 53 = .ok (.iinc 3 (-1), 3) := by decide +kernel
theorem dX3_depth_56 : decode cX3_depth 56 = .ok (.goto (-27), 3) := by decide +kernel
theorem dX3_depth_59 : decode cX3_depth 59 = .ok (.aload_n 0, 1) := by decide +kernel
theorem dX3_depth_60 : decode cX3_depth 60 = .ok (.getfield 19, 3) := by decide +kernel
theorem dX3_depth_63 : decode cX3_depth 63 = .ok (.iload_n 3, 1) := by decide +kernel
theorem dX3_depth_64 : decode cX3_depth 64 = .ok (.aload_n 0, 1) := by decide +kernel
theorem dX3_depth_65 : decode cX3_depth 65 = .ok (.iload_n 3, 1) := by decide +kernel
theorem dX3_depth_66 : decode cX3_depth 66 = .ok (.iload_n 1, 1) := by decide +kernel
theorem dX3_depth_67 : decode cX3_depth 67 = .ok (.invokevirtual 34, 3) := by decide +kernel
theorem dX3_depth_70 : decode cX3_depth 70 = .ok (.iastore, 1) := by decide +kernel
theorem dX3_depth_71 : decode cX3_depth 71 = .ok (.aload_n 0, 1) := by decide +kernel
theorem dX3_depth_72 : decode cX3_depth 72 = .ok (.getfield 15, 3) := by decide +kernel
theorem dX3_depth_75 : decode cX3_depth 75 = .ok (.iload_n 3, 1) := by decide +kernel
theorem dX3_depth_76 : decode cX3_depth 76 = .ok (.aload_n 0, 1) := by decide +kernel
theorem dX3_depth_77 : decode cX3_depth 77 = .ok (.getfield 9, 3) := by decide +kernel
theorem dX3_depth_80 : decode cX3_depth 80 = .ok (.getfield 31, 3) := by decide +kernel
theorem dX3_depth_83 : decode cX3_depth 83 = .ok (.iload_n 2, 1) := by decide +kernel
theorem dX3_depth_84 : decode cX3_depth 84 = .ok (.iaload, 1) := by decide +kernel
theorem dX3_depth_85 : decode cX3_depth 85 = .ok (.iastore, 1) := by decide +kernel
theorem dX3_depth_86 : decode cX3_depth 86 = .ok (.iload_n 3, 1) := by decide +kernel
theorem dX3_depth_87 : decode cX3_depth 87 = .ok (.iconst 1, 1) := by decide +kernel
theorem dX3_depth_88 : decode cX3_depth 88 = .ok (.iadd, 1) := by decide +kernel
theorem dX3_depth_89 : decode cX3_depth 89 = .ok (.istore_n 1, 1) := by decide +kernel
theorem dX3_depth_90 : decode cX3_depth 90 = .ok (.iinc 2 1, 3) := by decide +kernel
theorem dX3_depth_93 : decode cX3_depth 93 = .ok (.goto (-89), 3) := by decide +kernel
theorem dX3_depth_96 : decode cX3_depth 96 = .ok (.aload_n 0, 1) := by decide +kernel
theorem dX3_depth_97 : decode cX3_depth 97 = .ok (.iconst 0, 1) := by decide +kernel
theorem dX3_depth_98 : decode cX3_depth 98 = .ok (.iload_n 1, 1) := by decide +kernel
theorem dX3_depth_99 : decode cX3_depth 99 = .ok (.invokevirtual 34, 3) := by decide +kernel
theorem dX3_depth_102 : decode cX3_depth 102 = .ok (.ireturn, 1) := by decide +kernel
theorem dX3_depthOfSpine_0 : decode cX3_depthOfSpine 0 = .ok (.iconst 0, 1) := by decide +kernel
theorem dX3_depthOfSpine_1 : decode cX3_depthOfSpine 1 = .ok (.istore_n 3, 1) := by decide +kernel
theorem dX3_depthOfSpine_2 : decode cX3_depthOfSpine 2 = .ok (.iload_n 2, 1) := by decide +kernel
theorem dX3_depthOfSpine_3 : decode cX3_depthOfSpine 3 = .ok (.iconst 1, 1) := by decide +kernel
theorem dX3_depthOfSpine_4 : decode cX3_depthOfSpine 4 = .ok (.isub, 1) := by decide +kernel
theorem dX3_depthOfSpine_5 : decode cX3_depthOfSpine 5 = .ok (.istore 4, 2) := by decide +kernel
theorem dX3_depthOfSpine_7 : decode cX3_depthOfSpine 7 = .ok (.iload 4, 2) := by decide +kernel
theorem dX3_depthOfSpine_9 : decode cX3_depthOfSpine 9 = .ok (.iload_n 1, 1) := by decide +kernel
theorem dX3_depthOfSpine_10 : decode cX3_depthOfSpine 10 = .ok (.if_icmp .lt 23, 3) := by decide +kernel
theorem dX3_depthOfSpine_13 : decode cX3_depthOfSpine 13 = .ok (.iconst 1, 1) := by decide +kernel
theorem dX3_depthOfSpine_14 : decode cX3_depthOfSpine 14 = .ok (.iload_n 3, 1) := by decide +kernel
theorem dX3_depthOfSpine_15 : decode cX3_depthOfSpine 15 = .ok (.aload_n 0, 1) := by decide +kernel
theorem dX3_depthOfSpine_16 : decode cX3_depthOfSpine 16 = .ok (.getfield 19, 3) := by decide +kernel
theorem dX3_depthOfSpine_19 : decode cX3_depthOfSpine 19 = .ok (.iload 4, 2) := by decide +kernel
theorem dX3_depthOfSpine_21 : decode cX3_depthOfSpine 21 = .ok (.iaload, 1) := by decide +kernel
theorem dX3_depthOfSpine_22 : decode cX3_depthOfSpine 22 = .ok (.invokestatic 38, 3) := by decide +kernel
theorem dX3_depthOfSpine_25 : decode cX3_depthOfSpine 25 = .ok (.iadd, 1) := by decide +kernel
theorem dX3_depthOfSpine_26 : decode cX3_depthOfSpine 26 = .ok (.istore_n 3, 1) := by decide +kernel
theorem dX3_depthOfSpine_27 : decode cX3_depthOfSpine 27 = .ok (.iinc 4 (-1), 3) := by decide +kernel
theorem dX3_depthOfSpine_30 : decode cX3_depthOfSpine 30 = .ok (.goto (-23), 3) := by decide +kernel
theorem dX3_depthOfSpine_33 : decode cX3_depthOfSpine 33 = .ok (.iload_n 3, 1) := by decide +kernel
theorem dX3_depthOfSpine_34 : decode cX3_depthOfSpine 34 = .ok (.ireturn, 1) := by decide +kernel
theorem dX3_topToTheLeft_0 : decode cX3_topToTheLeft 0 = .ok (.iconst 0, 1) := by decide +kernel
theorem dX3_topToTheLeft_1 : decode cX3_topToTheLeft 1 = .ok (.istore_n 2, 1) := by decide +kernel
theorem dX3_topToTheLeft_2 : decode cX3_topToTheLeft 2 = .ok (.iconst 0, 1) := by decide +kernel
theorem dX3_topToTheLeft_3 : decode cX3_topToTheLeft 3 = .ok (.istore_n 3, 1) := by decide +kernel
theorem dX3_topToTheLeft_4 : decode cX3_topToTheLeft 4 = .ok (.iload_n 1, 1) := by decide +kernel
theorem dX3_topToTheLeft_5 : decode cX3_topToTheLeft 5 = .ok (.iconst 1, 1) := by decide +kernel
theorem dX3_topToTheLeft_6 : decode cX3_topToTheLeft 6 = .ok (.isub, 1) := by decide +kernel
theorem dX3_topToTheLeft_7 : decode cX3_topToTheLeft 7 = .ok (.istore 4, 2) := by decide +kernel
theorem dX3_topToTheLeft_9 : decode cX3_topToTheLeft 9 = .ok (.iload 4, 2) := by decide +kernel
theorem dX3_topToTheLeft_11 : decode cX3_topToTheLeft 11 = .ok (.ifCond .lt 83, 3) := by decide +kernel
theorem dX3_topToTheLeft_14 : decode cX3_topToTheLeft 14 = .ok (.aload_n 0, 1) := by decide +kernel
theorem dX3_topToTheLeft_15 : decode cX3_topToTheLeft 15 = .ok (.getfield 9, 3) := by decide +kernel
theorem dX3_topToTheLeft_18 : decode cX3_topToTheLeft 18 = .ok (.getfield 28, 3) := by decide +kernel
theorem dX3_topToTheLeft_21 : decode cX3_topToTheLeft 21 = .ok (.iload 4, 2) := by decide +kernel
theorem dX3_topToTheLeft_23 : decode cX3_topToTheLeft 23 = .ok (.iaload, 1) := by decide +kernel
theorem dX3_topToTheLeft_24 : decode cX3_topToTheLeft 24 = .ok (.ifCond .ne 64, 3) := by decide +kernel
theorem dX3_topToTheLeft_27 : decode cX3_topToTheLeft 27 = .ok (.aload_n 0, 1) := by decide +kernel
theorem dX3_topToTheLeft_28 : decode cX3_topToTheLeft 28 = .ok (.getfield 9, 3) := by decide +kernel
theorem dX3_topToTheLeft_31 : decode cX3_topToTheLeft 31 = .ok (.getfield 31, 3) := by decide +kernel
theorem dX3_topToTheLeft_34 : decode cX3_topToTheLeft 34 = .ok (.iload 4, 2) := by decide +kernel
theorem dX3_topToTheLeft_36 : decode cX3_topToTheLeft 36 = .ok (.iaload, 1) := by decide +kernel
theorem dX3_topToTheLeft_37 : decode cX3_topToTheLeft 37 = .ok (.aload_n 0, 1) := by decide +kernel
theorem dX3_topToTheLeft_38 : decode cX3_topToTheLeft 38 = .ok (.getfield 9, 3) := by decide +kernel
theorem dX3_topToTheLeft_41 : decode cX3_topToTheLeft 41 = .ok (.getfield 31, 3) := by decide +kernel
theorem dX3_topToTheLeft_44 : decode cX3_topToTheLeft 44 = .ok (.iload_n 1, 1) := by decide +kernel
theorem dX3_topToTheLeft_45 : decode cX3_topToTheLeft 45 = .ok (.iaload, 1) := by decide +kernel
theorem dX3_topToTheLeft_46 : decode cX3_topToTheLeft 46 = .ok (.if_icmp .lt 6, 3) := by decide +kernel
theorem dX3_topToTheLeft_49 : decode cX3_topToTheLeft 49 = .ok (.goto 45, 3) := by decide +kernel
theorem dX3_topToTheLeft_52 : decode cX3_topToTheLeft 52 = .ok (.aload_n 0, 1) := by decide +kernel
theorem dX3_topToTheLeft_53 : decode cX3_topToTheLeft 53 = .ok (.getfield 9, 3) := by decide +kernel
theorem dX3_topToTheLeft_56 : decode cX3_topToTheLeft 56 = .ok (.getfield 31, 3) := by decide +kernel
theorem dX3_topToTheLeft_59 : decode cX3_topToTheLeft 59 = .ok (.iload 4, 2) := by decide +kernel
theorem dX3_topToTheLeft_61 : decode cX3_topToTheLeft 61 = .ok (.iaload, 1) := by decide +kernel
theorem dX3_topToTheLeft_62 : decode cX3_topToTheLeft 62 = .ok (.iload_n 3, 1) := by decide +kernel
theorem dX3_topToTheLeft_63 : decode cX3_topToTheLeft 63 = .ok (.if_icmp .lt 25, 3) := by decide +kernel
theorem dX3_topToTheLeft_66 : decode cX3_topToTheLeft 66 = .ok (.aload_n 0, 1) := by decide +kernel
theorem dX3_topToTheLeft_67 : decode cX3_topToTheLeft 67 = .ok (.getfield 9, 3) := by decide +kernel
theorem dX3_topToTheLeft_70 : decode cX3_topToTheLeft 70 = .ok (.getfield 31, 3) := by decide +kernel
theorem dX3_topToTheLeft_73 : decode cX3_topToTheLeft 73 = .ok (.iload 4, 2) := by decide +kernel
theorem dX3_topToTheLeft_75 : decode cX3_topToTheLeft 75 = .ok (.iaload, 1) := by decide +kernel
theorem dX3_topToTheLeft_76 : decode cX3_topToTheLeft 76 = .ok (.istore_n 3, 1) := by decide +kernel
theorem dX3_topToTheLeft_77 : decode cX3_topToTheLeft 77 = .ok (.aload_n 0, 1) := by decide +kernel
theorem dX3_topToTheLeft_78 : decode cX3_topToTheLeft 78 = .ok (.getfield 9, 3) := by decide +kernel
theorem dX3_topToTheLeft_81 : decode cX3_topToTheLeft 81 = .ok (.getfield 43, 3) := by decide +kernel
theorem dX3_topToTheLeft_84 : decode cX3_topToTheLeft 84 = .ok (.iload 4, 2) := by decide +kernel
theorem dX3_topToTheLeft_86 : decode cX3_topToTheLeft 86 = .ok (.iaload, 1) := by decide +kernel
theorem dX3_topToTheLeft_87 : decode cX3_topToTheLeft 87 = .ok (.istore_n 2, 1) := by decide +kernel
theorem dX3_topToTheLeft_88 : decode cX3_topToTheLeft 88 = .ok (.iinc 4 (-1), 3) := by decide +kernel
theorem dX3_topToTheLeft_91 : decode cX3_topToTheLeft 91 = .ok (.goto (-82), 3) := by decide +kernel
theorem dX3_topToTheLeft_94 : decode cX3_topToTheLeft 94 = .ok (.iload_n 2, 1) := by decide +kernel
theorem dX3_topToTheLeft_95 : decode cX3_topToTheLeft 95 = .ok (.ireturn, 1) := by decide +kernel
theorem dX3_topToTheRight_0 : decode cX3_topToTheRight 0 = .ok (.iconst 0, 1) := by decide +kernel
theorem dX3_topToTheRight_1 : decode cX3_topToTheRight 1 = .ok (.istore_n 2, 1) := by decide +kernel
theorem dX3_topToTheRight_2 : decode cX3_topToTheRight 2 = .ok (.iconst 0, 1) := by decide +kernel
theorem dX3_topToTheRight_3 : decode cX3_topToTheRight 3 = .ok (.istore_n 3, 1) := by decide +kernel
theorem dX3_topToTheRight_4 : decode cX3_topToTheRight 4 = .ok (.iload_n 1, 1) := by decide +kernel
theorem dX3_topToTheRight_5 : decode cX3_topToTheRight 5 = .ok (.iconst 1, 1) := by decide +kernel
theorem dX3_topToTheRight_6 : decode cX3_topToTheRight 6 = .ok (.iadd, 1) := by decide +kernel
theorem dX3_topToTheRight_7 : decode cX3_topToTheRight 7 = .ok (.istore 4, 2) := by decide +kernel
theorem dX3_topToTheRight_9 : decode cX3_topToTheRight 9 = .ok (.iload 4, 2) := by decide +kernel
theorem dX3_topToTheRight_11 : decode cX3_topToTheRight 11 = .ok (.aload_n 0, 1) := by decide +kernel
theorem dX3_topToTheRight_12 : decode cX3_topToTheRight 12 = .ok (.getfield 9, 3) := by decide +kernel
theorem dX3_topToTheRight_15 : decode cX3_topToTheRight 15 = .ok (.getfield 22, 3) := by decide +kernel
theorem dX3_topToTheRight_18 : decode cX3_topToTheRight 18 = .ok (.if_icmp .ge 83, 3) := by decide +kernel
theorem dX3_topToTheRight_21 : decode cX3_topToTheRight 21 = .ok (.aload_n 0, 1) := by decide +kernel
theorem dX3_topToTheRight_22 : decode cX3_topToTheRight 22 = .ok (.getfield 9, 3) := by decide +kernel
theorem dX3_topToTheRight_25 : decode cX3_topToTheRight 25 = .ok (.getfield 28, 3) := by decide +kernel
theorem dX3_topToTheRight_28 : decode cX3_topToTheRight 28 = .ok (.iload 4, 2) := by decide +kernel
theorem dX3_topToTheRight_30 : decode cX3_topToTheRight 30 = .ok (.iaload, 1) := by decide +kernel
theorem dX3_topToTheRight_31 : decode cX3_topToTheRight 31 = .ok (.ifCond .ne 64, 3) := by decide +kernel
theorem dX3_topToTheRight_34 : decode cX3_topToTheRight 34 = .ok (.aload_n 0, 1) := by decide +kernel
theorem dX3_topToTheRight_35 : decode cX3_topToTheRight 35 = .ok (.getfield 9, 3) := by decide +kernel
theorem dX3_topToTheRight_38 : decode cX3_topToTheRight 38 = .ok (.getfield 31, 3) := by decide +kernel
theorem dX3_topToTheRight_41 : decode cX3_topToTheRight 41 = .ok (.iload 4, 2) := by decide +kernel
theorem dX3_topToTheRight_43 : decode cX3_topToTheRight 43 = .ok (.iaload, 1) := by decide +kernel
theorem dX3_topToTheRight_44 : decode cX3_topToTheRight 44 = .ok (.aload_n 0, 1) := by decide +kernel
theorem dX3_topToTheRight_45 : decode cX3_topToTheRight 45 = .ok (.getfield 9, 3) := by decide +kernel
theorem dX3_topToTheRight_48 : decode cX3_topToTheRight 48 = .ok (.getfield 31, 3) := by decide +kernel
theorem dX3_topToTheRight_51 : decode cX3_topToTheRight 51 = .ok (.iload_n 1, 1) := by decide +kernel
theorem dX3_topToTheRight_52 : decode cX3_topToTheRight 52 = .ok (.iaload, 1) := by decide +kernel
theorem dX3_topToTheRight_53 : decode cX3_topToTheRight 53 = .ok (.if_icmp .le 6, 3) := by decide +kernel
theorem dX3_topToTheRight_56 : decode cX3_topToTheRight 56 = .ok (.goto 45, 3) := by decide +kernel
theorem dX3_topToTheRight_59 : decode cX3_topToTheRight 59 = .ok (.aload_n 0, 1) := by decide +kernel
theorem dX3_topToTheRight_60 : decode cX3_topToTheRight 60 = .ok (.getfield 9, 3) := by decide +kernel
theorem dX3_topToTheRight_63 : decode cX3_topToTheRight 63 = .ok (.getfield 31, 3) := by decide +kernel
theorem dX3_topToTheRight_66 : decode cX3_topToTheRight 66 = .ok (.iload 4, 2) := by decide +kernel
theorem dX3_topToTheRight_68 : decode cX3_topToTheRight 68 = .ok (.iaload, 1) := by decide +kernel
theorem dX3_topToTheRight_69 : decode cX3_topToTheRight 69 = .ok (.iload_n 3, 1) := by decide +kernel
theorem dX3_topToTheRight_70 : decode cX3_topToTheRight 70 = .ok (.if_icmp .le 25, 3) := by decide +kernel
theorem dX3_topToTheRight_73 : decode cX3_topToTheRight 73 = .ok (.aload_n 0, 1) := by decide +kernel
theorem dX3_topToTheRight_74 : decode cX3_topToTheRight 74 = .ok (.getfield 9, 3) := by decide +kernel
theorem dX3_topToTheRight_77 : decode cX3_topToTheRight 77 = .ok (.getfield 31, 3) := by decide +kernel
theorem dX3_topToTheRight_80 : decode cX3_topToTheRight 80 = .ok (.iload 4, 2) := by decide +kernel
theorem dX3_topToTheRight_82 : decode cX3_topToTheRight 82 = .ok (.iaload, 1) := by decide +kernel
theorem dX3_topToTheRight_83 : decode cX3_topToTheRight 83 = .ok (.istore_n 3, 1) := by decide +kernel
theorem dX3_topToTheRight_84 : decode cX3_topToTheRight 84 = .ok (.aload_n 0, 1) := by decide +kernel
theorem dX3_topToTheRight_85 : decode cX3_topToTheRight 85 = .ok (.getfield 9, 3) := by decide +kernel
theorem dX3_topToTheRight_88 : decode cX3_topToTheRight 88 = .ok (.getfield 43, 3) := by decide +kernel
theorem dX3_topToTheRight_91 : decode cX3_topToTheRight 91 = .ok (.iload 4, 2) := by decide +kernel
theorem dX3_topToTheRight_93 : decode cX3_topToTheRight 93 = .ok (.iaload, 1) := by decide +kernel
theorem dX3_topToTheRight_94 : decode cX3_topToTheRight 94 = .ok (.istore_n 2, 1) := by decide +kernel
theorem dX3_topToTheRight_95 : decode cX3_topToTheRight 95 = .ok (.iinc 4 1, 3) := by decide +kernel
theorem dX3_topToTheRight_98 : decode cX3_topToTheRight 98 = .ok (.goto (-89), 3) := by decide +kernel
theorem dX3_topToTheRight_101 : decode cX3_topToTheRight 101 = .ok (.iload_n 2, 1) := by decide +kernel
theorem dX3_topToTheRight_102 : decode cX3_topToTheRight 102 = .ok (.ireturn, 1) := by decide +kernel
theorem dJ7_rangeCheck_23922_0 : decode cJ7_rangeCheck_23922 0 = .ok (.iload_n 1, 1) := by decide +kernel
theorem dJ7_rangeCheck_23922_1 : decode cJ7_rangeCheck_23922 1 = .ok (.iload_n 2, 1) := by decide +kernel
theorem dJ7_rangeCheck_23922_2 : decode cJ7_rangeCheck_23922 2 = .ok (.if_icmp .le 44, 3) := by decide +kernel
theorem dJ7_rangeCheck_23922_5 : decode cJ7_rangeCheck_23922 5 = .ok (.new 43, 3) := by decide +kernel
theorem dJ7_rangeCheck_23922_8 : decode cJ7_rangeCheck_23922 8 = .ok (.dup, 1) := by decide +kernel
theorem dJ7_rangeCheck_23922_9 : decode cJ7_rangeCheck_23922 9 = .ok (.new 45, 3) := by decide +kernel
theorem dJ7_rangeCheck_23922_12 : decode cJ7_rangeCheck_23922 12 = .ok (.dup, 1) := by decide +kernel
theorem dJ7_rangeCheck_23922_13 : decode cJ7_rangeCheck_23922 13 = .ok (.invokespecial 47, 3) := by decide +kernel
theorem dJ7_rangeCheck_23922_16 : decode cJ7_rangeCheck_23922 16 = .ok (.ldc 48, 2) := by decide +kernel
theorem dJ7_rangeCheck_23922_18 : decode cJ7_rangeCheck_23922 18 = .ok (.invokevirtual 50, 3) := by decide +kernel
theorem dJ7_rangeCheck_23922_21 : decode cJ7_rangeCheck_23922 21 = .ok (.iload_n 1, 1) := by decide +kernel
theorem dJ7_rangeCheck_23922_22 : decode cJ7_rangeCheck_23922 22 = .ok (.invokevirtual 54, 3) := by decide +kernel
theorem dJ7_rangeCheck_23922_25 : decode cJ7_rangeCheck_23922 25 = .ok (.ldc 57, 2) := by decide +kernel
theorem dJ7_rangeCheck_23922_27 : decode cJ7_rangeCheck_23922 27 = .ok (.invokevirtual 50, 3) := by decide +kernel
theorem dJ7_rangeCheck_23922_30 : decode cJ7_rangeCheck_23922 30 = .ok (.iload_n 2, 1) := by decide +kernel
theorem dJ7_rangeCheck_23922_31 : decode cJ7_rangeCheck_23922 31 = .ok (.invokevirtual 54, 3) := by decide +kernel
theorem dJ7_rangeCheck_23922_34 : decode cJ7_rangeCheck_23922 34 = .ok (.ldc 59, 2) := by decide +kernel
theorem dJ7_rangeCheck_23922_36 : decode cJ7_rangeCheck_23922 36 = .ok (.invokevirtual 50, 3) := by decide +kernel
theorem dJ7_rangeCheck_23922_39 : decode cJ7_rangeCheck_23922 39 = .ok (.invokevirtual 61, 3) := by decide +kernel
theorem dJ7_rangeCheck_23922_42 : decode cJ7_rangeCheck_23922 42 = .ok (.invokespecial 65, 3) := by decide +kernel
theorem dJ7_rangeCheck_23922_45 : decode cJ7_rangeCheck_23922 45 = .ok (.athrow, 1) := by decide +kernel
theorem dJ7_rangeCheck_23922_46 : decode cJ7_rangeCheck_23922 46 = .ok (.iload_n 1, 1) := by decide +kernel
theorem dJ7_rangeCheck_23922_47 : decode cJ7_rangeCheck_23922 47 = .ok (.ifCond .ge 12, 3) := by decide +kernel
theorem dJ7_rangeCheck_23922_50 : decode cJ7_rangeCheck_23922 50 = .ok (.new 68, 3) := by decide +kernel
theorem dJ7_rangeCheck_23922_53 : decode cJ7_rangeCheck_23922 53 = .ok (.dup, 1) := by decide +kernel
theorem dJ7_rangeCheck_23922_54 : decode cJ7_rangeCheck_23922 54 = .ok (.iload_n 1, 1) := by decide +kernel
theorem dJ7_rangeCheck_23922_55 : decode cJ7_rangeCheck_23922 55 = .ok (.invokespecial 70, 3) := by decide +kernel
theorem dJ7_rangeCheck_23922_58 : decode cJ7_rangeCheck_23922 58 = .ok (.athrow, 1) := by decide +kernel
theorem dJ7_rangeCheck_23922_59 : decode cJ7_rangeCheck_23922 59 = .ok (.iload_n 2, 1) := by decide +kernel
theorem dJ7_rangeCheck_23922_60 : decode cJ7_rangeCheck_23922 60 = .ok (.iload_n 0, 1) := by decide +kernel
theorem dJ7_rangeCheck_23922_61 : decode cJ7_rangeCheck_23922 61 = .ok (.if_icmp .le 12, 3) := by decide +kernel
theorem dJ7_rangeCheck_23922_64 : decode cJ7_rangeCheck_23922 64 = .ok (.new 68, 3) := by decide +kernel
theorem dJ7_rangeCheck_23922_67 : decode cJ7_rangeCheck_23922 67 = .ok (.dup, 1) := by decide +kernel
theorem dJ7_rangeCheck_23922_68 : decode cJ7_rangeCheck_23922 68 = .ok (.iload_n 2, 1) := by decide +kernel
theorem dJ7_rangeCheck_23922_69 : decode cJ7_rangeCheck_23922 69 = .ok (.invokespecial 70, 3) := by decide +kernel
theorem dJ7_rangeCheck_23922_72 : decode cJ7_rangeCheck_23922 72 = .ok (.athrow, 1) := by decide +kernel
theorem dJ7_rangeCheck_23922_73 : decode cJ7_rangeCheck_23922 73 = .ok (.return_, 1) := by decide +kernel
theorem dJ7_fill_fda19_0 : decode cJ7_fill_fda19 0 = .ok (.aload_n 0, 1) := by decide +kernel
theorem dJ7_fill_fda19_1 : decode cJ7_fill_fda19 1 = .ok (.arraylength, 1) := by decide +kernel
theorem dJ7_fill_fda19_2 : decode cJ7_fill_fda19 2 = .ok (.iload_n 1, 1) := by decide +kernel
theorem dJ7_fill_fda19_3 : decode cJ7_fill_fda19 3 = .ok (.iload_n 2, 1) := by decide +kernel
theorem dJ7_fill_fda19_4 : decode cJ7_fill_fda19 4 = .ok (.invokestatic 13, 3) := by decide +kernel
theorem dJ7_fill_fda19_7 : decode cJ7_fill_fda19 7 = .ok (.iload_n 1, 1) := by decide +kernel
theorem dJ7_fill_fda19_8 : decode cJ7_fill_fda19 8 = .ok (.istore 4, 2) := by decide +kernel
theorem dJ7_fill_fda19_10 : decode cJ7_fill_fda19 10 = .ok (.iload 4, 2) := by decide +kernel
theorem dJ7_fill_fda19_12 : decode cJ7_fill_fda19 12 = .ok (.iload_n 2, 1) := by decide +kernel
theorem dJ7_fill_fda19_13 : decode cJ7_fill_fda19 13 = .ok (.if_icmp .ge 14, 3) := by decide +kernel
theorem dJ7_fill_fda19_16 : decode cJ7_fill_fda19 16 = .ok (.aload_n 0, 1) := by decide +kernel
theorem dJ7_fill_fda19_17 : decode cJ7_fill_fda19 17 = .ok (.iload 4, 2) := by decide +kernel
theorem dJ7_fill_fda19_19 : decode cJ7_fill_fda19 19 = .ok (.iload_n 3, 1) := by decide +kernel
theorem dJ7_fill_fda19_20 : decode cJ7_fill_fda19 20 = .ok (.iastore, 1) := by decide +kernel
theorem dJ7_fill_fda19_21 : decode cJ7_fill_fda19 21 = .ok (.iinc 4 1, 3) := by decide +kernel
theorem dJ7_fill_fda19_24 : decode cJ7_fill_fda19 24 = .ok (.goto (-14), 3) := by decide +kernel
theorem dJ7_fill_fda19_27 : decode cJ7_fill_fda19 27 = .ok (.return_, 1) := by decide +kernel
