theorem dX11_within_0 : decode cX11_within 0 = .ok (.lload_n 0, 1) := by decide +kernel
theorem dX11_within_1 : decode cX11_within 1 = .ok (.lload_n 2, 1) := by decide +kernel
theorem dX11_within_2 : decode cX11_within 2 = .ok (.lcmp, 1) := by decide +kernel
theorem dX11_within_3 : decode cX11_within 3 = .ok (.ifCond .lt 14, 3) := by decide +kernel
theorem dX11_within_6 : decode cX11_within 6 = .ok (.lload_n 0, 1) := by decide +kernel
theorem dX11_within_7 : decode cX11_within 7 = .ok (.lload 4, 2) := by decide +kernel
theorem dX11_within_9 : decode cX11_within 9 = .ok (.lcmp, 1) := by decide +kernel
theorem dX11_within_10 : decode cX11_within 10 = .ok (.ifCond .gt 7, 3) := by decide +kernel
theorem dX11_within_13 : decode cX11_within 13 = .ok (.iconst 1, 1) := by decide +kernel
theorem dX11_within_14 : decode cX11_within 14 = .ok (.goto 4, 3) := by decide +kernel
theorem dX11_within_17 : decode cX11_within 17 = .ok (.iconst 0, 1) := by decide +kernel
theorem dX11_within_18 : decode cX11_within 18 = .ok (.ireturn, 1) := by decide +kernel
theorem dX11_init_0 : decode cX11_init 0 = .ok (.aload_n 0, 1) := by decide +kernel
theorem dX11_init_1 : decode cX11_init 1 = .ok (.invokespecial 7, 3) := by decide +kernel
theorem dX11_init_4 : decode cX11_init 4 = .ok (.aload_n 0, 1) := by decide +kernel
theorem dX11_init_5 : decode cX11_init 5 = .ok (.sipush 2982, 3) := by decide +kernel
theorem dX11_init_8 : decode cX11_init 8 = .ok (.newarray .int, 2) := by decide +kernel
theorem dX11_init_10 : decode cX11_init 10 = .ok (.putfield 13, 3) := by decide +kernel
theorem dX11_init_13 : decode cX11_init 13 = .ok (.aload_n 0, 1) := by decide +kernel
theorem dX11_init_14 : decode cX11_init 14 = .ok (.iconst 2, 1) := by decide +kernel
theorem dX11_init_15 : decode cX11_init 15 = .ok (.newarray .boolean, 2) := by decide +kernel
theorem dX11_init_17 : decode cX11_init 17 = .ok (.putfield 17, 3) := by decide +kernel
theorem dX11_init_20 : decode cX11_init 20 = .ok (.aload_n 0, 1) := by decide +kernel
theorem dX11_init_21 : decode cX11_init 21 = .ok (.sipush 900, 3) := by decide +kernel
theorem dX11_init_24 : decode cX11_init 24 = .ok (.newarray .int, 2) := by decide +kernel
theorem dX11_init_26 : decode cX11_init 26 = .ok (.putfield 21, 3) := by decide +kernel
theorem dX11_init_29 : decode cX11_init 29 = .ok (.aload_n 0, 1) := by decide +kernel
theorem dX11_init_30 : decode cX11_init 30 = .ok (.sipush 994, 3) := by decide +kernel
theorem dX11_init_33 : decode cX11_init 33 = .ok (.newarray .int, 2) := by decide +kernel
theorem dX11_init_35 : decode cX11_init 35 = .ok (.putfield 24, 3) := by decide +kernel
theorem dX11_init_38 : decode cX11_init 38 = .ok (.aload_n 0, 1) := by decide +kernel
theorem dX11_init_39 : decode cX11_init 39 = .ok (.iconst (-1), 1) := by decide +kernel
theorem dX11_init_40 : decode cX11_init 40 = .ok (.putfield 27, 3) := by decide +kernel
theorem dX11_init_43 : decode cX11_init 43 = .ok (.aload_n 0, 1) := by decide +kernel
theorem dX11_init_44 : decode cX11_init 44 = .ok (.sipush 900, 3) := by decide +kernel
theorem dX11_init_47 : decode cX11_init 47 = .ok (.newarray .int, 2) := by decide +kernel
theorem dX11_init_49 : decode cX11_init 49 = .ok (.putfield 30, 3) := by decide +kernel
theorem dX11_init_52 : decode cX11_init 52 = .ok (.aload_n 0, 1) := by decide +kernel
theorem dX11_init_53 : decode cX11_init 53 = .ok (.bipush 6, 2) := by decide +kernel
theorem dX11_init_55 : decode cX11_init 55 = .ok (.newarray .int, 2) := by decide +kernel
theorem dX11_init_57 : decode cX11_init 57 = .ok (.putfield 33, 3) := by decide +kernel
theorem dX11_init_60 : decode cX11_init 60 = .ok (.aload_n 0, 1) := by decide +kernel
theorem dX11_init_61 : decode cX11_init 61 = .ok (.iconst 5, 1) := by decide +kernel
theorem dX11_init_62 : decode cX11_init 62 = .ok (.newarray .int, 2) := by decide +kernel
theorem dX11_init_64 : decode cX11_init 64 = .ok (.putfield 36, 3) := by decide +kernel
theorem dX11_init_67 : decode cX11_init 67 = .ok (.aload_n 0, 1) := by decide +kernel
theorem dX11_init_68 : decode cX11_init 68 = .ok (.sipush 2880, 3) := by decide +kernel
theorem dX11_init_71 : decode cX11_init 71 = .ok (.newarray .int, 2) := by decide +kernel
theorem dX11_init_73 : decode cX11_init 73 = .ok (.putfield 39, 3) := by decide +kernel
theorem dX11_init_76 : decode cX11_init 76 = .ok (.aload_n 0, 1) := by decide +kernel
theorem dX11_init_77 : decode cX11_init 77 = .ok (.ldc 42, 2) := by decide +kernel
theorem dX11_init_79 : decode cX11_init 79 = .ok (.newarray .int, 2) := by decide +kernel
theorem dX11_init_81 : decode cX11_init 81 = .ok (.putfield 43, 3) := by decide +kernel
theorem dX11_init_84 : decode cX11_init 84 = .ok (.aload_n 0, 1) := by decide +kernel
theorem dX11_init_85 : decode cX11_init 85 = .ok (.sipush 2880, 3) := by decide +kernel
theorem dX11_init_88 : decode cX11_init 88 = .ok (.newarray .int, 2) := by decide +kernel
theorem dX11_init_90 : decode cX11_init 90 = .ok (.putfield 46, 3) := by decide +kernel
theorem dX11_init_93 : decode cX11_init 93 = .ok (.aload_n 0, 1) := by decide +kernel
theorem dX11_init_94 : decode cX11_init 94 = .ok (.sipush 2880, 3) := by decide +kernel
theorem dX11_init_97 : decode cX11_init 97 = .ok (.newarray .boolean, 2) := by decide +kernel
theorem dX11_init_99 : decode cX11_init 99 = .ok (.putfield 49, 3) := by decide +kernel
theorem dX11_init_102 : decode cX11_init 102 = .ok (.aload_n 0, 1) := by decide +kernel
theorem dX11_init_103 : decode cX11_init 103 = .ok (.sipush 2880, 3) := by decide +kernel
theorem dX11_init_106 : decode cX11_init 106 = .ok (.newarray .long, 2) := by decide +kernel
theorem dX11_init_108 : decode cX11_init 108 = .ok (.putfield 52, 3) := by decide +kernel
theorem dX11_init_111 : decode cX11_init 111 = .ok (.aload_n 0, 1) := by decide +kernel
theorem dX11_init_112 : decode cX11_init 112 = .ok (.sipush 2880, 3) := by decide +kernel
theorem dX11_init_115 : decode cX11_init 115 = .ok (.newarray .long, 2) := by decide +kernel
theorem dX11_init_117 : decode cX11_init 117 = .ok (.putfield 56, 3) := by decide +kernel
theorem dX11_init_120 : decode cX11_init 120 = .ok (.aload_n 0, 1) := by decide +kernel
theorem dX11_init_121 : decode cX11_init 121 = .ok (.bipush 6, 2) := by decide +kernel
theorem dX11_init_123 : decode cX11_init 123 = .ok (.newarray .int, 2) := by decide +kernel
theorem dX11_init_125 : decode cX11_init 125 = .ok (.putfield 59, 3) := by decide +kernel
theorem dX11_init_128 : decode cX11_init 128 = .ok (.aload_n 0, 1) := by decide +kernel
theorem dX11_init_129 : decode cX11_init 129 = .ok (.bipush 6, 2) := by decide +kernel
theorem dX11_init_131 : decode cX11_init 131 = .ok (.newarray .int, 2) := by decide +kernel
theorem dX11_init_133 : decode cX11_init 133 = .ok (.putfield 62, 3) := by decide +kernel
theorem dX11_init_136 : decode cX11_init 136 = .ok (.aload_n 0, 1) := by decide +kernel
theorem dX11_init_137 : decode cX11_init 137 = .ok (.sipush 2881, 3) := by decide +kernel
theorem dX11_init_140 : decode cX11_init 140 = .ok (.newarray .int, 2) := by decide +kernel
theorem dX11_init_142 : decode cX11_init 142 = .ok (.putfield 65, 3) := by decide +kernel
theorem dX11_init_145 : decode cX11_init 145 = .ok (.aload_n 0, 1) := by decide +kernel
theorem dX11_init_146 : decode cX11_init 146 = .ok (.sipush 2880, 3) := by decide +kernel
theorem dX11_init_149 : decode cX11_init 149 = .ok (.newarray .int, 2) := by decide +kernel
theorem dX11_init_151 : decode cX11_init 151 = .ok (.putfield 68, 3) := by decide +kernel
theorem dX11_init_154 : decode cX11_init 154 = .ok (.aload_n 0, 1) := by decide +kernel
theorem dX11_init_155 : decode cX11_init 155 = .ok (.sipush 20160, 3) := by decide +kernel
theorem dX11_init_158 : decode cX11_init 158 = .ok (.newarray .long, 2) := by decide +kernel
theorem dX11_init_160 : decode cX11_init 160 = .ok (.putfield 71, 3) := by decide +kernel
theorem dX11_init_163 : decode cX11_init 163 = .ok (.aload_n 0, 1) := by decide +kernel
theorem dX11_init_164 : decode cX11_init 164 = .ok (.bipush 10, 2) := by decide +kernel
theorem dX11_init_166 : decode cX11_init 166 = .ok (.newarray .int, 2) := by decide +kernel
theorem dX11_init_168 : decode cX11_init 168 = .ok (.putfield 74, 3) := by decide +kernel
theorem dX11_init_171 : decode cX11_init 171 = .ok (.aload_n 0, 1) := by decide +kernel
theorem dX11_init_172 : decode cX11_init 172 = .ok (.sipush 28800, 3) := by decide +kernel
theorem dX11_init_175 : decode cX11_init 175 = .ok (.newarray .boolean, 2) := by decide +kernel
theorem dX11_init_177 : decode cX11_init 177 = .ok (.putfield 77, 3) := by decide +kernel
theorem dX11_init_180 : decode cX11_init 180 = .ok (.aload_n 0, 1) := by decide +kernel
theorem dX11_init_181 : decode cX11_init 181 = .ok (.sipush 25920, 3) := by decide +kernel
theorem dX11_init_184 : decode cX11_init 184 = .ok (.newarray .int, 2) := by decide +kernel
theorem dX11_init_186 : decode cX11_init 186 = .ok (.putfield 80, 3) := by decide +kernel
theorem dX11_init_189 : decode cX11_init 189 = .ok (.aload_n 0, 1) := by decide +kernel
theorem dX11_init_190 : decode cX11_init 190 = .ok (.iconst 4, 1) := by decide +kernel
theorem dX11_init_191 : decode cX11_init 191 = .ok (.newarray .int, 2) := by decide +kernel
theorem dX11_init_193 : decode cX11_init 193 = .ok (.dup, 1) := by decide +kernel
theorem dX11_init_194 : decode cX11_init 194 = .ok (.iconst 0, 1) := by decide +kernel
theorem dX11_init_195 : decode cX11_init 195 = .ok (.iconst (-1), 1) := by decide +kernel
theorem dX11_init_196 : decode cX11_init 196 = .ok (.iastore, 1) := by decide +kernel
theorem dX11_init_197 : decode cX11_init 197 = .ok (.dup, 1) := by decide +kernel
theorem dX11_init_198 : decode cX11_init 198 = .ok (.iconst 1, 1) := by decide +kernel
theorem dX11_init_199 : decode cX11_init 199 = .ok (.iconst (-1), 1) := by decide +kernel
theorem dX11_init_200 : decode cX11_init 200 = .ok (.iastore, 1) := by decide +kernel
theorem dX11_init_201 : decode cX11_init 201 = .ok (.dup, 1) := by decide +kernel
theorem dX11_init_202 : decode cX11_init 202 = .ok (.iconst 2, 1) := by decide +kernel
theorem dX11_init_203 : decode cX11_init 203 = .ok (.iconst (-1), 1) := by decide +kernel
theorem dX11_init_204 : decode cX11_init 204 = .ok (.iastore, 1) := by decide +kernel
theorem dX11_init_205 : decode cX11_init 205 = .ok (.dup, 1) := by decide +kernel
theorem dX11_init_206 : decode cX11_init 206 = .ok (.iconst 3, 1) := by decide +kernel
theorem dX11_init_207 : decode cX11_init 207 = .ok (.iconst (-1), 1) := by decide +kernel
theorem dX11_init_208 : decode cX11_init 208 = .ok (.iastore, 1) := by decide +kernel
theorem dX11_init_209 : decode cX11_init 209 = .ok (.putfield 83, 3) := by decide +kernel
theorem dX11_init_212 : decode cX11_init 212 = .ok (.aload_n 0, 1) := by decide +kernel
theorem dX11_init_213 : decode cX11_init 213 = .ok (.iconst 4, 1) := by decide +kernel
theorem dX11_init_214 : decode cX11_init 214 = .ok (.newarray .int, 2) := by decide +kernel
theorem dX11_init_216 : decode cX11_init 216 = .ok (.putfield 86, 3) := by decide +kernel
theorem dX11_init_219 : decode cX11_init 219 = .ok (.aload_n 0, 1) := by decide +kernel
theorem dX11_init_220 : decode cX11_init 220 = .ok (.sipush 160, 3) := by decide +kernel
theorem dX11_init_223 : decode cX11_init 223 = .ok (.newarray .long, 2) := by decide +kernel
theorem dX11_init_225 : decode cX11_init 225 = .ok (.putfield 89, 3) := by decide +kernel
theorem dX11_init_228 : decode cX11_init 228 = .ok (.aload_n 0, 1) := by decide +kernel
theorem dX11_init_229 : decode cX11_init 229 = .ok (.getfield 13, 3) := by decide +kernel
theorem dX11_init_232 : decode cX11_init 232 = .ok (.invokestatic 92, 3) := by decide +kernel
theorem dX11_init_235 : decode cX11_init 235 = .ok (.return_, 1) := by decide +kernel
theorem dX11_plain_0 : decode cX11_plain 0 = .ok (.iconst 0, 1) := by decide +kernel
theorem dX11_plain_1 : decode cX11_plain 1 = .ok (.istore_n 1, 1) := by decide +kernel
theorem dX11_plain_2 : decode cX11_plain 2 = .ok (.iload_n 1, 1) := by decide +kernel
theorem dX11_plain_3 : decode cX11_plain 3 = .ok (.sipush 994, 3) := by decide +kernel
theorem dX11_plain_6 : decode cX11_plain 6 = .ok (.if_icmp .ge 13, 3) := by decide +kernel
theorem dX11_plain_9 : decode cX11_plain 9 = .ok (.aload_n 0, 1) := by decide +kernel
theorem dX11_plain_10 : decode cX11_plain 10 = .ok (.iload_n 1, 1) := by decide +kernel
theorem dX11_plain_11 : decode cX11_plain 11 = .ok (.iconst 0, 1) := by decide +kernel
theorem dX11_plain_12 : decode cX11_plain 12 = .ok (.iastore, 1) := by decide +kernel
theorem dX11_plain_13 : decode cX11_plain 13 = .ok (.iinc 1 1, 3) := by decide +kernel
theorem dX11_plain_16 : decode cX11_plain 16 = .ok (.goto (-14), 3) := by decide +kernel
theorem dX11_plain_19 : decode cX11_plain 19 = .ok (.aload_n 0, 1) := by decide +kernel
theorem dX11_plain_20 : decode cX11_plain 20 = .ok (.iconst 1, 1) := by decide +kernel
theorem dX11_plain_21 : decode cX11_plain 21 = .ok (.iconst 1, 1) := by decide +kernel
theorem dX11_plain_22 : decode cX11_plain 22 = .ok (.iastore, 1) := by decide +kernel
theorem dX11_plain_23 : decode cX11_plain 23 = .ok (.aload_n 0, 1) := by decide +kernel
theorem dX11_plain_24 : decode cX11_plain 24 = .ok (.bipush 39, 2) := by decide +kernel
theorem dX11_plain_26 : decode cX11_plain 26 = .ok (.iconst 4, 1) := by decide +kernel
theorem dX11_plain_27 : decode cX11_plain 27 = .ok (.iastore, 1) := by decide +kernel
theorem dX11_plain_28 : decode cX11_plain 28 = .ok (.return_, 1) := by decide +kernel
theorem dX11_feed_0 : decode cX11_feed 0 = .ok (.aload_n 0, 1) := by decide +kernel
theorem dX11_feed_1 : decode cX11_feed 1 = .ok (.iconst 0, 1) := by decide +kernel
theorem dX11_feed_2 : decode cX11_feed 2 = .ok (.putfield 1, 3) := by decide +kernel
theorem dX11_feed_5 : decode cX11_feed 5 = .ok (.aload_n 0, 1) := by decide +kernel
theorem dX11_feed_6 : decode cX11_feed 6 = .ok (.getfield 96, 3) := by decide +kernel
theorem dX11_feed_9 : decode cX11_feed 9 = .ok (.bipush 20, 2) := by decide +kernel
theorem dX11_feed_11 : decode cX11_feed 11 = .ok (.iadd, 1) := by decide +kernel
theorem dX11_feed_12 : decode cX11_feed 12 = .ok (.sipush 900, 3) := by decide +kernel
theorem dX11_feed_15 : decode cX11_feed 15 = .ok (.if_icmp .le 6, 3) := by decide +kernel
theorem dX11_feed_18 : decode cX11_feed 18 = .ok (.bipush (-5), 2) := by decide +kernel
theorem dX11_feed_20 : decode cX11_feed 20 = .ok (.ireturn, 1) := by decide +kernel
theorem dX11_feed_21 : decode cX11_feed 21 = .ok (.iconst 0, 1) := by decide +kernel
theorem dX11_feed_22 : decode cX11_feed 22 = .ok (.istore 6, 2) := by decide +kernel
theorem dX11_feed_24 : decode cX11_feed 24 = .ok (.iload 6, 2) := by decide +kernel
theorem dX11_feed_26 : decode cX11_feed 26 = .ok (.bipush 20, 2) := by decide +kernel
theorem dX11_feed_28 : decode cX11_feed 28 = .ok (.if_icmp .ge 93, 3) := by decide +kernel
theorem dX11_feed_31 : decode cX11_feed 31 = .ok (.iload 6, 2) := by decide +kernel
theorem dX11_feed_33 : decode cX11_feed 33 = .ok (.iconst 4, 1) := by decide +kernel
theorem dX11_feed_34 : decode cX11_feed 34 = .ok (.if_icmp .ge 7, 3) := by decide +kernel
theorem dX11_feed_37 : decode cX11_feed 37 = .ok (.iload_n 1, 1) := by decide +kernel
theorem dX11_feed_38 : decode cX11_feed 38 = .ok (.goto 39, 3) := by decide +kernel
theorem dX11_feed_41 : decode cX11_feed 41 = .ok (.iload 6, 2) := by decide +kernel
theorem dX11_feed_43 : decode cX11_feed 43 = .ok (.bipush 8, 2) := by decide +kernel
theorem dX11_feed_45 : decode cX11_feed 45 = .ok (.if_icmp .ge 7, 3) := by decide +kernel
theorem dX11_feed_48 : decode cX11_feed 48 = .ok (.iload_n 2, 1) := by decide +kernel
theorem dX11_feed_49 : decode cX11_feed 49 = .ok (.goto 28, 3) := by decide +kernel
theorem dX11_feed_52 : decode cX11_feed 52 = .ok (.iload 6, 2) := by decide +kernel
theorem dX11_feed_54 : decode cX11_feed 54 = .ok (.bipush 12, 2) := by decide +kernel
theorem dX11_feed_56 : decode cX11_feed 56 = .ok (.if_icmp .ge 7, 3) := by decide +kernel
theorem dX11_feed_59 : decode cX11_feed 59 = .ok (.iload_n 3, 1) := by decide +kernel
theorem dX11_feed_60 : decode cX11_feed 60 = .ok (.goto 17, 3) := by decide +kernel
theorem dX11_feed_63 : decode cX11_feed 63 = .ok (.iload 6, 2) := by decide +kernel
theorem dX11_feed_65 : decode cX11_feed 65 = .ok (.bipush 16, 2) := by decide +kernel
theorem dX11_feed_67 : decode cX11_feed 67 = .ok (.if_icmp .ge 8, 3) := by decide +kernel
theorem dX11_feed_70 : decode cX11_feed 70 = .ok (.iload 4, 2) := by decide +kernel
theorem dX11_feed_72 : decode cX11_feed 72 = .ok (.goto 5, 3) := by decide +kernel
theorem dX11_feed_75 : decode cX11_feed 75 = .ok (.iload 5, 2) := by decide +kernel
theorem dX11_feed_77 : decode cX11_feed 77 = .ok (.istore 7, 2) := by decide +kernel
theorem dX11_feed_79 : decode cX11_feed 79 = .ok (.aload_n 0, 1) := by decide +kernel
theorem dX11_feed_80 : decode cX11_feed 80 = .ok (.getfield 21, 3) := by decide +kernel
theorem dX11_feed_83 : decode cX11_feed 83 = .ok (.aload_n 0, 1) := by decide +kernel
theorem dX11_feed_84 : decode cX11_feed 84 = .ok (.getfield 96, 3) := by decide +kernel
theorem dX11_feed_87 : decode cX11_feed 87 = .ok (.iload 7, 2) := by decide +kernel
theorem dX11_feed_89 : decode cX11_feed 89 = .ok (.bipush 24, 2) := by decide +kernel
theorem dX11_feed_91 : decode cX11_feed 91 = .ok (.bipush 8, 2) := by decide +kernel
theorem dX11_feed_93 : decode cX11_feed 93 = .ok (.iload 6, 2) := by decide +kernel
theorem dX11_feed_95 : decode cX11_feed 95 = .ok (.iconst 4, 1) := by decide +kernel
theorem dX11_feed_96 : decode cX11_feed 96 = .ok (.irem, 1) := by decide +kernel
theorem dX11_feed_97 : decode cX11_feed 97 = .ok (.imul, 1) := by decide +kernel
theorem dX11_feed_98 : decode cX11_feed 98 = .ok (.isub, 1) := by decide +kernel
theorem dX11_feed_99 : decode cX11_feed 99 = .ok (.ishr, 1) := by decide +kernel
theorem dX11_feed_100 : decode cX11_feed 100 = .ok (.sipush 255, 3) := by decide +kernel
theorem dX11_feed_103 : decode cX11_feed 103 = .ok (.iand, 1) := by decide +kernel
theorem dX11_feed_104 : decode cX11_feed 104 = .ok (.iastore, 1) := by decide +kernel
theorem dX11_feed_105 : decode cX11_feed 105 = .ok (.aload_n 0, 1) := by decide +kernel
theorem dX11_feed_106 : decode cX11_feed 106 = .ok (.dup, 1) := by decide +kernel
theorem dX11_feed_107 : decode cX11_feed 107 = .ok (.getfield 96, 3) := by decide +kernel
theorem dX11_feed_110 : decode cX11_feed 110 = .ok (.iconst 1, 1) := by decide +kernel
theorem dX11_feed_111 : decode cX11_feed 111 = .ok (.iadd, 1) := by decide +kernel
theorem dX11_feed_112 : decode cX11_feed 112 = .ok (.putfield 96, 3) := by decide +kernel
theorem dX11_feed_115 : decode cX11_feed 115 = .ok (.iinc 6 1, 3) := by decide +kernel
theorem dX11_feed_118 : decode cX11_feed 118 = .ok (.goto (-94), 3) := by decide +kernel
theorem dX11_feed_121 : decode cX11_feed 121 = .ok (.aload_n 0, 1) := by decide +kernel
theorem dX11_feed_122 : decode cX11_feed 122 = .ok (.getfield 96, 3) := by decide +kernel
theorem dX11_feed_125 : decode cX11_feed 125 = .ok (.ireturn, 1) := by decide +kernel
theorem dX11_see_0 : decode cX11_see 0 = .ok (.iload_n 1, 1) := by decide +kernel
theorem dX11_see_1 : decode cX11_see 1 = .ok (.aload_n 0, 1) := by decide +kernel
theorem dX11_see_2 : decode cX11_see 2 = .ok (.getfield 99, 3) := by decide +kernel
theorem dX11_see_5 : decode cX11_see 5 = .ok (.if_icmp .ge 12, 3) := by decide +kernel
theorem dX11_see_8 : decode cX11_see 8 = .ok (.aload_n 0, 1) := by decide +kernel
theorem dX11_see_9 : decode cX11_see 9 = .ok (.getfield 21, 3) := by decide +kernel
theorem dX11_see_12 : decode cX11_see 12 = .ok (.iload_n 1, 1) := by decide +kernel
theorem dX11_see_13 : decode cX11_see 13 = .ok (.iaload, 1) := by decide +kernel
theorem dX11_see_14 : decode cX11_see 14 = .ok (.goto 4, 3) := by decide +kernel
theorem dX11_see_17 : decode cX11_see 17 = .ok (.iconst (-1), 1) := by decide +kernel
theorem dX11_see_18 : decode cX11_see 18 = .ok (.ireturn, 1) := by decide +kernel
theorem dX11_isSmall_0 : decode cX11_isSmall 0 = .ok (.iload_n 0, 1) := by decide +kernel
theorem dX11_isSmall_1 : decode cX11_isSmall 1 = .ok (.bipush 97, 2) := by decide +kernel
theorem dX11_isSmall_3 : decode cX11_isSmall 3 = .ok (.if_icmp .lt 13, 3) := by decide +kernel
theorem dX11_isSmall_6 : decode cX11_isSmall 6 = .ok (.iload_n 0, 1) := by decide +kernel
theorem dX11_isSmall_7 : decode cX11_isSmall 7 = .ok (.bipush 122, 2) := by decide +kernel
theorem dX11_isSmall_9 : decode cX11_isSmall 9 = .ok (.if_icmp .gt 7, 3) := by decide +kernel
theorem dX11_isSmall_12 : decode cX11_isSmall 12 = .ok (.iconst 1, 1) := by decide +kernel
theorem dX11_isSmall_13 : decode cX11_isSmall 13 = .ok (.goto 4, 3) := by decide +kernel
theorem dX11_isSmall_16 : decode cX11_isSmall 16 = .ok (.iconst 0, 1) := by decide +kernel
theorem dX11_isSmall_17 : decode cX11_isSmall 17 = .ok (.ireturn, 1) := by decide +kernel
theorem dX11_isDigit_0 : decode cX11_isDigit 0 = .ok (.iload_n 0, 1) := by decide +kernel
theorem dX11_isDigit_1 : decode cX11_isDigit 1 = .ok (.bipush 48, 2) := by decide +kernel
theorem dX11_isDigit_3 : decode cX11_isDigit 3 = .ok (.if_icmp .lt 13, 3) := by decide +kernel
theorem dX11_isDigit_6 : decode cX11_isDigit 6 = .ok (.iload_n 0, 1) := by decide +kernel
theorem dX11_isDigit_7 : decode cX11_isDigit 7 = .ok (.bipush 57, 2) := by decide +kernel
theorem dX11_isDigit_9 : decode cX11_isDigit 9 = .ok (.if_icmp .gt 7, 3) := by decide +kernel
theorem dX11_isDigit_12 : decode cX11_isDigit 12 = .ok (.iconst 1, 1) := by decide +kernel
theorem dX11_isDigit_13 : decode cX11_isDigit 13 = .ok (.goto 4, 3) := by decide +kernel
theorem dX11_isDigit_16 : decode cX11_isDigit 16 = .ok (.iconst 0, 1) := by decide +kernel
theorem dX11_isDigit_17 : decode cX11_isDigit 17 = .ok (.ireturn, 1) := by decide +kernel
theorem dX11_keyAt_0 : decode cX11_keyAt 0 = .ok (.iconst 0, 1) := by decide +kernel
theorem dX11_keyAt_1 : decode cX11_keyAt 1 = .ok (.istore_n 1, 1) := by decide +kernel
theorem dX11_keyAt_2 : decode cX11_keyAt 2 = .ok (.iconst 1, 1) := by decide +kernel
theorem dX11_keyAt_3 : decode cX11_keyAt 3 = .ok (.istore_n 2, 1) := by decide +kernel
theorem dX11_keyAt_4 : decode cX11_keyAt 4 = .ok (.iload_n 2, 1) := by decide +kernel
theorem dX11_keyAt_5 : decode cX11_keyAt 5 = .ok (.ldc 102, 2) := by decide +kernel
theorem dX11_keyAt_7 : decode cX11_keyAt 7 = .ok (.invokevirtual 104, 3) := by decide +kernel
theorem dX11_keyAt_10 : decode cX11_keyAt 10 = .ok (.if_icmp .ge 113, 3) := by decide +kernel
theorem dX11_keyAt_13 : decode cX11_keyAt 13 = .ok (.iconst 0, 1) := by decide +kernel
theorem dX11_keyAt_14 : decode cX11_keyAt 14 = .ok (.istore_n 3, 1) := by decide +kernel
theorem dX11_keyAt_15 : decode cX11_keyAt 15 = .ok (.ldc 102, 2) := by decide +kernel
theorem dX11_keyAt_17 : decode cX11_keyAt 17 = .ok (.iload_n 2, 1) := by decide +kernel
theorem dX11_keyAt_18 : decode cX11_keyAt 18 = .ok (.iload_n 3, 1) := by decide +kernel
theorem dX11_keyAt_19 : decode cX11_keyAt 19 = .ok (.iadd, 1) := by decide +kernel
theorem dX11_keyAt_20 : decode cX11_keyAt 20 = .ok (.invokevirtual 110, 3) := by decide +kernel
theorem dX11_keyAt_23 : decode cX11_keyAt 23 = .ok (.bipush 32, 2) := by decide +kernel
theorem dX11_keyAt_25 : decode cX11_keyAt 25 = .ok (.if_icmp .eq 44, 3) := by decide +kernel
theorem dX11_keyAt_28 : decode cX11_keyAt 28 = .ok (.aload_n 0, 1) := by decide +kernel
theorem dX11_keyAt_29 : decode cX11_keyAt 29 = .ok (.getfield 114, 3) := by decide +kernel
theorem dX11_keyAt_32 : decode cX11_keyAt 32 = .ok (.iload_n 3, 1) := by decide +kernel
theorem dX11_keyAt_33 : decode cX11_keyAt 33 = .ok (.iadd, 1) := by decide +kernel
theorem dX11_keyAt_34 : decode cX11_keyAt 34 = .ok (.aload_n 0, 1) := by decide +kernel
theorem dX11_keyAt_35 : decode cX11_keyAt 35 = .ok (.getfield 117, 3) := by decide +kernel
theorem dX11_keyAt_38 : decode cX11_keyAt 38 = .ok (.if_icmp .ge 31, 3) := by decide +kernel
theorem dX11_keyAt_41 : decode cX11_keyAt 41 = .ok (.aload_n 0, 1) := by decide +kernel
theorem dX11_keyAt_42 : decode cX11_keyAt 42 = .ok (.getfield 21, 3) := by decide +kernel
theorem dX11_keyAt_45 : decode cX11_keyAt 45 = .ok (.aload_n 0, 1) := by decide +kernel
theorem dX11_keyAt_46 : decode cX11_keyAt 46 = .ok (.getfield 114, 3) := by decide +kernel
theorem dX11_keyAt_49 : decode cX11_keyAt 49 = .ok (.iload_n 3, 1) := by decide +kernel
theorem dX11_keyAt_50 : decode cX11_keyAt 50 = .ok (.iadd, 1) := by decide +kernel
theorem dX11_keyAt_51 : decode cX11_keyAt 51 = .ok (.iaload, 1) := by decide +kernel
theorem dX11_keyAt_52 : decode cX11_keyAt 52 = .ok (.ldc 102, 2) := by decide +kernel
theorem dX11_keyAt_54 : decode cX11_keyAt 54 = .ok (.iload_n 2, 1) := by decide +kernel
theorem dX11_keyAt_55 : decode cX11_keyAt 55 = .ok (.iload_n 3, 1) := by decide +kernel
theorem dX11_keyAt_56 : decode cX11_keyAt 56 = .ok (.iadd, 1) := by decide +kernel
theorem dX11_keyAt_57 : decode cX11_keyAt 57 = .ok (.invokevirtual 110, 3) := by decide +kernel
theorem dX11_keyAt_60 : decode cX11_keyAt 60 = .ok (.if_icmp .ne 9, 3) := by decide +kernel
theorem dX11_keyAt_63 : decode cX11_keyAt 63 = .ok (.iinc 3 1, 3) := by decide +kernel
theorem dX11_keyAt_66 : decode cX11_keyAt 66 = .ok (.goto (-51), 3) := by decide +kernel
theorem dX11_keyAt_69 : decode cX11_keyAt 69 = .ok (.ldc 102, 2) := by decide +kernel
theorem dX11_keyAt_71 : decode cX11_keyAt 71 = .ok (.iload_n 2, 1) := by decide +kernel
theorem dX11_keyAt_72 : decode cX11_keyAt 72 = .ok (.iload_n 3, 1) := by decide +kernel
theorem dX11_keyAt_73 : decode cX11_keyAt 73 = .ok (.iadd, 1) := by decide +kernel
theorem dX11_keyAt_74 : decode cX11_keyAt 74 = .ok (.invokevirtual 110, 3) := by decide +kernel
theorem dX11_keyAt_77 : decode cX11_keyAt 77 = .ok (.bipush 32, 2) := by decide +kernel
theorem dX11_keyAt_79 : decode cX11_keyAt 79 = .ok (.if_icmp .ne 18, 3) := by decide +kernel
theorem dX11_keyAt_82 : decode cX11_keyAt 82 = .ok (.aload_n 0, 1) := by decide +kernel
theorem dX11_keyAt_83 : decode cX11_keyAt 83 = .ok (.getfield 114, 3) := by decide +kernel
theorem dX11_keyAt_86 : decode cX11_keyAt 86 = .ok (.iload_n 3, 1) := by decide +kernel
theorem dX11_keyAt_87 : decode cX11_keyAt 87 = .ok (.iadd, 1) := by decide +kernel
theorem dX11_keyAt_88 : decode cX11_keyAt 88 = .ok (.aload_n 0, 1) := by decide +kernel
theorem dX11_keyAt_89 : decode cX11_keyAt 89 = .ok (.getfield 117, 3) := by decide +kernel
theorem dX11_keyAt_92 : decode cX11_keyAt 92 = .ok (.if_icmp .ne 5, 3) := by decide +kernel
theorem dX11_keyAt_95 : decode cX11_keyAt 95 = .ok (.iload_n 1, 1) := by decide +kernel
theorem dX11_keyAt_96 : decode cX11_keyAt 96 = .ok (.ireturn, 1) := by decide +kernel
theorem dX11_keyAt_97 : decode cX11_keyAt 97 = .ok (.ldc 102, 2) := by decide +kernel
theorem dX11_keyAt_99 : decode cX11_keyAt 99 = .ok (.iload_n 2, 1) := by decide +kernel
theorem dX11_keyAt_100 : decode cX11_keyAt 100 = .ok (.invokevirtual 110, 3) := by decide +kernel
theorem dX11_keyAt_103 : decode cX11_keyAt 103 = .ok (.bipush 32, 2) := by decide +kernel
theorem dX11_keyAt_105 : decode cX11_keyAt 105 = .ok (.if_icmp .eq 9, 3) := by decide +kernel
theorem dX11_keyAt_108 : decode cX11_keyAt 108 = .ok (.iinc 2 1, 3) := by decide +kernel
theorem dX11_keyAt_111 : decode cX11_keyAt 111 = .ok (.goto (-14), 3) := by decide +kernel
theorem dX11_keyAt_114 : decode cX11_keyAt 114 = .ok (.iinc 2 1, 3) := by decide +kernel
theorem dX11_keyAt_117 : decode cX11_keyAt 117 = .ok (.iinc 1 1, 3) := by decide +kernel
theorem dX11_keyAt_120 : decode cX11_keyAt 120 = .ok (.goto (-116), 3) := by decide +kernel
theorem dX11_keyAt_123 : decode cX11_keyAt 123 = .ok (.bipush 24, 2) := by decide +kernel
theorem dX11_keyAt_125 : decode cX11_keyAt 125 = .ok (.ireturn, 1) := by decide +kernel
theorem dX11_next_0 : decode cX11_next 0 = .ok (.aload_n 0, 1) := by decide +kernel
theorem dX11_next_1 : decode cX11_next 1 = .ok (.aload_n 0, 1) := by decide +kernel
theorem dX11_next_2 : decode cX11_next 2 = .ok (.getfield 117, 3) := by decide +kernel
theorem dX11_next_5 : decode cX11_next 5 = .ok (.putfield 114, 3) := by decide +kernel
theorem dX11_next_8 : decode cX11_next 8 = .ok (.aload_n 0, 1) := by decide +kernel
theorem dX11_next_9 : decode cX11_next 9 = .ok (.aload_n 0, 1) := by decide +kernel
theorem dX11_next_10 : decode cX11_next 10 = .ok (.getfield 114, 3) := by decide +kernel
theorem dX11_next_13 : decode cX11_next 13 = .ok (.invokevirtual 120, 3) := by decide +kernel
theorem dX11_next_16 : decode cX11_next 16 = .ok (.bipush 10, 2) := by decide +kernel
theorem dX11_next_18 : decode cX11_next 18 = .ok (.if_icmp .eq 16, 3) := by decide +kernel
theorem dX11_next_21 : decode cX11_next 21 = .ok (.aload_n 0, 1) := by decide +kernel
theorem dX11_next_22 : decode cX11_next 22 = .ok (.aload_n 0, 1) := by decide +kernel
theorem dX11_next_23 : decode cX11_next 23 = .ok (.getfield 114, 3) := by decide +kernel
theorem dX11_next_26 : decode cX11_next 26 = .ok (.invokevirtual 120, 3) := by decide +kernel
theorem dX11_next_29 : decode cX11_next 29 = .ok (.bipush 32, 2) := by decide +kernel
theorem dX11_next_31 : decode cX11_next 31 = .ok (.if_icmp .ne 16, 3) := by decide +kernel
theorem dX11_next_34 : decode cX11_next 34 = .ok (.aload_n 0, 1) := by decide +kernel
theorem dX11_next_35 : decode cX11_next 35 = .ok (.dup, 1) := by decide +kernel
theorem dX11_next_36 : decode cX11_next 36 = .ok (.getfield 114, 3) := by decide +kernel
theorem dX11_next_39 : decode cX11_next 39 = .ok (.iconst 1, 1) := by decide +kernel
theorem dX11_next_40 : decode cX11_next 40 = .ok (.iadd, 1) := by decide +kernel
theorem dX11_next_41 : decode cX11_next 41 = .ok (.putfield 114, 3) := by decide +kernel
theorem dX11_next_44 : decode cX11_next 44 = .ok (.goto (-36), 3) := by decide +kernel
theorem dX11_next_47 : decode cX11_next 47 = .ok (.aload_n 0, 1) := by decide +kernel
theorem dX11_next_48 : decode cX11_next 48 = .ok (.aload_n 0, 1) := by decide +kernel
theorem dX11_next_49 : decode cX11_next 49 = .ok (.getfield 114, 3) := by decide +kernel
theorem dX11_next_52 : decode cX11_next 52 = .ok (.putfield 117, 3) := by decide +kernel
theorem dX11_next_55 : decode cX11_next 55 = .ok (.aload_n 0, 1) := by decide +kernel
theorem dX11_next_56 : decode cX11_next 56 = .ok (.getfield 114, 3) := by decide +kernel
theorem dX11_next_59 : decode cX11_next 59 = .ok (.aload_n 0, 1) := by decide +kernel
theorem dX11_next_60 : decode cX11_next 60 = .ok (.getfield 99, 3) := by decide +kernel
theorem dX11_next_63 : decode cX11_next 63 = .ok (.if_icmp .lt 12, 3) := by decide +kernel
theorem dX11_next_66 : decode cX11_next 66 = .ok (.aload_n 0, 1) := by decide +kernel
theorem dX11_next_67 : decode cX11_next 67 = .ok (.bipush 26, 2) := by decide +kernel
theorem dX11_next_69 : decode cX11_next 69 = .ok (.putfield 124, 3) := by decide +kernel
theorem dX11_next_72 : decode cX11_next 72 = .ok (.goto 222, 3) := by decide +kernel
theorem dX11_next_75 : decode cX11_next 75 = .ok (.aload_n 0, 1) := by decide +kernel
theorem dX11_next_76 : decode cX11_next 76 = .ok (.aload_n 0, 1) := by decide +kernel
theorem dX11_next_77 : decode cX11_next 77 = .ok (.getfield 114, 3) := by decide +kernel
theorem dX11_next_80 : decode cX11_next 80 = .ok (.invokevirtual 120, 3) := by decide +kernel
theorem dX11_next_83 : decode cX11_next 83 = .ok (.invokestatic 127, 3) := by decide +kernel
theorem dX11_next_86 : decode cX11_next 86 = .ok (.ifCond .eq 41, 3) := by decide +kernel
theorem dX11_next_89 : decode cX11_next 89 = .ok (.aload_n 0, 1) := by decide +kernel
theorem dX11_next_90 : decode cX11_next 90 = .ok (.aload_n 0, 1) := by decide +kernel
theorem dX11_next_91 : decode cX11_next 91 = .ok (.getfield 117, 3) := by decide +kernel
theorem dX11_next_94 : decode cX11_next 94 = .ok (.invokevirtual 120, 3) := by decide +kernel
theorem dX11_next_97 : decode cX11_next 97 = .ok (.invokestatic 127, 3) := by decide +kernel
theorem dX11_next_100 : decode cX11_next 100 = .ok (.ifCond .eq 16, 3) := by decide +kernel
theorem dX11_next_103 : decode cX11_next 103 = .ok (.aload_n 0, 1) := by decide +kernel
theorem dX11_next_104 : decode cX11_next 104 = .ok (.dup, 1) := by decide +kernel
theorem dX11_next_105 : decode cX11_next 105 = .ok (.getfield 117, 3) := by decide +kernel
theorem dX11_next_108 : decode cX11_next 108 = .ok (.iconst 1, 1) := by decide +kernel
theorem dX11_next_109 : decode cX11_next 109 = .ok (.iadd, 1) := by decide +kernel
theorem dX11_next_110 : decode cX11_next 110 = .ok (.putfield 117, 3) := by decide +kernel
theorem dX11_next_113 : decode cX11_next 113 = .ok (.goto (-24), 3) := by decide +kernel
theorem dX11_next_116 : decode cX11_next 116 = .ok (.aload_n 0, 1) := by decide +kernel
theorem dX11_next_117 : decode cX11_next 117 = .ok (.aload_n 0, 1) := by decide +kernel
theorem dX11_next_118 : decode cX11_next 118 = .ok (.invokevirtual 131, 3) := by decide +kernel
theorem dX11_next_121 : decode cX11_next 121 = .ok (.putfield 124, 3) := by decide +kernel
theorem dX11_next_124 : decode cX11_next 124 = .ok (.goto 170, 3) := by decide +kernel
theorem dX11_next_127 : decode cX11_next 127 = .ok (.aload_n 0, 1) := by decide +kernel
theorem dX11_next_128 : decode cX11_next 128 = .ok (.aload_n 0, 1) := by decide +kernel
theorem dX11_next_129 : decode cX11_next 129 = .ok (.getfield 114, 3) := by decide +kernel
theorem dX11_next_132 : decode cX11_next 132 = .ok (.invokevirtual 120, 3) := by decide +kernel
theorem dX11_next_135 : decode cX11_next 135 = .ok (.invokestatic 134, 3) := by decide +kernel
theorem dX11_next_138 : decode cX11_next 138 = .ok (.ifCond .eq 98, 3) := by decide +kernel
theorem dX11_next_141 : decode cX11_next 141 = .ok (.aload_n 0, 1) := by decide +kernel
theorem dX11_next_142 : decode cX11_next 142 = .ok (.iconst 0, 1) := by decide +kernel
theorem dX11_next_143 : decode cX11_next 143 = .ok (.putfield 137, 3) := by decide +kernel
theorem dX11_next_146 : decode cX11_next 146 = .ok (.aload_n 0, 1) := by decide +kernel
theorem dX11_next_147 : decode cX11_next 147 = .ok (.aload_n 0, 1) := by decide +kernel
theorem dX11_next_148 : decode cX11_next 148 = .ok (.getfield 117, 3) := by decide +kernel
theorem dX11_next_151 : decode cX11_next 151 = .ok (.invokevirtual 120, 3) := by decide +kernel
theorem dX11_next_154 : decode cX11_next 154 = .ok (.invokestatic 134, 3) := by decide +kernel
theorem dX11_next_157 : decode cX11_next 157 = .ok (.ifCond .eq 52, 3) := by decide +kernel
theorem dX11_next_160 : decode cX11_next 160 = .ok (.aload_n 0, 1) := by decide +kernel
theorem dX11_next_161 : decode cX11_next 161 = .ok (.getfield 117, 3) := by decide +kernel
theorem dX11_next_164 : decode cX11_next 164 = .ok (.aload_n 0, 1) := by decide +kernel
theorem dX11_next_165 : decode cX11_next 165 = .ok (.getfield 114, 3) := by decide +kernel
theorem dX11_next_168 : decode cX11_next 168 = .ok (.isub, 1) := by decide +kernel
theorem dX11_next_169 : decode cX11_next 169 = .ok (.iconst 3, 1) := by decide +kernel
theorem dX11_next_170 : decode cX11_next 170 = .ok (.if_icmp .ge 26, 3) := by decide +kernel
theorem dX11_next_173 : decode cX11_next 173 = .ok (.aload_n 0, 1) := by decide +kernel
theorem dX11_next_174 : decode cX11_next 174 = .ok (.bipush 10, 2) := by decide +kernel
theorem dX11_next_176 : decode cX11_next 176 = .ok (.aload_n 0, 1) := by decide +kernel
theorem dX11_next_177 : decode cX11_next 177 = .ok (.getfield 137, 3) := by decide +kernel
theorem dX11_next_180 : decode cX11_next 180 = .ok (.imul, 1) := by decide +kernel
theorem dX11_next_181 : decode cX11_next 181 = .ok (.aload_n 0, 1) := by decide +kernel
theorem dX11_next_182 : decode cX11_next 182 = .ok (.aload_n 0, 1) := by decide +kernel
theorem dX11_next_183 : decode cX11_next 183 = .ok (.getfield 117, 3) := by decide +kernel
theorem dX11_next_186 : decode cX11_next 186 = .ok (.invokevirtual 120, 3) := by decide +kernel
theorem dX11_next_189 : decode cX11_next 189 = .ok (.iadd, 1) := by decide +kernel
theorem dX11_next_190 : decode cX11_next 190 = .ok (.bipush 48, 2) := by decide +kernel
theorem dX11_next_192 : decode cX11_next 192 = .ok (.isub, 1) := by decide +kernel
theorem dX11_next_193 : decode cX11_next 193 = .ok (.putfield 137, 3) := by decide +kernel
theorem dX11_next_196 : decode cX11_next 196 = .ok (.aload_n 0, 1) := by decide +kernel
theorem dX11_next_197 : decode cX11_next 197 = .ok (.dup, 1) := by decide +kernel
theorem dX11_next_198 : decode cX11_next 198 = .ok (.getfield 117, 3) := by decide +kernel
theorem dX11_next_201 : decode cX11_next 201 = .ok (.iconst 1, 1) := by decide +kernel
theorem dX11_next_202 : decode cX11_next 202 = .ok (.iadd, 1) := by decide +kernel
theorem dX11_next_203 : decode cX11_next 203 = .ok (.putfield 117, 3) := by decide +kernel
theorem dX11_next_206 : decode cX11_next 206 = .ok (.goto (-60), 3) := by decide +kernel
theorem dX11_next_209 : decode cX11_next 209 = .ok (.aload_n 0, 1) := by decide +kernel
theorem dX11_next_210 : decode cX11_next 210 = .ok (.aload_n 0, 1) := by decide +kernel
theorem dX11_next_211 : decode cX11_next 211 = .ok (.getfield 117, 3) := by decide +kernel
theorem dX11_next_214 : decode cX11_next 214 = .ok (.aload_n 0, 1) := by decide +kernel
theorem dX11_next_215 : decode cX11_next 215 = .ok (.getfield 114, 3) := by decide +kernel
theorem dX11_next_218 : decode cX11_next 218 = .ok (.isub, 1) := by decide +kernel
theorem dX11_next_219 : decode cX11_next 219 = .ok (.iconst 3, 1) := by decide +kernel
theorem dX11_next_220 : decode cX11_next 220 = .ok (.if_icmp .le 8, 3) := by decide +kernel
theorem dX11_next_223 : decode cX11_next 223 = .ok (.bipush 27, 2) := by decide +kernel
theorem dX11_next_225 : decode cX11_next 225 = .ok (.goto 5, 3) := by decide +kernel
theorem dX11_next_228 : decode cX11_next 228 = .ok (.bipush 25, 2) := by decide +kernel
theorem dX11_next_230 : decode cX11_next 230 = .ok (.putfield 124, 3) := by decide +kernel
theorem dX11_next_233 : decode cX11_next 233 = .ok (.goto 61, 3) := by decide +kernel
theorem dX11_next_236 : decode cX11_next 236 = .ok (.aload_n 0, 1) := by decide +kernel
theorem dX11_next_237 : decode cX11_next 237 = .ok (.dup, 1) := by decide +kernel
theorem dX11_next_238 : decode cX11_next 238 = .ok (.getfield 117, 3) := by decide +kernel
theorem dX11_next_241 : decode cX11_next 241 = .ok (.iconst 1, 1) := by decide +kernel
theorem dX11_next_242 : decode cX11_next 242 = .ok (.iadd, 1) := by decide +kernel
theorem dX11_next_243 : decode cX11_next 243 = .ok (.putfield 117, 3) := by decide +kernel
theorem dX11_next_246 : decode cX11_next 246 = .ok (.aload_n 0, 1) := by decide +kernel
theorem dX11_next_247 : decode cX11_next 247 = .ok (.bipush 27, 2) := by decide +kernel
theorem dX11_next_249 : decode cX11_next 249 = .ok (.putfield 124, 3) := by decide +kernel
theorem dX11_next_252 : decode cX11_next 252 = .ok (.iconst 0, 1) := by decide +kernel
theorem dX11_next_253 : decode cX11_next 253 = .ok (.istore_n 1, 1) := by decide +kernel
theorem dX11_next_254 : decode cX11_next 254 = .ok (.iload_n 1, 1) := by decide +kernel
theorem dX11_next_255 : decode cX11_next 255 = .ok (.ldc 140, 2) := by decide +kernel
theorem dX11_next_257 : decode cX11_next 257 = .ok (.invokevirtual 104, 3) := by decide +kernel
theorem dX11_next_260 : decode cX11_next 260 = .ok (.if_icmp .ge 34, 3) := by decide +kernel
theorem dX11_next_263 : decode cX11_next 263 = .ok (.aload_n 0, 1) := by decide +kernel
theorem dX11_next_264 : decode cX11_next 264 = .ok (.aload_n 0, 1) := by decide +kernel
theorem dX11_next_265 : decode cX11_next 265 = .ok (.getfield 114, 3) := by decide +kernel
theorem dX11_next_268 : decode cX11_next 268 = .ok (.invokevirtual 120, 3) := by decide +kernel
theorem dX11_next_271 : decode cX11_next 271 = .ok (.ldc 140, 2) := by decide +kernel
theorem dX11_next_273 : decode cX11_next 273 = .ok (.iload_n 1, 1) := by decide +kernel
theorem dX11_next_274 : decode cX11_next 274 = .ok (.invokevirtual 110, 3) := by decide +kernel
theorem dX11_next_277 : decode cX11_next 277 = .ok (.if_icmp .ne 11, 3) := by decide +kernel
theorem dX11_next_280 : decode cX11_next 280 = .ok (.aload_n 0, 1) := by decide +kernel
theorem dX11_next_281 : decode cX11_next 281 = .ok (.bipush 30, 2) := by decide +kernel
theorem dX11_next_283 : decode cX11_next 283 = .ok (.iload_n 1, 1) := by decide +kernel
theorem dX11_next_284 : decode cX11_next 284 = .ok (.iadd, 1) := by decide +kernel
theorem dX11_next_285 : decode cX11_next 285 = .ok (.putfield 124, 3) := by decide +kernel
theorem dX11_next_288 : decode cX11_next 288 = .ok (.iinc 1 1, 3) := by decide +kernel
theorem dX11_next_291 : decode cX11_next 291 = .ok (.goto (-37), 3) := by decide +kernel
theorem dX11_next_294 : decode cX11_next 294 = .ok (.return_, 1) := by decide +kernel
theorem dX11_fails_0 : decode cX11_fails 0 = .ok (.aload_n 0, 1) := by decide +kernel
theorem dX11_fails_1 : decode cX11_fails 1 = .ok (.getfield 142, 3) := by decide +kernel
theorem dX11_fails_4 : decode cX11_fails 4 = .ok (.ifCond .eq 4, 3) := by decide +kernel
theorem dX11_fails_7 : decode cX11_fails 7 = .ok (.return_, 1) := by decide +kernel
theorem dX11_fails_8 : decode cX11_fails 8 = .ok (.aload_n 0, 1) := by decide +kernel
theorem dX11_fails_9 : decode cX11_fails 9 = .ok (.aload_n 0, 1) := by decide +kernel
theorem dX11_fails_10 : decode cX11_fails 10 = .ok (.getfield 124, 3) := by decide +kernel
theorem dX11_fails_13 : decode cX11_fails 13 = .ok (.bipush 27, 2) := by decide +kernel
theorem dX11_fails_15 : decode cX11_fails 15 = .ok (.if_icmp .ne 7, 3) := by decide +kernel
theorem dX11_fails_18 : decode cX11_fails 18 = .ok (.iconst 1, 1) := by decide +kernel
theorem dX11_fails_19 : decode cX11_fails 19 = .ok (.goto 4, 3) := by decide +kernel
theorem dX11_fails_22 : decode cX11_fails 22 = .ok (.iload_n 1, 1) := by decide +kernel
theorem dX11_fails_23 : decode cX11_fails 23 = .ok (.putfield 142, 3) := by decide +kernel
theorem dX11_fails_26 : decode cX11_fails 26 = .ok (.aload_n 0, 1) := by decide +kernel
theorem dX11_fails_27 : decode cX11_fails 27 = .ok (.aload_n 0, 1) := by decide +kernel
theorem dX11_fails_28 : decode cX11_fails 28 = .ok (.getfield 114, 3) := by decide +kernel
theorem dX11_fails_31 : decode cX11_fails 31 = .ok (.putfield 145, 3) := by decide +kernel
theorem dX11_fails_34 : decode cX11_fails 34 = .ok (.return_, 1) := by decide +kernel
theorem dX11_is_0 : decode cX11_is 0 = .ok (.aload_n 0, 1) := by decide +kernel
theorem dX11_is_1 : decode cX11_is 1 = .ok (.getfield 142, 3) := by decide +kernel
theorem dX11_is_4 : decode cX11_is 4 = .ok (.ifCond .ne 15, 3) := by decide +kernel
theorem dX11_is_7 : decode cX11_is 7 = .ok (.aload_n 0, 1) := by decide +kernel
theorem dX11_is_8 : decode cX11_is 8 = .ok (.getfield 124, 3) := by decide +kernel
theorem dX11_is_11 : decode cX11_is 11 = .ok (.iload_n 1, 1) := by decide +kernel
theorem dX11_is_12 : decode cX11_is 12 = .ok (.if_icmp .ne 7, 3) := by decide +kernel
theorem dX11_is_15 : decode cX11_is 15 = .ok (.iconst 1, 1) := by decide +kernel
theorem dX11_is_16 : decode cX11_is 16 = .ok (.goto 4, 3) := by decide +kernel
theorem dX11_is_19 : decode cX11_is 19 = .ok (.iconst 0, 1) := by decide +kernel
theorem dX11_is_20 : decode cX11_is 20 = .ok (.ireturn, 1) := by decide +kernel
theorem dX11_eats_0 : decode cX11_eats 0 = .ok (.aload_n 0, 1) := by decide +kernel
theorem dX11_eats_1 : decode cX11_eats 1 = .ok (.iload_n 1, 1) := by decide +kernel
theorem dX11_eats_2 : decode cX11_eats 2 = .ok (.invokevirtual 148, 3) := by decide +kernel
theorem dX11_eats_5 : decode cX11_eats 5 = .ok (.ifCond .ne 5, 3) := by decide +kernel
theorem dX11_eats_8 : decode cX11_eats 8 = .ok (.iconst 0, 1) := by decide +kernel
theorem dX11_eats_9 : decode cX11_eats 9 = .ok (.ireturn, 1) := by decide +kernel
theorem dX11_eats_10 : decode cX11_eats 10 = .ok (.aload_n 0, 1) := by decide +kernel
theorem dX11_eats_11 : decode cX11_eats 11 = .ok (.invokevirtual 151, 3) := by decide +kernel
theorem dX11_eats_14 : decode cX11_eats 14 = .ok (.iconst 1, 1) := by decide +kernel
theorem dX11_eats_15 : decode cX11_eats 15 = .ok (.ireturn, 1) := by decide +kernel
theorem dX11_takes_0 : decode cX11_takes 0 = .ok (.aload_n 0, 1) := by decide +kernel
theorem dX11_takes_1 : decode cX11_takes 1 = .ok (.bipush 25, 2) := by decide +kernel
theorem dX11_takes_3 : decode cX11_takes 3 = .ok (.invokevirtual 148, 3) := by decide +kernel
theorem dX11_takes_6 : decode cX11_takes 6 = .ok (.ifCond .ne 11, 3) := by decide +kernel
theorem dX11_takes_9 : decode cX11_takes 9 = .ok (.aload_n 0, 1) := by decide +kernel
theorem dX11_takes_10 : decode cX11_takes 10 = .ok (.iconst 2, 1) := by decide +kernel
theorem dX11_takes_11 : decode cX11_takes 11 = .ok (.invokevirtual 154, 3) := by decide +kernel
theorem dX11_takes_14 : decode cX11_takes 14 = .ok (.goto 23, 3) := by decide +kernel
theorem dX11_takes_17 : decode cX11_takes 17 = .ok (.aload_n 0, 1) := by decide +kernel
theorem dX11_takes_18 : decode cX11_takes 18 = .ok (.getfield 137, 3) := by decide +kernel
theorem dX11_takes_21 : decode cX11_takes 21 = .ok (.i2l, 1) := by decide +kernel
theorem dX11_takes_22 : decode cX11_takes 22 = .ok (.iload_n 1, 1) := by decide +kernel
theorem dX11_takes_23 : decode cX11_takes 23 = .ok (.i2l, 1) := by decide +kernel
theorem dX11_takes_24 : decode cX11_takes 24 = .ok (.iload_n 2, 1) := by decide +kernel
theorem dX11_takes_25 : decode cX11_takes 25 = .ok (.i2l, 1) := by decide +kernel
theorem dX11_takes_26 : decode cX11_takes 26 = .ok (.invokestatic 158, 3) := by decide +kernel
theorem dX11_takes_29 : decode cX11_takes 29 = .ok (.ifCond .ne 8, 3) := by decide +kernel
theorem dX11_takes_32 : decode cX11_takes 32 = .ok (.aload_n 0, 1) := by decide +kernel
theorem dX11_takes_33 : decode cX11_takes 33 = .ok (.iconst 3, 1) := by decide +kernel
theorem dX11_takes_34 : decode cX11_takes 34 = .ok (.invokevirtual 154, 3) := by decide +kernel
theorem dX11_takes_37 : decode cX11_takes 37 = .ok (.aload_n 0, 1) := by decide +kernel
theorem dX11_takes_38 : decode cX11_takes 38 = .ok (.getfield 137, 3) := by decide +kernel
theorem dX11_takes_41 : decode cX11_takes 41 = .ok (.istore_n 3, 1) := by decide +kernel
theorem dX11_takes_42 : decode cX11_takes 42 = .ok (.aload_n 0, 1) := by decide +kernel
theorem dX11_takes_43 : decode cX11_takes 43 = .ok (.getfield 142, 3) := by decide +kernel
theorem dX11_takes_46 : decode cX11_takes 46 = .ok (.ifCond .ne 7, 3) := by decide +kernel
theorem dX11_takes_49 : decode cX11_takes 49 = .ok (.aload_n 0, 1) := by decide +kernel
theorem dX11_takes_50 : decode cX11_takes 50 = .ok (.invokevirtual 151, 3) := by decide +kernel
theorem dX11_takes_53 : decode cX11_takes 53 = .ok (.iload_n 3, 1) := by decide +kernel
theorem dX11_takes_54 : decode cX11_takes 54 = .ok (.ireturn, 1) := by decide +kernel
theorem dX11_isIn_0 : decode cX11_isIn 0 = .ok (.lload_n 0, 1) := by decide +kernel
theorem dX11_isIn_1 : decode cX11_isIn 1 = .ok (.iload_n 2, 1) := by decide +kernel
theorem dX11_isIn_2 : decode cX11_isIn 2 = .ok (.lshr, 1) := by decide +kernel
theorem dX11_isIn_3 : decode cX11_isIn 3 = .ok (.lconst 1, 1) := by decide +kernel
theorem dX11_isIn_4 : decode cX11_isIn 4 = .ok (.land, 1) := by decide +kernel
theorem dX11_isIn_5 : decode cX11_isIn 5 = .ok (.lconst 1, 1) := by decide +kernel
theorem dX11_isIn_6 : decode cX11_isIn 6 = .ok (.lcmp, 1) := by decide +kernel
theorem dX11_isIn_7 : decode cX11_isIn 7 = .ok (.ifCond .ne 7, 3) := by decide +kernel
theorem dX11_isIn_10 : decode cX11_isIn 10 = .ok (.iconst 1, 1) := by decide +kernel
theorem dX11_isIn_11 : decode cX11_isIn 11 = .ok (.goto 4, 3) := by decide +kernel
theorem dX11_isIn_14 : decode cX11_isIn 14 = .ok (.iconst 0, 1) := by decide +kernel
theorem dX11_isIn_15 : decode cX11_isIn 15 = .ok (.ireturn, 1) := by decide +kernel
theorem dX11_wordOf_0 : decode cX11_wordOf 0 = .ok (.iload_n 1, 1) := by decide +kernel
theorem dX11_wordOf_1 : decode cX11_wordOf 1 = .ok (.tableswitch 115 2 20 #[97, 115, 115, 115, 93, 115, 115, 95, 115, 99, 115, 115, 115, 115, 115, 115, 115, 91, 101], 91) := by decide +kernel
theorem dX11_wordOf_92 : decode cX11_wordOf 92 = .ok (.iconst 0, 1) := by decide +kernel
theorem dX11_wordOf_93 : decode cX11_wordOf 93 = .ok (.ireturn, 1) := by decide +kernel
theorem dX11_wordOf_94 : decode cX11_wordOf 94 = .ok (.iconst 1, 1) := by decide +kernel
theorem dX11_wordOf_95 : decode cX11_wordOf 95 = .ok (.ireturn, 1) := by decide +kernel
theorem dX11_wordOf_96 : decode cX11_wordOf 96 = .ok (.iconst 2, 1) := by decide +kernel
theorem dX11_wordOf_97 : decode cX11_wordOf 97 = .ok (.ireturn, 1) := by decide +kernel
theorem dX11_wordOf_98 : decode cX11_wordOf 98 = .ok (.iconst 3, 1) := by decide +kernel
theorem dX11_wordOf_99 : decode cX11_wordOf 99 = .ok (.ireturn, 1) := by decide +kernel
theorem dX11_wordOf_100 : decode cX11_wordOf 100 = .ok (.iconst 4, 1) := by decide +kernel
theorem dX11_wordOf_101 : decode cX11_wordOf 101 = .ok (.ireturn, 1) := by decide +kernel
theorem dX11_wordOf_102 : decode cX11_wordOf 102 = .ok (.aload_n 0, 1) := by decide +kernel
theorem dX11_wordOf_103 : decode cX11_wordOf 103 = .ok (.getfield 162, 3) := by decide +kernel
theorem dX11_wordOf_106 : decode cX11_wordOf 106 = .ok (.iconst 1, 1) := by decide +kernel
theorem dX11_wordOf_107 : decode cX11_wordOf 107 = .ok (.if_icmp .ne 7, 3) := by decide +kernel
theorem dX11_wordOf_110 : decode cX11_wordOf 110 = .ok (.iconst 5, 1) := by decide +kernel
theorem dX11_wordOf_111 : decode cX11_wordOf 111 = .ok (.goto 4, 3) := by decide +kernel
theorem dX11_wordOf_114 : decode cX11_wordOf 114 = .ok (.iconst (-1), 1) := by decide +kernel
theorem dX11_wordOf_115 : decode cX11_wordOf 115 = .ok (.ireturn, 1) := by decide +kernel
theorem dX11_wordOf_116 : decode cX11_wordOf 116 = .ok (.iconst (-1), 1) := by decide +kernel
theorem dX11_wordOf_117 : decode cX11_wordOf 117 = .ok (.ireturn, 1) := by decide +kernel
theorem dX11_codes_0 : decode cX11_codes 0 = .ok (.aload_n 0, 1) := by decide +kernel
theorem dX11_codes_1 : decode cX11_codes 1 = .ok (.getfield 142, 3) := by decide +kernel
theorem dX11_codes_4 : decode cX11_codes 4 = .ok (.ifCond .eq 4, 3) := by decide +kernel
theorem dX11_codes_7 : decode cX11_codes 7 = .ok (.return_, 1) := by decide +kernel
theorem dX11_codes_8 : decode cX11_codes 8 = .ok (.aload_n 0, 1) := by decide +kernel
theorem dX11_codes_9 : decode cX11_codes 9 = .ok (.getfield 24, 3) := by decide +kernel
theorem dX11_codes_12 : decode cX11_codes 12 = .ok (.bipush 94, 2) := by decide +kernel
theorem dX11_codes_14 : decode cX11_codes 14 = .ok (.aload_n 0, 1) := by decide +kernel
theorem dX11_codes_15 : decode cX11_codes 15 = .ok (.getfield 24, 3) := by decide +kernel
theorem dX11_codes_18 : decode cX11_codes 18 = .ok (.bipush 93, 2) := by decide +kernel
theorem dX11_codes_20 : decode cX11_codes 20 = .ok (.iaload, 1) := by decide +kernel
theorem dX11_codes_21 : decode cX11_codes 21 = .ok (.iadd, 1) := by decide +kernel
theorem dX11_codes_22 : decode cX11_codes 22 = .ok (.iload_n 1, 1) := by decide +kernel
theorem dX11_codes_23 : decode cX11_codes 23 = .ok (.iastore, 1) := by decide +kernel
theorem dX11_codes_24 : decode cX11_codes 24 = .ok (.aload_n 0, 1) := by decide +kernel
theorem dX11_codes_25 : decode cX11_codes 25 = .ok (.getfield 24, 3) := by decide +kernel
theorem dX11_codes_28 : decode cX11_codes 28 = .ok (.bipush 93, 2) := by decide +kernel
theorem dX11_codes_30 : decode cX11_codes 30 = .ok (.dup2, 1) := by decide +kernel
theorem dX11_codes_31 : decode cX11_codes 31 = .ok (.iaload, 1) := by decide +kernel
theorem dX11_codes_32 : decode cX11_codes 32 = .ok (.iconst 1, 1) := by decide +kernel
theorem dX11_codes_33 : decode cX11_codes 33 = .ok (.iadd, 1) := by decide +kernel
theorem dX11_codes_34 : decode cX11_codes 34 = .ok (.iastore, 1) := by decide +kernel
theorem dX11_codes_35 : decode cX11_codes 35 = .ok (.return_, 1) := by decide +kernel
theorem dX11_goesIn_0 : decode cX11_goesIn 0 = .ok (.iload_n 1, 1) := by decide +kernel
theorem dX11_goesIn_1 : decode cX11_goesIn 1 = .ok (.bipush 6, 2) := by decide +kernel
theorem dX11_goesIn_3 : decode cX11_goesIn 3 = .ok (.if_icmp .ne 8, 3) := by decide +kernel
theorem dX11_goesIn_6 : decode cX11_goesIn 6 = .ok (.aload_n 0, 1) := by decide +kernel
theorem dX11_goesIn_7 : decode cX11_goesIn 7 = .ok (.iconst 4, 1) := by decide +kernel
theorem dX11_goesIn_8 : decode cX11_goesIn 8 = .ok (.invokevirtual 154, 3) := by decide +kernel
theorem dX11_goesIn_11 : decode cX11_goesIn 11 = .ok (.aload_n 0, 1) := by decide +kernel
theorem dX11_goesIn_12 : decode cX11_goesIn 12 = .ok (.getfield 142, 3) := by decide +kernel
theorem dX11_goesIn_15 : decode cX11_goesIn 15 = .ok (.ifCond .ne 7, 3) := by decide +kernel
theorem dX11_goesIn_18 : decode cX11_goesIn 18 = .ok (.aload_n 0, 1) := by decide +kernel
theorem dX11_goesIn_19 : decode cX11_goesIn 19 = .ok (.invokevirtual 151, 3) := by decide +kernel
theorem dX11_goesIn_22 : decode cX11_goesIn 22 = .ok (.aload_n 0, 1) := by decide +kernel
theorem dX11_goesIn_23 : decode cX11_goesIn 23 = .ok (.getfield 142, 3) := by decide +kernel
theorem dX11_goesIn_26 : decode cX11_goesIn 26 = .ok (.ifCond .ne 7, 3) := by decide +kernel
theorem dX11_goesIn_29 : decode cX11_goesIn 29 = .ok (.iconst 1, 1) := by decide +kernel
theorem dX11_goesIn_30 : decode cX11_goesIn 30 = .ok (.goto 4, 3) := by decide +kernel
theorem dX11_goesIn_33 : decode cX11_goesIn 33 = .ok (.iconst 0, 1) := by decide +kernel
theorem dX11_goesIn_34 : decode cX11_goesIn 34 = .ok (.ireturn, 1) := by decide +kernel
theorem dX11_readAtom_0 : decode cX11_readAtom 0 = .ok (.aload_n 0, 1) := by decide +kernel
theorem dX11_readAtom_1 : decode cX11_readAtom 1 = .ok (.bipush 25, 2) := by decide +kernel
theorem dX11_readAtom_3 : decode cX11_readAtom 3 = .ok (.invokevirtual 148, 3) := by decide +kernel
theorem dX11_readAtom_6 : decode cX11_readAtom 6 = .ok (.ifCond .eq 18, 3) := by decide +kernel
theorem dX11_readAtom_9 : decode cX11_readAtom 9 = .ok (.aload_n 0, 1) := by decide +kernel
theorem dX11_readAtom_10 : decode cX11_readAtom 10 = .ok (.aload_n 0, 1) := by decide +kernel
theorem dX11_readAtom_11 : decode cX11_readAtom 11 = .ok (.getfield 137, 3) := by decide +kernel
theorem dX11_readAtom_14 : decode cX11_readAtom 14 = .ok (.invokevirtual 165, 3) := by decide +kernel
theorem dX11_readAtom_17 : decode cX11_readAtom 17 = .ok (.aload_n 0, 1) := by decide +kernel
theorem dX11_readAtom_18 : decode cX11_readAtom 18 = .ok (.invokevirtual 151, 3) := by decide +kernel
theorem dX11_readAtom_21 : decode cX11_readAtom 21 = .ok (.goto 109, 3) := by decide +kernel
theorem dX11_readAtom_24 : decode cX11_readAtom 24 = .ok (.aload_n 0, 1) := by decide +kernel
theorem dX11_readAtom_25 : decode cX11_readAtom 25 = .ok (.getfield 142, 3) := by decide +kernel
theorem dX11_readAtom_28 : decode cX11_readAtom 28 = .ok (.ifCond .ne 38, 3) := by decide +kernel
theorem dX11_readAtom_31 : decode cX11_readAtom 31 = .ok (.aload_n 0, 1) := by decide +kernel
theorem dX11_readAtom_32 : decode cX11_readAtom 32 = .ok (.aload_n 0, 1) := by decide +kernel
theorem dX11_readAtom_33 : decode cX11_readAtom 33 = .ok (.getfield 124, 3) := by decide +kernel
theorem dX11_readAtom_36 : decode cX11_readAtom 36 = .ok (.invokevirtual 168, 3) := by decide +kernel
theorem dX11_readAtom_39 : decode cX11_readAtom 39 = .ok (.iconst (-1), 1) := by decide +kernel
theorem dX11_readAtom_40 : decode cX11_readAtom 40 = .ok (.if_icmp .eq 26, 3) := by decide +kernel
theorem dX11_readAtom_43 : decode cX11_readAtom 43 = .ok (.aload_n 0, 1) := by decide +kernel
theorem dX11_readAtom_44 : decode cX11_readAtom 44 = .ok (.sipush 1000, 3) := by decide +kernel
theorem dX11_readAtom_47 : decode cX11_readAtom 47 = .ok (.aload_n 0, 1) := by decide +kernel
theorem dX11_readAtom_48 : decode cX11_readAtom 48 = .ok (.aload_n 0, 1) := by decide +kernel
theorem dX11_readAtom_49 : decode cX11_readAtom 49 = .ok (.getfield 124, 3) := by decide +kernel
theorem dX11_readAtom_52 : decode cX11_readAtom 52 = .ok (.invokevirtual 168, 3) := by decide +kernel
theorem dX11_readAtom_55 : decode cX11_readAtom 55 = .ok (.iadd, 1) := by decide +kernel
theorem dX11_readAtom_56 : decode cX11_readAtom 56 = .ok (.invokevirtual 165, 3) := by decide +kernel
theorem dX11_readAtom_59 : decode cX11_readAtom 59 = .ok (.aload_n 0, 1) := by decide +kernel
theorem dX11_readAtom_60 : decode cX11_readAtom 60 = .ok (.invokevirtual 151, 3) := by decide +kernel
theorem dX11_readAtom_63 : decode cX11_readAtom 63 = .ok (.goto 67, 3) := by decide +kernel
theorem dX11_readAtom_66 : decode cX11_readAtom 66 = .ok (.aload_n 0, 1) := by decide +kernel
theorem dX11_readAtom_67 : decode cX11_readAtom 67 = .ok (.bipush 35, 2) := by decide +kernel
theorem dX11_readAtom_69 : decode cX11_readAtom 69 = .ok (.invokevirtual 148, 3) := by decide +kernel
theorem dX11_readAtom_72 : decode cX11_readAtom 72 = .ok (.ifCond .eq 36, 3) := by decide +kernel
theorem dX11_readAtom_75 : decode cX11_readAtom 75 = .ok (.aload_n 0, 1) := by decide +kernel
theorem dX11_readAtom_76 : decode cX11_readAtom 76 = .ok (.iload_n 1, 1) := by decide +kernel
theorem dX11_readAtom_77 : decode cX11_readAtom 77 = .ok (.invokevirtual 171, 3) := by decide +kernel
theorem dX11_readAtom_80 : decode cX11_readAtom 80 = .ok (.ifCond .ne 4, 3) := by decide +kernel
theorem dX11_readAtom_83 : decode cX11_readAtom 83 = .ok (.return_, 1) := by decide +kernel
theorem dX11_readAtom_84 : decode cX11_readAtom 84 = .ok (.aload_n 0, 1) := by decide +kernel
theorem dX11_readAtom_85 : decode cX11_readAtom 85 = .ok (.iload_n 1, 1) := by decide +kernel
theorem dX11_readAtom_86 : decode cX11_readAtom 86 = .ok (.iconst 1, 1) := by decide +kernel
theorem dX11_readAtom_87 : decode cX11_readAtom 87 = .ok (.iadd, 1) := by decide +kernel
theorem dX11_readAtom_88 : decode cX11_readAtom 88 = .ok (.invokevirtual 174, 3) := by decide +kernel
theorem dX11_readAtom_91 : decode cX11_readAtom 91 = .ok (.aload_n 0, 1) := by decide +kernel
theorem dX11_readAtom_92 : decode cX11_readAtom 92 = .ok (.bipush 36, 2) := by decide +kernel
theorem dX11_readAtom_94 : decode cX11_readAtom 94 = .ok (.invokevirtual 177, 3) := by decide +kernel
theorem dX11_readAtom_97 : decode cX11_readAtom 97 = .ok (.ifCond .ne 33, 3) := by decide +kernel
theorem dX11_readAtom_100 : decode cX11_readAtom 100 = .ok (.aload_n 0, 1) := by decide +kernel
theorem dX11_readAtom_101 : decode cX11_readAtom 101 = .ok (.iconst 2, 1) := by decide +kernel
theorem dX11_readAtom_102 : decode cX11_readAtom 102 = .ok (.invokevirtual 154, 3) := by decide +kernel
theorem dX11_readAtom_105 : decode cX11_readAtom 105 = .ok (.goto 25, 3) := by decide +kernel
theorem dX11_readAtom_108 : decode cX11_readAtom 108 = .ok (.aload_n 0, 1) := by decide +kernel
theorem dX11_readAtom_109 : decode cX11_readAtom 109 = .ok (.bipush 15, 2) := by decide +kernel
theorem dX11_readAtom_111 : decode cX11_readAtom 111 = .ok (.invokevirtual 148, 3) := by decide +kernel
theorem dX11_readAtom_114 : decode cX11_readAtom 114 = .ok (.ifCond .eq 11, 3) := by decide +kernel
theorem dX11_readAtom_117 : decode cX11_readAtom 117 = .ok (.aload_n 0, 1) := by decide +kernel
theorem dX11_readAtom_118 : decode cX11_readAtom 118 = .ok (.iload_n 1, 1) := by decide +kernel
theorem dX11_readAtom_119 : decode cX11_readAtom 119 = .ok (.invokevirtual 180, 3) := by decide +kernel
theorem dX11_readAtom_122 : decode cX11_readAtom 122 = .ok (.goto 8, 3) := by decide +kernel
theorem dX11_readAtom_125 : decode cX11_readAtom 125 = .ok (.aload_n 0, 1) := by decide +kernel
theorem dX11_readAtom_126 : decode cX11_readAtom 126 = .ok (.iconst 2, 1) := by decide +kernel
theorem dX11_readAtom_127 : decode cX11_readAtom 127 = .ok (.invokevirtual 154, 3) := by decide +kernel
theorem dX11_readAtom_130 : decode cX11_readAtom 130 = .ok (.return_, 1) := by decide +kernel
theorem dX11_readIf_0 : decode cX11_readIf 0 = .ok (.aload_n 0, 1) := by decide +kernel
theorem dX11_readIf_1 : decode cX11_readIf 1 = .ok (.iload_n 1, 1) := by decide +kernel
theorem dX11_readIf_2 : decode cX11_readIf 2 = .ok (.invokevirtual 171, 3) := by decide +kernel
theorem dX11_readIf_5 : decode cX11_readIf 5 = .ok (.ifCond .ne 4, 3) := by decide +kernel
theorem dX11_readIf_8 : decode cX11_readIf 8 = .ok (.return_, 1) := by decide +kernel
theorem dX11_readIf_9 : decode cX11_readIf 9 = .ok (.aload_n 0, 1) := by decide +kernel
theorem dX11_readIf_10 : decode cX11_readIf 10 = .ok (.iload_n 1, 1) := by decide +kernel
theorem dX11_readIf_11 : decode cX11_readIf 11 = .ok (.iconst 1, 1) := by decide +kernel
theorem dX11_readIf_12 : decode cX11_readIf 12 = .ok (.iadd, 1) := by decide +kernel
theorem dX11_readIf_13 : decode cX11_readIf 13 = .ok (.invokevirtual 183, 3) := by decide +kernel
theorem dX11_readIf_16 : decode cX11_readIf 16 = .ok (.aload_n 0, 1) := by decide +kernel
theorem dX11_readIf_17 : decode cX11_readIf 17 = .ok (.bipush 16, 2) := by decide +kernel
theorem dX11_readIf_19 : decode cX11_readIf 19 = .ok (.invokevirtual 177, 3) := by decide +kernel
theorem dX11_readIf_22 : decode cX11_readIf 22 = .ok (.ifCond .ne 8, 3) := by decide +kernel
theorem dX11_readIf_25 : decode cX11_readIf 25 = .ok (.aload_n 0, 1) := by decide +kernel
theorem dX11_readIf_26 : decode cX11_readIf 26 = .ok (.iconst 2, 1) := by decide +kernel
theorem dX11_readIf_27 : decode cX11_readIf 27 = .ok (.invokevirtual 154, 3) := by decide +kernel
theorem dX11_readIf_30 : decode cX11_readIf 30 = .ok (.aload_n 0, 1) := by decide +kernel
theorem dX11_readIf_31 : decode cX11_readIf 31 = .ok (.iload_n 1, 1) := by decide +kernel
theorem dX11_readIf_32 : decode cX11_readIf 32 = .ok (.iconst 1, 1) := by decide +kernel
theorem dX11_readIf_33 : decode cX11_readIf 33 = .ok (.iadd, 1) := by decide +kernel
theorem dX11_readIf_34 : decode cX11_readIf 34 = .ok (.invokevirtual 174, 3) := by decide +kernel
theorem dX11_readIf_37 : decode cX11_readIf 37 = .ok (.aload_n 0, 1) := by decide +kernel
theorem dX11_readIf_38 : decode cX11_readIf 38 = .ok (.bipush 17, 2) := by decide +kernel
theorem dX11_readIf_40 : decode cX11_readIf 40 = .ok (.invokevirtual 177, 3) := by decide +kernel
theorem dX11_readIf_43 : decode cX11_readIf 43 = .ok (.ifCond .ne 8, 3) := by decide +kernel
theorem dX11_readIf_46 : decode cX11_readIf 46 = .ok (.aload_n 0, 1) := by decide +kernel
theorem dX11_readIf_47 : decode cX11_readIf 47 = .ok (.iconst 2, 1) := by decide +kernel
theorem dX11_readIf_48 : decode cX11_readIf 48 = .ok (.invokevirtual 154, 3) := by decide +kernel
theorem dX11_readIf_51 : decode cX11_readIf 51 = .ok (.aload_n 0, 1) := by decide +kernel
theorem dX11_readIf_52 : decode cX11_readIf 52 = .ok (.iload_n 1, 1) := by decide +kernel
theorem dX11_readIf_53 : decode cX11_readIf 53 = .ok (.iconst 1, 1) := by decide +kernel
theorem dX11_readIf_54 : decode cX11_readIf 54 = .ok (.iadd, 1) := by decide +kernel
theorem dX11_readIf_55 : decode cX11_readIf 55 = .ok (.invokevirtual 174, 3) := by decide +kernel
theorem dX11_readIf_58 : decode cX11_readIf 58 = .ok (.aload_n 0, 1) := by decide +kernel
theorem dX11_readIf_59 : decode cX11_readIf 59 = .ok (.bipush 18, 2) := by decide +kernel
theorem dX11_readIf_61 : decode cX11_readIf 61 = .ok (.invokevirtual 177, 3) := by decide +kernel
theorem dX11_readIf_64 : decode cX11_readIf 64 = .ok (.ifCond .ne 8, 3) := by decide +kernel
theorem dX11_readIf_67 : decode cX11_readIf 67 = .ok (.aload_n 0, 1) := by decide +kernel
theorem dX11_readIf_68 : decode cX11_readIf 68 = .ok (.iconst 2, 1) := by decide +kernel
theorem dX11_readIf_69 : decode cX11_readIf 69 = .ok (.invokevirtual 154, 3) := by decide +kernel
theorem dX11_readIf_72 : decode cX11_readIf 72 = .ok (.aload_n 0, 1) := by decide +kernel
theorem dX11_readIf_73 : decode cX11_readIf 73 = .ok (.sipush 3009, 3) := by decide +kernel
theorem dX11_readIf_76 : decode cX11_readIf 76 = .ok (.invokevirtual 165, 3) := by decide +kernel
theorem dX11_readIf_79 : decode cX11_readIf 79 = .ok (.return_, 1) := by decide +kernel
theorem dX11_readTerm_0 : decode cX11_readTerm 0 = .ok (.aload_n 0, 1) := by decide +kernel
theorem dX11_readTerm_1 : decode cX11_readTerm 1 = .ok (.iload_n 1, 1) := by decide +kernel
theorem dX11_readTerm_2 : decode cX11_readTerm 2 = .ok (.invokevirtual 186, 3) := by decide +kernel
theorem dX11_readTerm_5 : decode cX11_readTerm 5 = .ok (.aload_n 0, 1) := by decide +kernel
theorem dX11_readTerm_6 : decode cX11_readTerm 6 = .ok (.bipush 34, 2) := by decide +kernel
theorem dX11_readTerm_8 : decode cX11_readTerm 8 = .ok (.invokevirtual 177, 3) := by decide +kernel
theorem dX11_readTerm_11 : decode cX11_readTerm 11 = .ok (.ifCond .eq 18, 3) := by decide +kernel
theorem dX11_readTerm_14 : decode cX11_readTerm 14 = .ok (.aload_n 0, 1) := by decide +kernel
theorem dX11_readTerm_15 : decode cX11_readTerm 15 = .ok (.iload_n 1, 1) := by decide +kernel
theorem dX11_readTerm_16 : decode cX11_readTerm 16 = .ok (.invokevirtual 186, 3) := by decide +kernel
theorem dX11_readTerm_19 : decode cX11_readTerm 19 = .ok (.aload_n 0, 1) := by decide +kernel
theorem dX11_readTerm_20 : decode cX11_readTerm 20 = .ok (.sipush 3002, 3) := by decide +kernel
theorem dX11_readTerm_23 : decode cX11_readTerm 23 = .ok (.invokevirtual 165, 3) := by decide +kernel
theorem dX11_readTerm_26 : decode cX11_readTerm 26 = .ok (.goto (-21), 3) := by decide +kernel
theorem dX11_readTerm_29 : decode cX11_readTerm 29 = .ok (.return_, 1) := by decide +kernel
theorem dX11_readSum_0 : decode cX11_readSum 0 = .ok (.aload_n 0, 1) := by decide +kernel
theorem dX11_readSum_1 : decode cX11_readSum 1 = .ok (.iload_n 1, 1) := by decide +kernel
theorem dX11_readSum_2 : decode cX11_readSum 2 = .ok (.invokevirtual 189, 3) := by decide +kernel
theorem dX11_readSum_5 : decode cX11_readSum 5 = .ok (.aload_n 0, 1) := by decide +kernel
theorem dX11_readSum_6 : decode cX11_readSum 6 = .ok (.bipush 32, 2) := by decide +kernel
theorem dX11_readSum_8 : decode cX11_readSum 8 = .ok (.invokevirtual 148, 3) := by decide +kernel
theorem dX11_readSum_11 : decode cX11_readSum 11 = .ok (.ifCond .ne 12, 3) := by decide +kernel
theorem dX11_readSum_14 : decode cX11_readSum 14 = .ok (.aload_n 0, 1) := by decide +kernel
theorem dX11_readSum_15 : decode cX11_readSum 15 = .ok (.bipush 33, 2) := by decide +kernel
theorem dX11_readSum_17 : decode cX11_readSum 17 = .ok (.invokevirtual 148, 3) := by decide +kernel
theorem dX11_readSum_20 : decode cX11_readSum 20 = .ok (.ifCond .eq 39, 3) := by decide +kernel
theorem dX11_readSum_23 : decode cX11_readSum 23 = .ok (.aload_n 0, 1) := by decide +kernel
theorem dX11_readSum_24 : decode cX11_readSum 24 = .ok (.getfield 124, 3) := by decide +kernel
theorem dX11_readSum_27 : decode cX11_readSum 27 = .ok (.bipush 32, 2) := by decide +kernel
theorem dX11_readSum_29 : decode cX11_readSum 29 = .ok (.if_icmp .ne 9, 3) := by decide +kernel
theorem dX11_readSum_32 : decode cX11_readSum 32 = .ok (.sipush 3000, 3) := by decide +kernel
theorem dX11_readSum_35 : decode cX11_readSum 35 = .ok (.goto 6, 3) := by decide +kernel
theorem dX11_readSum_38 : decode cX11_readSum 38 = .ok (.sipush 3001, 3) := by decide +kernel
theorem dX11_readSum_41 : decode cX11_readSum 41 = .ok (.istore_n 2, 1) := by decide +kernel
theorem dX11_readSum_42 : decode cX11_readSum 42 = .ok (.aload_n 0, 1) := by decide +kernel
theorem dX11_readSum_43 : decode cX11_readSum 43 = .ok (.invokevirtual 151, 3) := by decide +kernel
theorem dX11_readSum_46 : decode cX11_readSum 46 = .ok (.aload_n 0, 1) := by decide +kernel
theorem dX11_readSum_47 : decode cX11_readSum 47 = .ok (.iload_n 1, 1) := by decide +kernel
theorem dX11_readSum_48 : decode cX11_readSum 48 = .ok (.invokevirtual 189, 3) := by decide +kernel
theorem dX11_readSum_51 : decode cX11_readSum 51 = .ok (.aload_n 0, 1) := by decide +kernel
theorem dX11_readSum_52 : decode cX11_readSum 52 = .ok (.iload_n 2, 1) := by decide +kernel
theorem dX11_readSum_53 : decode cX11_readSum 53 = .ok (.invokevirtual 165, 3) := by decide +kernel
theorem dX11_readSum_56 : decode cX11_readSum 56 = .ok (.goto (-51), 3) := by decide +kernel
theorem dX11_readSum_59 : decode cX11_readSum 59 = .ok (.return_, 1) := by decide +kernel
theorem dX11_readUnit_0 : decode cX11_readUnit 0 = .ok (.aload_n 0, 1) := by decide +kernel
theorem dX11_readUnit_1 : decode cX11_readUnit 1 = .ok (.bipush 23, 2) := by decide +kernel
theorem dX11_readUnit_3 : decode cX11_readUnit 3 = .ok (.invokevirtual 148, 3) := by decide +kernel
theorem dX11_readUnit_6 : decode cX11_readUnit 6 = .ok (.ifCond .eq 27, 3) := by decide +kernel
theorem dX11_readUnit_9 : decode cX11_readUnit 9 = .ok (.aload_n 0, 1) := by decide +kernel
theorem dX11_readUnit_10 : decode cX11_readUnit 10 = .ok (.iload_n 1, 1) := by decide +kernel
theorem dX11_readUnit_11 : decode cX11_readUnit 11 = .ok (.invokevirtual 171, 3) := by decide +kernel
theorem dX11_readUnit_14 : decode cX11_readUnit 14 = .ok (.ifCond .ne 4, 3) := by decide +kernel
theorem dX11_readUnit_17 : decode cX11_readUnit 17 = .ok (.return_, 1) := by decide +kernel
theorem dX11_readUnit_18 : decode cX11_readUnit 18 = .ok (.aload_n 0, 1) := by decide +kernel
theorem dX11_readUnit_19 : decode cX11_readUnit 19 = .ok (.iload_n 1, 1) := by decide +kernel
theorem dX11_readUnit_20 : decode cX11_readUnit 20 = .ok (.iconst 1, 1) := by decide +kernel
theorem dX11_readUnit_21 : decode cX11_readUnit 21 = .ok (.iadd, 1) := by decide +kernel
theorem dX11_readUnit_22 : decode cX11_readUnit 22 = .ok (.invokevirtual 192, 3) := by decide +kernel
theorem dX11_readUnit_25 : decode cX11_readUnit 25 = .ok (.aload_n 0, 1) := by decide +kernel
theorem dX11_readUnit_26 : decode cX11_readUnit 26 = .ok (.sipush 3006, 3) := by decide +kernel
theorem dX11_readUnit_29 : decode cX11_readUnit 29 = .ok (.invokevirtual 165, 3) := by decide +kernel
theorem dX11_readUnit_32 : decode cX11_readUnit 32 = .ok (.return_, 1) := by decide +kernel
theorem dX11_readUnit_33 : decode cX11_readUnit 33 = .ok (.aload_n 0, 1) := by decide +kernel
theorem dX11_readUnit_34 : decode cX11_readUnit 34 = .ok (.bipush 37, 2) := by decide +kernel
theorem dX11_readUnit_36 : decode cX11_readUnit 36 = .ok (.invokevirtual 148, 3) := by decide +kernel
theorem dX11_readUnit_39 : decode cX11_readUnit 39 = .ok (.ifCond .eq 34, 3) := by decide +kernel
theorem dX11_readUnit_42 : decode cX11_readUnit 42 = .ok (.aload_n 0, 1) := by decide +kernel
theorem dX11_readUnit_43 : decode cX11_readUnit 43 = .ok (.iload_n 1, 1) := by decide +kernel
theorem dX11_readUnit_44 : decode cX11_readUnit 44 = .ok (.invokevirtual 171, 3) := by decide +kernel
theorem dX11_readUnit_47 : decode cX11_readUnit 47 = .ok (.ifCond .ne 4, 3) := by decide +kernel
theorem dX11_readUnit_50 : decode cX11_readUnit 50 = .ok (.return_, 1) := by decide +kernel
theorem dX11_readUnit_51 : decode cX11_readUnit 51 = .ok (.aload_n 0, 1) := by decide +kernel
theorem dX11_readUnit_52 : decode cX11_readUnit 52 = .ok (.iload_n 1, 1) := by decide +kernel
theorem dX11_readUnit_53 : decode cX11_readUnit 53 = .ok (.iconst 1, 1) := by decide +kernel
theorem dX11_readUnit_54 : decode cX11_readUnit 54 = .ok (.iadd, 1) := by decide +kernel
theorem dX11_readUnit_55 : decode cX11_readUnit 55 = .ok (.invokevirtual 183, 3) := by decide +kernel
theorem dX11_readUnit_58 : decode cX11_readUnit 58 = .ok (.aload_n 0, 1) := by decide +kernel
theorem dX11_readUnit_59 : decode cX11_readUnit 59 = .ok (.bipush 38, 2) := by decide +kernel
theorem dX11_readUnit_61 : decode cX11_readUnit 61 = .ok (.invokevirtual 177, 3) := by decide +kernel
theorem dX11_readUnit_64 : decode cX11_readUnit 64 = .ok (.ifCond .ne 8, 3) := by decide +kernel
theorem dX11_readUnit_67 : decode cX11_readUnit 67 = .ok (.aload_n 0, 1) := by decide +kernel
theorem dX11_readUnit_68 : decode cX11_readUnit 68 = .ok (.iconst 2, 1) := by decide +kernel
theorem dX11_readUnit_69 : decode cX11_readUnit 69 = .ok (.invokevirtual 154, 3) := by decide +kernel
theorem dX11_readUnit_72 : decode cX11_readUnit 72 = .ok (.return_, 1) := by decide +kernel
theorem dX11_readUnit_73 : decode cX11_readUnit 73 = .ok (.aload_n 0, 1) := by decide +kernel
theorem dX11_readUnit_74 : decode cX11_readUnit 74 = .ok (.iload_n 1, 1) := by decide +kernel
theorem dX11_readUnit_75 : decode cX11_readUnit 75 = .ok (.invokevirtual 174, 3) := by decide +kernel
theorem dX11_readUnit_78 : decode cX11_readUnit 78 = .ok (.aload_n 0, 1) := by decide +kernel
theorem dX11_readUnit_79 : decode cX11_readUnit 79 = .ok (.bipush 39, 2) := by decide +kernel
theorem dX11_readUnit_81 : decode cX11_readUnit 81 = .ok (.invokevirtual 148, 3) := by decide +kernel
theorem dX11_readUnit_84 : decode cX11_readUnit 84 = .ok (.ifCond .eq 9, 3) := by decide +kernel
theorem dX11_readUnit_87 : decode cX11_readUnit 87 = .ok (.sipush 3003, 3) := by decide +kernel
theorem dX11_readUnit_90 : decode cX11_readUnit 90 = .ok (.goto 21, 3) := by decide +kernel
theorem dX11_readUnit_93 : decode cX11_readUnit 93 = .ok (.aload_n 0, 1) := by decide +kernel
theorem dX11_readUnit_94 : decode cX11_readUnit 94 = .ok (.bipush 40, 2) := by decide +kernel
theorem dX11_readUnit_96 : decode cX11_readUnit 96 = .ok (.invokevirtual 148, 3) := by decide +kernel
theorem dX11_readUnit_99 : decode cX11_readUnit 99 = .ok (.ifCond .eq 9, 3) := by decide +kernel
theorem dX11_readUnit_102 : decode cX11_readUnit 102 = .ok (.sipush 3004, 3) := by decide +kernel
theorem dX11_readUnit_105 : decode cX11_readUnit 105 = .ok (.goto 6, 3) := by decide +kernel
theorem dX11_readUnit_108 : decode cX11_readUnit 108 = .ok (.sipush 3005, 3) := by decide +kernel
theorem dX11_readUnit_111 : decode cX11_readUnit 111 = .ok (.istore_n 2, 1) := by decide +kernel
theorem dX11_readUnit_112 : decode cX11_readUnit 112 = .ok (.aload_n 0, 1) := by decide +kernel
theorem dX11_readUnit_113 : decode cX11_readUnit 113 = .ok (.bipush 39, 2) := by decide +kernel
theorem dX11_readUnit_115 : decode cX11_readUnit 115 = .ok (.invokevirtual 148, 3) := by decide +kernel
theorem dX11_readUnit_118 : decode cX11_readUnit 118 = .ok (.ifCond .ne 21, 3) := by decide +kernel
theorem dX11_readUnit_121 : decode cX11_readUnit 121 = .ok (.aload_n 0, 1) := by decide +kernel
theorem dX11_readUnit_122 : decode cX11_readUnit 122 = .ok (.bipush 40, 2) := by decide +kernel
theorem dX11_readUnit_124 : decode cX11_readUnit 124 = .ok (.invokevirtual 148, 3) := by decide +kernel
theorem dX11_readUnit_127 : decode cX11_readUnit 127 = .ok (.ifCond .ne 12, 3) := by decide +kernel
theorem dX11_readUnit_130 : decode cX11_readUnit 130 = .ok (.aload_n 0, 1) := by decide +kernel
theorem dX11_readUnit_131 : decode cX11_readUnit 131 = .ok (.bipush 41, 2) := by decide +kernel
theorem dX11_readUnit_133 : decode cX11_readUnit 133 = .ok (.invokevirtual 148, 3) := by decide +kernel
theorem dX11_readUnit_136 : decode cX11_readUnit 136 = .ok (.ifCond .eq 10, 3) := by decide +kernel
theorem dX11_readUnit_139 : decode cX11_readUnit 139 = .ok (.aload_n 0, 1) := by decide +kernel
theorem dX11_readUnit_140 : decode cX11_readUnit 140 = .ok (.invokevirtual 151, 3) := by decide +kernel
theorem dX11_readUnit_143 : decode cX11_readUnit 143 = .ok (.goto 8, 3) := by decide +kernel
theorem dX11_readUnit_146 : decode cX11_readUnit 146 = .ok (.aload_n 0, 1) := by decide +kernel
theorem dX11_readUnit_147 : decode cX11_readUnit 147 = .ok (.iconst 2, 1) := by decide +kernel
theorem dX11_readUnit_148 : decode cX11_readUnit 148 = .ok (.invokevirtual 154, 3) := by decide +kernel
theorem dX11_readUnit_151 : decode cX11_readUnit 151 = .ok (.aload_n 0, 1) := by decide +kernel
theorem dX11_readUnit_152 : decode cX11_readUnit 152 = .ok (.iload_n 1, 1) := by decide +kernel
theorem dX11_readUnit_153 : decode cX11_readUnit 153 = .ok (.invokevirtual 174, 3) := by decide +kernel
theorem dX11_readUnit_156 : decode cX11_readUnit 156 = .ok (.aload_n 0, 1) := by decide +kernel
theorem dX11_readUnit_157 : decode cX11_readUnit 157 = .ok (.iload_n 2, 1) := by decide +kernel
theorem dX11_readUnit_158 : decode cX11_readUnit 158 = .ok (.invokevirtual 165, 3) := by decide +kernel
theorem dX11_readUnit_161 : decode cX11_readUnit 161 = .ok (.return_, 1) := by decide +kernel
theorem dX11_readBoth_0 : decode cX11_readBoth 0 = .ok (.aload_n 0, 1) := by decide +kernel
theorem dX11_readBoth_1 : decode cX11_readBoth 1 = .ok (.iload_n 1, 1) := by decide +kernel
theorem dX11_readBoth_2 : decode cX11_readBoth 2 = .ok (.invokevirtual 192, 3) := by decide +kernel
theorem dX11_readBoth_5 : decode cX11_readBoth 5 = .ok (.aload_n 0, 1) := by decide +kernel
theorem dX11_readBoth_6 : decode cX11_readBoth 6 = .ok (.bipush 21, 2) := by decide +kernel
theorem dX11_readBoth_8 : decode cX11_readBoth 8 = .ok (.invokevirtual 177, 3) := by decide +kernel
theorem dX11_readBoth_11 : decode cX11_readBoth 11 = .ok (.ifCond .eq 18, 3) := by decide +kernel
theorem dX11_readBoth_14 : decode cX11_readBoth 14 = .ok (.aload_n 0, 1) := by decide +kernel
theorem dX11_readBoth_15 : decode cX11_readBoth 15 = .ok (.iload_n 1, 1) := by decide +kernel
theorem dX11_readBoth_16 : decode cX11_readBoth 16 = .ok (.invokevirtual 192, 3) := by decide +kernel
theorem dX11_readBoth_19 : decode cX11_readBoth 19 = .ok (.aload_n 0, 1) := by decide +kernel
theorem dX11_readBoth_20 : decode cX11_readBoth 20 = .ok (.sipush 3007, 3) := by decide +kernel
theorem dX11_readBoth_23 : decode cX11_readBoth 23 = .ok (.invokevirtual 165, 3) := by decide +kernel
theorem dX11_readBoth_26 : decode cX11_readBoth 26 = .ok (.goto (-21), 3) := by decide +kernel
theorem dX11_readBoth_29 : decode cX11_readBoth 29 = .ok (.return_, 1) := by decide +kernel
theorem dX11_readTruth_0 : decode cX11_readTruth 0 = .ok (.aload_n 0, 1) := by decide +kernel
theorem dX11_readTruth_1 : decode cX11_readTruth 1 = .ok (.iload_n 1, 1) := by decide +kernel
theorem dX11_readTruth_2 : decode cX11_readTruth 2 = .ok (.invokevirtual 195, 3) := by decide +kernel
theorem dX11_readTruth_5 : decode cX11_readTruth 5 = .ok (.aload_n 0, 1) := by decide +kernel
theorem dX11_readTruth_6 : decode cX11_readTruth 6 = .ok (.bipush 22, 2) := by decide +kernel
theorem dX11_readTruth_8 : decode cX11_readTruth 8 = .ok (.invokevirtual 177, 3) := by decide +kernel
theorem dX11_readTruth_11 : decode cX11_readTruth 11 = .ok (.ifCond .eq 18, 3) := by decide +kernel
theorem dX11_readTruth_14 : decode cX11_readTruth 14 = .ok (.aload_n 0, 1) := by decide +kernel
theorem dX11_readTruth_15 : decode cX11_readTruth 15 = .ok (.iload_n 1, 1) := by decide +kernel
theorem dX11_readTruth_16 : decode cX11_readTruth 16 = .ok (.invokevirtual 195, 3) := by decide +kernel
theorem dX11_readTruth_19 : decode cX11_readTruth 19 = .ok (.aload_n 0, 1) := by decide +kernel
theorem dX11_readTruth_20 : decode cX11_readTruth 20 = .ok (.sipush 3008, 3) := by decide +kernel
theorem dX11_readTruth_23 : decode cX11_readTruth 23 = .ok (.invokevirtual 165, 3) := by decide +kernel
theorem dX11_readTruth_26 : decode cX11_readTruth 26 = .ok (.goto (-21), 3) := by decide +kernel
theorem dX11_readTruth_29 : decode cX11_readTruth 29 = .ok (.return_, 1) := by decide +kernel
theorem dX11_readThing_0 : decode cX11_readThing 0 = .ok (.iconst 1, 1) := by decide +kernel
theorem dX11_readThing_1 : decode cX11_readThing 1 = .ok (.aload_n 0, 1) := by decide +kernel
theorem dX11_readThing_2 : decode cX11_readThing 2 = .ok (.iconst 0, 1) := by decide +kernel
theorem dX11_readThing_3 : decode cX11_readThing 3 = .ok (.aload_n 0, 1) := by decide +kernel
theorem dX11_readThing_4 : decode cX11_readThing 4 = .ok (.getfield 24, 3) := by decide +kernel
theorem dX11_readThing_7 : decode cX11_readThing 7 = .ok (.iconst 2, 1) := by decide +kernel
theorem dX11_readThing_8 : decode cX11_readThing 8 = .ok (.iaload, 1) := by decide +kernel
theorem dX11_readThing_9 : decode cX11_readThing 9 = .ok (.iconst 1, 1) := by decide +kernel
theorem dX11_readThing_10 : decode cX11_readThing 10 = .ok (.isub, 1) := by decide +kernel
theorem dX11_readThing_11 : decode cX11_readThing 11 = .ok (.invokevirtual 198, 3) := by decide +kernel
theorem dX11_readThing_14 : decode cX11_readThing 14 = .ok (.ishl, 1) := by decide +kernel
theorem dX11_readThing_15 : decode cX11_readThing 15 = .ok (.ireturn, 1) := by decide +kernel
theorem dX11_readFlag_0 : decode cX11_readFlag 0 = .ok (.aload_n 0, 1) := by decide +kernel
theorem dX11_readFlag_1 : decode cX11_readFlag 1 = .ok (.iconst 4, 1) := by decide +kernel
theorem dX11_readFlag_2 : decode cX11_readFlag 2 = .ok (.invokevirtual 177, 3) := by decide +kernel
theorem dX11_readFlag_5 : decode cX11_readFlag 5 = .ok (.ifCond .eq 22, 3) := by decide +kernel
theorem dX11_readFlag_8 : decode cX11_readFlag 8 = .ok (.aload_n 0, 1) := by decide +kernel
theorem dX11_readFlag_9 : decode cX11_readFlag 9 = .ok (.getfield 24, 3) := by decide +kernel
theorem dX11_readFlag_12 : decode cX11_readFlag 12 = .ok (.bipush 10, 2) := by decide +kernel
theorem dX11_readFlag_14 : decode cX11_readFlag 14 = .ok (.iload_n 1, 1) := by decide +kernel
theorem dX11_readFlag_15 : decode cX11_readFlag 15 = .ok (.iadd, 1) := by decide +kernel
theorem dX11_readFlag_16 : decode cX11_readFlag 16 = .ok (.dup2, 1) := by decide +kernel
theorem dX11_readFlag_17 : decode cX11_readFlag 17 = .ok (.iaload, 1) := by decide +kernel
theorem dX11_readFlag_18 : decode cX11_readFlag 18 = .ok (.aload_n 0, 1) := by decide +kernel
theorem dX11_readFlag_19 : decode cX11_readFlag 19 = .ok (.invokevirtual 202, 3) := by decide +kernel
theorem dX11_readFlag_22 : decode cX11_readFlag 22 = .ok (.ior, 1) := by decide +kernel
theorem dX11_readFlag_23 : decode cX11_readFlag 23 = .ok (.iastore, 1) := by decide +kernel
theorem dX11_readFlag_24 : decode cX11_readFlag 24 = .ok (.goto 60, 3) := by decide +kernel
theorem dX11_readFlag_27 : decode cX11_readFlag 27 = .ok (.aload_n 0, 1) := by decide +kernel
theorem dX11_readFlag_28 : decode cX11_readFlag 28 = .ok (.iconst 5, 1) := by decide +kernel
theorem dX11_readFlag_29 : decode cX11_readFlag 29 = .ok (.invokevirtual 177, 3) := by decide +kernel
theorem dX11_readFlag_32 : decode cX11_readFlag 32 = .ok (.ifCond .eq 22, 3) := by decide +kernel
theorem dX11_readFlag_35 : decode cX11_readFlag 35 = .ok (.aload_n 0, 1) := by decide +kernel
theorem dX11_readFlag_36 : decode cX11_readFlag 36 = .ok (.getfield 24, 3) := by decide +kernel
theorem dX11_readFlag_39 : decode cX11_readFlag 39 = .ok (.bipush 19, 2) := by decide +kernel
theorem dX11_readFlag_41 : decode cX11_readFlag 41 = .ok (.iload_n 1, 1) := by decide +kernel
theorem dX11_readFlag_42 : decode cX11_readFlag 42 = .ok (.iadd, 1) := by decide +kernel
theorem dX11_readFlag_43 : decode cX11_readFlag 43 = .ok (.dup2, 1) := by decide +kernel
theorem dX11_readFlag_44 : decode cX11_readFlag 44 = .ok (.iaload, 1) := by decide +kernel
theorem dX11_readFlag_45 : decode cX11_readFlag 45 = .ok (.aload_n 0, 1) := by decide +kernel
theorem dX11_readFlag_46 : decode cX11_readFlag 46 = .ok (.invokevirtual 202, 3) := by decide +kernel
theorem dX11_readFlag_49 : decode cX11_readFlag 49 = .ok (.ior, 1) := by decide +kernel
theorem dX11_readFlag_50 : decode cX11_readFlag 50 = .ok (.iastore, 1) := by decide +kernel
theorem dX11_readFlag_51 : decode cX11_readFlag 51 = .ok (.goto 33, 3) := by decide +kernel
theorem dX11_readFlag_54 : decode cX11_readFlag 54 = .ok (.aload_n 0, 1) := by decide +kernel
theorem dX11_readFlag_55 : decode cX11_readFlag 55 = .ok (.bipush 6, 2) := by decide +kernel
theorem dX11_readFlag_57 : decode cX11_readFlag 57 = .ok (.invokevirtual 177, 3) := by decide +kernel
theorem dX11_readFlag_60 : decode cX11_readFlag 60 = .ok (.ifCond .eq 22, 3) := by decide +kernel
theorem dX11_readFlag_63 : decode cX11_readFlag 63 = .ok (.aload_n 0, 1) := by decide +kernel
theorem dX11_readFlag_64 : decode cX11_readFlag 64 = .ok (.getfield 24, 3) := by decide +kernel
theorem dX11_readFlag_67 : decode cX11_readFlag 67 = .ok (.bipush 28, 2) := by decide +kernel
theorem dX11_readFlag_69 : decode cX11_readFlag 69 = .ok (.iload_n 1, 1) := by decide +kernel
theorem dX11_readFlag_70 : decode cX11_readFlag 70 = .ok (.iadd, 1) := by decide +kernel
theorem dX11_readFlag_71 : decode cX11_readFlag 71 = .ok (.aload_n 0, 1) := by decide +kernel
theorem dX11_readFlag_72 : decode cX11_readFlag 72 = .ok (.iconst 0, 1) := by decide +kernel
theorem dX11_readFlag_73 : decode cX11_readFlag 73 = .ok (.bipush 9, 2) := by decide +kernel
theorem dX11_readFlag_75 : decode cX11_readFlag 75 = .ok (.invokevirtual 198, 3) := by decide +kernel
theorem dX11_readFlag_78 : decode cX11_readFlag 78 = .ok (.iastore, 1) := by decide +kernel
theorem dX11_readFlag_79 : decode cX11_readFlag 79 = .ok (.goto 5, 3) := by decide +kernel
theorem dX11_readFlag_82 : decode cX11_readFlag 82 = .ok (.iconst 0, 1) := by decide +kernel
theorem dX11_readFlag_83 : decode cX11_readFlag 83 = .ok (.ireturn, 1) := by decide +kernel
theorem dX11_readFlag_84 : decode cX11_readFlag 84 = .ok (.aload_n 0, 1) := by decide +kernel
theorem dX11_readFlag_85 : decode cX11_readFlag 85 = .ok (.getfield 142, 3) := by decide +kernel
theorem dX11_readFlag_88 : decode cX11_readFlag 88 = .ok (.ifCond .ne 7, 3) := by decide +kernel
theorem dX11_readFlag_91 : decode cX11_readFlag 91 = .ok (.iconst 1, 1) := by decide +kernel
theorem dX11_readFlag_92 : decode cX11_readFlag 92 = .ok (.goto 4, 3) := by decide +kernel
theorem dX11_readFlag_95 : decode cX11_readFlag 95 = .ok (.iconst 0, 1) := by decide +kernel
theorem dX11_readFlag_96 : decode cX11_readFlag 96 = .ok (.ireturn, 1) := by decide +kernel
theorem dX11_readHole_0 : decode cX11_readHole 0 = .ok (.aload_n 0, 1) := by decide +kernel
theorem dX11_readHole_1 : decode cX11_readHole 1 = .ok (.invokevirtual 151, 3) := by decide +kernel
theorem dX11_readHole_4 : decode cX11_readHole 4 = .ok (.aload_n 0, 1) := by decide +kernel
theorem dX11_readHole_5 : decode cX11_readHole 5 = .ok (.iconst 0, 1) := by decide +kernel
theorem dX11_readHole_6 : decode cX11_readHole 6 = .ok (.aload_n 0, 1) := by decide +kernel
theorem dX11_readHole_7 : decode cX11_readHole 7 = .ok (.getfield 24, 3) := by decide +kernel
theorem dX11_readHole_10 : decode cX11_readHole 10 = .ok (.iconst 1, 1) := by decide +kernel
theorem dX11_readHole_11 : decode cX11_readHole 11 = .ok (.iaload, 1) := by decide +kernel
theorem dX11_readHole_12 : decode cX11_readHole 12 = .ok (.invokevirtual 198, 3) := by decide +kernel
theorem dX11_readHole_15 : decode cX11_readHole 15 = .ok (.istore_n 1, 1) := by decide +kernel
theorem dX11_readHole_16 : decode cX11_readHole 16 = .ok (.aload_n 0, 1) := by decide +kernel
theorem dX11_readHole_17 : decode cX11_readHole 17 = .ok (.getfield 142, 3) := by decide +kernel
theorem dX11_readHole_20 : decode cX11_readHole 20 = .ok (.ifCond .ne 14, 3) := by decide +kernel
theorem dX11_readHole_23 : decode cX11_readHole 23 = .ok (.aload_n 0, 1) := by decide +kernel
theorem dX11_readHole_24 : decode cX11_readHole 24 = .ok (.iload_n 1, 1) := by decide +kernel
theorem dX11_readHole_25 : decode cX11_readHole 25 = .ok (.invokevirtual 205, 3) := by decide +kernel
theorem dX11_readHole_28 : decode cX11_readHole 28 = .ok (.ifCond .eq 6, 3) := by decide +kernel
theorem dX11_readHole_31 : decode cX11_readHole 31 = .ok (.goto (-15), 3) := by decide +kernel
theorem dX11_readHole_34 : decode cX11_readHole 34 = .ok (.return_, 1) := by decide +kernel
theorem dX11_readPilgrim_0 : decode cX11_readPilgrim 0 = .ok (.aload_n 0, 1) := by decide +kernel
theorem dX11_readPilgrim_1 : decode cX11_readPilgrim 1 = .ok (.invokevirtual 151, 3) := by decide +kernel
theorem dX11_readPilgrim_4 : decode cX11_readPilgrim 4 = .ok (.aload_n 0, 1) := by decide +kernel
theorem dX11_readPilgrim_5 : decode cX11_readPilgrim 5 = .ok (.bipush 8, 2) := by decide +kernel
theorem dX11_readPilgrim_7 : decode cX11_readPilgrim 7 = .ok (.invokevirtual 177, 3) := by decide +kernel
theorem dX11_readPilgrim_10 : decode cX11_readPilgrim 10 = .ok (.ifCond .ne 8, 3) := by decide +kernel
theorem dX11_readPilgrim_13 : decode cX11_readPilgrim 13 = .ok (.aload_n 0, 1) := by decide +kernel
theorem dX11_readPilgrim_14 : decode cX11_readPilgrim 14 = .ok (.iconst 2, 1) := by decide +kernel
theorem dX11_readPilgrim_15 : decode cX11_readPilgrim 15 = .ok (.invokevirtual 154, 3) := by decide +kernel
theorem dX11_readPilgrim_18 : decode cX11_readPilgrim 18 = .ok (.aload_n 0, 1) := by decide +kernel
theorem dX11_readPilgrim_19 : decode cX11_readPilgrim 19 = .ok (.getfield 24, 3) := by decide +kernel
theorem dX11_readPilgrim_22 : decode cX11_readPilgrim 22 = .ok (.bipush 37, 2) := by decide +kernel
theorem dX11_readPilgrim_24 : decode cX11_readPilgrim 24 = .ok (.aload_n 0, 1) := by decide +kernel
theorem dX11_readPilgrim_25 : decode cX11_readPilgrim 25 = .ok (.iconst 0, 1) := by decide +kernel
theorem dX11_readPilgrim_26 : decode cX11_readPilgrim 26 = .ok (.aload_n 0, 1) := by decide +kernel
theorem dX11_readPilgrim_27 : decode cX11_readPilgrim 27 = .ok (.getfield 24, 3) := by decide +kernel
theorem dX11_readPilgrim_30 : decode cX11_readPilgrim 30 = .ok (.iconst 1, 1) := by decide +kernel
theorem dX11_readPilgrim_31 : decode cX11_readPilgrim 31 = .ok (.iaload, 1) := by decide +kernel
theorem dX11_readPilgrim_32 : decode cX11_readPilgrim 32 = .ok (.invokevirtual 198, 3) := by decide +kernel
theorem dX11_readPilgrim_35 : decode cX11_readPilgrim 35 = .ok (.iastore, 1) := by decide +kernel
theorem dX11_readPilgrim_36 : decode cX11_readPilgrim 36 = .ok (.aload_n 0, 1) := by decide +kernel
theorem dX11_readPilgrim_37 : decode cX11_readPilgrim 37 = .ok (.bipush 9, 2) := by decide +kernel
theorem dX11_readPilgrim_39 : decode cX11_readPilgrim 39 = .ok (.invokevirtual 177, 3) := by decide +kernel
theorem dX11_readPilgrim_42 : decode cX11_readPilgrim 42 = .ok (.ifCond .ne 8, 3) := by decide +kernel
theorem dX11_readPilgrim_45 : decode cX11_readPilgrim 45 = .ok (.aload_n 0, 1) := by decide +kernel
theorem dX11_readPilgrim_46 : decode cX11_readPilgrim 46 = .ok (.iconst 2, 1) := by decide +kernel
theorem dX11_readPilgrim_47 : decode cX11_readPilgrim 47 = .ok (.invokevirtual 154, 3) := by decide +kernel
theorem dX11_readPilgrim_50 : decode cX11_readPilgrim 50 = .ok (.aload_n 0, 1) := by decide +kernel
theorem dX11_readPilgrim_51 : decode cX11_readPilgrim 51 = .ok (.getfield 24, 3) := by decide +kernel
theorem dX11_readPilgrim_54 : decode cX11_readPilgrim 54 = .ok (.bipush 39, 2) := by decide +kernel
theorem dX11_readPilgrim_56 : decode cX11_readPilgrim 56 = .ok (.aload_n 0, 1) := by decide +kernel
theorem dX11_readPilgrim_57 : decode cX11_readPilgrim 57 = .ok (.iconst 0, 1) := by decide +kernel
theorem dX11_readPilgrim_58 : decode cX11_readPilgrim 58 = .ok (.iconst 4, 1) := by decide +kernel
theorem dX11_readPilgrim_59 : decode cX11_readPilgrim 59 = .ok (.invokevirtual 198, 3) := by decide +kernel
theorem dX11_readPilgrim_62 : decode cX11_readPilgrim 62 = .ok (.iastore, 1) := by decide +kernel
theorem dX11_readPilgrim_63 : decode cX11_readPilgrim 63 = .ok (.aload_n 0, 1) := by decide +kernel
theorem dX11_readPilgrim_64 : decode cX11_readPilgrim 64 = .ok (.getfield 24, 3) := by decide +kernel
theorem dX11_readPilgrim_67 : decode cX11_readPilgrim 67 = .ok (.bipush 38, 2) := by decide +kernel
theorem dX11_readPilgrim_69 : decode cX11_readPilgrim 69 = .ok (.iconst 0, 1) := by decide +kernel
theorem dX11_readPilgrim_70 : decode cX11_readPilgrim 70 = .ok (.iastore, 1) := by decide +kernel
theorem dX11_readPilgrim_71 : decode cX11_readPilgrim 71 = .ok (.aload_n 0, 1) := by decide +kernel
theorem dX11_readPilgrim_72 : decode cX11_readPilgrim 72 = .ok (.getfield 142, 3) := by decide +kernel
theorem dX11_readPilgrim_75 : decode cX11_readPilgrim 75 = .ok (.ifCond .ne 29, 3) := by decide +kernel
theorem dX11_readPilgrim_78 : decode cX11_readPilgrim 78 = .ok (.aload_n 0, 1) := by decide +kernel
theorem dX11_readPilgrim_79 : decode cX11_readPilgrim 79 = .ok (.bipush 10, 2) := by decide +kernel
theorem dX11_readPilgrim_81 : decode cX11_readPilgrim 81 = .ok (.invokevirtual 177, 3) := by decide +kernel
theorem dX11_readPilgrim_84 : decode cX11_readPilgrim 84 = .ok (.ifCond .eq 20, 3) := by decide +kernel
theorem dX11_readPilgrim_87 : decode cX11_readPilgrim 87 = .ok (.aload_n 0, 1) := by decide +kernel
theorem dX11_readPilgrim_88 : decode cX11_readPilgrim 88 = .ok (.getfield 24, 3) := by decide +kernel
theorem dX11_readPilgrim_91 : decode cX11_readPilgrim 91 = .ok (.bipush 38, 2) := by decide +kernel
theorem dX11_readPilgrim_93 : decode cX11_readPilgrim 93 = .ok (.dup2, 1) := by decide +kernel
theorem dX11_readPilgrim_94 : decode cX11_readPilgrim 94 = .ok (.iaload, 1) := by decide +kernel
theorem dX11_readPilgrim_95 : decode cX11_readPilgrim 95 = .ok (.aload_n 0, 1) := by decide +kernel
theorem dX11_readPilgrim_96 : decode cX11_readPilgrim 96 = .ok (.invokevirtual 202, 3) := by decide +kernel
theorem dX11_readPilgrim_99 : decode cX11_readPilgrim 99 = .ok (.ior, 1) := by decide +kernel
theorem dX11_readPilgrim_100 : decode cX11_readPilgrim 100 = .ok (.iastore, 1) := by decide +kernel
theorem dX11_readPilgrim_101 : decode cX11_readPilgrim 101 = .ok (.goto (-30), 3) := by decide +kernel
theorem dX11_readPilgrim_104 : decode cX11_readPilgrim 104 = .ok (.return_, 1) := by decide +kernel
theorem dX11_readLaw_0 : decode cX11_readLaw 0 = .ok (.aload_n 0, 1) := by decide +kernel
theorem dX11_readLaw_1 : decode cX11_readLaw 1 = .ok (.invokevirtual 151, 3) := by decide +kernel
theorem dX11_readLaw_4 : decode cX11_readLaw 4 = .ok (.aload_n 0, 1) := by decide +kernel
theorem dX11_readLaw_5 : decode cX11_readLaw 5 = .ok (.bipush 31, 2) := by decide +kernel
theorem dX11_readLaw_7 : decode cX11_readLaw 7 = .ok (.invokevirtual 177, 3) := by decide +kernel
theorem dX11_readLaw_10 : decode cX11_readLaw 10 = .ok (.ifCond .ne 8, 3) := by decide +kernel
theorem dX11_readLaw_13 : decode cX11_readLaw 13 = .ok (.aload_n 0, 1) := by decide +kernel
theorem dX11_readLaw_14 : decode cX11_readLaw 14 = .ok (.iconst 2, 1) := by decide +kernel
theorem dX11_readLaw_15 : decode cX11_readLaw 15 = .ok (.invokevirtual 154, 3) := by decide +kernel
theorem dX11_readLaw_18 : decode cX11_readLaw 18 = .ok (.aload_n 0, 1) := by decide +kernel
theorem dX11_readLaw_19 : decode cX11_readLaw 19 = .ok (.getfield 24, 3) := by decide +kernel
theorem dX11_readLaw_22 : decode cX11_readLaw 22 = .ok (.bipush 93, 2) := by decide +kernel
theorem dX11_readLaw_24 : decode cX11_readLaw 24 = .ok (.iaload, 1) := by decide +kernel
theorem dX11_readLaw_25 : decode cX11_readLaw 25 = .ok (.istore_n 2, 1) := by decide +kernel
theorem dX11_readLaw_26 : decode cX11_readLaw 26 = .ok (.aload_n 0, 1) := by decide +kernel
theorem dX11_readLaw_27 : decode cX11_readLaw 27 = .ok (.iload_n 1, 1) := by decide +kernel
theorem dX11_readLaw_28 : decode cX11_readLaw 28 = .ok (.putfield 162, 3) := by decide +kernel
theorem dX11_readLaw_31 : decode cX11_readLaw 31 = .ok (.iload_n 1, 1) := by decide +kernel
theorem dX11_readLaw_32 : decode cX11_readLaw 32 = .ok (.ifCond .ne 11, 3) := by decide +kernel
theorem dX11_readLaw_35 : decode cX11_readLaw 35 = .ok (.aload_n 0, 1) := by decide +kernel
theorem dX11_readLaw_36 : decode cX11_readLaw 36 = .ok (.iconst 0, 1) := by decide +kernel
theorem dX11_readLaw_37 : decode cX11_readLaw 37 = .ok (.invokevirtual 174, 3) := by decide +kernel
theorem dX11_readLaw_40 : decode cX11_readLaw 40 = .ok (.goto 8, 3) := by decide +kernel
theorem dX11_readLaw_43 : decode cX11_readLaw 43 = .ok (.aload_n 0, 1) := by decide +kernel
theorem dX11_readLaw_44 : decode cX11_readLaw 44 = .ok (.iconst 0, 1) := by decide +kernel
theorem dX11_readLaw_45 : decode cX11_readLaw 45 = .ok (.invokevirtual 183, 3) := by decide +kernel
theorem dX11_readLaw_48 : decode cX11_readLaw 48 = .ok (.aload_n 0, 1) := by decide +kernel
theorem dX11_readLaw_49 : decode cX11_readLaw 49 = .ok (.getfield 142, 3) := by decide +kernel
theorem dX11_readLaw_52 : decode cX11_readLaw 52 = .ok (.ifCond .eq 4, 3) := by decide +kernel
theorem dX11_readLaw_55 : decode cX11_readLaw 55 = .ok (.return_, 1) := by decide +kernel
theorem dX11_readLaw_56 : decode cX11_readLaw 56 = .ok (.aload_n 0, 1) := by decide +kernel
theorem dX11_readLaw_57 : decode cX11_readLaw 57 = .ok (.getfield 24, 3) := by decide +kernel
theorem dX11_readLaw_60 : decode cX11_readLaw 60 = .ok (.iconst 4, 1) := by decide +kernel
theorem dX11_readLaw_61 : decode cX11_readLaw 61 = .ok (.iload_n 1, 1) := by decide +kernel
theorem dX11_readLaw_62 : decode cX11_readLaw 62 = .ok (.iadd, 1) := by decide +kernel
theorem dX11_readLaw_63 : decode cX11_readLaw 63 = .ok (.iconst 1, 1) := by decide +kernel
theorem dX11_readLaw_64 : decode cX11_readLaw 64 = .ok (.iastore, 1) := by decide +kernel
theorem dX11_readLaw_65 : decode cX11_readLaw 65 = .ok (.aload_n 0, 1) := by decide +kernel
theorem dX11_readLaw_66 : decode cX11_readLaw 66 = .ok (.getfield 24, 3) := by decide +kernel
theorem dX11_readLaw_69 : decode cX11_readLaw 69 = .ok (.bipush 6, 2) := by decide +kernel
theorem dX11_readLaw_71 : decode cX11_readLaw 71 = .ok (.iload_n 1, 1) := by decide +kernel
theorem dX11_readLaw_72 : decode cX11_readLaw 72 = .ok (.iadd, 1) := by decide +kernel
theorem dX11_readLaw_73 : decode cX11_readLaw 73 = .ok (.iload_n 2, 1) := by decide +kernel
theorem dX11_readLaw_74 : decode cX11_readLaw 74 = .ok (.iastore, 1) := by decide +kernel
theorem dX11_readLaw_75 : decode cX11_readLaw 75 = .ok (.aload_n 0, 1) := by decide +kernel
theorem dX11_readLaw_76 : decode cX11_readLaw 76 = .ok (.getfield 24, 3) := by decide +kernel
theorem dX11_readLaw_79 : decode cX11_readLaw 79 = .ok (.bipush 8, 2) := by decide +kernel
theorem dX11_readLaw_81 : decode cX11_readLaw 81 = .ok (.iload_n 1, 1) := by decide +kernel
theorem dX11_readLaw_82 : decode cX11_readLaw 82 = .ok (.iadd, 1) := by decide +kernel
theorem dX11_readLaw_83 : decode cX11_readLaw 83 = .ok (.aload_n 0, 1) := by decide +kernel
theorem dX11_readLaw_84 : decode cX11_readLaw 84 = .ok (.getfield 24, 3) := by decide +kernel
theorem dX11_readLaw_87 : decode cX11_readLaw 87 = .ok (.bipush 93, 2) := by decide +kernel
theorem dX11_readLaw_89 : decode cX11_readLaw 89 = .ok (.iaload, 1) := by decide +kernel
theorem dX11_readLaw_90 : decode cX11_readLaw 90 = .ok (.iload_n 2, 1) := by decide +kernel
theorem dX11_readLaw_91 : decode cX11_readLaw 91 = .ok (.isub, 1) := by decide +kernel
theorem dX11_readLaw_92 : decode cX11_readLaw 92 = .ok (.iastore, 1) := by decide +kernel
theorem dX11_readLaw_93 : decode cX11_readLaw 93 = .ok (.return_, 1) := by decide +kernel
theorem dX11_readLine_0 : decode cX11_readLine 0 = .ok (.aload_n 0, 1) := by decide +kernel
theorem dX11_readLine_1 : decode cX11_readLine 1 = .ok (.getfield 142, 3) := by decide +kernel
theorem dX11_readLine_4 : decode cX11_readLine 4 = .ok (.ifCond .eq 4, 3) := by decide +kernel
theorem dX11_readLine_7 : decode cX11_readLine 7 = .ok (.return_, 1) := by decide +kernel
theorem dX11_readLine_8 : decode cX11_readLine 8 = .ok (.aload_n 0, 1) := by decide +kernel
theorem dX11_readLine_9 : decode cX11_readLine 9 = .ok (.iconst 3, 1) := by decide +kernel
theorem dX11_readLine_10 : decode cX11_readLine 10 = .ok (.invokevirtual 148, 3) := by decide +kernel
theorem dX11_readLine_13 : decode cX11_readLine 13 = .ok (.ifCond .eq 10, 3) := by decide +kernel
theorem dX11_readLine_16 : decode cX11_readLine 16 = .ok (.aload_n 0, 1) := by decide +kernel
theorem dX11_readLine_17 : decode cX11_readLine 17 = .ok (.invokevirtual 208, 3) := by decide +kernel
theorem dX11_readLine_20 : decode cX11_readLine 20 = .ok (.goto 107, 3) := by decide +kernel
theorem dX11_readLine_23 : decode cX11_readLine 23 = .ok (.aload_n 0, 1) := by decide +kernel
theorem dX11_readLine_24 : decode cX11_readLine 24 = .ok (.bipush 7, 2) := by decide +kernel
theorem dX11_readLine_26 : decode cX11_readLine 26 = .ok (.invokevirtual 148, 3) := by decide +kernel
theorem dX11_readLine_29 : decode cX11_readLine 29 = .ok (.ifCond .eq 10, 3) := by decide +kernel
theorem dX11_readLine_32 : decode cX11_readLine 32 = .ok (.aload_n 0, 1) := by decide +kernel
theorem dX11_readLine_33 : decode cX11_readLine 33 = .ok (.invokevirtual 211, 3) := by decide +kernel
theorem dX11_readLine_36 : decode cX11_readLine 36 = .ok (.goto 91, 3) := by decide +kernel
theorem dX11_readLine_39 : decode cX11_readLine 39 = .ok (.aload_n 0, 1) := by decide +kernel
theorem dX11_readLine_40 : decode cX11_readLine 40 = .ok (.bipush 11, 2) := by decide +kernel
theorem dX11_readLine_42 : decode cX11_readLine 42 = .ok (.invokevirtual 177, 3) := by decide +kernel
theorem dX11_readLine_45 : decode cX11_readLine 45 = .ok (.ifCond .eq 20, 3) := by decide +kernel
theorem dX11_readLine_48 : decode cX11_readLine 48 = .ok (.aload_n 0, 1) := by decide +kernel
theorem dX11_readLine_49 : decode cX11_readLine 49 = .ok (.getfield 24, 3) := by decide +kernel
theorem dX11_readLine_52 : decode cX11_readLine 52 = .ok (.bipush 40, 2) := by decide +kernel
theorem dX11_readLine_54 : decode cX11_readLine 54 = .ok (.aload_n 0, 1) := by decide +kernel
theorem dX11_readLine_55 : decode cX11_readLine 55 = .ok (.iconst 0, 1) := by decide +kernel
theorem dX11_readLine_56 : decode cX11_readLine 56 = .ok (.bipush 9, 2) := by decide +kernel
theorem dX11_readLine_58 : decode cX11_readLine 58 = .ok (.invokevirtual 198, 3) := by decide +kernel
theorem dX11_readLine_61 : decode cX11_readLine 61 = .ok (.iastore, 1) := by decide +kernel
theorem dX11_readLine_62 : decode cX11_readLine 62 = .ok (.goto 65, 3) := by decide +kernel
theorem dX11_readLine_65 : decode cX11_readLine 65 = .ok (.aload_n 0, 1) := by decide +kernel
theorem dX11_readLine_66 : decode cX11_readLine 66 = .ok (.bipush 12, 2) := by decide +kernel
theorem dX11_readLine_68 : decode cX11_readLine 68 = .ok (.invokevirtual 177, 3) := by decide +kernel
theorem dX11_readLine_71 : decode cX11_readLine 71 = .ok (.ifCond .eq 19, 3) := by decide +kernel
theorem dX11_readLine_74 : decode cX11_readLine 74 = .ok (.aload_n 0, 1) := by decide +kernel
theorem dX11_readLine_75 : decode cX11_readLine 75 = .ok (.getfield 24, 3) := by decide +kernel
theorem dX11_readLine_78 : decode cX11_readLine 78 = .ok (.iconst 3, 1) := by decide +kernel
theorem dX11_readLine_79 : decode cX11_readLine 79 = .ok (.aload_n 0, 1) := by decide +kernel
theorem dX11_readLine_80 : decode cX11_readLine 80 = .ok (.iconst 0, 1) := by decide +kernel
theorem dX11_readLine_81 : decode cX11_readLine 81 = .ok (.bipush 10, 2) := by decide +kernel
theorem dX11_readLine_83 : decode cX11_readLine 83 = .ok (.invokevirtual 198, 3) := by decide +kernel
theorem dX11_readLine_86 : decode cX11_readLine 86 = .ok (.iastore, 1) := by decide +kernel
theorem dX11_readLine_87 : decode cX11_readLine 87 = .ok (.goto 40, 3) := by decide +kernel
theorem dX11_readLine_90 : decode cX11_readLine 90 = .ok (.aload_n 0, 1) := by decide +kernel
theorem dX11_readLine_91 : decode cX11_readLine 91 = .ok (.bipush 13, 2) := by decide +kernel
theorem dX11_readLine_93 : decode cX11_readLine 93 = .ok (.invokevirtual 148, 3) := by decide +kernel
theorem dX11_readLine_96 : decode cX11_readLine 96 = .ok (.ifCond .ne 12, 3) := by decide +kernel
theorem dX11_readLine_99 : decode cX11_readLine 99 = .ok (.aload_n 0, 1) := by decide +kernel
theorem dX11_readLine_100 : decode cX11_readLine 100 = .ok (.bipush 14, 2) := by decide +kernel
theorem dX11_readLine_102 : decode cX11_readLine 102 = .ok (.invokevirtual 148, 3) := by decide +kernel
theorem dX11_readLine_105 : decode cX11_readLine 105 = .ok (.ifCond .eq 17, 3) := by decide +kernel
theorem dX11_readLine_108 : decode cX11_readLine 108 = .ok (.aload_n 0, 1) := by decide +kernel
theorem dX11_readLine_109 : decode cX11_readLine 109 = .ok (.aload_n 0, 1) := by decide +kernel
theorem dX11_readLine_110 : decode cX11_readLine 110 = .ok (.getfield 124, 3) := by decide +kernel
theorem dX11_readLine_113 : decode cX11_readLine 113 = .ok (.bipush 13, 2) := by decide +kernel
theorem dX11_readLine_115 : decode cX11_readLine 115 = .ok (.isub, 1) := by decide +kernel
theorem dX11_readLine_116 : decode cX11_readLine 116 = .ok (.invokevirtual 214, 3) := by decide +kernel
theorem dX11_readLine_119 : decode cX11_readLine 119 = .ok (.goto 8, 3) := by decide +kernel
theorem dX11_readLine_122 : decode cX11_readLine 122 = .ok (.aload_n 0, 1) := by decide +kernel
theorem dX11_readLine_123 : decode cX11_readLine 123 = .ok (.iconst 2, 1) := by decide +kernel
theorem dX11_readLine_124 : decode cX11_readLine 124 = .ok (.invokevirtual 154, 3) := by decide +kernel
theorem dX11_readLine_127 : decode cX11_readLine 127 = .ok (.return_, 1) := by decide +kernel
theorem dX11_closes_0 : decode cX11_closes 0 = .ok (.aload_n 0, 1) := by decide +kernel
theorem dX11_closes_1 : decode cX11_closes 1 = .ok (.bipush 30, 2) := by decide +kernel
theorem dX11_closes_3 : decode cX11_closes 3 = .ok (.invokevirtual 177, 3) := by decide +kernel
theorem dX11_closes_6 : decode cX11_closes 6 = .ok (.ifCond .ne 8, 3) := by decide +kernel
theorem dX11_closes_9 : decode cX11_closes 9 = .ok (.aload_n 0, 1) := by decide +kernel
theorem dX11_closes_10 : decode cX11_closes 10 = .ok (.iconst 2, 1) := by decide +kernel
theorem dX11_closes_11 : decode cX11_closes 11 = .ok (.invokevirtual 154, 3) := by decide +kernel
theorem dX11_closes_14 : decode cX11_closes 14 = .ok (.aload_n 0, 1) := by decide +kernel
theorem dX11_closes_15 : decode cX11_closes 15 = .ok (.getfield 24, 3) := by decide +kernel
theorem dX11_closes_18 : decode cX11_closes 18 = .ok (.iconst 0, 1) := by decide +kernel
theorem dX11_closes_19 : decode cX11_closes 19 = .ok (.dup2, 1) := by decide +kernel
theorem dX11_closes_20 : decode cX11_closes 20 = .ok (.iaload, 1) := by decide +kernel
theorem dX11_closes_21 : decode cX11_closes 21 = .ok (.iconst 1, 1) := by decide +kernel
theorem dX11_closes_22 : decode cX11_closes 22 = .ok (.iadd, 1) := by decide +kernel
theorem dX11_closes_23 : decode cX11_closes 23 = .ok (.iastore, 1) := by decide +kernel
theorem dX11_closes_24 : decode cX11_closes 24 = .ok (.return_, 1) := by decide +kernel
theorem dX11_cliff_0 : decode cX11_cliff 0 = .ok (.aload_n 0, 1) := by decide +kernel
theorem dX11_cliff_1 : decode cX11_cliff 1 = .ok (.iconst 0, 1) := by decide +kernel
theorem dX11_cliff_2 : decode cX11_cliff 2 = .ok (.putfield 1, 3) := by decide +kernel
theorem dX11_cliff_5 : decode cX11_cliff 5 = .ok (.iload_n 1, 1) := by decide +kernel
theorem dX11_cliff_6 : decode cX11_cliff 6 = .ok (.i2l, 1) := by decide +kernel
theorem dX11_cliff_7 : decode cX11_cliff 7 = .ok (.lconst 0, 1) := by decide +kernel
theorem dX11_cliff_8 : decode cX11_cliff 8 = .ok (.aload_n 0, 1) := by decide +kernel
theorem dX11_cliff_9 : decode cX11_cliff 9 = .ok (.getfield 96, 3) := by decide +kernel
theorem dX11_cliff_12 : decode cX11_cliff 12 = .ok (.i2l, 1) := by decide +kernel
theorem dX11_cliff_13 : decode cX11_cliff 13 = .ok (.invokestatic 158, 3) := by decide +kernel
theorem dX11_cliff_16 : decode cX11_cliff 16 = .ok (.ifCond .ne 6, 3) := by decide +kernel
theorem dX11_cliff_19 : decode cX11_cliff 19 = .ok (.bipush (-3), 2) := by decide +kernel
theorem dX11_cliff_21 : decode cX11_cliff 21 = .ok (.ireturn, 1) := by decide +kernel
theorem dX11_cliff_22 : decode cX11_cliff 22 = .ok (.aload_n 0, 1) := by decide +kernel
theorem dX11_cliff_23 : decode cX11_cliff 23 = .ok (.iload_n 1, 1) := by decide +kernel
theorem dX11_cliff_24 : decode cX11_cliff 24 = .ok (.putfield 99, 3) := by decide +kernel
theorem dX11_cliff_27 : decode cX11_cliff 27 = .ok (.aload_n 0, 1) := by decide +kernel
theorem dX11_cliff_28 : decode cX11_cliff 28 = .ok (.iconst 0, 1) := by decide +kernel
theorem dX11_cliff_29 : decode cX11_cliff 29 = .ok (.putfield 96, 3) := by decide +kernel
theorem dX11_cliff_32 : decode cX11_cliff 32 = .ok (.aload_n 0, 1) := by decide +kernel
theorem dX11_cliff_33 : decode cX11_cliff 33 = .ok (.iconst 0, 1) := by decide +kernel
theorem dX11_cliff_34 : decode cX11_cliff 34 = .ok (.putfield 117, 3) := by decide +kernel
theorem dX11_cliff_37 : decode cX11_cliff 37 = .ok (.aload_n 0, 1) := by decide +kernel
theorem dX11_cliff_38 : decode cX11_cliff 38 = .ok (.iconst 0, 1) := by decide +kernel
theorem dX11_cliff_39 : decode cX11_cliff 39 = .ok (.putfield 142, 3) := by decide +kernel
theorem dX11_cliff_42 : decode cX11_cliff 42 = .ok (.aload_n 0, 1) := by decide +kernel
theorem dX11_cliff_43 : decode cX11_cliff 43 = .ok (.getfield 24, 3) := by decide +kernel
theorem dX11_cliff_46 : decode cX11_cliff 46 = .ok (.invokestatic 92, 3) := by decide +kernel
theorem dX11_cliff_49 : decode cX11_cliff 49 = .ok (.aload_n 0, 1) := by decide +kernel
theorem dX11_cliff_50 : decode cX11_cliff 50 = .ok (.invokevirtual 151, 3) := by decide +kernel
theorem dX11_cliff_53 : decode cX11_cliff 53 = .ok (.aload_n 0, 1) := by decide +kernel
theorem dX11_cliff_54 : decode cX11_cliff 54 = .ok (.iconst 0, 1) := by decide +kernel
theorem dX11_cliff_55 : decode cX11_cliff 55 = .ok (.invokevirtual 177, 3) := by decide +kernel
theorem dX11_cliff_58 : decode cX11_cliff 58 = .ok (.ifCond .eq 11, 3) := by decide +kernel
theorem dX11_cliff_61 : decode cX11_cliff 61 = .ok (.aload_n 0, 1) := by decide +kernel
theorem dX11_cliff_62 : decode cX11_cliff 62 = .ok (.iconst 1, 1) := by decide +kernel
theorem dX11_cliff_63 : decode cX11_cliff 63 = .ok (.invokevirtual 177, 3) := by decide +kernel
theorem dX11_cliff_66 : decode cX11_cliff 66 = .ok (.ifCond .ne 8, 3) := by decide +kernel
theorem dX11_cliff_69 : decode cX11_cliff 69 = .ok (.aload_n 0, 1) := by decide +kernel
theorem dX11_cliff_70 : decode cX11_cliff 70 = .ok (.iconst 2, 1) := by decide +kernel
theorem dX11_cliff_71 : decode cX11_cliff 71 = .ok (.invokevirtual 154, 3) := by decide +kernel
theorem dX11_cliff_74 : decode cX11_cliff 74 = .ok (.aload_n 0, 1) := by decide +kernel
theorem dX11_cliff_75 : decode cX11_cliff 75 = .ok (.getfield 24, 3) := by decide +kernel
theorem dX11_cliff_78 : decode cX11_cliff 78 = .ok (.iconst 1, 1) := by decide +kernel
theorem dX11_cliff_79 : decode cX11_cliff 79 = .ok (.aload_n 0, 1) := by decide +kernel
theorem dX11_cliff_80 : decode cX11_cliff 80 = .ok (.iconst 1, 1) := by decide +kernel
theorem dX11_cliff_81 : decode cX11_cliff 81 = .ok (.bipush 8, 2) := by decide +kernel
theorem dX11_cliff_83 : decode cX11_cliff 83 = .ok (.invokevirtual 198, 3) := by decide +kernel
theorem dX11_cliff_86 : decode cX11_cliff 86 = .ok (.iastore, 1) := by decide +kernel
theorem dX11_cliff_87 : decode cX11_cliff 87 = .ok (.aload_n 0, 1) := by decide +kernel
theorem dX11_cliff_88 : decode cX11_cliff 88 = .ok (.iconst 2, 1) := by decide +kernel
theorem dX11_cliff_89 : decode cX11_cliff 89 = .ok (.invokevirtual 177, 3) := by decide +kernel
theorem dX11_cliff_92 : decode cX11_cliff 92 = .ok (.ifCond .ne 8, 3) := by decide +kernel
theorem dX11_cliff_95 : decode cX11_cliff 95 = .ok (.aload_n 0, 1) := by decide +kernel
theorem dX11_cliff_96 : decode cX11_cliff 96 = .ok (.iconst 2, 1) := by decide +kernel
theorem dX11_cliff_97 : decode cX11_cliff 97 = .ok (.invokevirtual 154, 3) := by decide +kernel
theorem dX11_cliff_100 : decode cX11_cliff 100 = .ok (.aload_n 0, 1) := by decide +kernel
theorem dX11_cliff_101 : decode cX11_cliff 101 = .ok (.getfield 24, 3) := by decide +kernel
theorem dX11_cliff_104 : decode cX11_cliff 104 = .ok (.iconst 2, 1) := by decide +kernel
theorem dX11_cliff_105 : decode cX11_cliff 105 = .ok (.aload_n 0, 1) := by decide +kernel
theorem dX11_cliff_106 : decode cX11_cliff 106 = .ok (.iconst 0, 1) := by decide +kernel
theorem dX11_cliff_107 : decode cX11_cliff 107 = .ok (.bipush 6, 2) := by decide +kernel
theorem dX11_cliff_109 : decode cX11_cliff 109 = .ok (.invokevirtual 198, 3) := by decide +kernel
theorem dX11_cliff_112 : decode cX11_cliff 112 = .ok (.iastore, 1) := by decide +kernel
theorem dX11_cliff_113 : decode cX11_cliff 113 = .ok (.aload_n 0, 1) := by decide +kernel
theorem dX11_cliff_114 : decode cX11_cliff 114 = .ok (.invokevirtual 217, 3) := by decide +kernel
theorem dX11_cliff_117 : decode cX11_cliff 117 = .ok (.aload_n 0, 1) := by decide +kernel
theorem dX11_cliff_118 : decode cX11_cliff 118 = .ok (.getfield 142, 3) := by decide +kernel
theorem dX11_cliff_121 : decode cX11_cliff 121 = .ok (.ifCond .ne 23, 3) := by decide +kernel
theorem dX11_cliff_124 : decode cX11_cliff 124 = .ok (.aload_n 0, 1) := by decide +kernel
theorem dX11_cliff_125 : decode cX11_cliff 125 = .ok (.getfield 124, 3) := by decide +kernel
theorem dX11_cliff_128 : decode cX11_cliff 128 = .ok (.bipush 26, 2) := by decide +kernel
theorem dX11_cliff_130 : decode cX11_cliff 130 = .ok (.if_icmp .eq 14, 3) := by decide +kernel
theorem dX11_cliff_133 : decode cX11_cliff 133 = .ok (.aload_n 0, 1) := by decide +kernel
theorem dX11_cliff_134 : decode cX11_cliff 134 = .ok (.invokevirtual 220, 3) := by decide +kernel
theorem dX11_cliff_137 : decode cX11_cliff 137 = .ok (.aload_n 0, 1) := by decide +kernel
theorem dX11_cliff_138 : decode cX11_cliff 138 = .ok (.invokevirtual 217, 3) := by decide +kernel
theorem dX11_cliff_141 : decode cX11_cliff 141 = .ok (.goto (-24), 3) := by decide +kernel
theorem dX11_cliff_144 : decode cX11_cliff 144 = .ok (.aload_n 0, 1) := by decide +kernel
theorem dX11_cliff_145 : decode cX11_cliff 145 = .ok (.aload_n 0, 1) := by decide +kernel
theorem dX11_cliff_146 : decode cX11_cliff 146 = .ok (.getfield 142, 3) := by decide +kernel
theorem dX11_cliff_149 : decode cX11_cliff 149 = .ok (.putfield 223, 3) := by decide +kernel
theorem dX11_cliff_152 : decode cX11_cliff 152 = .ok (.aload_n 0, 1) := by decide +kernel
theorem dX11_cliff_153 : decode cX11_cliff 153 = .ok (.aload_n 0, 1) := by decide +kernel
theorem dX11_cliff_154 : decode cX11_cliff 154 = .ok (.getfield 142, 3) := by decide +kernel
theorem dX11_cliff_157 : decode cX11_cliff 157 = .ok (.ifCond .ne 7, 3) := by decide +kernel
theorem dX11_cliff_160 : decode cX11_cliff 160 = .ok (.iconst (-1), 1) := by decide +kernel
theorem dX11_cliff_161 : decode cX11_cliff 161 = .ok (.goto 7, 3) := by decide +kernel
theorem dX11_cliff_164 : decode cX11_cliff 164 = .ok (.aload_n 0, 1) := by decide +kernel
theorem dX11_cliff_165 : decode cX11_cliff 165 = .ok (.getfield 145, 3) := by decide +kernel
theorem dX11_cliff_168 : decode cX11_cliff 168 = .ok (.putfield 27, 3) := by decide +kernel
theorem dX11_cliff_171 : decode cX11_cliff 171 = .ok (.aload_n 0, 1) := by decide +kernel
theorem dX11_cliff_172 : decode cX11_cliff 172 = .ok (.getfield 142, 3) := by decide +kernel
theorem dX11_cliff_175 : decode cX11_cliff 175 = .ok (.ifCond .eq 11, 3) := by decide +kernel
theorem dX11_cliff_178 : decode cX11_cliff 178 = .ok (.bipush (-30), 2) := by decide +kernel
theorem dX11_cliff_180 : decode cX11_cliff 180 = .ok (.aload_n 0, 1) := by decide +kernel
theorem dX11_cliff_181 : decode cX11_cliff 181 = .ok (.getfield 142, 3) := by decide +kernel
theorem dX11_cliff_184 : decode cX11_cliff 184 = .ok (.isub, 1) := by decide +kernel
theorem dX11_cliff_185 : decode cX11_cliff 185 = .ok (.ireturn, 1) := by decide +kernel
theorem dX11_cliff_186 : decode cX11_cliff 186 = .ok (.iconst 0, 1) := by decide +kernel
theorem dX11_cliff_187 : decode cX11_cliff 187 = .ok (.istore_n 2, 1) := by decide +kernel
theorem dX11_cliff_188 : decode cX11_cliff 188 = .ok (.iload_n 2, 1) := by decide +kernel
theorem dX11_cliff_189 : decode cX11_cliff 189 = .ok (.sipush 994, 3) := by decide +kernel
theorem dX11_cliff_192 : decode cX11_cliff 192 = .ok (.if_icmp .ge 21, 3) := by decide +kernel
theorem dX11_cliff_195 : decode cX11_cliff 195 = .ok (.aload_n 0, 1) := by decide +kernel
theorem dX11_cliff_196 : decode cX11_cliff 196 = .ok (.getfield 13, 3) := by decide +kernel
theorem dX11_cliff_199 : decode cX11_cliff 199 = .ok (.iload_n 2, 1) := by decide +kernel
theorem dX11_cliff_200 : decode cX11_cliff 200 = .ok (.aload_n 0, 1) := by decide +kernel
theorem dX11_cliff_201 : decode cX11_cliff 201 = .ok (.getfield 24, 3) := by decide +kernel
theorem dX11_cliff_204 : decode cX11_cliff 204 = .ok (.iload_n 2, 1) := by decide +kernel
theorem dX11_cliff_205 : decode cX11_cliff 205 = .ok (.iaload, 1) := by decide +kernel
theorem dX11_cliff_206 : decode cX11_cliff 206 = .ok (.iastore, 1) := by decide +kernel
theorem dX11_cliff_207 : decode cX11_cliff 207 = .ok (.iinc 2 1, 3) := by decide +kernel
theorem dX11_cliff_210 : decode cX11_cliff 210 = .ok (.goto (-22), 3) := by decide +kernel
theorem dX11_cliff_213 : decode cX11_cliff 213 = .ok (.aload_n 0, 1) := by decide +kernel
theorem dX11_cliff_214 : decode cX11_cliff 214 = .ok (.getfield 13, 3) := by decide +kernel
theorem dX11_cliff_217 : decode cX11_cliff 217 = .ok (.iconst 0, 1) := by decide +kernel
theorem dX11_cliff_218 : decode cX11_cliff 218 = .ok (.iaload, 1) := by decide +kernel
theorem dX11_cliff_219 : decode cX11_cliff 219 = .ok (.ireturn, 1) := by decide +kernel
theorem dX11_fault_0 : decode cX11_fault 0 = .ok (.aload_n 0, 1) := by decide +kernel
theorem dX11_fault_1 : decode cX11_fault 1 = .ok (.iconst 0, 1) := by decide +kernel
theorem dX11_fault_2 : decode cX11_fault 2 = .ok (.putfield 1, 3) := by decide +kernel
theorem dX11_fault_5 : decode cX11_fault 5 = .ok (.iload_n 1, 1) := by decide +kernel
theorem dX11_fault_6 : decode cX11_fault 6 = .ok (.ifCond .ne 10, 3) := by decide +kernel
theorem dX11_fault_9 : decode cX11_fault 9 = .ok (.aload_n 0, 1) := by decide +kernel
theorem dX11_fault_10 : decode cX11_fault 10 = .ok (.getfield 223, 3) := by decide +kernel
theorem dX11_fault_13 : decode cX11_fault 13 = .ok (.goto 16, 3) := by decide +kernel
theorem dX11_fault_16 : decode cX11_fault 16 = .ok (.iload_n 1, 1) := by decide +kernel
theorem dX11_fault_17 : decode cX11_fault 17 = .ok (.iconst 1, 1) := by decide +kernel
theorem dX11_fault_18 : decode cX11_fault 18 = .ok (.if_icmp .ne 10, 3) := by decide +kernel
theorem dX11_fault_21 : decode cX11_fault 21 = .ok (.aload_n 0, 1) := by decide +kernel
theorem dX11_fault_22 : decode cX11_fault 22 = .ok (.getfield 27, 3) := by decide +kernel
theorem dX11_fault_25 : decode cX11_fault 25 = .ok (.goto 4, 3) := by decide +kernel
theorem dX11_fault_28 : decode cX11_fault 28 = .ok (.iconst (-1), 1) := by decide +kernel
theorem dX11_fault_29 : decode cX11_fault 29 = .ok (.ireturn, 1) := by decide +kernel
theorem dX11_isRung_0 : decode cX11_isRung 0 = .ok (.iload_n 1, 1) := by decide +kernel
theorem dX11_isRung_1 : decode cX11_isRung 1 = .ok (.i2l, 1) := by decide +kernel
theorem dX11_isRung_2 : decode cX11_isRung 2 = .ok (.lconst 0, 1) := by decide +kernel
theorem dX11_isRung_3 : decode cX11_isRung 3 = .ok (.aload_n 0, 1) := by decide +kernel
theorem dX11_isRung_4 : decode cX11_isRung 4 = .ok (.getfield 13, 3) := by decide +kernel
theorem dX11_isRung_7 : decode cX11_isRung 7 = .ok (.iconst 1, 1) := by decide +kernel
theorem dX11_isRung_8 : decode cX11_isRung 8 = .ok (.iaload, 1) := by decide +kernel
theorem dX11_isRung_9 : decode cX11_isRung 9 = .ok (.i2l, 1) := by decide +kernel
theorem dX11_isRung_10 : decode cX11_isRung 10 = .ok (.invokestatic 158, 3) := by decide +kernel
theorem dX11_isRung_13 : decode cX11_isRung 13 = .ok (.ireturn, 1) := by decide +kernel
theorem dX11_isThing_0 : decode cX11_isThing 0 = .ok (.lload_n 1, 1) := by decide +kernel
theorem dX11_isThing_1 : decode cX11_isThing 1 = .ok (.lconst 0, 1) := by decide +kernel
theorem dX11_isThing_2 : decode cX11_isThing 2 = .ok (.aload_n 0, 1) := by decide +kernel
theorem dX11_isThing_3 : decode cX11_isThing 3 = .ok (.getfield 13, 3) := by decide +kernel
theorem dX11_isThing_6 : decode cX11_isThing 6 = .ok (.iconst 2, 1) := by decide +kernel
theorem dX11_isThing_7 : decode cX11_isThing 7 = .ok (.iaload, 1) := by decide +kernel
theorem dX11_isThing_8 : decode cX11_isThing 8 = .ok (.iconst 1, 1) := by decide +kernel
theorem dX11_isThing_9 : decode cX11_isThing 9 = .ok (.isub, 1) := by decide +kernel
theorem dX11_isThing_10 : decode cX11_isThing 10 = .ok (.i2l, 1) := by decide +kernel
theorem dX11_isThing_11 : decode cX11_isThing 11 = .ok (.invokestatic 158, 3) := by decide +kernel
theorem dX11_isThing_14 : decode cX11_isThing 14 = .ok (.ireturn, 1) := by decide +kernel
theorem dX11_isSet_0 : decode cX11_isSet 0 = .ok (.iload_n 1, 1) := by decide +kernel
theorem dX11_isSet_1 : decode cX11_isSet 1 = .ok (.ifCond .lt 19, 3) := by decide +kernel
theorem dX11_isSet_4 : decode cX11_isSet 4 = .ok (.iload_n 1, 1) := by decide +kernel
theorem dX11_isSet_5 : decode cX11_isSet 5 = .ok (.iconst 1, 1) := by decide +kernel
theorem dX11_isSet_6 : decode cX11_isSet 6 = .ok (.aload_n 0, 1) := by decide +kernel
theorem dX11_isSet_7 : decode cX11_isSet 7 = .ok (.getfield 13, 3) := by decide +kernel
theorem dX11_isSet_10 : decode cX11_isSet 10 = .ok (.iconst 2, 1) := by decide +kernel
theorem dX11_isSet_11 : decode cX11_isSet 11 = .ok (.iaload, 1) := by decide +kernel
theorem dX11_isSet_12 : decode cX11_isSet 12 = .ok (.ishl, 1) := by decide +kernel
theorem dX11_isSet_13 : decode cX11_isSet 13 = .ok (.if_icmp .ge 7, 3) := by decide +kernel
theorem dX11_isSet_16 : decode cX11_isSet 16 = .ok (.iconst 1, 1) := by decide +kernel
theorem dX11_isSet_17 : decode cX11_isSet 17 = .ok (.goto 4, 3) := by decide +kernel
theorem dX11_isSet_20 : decode cX11_isSet 20 = .ok (.iconst 0, 1) := by decide +kernel
theorem dX11_isSet_21 : decode cX11_isSet 21 = .ok (.ireturn, 1) := by decide +kernel
theorem dX11_bitsOf_0 : decode cX11_bitsOf 0 = .ok (.iconst 0, 1) := by decide +kernel
theorem dX11_bitsOf_1 : decode cX11_bitsOf 1 = .ok (.istore_n 1, 1) := by decide +kernel
theorem dX11_bitsOf_2 : decode cX11_bitsOf 2 = .ok (.iconst 0, 1) := by decide +kernel
theorem dX11_bitsOf_3 : decode cX11_bitsOf 3 = .ok (.istore_n 2, 1) := by decide +kernel
theorem dX11_bitsOf_4 : decode cX11_bitsOf 4 = .ok (.iload_n 2, 1) := by decide +kernel
theorem dX11_bitsOf_5 : decode cX11_bitsOf 5 = .ok (.bipush 10, 2) := by decide +kernel
theorem dX11_bitsOf_7 : decode cX11_bitsOf 7 = .ok (.if_icmp .ge 17, 3) := by decide +kernel
theorem dX11_bitsOf_10 : decode cX11_bitsOf 10 = .ok (.iload_n 1, 1) := by decide +kernel
theorem dX11_bitsOf_11 : decode cX11_bitsOf 11 = .ok (.iload_n 0, 1) := by decide +kernel
theorem dX11_bitsOf_12 : decode cX11_bitsOf 12 = .ok (.iload_n 2, 1) := by decide +kernel
theorem dX11_bitsOf_13 : decode cX11_bitsOf 13 = .ok (.ishr, 1) := by decide +kernel
theorem dX11_bitsOf_14 : decode cX11_bitsOf 14 = .ok (.iconst 1, 1) := by decide +kernel
theorem dX11_bitsOf_15 : decode cX11_bitsOf 15 = .ok (.iand, 1) := by decide +kernel
theorem dX11_bitsOf_16 : decode cX11_bitsOf 16 = .ok (.iadd, 1) := by decide +kernel
theorem dX11_bitsOf_17 : decode cX11_bitsOf 17 = .ok (.istore_n 1, 1) := by decide +kernel
theorem dX11_bitsOf_18 : decode cX11_bitsOf 18 = .ok (.iinc 2 1, 3) := by decide +kernel
theorem dX11_bitsOf_21 : decode cX11_bitsOf 21 = .ok (.goto (-17), 3) := by decide +kernel
theorem dX11_bitsOf_24 : decode cX11_bitsOf 24 = .ok (.iload_n 1, 1) := by decide +kernel
theorem dX11_bitsOf_25 : decode cX11_bitsOf 25 = .ok (.ireturn, 1) := by decide +kernel
theorem dX11_rungIn_0 : decode cX11_rungIn 0 = .ok (.iload_n 0, 1) := by decide +kernel
theorem dX11_rungIn_1 : decode cX11_rungIn 1 = .ok (.sipush 320, 3) := by decide +kernel
theorem dX11_rungIn_4 : decode cX11_rungIn 4 = .ok (.idiv, 1) := by decide +kernel
theorem dX11_rungIn_5 : decode cX11_rungIn 5 = .ok (.ireturn, 1) := by decide +kernel
theorem dX11_hasIn_0 : decode cX11_hasIn 0 = .ok (.iload_n 0, 1) := by decide +kernel
theorem dX11_hasIn_1 : decode cX11_hasIn 1 = .ok (.iconst 5, 1) := by decide +kernel
theorem dX11_hasIn_2 : decode cX11_hasIn 2 = .ok (.idiv, 1) := by decide +kernel
theorem dX11_hasIn_3 : decode cX11_hasIn 3 = .ok (.bipush 64, 2) := by decide +kernel
theorem dX11_hasIn_5 : decode cX11_hasIn 5 = .ok (.irem, 1) := by decide +kernel
theorem dX11_hasIn_6 : decode cX11_hasIn 6 = .ok (.ireturn, 1) := by decide +kernel
theorem dX11_standOf_0 : decode cX11_standOf 0 = .ok (.sipush 320, 3) := by decide +kernel
theorem dX11_standOf_3 : decode cX11_standOf 3 = .ok (.iload_n 0, 1) := by decide +kernel
theorem dX11_standOf_4 : decode cX11_standOf 4 = .ok (.imul, 1) := by decide +kernel
theorem dX11_standOf_5 : decode cX11_standOf 5 = .ok (.iconst 5, 1) := by decide +kernel
theorem dX11_standOf_6 : decode cX11_standOf 6 = .ok (.iload_n 1, 1) := by decide +kernel
theorem dX11_standOf_7 : decode cX11_standOf 7 = .ok (.imul, 1) := by decide +kernel
theorem dX11_standOf_8 : decode cX11_standOf 8 = .ok (.iadd, 1) := by decide +kernel
theorem dX11_standOf_9 : decode cX11_standOf 9 = .ok (.iload_n 2, 1) := by decide +kernel
theorem dX11_standOf_10 : decode cX11_standOf 10 = .ok (.iadd, 1) := by decide +kernel
theorem dX11_standOf_11 : decode cX11_standOf 11 = .ok (.ireturn, 1) := by decide +kernel
theorem dX11_standNow_0 : decode cX11_standNow 0 = .ok (.aload_n 0, 1) := by decide +kernel
theorem dX11_standNow_1 : decode cX11_standNow 1 = .ok (.getfield 13, 3) := by decide +kernel
theorem dX11_standNow_4 : decode cX11_standNow 4 = .ok (.bipush 37, 2) := by decide +kernel
theorem dX11_standNow_6 : decode cX11_standNow 6 = .ok (.iaload, 1) := by decide +kernel
theorem dX11_standNow_7 : decode cX11_standNow 7 = .ok (.aload_n 0, 1) := by decide +kernel
theorem dX11_standNow_8 : decode cX11_standNow 8 = .ok (.getfield 13, 3) := by decide +kernel
theorem dX11_standNow_11 : decode cX11_standNow 11 = .ok (.bipush 38, 2) := by decide +kernel
theorem dX11_standNow_13 : decode cX11_standNow 13 = .ok (.iaload, 1) := by decide +kernel
theorem dX11_standNow_14 : decode cX11_standNow 14 = .ok (.aload_n 0, 1) := by decide +kernel
theorem dX11_standNow_15 : decode cX11_standNow 15 = .ok (.getfield 13, 3) := by decide +kernel
theorem dX11_standNow_18 : decode cX11_standNow 18 = .ok (.bipush 39, 2) := by decide +kernel
theorem dX11_standNow_20 : decode cX11_standNow 20 = .ok (.iaload, 1) := by decide +kernel
theorem dX11_standNow_21 : decode cX11_standNow 21 = .ok (.invokestatic 226, 3) := by decide +kernel
theorem dX11_standNow_24 : decode cX11_standNow 24 = .ok (.ireturn, 1) := by decide +kernel
theorem dX11_isStand_0 : decode cX11_isStand 0 = .ok (.aload_n 0, 1) := by decide +kernel
theorem dX11_isStand_1 : decode cX11_isStand 1 = .ok (.getfield 13, 3) := by decide +kernel
theorem dX11_isStand_4 : decode cX11_isStand 4 = .ok (.bipush 37, 2) := by decide +kernel
theorem dX11_isStand_6 : decode cX11_isStand 6 = .ok (.iload_n 1, 1) := by decide +kernel
theorem dX11_isStand_7 : decode cX11_isStand 7 = .ok (.invokestatic 230, 3) := by decide +kernel
theorem dX11_isStand_10 : decode cX11_isStand 10 = .ok (.iastore, 1) := by decide +kernel
theorem dX11_isStand_11 : decode cX11_isStand 11 = .ok (.aload_n 0, 1) := by decide +kernel
theorem dX11_isStand_12 : decode cX11_isStand 12 = .ok (.getfield 13, 3) := by decide +kernel
theorem dX11_isStand_15 : decode cX11_isStand 15 = .ok (.bipush 38, 2) := by decide +kernel
theorem dX11_isStand_17 : decode cX11_isStand 17 = .ok (.iload_n 1, 1) := by decide +kernel
theorem dX11_isStand_18 : decode cX11_isStand 18 = .ok (.invokestatic 233, 3) := by decide +kernel
theorem dX11_isStand_21 : decode cX11_isStand 21 = .ok (.iastore, 1) := by decide +kernel
theorem dX11_isStand_22 : decode cX11_isStand 22 = .ok (.aload_n 0, 1) := by decide +kernel
theorem dX11_isStand_23 : decode cX11_isStand 23 = .ok (.getfield 13, 3) := by decide +kernel
theorem dX11_isStand_26 : decode cX11_isStand 26 = .ok (.bipush 39, 2) := by decide +kernel
theorem dX11_isStand_28 : decode cX11_isStand 28 = .ok (.iload_n 1, 1) := by decide +kernel
theorem dX11_isStand_29 : decode cX11_isStand 29 = .ok (.iconst 5, 1) := by decide +kernel
theorem dX11_isStand_30 : decode cX11_isStand 30 = .ok (.irem, 1) := by decide +kernel
theorem dX11_isStand_31 : decode cX11_isStand 31 = .ok (.iastore, 1) := by decide +kernel
theorem dX11_isStand_32 : decode cX11_isStand 32 = .ok (.return_, 1) := by decide +kernel
theorem dX11_between_0 : decode cX11_between 0 = .ok (.iload_n 0, 1) := by decide +kernel
theorem dX11_between_1 : decode cX11_between 1 = .ok (.tableswitch 80 3003 3008 #[39, 50, 61, 80, 72, 76], 39) := by decide +kernel
theorem dX11_between_40 : decode cX11_between 40 = .ok (.iload_n 1, 1) := by decide +kernel
theorem dX11_between_41 : decode cX11_between 41 = .ok (.iload_n 2, 1) := by decide +kernel
theorem dX11_between_42 : decode cX11_between 42 = .ok (.if_icmp .ne 7, 3) := by decide +kernel
theorem dX11_between_45 : decode cX11_between 45 = .ok (.iconst 1, 1) := by decide +kernel
theorem dX11_between_46 : decode cX11_between 46 = .ok (.goto 4, 3) := by decide +kernel
theorem dX11_between_49 : decode cX11_between 49 = .ok (.iconst 0, 1) := by decide +kernel
theorem dX11_between_50 : decode cX11_between 50 = .ok (.ireturn, 1) := by decide +kernel
theorem dX11_between_51 : decode cX11_between 51 = .ok (.iload_n 1, 1) := by decide +kernel
theorem dX11_between_52 : decode cX11_between 52 = .ok (.iload_n 2, 1) := by decide +kernel
theorem dX11_between_53 : decode cX11_between 53 = .ok (.if_icmp .ge 7, 3) := by decide +kernel
theorem dX11_between_56 : decode cX11_between 56 = .ok (.iconst 1, 1) := by decide +kernel
theorem dX11_between_57 : decode cX11_between 57 = .ok (.goto 4, 3) := by decide +kernel
theorem dX11_between_60 : decode cX11_between 60 = .ok (.iconst 0, 1) := by decide +kernel
theorem dX11_between_61 : decode cX11_between 61 = .ok (.ireturn, 1) := by decide +kernel
theorem dX11_between_62 : decode cX11_between 62 = .ok (.iload_n 1, 1) := by decide +kernel
theorem dX11_between_63 : decode cX11_between 63 = .ok (.iload_n 2, 1) := by decide +kernel
theorem dX11_between_64 : decode cX11_between 64 = .ok (.if_icmp .le 7, 3) := by decide +kernel
theorem dX11_between_67 : decode cX11_between 67 = .ok (.iconst 1, 1) := by decide +kernel
theorem dX11_between_68 : decode cX11_between 68 = .ok (.goto 4, 3) := by decide +kernel
theorem dX11_between_71 : decode cX11_between 71 = .ok (.iconst 0, 1) := by decide +kernel
theorem dX11_between_72 : decode cX11_between 72 = .ok (.ireturn, 1) := by decide +kernel
theorem dX11_between_73 : decode cX11_between 73 = .ok (.iload_n 1, 1) := by decide +kernel
theorem dX11_between_74 : decode cX11_between 74 = .ok (.iload_n 2, 1) := by decide +kernel
theorem dX11_between_75 : decode cX11_between 75 = .ok (.iand, 1) := by decide +kernel
theorem dX11_between_76 : decode cX11_between 76 = .ok (.ireturn, 1) := by decide +kernel
theorem dX11_between_77 : decode cX11_between 77 = .ok (.iload_n 1, 1) := by decide +kernel
theorem dX11_between_78 : decode cX11_between 78 = .ok (.iload_n 2, 1) := by decide +kernel
theorem dX11_between_79 : decode cX11_between 79 = .ok (.ior, 1) := by decide +kernel
theorem dX11_between_80 : decode cX11_between 80 = .ok (.ireturn, 1) := by decide +kernel
theorem dX11_between_81 : decode cX11_between 81 = .ok (.iload_n 0, 1) := by decide +kernel
theorem dX11_between_82 : decode cX11_between 82 = .ok (.sipush 3000, 3) := by decide +kernel
theorem dX11_between_85 : decode cX11_between 85 = .ok (.if_icmp .ne 11, 3) := by decide +kernel
theorem dX11_between_88 : decode cX11_between 88 = .ok (.iload_n 1, 1) := by decide +kernel
theorem dX11_between_89 : decode cX11_between 89 = .ok (.i2l, 1) := by decide +kernel
theorem dX11_between_90 : decode cX11_between 90 = .ok (.iload_n 2, 1) := by decide +kernel
theorem dX11_between_91 : decode cX11_between 91 = .ok (.i2l, 1) := by decide +kernel
theorem dX11_between_92 : decode cX11_between 92 = .ok (.ladd, 1) := by decide +kernel
theorem dX11_between_93 : decode cX11_between 93 = .ok (.goto 23, 3) := by decide +kernel
theorem dX11_between_96 : decode cX11_between 96 = .ok (.iload_n 0, 1) := by decide +kernel
theorem dX11_between_97 : decode cX11_between 97 = .ok (.sipush 3001, 3) := by decide +kernel
theorem dX11_between_100 : decode cX11_between 100 = .ok (.if_icmp .ne 11, 3) := by decide +kernel
theorem dX11_between_103 : decode cX11_between 103 = .ok (.iload_n 1, 1) := by decide +kernel
theorem dX11_between_104 : decode cX11_between 104 = .ok (.i2l, 1) := by decide +kernel
theorem dX11_between_105 : decode cX11_between 105 = .ok (.iload_n 2, 1) := by decide +kernel
theorem dX11_between_106 : decode cX11_between 106 = .ok (.i2l, 1) := by decide +kernel
theorem dX11_between_107 : decode cX11_between 107 = .ok (.lsub, 1) := by decide +kernel
theorem dX11_between_108 : decode cX11_between 108 = .ok (.goto 8, 3) := by decide +kernel
theorem dX11_between_111 : decode cX11_between 111 = .ok (.iload_n 1, 1) := by decide +kernel
theorem dX11_between_112 : decode cX11_between 112 = .ok (.i2l, 1) := by decide +kernel
theorem dX11_between_113 : decode cX11_between 113 = .ok (.iload_n 2, 1) := by decide +kernel
theorem dX11_between_114 : decode cX11_between 114 = .ok (.i2l, 1) := by decide +kernel
theorem dX11_between_115 : decode cX11_between 115 = .ok (.lmul, 1) := by decide +kernel
theorem dX11_between_116 : decode cX11_between 116 = .ok (.lstore_n 3, 1) := by decide +kernel
theorem dX11_between_117 : decode cX11_between 117 = .ok (.lload_n 3, 1) := by decide +kernel
theorem dX11_between_118 : decode cX11_between 118 = .ok (.ldc2_w 236, 3) := by decide +kernel
theorem dX11_between_121 : decode cX11_between 121 = .ok (.lcmp, 1) := by decide +kernel
theorem dX11_between_122 : decode cX11_between 122 = .ok (.ifCond .le 9, 3) := by decide +kernel
theorem dX11_between_125 : decode cX11_between 125 = .ok (.ldc2_w 236, 3) := by decide +kernel
theorem dX11_between_128 : decode cX11_between 128 = .ok (.goto 18, 3) := by decide +kernel
theorem dX11_between_131 : decode cX11_between 131 = .ok (.lload_n 3, 1) := by decide +kernel
theorem dX11_between_132 : decode cX11_between 132 = .ok (.ldc2_w 238, 3) := by decide +kernel
theorem dX11_between_135 : decode cX11_between 135 = .ok (.lcmp, 1) := by decide +kernel
theorem dX11_between_136 : decode cX11_between 136 = .ok (.ifCond .ge 9, 3) := by decide +kernel
theorem dX11_between_139 : decode cX11_between 139 = .ok (.ldc2_w 238, 3) := by decide +kernel
theorem dX11_between_142 : decode cX11_between 142 = .ok (.goto 4, 3) := by decide +kernel
theorem dX11_between_145 : decode cX11_between 145 = .ok (.lload_n 3, 1) := by decide +kernel
theorem dX11_between_146 : decode cX11_between 146 = .ok (.l2i, 1) := by decide +kernel
theorem dX11_between_147 : decode cX11_between 147 = .ok (.ireturn, 1) := by decide +kernel
theorem dX11_reckons_0 : decode cX11_reckons 0 = .ok (.iload_n 2, 1) := by decide +kernel
theorem dX11_reckons_1 : decode cX11_reckons 1 = .ok (.invokestatic 230, 3) := by decide +kernel
theorem dX11_reckons_4 : decode cX11_reckons 4 = .ok (.iconst 1, 1) := by decide +kernel
theorem dX11_reckons_5 : decode cX11_reckons 5 = .ok (.iadd, 1) := by decide +kernel
theorem dX11_reckons_6 : decode cX11_reckons 6 = .ok (.istore 4, 2) := by decide +kernel
theorem dX11_reckons_8 : decode cX11_reckons 8 = .ok (.aload_n 0, 1) := by decide +kernel
theorem dX11_reckons_9 : decode cX11_reckons 9 = .ok (.getfield 33, 3) := by decide +kernel
theorem dX11_reckons_12 : decode cX11_reckons 12 = .ok (.iconst 0, 1) := by decide +kernel
theorem dX11_reckons_13 : decode cX11_reckons 13 = .ok (.iload 4, 2) := by decide +kernel
theorem dX11_reckons_15 : decode cX11_reckons 15 = .ok (.iastore, 1) := by decide +kernel
theorem dX11_reckons_16 : decode cX11_reckons 16 = .ok (.aload_n 0, 1) := by decide +kernel
theorem dX11_reckons_17 : decode cX11_reckons 17 = .ok (.getfield 33, 3) := by decide +kernel
theorem dX11_reckons_20 : decode cX11_reckons 20 = .ok (.iconst 1, 1) := by decide +kernel
theorem dX11_reckons_21 : decode cX11_reckons 21 = .ok (.aload_n 0, 1) := by decide +kernel
theorem dX11_reckons_22 : decode cX11_reckons 22 = .ok (.getfield 13, 3) := by decide +kernel
theorem dX11_reckons_25 : decode cX11_reckons 25 = .ok (.bipush 28, 2) := by decide +kernel
theorem dX11_reckons_27 : decode cX11_reckons 27 = .ok (.iload 4, 2) := by decide +kernel
theorem dX11_reckons_29 : decode cX11_reckons 29 = .ok (.iadd, 1) := by decide +kernel
theorem dX11_reckons_30 : decode cX11_reckons 30 = .ok (.iaload, 1) := by decide +kernel
theorem dX11_reckons_31 : decode cX11_reckons 31 = .ok (.iastore, 1) := by decide +kernel
theorem dX11_reckons_32 : decode cX11_reckons 32 = .ok (.aload_n 0, 1) := by decide +kernel
theorem dX11_reckons_33 : decode cX11_reckons 33 = .ok (.getfield 33, 3) := by decide +kernel
theorem dX11_reckons_36 : decode cX11_reckons 36 = .ok (.iconst 2, 1) := by decide +kernel
theorem dX11_reckons_37 : decode cX11_reckons 37 = .ok (.iload_n 2, 1) := by decide +kernel
theorem dX11_reckons_38 : decode cX11_reckons 38 = .ok (.iconst 5, 1) := by decide +kernel
theorem dX11_reckons_39 : decode cX11_reckons 39 = .ok (.irem, 1) := by decide +kernel
theorem dX11_reckons_40 : decode cX11_reckons 40 = .ok (.iastore, 1) := by decide +kernel
theorem dX11_reckons_41 : decode cX11_reckons 41 = .ok (.aload_n 0, 1) := by decide +kernel
theorem dX11_reckons_42 : decode cX11_reckons 42 = .ok (.getfield 33, 3) := by decide +kernel
theorem dX11_reckons_45 : decode cX11_reckons 45 = .ok (.iconst 3, 1) := by decide +kernel
theorem dX11_reckons_46 : decode cX11_reckons 46 = .ok (.iload_n 2, 1) := by decide +kernel
theorem dX11_reckons_47 : decode cX11_reckons 47 = .ok (.invokestatic 233, 3) := by decide +kernel
theorem dX11_reckons_50 : decode cX11_reckons 50 = .ok (.invokestatic 240, 3) := by decide +kernel
theorem dX11_reckons_53 : decode cX11_reckons 53 = .ok (.iastore, 1) := by decide +kernel
theorem dX11_reckons_54 : decode cX11_reckons 54 = .ok (.aload_n 0, 1) := by decide +kernel
theorem dX11_reckons_55 : decode cX11_reckons 55 = .ok (.getfield 33, 3) := by decide +kernel
theorem dX11_reckons_58 : decode cX11_reckons 58 = .ok (.iconst 4, 1) := by decide +kernel
theorem dX11_reckons_59 : decode cX11_reckons 59 = .ok (.iload_n 3, 1) := by decide +kernel
theorem dX11_reckons_60 : decode cX11_reckons 60 = .ok (.iastore, 1) := by decide +kernel
theorem dX11_reckons_61 : decode cX11_reckons 61 = .ok (.aload_n 0, 1) := by decide +kernel
theorem dX11_reckons_62 : decode cX11_reckons 62 = .ok (.getfield 33, 3) := by decide +kernel
theorem dX11_reckons_65 : decode cX11_reckons 65 = .ok (.iconst 5, 1) := by decide +kernel
theorem dX11_reckons_66 : decode cX11_reckons 66 = .ok (.aload_n 0, 1) := by decide +kernel
theorem dX11_reckons_67 : decode cX11_reckons 67 = .ok (.getfield 13, 3) := by decide +kernel
theorem dX11_reckons_70 : decode cX11_reckons 70 = .ok (.iconst 2, 1) := by decide +kernel
theorem dX11_reckons_71 : decode cX11_reckons 71 = .ok (.iaload, 1) := by decide +kernel
theorem dX11_reckons_72 : decode cX11_reckons 72 = .ok (.aload_n 0, 1) := by decide +kernel
theorem dX11_reckons_73 : decode cX11_reckons 73 = .ok (.getfield 13, 3) := by decide +kernel
theorem dX11_reckons_76 : decode cX11_reckons 76 = .ok (.bipush 10, 2) := by decide +kernel
theorem dX11_reckons_78 : decode cX11_reckons 78 = .ok (.iload 4, 2) := by decide +kernel
theorem dX11_reckons_80 : decode cX11_reckons 80 = .ok (.iadd, 1) := by decide +kernel
theorem dX11_reckons_81 : decode cX11_reckons 81 = .ok (.iaload, 1) := by decide +kernel
theorem dX11_reckons_82 : decode cX11_reckons 82 = .ok (.invokestatic 240, 3) := by decide +kernel
theorem dX11_reckons_85 : decode cX11_reckons 85 = .ok (.isub, 1) := by decide +kernel
theorem dX11_reckons_86 : decode cX11_reckons 86 = .ok (.iastore, 1) := by decide +kernel
theorem dX11_reckons_87 : decode cX11_reckons 87 = .ok (.iconst 0, 1) := by decide +kernel
theorem dX11_reckons_88 : decode cX11_reckons 88 = .ok (.istore 5, 2) := by decide +kernel
theorem dX11_reckons_90 : decode cX11_reckons 90 = .ok (.iconst 0, 1) := by decide +kernel
theorem dX11_reckons_91 : decode cX11_reckons 91 = .ok (.istore 6, 2) := by decide +kernel
theorem dX11_reckons_93 : decode cX11_reckons 93 = .ok (.iload 6, 2) := by decide +kernel
theorem dX11_reckons_95 : decode cX11_reckons 95 = .ok (.aload_n 0, 1) := by decide +kernel
theorem dX11_reckons_96 : decode cX11_reckons 96 = .ok (.getfield 13, 3) := by decide +kernel
theorem dX11_reckons_99 : decode cX11_reckons 99 = .ok (.bipush 8, 2) := by decide +kernel
theorem dX11_reckons_101 : decode cX11_reckons 101 = .ok (.iload_n 1, 1) := by decide +kernel
theorem dX11_reckons_102 : decode cX11_reckons 102 = .ok (.iadd, 1) := by decide +kernel
theorem dX11_reckons_103 : decode cX11_reckons 103 = .ok (.iaload, 1) := by decide +kernel
theorem dX11_reckons_104 : decode cX11_reckons 104 = .ok (.if_icmp .ge 195, 3) := by decide +kernel
theorem dX11_reckons_107 : decode cX11_reckons 107 = .ok (.aload_n 0, 1) := by decide +kernel
theorem dX11_reckons_108 : decode cX11_reckons 108 = .ok (.getfield 13, 3) := by decide +kernel
theorem dX11_reckons_111 : decode cX11_reckons 111 = .ok (.bipush 94, 2) := by decide +kernel
theorem dX11_reckons_113 : decode cX11_reckons 113 = .ok (.aload_n 0, 1) := by decide +kernel
theorem dX11_reckons_114 : decode cX11_reckons 114 = .ok (.getfield 13, 3) := by decide +kernel
theorem dX11_reckons_117 : decode cX11_reckons 117 = .ok (.bipush 6, 2) := by decide +kernel
theorem dX11_reckons_119 : decode cX11_reckons 119 = .ok (.iload_n 1, 1) := by decide +kernel
theorem dX11_reckons_120 : decode cX11_reckons 120 = .ok (.iadd, 1) := by decide +kernel
theorem dX11_reckons_121 : decode cX11_reckons 121 = .ok (.iaload, 1) := by decide +kernel
theorem dX11_reckons_122 : decode cX11_reckons 122 = .ok (.iadd, 1) := by decide +kernel
theorem dX11_reckons_123 : decode cX11_reckons 123 = .ok (.iload 6, 2) := by decide +kernel
theorem dX11_reckons_125 : decode cX11_reckons 125 = .ok (.iadd, 1) := by decide +kernel
theorem dX11_reckons_126 : decode cX11_reckons 126 = .ok (.iaload, 1) := by decide +kernel
theorem dX11_reckons_127 : decode cX11_reckons 127 = .ok (.istore 7, 2) := by decide +kernel
theorem dX11_reckons_129 : decode cX11_reckons 129 = .ok (.iload 7, 2) := by decide +kernel
theorem dX11_reckons_131 : decode cX11_reckons 131 = .ok (.sipush 3000, 3) := by decide +kernel
theorem dX11_reckons_134 : decode cX11_reckons 134 = .ok (.if_icmp .ge 40, 3) := by decide +kernel
theorem dX11_reckons_137 : decode cX11_reckons 137 = .ok (.aload_n 0, 1) := by decide +kernel
theorem dX11_reckons_138 : decode cX11_reckons 138 = .ok (.getfield 30, 3) := by decide +kernel
theorem dX11_reckons_141 : decode cX11_reckons 141 = .ok (.iload 5, 2) := by decide +kernel
theorem dX11_reckons_143 : decode cX11_reckons 143 = .ok (.iload 7, 2) := by decide +kernel
theorem dX11_reckons_145 : decode cX11_reckons 145 = .ok (.sipush 1000, 3) := by decide +kernel
theorem dX11_reckons_148 : decode cX11_reckons 148 = .ok (.if_icmp .ge 8, 3) := by decide +kernel
theorem dX11_reckons_151 : decode cX11_reckons 151 = .ok (.iload 7, 2) := by decide +kernel
theorem dX11_reckons_153 : decode cX11_reckons 153 = .ok (.goto 14, 3) := by decide +kernel
theorem dX11_reckons_156 : decode cX11_reckons 156 = .ok (.aload_n 0, 1) := by decide +kernel
theorem dX11_reckons_157 : decode cX11_reckons 157 = .ok (.getfield 33, 3) := by decide +kernel
theorem dX11_reckons_160 : decode cX11_reckons 160 = .ok (.iload 7, 2) := by decide +kernel
theorem dX11_reckons_162 : decode cX11_reckons 162 = .ok (.sipush 1000, 3) := by decide +kernel
theorem dX11_reckons_165 : decode cX11_reckons 165 = .ok (.isub, 1) := by decide +kernel
theorem dX11_reckons_166 : decode cX11_reckons 166 = .ok (.iaload, 1) := by decide +kernel
theorem dX11_reckons_167 : decode cX11_reckons 167 = .ok (.iastore, 1) := by decide +kernel
theorem dX11_reckons_168 : decode cX11_reckons 168 = .ok (.iinc 5 1, 3) := by decide +kernel
theorem dX11_reckons_171 : decode cX11_reckons 171 = .ok (.goto 122, 3) := by decide +kernel
theorem dX11_reckons_174 : decode cX11_reckons 174 = .ok (.iload 7, 2) := by decide +kernel
theorem dX11_reckons_176 : decode cX11_reckons 176 = .ok (.sipush 3006, 3) := by decide +kernel
theorem dX11_reckons_179 : decode cX11_reckons 179 = .ok (.if_icmp .ne 26, 3) := by decide +kernel
theorem dX11_reckons_182 : decode cX11_reckons 182 = .ok (.aload_n 0, 1) := by decide +kernel
theorem dX11_reckons_183 : decode cX11_reckons 183 = .ok (.getfield 30, 3) := by decide +kernel
theorem dX11_reckons_186 : decode cX11_reckons 186 = .ok (.iload 5, 2) := by decide +kernel
theorem dX11_reckons_188 : decode cX11_reckons 188 = .ok (.iconst 1, 1) := by decide +kernel
theorem dX11_reckons_189 : decode cX11_reckons 189 = .ok (.isub, 1) := by decide +kernel
theorem dX11_reckons_190 : decode cX11_reckons 190 = .ok (.iconst 1, 1) := by decide +kernel
theorem dX11_reckons_191 : decode cX11_reckons 191 = .ok (.aload_n 0, 1) := by decide +kernel
theorem dX11_reckons_192 : decode cX11_reckons 192 = .ok (.getfield 30, 3) := by decide +kernel
theorem dX11_reckons_195 : decode cX11_reckons 195 = .ok (.iload 5, 2) := by decide +kernel
theorem dX11_reckons_197 : decode cX11_reckons 197 = .ok (.iconst 1, 1) := by decide +kernel
theorem dX11_reckons_198 : decode cX11_reckons 198 = .ok (.isub, 1) := by decide +kernel
theorem dX11_reckons_199 : decode cX11_reckons 199 = .ok (.iaload, 1) := by decide +kernel
theorem dX11_reckons_200 : decode cX11_reckons 200 = .ok (.isub, 1) := by decide +kernel
theorem dX11_reckons_201 : decode cX11_reckons 201 = .ok (.iastore, 1) := by decide +kernel
theorem dX11_reckons_202 : decode cX11_reckons 202 = .ok (.goto 91, 3) := by decide +kernel
theorem dX11_reckons_205 : decode cX11_reckons 205 = .ok (.iload 7, 2) := by decide +kernel
theorem dX11_reckons_207 : decode cX11_reckons 207 = .ok (.sipush 3009, 3) := by decide +kernel
theorem dX11_reckons_210 : decode cX11_reckons 210 = .ok (.if_icmp .ne 50, 3) := by decide +kernel
theorem dX11_reckons_213 : decode cX11_reckons 213 = .ok (.iinc 5 (-2), 3) := by decide +kernel
theorem dX11_reckons_216 : decode cX11_reckons 216 = .ok (.aload_n 0, 1) := by decide +kernel
theorem dX11_reckons_217 : decode cX11_reckons 217 = .ok (.getfield 30, 3) := by decide +kernel
theorem dX11_reckons_220 : decode cX11_reckons 220 = .ok (.iload 5, 2) := by decide +kernel
theorem dX11_reckons_222 : decode cX11_reckons 222 = .ok (.iconst 1, 1) := by decide +kernel
theorem dX11_reckons_223 : decode cX11_reckons 223 = .ok (.isub, 1) := by decide +kernel
theorem dX11_reckons_224 : decode cX11_reckons 224 = .ok (.aload_n 0, 1) := by decide +kernel
theorem dX11_reckons_225 : decode cX11_reckons 225 = .ok (.getfield 30, 3) := by decide +kernel
theorem dX11_reckons_228 : decode cX11_reckons 228 = .ok (.iload 5, 2) := by decide +kernel
theorem dX11_reckons_230 : decode cX11_reckons 230 = .ok (.iconst 1, 1) := by decide +kernel
theorem dX11_reckons_231 : decode cX11_reckons 231 = .ok (.isub, 1) := by decide +kernel
theorem dX11_reckons_232 : decode cX11_reckons 232 = .ok (.iaload, 1) := by decide +kernel
theorem dX11_reckons_233 : decode cX11_reckons 233 = .ok (.iconst 1, 1) := by decide +kernel
theorem dX11_reckons_234 : decode cX11_reckons 234 = .ok (.if_icmp .ne 13, 3) := by decide +kernel
theorem dX11_reckons_237 : decode cX11_reckons 237 = .ok (.aload_n 0, 1) := by decide +kernel
theorem dX11_reckons_238 : decode cX11_reckons 238 = .ok (.getfield 30, 3) := by decide +kernel
theorem dX11_reckons_241 : decode cX11_reckons 241 = .ok (.iload 5, 2) := by decide +kernel
theorem dX11_reckons_243 : decode cX11_reckons 243 = .ok (.iaload, 1) := by decide +kernel
theorem dX11_reckons_244 : decode cX11_reckons 244 = .ok (.goto 12, 3) := by decide +kernel
theorem dX11_reckons_247 : decode cX11_reckons 247 = .ok (.aload_n 0, 1) := by decide +kernel
theorem dX11_reckons_248 : decode cX11_reckons 248 = .ok (.getfield 30, 3) := by decide +kernel
theorem dX11_reckons_251 : decode cX11_reckons 251 = .ok (.iload 5, 2) := by decide +kernel
theorem dX11_reckons_253 : decode cX11_reckons 253 = .ok (.iconst 1, 1) := by decide +kernel
theorem dX11_reckons_254 : decode cX11_reckons 254 = .ok (.iadd, 1) := by decide +kernel
theorem dX11_reckons_255 : decode cX11_reckons 255 = .ok (.iaload, 1) := by decide +kernel
theorem dX11_reckons_256 : decode cX11_reckons 256 = .ok (.iastore, 1) := by decide +kernel
theorem dX11_reckons_257 : decode cX11_reckons 257 = .ok (.goto 36, 3) := by decide +kernel
theorem dX11_reckons_260 : decode cX11_reckons 260 = .ok (.iinc 5 (-1), 3) := by decide +kernel
theorem dX11_reckons_263 : decode cX11_reckons 263 = .ok (.aload_n 0, 1) := by decide +kernel
theorem dX11_reckons_264 : decode cX11_reckons 264 = .ok (.getfield 30, 3) := by decide +kernel
theorem dX11_reckons_267 : decode cX11_reckons 267 = .ok (.iload 5, 2) := by decide +kernel
theorem dX11_reckons_269 : decode cX11_reckons 269 = .ok (.iconst 1, 1) := by decide +kernel
theorem dX11_reckons_270 : decode cX11_reckons 270 = .ok (.isub, 1) := by decide +kernel
theorem dX11_reckons_271 : decode cX11_reckons 271 = .ok (.iload 7, 2) := by decide +kernel
theorem dX11_reckons_273 : decode cX11_reckons 273 = .ok (.aload_n 0, 1) := by decide +kernel
theorem dX11_reckons_274 : decode cX11_reckons 274 = .ok (.getfield 30, 3) := by decide +kernel
theorem dX11_reckons_277 : decode cX11_reckons 277 = .ok (.iload 5, 2) := by decide +kernel
theorem dX11_reckons_279 : decode cX11_reckons 279 = .ok (.iconst 1, 1) := by decide +kernel
theorem dX11_reckons_280 : decode cX11_reckons 280 = .ok (.isub, 1) := by decide +kernel
theorem dX11_reckons_281 : decode cX11_reckons 281 = .ok (.iaload, 1) := by decide +kernel
theorem dX11_reckons_282 : decode cX11_reckons 282 = .ok (.aload_n 0, 1) := by decide +kernel
theorem dX11_reckons_283 : decode cX11_reckons 283 = .ok (.getfield 30, 3) := by decide +kernel
theorem dX11_reckons_286 : decode cX11_reckons 286 = .ok (.iload 5, 2) := by decide +kernel
theorem dX11_reckons_288 : decode cX11_reckons 288 = .ok (.iaload, 1) := by decide +kernel
theorem dX11_reckons_289 : decode cX11_reckons 289 = .ok (.invokestatic 243, 3) := by decide +kernel
theorem dX11_reckons_292 : decode cX11_reckons 292 = .ok (.iastore, 1) := by decide +kernel
theorem dX11_reckons_293 : decode cX11_reckons 293 = .ok (.iinc 6 1, 3) := by decide +kernel
theorem dX11_reckons_296 : decode cX11_reckons 296 = .ok (.goto (-203), 3) := by decide +kernel
theorem dX11_reckons_299 : decode cX11_reckons 299 = .ok (.aload_n 0, 1) := by decide +kernel
theorem dX11_reckons_300 : decode cX11_reckons 300 = .ok (.getfield 30, 3) := by decide +kernel
theorem dX11_reckons_303 : decode cX11_reckons 303 = .ok (.iconst 0, 1) := by decide +kernel
theorem dX11_reckons_304 : decode cX11_reckons 304 = .ok (.iaload, 1) := by decide +kernel
theorem dX11_reckons_305 : decode cX11_reckons 305 = .ok (.ireturn, 1) := by decide +kernel
theorem dX11_toldMove_0 : decode cX11_toldMove 0 = .ok (.iload_n 0, 1) := by decide +kernel
theorem dX11_toldMove_1 : decode cX11_toldMove 1 = .ok (.iconst 3, 1) := by decide +kernel
theorem dX11_toldMove_2 : decode cX11_toldMove 2 = .ok (.if_icmp .ge 7, 3) := by decide +kernel
theorem dX11_toldMove_5 : decode cX11_toldMove 5 = .ok (.iload_n 0, 1) := by decide +kernel
theorem dX11_toldMove_6 : decode cX11_toldMove 6 = .ok (.goto 20, 3) := by decide +kernel
theorem dX11_toldMove_9 : decode cX11_toldMove 9 = .ok (.iload_n 0, 1) := by decide +kernel
theorem dX11_toldMove_10 : decode cX11_toldMove 10 = .ok (.bipush 9, 2) := by decide +kernel
theorem dX11_toldMove_12 : decode cX11_toldMove 12 = .ok (.if_icmp .ge 10, 3) := by decide +kernel
theorem dX11_toldMove_15 : decode cX11_toldMove 15 = .ok (.bipush 7, 2) := by decide +kernel
theorem dX11_toldMove_17 : decode cX11_toldMove 17 = .ok (.iload_n 0, 1) := by decide +kernel
theorem dX11_toldMove_18 : decode cX11_toldMove 18 = .ok (.iadd, 1) := by decide +kernel
theorem dX11_toldMove_19 : decode cX11_toldMove 19 = .ok (.goto 7, 3) := by decide +kernel
theorem dX11_toldMove_22 : decode cX11_toldMove 22 = .ok (.bipush 11, 2) := by decide +kernel
theorem dX11_toldMove_24 : decode cX11_toldMove 24 = .ok (.iload_n 0, 1) := by decide +kernel
theorem dX11_toldMove_25 : decode cX11_toldMove 25 = .ok (.iadd, 1) := by decide +kernel
theorem dX11_toldMove_26 : decode cX11_toldMove 26 = .ok (.ireturn, 1) := by decide +kernel
theorem dX11_moveOf_0 : decode cX11_moveOf 0 = .ok (.lload_n 1, 1) := by decide +kernel
theorem dX11_moveOf_1 : decode cX11_moveOf 1 = .ok (.lconst 0, 1) := by decide +kernel
theorem dX11_moveOf_2 : decode cX11_moveOf 2 = .ok (.ldc2_w 246, 3) := by decide +kernel
theorem dX11_moveOf_5 : decode cX11_moveOf 5 = .ok (.invokestatic 158, 3) := by decide +kernel
theorem dX11_moveOf_8 : decode cX11_moveOf 8 = .ok (.ifCond .eq 6, 3) := by decide +kernel
theorem dX11_moveOf_11 : decode cX11_moveOf 11 = .ok (.lload_n 1, 1) := by decide +kernel
theorem dX11_moveOf_12 : decode cX11_moveOf 12 = .ok (.l2i, 1) := by decide +kernel
theorem dX11_moveOf_13 : decode cX11_moveOf 13 = .ok (.ireturn, 1) := by decide +kernel
theorem dX11_moveOf_14 : decode cX11_moveOf 14 = .ok (.lload_n 1, 1) := by decide +kernel
theorem dX11_moveOf_15 : decode cX11_moveOf 15 = .ok (.ldc2_w 248, 3) := by decide +kernel
theorem dX11_moveOf_18 : decode cX11_moveOf 18 = .ok (.ldc2_w 250, 3) := by decide +kernel
theorem dX11_moveOf_21 : decode cX11_moveOf 21 = .ok (.invokestatic 158, 3) := by decide +kernel
theorem dX11_moveOf_24 : decode cX11_moveOf 24 = .ok (.ifCond .eq 15, 3) := by decide +kernel
theorem dX11_moveOf_27 : decode cX11_moveOf 27 = .ok (.aload_n 0, 1) := by decide +kernel
theorem dX11_moveOf_28 : decode cX11_moveOf 28 = .ok (.lload_n 1, 1) := by decide +kernel
theorem dX11_moveOf_29 : decode cX11_moveOf 29 = .ok (.ldc2_w 248, 3) := by decide +kernel
theorem dX11_moveOf_32 : decode cX11_moveOf 32 = .ok (.lrem, 1) := by decide +kernel
theorem dX11_moveOf_33 : decode cX11_moveOf 33 = .ok (.invokevirtual 252, 3) := by decide +kernel
theorem dX11_moveOf_36 : decode cX11_moveOf 36 = .ok (.ifCond .ne 5, 3) := by decide +kernel
theorem dX11_moveOf_39 : decode cX11_moveOf 39 = .ok (.iconst (-1), 1) := by decide +kernel
theorem dX11_moveOf_40 : decode cX11_moveOf 40 = .ok (.ireturn, 1) := by decide +kernel
theorem dX11_moveOf_41 : decode cX11_moveOf 41 = .ok (.lload_n 1, 1) := by decide +kernel
theorem dX11_moveOf_42 : decode cX11_moveOf 42 = .ok (.ldc2_w 256, 3) := by decide +kernel
theorem dX11_moveOf_45 : decode cX11_moveOf 45 = .ok (.lcmp, 1) := by decide +kernel
theorem dX11_moveOf_46 : decode cX11_moveOf 46 = .ok (.ifCond .ge 7, 3) := by decide +kernel
theorem dX11_moveOf_49 : decode cX11_moveOf 49 = .ok (.iconst 3, 1) := by decide +kernel
theorem dX11_moveOf_50 : decode cX11_moveOf 50 = .ok (.goto 5, 3) := by decide +kernel
theorem dX11_moveOf_53 : decode cX11_moveOf 53 = .ok (.bipush 9, 2) := by decide +kernel
theorem dX11_moveOf_55 : decode cX11_moveOf 55 = .ok (.lload_n 1, 1) := by decide +kernel
theorem dX11_moveOf_56 : decode cX11_moveOf 56 = .ok (.l2i, 1) := by decide +kernel
theorem dX11_moveOf_57 : decode cX11_moveOf 57 = .ok (.bipush 10, 2) := by decide +kernel
theorem dX11_moveOf_59 : decode cX11_moveOf 59 = .ok (.irem, 1) := by decide +kernel
theorem dX11_moveOf_60 : decode cX11_moveOf 60 = .ok (.iadd, 1) := by decide +kernel
theorem dX11_moveOf_61 : decode cX11_moveOf 61 = .ok (.ireturn, 1) := by decide +kernel
theorem dX11_isMove_0 : decode cX11_isMove 0 = .ok (.iload_n 1, 1) := by decide +kernel
theorem dX11_isMove_1 : decode cX11_isMove 1 = .ok (.iconst 3, 1) := by decide +kernel
theorem dX11_isMove_2 : decode cX11_isMove 2 = .ok (.if_icmp .lt 17, 3) := by decide +kernel
theorem dX11_isMove_5 : decode cX11_isMove 5 = .ok (.aload_n 0, 1) := by decide +kernel
theorem dX11_isMove_6 : decode cX11_isMove 6 = .ok (.iload_n 1, 1) := by decide +kernel
theorem dX11_isMove_7 : decode cX11_isMove 7 = .ok (.iconst 3, 1) := by decide +kernel
theorem dX11_isMove_8 : decode cX11_isMove 8 = .ok (.isub, 1) := by decide +kernel
theorem dX11_isMove_9 : decode cX11_isMove 9 = .ok (.bipush 6, 2) := by decide +kernel
theorem dX11_isMove_11 : decode cX11_isMove 11 = .ok (.irem, 1) := by decide +kernel
theorem dX11_isMove_12 : decode cX11_isMove 12 = .ok (.i2l, 1) := by decide +kernel
theorem dX11_isMove_13 : decode cX11_isMove 13 = .ok (.invokevirtual 252, 3) := by decide +kernel
theorem dX11_isMove_16 : decode cX11_isMove 16 = .ok (.ifCond .eq 7, 3) := by decide +kernel
theorem dX11_isMove_19 : decode cX11_isMove 19 = .ok (.iconst 1, 1) := by decide +kernel
theorem dX11_isMove_20 : decode cX11_isMove 20 = .ok (.goto 4, 3) := by decide +kernel
theorem dX11_isMove_23 : decode cX11_isMove 23 = .ok (.iconst 0, 1) := by decide +kernel
theorem dX11_isMove_24 : decode cX11_isMove 24 = .ok (.ireturn, 1) := by decide +kernel
theorem dX11_isBarred_0 : decode cX11_isBarred 0 = .ok (.aload_n 0, 1) := by decide +kernel
theorem dX11_isBarred_1 : decode cX11_isBarred 1 = .ok (.getfield 13, 3) := by decide +kernel
theorem dX11_isBarred_4 : decode cX11_isBarred 4 = .ok (.bipush 10, 2) := by decide +kernel
theorem dX11_isBarred_6 : decode cX11_isBarred 6 = .ok (.iload_n 1, 1) := by decide +kernel
theorem dX11_isBarred_7 : decode cX11_isBarred 7 = .ok (.iadd, 1) := by decide +kernel
theorem dX11_isBarred_8 : decode cX11_isBarred 8 = .ok (.iaload, 1) := by decide +kernel
theorem dX11_isBarred_9 : decode cX11_isBarred 9 = .ok (.iload_n 2, 1) := by decide +kernel
theorem dX11_isBarred_10 : decode cX11_isBarred 10 = .ok (.iand, 1) := by decide +kernel
theorem dX11_isBarred_11 : decode cX11_isBarred 11 = .ok (.ifCond .eq 7, 3) := by decide +kernel
theorem dX11_isBarred_14 : decode cX11_isBarred 14 = .ok (.iconst 1, 1) := by decide +kernel
theorem dX11_isBarred_15 : decode cX11_isBarred 15 = .ok (.goto 4, 3) := by decide +kernel
theorem dX11_isBarred_18 : decode cX11_isBarred 18 = .ok (.iconst 0, 1) := by decide +kernel
theorem dX11_isBarred_19 : decode cX11_isBarred 19 = .ok (.ireturn, 1) := by decide +kernel
theorem dX11_whyBy_0 : decode cX11_whyBy 0 = .ok (.iload_n 1, 1) := by decide +kernel
theorem dX11_whyBy_1 : decode cX11_whyBy 1 = .ok (.invokestatic 230, 3) := by decide +kernel
theorem dX11_whyBy_4 : decode cX11_whyBy 4 = .ok (.istore 4, 2) := by decide +kernel
theorem dX11_whyBy_6 : decode cX11_whyBy 6 = .ok (.iload_n 1, 1) := by decide +kernel
theorem dX11_whyBy_7 : decode cX11_whyBy 7 = .ok (.invokestatic 233, 3) := by decide +kernel
theorem dX11_whyBy_10 : decode cX11_whyBy 10 = .ok (.istore 5, 2) := by decide +kernel
theorem dX11_whyBy_12 : decode cX11_whyBy 12 = .ok (.iload_n 2, 1) := by decide +kernel
theorem dX11_whyBy_13 : decode cX11_whyBy 13 = .ok (.ifCond .ne 5, 3) := by decide +kernel
theorem dX11_whyBy_16 : decode cX11_whyBy 16 = .ok (.iconst 0, 1) := by decide +kernel
theorem dX11_whyBy_17 : decode cX11_whyBy 17 = .ok (.ireturn, 1) := by decide +kernel
theorem dX11_whyBy_18 : decode cX11_whyBy 18 = .ok (.iload_n 2, 1) := by decide +kernel
theorem dX11_whyBy_19 : decode cX11_whyBy 19 = .ok (.iconst 1, 1) := by decide +kernel
theorem dX11_whyBy_20 : decode cX11_whyBy 20 = .ok (.if_icmp .ne 83, 3) := by decide +kernel
theorem dX11_whyBy_23 : decode cX11_whyBy 23 = .ok (.iload 4, 2) := by decide +kernel
theorem dX11_whyBy_25 : decode cX11_whyBy 25 = .ok (.aload_n 0, 1) := by decide +kernel
theorem dX11_whyBy_26 : decode cX11_whyBy 26 = .ok (.getfield 13, 3) := by decide +kernel
theorem dX11_whyBy_29 : decode cX11_whyBy 29 = .ok (.iconst 1, 1) := by decide +kernel
theorem dX11_whyBy_30 : decode cX11_whyBy 30 = .ok (.iaload, 1) := by decide +kernel
theorem dX11_whyBy_31 : decode cX11_whyBy 31 = .ok (.if_icmp .ne 5, 3) := by decide +kernel
theorem dX11_whyBy_34 : decode cX11_whyBy 34 = .ok (.iconst 2, 1) := by decide +kernel
theorem dX11_whyBy_35 : decode cX11_whyBy 35 = .ok (.ireturn, 1) := by decide +kernel
theorem dX11_whyBy_36 : decode cX11_whyBy 36 = .ok (.aload_n 0, 1) := by decide +kernel
theorem dX11_whyBy_37 : decode cX11_whyBy 37 = .ok (.iload 4, 2) := by decide +kernel
theorem dX11_whyBy_39 : decode cX11_whyBy 39 = .ok (.iconst 1, 1) := by decide +kernel
theorem dX11_whyBy_40 : decode cX11_whyBy 40 = .ok (.iadd, 1) := by decide +kernel
theorem dX11_whyBy_41 : decode cX11_whyBy 41 = .ok (.iload 5, 2) := by decide +kernel
theorem dX11_whyBy_43 : decode cX11_whyBy 43 = .ok (.invokevirtual 258, 3) := by decide +kernel
theorem dX11_whyBy_46 : decode cX11_whyBy 46 = .ok (.ifCond .eq 5, 3) := by decide +kernel
theorem dX11_whyBy_49 : decode cX11_whyBy 49 = .ok (.iconst 3, 1) := by decide +kernel
theorem dX11_whyBy_50 : decode cX11_whyBy 50 = .ok (.ireturn, 1) := by decide +kernel
theorem dX11_whyBy_51 : decode cX11_whyBy 51 = .ok (.aload_n 0, 1) := by decide +kernel
theorem dX11_whyBy_52 : decode cX11_whyBy 52 = .ok (.getfield 13, 3) := by decide +kernel
theorem dX11_whyBy_55 : decode cX11_whyBy 55 = .ok (.iconst 5, 1) := by decide +kernel
theorem dX11_whyBy_56 : decode cX11_whyBy 56 = .ok (.iaload, 1) := by decide +kernel
theorem dX11_whyBy_57 : decode cX11_whyBy 57 = .ok (.ifCond .ne 17, 3) := by decide +kernel
theorem dX11_whyBy_60 : decode cX11_whyBy 60 = .ok (.iload_n 1, 1) := by decide +kernel
theorem dX11_whyBy_61 : decode cX11_whyBy 61 = .ok (.iconst 5, 1) := by decide +kernel
theorem dX11_whyBy_62 : decode cX11_whyBy 62 = .ok (.irem, 1) := by decide +kernel
theorem dX11_whyBy_63 : decode cX11_whyBy 63 = .ok (.ifCond .le 7, 3) := by decide +kernel
theorem dX11_whyBy_66 : decode cX11_whyBy 66 = .ok (.iconst 1, 1) := by decide +kernel
theorem dX11_whyBy_67 : decode cX11_whyBy 67 = .ok (.goto 23, 3) := by decide +kernel
theorem dX11_whyBy_70 : decode cX11_whyBy 70 = .ok (.iconst 0, 1) := by decide +kernel
theorem dX11_whyBy_71 : decode cX11_whyBy 71 = .ok (.goto 19, 3) := by decide +kernel
theorem dX11_whyBy_74 : decode cX11_whyBy 74 = .ok (.aload_n 0, 1) := by decide +kernel
theorem dX11_whyBy_75 : decode cX11_whyBy 75 = .ok (.iconst 1, 1) := by decide +kernel
theorem dX11_whyBy_76 : decode cX11_whyBy 76 = .ok (.iload_n 1, 1) := by decide +kernel
theorem dX11_whyBy_77 : decode cX11_whyBy 77 = .ok (.iload_n 3, 1) := by decide +kernel
theorem dX11_whyBy_78 : decode cX11_whyBy 78 = .ok (.invokevirtual 262, 3) := by decide +kernel
theorem dX11_whyBy_81 : decode cX11_whyBy 81 = .ok (.iconst 1, 1) := by decide +kernel
theorem dX11_whyBy_82 : decode cX11_whyBy 82 = .ok (.if_icmp .ne 7, 3) := by decide +kernel
theorem dX11_whyBy_85 : decode cX11_whyBy 85 = .ok (.iconst 1, 1) := by decide +kernel
theorem dX11_whyBy_86 : decode cX11_whyBy 86 = .ok (.goto 4, 3) := by decide +kernel
theorem dX11_whyBy_89 : decode cX11_whyBy 89 = .ok (.iconst 0, 1) := by decide +kernel
theorem dX11_whyBy_90 : decode cX11_whyBy 90 = .ok (.istore 6, 2) := by decide +kernel
theorem dX11_whyBy_92 : decode cX11_whyBy 92 = .ok (.iload 6, 2) := by decide +kernel
theorem dX11_whyBy_94 : decode cX11_whyBy 94 = .ok (.ifCond .eq 7, 3) := by decide +kernel
theorem dX11_whyBy_97 : decode cX11_whyBy 97 = .ok (.iconst 0, 1) := by decide +kernel
theorem dX11_whyBy_98 : decode cX11_whyBy 98 = .ok (.goto 4, 3) := by decide +kernel
theorem dX11_whyBy_101 : decode cX11_whyBy 101 = .ok (.iconst 4, 1) := by decide +kernel
theorem dX11_whyBy_102 : decode cX11_whyBy 102 = .ok (.ireturn, 1) := by decide +kernel
theorem dX11_whyBy_103 : decode cX11_whyBy 103 = .ok (.iload_n 2, 1) := by decide +kernel
theorem dX11_whyBy_104 : decode cX11_whyBy 104 = .ok (.iconst 2, 1) := by decide +kernel
theorem dX11_whyBy_105 : decode cX11_whyBy 105 = .ok (.if_icmp .ne 31, 3) := by decide +kernel
theorem dX11_whyBy_108 : decode cX11_whyBy 108 = .ok (.iload 4, 2) := by decide +kernel
theorem dX11_whyBy_110 : decode cX11_whyBy 110 = .ok (.ifCond .ne 7, 3) := by decide +kernel
theorem dX11_whyBy_113 : decode cX11_whyBy 113 = .ok (.iconst 2, 1) := by decide +kernel
theorem dX11_whyBy_114 : decode cX11_whyBy 114 = .ok (.goto 21, 3) := by decide +kernel
theorem dX11_whyBy_117 : decode cX11_whyBy 117 = .ok (.aload_n 0, 1) := by decide +kernel
theorem dX11_whyBy_118 : decode cX11_whyBy 118 = .ok (.iload 4, 2) := by decide +kernel
theorem dX11_whyBy_120 : decode cX11_whyBy 120 = .ok (.iconst 1, 1) := by decide +kernel
theorem dX11_whyBy_121 : decode cX11_whyBy 121 = .ok (.isub, 1) := by decide +kernel
theorem dX11_whyBy_122 : decode cX11_whyBy 122 = .ok (.iload 5, 2) := by decide +kernel
theorem dX11_whyBy_124 : decode cX11_whyBy 124 = .ok (.invokevirtual 258, 3) := by decide +kernel
theorem dX11_whyBy_127 : decode cX11_whyBy 127 = .ok (.ifCond .eq 7, 3) := by decide +kernel
theorem dX11_whyBy_130 : decode cX11_whyBy 130 = .ok (.iconst 3, 1) := by decide +kernel
theorem dX11_whyBy_131 : decode cX11_whyBy 131 = .ok (.goto 4, 3) := by decide +kernel
theorem dX11_whyBy_134 : decode cX11_whyBy 134 = .ok (.iconst 0, 1) := by decide +kernel
theorem dX11_whyBy_135 : decode cX11_whyBy 135 = .ok (.ireturn, 1) := by decide +kernel
theorem dX11_whyBy_136 : decode cX11_whyBy 136 = .ok (.iload_n 2, 1) := by decide +kernel
theorem dX11_whyBy_137 : decode cX11_whyBy 137 = .ok (.iconst 3, 1) := by decide +kernel
theorem dX11_whyBy_138 : decode cX11_whyBy 138 = .ok (.isub, 1) := by decide +kernel
theorem dX11_whyBy_139 : decode cX11_whyBy 139 = .ok (.bipush 6, 2) := by decide +kernel
theorem dX11_whyBy_141 : decode cX11_whyBy 141 = .ok (.irem, 1) := by decide +kernel
theorem dX11_whyBy_142 : decode cX11_whyBy 142 = .ok (.istore 6, 2) := by decide +kernel
theorem dX11_whyBy_144 : decode cX11_whyBy 144 = .ok (.iload_n 2, 1) := by decide +kernel
theorem dX11_whyBy_145 : decode cX11_whyBy 145 = .ok (.bipush 9, 2) := by decide +kernel
theorem dX11_whyBy_147 : decode cX11_whyBy 147 = .ok (.if_icmp .ge 20, 3) := by decide +kernel
theorem dX11_whyBy_150 : decode cX11_whyBy 150 = .ok (.iload 5, 2) := by decide +kernel
theorem dX11_whyBy_152 : decode cX11_whyBy 152 = .ok (.i2l, 1) := by decide +kernel
theorem dX11_whyBy_153 : decode cX11_whyBy 153 = .ok (.iload 6, 2) := by decide +kernel
theorem dX11_whyBy_155 : decode cX11_whyBy 155 = .ok (.invokestatic 265, 3) := by decide +kernel
theorem dX11_whyBy_158 : decode cX11_whyBy 158 = .ok (.ifCond .eq 7, 3) := by decide +kernel
theorem dX11_whyBy_161 : decode cX11_whyBy 161 = .ok (.iconst 0, 1) := by decide +kernel
theorem dX11_whyBy_162 : decode cX11_whyBy 162 = .ok (.goto 4, 3) := by decide +kernel
theorem dX11_whyBy_165 : decode cX11_whyBy 165 = .ok (.iconst 2, 1) := by decide +kernel
theorem dX11_whyBy_166 : decode cX11_whyBy 166 = .ok (.ireturn, 1) := by decide +kernel
theorem dX11_whyBy_167 : decode cX11_whyBy 167 = .ok (.iload 5, 2) := by decide +kernel
theorem dX11_whyBy_169 : decode cX11_whyBy 169 = .ok (.i2l, 1) := by decide +kernel
theorem dX11_whyBy_170 : decode cX11_whyBy 170 = .ok (.iload 6, 2) := by decide +kernel
theorem dX11_whyBy_172 : decode cX11_whyBy 172 = .ok (.invokestatic 265, 3) := by decide +kernel
theorem dX11_whyBy_175 : decode cX11_whyBy 175 = .ok (.ifCond .ne 22, 3) := by decide +kernel
theorem dX11_whyBy_178 : decode cX11_whyBy 178 = .ok (.aload_n 0, 1) := by decide +kernel
theorem dX11_whyBy_179 : decode cX11_whyBy 179 = .ok (.getfield 13, 3) := by decide +kernel
theorem dX11_whyBy_182 : decode cX11_whyBy 182 = .ok (.bipush 19, 2) := by decide +kernel
theorem dX11_whyBy_184 : decode cX11_whyBy 184 = .ok (.iload 4, 2) := by decide +kernel
theorem dX11_whyBy_186 : decode cX11_whyBy 186 = .ok (.iadd, 1) := by decide +kernel
theorem dX11_whyBy_187 : decode cX11_whyBy 187 = .ok (.iaload, 1) := by decide +kernel
theorem dX11_whyBy_188 : decode cX11_whyBy 188 = .ok (.i2l, 1) := by decide +kernel
theorem dX11_whyBy_189 : decode cX11_whyBy 189 = .ok (.iload 6, 2) := by decide +kernel
theorem dX11_whyBy_191 : decode cX11_whyBy 191 = .ok (.invokestatic 265, 3) := by decide +kernel
theorem dX11_whyBy_194 : decode cX11_whyBy 194 = .ok (.ifCond .ne 5, 3) := by decide +kernel
theorem dX11_whyBy_197 : decode cX11_whyBy 197 = .ok (.iconst 2, 1) := by decide +kernel
theorem dX11_whyBy_198 : decode cX11_whyBy 198 = .ok (.ireturn, 1) := by decide +kernel
theorem dX11_whyBy_199 : decode cX11_whyBy 199 = .ok (.aload_n 0, 1) := by decide +kernel
theorem dX11_whyBy_200 : decode cX11_whyBy 200 = .ok (.getfield 13, 3) := by decide +kernel
theorem dX11_whyBy_203 : decode cX11_whyBy 203 = .ok (.bipush 10, 2) := by decide +kernel
theorem dX11_whyBy_205 : decode cX11_whyBy 205 = .ok (.iload 4, 2) := by decide +kernel
theorem dX11_whyBy_207 : decode cX11_whyBy 207 = .ok (.iadd, 1) := by decide +kernel
theorem dX11_whyBy_208 : decode cX11_whyBy 208 = .ok (.iaload, 1) := by decide +kernel
theorem dX11_whyBy_209 : decode cX11_whyBy 209 = .ok (.i2l, 1) := by decide +kernel
theorem dX11_whyBy_210 : decode cX11_whyBy 210 = .ok (.iload 6, 2) := by decide +kernel
theorem dX11_whyBy_212 : decode cX11_whyBy 212 = .ok (.invokestatic 265, 3) := by decide +kernel
theorem dX11_whyBy_215 : decode cX11_whyBy 215 = .ok (.ifCond .eq 7, 3) := by decide +kernel
theorem dX11_whyBy_218 : decode cX11_whyBy 218 = .ok (.iconst 3, 1) := by decide +kernel
theorem dX11_whyBy_219 : decode cX11_whyBy 219 = .ok (.goto 4, 3) := by decide +kernel
theorem dX11_whyBy_222 : decode cX11_whyBy 222 = .ok (.iconst 0, 1) := by decide +kernel
theorem dX11_whyBy_223 : decode cX11_whyBy 223 = .ok (.ireturn, 1) := by decide +kernel
theorem dX11_tiredTo_0 : decode cX11_tiredTo 0 = .ok (.aload_n 0, 1) := by decide +kernel
theorem dX11_tiredTo_1 : decode cX11_tiredTo 1 = .ok (.getfield 13, 3) := by decide +kernel
theorem dX11_tiredTo_4 : decode cX11_tiredTo 4 = .ok (.iconst 4, 1) := by decide +kernel
theorem dX11_tiredTo_5 : decode cX11_tiredTo 5 = .ok (.iaload, 1) := by decide +kernel
theorem dX11_tiredTo_6 : decode cX11_tiredTo 6 = .ok (.iconst 1, 1) := by decide +kernel
theorem dX11_tiredTo_7 : decode cX11_tiredTo 7 = .ok (.if_icmp .ne 13, 3) := by decide +kernel
theorem dX11_tiredTo_10 : decode cX11_tiredTo 10 = .ok (.aload_n 0, 1) := by decide +kernel
theorem dX11_tiredTo_11 : decode cX11_tiredTo 11 = .ok (.iconst 0, 1) := by decide +kernel
theorem dX11_tiredTo_12 : decode cX11_tiredTo 12 = .ok (.iload_n 1, 1) := by decide +kernel
theorem dX11_tiredTo_13 : decode cX11_tiredTo 13 = .ok (.iload_n 2, 1) := by decide +kernel
theorem dX11_tiredTo_14 : decode cX11_tiredTo 14 = .ok (.invokevirtual 262, 3) := by decide +kernel
theorem dX11_tiredTo_17 : decode cX11_tiredTo 17 = .ok (.goto 8, 3) := by decide +kernel
theorem dX11_tiredTo_20 : decode cX11_tiredTo 20 = .ok (.iload_n 1, 1) := by decide +kernel
theorem dX11_tiredTo_21 : decode cX11_tiredTo 21 = .ok (.iconst 5, 1) := by decide +kernel
theorem dX11_tiredTo_22 : decode cX11_tiredTo 22 = .ok (.irem, 1) := by decide +kernel
theorem dX11_tiredTo_23 : decode cX11_tiredTo 23 = .ok (.iconst 1, 1) := by decide +kernel
theorem dX11_tiredTo_24 : decode cX11_tiredTo 24 = .ok (.isub, 1) := by decide +kernel
theorem dX11_tiredTo_25 : decode cX11_tiredTo 25 = .ok (.istore_n 3, 1) := by decide +kernel
theorem dX11_tiredTo_26 : decode cX11_tiredTo 26 = .ok (.iload_n 3, 1) := by decide +kernel
theorem dX11_tiredTo_27 : decode cX11_tiredTo 27 = .ok (.ifCond .ge 7, 3) := by decide +kernel
theorem dX11_tiredTo_30 : decode cX11_tiredTo 30 = .ok (.iconst 0, 1) := by decide +kernel
theorem dX11_tiredTo_31 : decode cX11_tiredTo 31 = .ok (.goto 13, 3) := by decide +kernel
theorem dX11_tiredTo_34 : decode cX11_tiredTo 34 = .ok (.iload_n 3, 1) := by decide +kernel
theorem dX11_tiredTo_35 : decode cX11_tiredTo 35 = .ok (.iconst 4, 1) := by decide +kernel
theorem dX11_tiredTo_36 : decode cX11_tiredTo 36 = .ok (.if_icmp .le 7, 3) := by decide +kernel
theorem dX11_tiredTo_39 : decode cX11_tiredTo 39 = .ok (.iconst 4, 1) := by decide +kernel
theorem dX11_tiredTo_40 : decode cX11_tiredTo 40 = .ok (.goto 4, 3) := by decide +kernel
theorem dX11_tiredTo_43 : decode cX11_tiredTo 43 = .ok (.iload_n 3, 1) := by decide +kernel
theorem dX11_tiredTo_44 : decode cX11_tiredTo 44 = .ok (.ireturn, 1) := by decide +kernel
theorem dX11_actedTo_0 : decode cX11_actedTo 0 = .ok (.iload_n 1, 1) := by decide +kernel
theorem dX11_actedTo_1 : decode cX11_actedTo 1 = .ok (.iconst 5, 1) := by decide +kernel
theorem dX11_actedTo_2 : decode cX11_actedTo 2 = .ok (.irem, 1) := by decide +kernel
theorem dX11_actedTo_3 : decode cX11_actedTo 3 = .ok (.istore 4, 2) := by decide +kernel
theorem dX11_actedTo_5 : decode cX11_actedTo 5 = .ok (.iload_n 2, 1) := by decide +kernel
theorem dX11_actedTo_6 : decode cX11_actedTo 6 = .ok (.tableswitch 66 0 2 #[26, 40, 60], 26) := by decide +kernel
theorem dX11_actedTo_32 : decode cX11_actedTo 32 = .ok (.iload 4, 2) := by decide +kernel
theorem dX11_actedTo_34 : decode cX11_actedTo 34 = .ok (.iconst 4, 1) := by decide +kernel
theorem dX11_actedTo_35 : decode cX11_actedTo 35 = .ok (.if_icmp .ge 9, 3) := by decide +kernel
theorem dX11_actedTo_38 : decode cX11_actedTo 38 = .ok (.iload_n 1, 1) := by decide +kernel
theorem dX11_actedTo_39 : decode cX11_actedTo 39 = .ok (.iconst 1, 1) := by decide +kernel
theorem dX11_actedTo_40 : decode cX11_actedTo 40 = .ok (.iadd, 1) := by decide +kernel
theorem dX11_actedTo_41 : decode cX11_actedTo 41 = .ok (.goto 4, 3) := by decide +kernel
theorem dX11_actedTo_44 : decode cX11_actedTo 44 = .ok (.iload_n 1, 1) := by decide +kernel
theorem dX11_actedTo_45 : decode cX11_actedTo 45 = .ok (.ireturn, 1) := by decide +kernel
theorem dX11_actedTo_46 : decode cX11_actedTo 46 = .ok (.iload_n 1, 1) := by decide +kernel
theorem dX11_actedTo_47 : decode cX11_actedTo 47 = .ok (.invokestatic 230, 3) := by decide +kernel
theorem dX11_actedTo_50 : decode cX11_actedTo 50 = .ok (.iconst 1, 1) := by decide +kernel
theorem dX11_actedTo_51 : decode cX11_actedTo 51 = .ok (.iadd, 1) := by decide +kernel
theorem dX11_actedTo_52 : decode cX11_actedTo 52 = .ok (.iload_n 1, 1) := by decide +kernel
theorem dX11_actedTo_53 : decode cX11_actedTo 53 = .ok (.invokestatic 233, 3) := by decide +kernel
theorem dX11_actedTo_56 : decode cX11_actedTo 56 = .ok (.aload_n 0, 1) := by decide +kernel
theorem dX11_actedTo_57 : decode cX11_actedTo 57 = .ok (.iload_n 1, 1) := by decide +kernel
theorem dX11_actedTo_58 : decode cX11_actedTo 58 = .ok (.iload_n 3, 1) := by decide +kernel
theorem dX11_actedTo_59 : decode cX11_actedTo 59 = .ok (.invokevirtual 269, 3) := by decide +kernel
theorem dX11_actedTo_62 : decode cX11_actedTo 62 = .ok (.invokestatic 226, 3) := by decide +kernel
theorem dX11_actedTo_65 : decode cX11_actedTo 65 = .ok (.ireturn, 1) := by decide +kernel
theorem dX11_actedTo_66 : decode cX11_actedTo 66 = .ok (.iload_n 1, 1) := by decide +kernel
theorem dX11_actedTo_67 : decode cX11_actedTo 67 = .ok (.sipush 320, 3) := by decide +kernel
theorem dX11_actedTo_70 : decode cX11_actedTo 70 = .ok (.isub, 1) := by decide +kernel
theorem dX11_actedTo_71 : decode cX11_actedTo 71 = .ok (.ireturn, 1) := by decide +kernel
theorem dX11_actedTo_72 : decode cX11_actedTo 72 = .ok (.iconst 1, 1) := by decide +kernel
theorem dX11_actedTo_73 : decode cX11_actedTo 73 = .ok (.iload_n 2, 1) := by decide +kernel
theorem dX11_actedTo_74 : decode cX11_actedTo 74 = .ok (.iconst 3, 1) := by decide +kernel
theorem dX11_actedTo_75 : decode cX11_actedTo 75 = .ok (.isub, 1) := by decide +kernel
theorem dX11_actedTo_76 : decode cX11_actedTo 76 = .ok (.bipush 6, 2) := by decide +kernel
theorem dX11_actedTo_78 : decode cX11_actedTo 78 = .ok (.irem, 1) := by decide +kernel
theorem dX11_actedTo_79 : decode cX11_actedTo 79 = .ok (.ishl, 1) := by decide +kernel
theorem dX11_actedTo_80 : decode cX11_actedTo 80 = .ok (.istore 5, 2) := by decide +kernel
theorem dX11_actedTo_82 : decode cX11_actedTo 82 = .ok (.iload_n 2, 1) := by decide +kernel
theorem dX11_actedTo_83 : decode cX11_actedTo 83 = .ok (.bipush 9, 2) := by decide +kernel
theorem dX11_actedTo_85 : decode cX11_actedTo 85 = .ok (.if_icmp .ge 12, 3) := by decide +kernel
theorem dX11_actedTo_88 : decode cX11_actedTo 88 = .ok (.iload_n 1, 1) := by decide +kernel
theorem dX11_actedTo_89 : decode cX11_actedTo 89 = .ok (.iconst 5, 1) := by decide +kernel
theorem dX11_actedTo_90 : decode cX11_actedTo 90 = .ok (.iload 5, 2) := by decide +kernel
theorem dX11_actedTo_92 : decode cX11_actedTo 92 = .ok (.imul, 1) := by decide +kernel
theorem dX11_actedTo_93 : decode cX11_actedTo 93 = .ok (.isub, 1) := by decide +kernel
theorem dX11_actedTo_94 : decode cX11_actedTo 94 = .ok (.goto 9, 3) := by decide +kernel
theorem dX11_actedTo_97 : decode cX11_actedTo 97 = .ok (.iload_n 1, 1) := by decide +kernel
theorem dX11_actedTo_98 : decode cX11_actedTo 98 = .ok (.iconst 5, 1) := by decide +kernel
theorem dX11_actedTo_99 : decode cX11_actedTo 99 = .ok (.iload 5, 2) := by decide +kernel
theorem dX11_actedTo_101 : decode cX11_actedTo 101 = .ok (.imul, 1) := by decide +kernel
theorem dX11_actedTo_102 : decode cX11_actedTo 102 = .ok (.iadd, 1) := by decide +kernel
theorem dX11_actedTo_103 : decode cX11_actedTo 103 = .ok (.ireturn, 1) := by decide +kernel
theorem dX11_hole_0 : decode cX11_hole 0 = .ok (.aload_n 0, 1) := by decide +kernel
theorem dX11_hole_1 : decode cX11_hole 1 = .ok (.iconst 0, 1) := by decide +kernel
theorem dX11_hole_2 : decode cX11_hole 2 = .ok (.putfield 1, 3) := by decide +kernel
theorem dX11_hole_5 : decode cX11_hole 5 = .ok (.aload_n 0, 1) := by decide +kernel
theorem dX11_hole_6 : decode cX11_hole 6 = .ok (.iload_n 1, 1) := by decide +kernel
theorem dX11_hole_7 : decode cX11_hole 7 = .ok (.invokevirtual 272, 3) := by decide +kernel
theorem dX11_hole_10 : decode cX11_hole 10 = .ok (.ifCond .ne 6, 3) := by decide +kernel
theorem dX11_hole_13 : decode cX11_hole 13 = .ok (.bipush (-2), 2) := by decide +kernel
theorem dX11_hole_15 : decode cX11_hole 15 = .ok (.ireturn, 1) := by decide +kernel
theorem dX11_hole_16 : decode cX11_hole 16 = .ok (.iload_n 2, 1) := by decide +kernel
theorem dX11_hole_17 : decode cX11_hole 17 = .ok (.tableswitch 57 0 2 #[27, 37, 47], 27) := by decide +kernel
theorem dX11_hole_44 : decode cX11_hole 44 = .ok (.aload_n 0, 1) := by decide +kernel
theorem dX11_hole_45 : decode cX11_hole 45 = .ok (.getfield 13, 3) := by decide +kernel
theorem dX11_hole_48 : decode cX11_hole 48 = .ok (.bipush 10, 2) := by decide +kernel
theorem dX11_hole_50 : decode cX11_hole 50 = .ok (.iload_n 1, 1) := by decide +kernel
theorem dX11_hole_51 : decode cX11_hole 51 = .ok (.iadd, 1) := by decide +kernel
theorem dX11_hole_52 : decode cX11_hole 52 = .ok (.iaload, 1) := by decide +kernel
theorem dX11_hole_53 : decode cX11_hole 53 = .ok (.ireturn, 1) := by decide +kernel
theorem dX11_hole_54 : decode cX11_hole 54 = .ok (.aload_n 0, 1) := by decide +kernel
theorem dX11_hole_55 : decode cX11_hole 55 = .ok (.getfield 13, 3) := by decide +kernel
theorem dX11_hole_58 : decode cX11_hole 58 = .ok (.bipush 19, 2) := by decide +kernel
theorem dX11_hole_60 : decode cX11_hole 60 = .ok (.iload_n 1, 1) := by decide +kernel
theorem dX11_hole_61 : decode cX11_hole 61 = .ok (.iadd, 1) := by decide +kernel
theorem dX11_hole_62 : decode cX11_hole 62 = .ok (.iaload, 1) := by decide +kernel
theorem dX11_hole_63 : decode cX11_hole 63 = .ok (.ireturn, 1) := by decide +kernel
theorem dX11_hole_64 : decode cX11_hole 64 = .ok (.aload_n 0, 1) := by decide +kernel
theorem dX11_hole_65 : decode cX11_hole 65 = .ok (.getfield 13, 3) := by decide +kernel
theorem dX11_hole_68 : decode cX11_hole 68 = .ok (.bipush 28, 2) := by decide +kernel
theorem dX11_hole_70 : decode cX11_hole 70 = .ok (.iload_n 1, 1) := by decide +kernel
theorem dX11_hole_71 : decode cX11_hole 71 = .ok (.iadd, 1) := by decide +kernel
theorem dX11_hole_72 : decode cX11_hole 72 = .ok (.iaload, 1) := by decide +kernel
theorem dX11_hole_73 : decode cX11_hole 73 = .ok (.ireturn, 1) := by decide +kernel
theorem dX11_hole_74 : decode cX11_hole 74 = .ok (.bipush (-2), 2) := by decide +kernel
theorem dX11_hole_76 : decode cX11_hole 76 = .ok (.ireturn, 1) := by decide +kernel
theorem dX11_whyAct_0 : decode cX11_whyAct 0 = .ok (.aload_n 0, 1) := by decide +kernel
theorem dX11_whyAct_1 : decode cX11_whyAct 1 = .ok (.lload_n 1, 1) := by decide +kernel
theorem dX11_whyAct_2 : decode cX11_whyAct 2 = .ok (.invokevirtual 275, 3) := by decide +kernel
theorem dX11_whyAct_5 : decode cX11_whyAct 5 = .ok (.istore_n 3, 1) := by decide +kernel
theorem dX11_whyAct_6 : decode cX11_whyAct 6 = .ok (.iload_n 3, 1) := by decide +kernel
theorem dX11_whyAct_7 : decode cX11_whyAct 7 = .ok (.iconst (-1), 1) := by decide +kernel
theorem dX11_whyAct_8 : decode cX11_whyAct 8 = .ok (.if_icmp .ne 7, 3) := by decide +kernel
theorem dX11_whyAct_11 : decode cX11_whyAct 11 = .ok (.iconst 1, 1) := by decide +kernel
theorem dX11_whyAct_12 : decode cX11_whyAct 12 = .ok (.goto 19, 3) := by decide +kernel
theorem dX11_whyAct_15 : decode cX11_whyAct 15 = .ok (.aload_n 0, 1) := by decide +kernel
theorem dX11_whyAct_16 : decode cX11_whyAct 16 = .ok (.aload_n 0, 1) := by decide +kernel
theorem dX11_whyAct_17 : decode cX11_whyAct 17 = .ok (.invokevirtual 279, 3) := by decide +kernel
theorem dX11_whyAct_20 : decode cX11_whyAct 20 = .ok (.iload_n 3, 1) := by decide +kernel
theorem dX11_whyAct_21 : decode cX11_whyAct 21 = .ok (.aload_n 0, 1) := by decide +kernel
theorem dX11_whyAct_22 : decode cX11_whyAct 22 = .ok (.getfield 13, 3) := by decide +kernel
theorem dX11_whyAct_25 : decode cX11_whyAct 25 = .ok (.bipush 40, 2) := by decide +kernel
theorem dX11_whyAct_27 : decode cX11_whyAct 27 = .ok (.iaload, 1) := by decide +kernel
theorem dX11_whyAct_28 : decode cX11_whyAct 28 = .ok (.invokevirtual 282, 3) := by decide +kernel
theorem dX11_whyAct_31 : decode cX11_whyAct 31 = .ok (.ireturn, 1) := by decide +kernel
theorem dX11_why_0 : decode cX11_why 0 = .ok (.aload_n 0, 1) := by decide +kernel
theorem dX11_why_1 : decode cX11_why 1 = .ok (.iconst 0, 1) := by decide +kernel
theorem dX11_why_2 : decode cX11_why 2 = .ok (.putfield 1, 3) := by decide +kernel
theorem dX11_why_5 : decode cX11_why 5 = .ok (.aload_n 0, 1) := by decide +kernel
theorem dX11_why_6 : decode cX11_why 6 = .ok (.iload_n 1, 1) := by decide +kernel
theorem dX11_why_7 : decode cX11_why 7 = .ok (.i2l, 1) := by decide +kernel
theorem dX11_why_8 : decode cX11_why 8 = .ok (.invokevirtual 285, 3) := by decide +kernel
theorem dX11_why_11 : decode cX11_why 11 = .ok (.ireturn, 1) := by decide +kernel
theorem dX11_by_0 : decode cX11_by 0 = .ok (.aload_n 0, 1) := by decide +kernel
theorem dX11_by_1 : decode cX11_by 1 = .ok (.iconst 0, 1) := by decide +kernel
theorem dX11_by_2 : decode cX11_by 2 = .ok (.putfield 1, 3) := by decide +kernel
theorem dX11_by_5 : decode cX11_by 5 = .ok (.iload_n 2, 1) := by decide +kernel
theorem dX11_by_6 : decode cX11_by 6 = .ok (.i2l, 1) := by decide +kernel
theorem dX11_by_7 : decode cX11_by 7 = .ok (.lconst 0, 1) := by decide +kernel
theorem dX11_by_8 : decode cX11_by 8 = .ok (.ldc2_w 246, 3) := by decide +kernel
theorem dX11_by_11 : decode cX11_by 11 = .ok (.invokestatic 158, 3) := by decide +kernel
theorem dX11_by_14 : decode cX11_by 14 = .ok (.ifCond .ne 6, 3) := by decide +kernel
theorem dX11_by_17 : decode cX11_by 17 = .ok (.bipush (-2), 2) := by decide +kernel
theorem dX11_by_19 : decode cX11_by 19 = .ok (.ireturn, 1) := by decide +kernel
theorem dX11_by_20 : decode cX11_by 20 = .ok (.aload_n 0, 1) := by decide +kernel
theorem dX11_by_21 : decode cX11_by 21 = .ok (.iload_n 1, 1) := by decide +kernel
theorem dX11_by_22 : decode cX11_by 22 = .ok (.i2l, 1) := by decide +kernel
theorem dX11_by_23 : decode cX11_by 23 = .ok (.invokevirtual 285, 3) := by decide +kernel
theorem dX11_by_26 : decode cX11_by 26 = .ok (.ifCond .eq 6, 3) := by decide +kernel
theorem dX11_by_29 : decode cX11_by 29 = .ok (.bipush (-5), 2) := by decide +kernel
theorem dX11_by_31 : decode cX11_by 31 = .ok (.ireturn, 1) := by decide +kernel
theorem dX11_by_32 : decode cX11_by 32 = .ok (.aload_n 0, 1) := by decide +kernel
theorem dX11_by_33 : decode cX11_by 33 = .ok (.aload_n 0, 1) := by decide +kernel
theorem dX11_by_34 : decode cX11_by 34 = .ok (.invokevirtual 279, 3) := by decide +kernel
theorem dX11_by_37 : decode cX11_by 37 = .ok (.aload_n 0, 1) := by decide +kernel
theorem dX11_by_38 : decode cX11_by 38 = .ok (.iload_n 1, 1) := by decide +kernel
theorem dX11_by_39 : decode cX11_by 39 = .ok (.i2l, 1) := by decide +kernel
theorem dX11_by_40 : decode cX11_by 40 = .ok (.invokevirtual 275, 3) := by decide +kernel
theorem dX11_by_43 : decode cX11_by 43 = .ok (.aload_n 0, 1) := by decide +kernel
theorem dX11_by_44 : decode cX11_by 44 = .ok (.getfield 13, 3) := by decide +kernel
theorem dX11_by_47 : decode cX11_by 47 = .ok (.bipush 40, 2) := by decide +kernel
theorem dX11_by_49 : decode cX11_by 49 = .ok (.iaload, 1) := by decide +kernel
theorem dX11_by_50 : decode cX11_by 50 = .ok (.invokevirtual 288, 3) := by decide +kernel
theorem dX11_by_53 : decode cX11_by 53 = .ok (.istore_n 3, 1) := by decide +kernel
theorem dX11_by_54 : decode cX11_by 54 = .ok (.iload_n 2, 1) := by decide +kernel
theorem dX11_by_55 : decode cX11_by 55 = .ok (.ifCond .ne 10, 3) := by decide +kernel
theorem dX11_by_58 : decode cX11_by 58 = .ok (.iload_n 3, 1) := by decide +kernel
theorem dX11_by_59 : decode cX11_by 59 = .ok (.invokestatic 230, 3) := by decide +kernel
theorem dX11_by_62 : decode cX11_by 62 = .ok (.goto 18, 3) := by decide +kernel
theorem dX11_by_65 : decode cX11_by 65 = .ok (.iload_n 2, 1) := by decide +kernel
theorem dX11_by_66 : decode cX11_by 66 = .ok (.iconst 1, 1) := by decide +kernel
theorem dX11_by_67 : decode cX11_by 67 = .ok (.if_icmp .ne 10, 3) := by decide +kernel
theorem dX11_by_70 : decode cX11_by 70 = .ok (.iload_n 3, 1) := by decide +kernel
theorem dX11_by_71 : decode cX11_by 71 = .ok (.invokestatic 233, 3) := by decide +kernel
theorem dX11_by_74 : decode cX11_by 74 = .ok (.goto 6, 3) := by decide +kernel
theorem dX11_by_77 : decode cX11_by 77 = .ok (.iload_n 3, 1) := by decide +kernel
theorem dX11_by_78 : decode cX11_by 78 = .ok (.iconst 5, 1) := by decide +kernel
theorem dX11_by_79 : decode cX11_by 79 = .ok (.irem, 1) := by decide +kernel
theorem dX11_by_80 : decode cX11_by 80 = .ok (.ireturn, 1) := by decide +kernel
theorem dX11_keeps_0 : decode cX11_keeps 0 = .ok (.iconst 0, 1) := by decide +kernel
theorem dX11_keeps_1 : decode cX11_keeps 1 = .ok (.istore_n 1, 1) := by decide +kernel
theorem dX11_keeps_2 : decode cX11_keeps 2 = .ok (.iload_n 1, 1) := by decide +kernel
theorem dX11_keeps_3 : decode cX11_keeps 3 = .ok (.iconst 5, 1) := by decide +kernel
theorem dX11_keeps_4 : decode cX11_keeps 4 = .ok (.if_icmp .ge 24, 3) := by decide +kernel
theorem dX11_keeps_7 : decode cX11_keeps 7 = .ok (.aload_n 0, 1) := by decide +kernel
theorem dX11_keeps_8 : decode cX11_keeps 8 = .ok (.getfield 36, 3) := by decide +kernel
theorem dX11_keeps_11 : decode cX11_keeps 11 = .ok (.iload_n 1, 1) := by decide +kernel
theorem dX11_keeps_12 : decode cX11_keeps 12 = .ok (.aload_n 0, 1) := by decide +kernel
theorem dX11_keeps_13 : decode cX11_keeps 13 = .ok (.getfield 13, 3) := by decide +kernel
theorem dX11_keeps_16 : decode cX11_keeps 16 = .ok (.bipush 37, 2) := by decide +kernel
theorem dX11_keeps_18 : decode cX11_keeps 18 = .ok (.iload_n 1, 1) := by decide +kernel
theorem dX11_keeps_19 : decode cX11_keeps 19 = .ok (.iadd, 1) := by decide +kernel
theorem dX11_keeps_20 : decode cX11_keeps 20 = .ok (.iaload, 1) := by decide +kernel
theorem dX11_keeps_21 : decode cX11_keeps 21 = .ok (.iastore, 1) := by decide +kernel
theorem dX11_keeps_22 : decode cX11_keeps 22 = .ok (.iinc 1 1, 3) := by decide +kernel
theorem dX11_keeps_25 : decode cX11_keeps 25 = .ok (.goto (-23), 3) := by decide +kernel
theorem dX11_keeps_28 : decode cX11_keeps 28 = .ok (.return_, 1) := by decide +kernel
theorem dX11_isAgain_0 : decode cX11_isAgain 0 = .ok (.iconst 0, 1) := by decide +kernel
theorem dX11_isAgain_1 : decode cX11_isAgain 1 = .ok (.istore_n 1, 1) := by decide +kernel
theorem dX11_isAgain_2 : decode cX11_isAgain 2 = .ok (.iload_n 1, 1) := by decide +kernel
theorem dX11_isAgain_3 : decode cX11_isAgain 3 = .ok (.iconst 5, 1) := by decide +kernel
theorem dX11_isAgain_4 : decode cX11_isAgain 4 = .ok (.if_icmp .ge 24, 3) := by decide +kernel
theorem dX11_isAgain_7 : decode cX11_isAgain 7 = .ok (.aload_n 0, 1) := by decide +kernel
theorem dX11_isAgain_8 : decode cX11_isAgain 8 = .ok (.getfield 13, 3) := by decide +kernel
theorem dX11_isAgain_11 : decode cX11_isAgain 11 = .ok (.bipush 37, 2) := by decide +kernel
theorem dX11_isAgain_13 : decode cX11_isAgain 13 = .ok (.iload_n 1, 1) := by decide +kernel
theorem dX11_isAgain_14 : decode cX11_isAgain 14 = .ok (.iadd, 1) := by decide +kernel
theorem dX11_isAgain_15 : decode cX11_isAgain 15 = .ok (.aload_n 0, 1) := by decide +kernel
theorem dX11_isAgain_16 : decode cX11_isAgain 16 = .ok (.getfield 36, 3) := by decide +kernel
theorem dX11_isAgain_19 : decode cX11_isAgain 19 = .ok (.iload_n 1, 1) := by decide +kernel
theorem dX11_isAgain_20 : decode cX11_isAgain 20 = .ok (.iaload, 1) := by decide +kernel
theorem dX11_isAgain_21 : decode cX11_isAgain 21 = .ok (.iastore, 1) := by decide +kernel
theorem dX11_isAgain_22 : decode cX11_isAgain 22 = .ok (.iinc 1 1, 3) := by decide +kernel
theorem dX11_isAgain_25 : decode cX11_isAgain 25 = .ok (.goto (-23), 3) := by decide +kernel
theorem dX11_isAgain_28 : decode cX11_isAgain 28 = .ok (.return_, 1) := by decide +kernel
theorem dX11_notes_0 : decode cX11_notes 0 = .ok (.aload_n 0, 1) := by decide +kernel
theorem dX11_notes_1 : decode cX11_notes 1 = .ok (.getfield 13, 3) := by decide +kernel
theorem dX11_notes_4 : decode cX11_notes 4 = .ok (.bipush 42, 2) := by decide +kernel
theorem dX11_notes_6 : decode cX11_notes 6 = .ok (.iaload, 1) := by decide +kernel
theorem dX11_notes_7 : decode cX11_notes 7 = .ok (.bipush 10, 2) := by decide +kernel
theorem dX11_notes_9 : decode cX11_notes 9 = .ok (.if_icmp .ne 46, 3) := by decide +kernel
theorem dX11_notes_12 : decode cX11_notes 12 = .ok (.iconst 0, 1) := by decide +kernel
theorem dX11_notes_13 : decode cX11_notes 13 = .ok (.istore_n 1, 1) := by decide +kernel
theorem dX11_notes_14 : decode cX11_notes 14 = .ok (.iload_n 1, 1) := by decide +kernel
theorem dX11_notes_15 : decode cX11_notes 15 = .ok (.bipush 45, 2) := by decide +kernel
theorem dX11_notes_17 : decode cX11_notes 17 = .ok (.if_icmp .ge 27, 3) := by decide +kernel
theorem dX11_notes_20 : decode cX11_notes 20 = .ok (.aload_n 0, 1) := by decide +kernel
theorem dX11_notes_21 : decode cX11_notes 21 = .ok (.getfield 13, 3) := by decide +kernel
theorem dX11_notes_24 : decode cX11_notes 24 = .ok (.bipush 43, 2) := by decide +kernel
theorem dX11_notes_26 : decode cX11_notes 26 = .ok (.iload_n 1, 1) := by decide +kernel
theorem dX11_notes_27 : decode cX11_notes 27 = .ok (.iadd, 1) := by decide +kernel
theorem dX11_notes_28 : decode cX11_notes 28 = .ok (.aload_n 0, 1) := by decide +kernel
theorem dX11_notes_29 : decode cX11_notes 29 = .ok (.getfield 13, 3) := by decide +kernel
theorem dX11_notes_32 : decode cX11_notes 32 = .ok (.bipush 48, 2) := by decide +kernel
theorem dX11_notes_34 : decode cX11_notes 34 = .ok (.iload_n 1, 1) := by decide +kernel
theorem dX11_notes_35 : decode cX11_notes 35 = .ok (.iadd, 1) := by decide +kernel
theorem dX11_notes_36 : decode cX11_notes 36 = .ok (.iaload, 1) := by decide +kernel
theorem dX11_notes_37 : decode cX11_notes 37 = .ok (.iastore, 1) := by decide +kernel
theorem dX11_notes_38 : decode cX11_notes 38 = .ok (.iinc 1 1, 3) := by decide +kernel
theorem dX11_notes_41 : decode cX11_notes 41 = .ok (.goto (-27), 3) := by decide +kernel
theorem dX11_notes_44 : decode cX11_notes 44 = .ok (.aload_n 0, 1) := by decide +kernel
theorem dX11_notes_45 : decode cX11_notes 45 = .ok (.getfield 13, 3) := by decide +kernel
theorem dX11_notes_48 : decode cX11_notes 48 = .ok (.bipush 42, 2) := by decide +kernel
theorem dX11_notes_50 : decode cX11_notes 50 = .ok (.dup2, 1) := by decide +kernel
theorem dX11_notes_51 : decode cX11_notes 51 = .ok (.iaload, 1) := by decide +kernel
theorem dX11_notes_52 : decode cX11_notes 52 = .ok (.iconst 1, 1) := by decide +kernel
theorem dX11_notes_53 : decode cX11_notes 53 = .ok (.isub, 1) := by decide +kernel
theorem dX11_notes_54 : decode cX11_notes 54 = .ok (.iastore, 1) := by decide +kernel
theorem dX11_notes_55 : decode cX11_notes 55 = .ok (.iconst 0, 1) := by decide +kernel
theorem dX11_notes_56 : decode cX11_notes 56 = .ok (.istore_n 1, 1) := by decide +kernel
theorem dX11_notes_57 : decode cX11_notes 57 = .ok (.iload_n 1, 1) := by decide +kernel
theorem dX11_notes_58 : decode cX11_notes 58 = .ok (.iconst 5, 1) := by decide +kernel
theorem dX11_notes_59 : decode cX11_notes 59 = .ok (.if_icmp .ge 34, 3) := by decide +kernel
theorem dX11_notes_62 : decode cX11_notes 62 = .ok (.aload_n 0, 1) := by decide +kernel
theorem dX11_notes_63 : decode cX11_notes 63 = .ok (.getfield 13, 3) := by decide +kernel
theorem dX11_notes_66 : decode cX11_notes 66 = .ok (.bipush 43, 2) := by decide +kernel
theorem dX11_notes_68 : decode cX11_notes 68 = .ok (.iconst 5, 1) := by decide +kernel
theorem dX11_notes_69 : decode cX11_notes 69 = .ok (.aload_n 0, 1) := by decide +kernel
theorem dX11_notes_70 : decode cX11_notes 70 = .ok (.getfield 13, 3) := by decide +kernel
theorem dX11_notes_73 : decode cX11_notes 73 = .ok (.bipush 42, 2) := by decide +kernel
theorem dX11_notes_75 : decode cX11_notes 75 = .ok (.iaload, 1) := by decide +kernel
theorem dX11_notes_76 : decode cX11_notes 76 = .ok (.imul, 1) := by decide +kernel
theorem dX11_notes_77 : decode cX11_notes 77 = .ok (.iadd, 1) := by decide +kernel
theorem dX11_notes_78 : decode cX11_notes 78 = .ok (.iload_n 1, 1) := by decide +kernel
theorem dX11_notes_79 : decode cX11_notes 79 = .ok (.iadd, 1) := by decide +kernel
theorem dX11_notes_80 : decode cX11_notes 80 = .ok (.aload_n 0, 1) := by decide +kernel
theorem dX11_notes_81 : decode cX11_notes 81 = .ok (.getfield 36, 3) := by decide +kernel
theorem dX11_notes_84 : decode cX11_notes 84 = .ok (.iload_n 1, 1) := by decide +kernel
theorem dX11_notes_85 : decode cX11_notes 85 = .ok (.iaload, 1) := by decide +kernel
theorem dX11_notes_86 : decode cX11_notes 86 = .ok (.iastore, 1) := by decide +kernel
theorem dX11_notes_87 : decode cX11_notes 87 = .ok (.iinc 1 1, 3) := by decide +kernel
theorem dX11_notes_90 : decode cX11_notes 90 = .ok (.goto (-33), 3) := by decide +kernel
theorem dX11_notes_93 : decode cX11_notes 93 = .ok (.aload_n 0, 1) := by decide +kernel
theorem dX11_notes_94 : decode cX11_notes 94 = .ok (.getfield 13, 3) := by decide +kernel
theorem dX11_notes_97 : decode cX11_notes 97 = .ok (.bipush 42, 2) := by decide +kernel
theorem dX11_notes_99 : decode cX11_notes 99 = .ok (.dup2, 1) := by decide +kernel
theorem dX11_notes_100 : decode cX11_notes 100 = .ok (.iaload, 1) := by decide +kernel
theorem dX11_notes_101 : decode cX11_notes 101 = .ok (.iconst 1, 1) := by decide +kernel
theorem dX11_notes_102 : decode cX11_notes 102 = .ok (.iadd, 1) := by decide +kernel
theorem dX11_notes_103 : decode cX11_notes 103 = .ok (.iastore, 1) := by decide +kernel
theorem dX11_notes_104 : decode cX11_notes 104 = .ok (.return_, 1) := by decide +kernel
theorem dX11_acts_0 : decode cX11_acts 0 = .ok (.aload_n 0, 1) := by decide +kernel
theorem dX11_acts_1 : decode cX11_acts 1 = .ok (.aload_n 0, 1) := by decide +kernel
theorem dX11_acts_2 : decode cX11_acts 2 = .ok (.aload_n 0, 1) := by decide +kernel
theorem dX11_acts_3 : decode cX11_acts 3 = .ok (.invokevirtual 279, 3) := by decide +kernel
theorem dX11_acts_6 : decode cX11_acts 6 = .ok (.iload_n 1, 1) := by decide +kernel
theorem dX11_acts_7 : decode cX11_acts 7 = .ok (.aload_n 0, 1) := by decide +kernel
theorem dX11_acts_8 : decode cX11_acts 8 = .ok (.getfield 13, 3) := by decide +kernel
theorem dX11_acts_11 : decode cX11_acts 11 = .ok (.bipush 40, 2) := by decide +kernel
theorem dX11_acts_13 : decode cX11_acts 13 = .ok (.iaload, 1) := by decide +kernel
theorem dX11_acts_14 : decode cX11_acts 14 = .ok (.invokevirtual 288, 3) := by decide +kernel
theorem dX11_acts_17 : decode cX11_acts 17 = .ok (.invokevirtual 291, 3) := by decide +kernel
theorem dX11_acts_20 : decode cX11_acts 20 = .ok (.aload_n 0, 1) := by decide +kernel
theorem dX11_acts_21 : decode cX11_acts 21 = .ok (.getfield 13, 3) := by decide +kernel
theorem dX11_acts_24 : decode cX11_acts 24 = .ok (.bipush 41, 2) := by decide +kernel
theorem dX11_acts_26 : decode cX11_acts 26 = .ok (.dup2, 1) := by decide +kernel
theorem dX11_acts_27 : decode cX11_acts 27 = .ok (.iaload, 1) := by decide +kernel
theorem dX11_acts_28 : decode cX11_acts 28 = .ok (.iconst 1, 1) := by decide +kernel
theorem dX11_acts_29 : decode cX11_acts 29 = .ok (.iadd, 1) := by decide +kernel
theorem dX11_acts_30 : decode cX11_acts 30 = .ok (.iastore, 1) := by decide +kernel
theorem dX11_acts_31 : decode cX11_acts 31 = .ok (.return_, 1) := by decide +kernel
theorem dX11_act_0 : decode cX11_act 0 = .ok (.aload_n 0, 1) := by decide +kernel
theorem dX11_act_1 : decode cX11_act 1 = .ok (.iconst 0, 1) := by decide +kernel
theorem dX11_act_2 : decode cX11_act 2 = .ok (.putfield 1, 3) := by decide +kernel
theorem dX11_act_5 : decode cX11_act 5 = .ok (.aload_n 0, 1) := by decide +kernel
theorem dX11_act_6 : decode cX11_act 6 = .ok (.iload_n 1, 1) := by decide +kernel
theorem dX11_act_7 : decode cX11_act 7 = .ok (.i2l, 1) := by decide +kernel
theorem dX11_act_8 : decode cX11_act 8 = .ok (.invokevirtual 285, 3) := by decide +kernel
theorem dX11_act_11 : decode cX11_act 11 = .ok (.istore_n 2, 1) := by decide +kernel
theorem dX11_act_12 : decode cX11_act 12 = .ok (.iload_n 2, 1) := by decide +kernel
theorem dX11_act_13 : decode cX11_act 13 = .ok (.ifCond .eq 8, 3) := by decide +kernel
theorem dX11_act_16 : decode cX11_act 16 = .ok (.bipush (-10), 2) := by decide +kernel
theorem dX11_act_18 : decode cX11_act 18 = .ok (.iload_n 2, 1) := by decide +kernel
theorem dX11_act_19 : decode cX11_act 19 = .ok (.isub, 1) := by decide +kernel
theorem dX11_act_20 : decode cX11_act 20 = .ok (.ireturn, 1) := by decide +kernel
theorem dX11_act_21 : decode cX11_act 21 = .ok (.aload_n 0, 1) := by decide +kernel
theorem dX11_act_22 : decode cX11_act 22 = .ok (.invokevirtual 294, 3) := by decide +kernel
theorem dX11_act_25 : decode cX11_act 25 = .ok (.aload_n 0, 1) := by decide +kernel
theorem dX11_act_26 : decode cX11_act 26 = .ok (.aload_n 0, 1) := by decide +kernel
theorem dX11_act_27 : decode cX11_act 27 = .ok (.iload_n 1, 1) := by decide +kernel
theorem dX11_act_28 : decode cX11_act 28 = .ok (.i2l, 1) := by decide +kernel
theorem dX11_act_29 : decode cX11_act 29 = .ok (.invokevirtual 275, 3) := by decide +kernel
theorem dX11_act_32 : decode cX11_act 32 = .ok (.invokevirtual 297, 3) := by decide +kernel
theorem dX11_act_35 : decode cX11_act 35 = .ok (.aload_n 0, 1) := by decide +kernel
theorem dX11_act_36 : decode cX11_act 36 = .ok (.invokevirtual 300, 3) := by decide +kernel
theorem dX11_act_39 : decode cX11_act 39 = .ok (.aload_n 0, 1) := by decide +kernel
theorem dX11_act_40 : decode cX11_act 40 = .ok (.getfield 13, 3) := by decide +kernel
theorem dX11_act_43 : decode cX11_act 43 = .ok (.bipush 37, 2) := by decide +kernel
theorem dX11_act_45 : decode cX11_act 45 = .ok (.iaload, 1) := by decide +kernel
theorem dX11_act_46 : decode cX11_act 46 = .ok (.ireturn, 1) := by decide +kernel
theorem dX11_wind_0 : decode cX11_wind 0 = .ok (.aload_n 0, 1) := by decide +kernel
theorem dX11_wind_1 : decode cX11_wind 1 = .ok (.iconst 0, 1) := by decide +kernel
theorem dX11_wind_2 : decode cX11_wind 2 = .ok (.putfield 1, 3) := by decide +kernel
theorem dX11_wind_5 : decode cX11_wind 5 = .ok (.iload_n 1, 1) := by decide +kernel
theorem dX11_wind_6 : decode cX11_wind 6 = .ok (.i2l, 1) := by decide +kernel
theorem dX11_wind_7 : decode cX11_wind 7 = .ok (.lconst 0, 1) := by decide +kernel
theorem dX11_wind_8 : decode cX11_wind 8 = .ok (.ldc2_w 303, 3) := by decide +kernel
theorem dX11_wind_11 : decode cX11_wind 11 = .ok (.invokestatic 158, 3) := by decide +kernel
theorem dX11_wind_14 : decode cX11_wind 14 = .ok (.ifCond .ne 6, 3) := by decide +kernel
theorem dX11_wind_17 : decode cX11_wind 17 = .ok (.bipush (-11), 2) := by decide +kernel
theorem dX11_wind_19 : decode cX11_wind 19 = .ok (.ireturn, 1) := by decide +kernel
theorem dX11_wind_20 : decode cX11_wind 20 = .ok (.aload_n 0, 1) := by decide +kernel
theorem dX11_wind_21 : decode cX11_wind 21 = .ok (.invokevirtual 294, 3) := by decide +kernel
theorem dX11_wind_24 : decode cX11_wind 24 = .ok (.aload_n 0, 1) := by decide +kernel
theorem dX11_wind_25 : decode cX11_wind 25 = .ok (.getfield 13, 3) := by decide +kernel
theorem dX11_wind_28 : decode cX11_wind 28 = .ok (.bipush 40, 2) := by decide +kernel
theorem dX11_wind_30 : decode cX11_wind 30 = .ok (.iload_n 1, 1) := by decide +kernel
theorem dX11_wind_31 : decode cX11_wind 31 = .ok (.iastore, 1) := by decide +kernel
theorem dX11_wind_32 : decode cX11_wind 32 = .ok (.aload_n 0, 1) := by decide +kernel
theorem dX11_wind_33 : decode cX11_wind 33 = .ok (.invokevirtual 300, 3) := by decide +kernel
theorem dX11_wind_36 : decode cX11_wind 36 = .ok (.aload_n 0, 1) := by decide +kernel
theorem dX11_wind_37 : decode cX11_wind 37 = .ok (.getfield 36, 3) := by decide +kernel
theorem dX11_wind_40 : decode cX11_wind 40 = .ok (.iconst 3, 1) := by decide +kernel
theorem dX11_wind_41 : decode cX11_wind 41 = .ok (.iaload, 1) := by decide +kernel
theorem dX11_wind_42 : decode cX11_wind 42 = .ok (.ireturn, 1) := by decide +kernel
theorem dX11_habitOf_0 : decode cX11_habitOf 0 = .ok (.aload_n 0, 1) := by decide +kernel
theorem dX11_habitOf_1 : decode cX11_habitOf 1 = .ok (.iload_n 1, 1) := by decide +kernel
theorem dX11_habitOf_2 : decode cX11_habitOf 2 = .ok (.iconst 1, 1) := by decide +kernel
theorem dX11_habitOf_3 : decode cX11_habitOf 3 = .ok (.aload_n 0, 1) := by decide +kernel
theorem dX11_habitOf_4 : decode cX11_habitOf 4 = .ok (.getfield 13, 3) := by decide +kernel
theorem dX11_habitOf_7 : decode cX11_habitOf 7 = .ok (.bipush 40, 2) := by decide +kernel
theorem dX11_habitOf_9 : decode cX11_habitOf 9 = .ok (.iaload, 1) := by decide +kernel
theorem dX11_habitOf_10 : decode cX11_habitOf 10 = .ok (.invokevirtual 282, 3) := by decide +kernel
theorem dX11_habitOf_13 : decode cX11_habitOf 13 = .ok (.ifCond .ne 5, 3) := by decide +kernel
theorem dX11_habitOf_16 : decode cX11_habitOf 16 = .ok (.iconst 1, 1) := by decide +kernel
theorem dX11_habitOf_17 : decode cX11_habitOf 17 = .ok (.ireturn, 1) := by decide +kernel
theorem dX11_habitOf_18 : decode cX11_habitOf 18 = .ok (.iload_n 1, 1) := by decide +kernel
theorem dX11_habitOf_19 : decode cX11_habitOf 19 = .ok (.invokestatic 230, 3) := by decide +kernel
theorem dX11_habitOf_22 : decode cX11_habitOf 22 = .ok (.istore_n 2, 1) := by decide +kernel
theorem dX11_habitOf_23 : decode cX11_habitOf 23 = .ok (.iconst 0, 1) := by decide +kernel
theorem dX11_habitOf_24 : decode cX11_habitOf 24 = .ok (.istore_n 3, 1) := by decide +kernel
theorem dX11_habitOf_25 : decode cX11_habitOf 25 = .ok (.iload_n 3, 1) := by decide +kernel
theorem dX11_habitOf_26 : decode cX11_habitOf 26 = .ok (.aload_n 0, 1) := by decide +kernel
theorem dX11_habitOf_27 : decode cX11_habitOf 27 = .ok (.getfield 13, 3) := by decide +kernel
theorem dX11_habitOf_30 : decode cX11_habitOf 30 = .ok (.iconst 2, 1) := by decide +kernel
theorem dX11_habitOf_31 : decode cX11_habitOf 31 = .ok (.iaload, 1) := by decide +kernel
theorem dX11_habitOf_32 : decode cX11_habitOf 32 = .ok (.if_icmp .ge 47, 3) := by decide +kernel
theorem dX11_habitOf_35 : decode cX11_habitOf 35 = .ok (.iload_n 2, 1) := by decide +kernel
theorem dX11_habitOf_36 : decode cX11_habitOf 36 = .ok (.aload_n 0, 1) := by decide +kernel
theorem dX11_habitOf_37 : decode cX11_habitOf 37 = .ok (.getfield 13, 3) := by decide +kernel
theorem dX11_habitOf_40 : decode cX11_habitOf 40 = .ok (.iconst 1, 1) := by decide +kernel
theorem dX11_habitOf_41 : decode cX11_habitOf 41 = .ok (.iaload, 1) := by decide +kernel
theorem dX11_habitOf_42 : decode cX11_habitOf 42 = .ok (.if_icmp .ge 37, 3) := by decide +kernel
theorem dX11_habitOf_45 : decode cX11_habitOf 45 = .ok (.iload_n 1, 1) := by decide +kernel
theorem dX11_habitOf_46 : decode cX11_habitOf 46 = .ok (.invokestatic 233, 3) := by decide +kernel
theorem dX11_habitOf_49 : decode cX11_habitOf 49 = .ok (.aload_n 0, 1) := by decide +kernel
theorem dX11_habitOf_50 : decode cX11_habitOf 50 = .ok (.getfield 13, 3) := by decide +kernel
theorem dX11_habitOf_53 : decode cX11_habitOf 53 = .ok (.bipush 10, 2) := by decide +kernel
theorem dX11_habitOf_55 : decode cX11_habitOf 55 = .ok (.iload_n 2, 1) := by decide +kernel
theorem dX11_habitOf_56 : decode cX11_habitOf 56 = .ok (.iadd, 1) := by decide +kernel
theorem dX11_habitOf_57 : decode cX11_habitOf 57 = .ok (.iconst 1, 1) := by decide +kernel
theorem dX11_habitOf_58 : decode cX11_habitOf 58 = .ok (.iadd, 1) := by decide +kernel
theorem dX11_habitOf_59 : decode cX11_habitOf 59 = .ok (.iaload, 1) := by decide +kernel
theorem dX11_habitOf_60 : decode cX11_habitOf 60 = .ok (.iand, 1) := by decide +kernel
theorem dX11_habitOf_61 : decode cX11_habitOf 61 = .ok (.i2l, 1) := by decide +kernel
theorem dX11_habitOf_62 : decode cX11_habitOf 62 = .ok (.iload_n 3, 1) := by decide +kernel
theorem dX11_habitOf_63 : decode cX11_habitOf 63 = .ok (.invokestatic 265, 3) := by decide +kernel
theorem dX11_habitOf_66 : decode cX11_habitOf 66 = .ok (.ifCond .eq 7, 3) := by decide +kernel
theorem dX11_habitOf_69 : decode cX11_habitOf 69 = .ok (.iconst 3, 1) := by decide +kernel
theorem dX11_habitOf_70 : decode cX11_habitOf 70 = .ok (.iload_n 3, 1) := by decide +kernel
theorem dX11_habitOf_71 : decode cX11_habitOf 71 = .ok (.iadd, 1) := by decide +kernel
theorem dX11_habitOf_72 : decode cX11_habitOf 72 = .ok (.ireturn, 1) := by decide +kernel
theorem dX11_habitOf_73 : decode cX11_habitOf 73 = .ok (.iinc 3 1, 3) := by decide +kernel
theorem dX11_habitOf_76 : decode cX11_habitOf 76 = .ok (.goto (-51), 3) := by decide +kernel
theorem dX11_habitOf_79 : decode cX11_habitOf 79 = .ok (.iconst 0, 1) := by decide +kernel
theorem dX11_habitOf_80 : decode cX11_habitOf 80 = .ok (.ireturn, 1) := by decide +kernel
theorem dX11_habit_0 : decode cX11_habit 0 = .ok (.aload_n 0, 1) := by decide +kernel
theorem dX11_habit_1 : decode cX11_habit 1 = .ok (.iconst 0, 1) := by decide +kernel
theorem dX11_habit_2 : decode cX11_habit 2 = .ok (.putfield 1, 3) := by decide +kernel
theorem dX11_habit_5 : decode cX11_habit 5 = .ok (.iload_n 1, 1) := by decide +kernel
theorem dX11_habit_6 : decode cX11_habit 6 = .ok (.i2l, 1) := by decide +kernel
theorem dX11_habit_7 : decode cX11_habit 7 = .ok (.lconst 1, 1) := by decide +kernel
theorem dX11_habit_8 : decode cX11_habit 8 = .ok (.ldc2_w 305, 3) := by decide +kernel
theorem dX11_habit_11 : decode cX11_habit 11 = .ok (.invokestatic 158, 3) := by decide +kernel
theorem dX11_habit_14 : decode cX11_habit 14 = .ok (.ifCond .ne 6, 3) := by decide +kernel
theorem dX11_habit_17 : decode cX11_habit 17 = .ok (.bipush (-3), 2) := by decide +kernel
theorem dX11_habit_19 : decode cX11_habit 19 = .ok (.ireturn, 1) := by decide +kernel
theorem dX11_habit_20 : decode cX11_habit 20 = .ok (.aload_n 0, 1) := by decide +kernel
theorem dX11_habit_21 : decode cX11_habit 21 = .ok (.invokevirtual 294, 3) := by decide +kernel
theorem dX11_habit_24 : decode cX11_habit 24 = .ok (.iconst 0, 1) := by decide +kernel
theorem dX11_habit_25 : decode cX11_habit 25 = .ok (.istore_n 2, 1) := by decide +kernel
theorem dX11_habit_26 : decode cX11_habit 26 = .ok (.iload_n 2, 1) := by decide +kernel
theorem dX11_habit_27 : decode cX11_habit 27 = .ok (.iload_n 1, 1) := by decide +kernel
theorem dX11_habit_28 : decode cX11_habit 28 = .ok (.if_icmp .ge 21, 3) := by decide +kernel
theorem dX11_habit_31 : decode cX11_habit 31 = .ok (.aload_n 0, 1) := by decide +kernel
theorem dX11_habit_32 : decode cX11_habit 32 = .ok (.aload_n 0, 1) := by decide +kernel
theorem dX11_habit_33 : decode cX11_habit 33 = .ok (.aload_n 0, 1) := by decide +kernel
theorem dX11_habit_34 : decode cX11_habit 34 = .ok (.invokevirtual 279, 3) := by decide +kernel
theorem dX11_habit_37 : decode cX11_habit 37 = .ok (.invokevirtual 307, 3) := by decide +kernel
theorem dX11_habit_40 : decode cX11_habit 40 = .ok (.invokevirtual 297, 3) := by decide +kernel
theorem dX11_habit_43 : decode cX11_habit 43 = .ok (.iinc 2 1, 3) := by decide +kernel
theorem dX11_habit_46 : decode cX11_habit 46 = .ok (.goto (-20), 3) := by decide +kernel
theorem dX11_habit_49 : decode cX11_habit 49 = .ok (.aload_n 0, 1) := by decide +kernel
theorem dX11_habit_50 : decode cX11_habit 50 = .ok (.invokevirtual 300, 3) := by decide +kernel
theorem dX11_habit_53 : decode cX11_habit 53 = .ok (.aload_n 0, 1) := by decide +kernel
theorem dX11_habit_54 : decode cX11_habit 54 = .ok (.getfield 13, 3) := by decide +kernel
theorem dX11_habit_57 : decode cX11_habit 57 = .ok (.bipush 37, 2) := by decide +kernel
theorem dX11_habit_59 : decode cX11_habit 59 = .ok (.iaload, 1) := by decide +kernel
theorem dX11_habit_60 : decode cX11_habit 60 = .ok (.ireturn, 1) := by decide +kernel
theorem dX11_undo_0 : decode cX11_undo 0 = .ok (.aload_n 0, 1) := by decide +kernel
theorem dX11_undo_1 : decode cX11_undo 1 = .ok (.iconst 0, 1) := by decide +kernel
theorem dX11_undo_2 : decode cX11_undo 2 = .ok (.putfield 1, 3) := by decide +kernel
theorem dX11_undo_5 : decode cX11_undo 5 = .ok (.iload_n 1, 1) := by decide +kernel
theorem dX11_undo_6 : decode cX11_undo 6 = .ok (.i2l, 1) := by decide +kernel
theorem dX11_undo_7 : decode cX11_undo 7 = .ok (.lconst 1, 1) := by decide +kernel
theorem dX11_undo_8 : decode cX11_undo 8 = .ok (.ldc2_w 248, 3) := by decide +kernel
theorem dX11_undo_11 : decode cX11_undo 11 = .ok (.invokestatic 158, 3) := by decide +kernel
theorem dX11_undo_14 : decode cX11_undo 14 = .ok (.ifCond .eq 14, 3) := by decide +kernel
theorem dX11_undo_17 : decode cX11_undo 17 = .ok (.iload_n 1, 1) := by decide +kernel
theorem dX11_undo_18 : decode cX11_undo 18 = .ok (.aload_n 0, 1) := by decide +kernel
theorem dX11_undo_19 : decode cX11_undo 19 = .ok (.getfield 13, 3) := by decide +kernel
theorem dX11_undo_22 : decode cX11_undo 22 = .ok (.bipush 42, 2) := by decide +kernel
theorem dX11_undo_24 : decode cX11_undo 24 = .ok (.iaload, 1) := by decide +kernel
theorem dX11_undo_25 : decode cX11_undo 25 = .ok (.if_icmp .le 6, 3) := by decide +kernel
theorem dX11_undo_28 : decode cX11_undo 28 = .ok (.bipush (-3), 2) := by decide +kernel
theorem dX11_undo_30 : decode cX11_undo 30 = .ok (.ireturn, 1) := by decide +kernel
theorem dX11_undo_31 : decode cX11_undo 31 = .ok (.aload_n 0, 1) := by decide +kernel
theorem dX11_undo_32 : decode cX11_undo 32 = .ok (.getfield 13, 3) := by decide +kernel
theorem dX11_undo_35 : decode cX11_undo 35 = .ok (.bipush 42, 2) := by decide +kernel
theorem dX11_undo_37 : decode cX11_undo 37 = .ok (.dup2, 1) := by decide +kernel
theorem dX11_undo_38 : decode cX11_undo 38 = .ok (.iaload, 1) := by decide +kernel
theorem dX11_undo_39 : decode cX11_undo 39 = .ok (.iload_n 1, 1) := by decide +kernel
theorem dX11_undo_40 : decode cX11_undo 40 = .ok (.isub, 1) := by decide +kernel
theorem dX11_undo_41 : decode cX11_undo 41 = .ok (.iastore, 1) := by decide +kernel
theorem dX11_undo_42 : decode cX11_undo 42 = .ok (.iconst 0, 1) := by decide +kernel
theorem dX11_undo_43 : decode cX11_undo 43 = .ok (.istore_n 2, 1) := by decide +kernel
theorem dX11_undo_44 : decode cX11_undo 44 = .ok (.iload_n 2, 1) := by decide +kernel
theorem dX11_undo_45 : decode cX11_undo 45 = .ok (.iconst 5, 1) := by decide +kernel
theorem dX11_undo_46 : decode cX11_undo 46 = .ok (.if_icmp .ge 37, 3) := by decide +kernel
theorem dX11_undo_49 : decode cX11_undo 49 = .ok (.aload_n 0, 1) := by decide +kernel
theorem dX11_undo_50 : decode cX11_undo 50 = .ok (.getfield 13, 3) := by decide +kernel
theorem dX11_undo_53 : decode cX11_undo 53 = .ok (.bipush 37, 2) := by decide +kernel
theorem dX11_undo_55 : decode cX11_undo 55 = .ok (.iload_n 2, 1) := by decide +kernel
theorem dX11_undo_56 : decode cX11_undo 56 = .ok (.iadd, 1) := by decide +kernel
theorem dX11_undo_57 : decode cX11_undo 57 = .ok (.aload_n 0, 1) := by decide +kernel
theorem dX11_undo_58 : decode cX11_undo 58 = .ok (.getfield 13, 3) := by decide +kernel
theorem dX11_undo_61 : decode cX11_undo 61 = .ok (.bipush 43, 2) := by decide +kernel
theorem dX11_undo_63 : decode cX11_undo 63 = .ok (.iconst 5, 1) := by decide +kernel
theorem dX11_undo_64 : decode cX11_undo 64 = .ok (.aload_n 0, 1) := by decide +kernel
theorem dX11_undo_65 : decode cX11_undo 65 = .ok (.getfield 13, 3) := by decide +kernel
theorem dX11_undo_68 : decode cX11_undo 68 = .ok (.bipush 42, 2) := by decide +kernel
theorem dX11_undo_70 : decode cX11_undo 70 = .ok (.iaload, 1) := by decide +kernel
theorem dX11_undo_71 : decode cX11_undo 71 = .ok (.imul, 1) := by decide +kernel
theorem dX11_undo_72 : decode cX11_undo 72 = .ok (.iadd, 1) := by decide +kernel
theorem dX11_undo_73 : decode cX11_undo 73 = .ok (.iload_n 2, 1) := by decide +kernel
theorem dX11_undo_74 : decode cX11_undo 74 = .ok (.iadd, 1) := by decide +kernel
theorem dX11_undo_75 : decode cX11_undo 75 = .ok (.iaload, 1) := by decide +kernel
theorem dX11_undo_76 : decode cX11_undo 76 = .ok (.iastore, 1) := by decide +kernel
theorem dX11_undo_77 : decode cX11_undo 77 = .ok (.iinc 2 1, 3) := by decide +kernel
theorem dX11_undo_80 : decode cX11_undo 80 = .ok (.goto (-36), 3) := by decide +kernel
theorem dX11_undo_83 : decode cX11_undo 83 = .ok (.aload_n 0, 1) := by decide +kernel
theorem dX11_undo_84 : decode cX11_undo 84 = .ok (.getfield 13, 3) := by decide +kernel
theorem dX11_undo_87 : decode cX11_undo 87 = .ok (.bipush 42, 2) := by decide +kernel
theorem dX11_undo_89 : decode cX11_undo 89 = .ok (.iaload, 1) := by decide +kernel
theorem dX11_undo_90 : decode cX11_undo 90 = .ok (.ireturn, 1) := by decide +kernel
theorem dX11_whyNot_0 : decode cX11_whyNot 0 = .ok (.lload_n 1, 1) := by decide +kernel
theorem dX11_whyNot_1 : decode cX11_whyNot 1 = .ok (.ldc2_w 310, 3) := by decide +kernel
theorem dX11_whyNot_4 : decode cX11_whyNot 4 = .ok (.ldc2_w 312, 3) := by decide +kernel
theorem dX11_whyNot_7 : decode cX11_whyNot 7 = .ok (.invokestatic 158, 3) := by decide +kernel
theorem dX11_whyNot_10 : decode cX11_whyNot 10 = .ok (.ifCond .eq 7, 3) := by decide +kernel
theorem dX11_whyNot_13 : decode cX11_whyNot 13 = .ok (.iconst 0, 1) := by decide +kernel
theorem dX11_whyNot_14 : decode cX11_whyNot 14 = .ok (.goto 8, 3) := by decide +kernel
theorem dX11_whyNot_17 : decode cX11_whyNot 17 = .ok (.aload_n 0, 1) := by decide +kernel
theorem dX11_whyNot_18 : decode cX11_whyNot 18 = .ok (.lload_n 1, 1) := by decide +kernel
theorem dX11_whyNot_19 : decode cX11_whyNot 19 = .ok (.invokevirtual 285, 3) := by decide +kernel
theorem dX11_whyNot_22 : decode cX11_whyNot 22 = .ok (.ireturn, 1) := by decide +kernel
theorem dX11_does_0 : decode cX11_does 0 = .ok (.iload_n 1, 1) := by decide +kernel
theorem dX11_does_1 : decode cX11_does 1 = .ok (.bipush 30, 2) := by decide +kernel
theorem dX11_does_3 : decode cX11_does 3 = .ok (.if_icmp .lt 17, 3) := by decide +kernel
theorem dX11_does_6 : decode cX11_does 6 = .ok (.aload_n 0, 1) := by decide +kernel
theorem dX11_does_7 : decode cX11_does 7 = .ok (.getfield 13, 3) := by decide +kernel
theorem dX11_does_10 : decode cX11_does 10 = .ok (.bipush 40, 2) := by decide +kernel
theorem dX11_does_12 : decode cX11_does 12 = .ok (.iload_n 1, 1) := by decide +kernel
theorem dX11_does_13 : decode cX11_does 13 = .ok (.bipush 30, 2) := by decide +kernel
theorem dX11_does_15 : decode cX11_does 15 = .ok (.isub, 1) := by decide +kernel
theorem dX11_does_16 : decode cX11_does 16 = .ok (.iastore, 1) := by decide +kernel
theorem dX11_does_17 : decode cX11_does 17 = .ok (.goto 13, 3) := by decide +kernel
theorem dX11_does_20 : decode cX11_does 20 = .ok (.aload_n 0, 1) := by decide +kernel
theorem dX11_does_21 : decode cX11_does 21 = .ok (.aload_n 0, 1) := by decide +kernel
theorem dX11_does_22 : decode cX11_does 22 = .ok (.iload_n 1, 1) := by decide +kernel
theorem dX11_does_23 : decode cX11_does 23 = .ok (.i2l, 1) := by decide +kernel
theorem dX11_does_24 : decode cX11_does 24 = .ok (.invokevirtual 275, 3) := by decide +kernel
theorem dX11_does_27 : decode cX11_does 27 = .ok (.invokevirtual 297, 3) := by decide +kernel
theorem dX11_does_30 : decode cX11_does 30 = .ok (.return_, 1) := by decide +kernel
theorem dX11_tells_0 : decode cX11_tells 0 = .ok (.aload_n 0, 1) := by decide +kernel
theorem dX11_tells_1 : decode cX11_tells 1 = .ok (.iconst 0, 1) := by decide +kernel
theorem dX11_tells_2 : decode cX11_tells 2 = .ok (.putfield 314, 3) := by decide +kernel
theorem dX11_tells_5 : decode cX11_tells 5 = .ok (.iconst 0, 1) := by decide +kernel
theorem dX11_tells_6 : decode cX11_tells 6 = .ok (.istore_n 2, 1) := by decide +kernel
theorem dX11_tells_7 : decode cX11_tells 7 = .ok (.iload_n 2, 1) := by decide +kernel
theorem dX11_tells_8 : decode cX11_tells 8 = .ok (.aload_n 0, 1) := by decide +kernel
theorem dX11_tells_9 : decode cX11_tells 9 = .ok (.getfield 86, 3) := by decide +kernel
theorem dX11_tells_12 : decode cX11_tells 12 = .ok (.iload_n 1, 1) := by decide +kernel
theorem dX11_tells_13 : decode cX11_tells 13 = .ok (.iaload, 1) := by decide +kernel
theorem dX11_tells_14 : decode cX11_tells 14 = .ok (.if_icmp .ge 53, 3) := by decide +kernel
theorem dX11_tells_17 : decode cX11_tells 17 = .ok (.aload_n 0, 1) := by decide +kernel
theorem dX11_tells_18 : decode cX11_tells 18 = .ok (.aload_n 0, 1) := by decide +kernel
theorem dX11_tells_19 : decode cX11_tells 19 = .ok (.aload_n 0, 1) := by decide +kernel
theorem dX11_tells_20 : decode cX11_tells 20 = .ok (.getfield 89, 3) := by decide +kernel
theorem dX11_tells_23 : decode cX11_tells 23 = .ok (.bipush 40, 2) := by decide +kernel
theorem dX11_tells_25 : decode cX11_tells 25 = .ok (.iload_n 1, 1) := by decide +kernel
theorem dX11_tells_26 : decode cX11_tells 26 = .ok (.imul, 1) := by decide +kernel
theorem dX11_tells_27 : decode cX11_tells 27 = .ok (.iload_n 2, 1) := by decide +kernel
theorem dX11_tells_28 : decode cX11_tells 28 = .ok (.iadd, 1) := by decide +kernel
theorem dX11_tells_29 : decode cX11_tells 29 = .ok (.laload, 1) := by decide +kernel
theorem dX11_tells_30 : decode cX11_tells 30 = .ok (.invokevirtual 317, 3) := by decide +kernel
theorem dX11_tells_33 : decode cX11_tells 33 = .ok (.putfield 314, 3) := by decide +kernel
theorem dX11_tells_36 : decode cX11_tells 36 = .ok (.aload_n 0, 1) := by decide +kernel
theorem dX11_tells_37 : decode cX11_tells 37 = .ok (.getfield 314, 3) := by decide +kernel
theorem dX11_tells_40 : decode cX11_tells 40 = .ok (.ifCond .eq 5, 3) := by decide +kernel
theorem dX11_tells_43 : decode cX11_tells 43 = .ok (.iload_n 2, 1) := by decide +kernel
theorem dX11_tells_44 : decode cX11_tells 44 = .ok (.ireturn, 1) := by decide +kernel
theorem dX11_tells_45 : decode cX11_tells 45 = .ok (.aload_n 0, 1) := by decide +kernel
theorem dX11_tells_46 : decode cX11_tells 46 = .ok (.aload_n 0, 1) := by decide +kernel
theorem dX11_tells_47 : decode cX11_tells 47 = .ok (.getfield 89, 3) := by decide +kernel
theorem dX11_tells_50 : decode cX11_tells 50 = .ok (.bipush 40, 2) := by decide +kernel
theorem dX11_tells_52 : decode cX11_tells 52 = .ok (.iload_n 1, 1) := by decide +kernel
theorem dX11_tells_53 : decode cX11_tells 53 = .ok (.imul, 1) := by decide +kernel
theorem dX11_tells_54 : decode cX11_tells 54 = .ok (.iload_n 2, 1) := by decide +kernel
theorem dX11_tells_55 : decode cX11_tells 55 = .ok (.iadd, 1) := by decide +kernel
theorem dX11_tells_56 : decode cX11_tells 56 = .ok (.laload, 1) := by decide +kernel
theorem dX11_tells_57 : decode cX11_tells 57 = .ok (.l2i, 1) := by decide +kernel
theorem dX11_tells_58 : decode cX11_tells 58 = .ok (.invokevirtual 320, 3) := by decide +kernel
theorem dX11_tells_61 : decode cX11_tells 61 = .ok (.iinc 2 1, 3) := by decide +kernel
theorem dX11_tells_64 : decode cX11_tells 64 = .ok (.goto (-57), 3) := by decide +kernel
theorem dX11_tells_67 : decode cX11_tells 67 = .ok (.aload_n 0, 1) := by decide +kernel
theorem dX11_tells_68 : decode cX11_tells 68 = .ok (.getfield 86, 3) := by decide +kernel
theorem dX11_tells_71 : decode cX11_tells 71 = .ok (.iload_n 1, 1) := by decide +kernel
theorem dX11_tells_72 : decode cX11_tells 72 = .ok (.iaload, 1) := by decide +kernel
theorem dX11_tells_73 : decode cX11_tells 73 = .ok (.ireturn, 1) := by decide +kernel
theorem dX11_noTray_0 : decode cX11_noTray 0 = .ok (.iload_n 1, 1) := by decide +kernel
theorem dX11_noTray_1 : decode cX11_noTray 1 = .ok (.i2l, 1) := by decide +kernel
theorem dX11_noTray_2 : decode cX11_noTray 2 = .ok (.lconst 0, 1) := by decide +kernel
theorem dX11_noTray_3 : decode cX11_noTray 3 = .ok (.ldc2_w 323, 3) := by decide +kernel
theorem dX11_noTray_6 : decode cX11_noTray 6 = .ok (.invokestatic 158, 3) := by decide +kernel
theorem dX11_noTray_9 : decode cX11_noTray 9 = .ok (.ifCond .ne 8, 3) := by decide +kernel
theorem dX11_noTray_12 : decode cX11_noTray 12 = .ok (.bipush (-2), 2) := by decide +kernel
theorem dX11_noTray_14 : decode cX11_noTray 14 = .ok (.goto 19, 3) := by decide +kernel
theorem dX11_noTray_17 : decode cX11_noTray 17 = .ok (.aload_n 0, 1) := by decide +kernel
theorem dX11_noTray_18 : decode cX11_noTray 18 = .ok (.getfield 83, 3) := by decide +kernel
theorem dX11_noTray_21 : decode cX11_noTray 21 = .ok (.iload_n 1, 1) := by decide +kernel
theorem dX11_noTray_22 : decode cX11_noTray 22 = .ok (.iaload, 1) := by decide +kernel
theorem dX11_noTray_23 : decode cX11_noTray 23 = .ok (.iconst (-1), 1) := by decide +kernel
theorem dX11_noTray_24 : decode cX11_noTray 24 = .ok (.if_icmp .ne 8, 3) := by decide +kernel
theorem dX11_noTray_27 : decode cX11_noTray 27 = .ok (.bipush (-6), 2) := by decide +kernel
theorem dX11_noTray_29 : decode cX11_noTray 29 = .ok (.goto 4, 3) := by decide +kernel
theorem dX11_noTray_32 : decode cX11_noTray 32 = .ok (.iconst 0, 1) := by decide +kernel
theorem dX11_noTray_33 : decode cX11_noTray 33 = .ok (.ireturn, 1) := by decide +kernel
theorem dX11_judge_0 : decode cX11_judge 0 = .ok (.aload_n 0, 1) := by decide +kernel
theorem dX11_judge_1 : decode cX11_judge 1 = .ok (.iconst 0, 1) := by decide +kernel
theorem dX11_judge_2 : decode cX11_judge 2 = .ok (.putfield 1, 3) := by decide +kernel
theorem dX11_judge_5 : decode cX11_judge 5 = .ok (.iload_n 2, 1) := by decide +kernel
theorem dX11_judge_6 : decode cX11_judge 6 = .ok (.i2l, 1) := by decide +kernel
theorem dX11_judge_7 : decode cX11_judge 7 = .ok (.lconst 0, 1) := by decide +kernel
theorem dX11_judge_8 : decode cX11_judge 8 = .ok (.ldc2_w 323, 3) := by decide +kernel
theorem dX11_judge_11 : decode cX11_judge 11 = .ok (.invokestatic 158, 3) := by decide +kernel
theorem dX11_judge_14 : decode cX11_judge 14 = .ok (.ifCond .ne 6, 3) := by decide +kernel
theorem dX11_judge_17 : decode cX11_judge 17 = .ok (.bipush (-2), 2) := by decide +kernel
theorem dX11_judge_19 : decode cX11_judge 19 = .ok (.ireturn, 1) := by decide +kernel
theorem dX11_judge_20 : decode cX11_judge 20 = .ok (.aload_n 0, 1) := by decide +kernel
theorem dX11_judge_21 : decode cX11_judge 21 = .ok (.iload_n 1, 1) := by decide +kernel
theorem dX11_judge_22 : decode cX11_judge 22 = .ok (.invokevirtual 325, 3) := by decide +kernel
theorem dX11_judge_25 : decode cX11_judge 25 = .ok (.istore_n 3, 1) := by decide +kernel
theorem dX11_judge_26 : decode cX11_judge 26 = .ok (.iload_n 3, 1) := by decide +kernel
theorem dX11_judge_27 : decode cX11_judge 27 = .ok (.ifCond .eq 5, 3) := by decide +kernel
theorem dX11_judge_30 : decode cX11_judge 30 = .ok (.iload_n 3, 1) := by decide +kernel
theorem dX11_judge_31 : decode cX11_judge 31 = .ok (.ireturn, 1) := by decide +kernel
theorem dX11_judge_32 : decode cX11_judge 32 = .ok (.aload_n 0, 1) := by decide +kernel
theorem dX11_judge_33 : decode cX11_judge 33 = .ok (.invokevirtual 294, 3) := by decide +kernel
theorem dX11_judge_36 : decode cX11_judge 36 = .ok (.aload_n 0, 1) := by decide +kernel
theorem dX11_judge_37 : decode cX11_judge 37 = .ok (.iload_n 1, 1) := by decide +kernel
theorem dX11_judge_38 : decode cX11_judge 38 = .ok (.invokevirtual 328, 3) := by decide +kernel
theorem dX11_judge_41 : decode cX11_judge 41 = .ok (.istore 4, 2) := by decide +kernel
theorem dX11_judge_43 : decode cX11_judge 43 = .ok (.aload_n 0, 1) := by decide +kernel
theorem dX11_judge_44 : decode cX11_judge 44 = .ok (.invokevirtual 279, 3) := by decide +kernel
theorem dX11_judge_47 : decode cX11_judge 47 = .ok (.istore 5, 2) := by decide +kernel
theorem dX11_judge_49 : decode cX11_judge 49 = .ok (.aload_n 0, 1) := by decide +kernel
theorem dX11_judge_50 : decode cX11_judge 50 = .ok (.invokevirtual 331, 3) := by decide +kernel
theorem dX11_judge_53 : decode cX11_judge 53 = .ok (.iload_n 2, 1) := by decide +kernel
theorem dX11_judge_54 : decode cX11_judge 54 = .ok (.ifCond .ne 19, 3) := by decide +kernel
theorem dX11_judge_57 : decode cX11_judge 57 = .ok (.aload_n 0, 1) := by decide +kernel
theorem dX11_judge_58 : decode cX11_judge 58 = .ok (.getfield 314, 3) := by decide +kernel
theorem dX11_judge_61 : decode cX11_judge 61 = .ok (.ifCond .ne 7, 3) := by decide +kernel
theorem dX11_judge_64 : decode cX11_judge 64 = .ok (.iconst (-1), 1) := by decide +kernel
theorem dX11_judge_65 : decode cX11_judge 65 = .ok (.goto 38, 3) := by decide +kernel
theorem dX11_judge_68 : decode cX11_judge 68 = .ok (.iload 4, 2) := by decide +kernel
theorem dX11_judge_70 : decode cX11_judge 70 = .ok (.goto 33, 3) := by decide +kernel
theorem dX11_judge_73 : decode cX11_judge 73 = .ok (.iload_n 2, 1) := by decide +kernel
theorem dX11_judge_74 : decode cX11_judge 74 = .ok (.iconst 1, 1) := by decide +kernel
theorem dX11_judge_75 : decode cX11_judge 75 = .ok (.if_icmp .ne 10, 3) := by decide +kernel
theorem dX11_judge_78 : decode cX11_judge 78 = .ok (.aload_n 0, 1) := by decide +kernel
theorem dX11_judge_79 : decode cX11_judge 79 = .ok (.getfield 314, 3) := by decide +kernel
theorem dX11_judge_82 : decode cX11_judge 82 = .ok (.goto 21, 3) := by decide +kernel
theorem dX11_judge_85 : decode cX11_judge 85 = .ok (.iload_n 2, 1) := by decide +kernel
theorem dX11_judge_86 : decode cX11_judge 86 = .ok (.iconst 2, 1) := by decide +kernel
theorem dX11_judge_87 : decode cX11_judge 87 = .ok (.if_icmp .ne 11, 3) := by decide +kernel
theorem dX11_judge_90 : decode cX11_judge 90 = .ok (.iload 5, 2) := by decide +kernel
theorem dX11_judge_92 : decode cX11_judge 92 = .ok (.invokestatic 230, 3) := by decide +kernel
theorem dX11_judge_95 : decode cX11_judge 95 = .ok (.goto 8, 3) := by decide +kernel
theorem dX11_judge_98 : decode cX11_judge 98 = .ok (.iload 5, 2) := by decide +kernel
theorem dX11_judge_100 : decode cX11_judge 100 = .ok (.invokestatic 233, 3) := by decide +kernel
theorem dX11_judge_103 : decode cX11_judge 103 = .ok (.ireturn, 1) := by decide +kernel
theorem dX11_perform_0 : decode cX11_perform 0 = .ok (.aload_n 0, 1) := by decide +kernel
theorem dX11_perform_1 : decode cX11_perform 1 = .ok (.iconst 0, 1) := by decide +kernel
theorem dX11_perform_2 : decode cX11_perform 2 = .ok (.putfield 1, 3) := by decide +kernel
theorem dX11_perform_5 : decode cX11_perform 5 = .ok (.aload_n 0, 1) := by decide +kernel
theorem dX11_perform_6 : decode cX11_perform 6 = .ok (.iload_n 1, 1) := by decide +kernel
theorem dX11_perform_7 : decode cX11_perform 7 = .ok (.invokevirtual 325, 3) := by decide +kernel
theorem dX11_perform_10 : decode cX11_perform 10 = .ok (.istore_n 2, 1) := by decide +kernel
theorem dX11_perform_11 : decode cX11_perform 11 = .ok (.iload_n 2, 1) := by decide +kernel
theorem dX11_perform_12 : decode cX11_perform 12 = .ok (.ifCond .eq 5, 3) := by decide +kernel
theorem dX11_perform_15 : decode cX11_perform 15 = .ok (.iload_n 2, 1) := by decide +kernel
theorem dX11_perform_16 : decode cX11_perform 16 = .ok (.ireturn, 1) := by decide +kernel
theorem dX11_perform_17 : decode cX11_perform 17 = .ok (.aload_n 0, 1) := by decide +kernel
theorem dX11_perform_18 : decode cX11_perform 18 = .ok (.invokevirtual 294, 3) := by decide +kernel
theorem dX11_perform_21 : decode cX11_perform 21 = .ok (.aload_n 0, 1) := by decide +kernel
theorem dX11_perform_22 : decode cX11_perform 22 = .ok (.iload_n 1, 1) := by decide +kernel
theorem dX11_perform_23 : decode cX11_perform 23 = .ok (.invokevirtual 328, 3) := by decide +kernel
theorem dX11_perform_26 : decode cX11_perform 26 = .ok (.istore_n 3, 1) := by decide +kernel
theorem dX11_perform_27 : decode cX11_perform 27 = .ok (.iload_n 3, 1) := by decide +kernel
theorem dX11_perform_28 : decode cX11_perform 28 = .ok (.ifCond .le 7, 3) := by decide +kernel
theorem dX11_perform_31 : decode cX11_perform 31 = .ok (.aload_n 0, 1) := by decide +kernel
theorem dX11_perform_32 : decode cX11_perform 32 = .ok (.invokevirtual 300, 3) := by decide +kernel
theorem dX11_perform_35 : decode cX11_perform 35 = .ok (.iload_n 3, 1) := by decide +kernel
theorem dX11_perform_36 : decode cX11_perform 36 = .ok (.ireturn, 1) := by decide +kernel
theorem dX11_draw_0 : decode cX11_draw 0 = .ok (.aload_n 0, 1) := by decide +kernel
theorem dX11_draw_1 : decode cX11_draw 1 = .ok (.ldc_w 334, 3) := by decide +kernel
theorem dX11_draw_4 : decode cX11_draw 4 = .ok (.aload_n 0, 1) := by decide +kernel
theorem dX11_draw_5 : decode cX11_draw 5 = .ok (.getfield 335, 3) := by decide +kernel
theorem dX11_draw_8 : decode cX11_draw 8 = .ok (.imul, 1) := by decide +kernel
theorem dX11_draw_9 : decode cX11_draw 9 = .ok (.sipush 12345, 3) := by decide +kernel
theorem dX11_draw_12 : decode cX11_draw 12 = .ok (.iadd, 1) := by decide +kernel
theorem dX11_draw_13 : decode cX11_draw 13 = .ok (.putfield 335, 3) := by decide +kernel
theorem dX11_draw_16 : decode cX11_draw 16 = .ok (.aload_n 0, 1) := by decide +kernel
theorem dX11_draw_17 : decode cX11_draw 17 = .ok (.getfield 335, 3) := by decide +kernel
theorem dX11_draw_20 : decode cX11_draw 20 = .ok (.bipush 16, 2) := by decide +kernel
theorem dX11_draw_22 : decode cX11_draw 22 = .ok (.iushr, 1) := by decide +kernel
theorem dX11_draw_23 : decode cX11_draw 23 = .ok (.iload_n 1, 1) := by decide +kernel
theorem dX11_draw_24 : decode cX11_draw 24 = .ok (.irem, 1) := by decide +kernel
theorem dX11_draw_25 : decode cX11_draw 25 = .ok (.ireturn, 1) := by decide +kernel
theorem dX11_drawn_0 : decode cX11_drawn 0 = .ok (.aload_n 0, 1) := by decide +kernel
theorem dX11_drawn_1 : decode cX11_drawn 1 = .ok (.bipush 8, 2) := by decide +kernel
theorem dX11_drawn_3 : decode cX11_drawn 3 = .ok (.invokevirtual 338, 3) := by decide +kernel
theorem dX11_drawn_6 : decode cX11_drawn 6 = .ok (.istore_n 1, 1) := by decide +kernel
theorem dX11_drawn_7 : decode cX11_drawn 7 = .ok (.iload_n 1, 1) := by decide +kernel
theorem dX11_drawn_8 : decode cX11_drawn 8 = .ok (.ifCond .ne 7, 3) := by decide +kernel
theorem dX11_drawn_11 : decode cX11_drawn 11 = .ok (.iconst 0, 1) := by decide +kernel
theorem dX11_drawn_12 : decode cX11_drawn 12 = .ok (.goto 47, 3) := by decide +kernel
theorem dX11_drawn_15 : decode cX11_drawn 15 = .ok (.iload_n 1, 1) := by decide +kernel
theorem dX11_drawn_16 : decode cX11_drawn 16 = .ok (.iconst 4, 1) := by decide +kernel
theorem dX11_drawn_17 : decode cX11_drawn 17 = .ok (.if_icmp .ge 7, 3) := by decide +kernel
theorem dX11_drawn_20 : decode cX11_drawn 20 = .ok (.iconst 1, 1) := by decide +kernel
theorem dX11_drawn_21 : decode cX11_drawn 21 = .ok (.goto 38, 3) := by decide +kernel
theorem dX11_drawn_24 : decode cX11_drawn 24 = .ok (.iload_n 1, 1) := by decide +kernel
theorem dX11_drawn_25 : decode cX11_drawn 25 = .ok (.iconst 4, 1) := by decide +kernel
theorem dX11_drawn_26 : decode cX11_drawn 26 = .ok (.if_icmp .ne 7, 3) := by decide +kernel
theorem dX11_drawn_29 : decode cX11_drawn 29 = .ok (.iconst 2, 1) := by decide +kernel
theorem dX11_drawn_30 : decode cX11_drawn 30 = .ok (.goto 29, 3) := by decide +kernel
theorem dX11_drawn_33 : decode cX11_drawn 33 = .ok (.iload_n 1, 1) := by decide +kernel
theorem dX11_drawn_34 : decode cX11_drawn 34 = .ok (.iconst 5, 1) := by decide +kernel
theorem dX11_drawn_35 : decode cX11_drawn 35 = .ok (.if_icmp .ne 15, 3) := by decide +kernel
theorem dX11_drawn_38 : decode cX11_drawn 38 = .ok (.bipush 10, 2) := by decide +kernel
theorem dX11_drawn_40 : decode cX11_drawn 40 = .ok (.aload_n 0, 1) := by decide +kernel
theorem dX11_drawn_41 : decode cX11_drawn 41 = .ok (.bipush 6, 2) := by decide +kernel
theorem dX11_drawn_43 : decode cX11_drawn 43 = .ok (.invokevirtual 338, 3) := by decide +kernel
theorem dX11_drawn_46 : decode cX11_drawn 46 = .ok (.iadd, 1) := by decide +kernel
theorem dX11_drawn_47 : decode cX11_drawn 47 = .ok (.goto 12, 3) := by decide +kernel
theorem dX11_drawn_50 : decode cX11_drawn 50 = .ok (.bipush 20, 2) := by decide +kernel
theorem dX11_drawn_52 : decode cX11_drawn 52 = .ok (.aload_n 0, 1) := by decide +kernel
theorem dX11_drawn_53 : decode cX11_drawn 53 = .ok (.bipush 6, 2) := by decide +kernel
theorem dX11_drawn_55 : decode cX11_drawn 55 = .ok (.invokevirtual 338, 3) := by decide +kernel
theorem dX11_drawn_58 : decode cX11_drawn 58 = .ok (.iadd, 1) := by decide +kernel
theorem dX11_drawn_59 : decode cX11_drawn 59 = .ok (.ireturn, 1) := by decide +kernel
theorem dX11_year_0 : decode cX11_year 0 = .ok (.aload_n 0, 1) := by decide +kernel
theorem dX11_year_1 : decode cX11_year 1 = .ok (.iconst 0, 1) := by decide +kernel
theorem dX11_year_2 : decode cX11_year 2 = .ok (.putfield 1, 3) := by decide +kernel
theorem dX11_year_5 : decode cX11_year 5 = .ok (.iload_n 2, 1) := by decide +kernel
theorem dX11_year_6 : decode cX11_year 6 = .ok (.i2l, 1) := by decide +kernel
theorem dX11_year_7 : decode cX11_year 7 = .ok (.lconst 1, 1) := by decide +kernel
theorem dX11_year_8 : decode cX11_year 8 = .ok (.ldc2_w 341, 3) := by decide +kernel
theorem dX11_year_11 : decode cX11_year 11 = .ok (.invokestatic 158, 3) := by decide +kernel
theorem dX11_year_14 : decode cX11_year 14 = .ok (.ifCond .ne 6, 3) := by decide +kernel
theorem dX11_year_17 : decode cX11_year 17 = .ok (.bipush (-3), 2) := by decide +kernel
theorem dX11_year_19 : decode cX11_year 19 = .ok (.ireturn, 1) := by decide +kernel
theorem dX11_year_20 : decode cX11_year 20 = .ok (.aload_n 0, 1) := by decide +kernel
theorem dX11_year_21 : decode cX11_year 21 = .ok (.invokevirtual 294, 3) := by decide +kernel
theorem dX11_year_24 : decode cX11_year 24 = .ok (.aload_n 0, 1) := by decide +kernel
theorem dX11_year_25 : decode cX11_year 25 = .ok (.iload_n 1, 1) := by decide +kernel
theorem dX11_year_26 : decode cX11_year 26 = .ok (.putfield 335, 3) := by decide +kernel
theorem dX11_year_29 : decode cX11_year 29 = .ok (.iconst 0, 1) := by decide +kernel
theorem dX11_year_30 : decode cX11_year 30 = .ok (.istore_n 3, 1) := by decide +kernel
theorem dX11_year_31 : decode cX11_year 31 = .ok (.iconst 0, 1) := by decide +kernel
theorem dX11_year_32 : decode cX11_year 32 = .ok (.istore 4, 2) := by decide +kernel
theorem dX11_year_34 : decode cX11_year 34 = .ok (.iload 4, 2) := by decide +kernel
theorem dX11_year_36 : decode cX11_year 36 = .ok (.iload_n 2, 1) := by decide +kernel
theorem dX11_year_37 : decode cX11_year 37 = .ok (.if_icmp .ge 37, 3) := by decide +kernel
theorem dX11_year_40 : decode cX11_year 40 = .ok (.aload_n 0, 1) := by decide +kernel
theorem dX11_year_41 : decode cX11_year 41 = .ok (.invokevirtual 343, 3) := by decide +kernel
theorem dX11_year_44 : decode cX11_year 44 = .ok (.istore 5, 2) := by decide +kernel
theorem dX11_year_46 : decode cX11_year 46 = .ok (.aload_n 0, 1) := by decide +kernel
theorem dX11_year_47 : decode cX11_year 47 = .ok (.iload 5, 2) := by decide +kernel
theorem dX11_year_49 : decode cX11_year 49 = .ok (.i2l, 1) := by decide +kernel
theorem dX11_year_50 : decode cX11_year 50 = .ok (.invokevirtual 317, 3) := by decide +kernel
theorem dX11_year_53 : decode cX11_year 53 = .ok (.ifCond .eq 6, 3) := by decide +kernel
theorem dX11_year_56 : decode cX11_year 56 = .ok (.goto 12, 3) := by decide +kernel
theorem dX11_year_59 : decode cX11_year 59 = .ok (.aload_n 0, 1) := by decide +kernel
theorem dX11_year_60 : decode cX11_year 60 = .ok (.iload 5, 2) := by decide +kernel
theorem dX11_year_62 : decode cX11_year 62 = .ok (.invokevirtual 320, 3) := by decide +kernel
theorem dX11_year_65 : decode cX11_year 65 = .ok (.iinc 3 1, 3) := by decide +kernel
theorem dX11_year_68 : decode cX11_year 68 = .ok (.iinc 4 1, 3) := by decide +kernel
theorem dX11_year_71 : decode cX11_year 71 = .ok (.goto (-37), 3) := by decide +kernel
theorem dX11_year_74 : decode cX11_year 74 = .ok (.iload_n 3, 1) := by decide +kernel
theorem dX11_year_75 : decode cX11_year 75 = .ok (.ifCond .le 7, 3) := by decide +kernel
theorem dX11_year_78 : decode cX11_year 78 = .ok (.aload_n 0, 1) := by decide +kernel
theorem dX11_year_79 : decode cX11_year 79 = .ok (.invokevirtual 300, 3) := by decide +kernel
theorem dX11_year_82 : decode cX11_year 82 = .ok (.iload_n 3, 1) := by decide +kernel
theorem dX11_year_83 : decode cX11_year 83 = .ok (.ireturn, 1) := by decide +kernel
theorem dX11_adds_0 : decode cX11_adds 0 = .ok (.aload_n 0, 1) := by decide +kernel
theorem dX11_adds_1 : decode cX11_adds 1 = .ok (.getfield 49, 3) := by decide +kernel
theorem dX11_adds_4 : decode cX11_adds 4 = .ok (.iload_n 1, 1) := by decide +kernel
theorem dX11_adds_5 : decode cX11_adds 5 = .ok (.baload, 1) := by decide +kernel
theorem dX11_adds_6 : decode cX11_adds 6 = .ok (.ifCond .eq 4, 3) := by decide +kernel
theorem dX11_adds_9 : decode cX11_adds 9 = .ok (.return_, 1) := by decide +kernel
theorem dX11_adds_10 : decode cX11_adds 10 = .ok (.aload_n 0, 1) := by decide +kernel
theorem dX11_adds_11 : decode cX11_adds 11 = .ok (.getfield 49, 3) := by decide +kernel
theorem dX11_adds_14 : decode cX11_adds 14 = .ok (.iload_n 1, 1) := by decide +kernel
theorem dX11_adds_15 : decode cX11_adds 15 = .ok (.iconst 1, 1) := by decide +kernel
theorem dX11_adds_16 : decode cX11_adds 16 = .ok (.bastore, 1) := by decide +kernel
theorem dX11_adds_17 : decode cX11_adds 17 = .ok (.aload_n 0, 1) := by decide +kernel
theorem dX11_adds_18 : decode cX11_adds 18 = .ok (.getfield 39, 3) := by decide +kernel
theorem dX11_adds_21 : decode cX11_adds 21 = .ok (.aload_n 0, 1) := by decide +kernel
theorem dX11_adds_22 : decode cX11_adds 22 = .ok (.getfield 346, 3) := by decide +kernel
theorem dX11_adds_25 : decode cX11_adds 25 = .ok (.iload_n 1, 1) := by decide +kernel
theorem dX11_adds_26 : decode cX11_adds 26 = .ok (.iastore, 1) := by decide +kernel
theorem dX11_adds_27 : decode cX11_adds 27 = .ok (.aload_n 0, 1) := by decide +kernel
theorem dX11_adds_28 : decode cX11_adds 28 = .ok (.dup, 1) := by decide +kernel
theorem dX11_adds_29 : decode cX11_adds 29 = .ok (.getfield 346, 3) := by decide +kernel
theorem dX11_adds_32 : decode cX11_adds 32 = .ok (.iconst 1, 1) := by decide +kernel
theorem dX11_adds_33 : decode cX11_adds 33 = .ok (.iadd, 1) := by decide +kernel
theorem dX11_adds_34 : decode cX11_adds 34 = .ok (.putfield 346, 3) := by decide +kernel
theorem dX11_adds_37 : decode cX11_adds 37 = .ok (.return_, 1) := by decide +kernel
theorem dX11_laysStands_0 : decode cX11_laysStands 0 = .ok (.iconst 0, 1) := by decide +kernel
theorem dX11_laysStands_1 : decode cX11_laysStands 1 = .ok (.istore_n 2, 1) := by decide +kernel
theorem dX11_laysStands_2 : decode cX11_laysStands 2 = .ok (.iload_n 2, 1) := by decide +kernel
theorem dX11_laysStands_3 : decode cX11_laysStands 3 = .ok (.sipush 2880, 3) := by decide +kernel
theorem dX11_laysStands_6 : decode cX11_laysStands 6 = .ok (.if_icmp .ge 16, 3) := by decide +kernel
theorem dX11_laysStands_9 : decode cX11_laysStands 9 = .ok (.aload_n 0, 1) := by decide +kernel
theorem dX11_laysStands_10 : decode cX11_laysStands 10 = .ok (.getfield 49, 3) := by decide +kernel
theorem dX11_laysStands_13 : decode cX11_laysStands 13 = .ok (.iload_n 2, 1) := by decide +kernel
theorem dX11_laysStands_14 : decode cX11_laysStands 14 = .ok (.iconst 0, 1) := by decide +kernel
theorem dX11_laysStands_15 : decode cX11_laysStands 15 = .ok (.bastore, 1) := by decide +kernel
theorem dX11_laysStands_16 : decode cX11_laysStands 16 = .ok (.iinc 2 1, 3) := by decide +kernel
theorem dX11_laysStands_19 : decode cX11_laysStands 19 = .ok (.goto (-17), 3) := by decide +kernel
theorem dX11_laysStands_22 : decode cX11_laysStands 22 = .ok (.aload_n 0, 1) := by decide +kernel
theorem dX11_laysStands_23 : decode cX11_laysStands 23 = .ok (.iconst 0, 1) := by decide +kernel
theorem dX11_laysStands_24 : decode cX11_laysStands 24 = .ok (.putfield 346, 3) := by decide +kernel
theorem dX11_laysStands_27 : decode cX11_laysStands 27 = .ok (.aload_n 0, 1) := by decide +kernel
theorem dX11_laysStands_28 : decode cX11_laysStands 28 = .ok (.aload_n 0, 1) := by decide +kernel
theorem dX11_laysStands_29 : decode cX11_laysStands 29 = .ok (.invokevirtual 279, 3) := by decide +kernel
theorem dX11_laysStands_32 : decode cX11_laysStands 32 = .ok (.invokevirtual 349, 3) := by decide +kernel
theorem dX11_laysStands_35 : decode cX11_laysStands 35 = .ok (.iconst 0, 1) := by decide +kernel
theorem dX11_laysStands_36 : decode cX11_laysStands 36 = .ok (.istore_n 2, 1) := by decide +kernel
theorem dX11_laysStands_37 : decode cX11_laysStands 37 = .ok (.iload_n 2, 1) := by decide +kernel
theorem dX11_laysStands_38 : decode cX11_laysStands 38 = .ok (.aload_n 0, 1) := by decide +kernel
theorem dX11_laysStands_39 : decode cX11_laysStands 39 = .ok (.getfield 346, 3) := by decide +kernel
theorem dX11_laysStands_42 : decode cX11_laysStands 42 = .ok (.if_icmp .ge 137, 3) := by decide +kernel
theorem dX11_laysStands_45 : decode cX11_laysStands 45 = .ok (.iconst 0, 1) := by decide +kernel
theorem dX11_laysStands_46 : decode cX11_laysStands 46 = .ok (.istore_n 3, 1) := by decide +kernel
theorem dX11_laysStands_47 : decode cX11_laysStands 47 = .ok (.iload_n 3, 1) := by decide +kernel
theorem dX11_laysStands_48 : decode cX11_laysStands 48 = .ok (.bipush 15, 2) := by decide +kernel
theorem dX11_laysStands_50 : decode cX11_laysStands 50 = .ok (.if_icmp .ge 123, 3) := by decide +kernel
theorem dX11_laysStands_53 : decode cX11_laysStands 53 = .ok (.aload_n 0, 1) := by decide +kernel
theorem dX11_laysStands_54 : decode cX11_laysStands 54 = .ok (.iload_n 3, 1) := by decide +kernel
theorem dX11_laysStands_55 : decode cX11_laysStands 55 = .ok (.invokevirtual 352, 3) := by decide +kernel
theorem dX11_laysStands_58 : decode cX11_laysStands 58 = .ok (.ifCond .eq 45, 3) := by decide +kernel
theorem dX11_laysStands_61 : decode cX11_laysStands 61 = .ok (.aload_n 0, 1) := by decide +kernel
theorem dX11_laysStands_62 : decode cX11_laysStands 62 = .ok (.aload_n 0, 1) := by decide +kernel
theorem dX11_laysStands_63 : decode cX11_laysStands 63 = .ok (.getfield 39, 3) := by decide +kernel
theorem dX11_laysStands_66 : decode cX11_laysStands 66 = .ok (.iload_n 2, 1) := by decide +kernel
theorem dX11_laysStands_67 : decode cX11_laysStands 67 = .ok (.iaload, 1) := by decide +kernel
theorem dX11_laysStands_68 : decode cX11_laysStands 68 = .ok (.iload_n 3, 1) := by decide +kernel
theorem dX11_laysStands_69 : decode cX11_laysStands 69 = .ok (.aload_n 0, 1) := by decide +kernel
theorem dX11_laysStands_70 : decode cX11_laysStands 70 = .ok (.getfield 13, 3) := by decide +kernel
theorem dX11_laysStands_73 : decode cX11_laysStands 73 = .ok (.bipush 40, 2) := by decide +kernel
theorem dX11_laysStands_75 : decode cX11_laysStands 75 = .ok (.iaload, 1) := by decide +kernel
theorem dX11_laysStands_76 : decode cX11_laysStands 76 = .ok (.invokevirtual 282, 3) := by decide +kernel
theorem dX11_laysStands_79 : decode cX11_laysStands 79 = .ok (.ifCond .ne 24, 3) := by decide +kernel
theorem dX11_laysStands_82 : decode cX11_laysStands 82 = .ok (.aload_n 0, 1) := by decide +kernel
theorem dX11_laysStands_83 : decode cX11_laysStands 83 = .ok (.aload_n 0, 1) := by decide +kernel
theorem dX11_laysStands_84 : decode cX11_laysStands 84 = .ok (.getfield 39, 3) := by decide +kernel
theorem dX11_laysStands_87 : decode cX11_laysStands 87 = .ok (.iload_n 2, 1) := by decide +kernel
theorem dX11_laysStands_88 : decode cX11_laysStands 88 = .ok (.iaload, 1) := by decide +kernel
theorem dX11_laysStands_89 : decode cX11_laysStands 89 = .ok (.iload_n 3, 1) := by decide +kernel
theorem dX11_laysStands_90 : decode cX11_laysStands 90 = .ok (.aload_n 0, 1) := by decide +kernel
theorem dX11_laysStands_91 : decode cX11_laysStands 91 = .ok (.getfield 13, 3) := by decide +kernel
theorem dX11_laysStands_94 : decode cX11_laysStands 94 = .ok (.bipush 40, 2) := by decide +kernel
theorem dX11_laysStands_96 : decode cX11_laysStands 96 = .ok (.iaload, 1) := by decide +kernel
theorem dX11_laysStands_97 : decode cX11_laysStands 97 = .ok (.invokevirtual 288, 3) := by decide +kernel
theorem dX11_laysStands_100 : decode cX11_laysStands 100 = .ok (.goto 4, 3) := by decide +kernel
theorem dX11_laysStands_103 : decode cX11_laysStands 103 = .ok (.iconst (-1), 1) := by decide +kernel
theorem dX11_laysStands_104 : decode cX11_laysStands 104 = .ok (.istore 4, 2) := by decide +kernel
theorem dX11_laysStands_106 : decode cX11_laysStands 106 = .ok (.aload_n 0, 1) := by decide +kernel
theorem dX11_laysStands_107 : decode cX11_laysStands 107 = .ok (.getfield 43, 3) := by decide +kernel
theorem dX11_laysStands_110 : decode cX11_laysStands 110 = .ok (.bipush 15, 2) := by decide +kernel
theorem dX11_laysStands_112 : decode cX11_laysStands 112 = .ok (.aload_n 0, 1) := by decide +kernel
theorem dX11_laysStands_113 : decode cX11_laysStands 113 = .ok (.getfield 39, 3) := by decide +kernel
theorem dX11_laysStands_116 : decode cX11_laysStands 116 = .ok (.iload_n 2, 1) := by decide +kernel
theorem dX11_laysStands_117 : decode cX11_laysStands 117 = .ok (.iaload, 1) := by decide +kernel
theorem dX11_laysStands_118 : decode cX11_laysStands 118 = .ok (.imul, 1) := by decide +kernel
theorem dX11_laysStands_119 : decode cX11_laysStands 119 = .ok (.iload_n 3, 1) := by decide +kernel
theorem dX11_laysStands_120 : decode cX11_laysStands 120 = .ok (.iadd, 1) := by decide +kernel
theorem dX11_laysStands_121 : decode cX11_laysStands 121 = .ok (.iload 4, 2) := by decide +kernel
theorem dX11_laysStands_123 : decode cX11_laysStands 123 = .ok (.iastore, 1) := by decide +kernel
theorem dX11_laysStands_124 : decode cX11_laysStands 124 = .ok (.iload 4, 2) := by decide +kernel
theorem dX11_laysStands_126 : decode cX11_laysStands 126 = .ok (.iconst (-1), 1) := by decide +kernel
theorem dX11_laysStands_127 : decode cX11_laysStands 127 = .ok (.if_icmp .ne 6, 3) := by decide +kernel
theorem dX11_laysStands_130 : decode cX11_laysStands 130 = .ok (.goto 37, 3) := by decide +kernel
theorem dX11_laysStands_133 : decode cX11_laysStands 133 = .ok (.aload_n 0, 1) := by decide +kernel
theorem dX11_laysStands_134 : decode cX11_laysStands 134 = .ok (.iload 4, 2) := by decide +kernel
theorem dX11_laysStands_136 : decode cX11_laysStands 136 = .ok (.invokevirtual 349, 3) := by decide +kernel
theorem dX11_laysStands_139 : decode cX11_laysStands 139 = .ok (.iload_n 1, 1) := by decide +kernel
theorem dX11_laysStands_140 : decode cX11_laysStands 140 = .ok (.ifCond .eq 27, 3) := by decide +kernel
theorem dX11_laysStands_143 : decode cX11_laysStands 143 = .ok (.iload_n 3, 1) := by decide +kernel
theorem dX11_laysStands_144 : decode cX11_laysStands 144 = .ok (.iconst 1, 1) := by decide +kernel
theorem dX11_laysStands_145 : decode cX11_laysStands 145 = .ok (.if_icmp .ne 22, 3) := by decide +kernel
theorem dX11_laysStands_148 : decode cX11_laysStands 148 = .ok (.aload_n 0, 1) := by decide +kernel
theorem dX11_laysStands_149 : decode cX11_laysStands 149 = .ok (.iload 4, 2) := by decide +kernel
theorem dX11_laysStands_151 : decode cX11_laysStands 151 = .ok (.invokestatic 355, 3) := by decide +kernel
theorem dX11_laysStands_154 : decode cX11_laysStands 154 = .ok (.invokevirtual 349, 3) := by decide +kernel
theorem dX11_laysStands_157 : decode cX11_laysStands 157 = .ok (.aload_n 0, 1) := by decide +kernel
theorem dX11_laysStands_158 : decode cX11_laysStands 158 = .ok (.iload 4, 2) := by decide +kernel
theorem dX11_laysStands_160 : decode cX11_laysStands 160 = .ok (.sipush 320, 3) := by decide +kernel
theorem dX11_laysStands_163 : decode cX11_laysStands 163 = .ok (.isub, 1) := by decide +kernel
theorem dX11_laysStands_164 : decode cX11_laysStands 164 = .ok (.invokevirtual 349, 3) := by decide +kernel
theorem dX11_laysStands_167 : decode cX11_laysStands 167 = .ok (.iinc 3 1, 3) := by decide +kernel
theorem dX11_laysStands_170 : decode cX11_laysStands 170 = .ok (.goto (-123), 3) := by decide +kernel
theorem dX11_laysStands_173 : decode cX11_laysStands 173 = .ok (.iinc 2 1, 3) := by decide +kernel
theorem dX11_laysStands_176 : decode cX11_laysStands 176 = .ok (.goto (-139), 3) := by decide +kernel
theorem dX11_laysStands_179 : decode cX11_laysStands 179 = .ok (.return_, 1) := by decide +kernel
theorem dX11_gust_0 : decode cX11_gust 0 = .ok (.iload_n 0, 1) := by decide +kernel
theorem dX11_gust_1 : decode cX11_gust 1 = .ok (.iconst 5, 1) := by decide +kernel
theorem dX11_gust_2 : decode cX11_gust 2 = .ok (.irem, 1) := by decide +kernel
theorem dX11_gust_3 : decode cX11_gust 3 = .ok (.ifCond .ne 7, 3) := by decide +kernel
theorem dX11_gust_6 : decode cX11_gust 6 = .ok (.iload_n 0, 1) := by decide +kernel
theorem dX11_gust_7 : decode cX11_gust 7 = .ok (.goto 6, 3) := by decide +kernel
theorem dX11_gust_10 : decode cX11_gust 10 = .ok (.iload_n 0, 1) := by decide +kernel
theorem dX11_gust_11 : decode cX11_gust 11 = .ok (.iconst 1, 1) := by decide +kernel
theorem dX11_gust_12 : decode cX11_gust 12 = .ok (.isub, 1) := by decide +kernel
theorem dX11_gust_13 : decode cX11_gust 13 = .ok (.ireturn, 1) := by decide +kernel
theorem dX11_isGoal_0 : decode cX11_isGoal 0 = .ok (.iload_n 0, 1) := by decide +kernel
theorem dX11_isGoal_1 : decode cX11_isGoal 1 = .ok (.invokestatic 230, 3) := by decide +kernel
theorem dX11_isGoal_4 : decode cX11_isGoal 4 = .ok (.iload_n 1, 1) := by decide +kernel
theorem dX11_isGoal_5 : decode cX11_isGoal 5 = .ok (.if_icmp .ne 17, 3) := by decide +kernel
theorem dX11_isGoal_8 : decode cX11_isGoal 8 = .ok (.iload_n 0, 1) := by decide +kernel
theorem dX11_isGoal_9 : decode cX11_isGoal 9 = .ok (.invokestatic 233, 3) := by decide +kernel
theorem dX11_isGoal_12 : decode cX11_isGoal 12 = .ok (.iload_n 2, 1) := by decide +kernel
theorem dX11_isGoal_13 : decode cX11_isGoal 13 = .ok (.iand, 1) := by decide +kernel
theorem dX11_isGoal_14 : decode cX11_isGoal 14 = .ok (.iload_n 2, 1) := by decide +kernel
theorem dX11_isGoal_15 : decode cX11_isGoal 15 = .ok (.if_icmp .ne 7, 3) := by decide +kernel
theorem dX11_isGoal_18 : decode cX11_isGoal 18 = .ok (.iconst 1, 1) := by decide +kernel
theorem dX11_isGoal_19 : decode cX11_isGoal 19 = .ok (.goto 4, 3) := by decide +kernel
theorem dX11_isGoal_22 : decode cX11_isGoal 22 = .ok (.iconst 0, 1) := by decide +kernel
theorem dX11_isGoal_23 : decode cX11_isGoal 23 = .ok (.ireturn, 1) := by decide +kernel
theorem dX11_farBy_0 : decode cX11_farBy 0 = .ok (.aload_n 0, 1) := by decide +kernel
theorem dX11_farBy_1 : decode cX11_farBy 1 = .ok (.getfield 43, 3) := by decide +kernel
theorem dX11_farBy_4 : decode cX11_farBy 4 = .ok (.bipush 15, 2) := by decide +kernel
theorem dX11_farBy_6 : decode cX11_farBy 6 = .ok (.iload_n 1, 1) := by decide +kernel
theorem dX11_farBy_7 : decode cX11_farBy 7 = .ok (.imul, 1) := by decide +kernel
theorem dX11_farBy_8 : decode cX11_farBy 8 = .ok (.iload_n 2, 1) := by decide +kernel
theorem dX11_farBy_9 : decode cX11_farBy 9 = .ok (.iadd, 1) := by decide +kernel
theorem dX11_farBy_10 : decode cX11_farBy 10 = .ok (.iaload, 1) := by decide +kernel
theorem dX11_farBy_11 : decode cX11_farBy 11 = .ok (.istore_n 3, 1) := by decide +kernel
theorem dX11_farBy_12 : decode cX11_farBy 12 = .ok (.iload_n 3, 1) := by decide +kernel
theorem dX11_farBy_13 : decode cX11_farBy 13 = .ok (.iconst (-1), 1) := by decide +kernel
theorem dX11_farBy_14 : decode cX11_farBy 14 = .ok (.if_icmp .eq 15, 3) := by decide +kernel
theorem dX11_farBy_17 : decode cX11_farBy 17 = .ok (.aload_n 0, 1) := by decide +kernel
theorem dX11_farBy_18 : decode cX11_farBy 18 = .ok (.getfield 46, 3) := by decide +kernel
theorem dX11_farBy_21 : decode cX11_farBy 21 = .ok (.iload_n 3, 1) := by decide +kernel
theorem dX11_farBy_22 : decode cX11_farBy 22 = .ok (.iaload, 1) := by decide +kernel
theorem dX11_farBy_23 : decode cX11_farBy 23 = .ok (.ldc_w 358, 3) := by decide +kernel
theorem dX11_farBy_26 : decode cX11_farBy 26 = .ok (.if_icmp .ne 9, 3) := by decide +kernel
theorem dX11_farBy_29 : decode cX11_farBy 29 = .ok (.ldc_w 358, 3) := by decide +kernel
theorem dX11_farBy_32 : decode cX11_farBy 32 = .ok (.goto 11, 3) := by decide +kernel
theorem dX11_farBy_35 : decode cX11_farBy 35 = .ok (.aload_n 0, 1) := by decide +kernel
theorem dX11_farBy_36 : decode cX11_farBy 36 = .ok (.getfield 46, 3) := by decide +kernel
theorem dX11_farBy_39 : decode cX11_farBy 39 = .ok (.iload_n 3, 1) := by decide +kernel
theorem dX11_farBy_40 : decode cX11_farBy 40 = .ok (.iaload, 1) := by decide +kernel
theorem dX11_farBy_41 : decode cX11_farBy 41 = .ok (.iconst 1, 1) := by decide +kernel
theorem dX11_farBy_42 : decode cX11_farBy 42 = .ok (.iadd, 1) := by decide +kernel
theorem dX11_farBy_43 : decode cX11_farBy 43 = .ok (.ireturn, 1) := by decide +kernel
theorem dX11_laysFar_0 : decode cX11_laysFar 0 = .ok (.aload_n 0, 1) := by decide +kernel
theorem dX11_laysFar_1 : decode cX11_laysFar 1 = .ok (.iconst 0, 1) := by decide +kernel
theorem dX11_laysFar_2 : decode cX11_laysFar 2 = .ok (.invokevirtual 359, 3) := by decide +kernel
theorem dX11_laysFar_5 : decode cX11_laysFar 5 = .ok (.iconst 0, 1) := by decide +kernel
theorem dX11_laysFar_6 : decode cX11_laysFar 6 = .ok (.istore_n 3, 1) := by decide +kernel
theorem dX11_laysFar_7 : decode cX11_laysFar 7 = .ok (.iload_n 3, 1) := by decide +kernel
theorem dX11_laysFar_8 : decode cX11_laysFar 8 = .ok (.aload_n 0, 1) := by decide +kernel
theorem dX11_laysFar_9 : decode cX11_laysFar 9 = .ok (.getfield 346, 3) := by decide +kernel
theorem dX11_laysFar_12 : decode cX11_laysFar 12 = .ok (.if_icmp .ge 41, 3) := by decide +kernel
theorem dX11_laysFar_15 : decode cX11_laysFar 15 = .ok (.aload_n 0, 1) := by decide +kernel
theorem dX11_laysFar_16 : decode cX11_laysFar 16 = .ok (.getfield 46, 3) := by decide +kernel
theorem dX11_laysFar_19 : decode cX11_laysFar 19 = .ok (.aload_n 0, 1) := by decide +kernel
theorem dX11_laysFar_20 : decode cX11_laysFar 20 = .ok (.getfield 39, 3) := by decide +kernel
theorem dX11_laysFar_23 : decode cX11_laysFar 23 = .ok (.iload_n 3, 1) := by decide +kernel
theorem dX11_laysFar_24 : decode cX11_laysFar 24 = .ok (.iaload, 1) := by decide +kernel
theorem dX11_laysFar_25 : decode cX11_laysFar 25 = .ok (.aload_n 0, 1) := by decide +kernel
theorem dX11_laysFar_26 : decode cX11_laysFar 26 = .ok (.getfield 39, 3) := by decide +kernel
theorem dX11_laysFar_29 : decode cX11_laysFar 29 = .ok (.iload_n 3, 1) := by decide +kernel
theorem dX11_laysFar_30 : decode cX11_laysFar 30 = .ok (.iaload, 1) := by decide +kernel
theorem dX11_laysFar_31 : decode cX11_laysFar 31 = .ok (.iload_n 1, 1) := by decide +kernel
theorem dX11_laysFar_32 : decode cX11_laysFar 32 = .ok (.iload_n 2, 1) := by decide +kernel
theorem dX11_laysFar_33 : decode cX11_laysFar 33 = .ok (.invokestatic 363, 3) := by decide +kernel
theorem dX11_laysFar_36 : decode cX11_laysFar 36 = .ok (.ifCond .eq 7, 3) := by decide +kernel
theorem dX11_laysFar_39 : decode cX11_laysFar 39 = .ok (.iconst 0, 1) := by decide +kernel
theorem dX11_laysFar_40 : decode cX11_laysFar 40 = .ok (.goto 6, 3) := by decide +kernel
theorem dX11_laysFar_43 : decode cX11_laysFar 43 = .ok (.ldc_w 358, 3) := by decide +kernel
theorem dX11_laysFar_46 : decode cX11_laysFar 46 = .ok (.iastore, 1) := by decide +kernel
theorem dX11_laysFar_47 : decode cX11_laysFar 47 = .ok (.iinc 3 1, 3) := by decide +kernel
theorem dX11_laysFar_50 : decode cX11_laysFar 50 = .ok (.goto (-43), 3) := by decide +kernel
theorem dX11_laysFar_53 : decode cX11_laysFar 53 = .ok (.iconst 1, 1) := by decide +kernel
theorem dX11_laysFar_54 : decode cX11_laysFar 54 = .ok (.istore_n 3, 1) := by decide +kernel
theorem dX11_laysFar_55 : decode cX11_laysFar 55 = .ok (.iload_n 3, 1) := by decide +kernel
theorem dX11_laysFar_56 : decode cX11_laysFar 56 = .ok (.ifCond .eq 116, 3) := by decide +kernel
theorem dX11_laysFar_59 : decode cX11_laysFar 59 = .ok (.iconst 0, 1) := by decide +kernel
theorem dX11_laysFar_60 : decode cX11_laysFar 60 = .ok (.istore_n 3, 1) := by decide +kernel
theorem dX11_laysFar_61 : decode cX11_laysFar 61 = .ok (.aload_n 0, 1) := by decide +kernel
theorem dX11_laysFar_62 : decode cX11_laysFar 62 = .ok (.getfield 346, 3) := by decide +kernel
theorem dX11_laysFar_65 : decode cX11_laysFar 65 = .ok (.iconst 1, 1) := by decide +kernel
theorem dX11_laysFar_66 : decode cX11_laysFar 66 = .ok (.isub, 1) := by decide +kernel
theorem dX11_laysFar_67 : decode cX11_laysFar 67 = .ok (.istore 4, 2) := by decide +kernel
theorem dX11_laysFar_69 : decode cX11_laysFar 69 = .ok (.iload 4, 2) := by decide +kernel
theorem dX11_laysFar_71 : decode cX11_laysFar 71 = .ok (.ifCond .lt 98, 3) := by decide +kernel
theorem dX11_laysFar_74 : decode cX11_laysFar 74 = .ok (.iconst 0, 1) := by decide +kernel
theorem dX11_laysFar_75 : decode cX11_laysFar 75 = .ok (.istore 5, 2) := by decide +kernel
theorem dX11_laysFar_77 : decode cX11_laysFar 77 = .ok (.iload 5, 2) := by decide +kernel
theorem dX11_laysFar_79 : decode cX11_laysFar 79 = .ok (.bipush 15, 2) := by decide +kernel
theorem dX11_laysFar_81 : decode cX11_laysFar 81 = .ok (.if_icmp .ge 82, 3) := by decide +kernel
theorem dX11_laysFar_84 : decode cX11_laysFar 84 = .ok (.aload_n 0, 1) := by decide +kernel
theorem dX11_laysFar_85 : decode cX11_laysFar 85 = .ok (.getfield 46, 3) := by decide +kernel
theorem dX11_laysFar_88 : decode cX11_laysFar 88 = .ok (.aload_n 0, 1) := by decide +kernel
theorem dX11_laysFar_89 : decode cX11_laysFar 89 = .ok (.getfield 39, 3) := by decide +kernel
theorem dX11_laysFar_92 : decode cX11_laysFar 92 = .ok (.iload 4, 2) := by decide +kernel
theorem dX11_laysFar_94 : decode cX11_laysFar 94 = .ok (.iaload, 1) := by decide +kernel
theorem dX11_laysFar_95 : decode cX11_laysFar 95 = .ok (.iaload, 1) := by decide +kernel
theorem dX11_laysFar_96 : decode cX11_laysFar 96 = .ok (.ifCond .le 67, 3) := by decide +kernel
theorem dX11_laysFar_99 : decode cX11_laysFar 99 = .ok (.aload_n 0, 1) := by decide +kernel
theorem dX11_laysFar_100 : decode cX11_laysFar 100 = .ok (.aload_n 0, 1) := by decide +kernel
theorem dX11_laysFar_101 : decode cX11_laysFar 101 = .ok (.getfield 39, 3) := by decide +kernel
theorem dX11_laysFar_104 : decode cX11_laysFar 104 = .ok (.iload 4, 2) := by decide +kernel
theorem dX11_laysFar_106 : decode cX11_laysFar 106 = .ok (.iaload, 1) := by decide +kernel
theorem dX11_laysFar_107 : decode cX11_laysFar 107 = .ok (.iload 5, 2) := by decide +kernel
theorem dX11_laysFar_109 : decode cX11_laysFar 109 = .ok (.invokevirtual 367, 3) := by decide +kernel
theorem dX11_laysFar_112 : decode cX11_laysFar 112 = .ok (.aload_n 0, 1) := by decide +kernel
theorem dX11_laysFar_113 : decode cX11_laysFar 113 = .ok (.getfield 46, 3) := by decide +kernel
theorem dX11_laysFar_116 : decode cX11_laysFar 116 = .ok (.aload_n 0, 1) := by decide +kernel
theorem dX11_laysFar_117 : decode cX11_laysFar 117 = .ok (.getfield 39, 3) := by decide +kernel
theorem dX11_laysFar_120 : decode cX11_laysFar 120 = .ok (.iload 4, 2) := by decide +kernel
theorem dX11_laysFar_122 : decode cX11_laysFar 122 = .ok (.iaload, 1) := by decide +kernel
theorem dX11_laysFar_123 : decode cX11_laysFar 123 = .ok (.iaload, 1) := by decide +kernel
theorem dX11_laysFar_124 : decode cX11_laysFar 124 = .ok (.if_icmp .lt 6, 3) := by decide +kernel
theorem dX11_laysFar_127 : decode cX11_laysFar 127 = .ok (.goto 30, 3) := by decide +kernel
theorem dX11_laysFar_130 : decode cX11_laysFar 130 = .ok (.aload_n 0, 1) := by decide +kernel
theorem dX11_laysFar_131 : decode cX11_laysFar 131 = .ok (.getfield 46, 3) := by decide +kernel
theorem dX11_laysFar_134 : decode cX11_laysFar 134 = .ok (.aload_n 0, 1) := by decide +kernel
theorem dX11_laysFar_135 : decode cX11_laysFar 135 = .ok (.getfield 39, 3) := by decide +kernel
theorem dX11_laysFar_138 : decode cX11_laysFar 138 = .ok (.iload 4, 2) := by decide +kernel
theorem dX11_laysFar_140 : decode cX11_laysFar 140 = .ok (.iaload, 1) := by decide +kernel
theorem dX11_laysFar_141 : decode cX11_laysFar 141 = .ok (.aload_n 0, 1) := by decide +kernel
theorem dX11_laysFar_142 : decode cX11_laysFar 142 = .ok (.aload_n 0, 1) := by decide +kernel
theorem dX11_laysFar_143 : decode cX11_laysFar 143 = .ok (.getfield 39, 3) := by decide +kernel
theorem dX11_laysFar_146 : decode cX11_laysFar 146 = .ok (.iload 4, 2) := by decide +kernel
theorem dX11_laysFar_148 : decode cX11_laysFar 148 = .ok (.iaload, 1) := by decide +kernel
theorem dX11_laysFar_149 : decode cX11_laysFar 149 = .ok (.iload 5, 2) := by decide +kernel
theorem dX11_laysFar_151 : decode cX11_laysFar 151 = .ok (.invokevirtual 367, 3) := by decide +kernel
theorem dX11_laysFar_154 : decode cX11_laysFar 154 = .ok (.iastore, 1) := by decide +kernel
theorem dX11_laysFar_155 : decode cX11_laysFar 155 = .ok (.iconst 1, 1) := by decide +kernel
theorem dX11_laysFar_156 : decode cX11_laysFar 156 = .ok (.istore_n 3, 1) := by decide +kernel
theorem dX11_laysFar_157 : decode cX11_laysFar 157 = .ok (.iinc 5 1, 3) := by decide +kernel
theorem dX11_laysFar_160 : decode cX11_laysFar 160 = .ok (.goto (-83), 3) := by decide +kernel
theorem dX11_laysFar_163 : decode cX11_laysFar 163 = .ok (.iinc 4 (-1), 3) := by decide +kernel
theorem dX11_laysFar_166 : decode cX11_laysFar 166 = .ok (.goto (-97), 3) := by decide +kernel
theorem dX11_laysFar_169 : decode cX11_laysFar 169 = .ok (.goto (-114), 3) := by decide +kernel
theorem dX11_laysFar_172 : decode cX11_laysFar 172 = .ok (.aload_n 0, 1) := by decide +kernel
theorem dX11_laysFar_173 : decode cX11_laysFar 173 = .ok (.getfield 46, 3) := by decide +kernel
theorem dX11_laysFar_176 : decode cX11_laysFar 176 = .ok (.aload_n 0, 1) := by decide +kernel
theorem dX11_laysFar_177 : decode cX11_laysFar 177 = .ok (.invokevirtual 279, 3) := by decide +kernel
theorem dX11_laysFar_180 : decode cX11_laysFar 180 = .ok (.iaload, 1) := by decide +kernel
theorem dX11_laysFar_181 : decode cX11_laysFar 181 = .ok (.ireturn, 1) := by decide +kernel
theorem dX11_noComing_0 : decode cX11_noComing 0 = .ok (.aload_n 0, 1) := by decide +kernel
theorem dX11_noComing_1 : decode cX11_noComing 1 = .ok (.iload_n 1, 1) := by decide +kernel
theorem dX11_noComing_2 : decode cX11_noComing 2 = .ok (.invokevirtual 272, 3) := by decide +kernel
theorem dX11_noComing_5 : decode cX11_noComing 5 = .ok (.ifCond .ne 8, 3) := by decide +kernel
theorem dX11_noComing_8 : decode cX11_noComing 8 = .ok (.bipush (-2), 2) := by decide +kernel
theorem dX11_noComing_10 : decode cX11_noComing 10 = .ok (.goto 17, 3) := by decide +kernel
theorem dX11_noComing_13 : decode cX11_noComing 13 = .ok (.aload_n 0, 1) := by decide +kernel
theorem dX11_noComing_14 : decode cX11_noComing 14 = .ok (.iload_n 2, 1) := by decide +kernel
theorem dX11_noComing_15 : decode cX11_noComing 15 = .ok (.invokevirtual 370, 3) := by decide +kernel
theorem dX11_noComing_18 : decode cX11_noComing 18 = .ok (.ifCond .eq 7, 3) := by decide +kernel
theorem dX11_noComing_21 : decode cX11_noComing 21 = .ok (.iconst 0, 1) := by decide +kernel
theorem dX11_noComing_22 : decode cX11_noComing 22 = .ok (.goto 5, 3) := by decide +kernel
theorem dX11_noComing_25 : decode cX11_noComing 25 = .ok (.bipush (-3), 2) := by decide +kernel
theorem dX11_noComing_27 : decode cX11_noComing 27 = .ok (.ireturn, 1) := by decide +kernel
theorem dX11_deedAt_0 : decode cX11_deedAt 0 = .ok (.aload_n 0, 1) := by decide +kernel
theorem dX11_deedAt_1 : decode cX11_deedAt 1 = .ok (.invokevirtual 279, 3) := by decide +kernel
theorem dX11_deedAt_4 : decode cX11_deedAt 4 = .ok (.istore_n 2, 1) := by decide +kernel
theorem dX11_deedAt_5 : decode cX11_deedAt 5 = .ok (.iconst 0, 1) := by decide +kernel
theorem dX11_deedAt_6 : decode cX11_deedAt 6 = .ok (.istore_n 3, 1) := by decide +kernel
theorem dX11_deedAt_7 : decode cX11_deedAt 7 = .ok (.aload_n 0, 1) := by decide +kernel
theorem dX11_deedAt_8 : decode cX11_deedAt 8 = .ok (.getfield 46, 3) := by decide +kernel
theorem dX11_deedAt_11 : decode cX11_deedAt 11 = .ok (.iload_n 2, 1) := by decide +kernel
theorem dX11_deedAt_12 : decode cX11_deedAt 12 = .ok (.iaload, 1) := by decide +kernel
theorem dX11_deedAt_13 : decode cX11_deedAt 13 = .ok (.ifCond .le 70, 3) := by decide +kernel
theorem dX11_deedAt_16 : decode cX11_deedAt 16 = .ok (.aload_n 0, 1) := by decide +kernel
theorem dX11_deedAt_17 : decode cX11_deedAt 17 = .ok (.getfield 46, 3) := by decide +kernel
theorem dX11_deedAt_20 : decode cX11_deedAt 20 = .ok (.iload_n 2, 1) := by decide +kernel
theorem dX11_deedAt_21 : decode cX11_deedAt 21 = .ok (.iaload, 1) := by decide +kernel
theorem dX11_deedAt_22 : decode cX11_deedAt 22 = .ok (.ldc_w 358, 3) := by decide +kernel
theorem dX11_deedAt_25 : decode cX11_deedAt 25 = .ok (.if_icmp .ge 58, 3) := by decide +kernel
theorem dX11_deedAt_28 : decode cX11_deedAt 28 = .ok (.iconst 0, 1) := by decide +kernel
theorem dX11_deedAt_29 : decode cX11_deedAt 29 = .ok (.istore 4, 2) := by decide +kernel
theorem dX11_deedAt_31 : decode cX11_deedAt 31 = .ok (.aload_n 0, 1) := by decide +kernel
theorem dX11_deedAt_32 : decode cX11_deedAt 32 = .ok (.iload_n 2, 1) := by decide +kernel
theorem dX11_deedAt_33 : decode cX11_deedAt 33 = .ok (.iload 4, 2) := by decide +kernel
theorem dX11_deedAt_35 : decode cX11_deedAt 35 = .ok (.invokevirtual 367, 3) := by decide +kernel
theorem dX11_deedAt_38 : decode cX11_deedAt 38 = .ok (.aload_n 0, 1) := by decide +kernel
theorem dX11_deedAt_39 : decode cX11_deedAt 39 = .ok (.getfield 46, 3) := by decide +kernel
theorem dX11_deedAt_42 : decode cX11_deedAt 42 = .ok (.iload_n 2, 1) := by decide +kernel
theorem dX11_deedAt_43 : decode cX11_deedAt 43 = .ok (.iaload, 1) := by decide +kernel
theorem dX11_deedAt_44 : decode cX11_deedAt 44 = .ok (.if_icmp .eq 9, 3) := by decide +kernel
theorem dX11_deedAt_47 : decode cX11_deedAt 47 = .ok (.iinc 4 1, 3) := by decide +kernel
theorem dX11_deedAt_50 : decode cX11_deedAt 50 = .ok (.goto (-19), 3) := by decide +kernel
theorem dX11_deedAt_53 : decode cX11_deedAt 53 = .ok (.iload_n 3, 1) := by decide +kernel
theorem dX11_deedAt_54 : decode cX11_deedAt 54 = .ok (.iload_n 1, 1) := by decide +kernel
theorem dX11_deedAt_55 : decode cX11_deedAt 55 = .ok (.if_icmp .ne 9, 3) := by decide +kernel
theorem dX11_deedAt_58 : decode cX11_deedAt 58 = .ok (.iload 4, 2) := by decide +kernel
theorem dX11_deedAt_60 : decode cX11_deedAt 60 = .ok (.invokestatic 373, 3) := by decide +kernel
theorem dX11_deedAt_63 : decode cX11_deedAt 63 = .ok (.ireturn, 1) := by decide +kernel
theorem dX11_deedAt_64 : decode cX11_deedAt 64 = .ok (.aload_n 0, 1) := by decide +kernel
theorem dX11_deedAt_65 : decode cX11_deedAt 65 = .ok (.getfield 43, 3) := by decide +kernel
theorem dX11_deedAt_68 : decode cX11_deedAt 68 = .ok (.bipush 15, 2) := by decide +kernel
theorem dX11_deedAt_70 : decode cX11_deedAt 70 = .ok (.iload_n 2, 1) := by decide +kernel
theorem dX11_deedAt_71 : decode cX11_deedAt 71 = .ok (.imul, 1) := by decide +kernel
theorem dX11_deedAt_72 : decode cX11_deedAt 72 = .ok (.iload 4, 2) := by decide +kernel
theorem dX11_deedAt_74 : decode cX11_deedAt 74 = .ok (.iadd, 1) := by decide +kernel
theorem dX11_deedAt_75 : decode cX11_deedAt 75 = .ok (.iaload, 1) := by decide +kernel
theorem dX11_deedAt_76 : decode cX11_deedAt 76 = .ok (.istore_n 2, 1) := by decide +kernel
theorem dX11_deedAt_77 : decode cX11_deedAt 77 = .ok (.iinc 3 1, 3) := by decide +kernel
theorem dX11_deedAt_80 : decode cX11_deedAt 80 = .ok (.goto (-73), 3) := by decide +kernel
theorem dX11_deedAt_83 : decode cX11_deedAt 83 = .ok (.iconst (-1), 1) := by decide +kernel
theorem dX11_deedAt_84 : decode cX11_deedAt 84 = .ok (.ireturn, 1) := by decide +kernel
theorem dX11_soonest_0 : decode cX11_soonest 0 = .ok (.aload_n 0, 1) := by decide +kernel
theorem dX11_soonest_1 : decode cX11_soonest 1 = .ok (.iconst 0, 1) := by decide +kernel
theorem dX11_soonest_2 : decode cX11_soonest 2 = .ok (.putfield 1, 3) := by decide +kernel
theorem dX11_soonest_5 : decode cX11_soonest 5 = .ok (.aload_n 0, 1) := by decide +kernel
theorem dX11_soonest_6 : decode cX11_soonest 6 = .ok (.iload_n 1, 1) := by decide +kernel
theorem dX11_soonest_7 : decode cX11_soonest 7 = .ok (.iload_n 2, 1) := by decide +kernel
theorem dX11_soonest_8 : decode cX11_soonest 8 = .ok (.invokevirtual 376, 3) := by decide +kernel
theorem dX11_soonest_11 : decode cX11_soonest 11 = .ok (.istore_n 3, 1) := by decide +kernel
theorem dX11_soonest_12 : decode cX11_soonest 12 = .ok (.iload_n 3, 1) := by decide +kernel
theorem dX11_soonest_13 : decode cX11_soonest 13 = .ok (.ifCond .eq 5, 3) := by decide +kernel
theorem dX11_soonest_16 : decode cX11_soonest 16 = .ok (.iload_n 3, 1) := by decide +kernel
theorem dX11_soonest_17 : decode cX11_soonest 17 = .ok (.ireturn, 1) := by decide +kernel
theorem dX11_soonest_18 : decode cX11_soonest 18 = .ok (.aload_n 0, 1) := by decide +kernel
theorem dX11_soonest_19 : decode cX11_soonest 19 = .ok (.iload_n 1, 1) := by decide +kernel
theorem dX11_soonest_20 : decode cX11_soonest 20 = .ok (.iload_n 2, 1) := by decide +kernel
theorem dX11_soonest_21 : decode cX11_soonest 21 = .ok (.invokevirtual 379, 3) := by decide +kernel
theorem dX11_soonest_24 : decode cX11_soonest 24 = .ok (.istore 4, 2) := by decide +kernel
theorem dX11_soonest_26 : decode cX11_soonest 26 = .ok (.iload 4, 2) := by decide +kernel
theorem dX11_soonest_28 : decode cX11_soonest 28 = .ok (.ldc_w 358, 3) := by decide +kernel
theorem dX11_soonest_31 : decode cX11_soonest 31 = .ok (.if_icmp .ne 7, 3) := by decide +kernel
theorem dX11_soonest_34 : decode cX11_soonest 34 = .ok (.iconst (-1), 1) := by decide +kernel
theorem dX11_soonest_35 : decode cX11_soonest 35 = .ok (.goto 5, 3) := by decide +kernel
theorem dX11_soonest_38 : decode cX11_soonest 38 = .ok (.iload 4, 2) := by decide +kernel
theorem dX11_soonest_40 : decode cX11_soonest 40 = .ok (.ireturn, 1) := by decide +kernel
theorem dX11_way_0 : decode cX11_way 0 = .ok (.aload_n 0, 1) := by decide +kernel
theorem dX11_way_1 : decode cX11_way 1 = .ok (.iconst 0, 1) := by decide +kernel
theorem dX11_way_2 : decode cX11_way 2 = .ok (.putfield 1, 3) := by decide +kernel
theorem dX11_way_5 : decode cX11_way 5 = .ok (.aload_n 0, 1) := by decide +kernel
theorem dX11_way_6 : decode cX11_way 6 = .ok (.iload_n 1, 1) := by decide +kernel
theorem dX11_way_7 : decode cX11_way 7 = .ok (.iload_n 2, 1) := by decide +kernel
theorem dX11_way_8 : decode cX11_way 8 = .ok (.invokevirtual 376, 3) := by decide +kernel
theorem dX11_way_11 : decode cX11_way 11 = .ok (.istore 4, 2) := by decide +kernel
theorem dX11_way_13 : decode cX11_way 13 = .ok (.iload 4, 2) := by decide +kernel
theorem dX11_way_15 : decode cX11_way 15 = .ok (.ifCond .eq 6, 3) := by decide +kernel
theorem dX11_way_18 : decode cX11_way 18 = .ok (.iload 4, 2) := by decide +kernel
theorem dX11_way_20 : decode cX11_way 20 = .ok (.ireturn, 1) := by decide +kernel
theorem dX11_way_21 : decode cX11_way 21 = .ok (.iload_n 3, 1) := by decide +kernel
theorem dX11_way_22 : decode cX11_way 22 = .ok (.ifCond .ge 6, 3) := by decide +kernel
theorem dX11_way_25 : decode cX11_way 25 = .ok (.bipush (-3), 2) := by decide +kernel
theorem dX11_way_27 : decode cX11_way 27 = .ok (.ireturn, 1) := by decide +kernel
theorem dX11_way_28 : decode cX11_way 28 = .ok (.aload_n 0, 1) := by decide +kernel
theorem dX11_way_29 : decode cX11_way 29 = .ok (.iload_n 1, 1) := by decide +kernel
theorem dX11_way_30 : decode cX11_way 30 = .ok (.iload_n 2, 1) := by decide +kernel
theorem dX11_way_31 : decode cX11_way 31 = .ok (.invokevirtual 379, 3) := by decide +kernel
theorem dX11_way_34 : decode cX11_way 34 = .ok (.pop, 1) := by decide +kernel
theorem dX11_way_35 : decode cX11_way 35 = .ok (.aload_n 0, 1) := by decide +kernel
theorem dX11_way_36 : decode cX11_way 36 = .ok (.iload_n 3, 1) := by decide +kernel
theorem dX11_way_37 : decode cX11_way 37 = .ok (.invokevirtual 382, 3) := by decide +kernel
theorem dX11_way_40 : decode cX11_way 40 = .ok (.ireturn, 1) := by decide +kernel
theorem dX11_rows_0 : decode cX11_rows 0 = .ok (.aload_n 0, 1) := by decide +kernel
theorem dX11_rows_1 : decode cX11_rows 1 = .ok (.iconst 0, 1) := by decide +kernel
theorem dX11_rows_2 : decode cX11_rows 2 = .ok (.putfield 1, 3) := by decide +kernel
theorem dX11_rows_5 : decode cX11_rows 5 = .ok (.aload_n 0, 1) := by decide +kernel
theorem dX11_rows_6 : decode cX11_rows 6 = .ok (.iload_n 1, 1) := by decide +kernel
theorem dX11_rows_7 : decode cX11_rows 7 = .ok (.iload_n 2, 1) := by decide +kernel
theorem dX11_rows_8 : decode cX11_rows 8 = .ok (.invokevirtual 376, 3) := by decide +kernel
theorem dX11_rows_11 : decode cX11_rows 11 = .ok (.istore 4, 2) := by decide +kernel
theorem dX11_rows_13 : decode cX11_rows 13 = .ok (.iload 4, 2) := by decide +kernel
theorem dX11_rows_15 : decode cX11_rows 15 = .ok (.ifCond .eq 7, 3) := by decide +kernel
theorem dX11_rows_18 : decode cX11_rows 18 = .ok (.iload 4, 2) := by decide +kernel
theorem dX11_rows_20 : decode cX11_rows 20 = .ok (.i2l, 1) := by decide +kernel
theorem dX11_rows_21 : decode cX11_rows 21 = .ok (.lreturn, 1) := by decide +kernel
theorem dX11_rows_22 : decode cX11_rows 22 = .ok (.iload_n 3, 1) := by decide +kernel
theorem dX11_rows_23 : decode cX11_rows 23 = .ok (.i2l, 1) := by decide +kernel
theorem dX11_rows_24 : decode cX11_rows 24 = .ok (.lconst 0, 1) := by decide +kernel
theorem dX11_rows_25 : decode cX11_rows 25 = .ok (.ldc2_w 248, 3) := by decide +kernel
theorem dX11_rows_28 : decode cX11_rows 28 = .ok (.invokestatic 158, 3) := by decide +kernel
theorem dX11_rows_31 : decode cX11_rows 31 = .ok (.ifCond .ne 7, 3) := by decide +kernel
theorem dX11_rows_34 : decode cX11_rows 34 = .ok (.ldc2_w 385, 3) := by decide +kernel
theorem dX11_rows_37 : decode cX11_rows 37 = .ok (.lreturn, 1) := by decide +kernel
theorem dX11_rows_38 : decode cX11_rows 38 = .ok (.aload_n 0, 1) := by decide +kernel
theorem dX11_rows_39 : decode cX11_rows 39 = .ok (.iconst 0, 1) := by decide +kernel
theorem dX11_rows_40 : decode cX11_rows 40 = .ok (.invokevirtual 359, 3) := by decide +kernel
theorem dX11_rows_43 : decode cX11_rows 43 = .ok (.iconst 0, 1) := by decide +kernel
theorem dX11_rows_44 : decode cX11_rows 44 = .ok (.istore 5, 2) := by decide +kernel
theorem dX11_rows_46 : decode cX11_rows 46 = .ok (.iload 5, 2) := by decide +kernel
theorem dX11_rows_48 : decode cX11_rows 48 = .ok (.aload_n 0, 1) := by decide +kernel
theorem dX11_rows_49 : decode cX11_rows 49 = .ok (.getfield 346, 3) := by decide +kernel
theorem dX11_rows_52 : decode cX11_rows 52 = .ok (.if_icmp .ge 44, 3) := by decide +kernel
theorem dX11_rows_55 : decode cX11_rows 55 = .ok (.aload_n 0, 1) := by decide +kernel
theorem dX11_rows_56 : decode cX11_rows 56 = .ok (.getfield 52, 3) := by decide +kernel
theorem dX11_rows_59 : decode cX11_rows 59 = .ok (.aload_n 0, 1) := by decide +kernel
theorem dX11_rows_60 : decode cX11_rows 60 = .ok (.getfield 39, 3) := by decide +kernel
theorem dX11_rows_63 : decode cX11_rows 63 = .ok (.iload 5, 2) := by decide +kernel
theorem dX11_rows_65 : decode cX11_rows 65 = .ok (.iaload, 1) := by decide +kernel
theorem dX11_rows_66 : decode cX11_rows 66 = .ok (.iload 5, 2) := by decide +kernel
theorem dX11_rows_68 : decode cX11_rows 68 = .ok (.ifCond .ne 7, 3) := by decide +kernel
theorem dX11_rows_71 : decode cX11_rows 71 = .ok (.lconst 1, 1) := by decide +kernel
theorem dX11_rows_72 : decode cX11_rows 72 = .ok (.goto 4, 3) := by decide +kernel
theorem dX11_rows_75 : decode cX11_rows 75 = .ok (.lconst 0, 1) := by decide +kernel
theorem dX11_rows_76 : decode cX11_rows 76 = .ok (.lastore, 1) := by decide +kernel
theorem dX11_rows_77 : decode cX11_rows 77 = .ok (.aload_n 0, 1) := by decide +kernel
theorem dX11_rows_78 : decode cX11_rows 78 = .ok (.getfield 56, 3) := by decide +kernel
theorem dX11_rows_81 : decode cX11_rows 81 = .ok (.aload_n 0, 1) := by decide +kernel
theorem dX11_rows_82 : decode cX11_rows 82 = .ok (.getfield 39, 3) := by decide +kernel
theorem dX11_rows_85 : decode cX11_rows 85 = .ok (.iload 5, 2) := by decide +kernel
theorem dX11_rows_87 : decode cX11_rows 87 = .ok (.iaload, 1) := by decide +kernel
theorem dX11_rows_88 : decode cX11_rows 88 = .ok (.lconst 0, 1) := by decide +kernel
theorem dX11_rows_89 : decode cX11_rows 89 = .ok (.lastore, 1) := by decide +kernel
theorem dX11_rows_90 : decode cX11_rows 90 = .ok (.iinc 5 1, 3) := by decide +kernel
theorem dX11_rows_93 : decode cX11_rows 93 = .ok (.goto (-47), 3) := by decide +kernel
theorem dX11_rows_96 : decode cX11_rows 96 = .ok (.iconst 0, 1) := by decide +kernel
theorem dX11_rows_97 : decode cX11_rows 97 = .ok (.istore 5, 2) := by decide +kernel
theorem dX11_rows_99 : decode cX11_rows 99 = .ok (.iload 5, 2) := by decide +kernel
theorem dX11_rows_101 : decode cX11_rows 101 = .ok (.iload_n 3, 1) := by decide +kernel
theorem dX11_rows_102 : decode cX11_rows 102 = .ok (.if_icmp .ge 164, 3) := by decide +kernel
theorem dX11_rows_105 : decode cX11_rows 105 = .ok (.iconst 0, 1) := by decide +kernel
theorem dX11_rows_106 : decode cX11_rows 106 = .ok (.istore 6, 2) := by decide +kernel
theorem dX11_rows_108 : decode cX11_rows 108 = .ok (.iload 6, 2) := by decide +kernel
theorem dX11_rows_110 : decode cX11_rows 110 = .ok (.aload_n 0, 1) := by decide +kernel
theorem dX11_rows_111 : decode cX11_rows 111 = .ok (.getfield 346, 3) := by decide +kernel
theorem dX11_rows_114 : decode cX11_rows 114 = .ok (.if_icmp .ge 91, 3) := by decide +kernel
theorem dX11_rows_117 : decode cX11_rows 117 = .ok (.aload_n 0, 1) := by decide +kernel
theorem dX11_rows_118 : decode cX11_rows 118 = .ok (.getfield 39, 3) := by decide +kernel
theorem dX11_rows_121 : decode cX11_rows 121 = .ok (.iload 6, 2) := by decide +kernel
theorem dX11_rows_123 : decode cX11_rows 123 = .ok (.iaload, 1) := by decide +kernel
theorem dX11_rows_124 : decode cX11_rows 124 = .ok (.istore 7, 2) := by decide +kernel
theorem dX11_rows_126 : decode cX11_rows 126 = .ok (.iconst 0, 1) := by decide +kernel
theorem dX11_rows_127 : decode cX11_rows 127 = .ok (.istore 8, 2) := by decide +kernel
theorem dX11_rows_129 : decode cX11_rows 129 = .ok (.iload 8, 2) := by decide +kernel
theorem dX11_rows_131 : decode cX11_rows 131 = .ok (.bipush 15, 2) := by decide +kernel
theorem dX11_rows_133 : decode cX11_rows 133 = .ok (.if_icmp .ge 66, 3) := by decide +kernel
theorem dX11_rows_136 : decode cX11_rows 136 = .ok (.aload_n 0, 1) := by decide +kernel
theorem dX11_rows_137 : decode cX11_rows 137 = .ok (.getfield 52, 3) := by decide +kernel
theorem dX11_rows_140 : decode cX11_rows 140 = .ok (.iload 7, 2) := by decide +kernel
theorem dX11_rows_142 : decode cX11_rows 142 = .ok (.laload, 1) := by decide +kernel
theorem dX11_rows_143 : decode cX11_rows 143 = .ok (.lconst 0, 1) := by decide +kernel
theorem dX11_rows_144 : decode cX11_rows 144 = .ok (.lcmp, 1) := by decide +kernel
theorem dX11_rows_145 : decode cX11_rows 145 = .ok (.ifCond .le 54, 3) := by decide +kernel
theorem dX11_rows_148 : decode cX11_rows 148 = .ok (.aload_n 0, 1) := by decide +kernel
theorem dX11_rows_149 : decode cX11_rows 149 = .ok (.getfield 43, 3) := by decide +kernel
theorem dX11_rows_152 : decode cX11_rows 152 = .ok (.bipush 15, 2) := by decide +kernel
theorem dX11_rows_154 : decode cX11_rows 154 = .ok (.iload 7, 2) := by decide +kernel
theorem dX11_rows_156 : decode cX11_rows 156 = .ok (.imul, 1) := by decide +kernel
theorem dX11_rows_157 : decode cX11_rows 157 = .ok (.iload 8, 2) := by decide +kernel
theorem dX11_rows_159 : decode cX11_rows 159 = .ok (.iadd, 1) := by decide +kernel
theorem dX11_rows_160 : decode cX11_rows 160 = .ok (.iaload, 1) := by decide +kernel
theorem dX11_rows_161 : decode cX11_rows 161 = .ok (.iconst (-1), 1) := by decide +kernel
theorem dX11_rows_162 : decode cX11_rows 162 = .ok (.if_icmp .eq 31, 3) := by decide +kernel
theorem dX11_rows_165 : decode cX11_rows 165 = .ok (.aload_n 0, 1) := by decide +kernel
theorem dX11_rows_166 : decode cX11_rows 166 = .ok (.getfield 56, 3) := by decide +kernel
theorem dX11_rows_169 : decode cX11_rows 169 = .ok (.aload_n 0, 1) := by decide +kernel
theorem dX11_rows_170 : decode cX11_rows 170 = .ok (.getfield 43, 3) := by decide +kernel
theorem dX11_rows_173 : decode cX11_rows 173 = .ok (.bipush 15, 2) := by decide +kernel
theorem dX11_rows_175 : decode cX11_rows 175 = .ok (.iload 7, 2) := by decide +kernel
theorem dX11_rows_177 : decode cX11_rows 177 = .ok (.imul, 1) := by decide +kernel
theorem dX11_rows_178 : decode cX11_rows 178 = .ok (.iload 8, 2) := by decide +kernel
theorem dX11_rows_180 : decode cX11_rows 180 = .ok (.iadd, 1) := by decide +kernel
theorem dX11_rows_181 : decode cX11_rows 181 = .ok (.iaload, 1) := by decide +kernel
theorem dX11_rows_182 : decode cX11_rows 182 = .ok (.dup2, 1) := by decide +kernel
theorem dX11_rows_183 : decode cX11_rows 183 = .ok (.laload, 1) := by decide +kernel
theorem dX11_rows_184 : decode cX11_rows 184 = .ok (.aload_n 0, 1) := by decide +kernel
theorem dX11_rows_185 : decode cX11_rows 185 = .ok (.getfield 52, 3) := by decide +kernel
theorem dX11_rows_188 : decode cX11_rows 188 = .ok (.iload 7, 2) := by decide +kernel
theorem dX11_rows_190 : decode cX11_rows 190 = .ok (.laload, 1) := by decide +kernel
theorem dX11_rows_191 : decode cX11_rows 191 = .ok (.ladd, 1) := by decide +kernel
theorem dX11_rows_192 : decode cX11_rows 192 = .ok (.lastore, 1) := by decide +kernel
theorem dX11_rows_193 : decode cX11_rows 193 = .ok (.iinc 8 1, 3) := by decide +kernel
theorem dX11_rows_196 : decode cX11_rows 196 = .ok (.goto (-67), 3) := by decide +kernel
theorem dX11_rows_199 : decode cX11_rows 199 = .ok (.iinc 6 1, 3) := by decide +kernel
theorem dX11_rows_202 : decode cX11_rows 202 = .ok (.goto (-94), 3) := by decide +kernel
theorem dX11_rows_205 : decode cX11_rows 205 = .ok (.iconst 0, 1) := by decide +kernel
theorem dX11_rows_206 : decode cX11_rows 206 = .ok (.istore 6, 2) := by decide +kernel
theorem dX11_rows_208 : decode cX11_rows 208 = .ok (.iload 6, 2) := by decide +kernel
theorem dX11_rows_210 : decode cX11_rows 210 = .ok (.aload_n 0, 1) := by decide +kernel
theorem dX11_rows_211 : decode cX11_rows 211 = .ok (.getfield 346, 3) := by decide +kernel
theorem dX11_rows_214 : decode cX11_rows 214 = .ok (.if_icmp .ge 46, 3) := by decide +kernel
theorem dX11_rows_217 : decode cX11_rows 217 = .ok (.aload_n 0, 1) := by decide +kernel
theorem dX11_rows_218 : decode cX11_rows 218 = .ok (.getfield 52, 3) := by decide +kernel
theorem dX11_rows_221 : decode cX11_rows 221 = .ok (.aload_n 0, 1) := by decide +kernel
theorem dX11_rows_222 : decode cX11_rows 222 = .ok (.getfield 39, 3) := by decide +kernel
theorem dX11_rows_225 : decode cX11_rows 225 = .ok (.iload 6, 2) := by decide +kernel
theorem dX11_rows_227 : decode cX11_rows 227 = .ok (.iaload, 1) := by decide +kernel
theorem dX11_rows_228 : decode cX11_rows 228 = .ok (.aload_n 0, 1) := by decide +kernel
theorem dX11_rows_229 : decode cX11_rows 229 = .ok (.getfield 56, 3) := by decide +kernel
theorem dX11_rows_232 : decode cX11_rows 232 = .ok (.aload_n 0, 1) := by decide +kernel
theorem dX11_rows_233 : decode cX11_rows 233 = .ok (.getfield 39, 3) := by decide +kernel
theorem dX11_rows_236 : decode cX11_rows 236 = .ok (.iload 6, 2) := by decide +kernel
theorem dX11_rows_238 : decode cX11_rows 238 = .ok (.iaload, 1) := by decide +kernel
theorem dX11_rows_239 : decode cX11_rows 239 = .ok (.laload, 1) := by decide +kernel
theorem dX11_rows_240 : decode cX11_rows 240 = .ok (.lastore, 1) := by decide +kernel
theorem dX11_rows_241 : decode cX11_rows 241 = .ok (.aload_n 0, 1) := by decide +kernel
theorem dX11_rows_242 : decode cX11_rows 242 = .ok (.getfield 56, 3) := by decide +kernel
theorem dX11_rows_245 : decode cX11_rows 245 = .ok (.aload_n 0, 1) := by decide +kernel
theorem dX11_rows_246 : decode cX11_rows 246 = .ok (.getfield 39, 3) := by decide +kernel
theorem dX11_rows_249 : decode cX11_rows 249 = .ok (.iload 6, 2) := by decide +kernel
theorem dX11_rows_251 : decode cX11_rows 251 = .ok (.iaload, 1) := by decide +kernel
theorem dX11_rows_252 : decode cX11_rows 252 = .ok (.lconst 0, 1) := by decide +kernel
theorem dX11_rows_253 : decode cX11_rows 253 = .ok (.lastore, 1) := by decide +kernel
theorem dX11_rows_254 : decode cX11_rows 254 = .ok (.iinc 6 1, 3) := by decide +kernel
theorem dX11_rows_257 : decode cX11_rows 257 = .ok (.goto (-49), 3) := by decide +kernel
theorem dX11_rows_260 : decode cX11_rows 260 = .ok (.iinc 5 1, 3) := by decide +kernel
theorem dX11_rows_263 : decode cX11_rows 263 = .ok (.goto (-164), 3) := by decide +kernel
theorem dX11_rows_266 : decode cX11_rows 266 = .ok (.lconst 0, 1) := by decide +kernel
theorem dX11_rows_267 : decode cX11_rows 267 = .ok (.lstore 5, 2) := by decide +kernel
theorem dX11_rows_269 : decode cX11_rows 269 = .ok (.iconst 0, 1) := by decide +kernel
theorem dX11_rows_270 : decode cX11_rows 270 = .ok (.istore 7, 2) := by decide +kernel
theorem dX11_rows_272 : decode cX11_rows 272 = .ok (.iload 7, 2) := by decide +kernel
theorem dX11_rows_274 : decode cX11_rows 274 = .ok (.aload_n 0, 1) := by decide +kernel
theorem dX11_rows_275 : decode cX11_rows 275 = .ok (.getfield 346, 3) := by decide +kernel
theorem dX11_rows_278 : decode cX11_rows 278 = .ok (.if_icmp .ge 45, 3) := by decide +kernel
theorem dX11_rows_281 : decode cX11_rows 281 = .ok (.lload 5, 2) := by decide +kernel
theorem dX11_rows_283 : decode cX11_rows 283 = .ok (.aload_n 0, 1) := by decide +kernel
theorem dX11_rows_284 : decode cX11_rows 284 = .ok (.getfield 39, 3) := by decide +kernel
theorem dX11_rows_287 : decode cX11_rows 287 = .ok (.iload 7, 2) := by decide +kernel
theorem dX11_rows_289 : decode cX11_rows 289 = .ok (.iaload, 1) := by decide +kernel
theorem dX11_rows_290 : decode cX11_rows 290 = .ok (.iload_n 1, 1) := by decide +kernel
theorem dX11_rows_291 : decode cX11_rows 291 = .ok (.iload_n 2, 1) := by decide +kernel
theorem dX11_rows_292 : decode cX11_rows 292 = .ok (.invokestatic 363, 3) := by decide +kernel
theorem dX11_rows_295 : decode cX11_rows 295 = .ok (.ifCond .eq 18, 3) := by decide +kernel
theorem dX11_rows_298 : decode cX11_rows 298 = .ok (.aload_n 0, 1) := by decide +kernel
theorem dX11_rows_299 : decode cX11_rows 299 = .ok (.getfield 52, 3) := by decide +kernel
theorem dX11_rows_302 : decode cX11_rows 302 = .ok (.aload_n 0, 1) := by decide +kernel
theorem dX11_rows_303 : decode cX11_rows 303 = .ok (.getfield 39, 3) := by decide +kernel
theorem dX11_rows_306 : decode cX11_rows 306 = .ok (.iload 7, 2) := by decide +kernel
theorem dX11_rows_308 : decode cX11_rows 308 = .ok (.iaload, 1) := by decide +kernel
theorem dX11_rows_309 : decode cX11_rows 309 = .ok (.laload, 1) := by decide +kernel
theorem dX11_rows_310 : decode cX11_rows 310 = .ok (.goto 4, 3) := by decide +kernel
theorem dX11_rows_313 : decode cX11_rows 313 = .ok (.lconst 0, 1) := by decide +kernel
theorem dX11_rows_314 : decode cX11_rows 314 = .ok (.ladd, 1) := by decide +kernel
theorem dX11_rows_315 : decode cX11_rows 315 = .ok (.lstore 5, 2) := by decide +kernel
theorem dX11_rows_317 : decode cX11_rows 317 = .ok (.iinc 7 1, 3) := by decide +kernel
theorem dX11_rows_320 : decode cX11_rows 320 = .ok (.goto (-48), 3) := by decide +kernel
theorem dX11_rows_323 : decode cX11_rows 323 = .ok (.lload 5, 2) := by decide +kernel
theorem dX11_rows_325 : decode cX11_rows 325 = .ok (.lreturn, 1) := by decide +kernel
theorem dX11_highest_0 : decode cX11_highest 0 = .ok (.aload_n 0, 1) := by decide +kernel
theorem dX11_highest_1 : decode cX11_highest 1 = .ok (.iconst 0, 1) := by decide +kernel
theorem dX11_highest_2 : decode cX11_highest 2 = .ok (.putfield 1, 3) := by decide +kernel
theorem dX11_highest_5 : decode cX11_highest 5 = .ok (.aload_n 0, 1) := by decide +kernel
theorem dX11_highest_6 : decode cX11_highest 6 = .ok (.iload_n 1, 1) := by decide +kernel
theorem dX11_highest_7 : decode cX11_highest 7 = .ok (.invokevirtual 370, 3) := by decide +kernel
theorem dX11_highest_10 : decode cX11_highest 10 = .ok (.ifCond .ne 6, 3) := by decide +kernel
theorem dX11_highest_13 : decode cX11_highest 13 = .ok (.bipush (-3), 2) := by decide +kernel
theorem dX11_highest_15 : decode cX11_highest 15 = .ok (.ireturn, 1) := by decide +kernel
theorem dX11_highest_16 : decode cX11_highest 16 = .ok (.aload_n 0, 1) := by decide +kernel
theorem dX11_highest_17 : decode cX11_highest 17 = .ok (.iconst 0, 1) := by decide +kernel
theorem dX11_highest_18 : decode cX11_highest 18 = .ok (.invokevirtual 359, 3) := by decide +kernel
theorem dX11_highest_21 : decode cX11_highest 21 = .ok (.iconst (-1), 1) := by decide +kernel
theorem dX11_highest_22 : decode cX11_highest 22 = .ok (.istore_n 2, 1) := by decide +kernel
theorem dX11_highest_23 : decode cX11_highest 23 = .ok (.iconst 0, 1) := by decide +kernel
theorem dX11_highest_24 : decode cX11_highest 24 = .ok (.istore_n 3, 1) := by decide +kernel
theorem dX11_highest_25 : decode cX11_highest 25 = .ok (.iload_n 3, 1) := by decide +kernel
theorem dX11_highest_26 : decode cX11_highest 26 = .ok (.aload_n 0, 1) := by decide +kernel
theorem dX11_highest_27 : decode cX11_highest 27 = .ok (.getfield 346, 3) := by decide +kernel
theorem dX11_highest_30 : decode cX11_highest 30 = .ok (.if_icmp .ge 47, 3) := by decide +kernel
theorem dX11_highest_33 : decode cX11_highest 33 = .ok (.aload_n 0, 1) := by decide +kernel
theorem dX11_highest_34 : decode cX11_highest 34 = .ok (.getfield 39, 3) := by decide +kernel
theorem dX11_highest_37 : decode cX11_highest 37 = .ok (.iload_n 3, 1) := by decide +kernel
theorem dX11_highest_38 : decode cX11_highest 38 = .ok (.iaload, 1) := by decide +kernel
theorem dX11_highest_39 : decode cX11_highest 39 = .ok (.invokestatic 233, 3) := by decide +kernel
theorem dX11_highest_42 : decode cX11_highest 42 = .ok (.iload_n 1, 1) := by decide +kernel
theorem dX11_highest_43 : decode cX11_highest 43 = .ok (.iand, 1) := by decide +kernel
theorem dX11_highest_44 : decode cX11_highest 44 = .ok (.iload_n 1, 1) := by decide +kernel
theorem dX11_highest_45 : decode cX11_highest 45 = .ok (.if_icmp .ne 26, 3) := by decide +kernel
theorem dX11_highest_48 : decode cX11_highest 48 = .ok (.aload_n 0, 1) := by decide +kernel
theorem dX11_highest_49 : decode cX11_highest 49 = .ok (.getfield 39, 3) := by decide +kernel
theorem dX11_highest_52 : decode cX11_highest 52 = .ok (.iload_n 3, 1) := by decide +kernel
theorem dX11_highest_53 : decode cX11_highest 53 = .ok (.iaload, 1) := by decide +kernel
theorem dX11_highest_54 : decode cX11_highest 54 = .ok (.invokestatic 230, 3) := by decide +kernel
theorem dX11_highest_57 : decode cX11_highest 57 = .ok (.iload_n 2, 1) := by decide +kernel
theorem dX11_highest_58 : decode cX11_highest 58 = .ok (.if_icmp .le 13, 3) := by decide +kernel
theorem dX11_highest_61 : decode cX11_highest 61 = .ok (.aload_n 0, 1) := by decide +kernel
theorem dX11_highest_62 : decode cX11_highest 62 = .ok (.getfield 39, 3) := by decide +kernel
theorem dX11_highest_65 : decode cX11_highest 65 = .ok (.iload_n 3, 1) := by decide +kernel
theorem dX11_highest_66 : decode cX11_highest 66 = .ok (.iaload, 1) := by decide +kernel
theorem dX11_highest_67 : decode cX11_highest 67 = .ok (.invokestatic 230, 3) := by decide +kernel
theorem dX11_highest_70 : decode cX11_highest 70 = .ok (.istore_n 2, 1) := by decide +kernel
theorem dX11_highest_71 : decode cX11_highest 71 = .ok (.iinc 3 1, 3) := by decide +kernel
theorem dX11_highest_74 : decode cX11_highest 74 = .ok (.goto (-49), 3) := by decide +kernel
theorem dX11_highest_77 : decode cX11_highest 77 = .ok (.iload_n 2, 1) := by decide +kernel
theorem dX11_highest_78 : decode cX11_highest 78 = .ok (.ireturn, 1) := by decide +kernel
theorem dX11_most_0 : decode cX11_most 0 = .ok (.aload_n 0, 1) := by decide +kernel
theorem dX11_most_1 : decode cX11_most 1 = .ok (.iconst 0, 1) := by decide +kernel
theorem dX11_most_2 : decode cX11_most 2 = .ok (.putfield 1, 3) := by decide +kernel
theorem dX11_most_5 : decode cX11_most 5 = .ok (.aload_n 0, 1) := by decide +kernel
theorem dX11_most_6 : decode cX11_most 6 = .ok (.iload_n 1, 1) := by decide +kernel
theorem dX11_most_7 : decode cX11_most 7 = .ok (.invokevirtual 272, 3) := by decide +kernel
theorem dX11_most_10 : decode cX11_most 10 = .ok (.ifCond .eq 13, 3) := by decide +kernel
theorem dX11_most_13 : decode cX11_most 13 = .ok (.iload_n 2, 1) := by decide +kernel
theorem dX11_most_14 : decode cX11_most 14 = .ok (.i2l, 1) := by decide +kernel
theorem dX11_most_15 : decode cX11_most 15 = .ok (.lconst 0, 1) := by decide +kernel
theorem dX11_most_16 : decode cX11_most 16 = .ok (.lconst 1, 1) := by decide +kernel
theorem dX11_most_17 : decode cX11_most 17 = .ok (.invokestatic 158, 3) := by decide +kernel
theorem dX11_most_20 : decode cX11_most 20 = .ok (.ifCond .ne 6, 3) := by decide +kernel
theorem dX11_most_23 : decode cX11_most 23 = .ok (.bipush (-2), 2) := by decide +kernel
theorem dX11_most_25 : decode cX11_most 25 = .ok (.ireturn, 1) := by decide +kernel
theorem dX11_most_26 : decode cX11_most 26 = .ok (.aload_n 0, 1) := by decide +kernel
theorem dX11_most_27 : decode cX11_most 27 = .ok (.iconst 0, 1) := by decide +kernel
theorem dX11_most_28 : decode cX11_most 28 = .ok (.invokevirtual 359, 3) := by decide +kernel
theorem dX11_most_31 : decode cX11_most 31 = .ok (.iconst (-1), 1) := by decide +kernel
theorem dX11_most_32 : decode cX11_most 32 = .ok (.istore_n 3, 1) := by decide +kernel
theorem dX11_most_33 : decode cX11_most 33 = .ok (.iconst 0, 1) := by decide +kernel
theorem dX11_most_34 : decode cX11_most 34 = .ok (.istore 4, 2) := by decide +kernel
theorem dX11_most_36 : decode cX11_most 36 = .ok (.iload 4, 2) := by decide +kernel
theorem dX11_most_38 : decode cX11_most 38 = .ok (.aload_n 0, 1) := by decide +kernel
theorem dX11_most_39 : decode cX11_most 39 = .ok (.getfield 346, 3) := by decide +kernel
theorem dX11_most_42 : decode cX11_most 42 = .ok (.if_icmp .ge 76, 3) := by decide +kernel
theorem dX11_most_45 : decode cX11_most 45 = .ok (.aload_n 0, 1) := by decide +kernel
theorem dX11_most_46 : decode cX11_most 46 = .ok (.getfield 39, 3) := by decide +kernel
theorem dX11_most_49 : decode cX11_most 49 = .ok (.iload 4, 2) := by decide +kernel
theorem dX11_most_51 : decode cX11_most 51 = .ok (.iaload, 1) := by decide +kernel
theorem dX11_most_52 : decode cX11_most 52 = .ok (.invokestatic 230, 3) := by decide +kernel
theorem dX11_most_55 : decode cX11_most 55 = .ok (.iload_n 1, 1) := by decide +kernel
theorem dX11_most_56 : decode cX11_most 56 = .ok (.if_icmp .eq 6, 3) := by decide +kernel
theorem dX11_most_59 : decode cX11_most 59 = .ok (.goto 53, 3) := by decide +kernel
theorem dX11_most_62 : decode cX11_most 62 = .ok (.aload_n 0, 1) := by decide +kernel
theorem dX11_most_63 : decode cX11_most 63 = .ok (.getfield 39, 3) := by decide +kernel
theorem dX11_most_66 : decode cX11_most 66 = .ok (.iload 4, 2) := by decide +kernel
theorem dX11_most_68 : decode cX11_most 68 = .ok (.iaload, 1) := by decide +kernel
theorem dX11_most_69 : decode cX11_most 69 = .ok (.invokestatic 233, 3) := by decide +kernel
theorem dX11_most_72 : decode cX11_most 72 = .ok (.istore 5, 2) := by decide +kernel
theorem dX11_most_74 : decode cX11_most 74 = .ok (.iload_n 3, 1) := by decide +kernel
theorem dX11_most_75 : decode cX11_most 75 = .ok (.iconst (-1), 1) := by decide +kernel
theorem dX11_most_76 : decode cX11_most 76 = .ok (.if_icmp .eq 33, 3) := by decide +kernel
theorem dX11_most_79 : decode cX11_most 79 = .ok (.iload 5, 2) := by decide +kernel
theorem dX11_most_81 : decode cX11_most 81 = .ok (.invokestatic 240, 3) := by decide +kernel
theorem dX11_most_84 : decode cX11_most 84 = .ok (.iload_n 3, 1) := by decide +kernel
theorem dX11_most_85 : decode cX11_most 85 = .ok (.invokestatic 240, 3) := by decide +kernel
theorem dX11_most_88 : decode cX11_most 88 = .ok (.if_icmp .gt 21, 3) := by decide +kernel
theorem dX11_most_91 : decode cX11_most 91 = .ok (.iload 5, 2) := by decide +kernel
theorem dX11_most_93 : decode cX11_most 93 = .ok (.invokestatic 240, 3) := by decide +kernel
theorem dX11_most_96 : decode cX11_most 96 = .ok (.iload_n 3, 1) := by decide +kernel
theorem dX11_most_97 : decode cX11_most 97 = .ok (.invokestatic 240, 3) := by decide +kernel
theorem dX11_most_100 : decode cX11_most 100 = .ok (.if_icmp .ne 12, 3) := by decide +kernel
theorem dX11_most_103 : decode cX11_most 103 = .ok (.iload 5, 2) := by decide +kernel
theorem dX11_most_105 : decode cX11_most 105 = .ok (.iload_n 3, 1) := by decide +kernel
theorem dX11_most_106 : decode cX11_most 106 = .ok (.if_icmp .ge 6, 3) := by decide +kernel
theorem dX11_most_109 : decode cX11_most 109 = .ok (.iload 5, 2) := by decide +kernel
theorem dX11_most_111 : decode cX11_most 111 = .ok (.istore_n 3, 1) := by decide +kernel
theorem dX11_most_112 : decode cX11_most 112 = .ok (.iinc 4 1, 3) := by decide +kernel
theorem dX11_most_115 : decode cX11_most 115 = .ok (.goto (-79), 3) := by decide +kernel
theorem dX11_most_118 : decode cX11_most 118 = .ok (.iload_n 3, 1) := by decide +kernel
theorem dX11_most_119 : decode cX11_most 119 = .ok (.iconst (-1), 1) := by decide +kernel
theorem dX11_most_120 : decode cX11_most 120 = .ok (.if_icmp .eq 8, 3) := by decide +kernel
theorem dX11_most_123 : decode cX11_most 123 = .ok (.iload_n 2, 1) := by decide +kernel
theorem dX11_most_124 : decode cX11_most 124 = .ok (.iconst 1, 1) := by decide +kernel
theorem dX11_most_125 : decode cX11_most 125 = .ok (.if_icmp .ne 7, 3) := by decide +kernel
theorem dX11_most_128 : decode cX11_most 128 = .ok (.iload_n 3, 1) := by decide +kernel
theorem dX11_most_129 : decode cX11_most 129 = .ok (.goto 7, 3) := by decide +kernel
theorem dX11_most_132 : decode cX11_most 132 = .ok (.iload_n 3, 1) := by decide +kernel
theorem dX11_most_133 : decode cX11_most 133 = .ok (.invokestatic 240, 3) := by decide +kernel
theorem dX11_most_136 : decode cX11_most 136 = .ok (.ireturn, 1) := by decide +kernel
theorem dX11_loses_0 : decode cX11_loses 0 = .ok (.aload_n 0, 1) := by decide +kernel
theorem dX11_loses_1 : decode cX11_loses 1 = .ok (.iconst 0, 1) := by decide +kernel
theorem dX11_loses_2 : decode cX11_loses 2 = .ok (.putfield 1, 3) := by decide +kernel
theorem dX11_loses_5 : decode cX11_loses 5 = .ok (.aload_n 0, 1) := by decide +kernel
theorem dX11_loses_6 : decode cX11_loses 6 = .ok (.iload_n 1, 1) := by decide +kernel
theorem dX11_loses_7 : decode cX11_loses 7 = .ok (.invokevirtual 272, 3) := by decide +kernel
theorem dX11_loses_10 : decode cX11_loses 10 = .ok (.ifCond .ne 6, 3) := by decide +kernel
theorem dX11_loses_13 : decode cX11_loses 13 = .ok (.bipush (-2), 2) := by decide +kernel
theorem dX11_loses_15 : decode cX11_loses 15 = .ok (.ireturn, 1) := by decide +kernel
theorem dX11_loses_16 : decode cX11_loses 16 = .ok (.aload_n 0, 1) := by decide +kernel
theorem dX11_loses_17 : decode cX11_loses 17 = .ok (.iconst 0, 1) := by decide +kernel
theorem dX11_loses_18 : decode cX11_loses 18 = .ok (.invokevirtual 359, 3) := by decide +kernel
theorem dX11_loses_21 : decode cX11_loses 21 = .ok (.iconst 0, 1) := by decide +kernel
theorem dX11_loses_22 : decode cX11_loses 22 = .ok (.istore_n 2, 1) := by decide +kernel
theorem dX11_loses_23 : decode cX11_loses 23 = .ok (.iconst 0, 1) := by decide +kernel
theorem dX11_loses_24 : decode cX11_loses 24 = .ok (.istore_n 3, 1) := by decide +kernel
theorem dX11_loses_25 : decode cX11_loses 25 = .ok (.iconst 0, 1) := by decide +kernel
theorem dX11_loses_26 : decode cX11_loses 26 = .ok (.istore 4, 2) := by decide +kernel
theorem dX11_loses_28 : decode cX11_loses 28 = .ok (.iload 4, 2) := by decide +kernel
theorem dX11_loses_30 : decode cX11_loses 30 = .ok (.aload_n 0, 1) := by decide +kernel
theorem dX11_loses_31 : decode cX11_loses 31 = .ok (.getfield 346, 3) := by decide +kernel
theorem dX11_loses_34 : decode cX11_loses 34 = .ok (.if_icmp .ge 41, 3) := by decide +kernel
theorem dX11_loses_37 : decode cX11_loses 37 = .ok (.aload_n 0, 1) := by decide +kernel
theorem dX11_loses_38 : decode cX11_loses 38 = .ok (.getfield 39, 3) := by decide +kernel
theorem dX11_loses_41 : decode cX11_loses 41 = .ok (.iload 4, 2) := by decide +kernel
theorem dX11_loses_43 : decode cX11_loses 43 = .ok (.iaload, 1) := by decide +kernel
theorem dX11_loses_44 : decode cX11_loses 44 = .ok (.invokestatic 230, 3) := by decide +kernel
theorem dX11_loses_47 : decode cX11_loses 47 = .ok (.iload_n 1, 1) := by decide +kernel
theorem dX11_loses_48 : decode cX11_loses 48 = .ok (.if_icmp .eq 6, 3) := by decide +kernel
theorem dX11_loses_51 : decode cX11_loses 51 = .ok (.goto 18, 3) := by decide +kernel
theorem dX11_loses_54 : decode cX11_loses 54 = .ok (.iload_n 2, 1) := by decide +kernel
theorem dX11_loses_55 : decode cX11_loses 55 = .ok (.aload_n 0, 1) := by decide +kernel
theorem dX11_loses_56 : decode cX11_loses 56 = .ok (.getfield 39, 3) := by decide +kernel
theorem dX11_loses_59 : decode cX11_loses 59 = .ok (.iload 4, 2) := by decide +kernel
theorem dX11_loses_61 : decode cX11_loses 61 = .ok (.iaload, 1) := by decide +kernel
theorem dX11_loses_62 : decode cX11_loses 62 = .ok (.invokestatic 233, 3) := by decide +kernel
theorem dX11_loses_65 : decode cX11_loses 65 = .ok (.ior, 1) := by decide +kernel
theorem dX11_loses_66 : decode cX11_loses 66 = .ok (.istore_n 2, 1) := by decide +kernel
theorem dX11_loses_67 : decode cX11_loses 67 = .ok (.iconst 1, 1) := by decide +kernel
theorem dX11_loses_68 : decode cX11_loses 68 = .ok (.istore_n 3, 1) := by decide +kernel
theorem dX11_loses_69 : decode cX11_loses 69 = .ok (.iinc 4 1, 3) := by decide +kernel
theorem dX11_loses_72 : decode cX11_loses 72 = .ok (.goto (-44), 3) := by decide +kernel
theorem dX11_loses_75 : decode cX11_loses 75 = .ok (.iload_n 3, 1) := by decide +kernel
theorem dX11_loses_76 : decode cX11_loses 76 = .ok (.ifCond .eq 17, 3) := by decide +kernel
theorem dX11_loses_79 : decode cX11_loses 79 = .ok (.aload_n 0, 1) := by decide +kernel
theorem dX11_loses_80 : decode cX11_loses 80 = .ok (.getfield 13, 3) := by decide +kernel
theorem dX11_loses_83 : decode cX11_loses 83 = .ok (.bipush 38, 2) := by decide +kernel
theorem dX11_loses_85 : decode cX11_loses 85 = .ok (.iaload, 1) := by decide +kernel
theorem dX11_loses_86 : decode cX11_loses 86 = .ok (.iload_n 2, 1) := by decide +kernel
theorem dX11_loses_87 : decode cX11_loses 87 = .ok (.iconst (-1), 1) := by decide +kernel
theorem dX11_loses_88 : decode cX11_loses 88 = .ok (.ixor, 1) := by decide +kernel
theorem dX11_loses_89 : decode cX11_loses 89 = .ok (.iand, 1) := by decide +kernel
theorem dX11_loses_90 : decode cX11_loses 90 = .ok (.goto 4, 3) := by decide +kernel
theorem dX11_loses_93 : decode cX11_loses 93 = .ok (.iconst 0, 1) := by decide +kernel
theorem dX11_loses_94 : decode cX11_loses 94 = .ok (.ireturn, 1) := by decide +kernel
theorem dX11_stands_0 : decode cX11_stands 0 = .ok (.aload_n 0, 1) := by decide +kernel
theorem dX11_stands_1 : decode cX11_stands 1 = .ok (.iconst 0, 1) := by decide +kernel
theorem dX11_stands_2 : decode cX11_stands 2 = .ok (.putfield 1, 3) := by decide +kernel
theorem dX11_stands_5 : decode cX11_stands 5 = .ok (.aload_n 0, 1) := by decide +kernel
theorem dX11_stands_6 : decode cX11_stands 6 = .ok (.iconst 0, 1) := by decide +kernel
theorem dX11_stands_7 : decode cX11_stands 7 = .ok (.invokevirtual 359, 3) := by decide +kernel
theorem dX11_stands_10 : decode cX11_stands 10 = .ok (.aload_n 0, 1) := by decide +kernel
theorem dX11_stands_11 : decode cX11_stands 11 = .ok (.getfield 346, 3) := by decide +kernel
theorem dX11_stands_14 : decode cX11_stands 14 = .ok (.ireturn, 1) := by decide +kernel
theorem dX11_isLanding_0 : decode cX11_isLanding 0 = .ok (.aload_n 0, 1) := by decide +kernel
theorem dX11_isLanding_1 : decode cX11_isLanding 1 = .ok (.getfield 13, 3) := by decide +kernel
theorem dX11_isLanding_4 : decode cX11_isLanding 4 = .ok (.bipush 10, 2) := by decide +kernel
theorem dX11_isLanding_6 : decode cX11_isLanding 6 = .ok (.iload_n 1, 1) := by decide +kernel
theorem dX11_isLanding_7 : decode cX11_isLanding 7 = .ok (.iadd, 1) := by decide +kernel
theorem dX11_isLanding_8 : decode cX11_isLanding 8 = .ok (.iaload, 1) := by decide +kernel
theorem dX11_isLanding_9 : decode cX11_isLanding 9 = .ok (.aload_n 0, 1) := by decide +kernel
theorem dX11_isLanding_10 : decode cX11_isLanding 10 = .ok (.getfield 13, 3) := by decide +kernel
theorem dX11_isLanding_13 : decode cX11_isLanding 13 = .ok (.bipush 19, 2) := by decide +kernel
theorem dX11_isLanding_15 : decode cX11_isLanding 15 = .ok (.iload_n 1, 1) := by decide +kernel
theorem dX11_isLanding_16 : decode cX11_isLanding 16 = .ok (.iadd, 1) := by decide +kernel
theorem dX11_isLanding_17 : decode cX11_isLanding 17 = .ok (.iaload, 1) := by decide +kernel
theorem dX11_isLanding_18 : decode cX11_isLanding 18 = .ok (.ior, 1) := by decide +kernel
theorem dX11_isLanding_19 : decode cX11_isLanding 19 = .ok (.i2l, 1) := by decide +kernel
theorem dX11_isLanding_20 : decode cX11_isLanding 20 = .ok (.iload_n 2, 1) := by decide +kernel
theorem dX11_isLanding_21 : decode cX11_isLanding 21 = .ok (.invokestatic 265, 3) := by decide +kernel
theorem dX11_isLanding_24 : decode cX11_isLanding 24 = .ok (.ifCond .ne 7, 3) := by decide +kernel
theorem dX11_isLanding_27 : decode cX11_isLanding 27 = .ok (.iconst 1, 1) := by decide +kernel
theorem dX11_isLanding_28 : decode cX11_isLanding 28 = .ok (.goto 4, 3) := by decide +kernel
theorem dX11_isLanding_31 : decode cX11_isLanding 31 = .ok (.iconst 0, 1) := by decide +kernel
theorem dX11_isLanding_32 : decode cX11_isLanding 32 = .ok (.ireturn, 1) := by decide +kernel
theorem dX11_lands_0 : decode cX11_lands 0 = .ok (.aload_n 0, 1) := by decide +kernel
theorem dX11_lands_1 : decode cX11_lands 1 = .ok (.iconst 0, 1) := by decide +kernel
theorem dX11_lands_2 : decode cX11_lands 2 = .ok (.putfield 1, 3) := by decide +kernel
theorem dX11_lands_5 : decode cX11_lands 5 = .ok (.aload_n 0, 1) := by decide +kernel
theorem dX11_lands_6 : decode cX11_lands 6 = .ok (.iload_n 1, 1) := by decide +kernel
theorem dX11_lands_7 : decode cX11_lands 7 = .ok (.invokevirtual 272, 3) := by decide +kernel
theorem dX11_lands_10 : decode cX11_lands 10 = .ok (.ifCond .eq 12, 3) := by decide +kernel
theorem dX11_lands_13 : decode cX11_lands 13 = .ok (.aload_n 0, 1) := by decide +kernel
theorem dX11_lands_14 : decode cX11_lands 14 = .ok (.iload_n 2, 1) := by decide +kernel
theorem dX11_lands_15 : decode cX11_lands 15 = .ok (.i2l, 1) := by decide +kernel
theorem dX11_lands_16 : decode cX11_lands 16 = .ok (.invokevirtual 252, 3) := by decide +kernel
theorem dX11_lands_19 : decode cX11_lands 19 = .ok (.ifCond .ne 6, 3) := by decide +kernel
theorem dX11_lands_22 : decode cX11_lands 22 = .ok (.bipush (-2), 2) := by decide +kernel
theorem dX11_lands_24 : decode cX11_lands 24 = .ok (.ireturn, 1) := by decide +kernel
theorem dX11_lands_25 : decode cX11_lands 25 = .ok (.iload_n 1, 1) := by decide +kernel
theorem dX11_lands_26 : decode cX11_lands 26 = .ok (.iconst 1, 1) := by decide +kernel
theorem dX11_lands_27 : decode cX11_lands 27 = .ok (.isub, 1) := by decide +kernel
theorem dX11_lands_28 : decode cX11_lands 28 = .ok (.istore_n 3, 1) := by decide +kernel
theorem dX11_lands_29 : decode cX11_lands 29 = .ok (.iload_n 3, 1) := by decide +kernel
theorem dX11_lands_30 : decode cX11_lands 30 = .ok (.ifCond .lt 20, 3) := by decide +kernel
theorem dX11_lands_33 : decode cX11_lands 33 = .ok (.aload_n 0, 1) := by decide +kernel
theorem dX11_lands_34 : decode cX11_lands 34 = .ok (.iload_n 3, 1) := by decide +kernel
theorem dX11_lands_35 : decode cX11_lands 35 = .ok (.iload_n 2, 1) := by decide +kernel
theorem dX11_lands_36 : decode cX11_lands 36 = .ok (.invokevirtual 387, 3) := by decide +kernel
theorem dX11_lands_39 : decode cX11_lands 39 = .ok (.ifCond .eq 5, 3) := by decide +kernel
theorem dX11_lands_42 : decode cX11_lands 42 = .ok (.iload_n 3, 1) := by decide +kernel
theorem dX11_lands_43 : decode cX11_lands 43 = .ok (.ireturn, 1) := by decide +kernel
theorem dX11_lands_44 : decode cX11_lands 44 = .ok (.iinc 3 (-1), 3) := by decide +kernel
theorem dX11_lands_47 : decode cX11_lands 47 = .ok (.goto (-18), 3) := by decide +kernel
theorem dX11_lands_50 : decode cX11_lands 50 = .ok (.iconst (-1), 1) := by decide +kernel
theorem dX11_lands_51 : decode cX11_lands 51 = .ok (.ireturn, 1) := by decide +kernel
theorem dX11_goesShare_0 : decode cX11_goesShare 0 = .ok (.iload_n 1, 1) := by decide +kernel
theorem dX11_goesShare_1 : decode cX11_goesShare 1 = .ok (.aload_n 0, 1) := by decide +kernel
theorem dX11_goesShare_2 : decode cX11_goesShare 2 = .ok (.getfield 13, 3) := by decide +kernel
theorem dX11_goesShare_5 : decode cX11_goesShare 5 = .ok (.iconst 2, 1) := by decide +kernel
theorem dX11_goesShare_6 : decode cX11_goesShare 6 = .ok (.iaload, 1) := by decide +kernel
theorem dX11_goesShare_7 : decode cX11_goesShare 7 = .ok (.if_icmp .ne 50, 3) := by decide +kernel
theorem dX11_goesShare_10 : decode cX11_goesShare 10 = .ok (.iload 5, 2) := by decide +kernel
theorem dX11_goesShare_12 : decode cX11_goesShare 12 = .ok (.aload_n 0, 1) := by decide +kernel
theorem dX11_goesShare_13 : decode cX11_goesShare 13 = .ok (.getfield 390, 3) := by decide +kernel
theorem dX11_goesShare_16 : decode cX11_goesShare 16 = .ok (.if_icmp .gt 4, 3) := by decide +kernel
theorem dX11_goesShare_19 : decode cX11_goesShare 19 = .ok (.return_, 1) := by decide +kernel
theorem dX11_goesShare_20 : decode cX11_goesShare 20 = .ok (.aload_n 0, 1) := by decide +kernel
theorem dX11_goesShare_21 : decode cX11_goesShare 21 = .ok (.iload 5, 2) := by decide +kernel
theorem dX11_goesShare_23 : decode cX11_goesShare 23 = .ok (.putfield 390, 3) := by decide +kernel
theorem dX11_goesShare_26 : decode cX11_goesShare 26 = .ok (.iconst 0, 1) := by decide +kernel
theorem dX11_goesShare_27 : decode cX11_goesShare 27 = .ok (.istore 6, 2) := by decide +kernel
theorem dX11_goesShare_29 : decode cX11_goesShare 29 = .ok (.iload 6, 2) := by decide +kernel
theorem dX11_goesShare_31 : decode cX11_goesShare 31 = .ok (.bipush 6, 2) := by decide +kernel
theorem dX11_goesShare_33 : decode cX11_goesShare 33 = .ok (.if_icmp .ge 23, 3) := by decide +kernel
theorem dX11_goesShare_36 : decode cX11_goesShare 36 = .ok (.aload_n 0, 1) := by decide +kernel
theorem dX11_goesShare_37 : decode cX11_goesShare 37 = .ok (.getfield 62, 3) := by decide +kernel
theorem dX11_goesShare_40 : decode cX11_goesShare 40 = .ok (.iload 6, 2) := by decide +kernel
theorem dX11_goesShare_42 : decode cX11_goesShare 42 = .ok (.aload_n 0, 1) := by decide +kernel
theorem dX11_goesShare_43 : decode cX11_goesShare 43 = .ok (.getfield 59, 3) := by decide +kernel
theorem dX11_goesShare_46 : decode cX11_goesShare 46 = .ok (.iload 6, 2) := by decide +kernel
theorem dX11_goesShare_48 : decode cX11_goesShare 48 = .ok (.iaload, 1) := by decide +kernel
theorem dX11_goesShare_49 : decode cX11_goesShare 49 = .ok (.iastore, 1) := by decide +kernel
theorem dX11_goesShare_50 : decode cX11_goesShare 50 = .ok (.iinc 6 1, 3) := by decide +kernel
theorem dX11_goesShare_53 : decode cX11_goesShare 53 = .ok (.goto (-24), 3) := by decide +kernel
theorem dX11_goesShare_56 : decode cX11_goesShare 56 = .ok (.return_, 1) := by decide +kernel
theorem dX11_goesShare_57 : decode cX11_goesShare 57 = .ok (.iconst 0, 1) := by decide +kernel
theorem dX11_goesShare_58 : decode cX11_goesShare 58 = .ok (.istore 6, 2) := by decide +kernel
theorem dX11_goesShare_60 : decode cX11_goesShare 60 = .ok (.iload 6, 2) := by decide +kernel
theorem dX11_goesShare_62 : decode cX11_goesShare 62 = .ok (.iload_n 2, 1) := by decide +kernel
theorem dX11_goesShare_63 : decode cX11_goesShare 63 = .ok (.if_icmp .ge 70, 3) := by decide +kernel
theorem dX11_goesShare_66 : decode cX11_goesShare 66 = .ok (.iload_n 3, 1) := by decide +kernel
theorem dX11_goesShare_67 : decode cX11_goesShare 67 = .ok (.i2l, 1) := by decide +kernel
theorem dX11_goesShare_68 : decode cX11_goesShare 68 = .ok (.iload_n 1, 1) := by decide +kernel
theorem dX11_goesShare_69 : decode cX11_goesShare 69 = .ok (.invokestatic 265, 3) := by decide +kernel
theorem dX11_goesShare_72 : decode cX11_goesShare 72 = .ok (.ifCond .eq 61, 3) := by decide +kernel
theorem dX11_goesShare_75 : decode cX11_goesShare 75 = .ok (.iload 4, 2) := by decide +kernel
theorem dX11_goesShare_77 : decode cX11_goesShare 77 = .ok (.i2l, 1) := by decide +kernel
theorem dX11_goesShare_78 : decode cX11_goesShare 78 = .ok (.iload 6, 2) := by decide +kernel
theorem dX11_goesShare_80 : decode cX11_goesShare 80 = .ok (.invokestatic 265, 3) := by decide +kernel
theorem dX11_goesShare_83 : decode cX11_goesShare 83 = .ok (.ifCond .ne 44, 3) := by decide +kernel
theorem dX11_goesShare_86 : decode cX11_goesShare 86 = .ok (.aload_n 0, 1) := by decide +kernel
theorem dX11_goesShare_87 : decode cX11_goesShare 87 = .ok (.iload 6, 2) := by decide +kernel
theorem dX11_goesShare_89 : decode cX11_goesShare 89 = .ok (.iload_n 1, 1) := by decide +kernel
theorem dX11_goesShare_90 : decode cX11_goesShare 90 = .ok (.invokevirtual 387, 3) := by decide +kernel
theorem dX11_goesShare_93 : decode cX11_goesShare 93 = .ok (.ifCond .ne 6, 3) := by decide +kernel
theorem dX11_goesShare_96 : decode cX11_goesShare 96 = .ok (.goto 31, 3) := by decide +kernel
theorem dX11_goesShare_99 : decode cX11_goesShare 99 = .ok (.aload_n 0, 1) := by decide +kernel
theorem dX11_goesShare_100 : decode cX11_goesShare 100 = .ok (.getfield 59, 3) := by decide +kernel
theorem dX11_goesShare_103 : decode cX11_goesShare 103 = .ok (.iload_n 1, 1) := by decide +kernel
theorem dX11_goesShare_104 : decode cX11_goesShare 104 = .ok (.iload 6, 2) := by decide +kernel
theorem dX11_goesShare_106 : decode cX11_goesShare 106 = .ok (.iastore, 1) := by decide +kernel
theorem dX11_goesShare_107 : decode cX11_goesShare 107 = .ok (.aload_n 0, 1) := by decide +kernel
theorem dX11_goesShare_108 : decode cX11_goesShare 108 = .ok (.iload_n 1, 1) := by decide +kernel
theorem dX11_goesShare_109 : decode cX11_goesShare 109 = .ok (.iconst 1, 1) := by decide +kernel
theorem dX11_goesShare_110 : decode cX11_goesShare 110 = .ok (.iadd, 1) := by decide +kernel
theorem dX11_goesShare_111 : decode cX11_goesShare 111 = .ok (.iload_n 2, 1) := by decide +kernel
theorem dX11_goesShare_112 : decode cX11_goesShare 112 = .ok (.iload_n 3, 1) := by decide +kernel
theorem dX11_goesShare_113 : decode cX11_goesShare 113 = .ok (.iload 4, 2) := by decide +kernel
theorem dX11_goesShare_115 : decode cX11_goesShare 115 = .ok (.iconst 1, 1) := by decide +kernel
theorem dX11_goesShare_116 : decode cX11_goesShare 116 = .ok (.iload 6, 2) := by decide +kernel
theorem dX11_goesShare_118 : decode cX11_goesShare 118 = .ok (.ishl, 1) := by decide +kernel
theorem dX11_goesShare_119 : decode cX11_goesShare 119 = .ok (.ior, 1) := by decide +kernel
theorem dX11_goesShare_120 : decode cX11_goesShare 120 = .ok (.iload 5, 2) := by decide +kernel
theorem dX11_goesShare_122 : decode cX11_goesShare 122 = .ok (.iconst 1, 1) := by decide +kernel
theorem dX11_goesShare_123 : decode cX11_goesShare 123 = .ok (.iadd, 1) := by decide +kernel
theorem dX11_goesShare_124 : decode cX11_goesShare 124 = .ok (.invokevirtual 393, 3) := by decide +kernel
theorem dX11_goesShare_127 : decode cX11_goesShare 127 = .ok (.iinc 6 1, 3) := by decide +kernel
theorem dX11_goesShare_130 : decode cX11_goesShare 130 = .ok (.goto (-70), 3) := by decide +kernel
theorem dX11_goesShare_133 : decode cX11_goesShare 133 = .ok (.aload_n 0, 1) := by decide +kernel
theorem dX11_goesShare_134 : decode cX11_goesShare 134 = .ok (.getfield 59, 3) := by decide +kernel
theorem dX11_goesShare_137 : decode cX11_goesShare 137 = .ok (.iload_n 1, 1) := by decide +kernel
theorem dX11_goesShare_138 : decode cX11_goesShare 138 = .ok (.iconst (-1), 1) := by decide +kernel
theorem dX11_goesShare_139 : decode cX11_goesShare 139 = .ok (.iastore, 1) := by decide +kernel
theorem dX11_goesShare_140 : decode cX11_goesShare 140 = .ok (.aload_n 0, 1) := by decide +kernel
theorem dX11_goesShare_141 : decode cX11_goesShare 141 = .ok (.iload_n 1, 1) := by decide +kernel
theorem dX11_goesShare_142 : decode cX11_goesShare 142 = .ok (.iconst 1, 1) := by decide +kernel
theorem dX11_goesShare_143 : decode cX11_goesShare 143 = .ok (.iadd, 1) := by decide +kernel
theorem dX11_goesShare_144 : decode cX11_goesShare 144 = .ok (.iload_n 2, 1) := by decide +kernel
theorem dX11_goesShare_145 : decode cX11_goesShare 145 = .ok (.iload_n 3, 1) := by decide +kernel
theorem dX11_goesShare_146 : decode cX11_goesShare 146 = .ok (.iload 4, 2) := by decide +kernel
theorem dX11_goesShare_148 : decode cX11_goesShare 148 = .ok (.iload 5, 2) := by decide +kernel
theorem dX11_goesShare_150 : decode cX11_goesShare 150 = .ok (.invokevirtual 393, 3) := by decide +kernel
theorem dX11_goesShare_153 : decode cX11_goesShare 153 = .ok (.return_, 1) := by decide +kernel
theorem dX11_shares_0 : decode cX11_shares 0 = .ok (.aload_n 0, 1) := by decide +kernel
theorem dX11_shares_1 : decode cX11_shares 1 = .ok (.iconst 0, 1) := by decide +kernel
theorem dX11_shares_2 : decode cX11_shares 2 = .ok (.putfield 1, 3) := by decide +kernel
theorem dX11_shares_5 : decode cX11_shares 5 = .ok (.aload_n 0, 1) := by decide +kernel
theorem dX11_shares_6 : decode cX11_shares 6 = .ok (.iload_n 1, 1) := by decide +kernel
theorem dX11_shares_7 : decode cX11_shares 7 = .ok (.invokevirtual 272, 3) := by decide +kernel
theorem dX11_shares_10 : decode cX11_shares 10 = .ok (.ifCond .eq 25, 3) := by decide +kernel
theorem dX11_shares_13 : decode cX11_shares 13 = .ok (.iload_n 3, 1) := by decide +kernel
theorem dX11_shares_14 : decode cX11_shares 14 = .ok (.ifCond .eq 24, 3) := by decide +kernel
theorem dX11_shares_17 : decode cX11_shares 17 = .ok (.iload_n 3, 1) := by decide +kernel
theorem dX11_shares_18 : decode cX11_shares 18 = .ok (.bipush 10, 2) := by decide +kernel
theorem dX11_shares_20 : decode cX11_shares 20 = .ok (.if_icmp .lt 15, 3) := by decide +kernel
theorem dX11_shares_23 : decode cX11_shares 23 = .ok (.aload_n 0, 1) := by decide +kernel
theorem dX11_shares_24 : decode cX11_shares 24 = .ok (.iload_n 3, 1) := by decide +kernel
theorem dX11_shares_25 : decode cX11_shares 25 = .ok (.bipush 10, 2) := by decide +kernel
theorem dX11_shares_27 : decode cX11_shares 27 = .ok (.isub, 1) := by decide +kernel
theorem dX11_shares_28 : decode cX11_shares 28 = .ok (.i2l, 1) := by decide +kernel
theorem dX11_shares_29 : decode cX11_shares 29 = .ok (.invokevirtual 252, 3) := by decide +kernel
theorem dX11_shares_32 : decode cX11_shares 32 = .ok (.ifCond .ne 6, 3) := by decide +kernel
theorem dX11_shares_35 : decode cX11_shares 35 = .ok (.bipush (-2), 2) := by decide +kernel
theorem dX11_shares_37 : decode cX11_shares 37 = .ok (.ireturn, 1) := by decide +kernel
theorem dX11_shares_38 : decode cX11_shares 38 = .ok (.aload_n 0, 1) := by decide +kernel
theorem dX11_shares_39 : decode cX11_shares 39 = .ok (.iload_n 2, 1) := by decide +kernel
theorem dX11_shares_40 : decode cX11_shares 40 = .ok (.invokevirtual 370, 3) := by decide +kernel
theorem dX11_shares_43 : decode cX11_shares 43 = .ok (.ifCond .ne 6, 3) := by decide +kernel
theorem dX11_shares_46 : decode cX11_shares 46 = .ok (.bipush (-3), 2) := by decide +kernel
theorem dX11_shares_48 : decode cX11_shares 48 = .ok (.ireturn, 1) := by decide +kernel
theorem dX11_shares_49 : decode cX11_shares 49 = .ok (.aload_n 0, 1) := by decide +kernel
theorem dX11_shares_50 : decode cX11_shares 50 = .ok (.iconst (-1), 1) := by decide +kernel
theorem dX11_shares_51 : decode cX11_shares 51 = .ok (.putfield 390, 3) := by decide +kernel
theorem dX11_shares_54 : decode cX11_shares 54 = .ok (.aload_n 0, 1) := by decide +kernel
theorem dX11_shares_55 : decode cX11_shares 55 = .ok (.iconst 0, 1) := by decide +kernel
theorem dX11_shares_56 : decode cX11_shares 56 = .ok (.iload_n 1, 1) := by decide +kernel
theorem dX11_shares_57 : decode cX11_shares 57 = .ok (.iload_n 2, 1) := by decide +kernel
theorem dX11_shares_58 : decode cX11_shares 58 = .ok (.iconst 0, 1) := by decide +kernel
theorem dX11_shares_59 : decode cX11_shares 59 = .ok (.iconst 0, 1) := by decide +kernel
theorem dX11_shares_60 : decode cX11_shares 60 = .ok (.invokevirtual 393, 3) := by decide +kernel
theorem dX11_shares_63 : decode cX11_shares 63 = .ok (.iload_n 3, 1) := by decide +kernel
theorem dX11_shares_64 : decode cX11_shares 64 = .ok (.ifCond .ne 10, 3) := by decide +kernel
theorem dX11_shares_67 : decode cX11_shares 67 = .ok (.aload_n 0, 1) := by decide +kernel
theorem dX11_shares_68 : decode cX11_shares 68 = .ok (.getfield 390, 3) := by decide +kernel
theorem dX11_shares_71 : decode cX11_shares 71 = .ok (.goto 12, 3) := by decide +kernel
theorem dX11_shares_74 : decode cX11_shares 74 = .ok (.aload_n 0, 1) := by decide +kernel
theorem dX11_shares_75 : decode cX11_shares 75 = .ok (.getfield 62, 3) := by decide +kernel
theorem dX11_shares_78 : decode cX11_shares 78 = .ok (.iload_n 3, 1) := by decide +kernel
theorem dX11_shares_79 : decode cX11_shares 79 = .ok (.bipush 10, 2) := by decide +kernel
theorem dX11_shares_81 : decode cX11_shares 81 = .ok (.isub, 1) := by decide +kernel
theorem dX11_shares_82 : decode cX11_shares 82 = .ok (.iaload, 1) := by decide +kernel
theorem dX11_shares_83 : decode cX11_shares 83 = .ok (.ireturn, 1) := by decide +kernel
theorem dX11_laysRow_0 : decode cX11_laysRow 0 = .ok (.iconst 0, 1) := by decide +kernel
theorem dX11_laysRow_1 : decode cX11_laysRow 1 = .ok (.istore_n 1, 1) := by decide +kernel
theorem dX11_laysRow_2 : decode cX11_laysRow 2 = .ok (.iload_n 1, 1) := by decide +kernel
theorem dX11_laysRow_3 : decode cX11_laysRow 3 = .ok (.sipush 2880, 3) := by decide +kernel
theorem dX11_laysRow_6 : decode cX11_laysRow 6 = .ok (.if_icmp .ge 16, 3) := by decide +kernel
theorem dX11_laysRow_9 : decode cX11_laysRow 9 = .ok (.aload_n 0, 1) := by decide +kernel
theorem dX11_laysRow_10 : decode cX11_laysRow 10 = .ok (.getfield 68, 3) := by decide +kernel
theorem dX11_laysRow_13 : decode cX11_laysRow 13 = .ok (.iload_n 1, 1) := by decide +kernel
theorem dX11_laysRow_14 : decode cX11_laysRow 14 = .ok (.iconst (-1), 1) := by decide +kernel
theorem dX11_laysRow_15 : decode cX11_laysRow 15 = .ok (.iastore, 1) := by decide +kernel
theorem dX11_laysRow_16 : decode cX11_laysRow 16 = .ok (.iinc 1 1, 3) := by decide +kernel
theorem dX11_laysRow_19 : decode cX11_laysRow 19 = .ok (.goto (-17), 3) := by decide +kernel
theorem dX11_laysRow_22 : decode cX11_laysRow 22 = .ok (.aload_n 0, 1) := by decide +kernel
theorem dX11_laysRow_23 : decode cX11_laysRow 23 = .ok (.invokevirtual 279, 3) := by decide +kernel
theorem dX11_laysRow_26 : decode cX11_laysRow 26 = .ok (.istore_n 1, 1) := by decide +kernel
theorem dX11_laysRow_27 : decode cX11_laysRow 27 = .ok (.iconst 0, 1) := by decide +kernel
theorem dX11_laysRow_28 : decode cX11_laysRow 28 = .ok (.istore_n 2, 1) := by decide +kernel
theorem dX11_laysRow_29 : decode cX11_laysRow 29 = .ok (.aload_n 0, 1) := by decide +kernel
theorem dX11_laysRow_30 : decode cX11_laysRow 30 = .ok (.getfield 68, 3) := by decide +kernel
theorem dX11_laysRow_33 : decode cX11_laysRow 33 = .ok (.iload_n 1, 1) := by decide +kernel
theorem dX11_laysRow_34 : decode cX11_laysRow 34 = .ok (.iaload, 1) := by decide +kernel
theorem dX11_laysRow_35 : decode cX11_laysRow 35 = .ok (.iconst (-1), 1) := by decide +kernel
theorem dX11_laysRow_36 : decode cX11_laysRow 36 = .ok (.if_icmp .ne 41, 3) := by decide +kernel
theorem dX11_laysRow_39 : decode cX11_laysRow 39 = .ok (.aload_n 0, 1) := by decide +kernel
theorem dX11_laysRow_40 : decode cX11_laysRow 40 = .ok (.getfield 68, 3) := by decide +kernel
theorem dX11_laysRow_43 : decode cX11_laysRow 43 = .ok (.iload_n 1, 1) := by decide +kernel
theorem dX11_laysRow_44 : decode cX11_laysRow 44 = .ok (.iload_n 2, 1) := by decide +kernel
theorem dX11_laysRow_45 : decode cX11_laysRow 45 = .ok (.iastore, 1) := by decide +kernel
theorem dX11_laysRow_46 : decode cX11_laysRow 46 = .ok (.aload_n 0, 1) := by decide +kernel
theorem dX11_laysRow_47 : decode cX11_laysRow 47 = .ok (.getfield 65, 3) := by decide +kernel
theorem dX11_laysRow_50 : decode cX11_laysRow 50 = .ok (.iload_n 2, 1) := by decide +kernel
theorem dX11_laysRow_51 : decode cX11_laysRow 51 = .ok (.iload_n 1, 1) := by decide +kernel
theorem dX11_laysRow_52 : decode cX11_laysRow 52 = .ok (.iastore, 1) := by decide +kernel
theorem dX11_laysRow_53 : decode cX11_laysRow 53 = .ok (.iinc 2 1, 3) := by decide +kernel
theorem dX11_laysRow_56 : decode cX11_laysRow 56 = .ok (.aload_n 0, 1) := by decide +kernel
theorem dX11_laysRow_57 : decode cX11_laysRow 57 = .ok (.iload_n 1, 1) := by decide +kernel
theorem dX11_laysRow_58 : decode cX11_laysRow 58 = .ok (.aload_n 0, 1) := by decide +kernel
theorem dX11_laysRow_59 : decode cX11_laysRow 59 = .ok (.iload_n 1, 1) := by decide +kernel
theorem dX11_laysRow_60 : decode cX11_laysRow 60 = .ok (.invokevirtual 307, 3) := by decide +kernel
theorem dX11_laysRow_63 : decode cX11_laysRow 63 = .ok (.aload_n 0, 1) := by decide +kernel
theorem dX11_laysRow_64 : decode cX11_laysRow 64 = .ok (.getfield 13, 3) := by decide +kernel
theorem dX11_laysRow_67 : decode cX11_laysRow 67 = .ok (.bipush 40, 2) := by decide +kernel
theorem dX11_laysRow_69 : decode cX11_laysRow 69 = .ok (.iaload, 1) := by decide +kernel
theorem dX11_laysRow_70 : decode cX11_laysRow 70 = .ok (.invokevirtual 288, 3) := by decide +kernel
theorem dX11_laysRow_73 : decode cX11_laysRow 73 = .ok (.istore_n 1, 1) := by decide +kernel
theorem dX11_laysRow_74 : decode cX11_laysRow 74 = .ok (.goto (-45), 3) := by decide +kernel
theorem dX11_laysRow_77 : decode cX11_laysRow 77 = .ok (.aload_n 0, 1) := by decide +kernel
theorem dX11_laysRow_78 : decode cX11_laysRow 78 = .ok (.aload_n 0, 1) := by decide +kernel
theorem dX11_laysRow_79 : decode cX11_laysRow 79 = .ok (.getfield 68, 3) := by decide +kernel
theorem dX11_laysRow_82 : decode cX11_laysRow 82 = .ok (.iload_n 1, 1) := by decide +kernel
theorem dX11_laysRow_83 : decode cX11_laysRow 83 = .ok (.iaload, 1) := by decide +kernel
theorem dX11_laysRow_84 : decode cX11_laysRow 84 = .ok (.putfield 397, 3) := by decide +kernel
theorem dX11_laysRow_87 : decode cX11_laysRow 87 = .ok (.aload_n 0, 1) := by decide +kernel
theorem dX11_laysRow_88 : decode cX11_laysRow 88 = .ok (.iload_n 2, 1) := by decide +kernel
theorem dX11_laysRow_89 : decode cX11_laysRow 89 = .ok (.aload_n 0, 1) := by decide +kernel
theorem dX11_laysRow_90 : decode cX11_laysRow 90 = .ok (.getfield 397, 3) := by decide +kernel
theorem dX11_laysRow_93 : decode cX11_laysRow 93 = .ok (.isub, 1) := by decide +kernel
theorem dX11_laysRow_94 : decode cX11_laysRow 94 = .ok (.putfield 400, 3) := by decide +kernel
theorem dX11_laysRow_97 : decode cX11_laysRow 97 = .ok (.return_, 1) := by decide +kernel
theorem dX11_lies_0 : decode cX11_lies 0 = .ok (.aload_n 0, 1) := by decide +kernel
theorem dX11_lies_1 : decode cX11_lies 1 = .ok (.iconst 0, 1) := by decide +kernel
theorem dX11_lies_2 : decode cX11_lies 2 = .ok (.putfield 1, 3) := by decide +kernel
theorem dX11_lies_5 : decode cX11_lies 5 = .ok (.iload_n 1, 1) := by decide +kernel
theorem dX11_lies_6 : decode cX11_lies 6 = .ok (.i2l, 1) := by decide +kernel
theorem dX11_lies_7 : decode cX11_lies 7 = .ok (.lconst 0, 1) := by decide +kernel
theorem dX11_lies_8 : decode cX11_lies 8 = .ok (.ldc2_w 403, 3) := by decide +kernel
theorem dX11_lies_11 : decode cX11_lies 11 = .ok (.invokestatic 158, 3) := by decide +kernel
theorem dX11_lies_14 : decode cX11_lies 14 = .ok (.ifCond .ne 6, 3) := by decide +kernel
theorem dX11_lies_17 : decode cX11_lies 17 = .ok (.bipush (-3), 2) := by decide +kernel
theorem dX11_lies_19 : decode cX11_lies 19 = .ok (.ireturn, 1) := by decide +kernel
theorem dX11_lies_20 : decode cX11_lies 20 = .ok (.aload_n 0, 1) := by decide +kernel
theorem dX11_lies_21 : decode cX11_lies 21 = .ok (.invokevirtual 405, 3) := by decide +kernel
theorem dX11_lies_24 : decode cX11_lies 24 = .ok (.aload_n 0, 1) := by decide +kernel
theorem dX11_lies_25 : decode cX11_lies 25 = .ok (.getfield 65, 3) := by decide +kernel
theorem dX11_lies_28 : decode cX11_lies 28 = .ok (.iload_n 1, 1) := by decide +kernel
theorem dX11_lies_29 : decode cX11_lies 29 = .ok (.aload_n 0, 1) := by decide +kernel
theorem dX11_lies_30 : decode cX11_lies 30 = .ok (.getfield 397, 3) := by decide +kernel
theorem dX11_lies_33 : decode cX11_lies 33 = .ok (.if_icmp .ge 7, 3) := by decide +kernel
theorem dX11_lies_36 : decode cX11_lies 36 = .ok (.iload_n 1, 1) := by decide +kernel
theorem dX11_lies_37 : decode cX11_lies 37 = .ok (.goto 19, 3) := by decide +kernel
theorem dX11_lies_40 : decode cX11_lies 40 = .ok (.aload_n 0, 1) := by decide +kernel
theorem dX11_lies_41 : decode cX11_lies 41 = .ok (.getfield 397, 3) := by decide +kernel
theorem dX11_lies_44 : decode cX11_lies 44 = .ok (.iload_n 1, 1) := by decide +kernel
theorem dX11_lies_45 : decode cX11_lies 45 = .ok (.aload_n 0, 1) := by decide +kernel
theorem dX11_lies_46 : decode cX11_lies 46 = .ok (.getfield 397, 3) := by decide +kernel
theorem dX11_lies_49 : decode cX11_lies 49 = .ok (.isub, 1) := by decide +kernel
theorem dX11_lies_50 : decode cX11_lies 50 = .ok (.aload_n 0, 1) := by decide +kernel
theorem dX11_lies_51 : decode cX11_lies 51 = .ok (.getfield 400, 3) := by decide +kernel
theorem dX11_lies_54 : decode cX11_lies 54 = .ok (.irem, 1) := by decide +kernel
theorem dX11_lies_55 : decode cX11_lies 55 = .ok (.iadd, 1) := by decide +kernel
theorem dX11_lies_56 : decode cX11_lies 56 = .ok (.iaload, 1) := by decide +kernel
theorem dX11_lies_57 : decode cX11_lies 57 = .ok (.invokestatic 230, 3) := by decide +kernel
theorem dX11_lies_60 : decode cX11_lies 60 = .ok (.ireturn, 1) := by decide +kernel
theorem dX11_round_0 : decode cX11_round 0 = .ok (.aload_n 0, 1) := by decide +kernel
theorem dX11_round_1 : decode cX11_round 1 = .ok (.iconst 0, 1) := by decide +kernel
theorem dX11_round_2 : decode cX11_round 2 = .ok (.putfield 1, 3) := by decide +kernel
theorem dX11_round_5 : decode cX11_round 5 = .ok (.iload_n 1, 1) := by decide +kernel
theorem dX11_round_6 : decode cX11_round 6 = .ok (.i2l, 1) := by decide +kernel
theorem dX11_round_7 : decode cX11_round 7 = .ok (.lconst 0, 1) := by decide +kernel
theorem dX11_round_8 : decode cX11_round 8 = .ok (.lconst 1, 1) := by decide +kernel
theorem dX11_round_9 : decode cX11_round 9 = .ok (.invokestatic 158, 3) := by decide +kernel
theorem dX11_round_12 : decode cX11_round 12 = .ok (.ifCond .ne 6, 3) := by decide +kernel
theorem dX11_round_15 : decode cX11_round 15 = .ok (.bipush (-2), 2) := by decide +kernel
theorem dX11_round_17 : decode cX11_round 17 = .ok (.ireturn, 1) := by decide +kernel
theorem dX11_round_18 : decode cX11_round 18 = .ok (.aload_n 0, 1) := by decide +kernel
theorem dX11_round_19 : decode cX11_round 19 = .ok (.invokevirtual 405, 3) := by decide +kernel
theorem dX11_round_22 : decode cX11_round 22 = .ok (.iload_n 1, 1) := by decide +kernel
theorem dX11_round_23 : decode cX11_round 23 = .ok (.ifCond .ne 10, 3) := by decide +kernel
theorem dX11_round_26 : decode cX11_round 26 = .ok (.aload_n 0, 1) := by decide +kernel
theorem dX11_round_27 : decode cX11_round 27 = .ok (.getfield 397, 3) := by decide +kernel
theorem dX11_round_30 : decode cX11_round 30 = .ok (.goto 7, 3) := by decide +kernel
theorem dX11_round_33 : decode cX11_round 33 = .ok (.aload_n 0, 1) := by decide +kernel
theorem dX11_round_34 : decode cX11_round 34 = .ok (.getfield 400, 3) := by decide +kernel
theorem dX11_round_37 : decode cX11_round 37 = .ok (.ireturn, 1) := by decide +kernel
theorem dX11_when_0 : decode cX11_when 0 = .ok (.aload_n 0, 1) := by decide +kernel
theorem dX11_when_1 : decode cX11_when 1 = .ok (.iconst 0, 1) := by decide +kernel
theorem dX11_when_2 : decode cX11_when 2 = .ok (.putfield 1, 3) := by decide +kernel
theorem dX11_when_5 : decode cX11_when 5 = .ok (.aload_n 0, 1) := by decide +kernel
theorem dX11_when_6 : decode cX11_when 6 = .ok (.iload_n 1, 1) := by decide +kernel
theorem dX11_when_7 : decode cX11_when 7 = .ok (.invokevirtual 272, 3) := by decide +kernel
theorem dX11_when_10 : decode cX11_when 10 = .ok (.ifCond .ne 6, 3) := by decide +kernel
theorem dX11_when_13 : decode cX11_when 13 = .ok (.bipush (-2), 2) := by decide +kernel
theorem dX11_when_15 : decode cX11_when 15 = .ok (.ireturn, 1) := by decide +kernel
theorem dX11_when_16 : decode cX11_when 16 = .ok (.aload_n 0, 1) := by decide +kernel
theorem dX11_when_17 : decode cX11_when 17 = .ok (.invokevirtual 405, 3) := by decide +kernel
theorem dX11_when_20 : decode cX11_when 20 = .ok (.iconst 0, 1) := by decide +kernel
theorem dX11_when_21 : decode cX11_when 21 = .ok (.istore_n 2, 1) := by decide +kernel
theorem dX11_when_22 : decode cX11_when 22 = .ok (.iload_n 2, 1) := by decide +kernel
theorem dX11_when_23 : decode cX11_when 23 = .ok (.aload_n 0, 1) := by decide +kernel
theorem dX11_when_24 : decode cX11_when 24 = .ok (.getfield 397, 3) := by decide +kernel
theorem dX11_when_27 : decode cX11_when 27 = .ok (.aload_n 0, 1) := by decide +kernel
theorem dX11_when_28 : decode cX11_when 28 = .ok (.getfield 400, 3) := by decide +kernel
theorem dX11_when_31 : decode cX11_when 31 = .ok (.iadd, 1) := by decide +kernel
theorem dX11_when_32 : decode cX11_when 32 = .ok (.if_icmp .ge 24, 3) := by decide +kernel
theorem dX11_when_35 : decode cX11_when 35 = .ok (.aload_n 0, 1) := by decide +kernel
theorem dX11_when_36 : decode cX11_when 36 = .ok (.getfield 65, 3) := by decide +kernel
theorem dX11_when_39 : decode cX11_when 39 = .ok (.iload_n 2, 1) := by decide +kernel
theorem dX11_when_40 : decode cX11_when 40 = .ok (.iaload, 1) := by decide +kernel
theorem dX11_when_41 : decode cX11_when 41 = .ok (.invokestatic 230, 3) := by decide +kernel
theorem dX11_when_44 : decode cX11_when 44 = .ok (.iload_n 1, 1) := by decide +kernel
theorem dX11_when_45 : decode cX11_when 45 = .ok (.if_icmp .ne 5, 3) := by decide +kernel
theorem dX11_when_48 : decode cX11_when 48 = .ok (.iload_n 2, 1) := by decide +kernel
theorem dX11_when_49 : decode cX11_when 49 = .ok (.ireturn, 1) := by decide +kernel
theorem dX11_when_50 : decode cX11_when 50 = .ok (.iinc 2 1, 3) := by decide +kernel
theorem dX11_when_53 : decode cX11_when 53 = .ok (.goto (-31), 3) := by decide +kernel
theorem dX11_when_56 : decode cX11_when 56 = .ok (.iconst (-1), 1) := by decide +kernel
theorem dX11_when_57 : decode cX11_when 57 = .ok (.ireturn, 1) := by decide +kernel
theorem dX11_noSeen_0 : decode cX11_noSeen 0 = .ok (.aload_n 0, 1) := by decide +kernel
theorem dX11_noSeen_1 : decode cX11_noSeen 1 = .ok (.iload_n 1, 1) := by decide +kernel
theorem dX11_noSeen_2 : decode cX11_noSeen 2 = .ok (.invokevirtual 325, 3) := by decide +kernel
theorem dX11_noSeen_5 : decode cX11_noSeen 5 = .ok (.istore_n 2, 1) := by decide +kernel
theorem dX11_noSeen_6 : decode cX11_noSeen 6 = .ok (.iload_n 2, 1) := by decide +kernel
theorem dX11_noSeen_7 : decode cX11_noSeen 7 = .ok (.ifCond .eq 5, 3) := by decide +kernel
theorem dX11_noSeen_10 : decode cX11_noSeen 10 = .ok (.iload_n 2, 1) := by decide +kernel
theorem dX11_noSeen_11 : decode cX11_noSeen 11 = .ok (.ireturn, 1) := by decide +kernel
theorem dX11_noSeen_12 : decode cX11_noSeen 12 = .ok (.aload_n 0, 1) := by decide +kernel
theorem dX11_noSeen_13 : decode cX11_noSeen 13 = .ok (.getfield 86, 3) := by decide +kernel
theorem dX11_noSeen_16 : decode cX11_noSeen 16 = .ok (.iload_n 1, 1) := by decide +kernel
theorem dX11_noSeen_17 : decode cX11_noSeen 17 = .ok (.iaload, 1) := by decide +kernel
theorem dX11_noSeen_18 : decode cX11_noSeen 18 = .ok (.i2l, 1) := by decide +kernel
theorem dX11_noSeen_19 : decode cX11_noSeen 19 = .ok (.lconst 1, 1) := by decide +kernel
theorem dX11_noSeen_20 : decode cX11_noSeen 20 = .ok (.ldc2_w 408, 3) := by decide +kernel
theorem dX11_noSeen_23 : decode cX11_noSeen 23 = .ok (.invokestatic 158, 3) := by decide +kernel
theorem dX11_noSeen_26 : decode cX11_noSeen 26 = .ok (.ifCond .ne 6, 3) := by decide +kernel
theorem dX11_noSeen_29 : decode cX11_noSeen 29 = .ok (.bipush (-4), 2) := by decide +kernel
theorem dX11_noSeen_31 : decode cX11_noSeen 31 = .ok (.ireturn, 1) := by decide +kernel
theorem dX11_noSeen_32 : decode cX11_noSeen 32 = .ok (.iconst 0, 1) := by decide +kernel
theorem dX11_noSeen_33 : decode cX11_noSeen 33 = .ok (.istore_n 3, 1) := by decide +kernel
theorem dX11_noSeen_34 : decode cX11_noSeen 34 = .ok (.iload_n 3, 1) := by decide +kernel
theorem dX11_noSeen_35 : decode cX11_noSeen 35 = .ok (.aload_n 0, 1) := by decide +kernel
theorem dX11_noSeen_36 : decode cX11_noSeen 36 = .ok (.getfield 86, 3) := by decide +kernel
theorem dX11_noSeen_39 : decode cX11_noSeen 39 = .ok (.iload_n 1, 1) := by decide +kernel
theorem dX11_noSeen_40 : decode cX11_noSeen 40 = .ok (.iaload, 1) := by decide +kernel
theorem dX11_noSeen_41 : decode cX11_noSeen 41 = .ok (.if_icmp .ge 35, 3) := by decide +kernel
theorem dX11_noSeen_44 : decode cX11_noSeen 44 = .ok (.aload_n 0, 1) := by decide +kernel
theorem dX11_noSeen_45 : decode cX11_noSeen 45 = .ok (.getfield 89, 3) := by decide +kernel
theorem dX11_noSeen_48 : decode cX11_noSeen 48 = .ok (.bipush 40, 2) := by decide +kernel
theorem dX11_noSeen_50 : decode cX11_noSeen 50 = .ok (.iload_n 1, 1) := by decide +kernel
theorem dX11_noSeen_51 : decode cX11_noSeen 51 = .ok (.imul, 1) := by decide +kernel
theorem dX11_noSeen_52 : decode cX11_noSeen 52 = .ok (.iload_n 3, 1) := by decide +kernel
theorem dX11_noSeen_53 : decode cX11_noSeen 53 = .ok (.iadd, 1) := by decide +kernel
theorem dX11_noSeen_54 : decode cX11_noSeen 54 = .ok (.laload, 1) := by decide +kernel
theorem dX11_noSeen_55 : decode cX11_noSeen 55 = .ok (.ldc2_w 410, 3) := by decide +kernel
theorem dX11_noSeen_58 : decode cX11_noSeen 58 = .ok (.ldc2_w 408, 3) := by decide +kernel
theorem dX11_noSeen_61 : decode cX11_noSeen 61 = .ok (.invokestatic 158, 3) := by decide +kernel
theorem dX11_noSeen_64 : decode cX11_noSeen 64 = .ok (.ifCond .ne 6, 3) := by decide +kernel
theorem dX11_noSeen_67 : decode cX11_noSeen 67 = .ok (.bipush (-3), 2) := by decide +kernel
theorem dX11_noSeen_69 : decode cX11_noSeen 69 = .ok (.ireturn, 1) := by decide +kernel
theorem dX11_noSeen_70 : decode cX11_noSeen 70 = .ok (.iinc 3 1, 3) := by decide +kernel
theorem dX11_noSeen_73 : decode cX11_noSeen 73 = .ok (.goto (-39), 3) := by decide +kernel
theorem dX11_noSeen_76 : decode cX11_noSeen 76 = .ok (.iconst 0, 1) := by decide +kernel
theorem dX11_noSeen_77 : decode cX11_noSeen 77 = .ok (.ireturn, 1) := by decide +kernel
theorem dX11_isSeen_0 : decode cX11_isSeen 0 = .ok (.aload_n 0, 1) := by decide +kernel
theorem dX11_isSeen_1 : decode cX11_isSeen 1 = .ok (.getfield 89, 3) := by decide +kernel
theorem dX11_isSeen_4 : decode cX11_isSeen 4 = .ok (.bipush 40, 2) := by decide +kernel
theorem dX11_isSeen_6 : decode cX11_isSeen 6 = .ok (.iload_n 1, 1) := by decide +kernel
theorem dX11_isSeen_7 : decode cX11_isSeen 7 = .ok (.imul, 1) := by decide +kernel
theorem dX11_isSeen_8 : decode cX11_isSeen 8 = .ok (.iload_n 2, 1) := by decide +kernel
theorem dX11_isSeen_9 : decode cX11_isSeen 9 = .ok (.iadd, 1) := by decide +kernel
theorem dX11_isSeen_10 : decode cX11_isSeen 10 = .ok (.laload, 1) := by decide +kernel
theorem dX11_isSeen_11 : decode cX11_isSeen 11 = .ok (.ldc2_w 410, 3) := by decide +kernel
theorem dX11_isSeen_14 : decode cX11_isSeen 14 = .ok (.lcmp, 1) := by decide +kernel
theorem dX11_isSeen_15 : decode cX11_isSeen 15 = .ok (.ifCond .eq 26, 3) := by decide +kernel
theorem dX11_isSeen_18 : decode cX11_isSeen 18 = .ok (.aload_n 0, 1) := by decide +kernel
theorem dX11_isSeen_19 : decode cX11_isSeen 19 = .ok (.getfield 89, 3) := by decide +kernel
theorem dX11_isSeen_22 : decode cX11_isSeen 22 = .ok (.bipush 40, 2) := by decide +kernel
theorem dX11_isSeen_24 : decode cX11_isSeen 24 = .ok (.iload_n 1, 1) := by decide +kernel
theorem dX11_isSeen_25 : decode cX11_isSeen 25 = .ok (.imul, 1) := by decide +kernel
theorem dX11_isSeen_26 : decode cX11_isSeen 26 = .ok (.iload_n 2, 1) := by decide +kernel
theorem dX11_isSeen_27 : decode cX11_isSeen 27 = .ok (.iadd, 1) := by decide +kernel
theorem dX11_isSeen_28 : decode cX11_isSeen 28 = .ok (.laload, 1) := by decide +kernel
theorem dX11_isSeen_29 : decode cX11_isSeen 29 = .ok (.iload_n 3, 1) := by decide +kernel
theorem dX11_isSeen_30 : decode cX11_isSeen 30 = .ok (.invokestatic 233, 3) := by decide +kernel
theorem dX11_isSeen_33 : decode cX11_isSeen 33 = .ok (.invokestatic 240, 3) := by decide +kernel
theorem dX11_isSeen_36 : decode cX11_isSeen 36 = .ok (.i2l, 1) := by decide +kernel
theorem dX11_isSeen_37 : decode cX11_isSeen 37 = .ok (.lcmp, 1) := by decide +kernel
theorem dX11_isSeen_38 : decode cX11_isSeen 38 = .ok (.ifCond .ne 7, 3) := by decide +kernel
theorem dX11_isSeen_41 : decode cX11_isSeen 41 = .ok (.iconst 1, 1) := by decide +kernel
theorem dX11_isSeen_42 : decode cX11_isSeen 42 = .ok (.goto 4, 3) := by decide +kernel
theorem dX11_isSeen_45 : decode cX11_isSeen 45 = .ok (.iconst 0, 1) := by decide +kernel
theorem dX11_isSeen_46 : decode cX11_isSeen 46 = .ok (.ireturn, 1) := by decide +kernel
theorem dX11_laysSeen_0 : decode cX11_laysSeen 0 = .ok (.aload_n 0, 1) := by decide +kernel
theorem dX11_laysSeen_1 : decode cX11_laysSeen 1 = .ok (.getfield 86, 3) := by decide +kernel
theorem dX11_laysSeen_4 : decode cX11_laysSeen 4 = .ok (.iload_n 1, 1) := by decide +kernel
theorem dX11_laysSeen_5 : decode cX11_laysSeen 5 = .ok (.iaload, 1) := by decide +kernel
theorem dX11_laysSeen_6 : decode cX11_laysSeen 6 = .ok (.istore_n 3, 1) := by decide +kernel
theorem dX11_laysSeen_7 : decode cX11_laysSeen 7 = .ok (.iconst 0, 1) := by decide +kernel
theorem dX11_laysSeen_8 : decode cX11_laysSeen 8 = .ok (.istore 4, 2) := by decide +kernel
theorem dX11_laysSeen_10 : decode cX11_laysSeen 10 = .ok (.iload 4, 2) := by decide +kernel
theorem dX11_laysSeen_12 : decode cX11_laysSeen 12 = .ok (.aload_n 0, 1) := by decide +kernel
theorem dX11_laysSeen_13 : decode cX11_laysSeen 13 = .ok (.getfield 346, 3) := by decide +kernel
theorem dX11_laysSeen_16 : decode cX11_laysSeen 16 = .ok (.if_icmp .ge 55, 3) := by decide +kernel
theorem dX11_laysSeen_19 : decode cX11_laysSeen 19 = .ok (.aload_n 0, 1) := by decide +kernel
theorem dX11_laysSeen_20 : decode cX11_laysSeen 20 = .ok (.getfield 71, 3) := by decide +kernel
theorem dX11_laysSeen_23 : decode cX11_laysSeen 23 = .ok (.sipush 2880, 3) := by decide +kernel
theorem dX11_laysSeen_26 : decode cX11_laysSeen 26 = .ok (.iload_n 3, 1) := by decide +kernel
theorem dX11_laysSeen_27 : decode cX11_laysSeen 27 = .ok (.imul, 1) := by decide +kernel
theorem dX11_laysSeen_28 : decode cX11_laysSeen 28 = .ok (.aload_n 0, 1) := by decide +kernel
theorem dX11_laysSeen_29 : decode cX11_laysSeen 29 = .ok (.getfield 39, 3) := by decide +kernel
theorem dX11_laysSeen_32 : decode cX11_laysSeen 32 = .ok (.iload 4, 2) := by decide +kernel
theorem dX11_laysSeen_34 : decode cX11_laysSeen 34 = .ok (.iaload, 1) := by decide +kernel
theorem dX11_laysSeen_35 : decode cX11_laysSeen 35 = .ok (.iadd, 1) := by decide +kernel
theorem dX11_laysSeen_36 : decode cX11_laysSeen 36 = .ok (.iload_n 2, 1) := by decide +kernel
theorem dX11_laysSeen_37 : decode cX11_laysSeen 37 = .ok (.iconst (-1), 1) := by decide +kernel
theorem dX11_laysSeen_38 : decode cX11_laysSeen 38 = .ok (.if_icmp .eq 25, 3) := by decide +kernel
theorem dX11_laysSeen_41 : decode cX11_laysSeen 41 = .ok (.aload_n 0, 1) := by decide +kernel
theorem dX11_laysSeen_42 : decode cX11_laysSeen 42 = .ok (.getfield 39, 3) := by decide +kernel
theorem dX11_laysSeen_45 : decode cX11_laysSeen 45 = .ok (.iload 4, 2) := by decide +kernel
theorem dX11_laysSeen_47 : decode cX11_laysSeen 47 = .ok (.iaload, 1) := by decide +kernel
theorem dX11_laysSeen_48 : decode cX11_laysSeen 48 = .ok (.invokestatic 233, 3) := by decide +kernel
theorem dX11_laysSeen_51 : decode cX11_laysSeen 51 = .ok (.i2l, 1) := by decide +kernel
theorem dX11_laysSeen_52 : decode cX11_laysSeen 52 = .ok (.iload_n 2, 1) := by decide +kernel
theorem dX11_laysSeen_53 : decode cX11_laysSeen 53 = .ok (.invokestatic 265, 3) := by decide +kernel
theorem dX11_laysSeen_56 : decode cX11_laysSeen 56 = .ok (.ifCond .eq 7, 3) := by decide +kernel
theorem dX11_laysSeen_59 : decode cX11_laysSeen 59 = .ok (.lconst 0, 1) := by decide +kernel
theorem dX11_laysSeen_60 : decode cX11_laysSeen 60 = .ok (.goto 4, 3) := by decide +kernel
theorem dX11_laysSeen_63 : decode cX11_laysSeen 63 = .ok (.lconst 1, 1) := by decide +kernel
theorem dX11_laysSeen_64 : decode cX11_laysSeen 64 = .ok (.lastore, 1) := by decide +kernel
theorem dX11_laysSeen_65 : decode cX11_laysSeen 65 = .ok (.iinc 4 1, 3) := by decide +kernel
theorem dX11_laysSeen_68 : decode cX11_laysSeen 68 = .ok (.goto (-58), 3) := by decide +kernel
theorem dX11_laysSeen_71 : decode cX11_laysSeen 71 = .ok (.iload_n 3, 1) := by decide +kernel
theorem dX11_laysSeen_72 : decode cX11_laysSeen 72 = .ok (.iconst 1, 1) := by decide +kernel
theorem dX11_laysSeen_73 : decode cX11_laysSeen 73 = .ok (.isub, 1) := by decide +kernel
theorem dX11_laysSeen_74 : decode cX11_laysSeen 74 = .ok (.istore 4, 2) := by decide +kernel
theorem dX11_laysSeen_76 : decode cX11_laysSeen 76 = .ok (.iload 4, 2) := by decide +kernel
theorem dX11_laysSeen_78 : decode cX11_laysSeen 78 = .ok (.ifCond .lt 126, 3) := by decide +kernel
theorem dX11_laysSeen_81 : decode cX11_laysSeen 81 = .ok (.iconst 0, 1) := by decide +kernel
theorem dX11_laysSeen_82 : decode cX11_laysSeen 82 = .ok (.istore 5, 2) := by decide +kernel
theorem dX11_laysSeen_84 : decode cX11_laysSeen 84 = .ok (.iload 5, 2) := by decide +kernel
theorem dX11_laysSeen_86 : decode cX11_laysSeen 86 = .ok (.aload_n 0, 1) := by decide +kernel
theorem dX11_laysSeen_87 : decode cX11_laysSeen 87 = .ok (.getfield 346, 3) := by decide +kernel
theorem dX11_laysSeen_90 : decode cX11_laysSeen 90 = .ok (.if_icmp .ge 108, 3) := by decide +kernel
theorem dX11_laysSeen_93 : decode cX11_laysSeen 93 = .ok (.lconst 0, 1) := by decide +kernel
theorem dX11_laysSeen_94 : decode cX11_laysSeen 94 = .ok (.lstore 6, 2) := by decide +kernel
theorem dX11_laysSeen_96 : decode cX11_laysSeen 96 = .ok (.iconst 0, 1) := by decide +kernel
theorem dX11_laysSeen_97 : decode cX11_laysSeen 97 = .ok (.istore 8, 2) := by decide +kernel
theorem dX11_laysSeen_99 : decode cX11_laysSeen 99 = .ok (.iload 8, 2) := by decide +kernel
theorem dX11_laysSeen_101 : decode cX11_laysSeen 101 = .ok (.bipush 15, 2) := by decide +kernel
theorem dX11_laysSeen_103 : decode cX11_laysSeen 103 = .ok (.if_icmp .ge 68, 3) := by decide +kernel
theorem dX11_laysSeen_106 : decode cX11_laysSeen 106 = .ok (.aload_n 0, 1) := by decide +kernel
theorem dX11_laysSeen_107 : decode cX11_laysSeen 107 = .ok (.getfield 43, 3) := by decide +kernel
theorem dX11_laysSeen_110 : decode cX11_laysSeen 110 = .ok (.bipush 15, 2) := by decide +kernel
theorem dX11_laysSeen_112 : decode cX11_laysSeen 112 = .ok (.aload_n 0, 1) := by decide +kernel
theorem dX11_laysSeen_113 : decode cX11_laysSeen 113 = .ok (.getfield 39, 3) := by decide +kernel
theorem dX11_laysSeen_116 : decode cX11_laysSeen 116 = .ok (.iload 5, 2) := by decide +kernel
theorem dX11_laysSeen_118 : decode cX11_laysSeen 118 = .ok (.iaload, 1) := by decide +kernel
theorem dX11_laysSeen_119 : decode cX11_laysSeen 119 = .ok (.imul, 1) := by decide +kernel
theorem dX11_laysSeen_120 : decode cX11_laysSeen 120 = .ok (.iload 8, 2) := by decide +kernel
theorem dX11_laysSeen_122 : decode cX11_laysSeen 122 = .ok (.iadd, 1) := by decide +kernel
theorem dX11_laysSeen_123 : decode cX11_laysSeen 123 = .ok (.iaload, 1) := by decide +kernel
theorem dX11_laysSeen_124 : decode cX11_laysSeen 124 = .ok (.istore 9, 2) := by decide +kernel
theorem dX11_laysSeen_126 : decode cX11_laysSeen 126 = .ok (.iload 9, 2) := by decide +kernel
theorem dX11_laysSeen_128 : decode cX11_laysSeen 128 = .ok (.iconst (-1), 1) := by decide +kernel
theorem dX11_laysSeen_129 : decode cX11_laysSeen 129 = .ok (.if_icmp .eq 36, 3) := by decide +kernel
theorem dX11_laysSeen_132 : decode cX11_laysSeen 132 = .ok (.aload_n 0, 1) := by decide +kernel
theorem dX11_laysSeen_133 : decode cX11_laysSeen 133 = .ok (.iload_n 1, 1) := by decide +kernel
theorem dX11_laysSeen_134 : decode cX11_laysSeen 134 = .ok (.iload 4, 2) := by decide +kernel
theorem dX11_laysSeen_136 : decode cX11_laysSeen 136 = .ok (.iload 9, 2) := by decide +kernel
theorem dX11_laysSeen_138 : decode cX11_laysSeen 138 = .ok (.invokevirtual 412, 3) := by decide +kernel
theorem dX11_laysSeen_141 : decode cX11_laysSeen 141 = .ok (.ifCond .eq 24, 3) := by decide +kernel
theorem dX11_laysSeen_144 : decode cX11_laysSeen 144 = .ok (.lload 6, 2) := by decide +kernel
theorem dX11_laysSeen_146 : decode cX11_laysSeen 146 = .ok (.aload_n 0, 1) := by decide +kernel
theorem dX11_laysSeen_147 : decode cX11_laysSeen 147 = .ok (.getfield 71, 3) := by decide +kernel
theorem dX11_laysSeen_150 : decode cX11_laysSeen 150 = .ok (.sipush 2880, 3) := by decide +kernel
theorem dX11_laysSeen_153 : decode cX11_laysSeen 153 = .ok (.iload 4, 2) := by decide +kernel
theorem dX11_laysSeen_155 : decode cX11_laysSeen 155 = .ok (.iconst 1, 1) := by decide +kernel
theorem dX11_laysSeen_156 : decode cX11_laysSeen 156 = .ok (.iadd, 1) := by decide +kernel
theorem dX11_laysSeen_157 : decode cX11_laysSeen 157 = .ok (.imul, 1) := by decide +kernel
theorem dX11_laysSeen_158 : decode cX11_laysSeen 158 = .ok (.iload 9, 2) := by decide +kernel
theorem dX11_laysSeen_160 : decode cX11_laysSeen 160 = .ok (.iadd, 1) := by decide +kernel
theorem dX11_laysSeen_161 : decode cX11_laysSeen 161 = .ok (.laload, 1) := by decide +kernel
theorem dX11_laysSeen_162 : decode cX11_laysSeen 162 = .ok (.ladd, 1) := by decide +kernel
theorem dX11_laysSeen_163 : decode cX11_laysSeen 163 = .ok (.lstore 6, 2) := by decide +kernel
theorem dX11_laysSeen_165 : decode cX11_laysSeen 165 = .ok (.iinc 8 1, 3) := by decide +kernel
theorem dX11_laysSeen_168 : decode cX11_laysSeen 168 = .ok (.goto (-69), 3) := by decide +kernel
theorem dX11_laysSeen_171 : decode cX11_laysSeen 171 = .ok (.aload_n 0, 1) := by decide +kernel
theorem dX11_laysSeen_172 : decode cX11_laysSeen 172 = .ok (.getfield 71, 3) := by decide +kernel
theorem dX11_laysSeen_175 : decode cX11_laysSeen 175 = .ok (.sipush 2880, 3) := by decide +kernel
theorem dX11_laysSeen_178 : decode cX11_laysSeen 178 = .ok (.iload 4, 2) := by decide +kernel
theorem dX11_laysSeen_180 : decode cX11_laysSeen 180 = .ok (.imul, 1) := by decide +kernel
theorem dX11_laysSeen_181 : decode cX11_laysSeen 181 = .ok (.aload_n 0, 1) := by decide +kernel
theorem dX11_laysSeen_182 : decode cX11_laysSeen 182 = .ok (.getfield 39, 3) := by decide +kernel
theorem dX11_laysSeen_185 : decode cX11_laysSeen 185 = .ok (.iload 5, 2) := by decide +kernel
theorem dX11_laysSeen_187 : decode cX11_laysSeen 187 = .ok (.iaload, 1) := by decide +kernel
theorem dX11_laysSeen_188 : decode cX11_laysSeen 188 = .ok (.iadd, 1) := by decide +kernel
theorem dX11_laysSeen_189 : decode cX11_laysSeen 189 = .ok (.lload 6, 2) := by decide +kernel
theorem dX11_laysSeen_191 : decode cX11_laysSeen 191 = .ok (.lastore, 1) := by decide +kernel
theorem dX11_laysSeen_192 : decode cX11_laysSeen 192 = .ok (.iinc 5 1, 3) := by decide +kernel
theorem dX11_laysSeen_195 : decode cX11_laysSeen 195 = .ok (.goto (-111), 3) := by decide +kernel
theorem dX11_laysSeen_198 : decode cX11_laysSeen 198 = .ok (.iinc 4 (-1), 3) := by decide +kernel
theorem dX11_laysSeen_201 : decode cX11_laysSeen 201 = .ok (.goto (-125), 3) := by decide +kernel
theorem dX11_laysSeen_204 : decode cX11_laysSeen 204 = .ok (.aload_n 0, 1) := by decide +kernel
theorem dX11_laysSeen_205 : decode cX11_laysSeen 205 = .ok (.getfield 71, 3) := by decide +kernel
theorem dX11_laysSeen_208 : decode cX11_laysSeen 208 = .ok (.aload_n 0, 1) := by decide +kernel
theorem dX11_laysSeen_209 : decode cX11_laysSeen 209 = .ok (.invokevirtual 279, 3) := by decide +kernel
theorem dX11_laysSeen_212 : decode cX11_laysSeen 212 = .ok (.laload, 1) := by decide +kernel
theorem dX11_laysSeen_213 : decode cX11_laysSeen 213 = .ok (.lreturn, 1) := by decide +kernel
theorem dX11_seen_0 : decode cX11_seen 0 = .ok (.aload_n 0, 1) := by decide +kernel
theorem dX11_seen_1 : decode cX11_seen 1 = .ok (.iconst 0, 1) := by decide +kernel
theorem dX11_seen_2 : decode cX11_seen 2 = .ok (.putfield 1, 3) := by decide +kernel
theorem dX11_seen_5 : decode cX11_seen 5 = .ok (.aload_n 0, 1) := by decide +kernel
theorem dX11_seen_6 : decode cX11_seen 6 = .ok (.iload_n 1, 1) := by decide +kernel
theorem dX11_seen_7 : decode cX11_seen 7 = .ok (.invokevirtual 415, 3) := by decide +kernel
theorem dX11_seen_10 : decode cX11_seen 10 = .ok (.istore_n 2, 1) := by decide +kernel
theorem dX11_seen_11 : decode cX11_seen 11 = .ok (.iload_n 2, 1) := by decide +kernel
theorem dX11_seen_12 : decode cX11_seen 12 = .ok (.ifCond .eq 6, 3) := by decide +kernel
theorem dX11_seen_15 : decode cX11_seen 15 = .ok (.iload_n 2, 1) := by decide +kernel
theorem dX11_seen_16 : decode cX11_seen 16 = .ok (.i2l, 1) := by decide +kernel
theorem dX11_seen_17 : decode cX11_seen 17 = .ok (.lreturn, 1) := by decide +kernel
theorem dX11_seen_18 : decode cX11_seen 18 = .ok (.aload_n 0, 1) := by decide +kernel
theorem dX11_seen_19 : decode cX11_seen 19 = .ok (.iconst 0, 1) := by decide +kernel
theorem dX11_seen_20 : decode cX11_seen 20 = .ok (.invokevirtual 359, 3) := by decide +kernel
theorem dX11_seen_23 : decode cX11_seen 23 = .ok (.aload_n 0, 1) := by decide +kernel
theorem dX11_seen_24 : decode cX11_seen 24 = .ok (.iload_n 1, 1) := by decide +kernel
theorem dX11_seen_25 : decode cX11_seen 25 = .ok (.iconst (-1), 1) := by decide +kernel
theorem dX11_seen_26 : decode cX11_seen 26 = .ok (.invokevirtual 418, 3) := by decide +kernel
theorem dX11_seen_29 : decode cX11_seen 29 = .ok (.lreturn, 1) := by decide +kernel
theorem dX11_seenBy_0 : decode cX11_seenBy 0 = .ok (.aload_n 0, 1) := by decide +kernel
theorem dX11_seenBy_1 : decode cX11_seenBy 1 = .ok (.iconst 0, 1) := by decide +kernel
theorem dX11_seenBy_2 : decode cX11_seenBy 2 = .ok (.putfield 1, 3) := by decide +kernel
theorem dX11_seenBy_5 : decode cX11_seenBy 5 = .ok (.aload_n 0, 1) := by decide +kernel
theorem dX11_seenBy_6 : decode cX11_seenBy 6 = .ok (.iload_n 1, 1) := by decide +kernel
theorem dX11_seenBy_7 : decode cX11_seenBy 7 = .ok (.invokevirtual 415, 3) := by decide +kernel
theorem dX11_seenBy_10 : decode cX11_seenBy 10 = .ok (.istore_n 3, 1) := by decide +kernel
theorem dX11_seenBy_11 : decode cX11_seenBy 11 = .ok (.iload_n 3, 1) := by decide +kernel
theorem dX11_seenBy_12 : decode cX11_seenBy 12 = .ok (.ifCond .eq 5, 3) := by decide +kernel
theorem dX11_seenBy_15 : decode cX11_seenBy 15 = .ok (.iload_n 3, 1) := by decide +kernel
theorem dX11_seenBy_16 : decode cX11_seenBy 16 = .ok (.ireturn, 1) := by decide +kernel
theorem dX11_seenBy_17 : decode cX11_seenBy 17 = .ok (.iload_n 2, 1) := by decide +kernel
theorem dX11_seenBy_18 : decode cX11_seenBy 18 = .ok (.ifCond .ge 6, 3) := by decide +kernel
theorem dX11_seenBy_21 : decode cX11_seenBy 21 = .ok (.bipush (-3), 2) := by decide +kernel
theorem dX11_seenBy_23 : decode cX11_seenBy 23 = .ok (.ireturn, 1) := by decide +kernel
theorem dX11_seenBy_24 : decode cX11_seenBy 24 = .ok (.aload_n 0, 1) := by decide +kernel
theorem dX11_seenBy_25 : decode cX11_seenBy 25 = .ok (.iconst 0, 1) := by decide +kernel
theorem dX11_seenBy_26 : decode cX11_seenBy 26 = .ok (.invokevirtual 359, 3) := by decide +kernel
theorem dX11_seenBy_29 : decode cX11_seenBy 29 = .ok (.aload_n 0, 1) := by decide +kernel
theorem dX11_seenBy_30 : decode cX11_seenBy 30 = .ok (.iload_n 1, 1) := by decide +kernel
theorem dX11_seenBy_31 : decode cX11_seenBy 31 = .ok (.iconst (-1), 1) := by decide +kernel
theorem dX11_seenBy_32 : decode cX11_seenBy 32 = .ok (.invokevirtual 418, 3) := by decide +kernel
theorem dX11_seenBy_35 : decode cX11_seenBy 35 = .ok (.lconst 0, 1) := by decide +kernel
theorem dX11_seenBy_36 : decode cX11_seenBy 36 = .ok (.lcmp, 1) := by decide +kernel
theorem dX11_seenBy_37 : decode cX11_seenBy 37 = .ok (.ifCond .eq 13, 3) := by decide +kernel
theorem dX11_seenBy_40 : decode cX11_seenBy 40 = .ok (.iload_n 2, 1) := by decide +kernel
theorem dX11_seenBy_41 : decode cX11_seenBy 41 = .ok (.aload_n 0, 1) := by decide +kernel
theorem dX11_seenBy_42 : decode cX11_seenBy 42 = .ok (.getfield 86, 3) := by decide +kernel
theorem dX11_seenBy_45 : decode cX11_seenBy 45 = .ok (.iload_n 1, 1) := by decide +kernel
theorem dX11_seenBy_46 : decode cX11_seenBy 46 = .ok (.iaload, 1) := by decide +kernel
theorem dX11_seenBy_47 : decode cX11_seenBy 47 = .ok (.if_icmp .lt 5, 3) := by decide +kernel
theorem dX11_seenBy_50 : decode cX11_seenBy 50 = .ok (.iconst (-1), 1) := by decide +kernel
theorem dX11_seenBy_51 : decode cX11_seenBy 51 = .ok (.ireturn, 1) := by decide +kernel
theorem dX11_seenBy_52 : decode cX11_seenBy 52 = .ok (.aload_n 0, 1) := by decide +kernel
theorem dX11_seenBy_53 : decode cX11_seenBy 53 = .ok (.invokevirtual 279, 3) := by decide +kernel
theorem dX11_seenBy_56 : decode cX11_seenBy 56 = .ok (.istore 4, 2) := by decide +kernel
theorem dX11_seenBy_58 : decode cX11_seenBy 58 = .ok (.iconst 0, 1) := by decide +kernel
theorem dX11_seenBy_59 : decode cX11_seenBy 59 = .ok (.istore 5, 2) := by decide +kernel
theorem dX11_seenBy_61 : decode cX11_seenBy 61 = .ok (.iconst 0, 1) := by decide +kernel
theorem dX11_seenBy_62 : decode cX11_seenBy 62 = .ok (.istore 6, 2) := by decide +kernel
theorem dX11_seenBy_64 : decode cX11_seenBy 64 = .ok (.aload_n 0, 1) := by decide +kernel
theorem dX11_seenBy_65 : decode cX11_seenBy 65 = .ok (.getfield 43, 3) := by decide +kernel
theorem dX11_seenBy_68 : decode cX11_seenBy 68 = .ok (.bipush 15, 2) := by decide +kernel
theorem dX11_seenBy_70 : decode cX11_seenBy 70 = .ok (.iload 4, 2) := by decide +kernel
theorem dX11_seenBy_72 : decode cX11_seenBy 72 = .ok (.imul, 1) := by decide +kernel
theorem dX11_seenBy_73 : decode cX11_seenBy 73 = .ok (.iload 6, 2) := by decide +kernel
theorem dX11_seenBy_75 : decode cX11_seenBy 75 = .ok (.iadd, 1) := by decide +kernel
theorem dX11_seenBy_76 : decode cX11_seenBy 76 = .ok (.iaload, 1) := by decide +kernel
theorem dX11_seenBy_77 : decode cX11_seenBy 77 = .ok (.iconst (-1), 1) := by decide +kernel
theorem dX11_seenBy_78 : decode cX11_seenBy 78 = .ok (.if_icmp .eq 58, 3) := by decide +kernel
theorem dX11_seenBy_81 : decode cX11_seenBy 81 = .ok (.aload_n 0, 1) := by decide +kernel
theorem dX11_seenBy_82 : decode cX11_seenBy 82 = .ok (.iload_n 1, 1) := by decide +kernel
theorem dX11_seenBy_83 : decode cX11_seenBy 83 = .ok (.iload 5, 2) := by decide +kernel
theorem dX11_seenBy_85 : decode cX11_seenBy 85 = .ok (.aload_n 0, 1) := by decide +kernel
theorem dX11_seenBy_86 : decode cX11_seenBy 86 = .ok (.getfield 43, 3) := by decide +kernel
theorem dX11_seenBy_89 : decode cX11_seenBy 89 = .ok (.bipush 15, 2) := by decide +kernel
theorem dX11_seenBy_91 : decode cX11_seenBy 91 = .ok (.iload 4, 2) := by decide +kernel
theorem dX11_seenBy_93 : decode cX11_seenBy 93 = .ok (.imul, 1) := by decide +kernel
theorem dX11_seenBy_94 : decode cX11_seenBy 94 = .ok (.iload 6, 2) := by decide +kernel
theorem dX11_seenBy_96 : decode cX11_seenBy 96 = .ok (.iadd, 1) := by decide +kernel
theorem dX11_seenBy_97 : decode cX11_seenBy 97 = .ok (.iaload, 1) := by decide +kernel
theorem dX11_seenBy_98 : decode cX11_seenBy 98 = .ok (.invokevirtual 412, 3) := by decide +kernel
theorem dX11_seenBy_101 : decode cX11_seenBy 101 = .ok (.ifCond .eq 35, 3) := by decide +kernel
theorem dX11_seenBy_104 : decode cX11_seenBy 104 = .ok (.aload_n 0, 1) := by decide +kernel
theorem dX11_seenBy_105 : decode cX11_seenBy 105 = .ok (.getfield 71, 3) := by decide +kernel
theorem dX11_seenBy_108 : decode cX11_seenBy 108 = .ok (.sipush 2880, 3) := by decide +kernel
theorem dX11_seenBy_111 : decode cX11_seenBy 111 = .ok (.iload 5, 2) := by decide +kernel
theorem dX11_seenBy_113 : decode cX11_seenBy 113 = .ok (.iconst 1, 1) := by decide +kernel
theorem dX11_seenBy_114 : decode cX11_seenBy 114 = .ok (.iadd, 1) := by decide +kernel
theorem dX11_seenBy_115 : decode cX11_seenBy 115 = .ok (.imul, 1) := by decide +kernel
theorem dX11_seenBy_116 : decode cX11_seenBy 116 = .ok (.aload_n 0, 1) := by decide +kernel
theorem dX11_seenBy_117 : decode cX11_seenBy 117 = .ok (.getfield 43, 3) := by decide +kernel
theorem dX11_seenBy_120 : decode cX11_seenBy 120 = .ok (.bipush 15, 2) := by decide +kernel
theorem dX11_seenBy_122 : decode cX11_seenBy 122 = .ok (.iload 4, 2) := by decide +kernel
theorem dX11_seenBy_124 : decode cX11_seenBy 124 = .ok (.imul, 1) := by decide +kernel
theorem dX11_seenBy_125 : decode cX11_seenBy 125 = .ok (.iload 6, 2) := by decide +kernel
theorem dX11_seenBy_127 : decode cX11_seenBy 127 = .ok (.iadd, 1) := by decide +kernel
theorem dX11_seenBy_128 : decode cX11_seenBy 128 = .ok (.iaload, 1) := by decide +kernel
theorem dX11_seenBy_129 : decode cX11_seenBy 129 = .ok (.iadd, 1) := by decide +kernel
theorem dX11_seenBy_130 : decode cX11_seenBy 130 = .ok (.laload, 1) := by decide +kernel
theorem dX11_seenBy_131 : decode cX11_seenBy 131 = .ok (.lconst 0, 1) := by decide +kernel
theorem dX11_seenBy_132 : decode cX11_seenBy 132 = .ok (.lcmp, 1) := by decide +kernel
theorem dX11_seenBy_133 : decode cX11_seenBy 133 = .ok (.ifCond .ne 9, 3) := by decide +kernel
theorem dX11_seenBy_136 : decode cX11_seenBy 136 = .ok (.iinc 6 1, 3) := by decide +kernel
theorem dX11_seenBy_139 : decode cX11_seenBy 139 = .ok (.goto (-75), 3) := by decide +kernel
theorem dX11_seenBy_142 : decode cX11_seenBy 142 = .ok (.iload 5, 2) := by decide +kernel
theorem dX11_seenBy_144 : decode cX11_seenBy 144 = .ok (.iload_n 2, 1) := by decide +kernel
theorem dX11_seenBy_145 : decode cX11_seenBy 145 = .ok (.if_icmp .ne 9, 3) := by decide +kernel
theorem dX11_seenBy_148 : decode cX11_seenBy 148 = .ok (.iload 6, 2) := by decide +kernel
theorem dX11_seenBy_150 : decode cX11_seenBy 150 = .ok (.invokestatic 373, 3) := by decide +kernel
theorem dX11_seenBy_153 : decode cX11_seenBy 153 = .ok (.ireturn, 1) := by decide +kernel
theorem dX11_seenBy_154 : decode cX11_seenBy 154 = .ok (.aload_n 0, 1) := by decide +kernel
theorem dX11_seenBy_155 : decode cX11_seenBy 155 = .ok (.getfield 43, 3) := by decide +kernel
theorem dX11_seenBy_158 : decode cX11_seenBy 158 = .ok (.bipush 15, 2) := by decide +kernel
theorem dX11_seenBy_160 : decode cX11_seenBy 160 = .ok (.iload 4, 2) := by decide +kernel
theorem dX11_seenBy_162 : decode cX11_seenBy 162 = .ok (.imul, 1) := by decide +kernel
theorem dX11_seenBy_163 : decode cX11_seenBy 163 = .ok (.iload 6, 2) := by decide +kernel
theorem dX11_seenBy_165 : decode cX11_seenBy 165 = .ok (.iadd, 1) := by decide +kernel
theorem dX11_seenBy_166 : decode cX11_seenBy 166 = .ok (.iaload, 1) := by decide +kernel
theorem dX11_seenBy_167 : decode cX11_seenBy 167 = .ok (.istore 4, 2) := by decide +kernel
theorem dX11_seenBy_169 : decode cX11_seenBy 169 = .ok (.iinc 5 1, 3) := by decide +kernel
theorem dX11_seenBy_172 : decode cX11_seenBy 172 = .ok (.goto (-111), 3) := by decide +kernel
theorem dX11_surely_0 : decode cX11_surely 0 = .ok (.aload_n 0, 1) := by decide +kernel
theorem dX11_surely_1 : decode cX11_surely 1 = .ok (.iconst 0, 1) := by decide +kernel
theorem dX11_surely_2 : decode cX11_surely 2 = .ok (.putfield 1, 3) := by decide +kernel
theorem dX11_surely_5 : decode cX11_surely 5 = .ok (.aload_n 0, 1) := by decide +kernel
theorem dX11_surely_6 : decode cX11_surely 6 = .ok (.iload_n 1, 1) := by decide +kernel
theorem dX11_surely_7 : decode cX11_surely 7 = .ok (.invokevirtual 415, 3) := by decide +kernel
theorem dX11_surely_10 : decode cX11_surely 10 = .ok (.istore_n 2, 1) := by decide +kernel
theorem dX11_surely_11 : decode cX11_surely 11 = .ok (.iload_n 2, 1) := by decide +kernel
theorem dX11_surely_12 : decode cX11_surely 12 = .ok (.ifCond .eq 5, 3) := by decide +kernel
theorem dX11_surely_15 : decode cX11_surely 15 = .ok (.iload_n 2, 1) := by decide +kernel
theorem dX11_surely_16 : decode cX11_surely 16 = .ok (.ireturn, 1) := by decide +kernel
theorem dX11_surely_17 : decode cX11_surely 17 = .ok (.aload_n 0, 1) := by decide +kernel
theorem dX11_surely_18 : decode cX11_surely 18 = .ok (.iconst 0, 1) := by decide +kernel
theorem dX11_surely_19 : decode cX11_surely 19 = .ok (.invokevirtual 359, 3) := by decide +kernel
theorem dX11_surely_22 : decode cX11_surely 22 = .ok (.iconst 0, 1) := by decide +kernel
theorem dX11_surely_23 : decode cX11_surely 23 = .ok (.istore_n 3, 1) := by decide +kernel
theorem dX11_surely_24 : decode cX11_surely 24 = .ok (.aload_n 0, 1) := by decide +kernel
theorem dX11_surely_25 : decode cX11_surely 25 = .ok (.iload_n 1, 1) := by decide +kernel
theorem dX11_surely_26 : decode cX11_surely 26 = .ok (.iconst (-1), 1) := by decide +kernel
theorem dX11_surely_27 : decode cX11_surely 27 = .ok (.invokevirtual 418, 3) := by decide +kernel
theorem dX11_surely_30 : decode cX11_surely 30 = .ok (.lconst 0, 1) := by decide +kernel
theorem dX11_surely_31 : decode cX11_surely 31 = .ok (.lcmp, 1) := by decide +kernel
theorem dX11_surely_32 : decode cX11_surely 32 = .ok (.ifCond .ne 5, 3) := by decide +kernel
theorem dX11_surely_35 : decode cX11_surely 35 = .ok (.iload_n 3, 1) := by decide +kernel
theorem dX11_surely_36 : decode cX11_surely 36 = .ok (.ireturn, 1) := by decide +kernel
theorem dX11_surely_37 : decode cX11_surely 37 = .ok (.iconst 0, 1) := by decide +kernel
theorem dX11_surely_38 : decode cX11_surely 38 = .ok (.istore 4, 2) := by decide +kernel
theorem dX11_surely_40 : decode cX11_surely 40 = .ok (.iload 4, 2) := by decide +kernel
theorem dX11_surely_42 : decode cX11_surely 42 = .ok (.aload_n 0, 1) := by decide +kernel
theorem dX11_surely_43 : decode cX11_surely 43 = .ok (.getfield 13, 3) := by decide +kernel
theorem dX11_surely_46 : decode cX11_surely 46 = .ok (.iconst 2, 1) := by decide +kernel
theorem dX11_surely_47 : decode cX11_surely 47 = .ok (.iaload, 1) := by decide +kernel
theorem dX11_surely_48 : decode cX11_surely 48 = .ok (.if_icmp .ge 32, 3) := by decide +kernel
theorem dX11_surely_51 : decode cX11_surely 51 = .ok (.iload_n 3, 1) := by decide +kernel
theorem dX11_surely_52 : decode cX11_surely 52 = .ok (.aload_n 0, 1) := by decide +kernel
theorem dX11_surely_53 : decode cX11_surely 53 = .ok (.iload_n 1, 1) := by decide +kernel
theorem dX11_surely_54 : decode cX11_surely 54 = .ok (.iload 4, 2) := by decide +kernel
theorem dX11_surely_56 : decode cX11_surely 56 = .ok (.invokevirtual 418, 3) := by decide +kernel
theorem dX11_surely_59 : decode cX11_surely 59 = .ok (.lconst 0, 1) := by decide +kernel
theorem dX11_surely_60 : decode cX11_surely 60 = .ok (.lcmp, 1) := by decide +kernel
theorem dX11_surely_61 : decode cX11_surely 61 = .ok (.ifCond .ne 10, 3) := by decide +kernel
theorem dX11_surely_64 : decode cX11_surely 64 = .ok (.iconst 1, 1) := by decide +kernel
theorem dX11_surely_65 : decode cX11_surely 65 = .ok (.iload 4, 2) := by decide +kernel
theorem dX11_surely_67 : decode cX11_surely 67 = .ok (.ishl, 1) := by decide +kernel
theorem dX11_surely_68 : decode cX11_surely 68 = .ok (.goto 4, 3) := by decide +kernel
theorem dX11_surely_71 : decode cX11_surely 71 = .ok (.iconst 0, 1) := by decide +kernel
theorem dX11_surely_72 : decode cX11_surely 72 = .ok (.ior, 1) := by decide +kernel
theorem dX11_surely_73 : decode cX11_surely 73 = .ok (.istore_n 3, 1) := by decide +kernel
theorem dX11_surely_74 : decode cX11_surely 74 = .ok (.iinc 4 1, 3) := by decide +kernel
theorem dX11_surely_77 : decode cX11_surely 77 = .ok (.goto (-37), 3) := by decide +kernel
theorem dX11_surely_80 : decode cX11_surely 80 = .ok (.iload_n 3, 1) := by decide +kernel
theorem dX11_surely_81 : decode cX11_surely 81 = .ok (.ireturn, 1) := by decide +kernel
theorem dX11_noTired_0 : decode cX11_noTired 0 = .ok (.aload_n 0, 1) := by decide +kernel
theorem dX11_noTired_1 : decode cX11_noTired 1 = .ok (.iload_n 1, 1) := by decide +kernel
theorem dX11_noTired_2 : decode cX11_noTired 2 = .ok (.invokevirtual 325, 3) := by decide +kernel
theorem dX11_noTired_5 : decode cX11_noTired 5 = .ok (.istore_n 2, 1) := by decide +kernel
theorem dX11_noTired_6 : decode cX11_noTired 6 = .ok (.iload_n 2, 1) := by decide +kernel
theorem dX11_noTired_7 : decode cX11_noTired 7 = .ok (.ifCond .eq 5, 3) := by decide +kernel
theorem dX11_noTired_10 : decode cX11_noTired 10 = .ok (.iload_n 2, 1) := by decide +kernel
theorem dX11_noTired_11 : decode cX11_noTired 11 = .ok (.ireturn, 1) := by decide +kernel
theorem dX11_noTired_12 : decode cX11_noTired 12 = .ok (.aload_n 0, 1) := by decide +kernel
theorem dX11_noTired_13 : decode cX11_noTired 13 = .ok (.getfield 86, 3) := by decide +kernel
theorem dX11_noTired_16 : decode cX11_noTired 16 = .ok (.iload_n 1, 1) := by decide +kernel
theorem dX11_noTired_17 : decode cX11_noTired 17 = .ok (.iaload, 1) := by decide +kernel
theorem dX11_noTired_18 : decode cX11_noTired 18 = .ok (.i2l, 1) := by decide +kernel
theorem dX11_noTired_19 : decode cX11_noTired 19 = .ok (.lconst 1, 1) := by decide +kernel
theorem dX11_noTired_20 : decode cX11_noTired 20 = .ok (.ldc2_w 422, 3) := by decide +kernel
theorem dX11_noTired_23 : decode cX11_noTired 23 = .ok (.invokestatic 158, 3) := by decide +kernel
theorem dX11_noTired_26 : decode cX11_noTired 26 = .ok (.ifCond .ne 6, 3) := by decide +kernel
theorem dX11_noTired_29 : decode cX11_noTired 29 = .ok (.bipush (-4), 2) := by decide +kernel
theorem dX11_noTired_31 : decode cX11_noTired 31 = .ok (.ireturn, 1) := by decide +kernel
theorem dX11_noTired_32 : decode cX11_noTired 32 = .ok (.iconst 0, 1) := by decide +kernel
theorem dX11_noTired_33 : decode cX11_noTired 33 = .ok (.istore_n 3, 1) := by decide +kernel
theorem dX11_noTired_34 : decode cX11_noTired 34 = .ok (.iload_n 3, 1) := by decide +kernel
theorem dX11_noTired_35 : decode cX11_noTired 35 = .ok (.aload_n 0, 1) := by decide +kernel
theorem dX11_noTired_36 : decode cX11_noTired 36 = .ok (.getfield 86, 3) := by decide +kernel
theorem dX11_noTired_39 : decode cX11_noTired 39 = .ok (.iload_n 1, 1) := by decide +kernel
theorem dX11_noTired_40 : decode cX11_noTired 40 = .ok (.iaload, 1) := by decide +kernel
theorem dX11_noTired_41 : decode cX11_noTired 41 = .ok (.if_icmp .ge 33, 3) := by decide +kernel
theorem dX11_noTired_44 : decode cX11_noTired 44 = .ok (.aload_n 0, 1) := by decide +kernel
theorem dX11_noTired_45 : decode cX11_noTired 45 = .ok (.getfield 89, 3) := by decide +kernel
theorem dX11_noTired_48 : decode cX11_noTired 48 = .ok (.bipush 40, 2) := by decide +kernel
theorem dX11_noTired_50 : decode cX11_noTired 50 = .ok (.iload_n 1, 1) := by decide +kernel
theorem dX11_noTired_51 : decode cX11_noTired 51 = .ok (.imul, 1) := by decide +kernel
theorem dX11_noTired_52 : decode cX11_noTired 52 = .ok (.iload_n 3, 1) := by decide +kernel
theorem dX11_noTired_53 : decode cX11_noTired 53 = .ok (.iadd, 1) := by decide +kernel
theorem dX11_noTired_54 : decode cX11_noTired 54 = .ok (.laload, 1) := by decide +kernel
theorem dX11_noTired_55 : decode cX11_noTired 55 = .ok (.lconst 0, 1) := by decide +kernel
theorem dX11_noTired_56 : decode cX11_noTired 56 = .ok (.ldc2_w 424, 3) := by decide +kernel
theorem dX11_noTired_59 : decode cX11_noTired 59 = .ok (.invokestatic 158, 3) := by decide +kernel
theorem dX11_noTired_62 : decode cX11_noTired 62 = .ok (.ifCond .ne 6, 3) := by decide +kernel
theorem dX11_noTired_65 : decode cX11_noTired 65 = .ok (.bipush (-3), 2) := by decide +kernel
theorem dX11_noTired_67 : decode cX11_noTired 67 = .ok (.ireturn, 1) := by decide +kernel
theorem dX11_noTired_68 : decode cX11_noTired 68 = .ok (.iinc 3 1, 3) := by decide +kernel
theorem dX11_noTired_71 : decode cX11_noTired 71 = .ok (.goto (-37), 3) := by decide +kernel
theorem dX11_noTired_74 : decode cX11_noTired 74 = .ok (.iconst 0, 1) := by decide +kernel
theorem dX11_noTired_75 : decode cX11_noTired 75 = .ok (.ireturn, 1) := by decide +kernel
theorem dX11_windsOf_0 : decode cX11_windsOf 0 = .ok (.iconst 0, 1) := by decide +kernel
theorem dX11_windsOf_1 : decode cX11_windsOf 1 = .ok (.istore_n 2, 1) := by decide +kernel
theorem dX11_windsOf_2 : decode cX11_windsOf 2 = .ok (.iconst 0, 1) := by decide +kernel
theorem dX11_windsOf_3 : decode cX11_windsOf 3 = .ok (.istore_n 3, 1) := by decide +kernel
theorem dX11_windsOf_4 : decode cX11_windsOf 4 = .ok (.iload_n 3, 1) := by decide +kernel
theorem dX11_windsOf_5 : decode cX11_windsOf 5 = .ok (.bipush 10, 2) := by decide +kernel
theorem dX11_windsOf_7 : decode cX11_windsOf 7 = .ok (.if_icmp .ge 109, 3) := by decide +kernel
theorem dX11_windsOf_10 : decode cX11_windsOf 10 = .ok (.aload_n 0, 1) := by decide +kernel
theorem dX11_windsOf_11 : decode cX11_windsOf 11 = .ok (.invokevirtual 279, 3) := by decide +kernel
theorem dX11_windsOf_14 : decode cX11_windsOf 14 = .ok (.istore 4, 2) := by decide +kernel
theorem dX11_windsOf_16 : decode cX11_windsOf 16 = .ok (.iconst 1, 1) := by decide +kernel
theorem dX11_windsOf_17 : decode cX11_windsOf 17 = .ok (.istore 5, 2) := by decide +kernel
theorem dX11_windsOf_19 : decode cX11_windsOf 19 = .ok (.iconst 0, 1) := by decide +kernel
theorem dX11_windsOf_20 : decode cX11_windsOf 20 = .ok (.istore 6, 2) := by decide +kernel
theorem dX11_windsOf_22 : decode cX11_windsOf 22 = .ok (.iload 6, 2) := by decide +kernel
theorem dX11_windsOf_24 : decode cX11_windsOf 24 = .ok (.aload_n 0, 1) := by decide +kernel
theorem dX11_windsOf_25 : decode cX11_windsOf 25 = .ok (.getfield 86, 3) := by decide +kernel
theorem dX11_windsOf_28 : decode cX11_windsOf 28 = .ok (.iload_n 1, 1) := by decide +kernel
theorem dX11_windsOf_29 : decode cX11_windsOf 29 = .ok (.iaload, 1) := by decide +kernel
theorem dX11_windsOf_30 : decode cX11_windsOf 30 = .ok (.if_icmp .ge 65, 3) := by decide +kernel
theorem dX11_windsOf_33 : decode cX11_windsOf 33 = .ok (.aload_n 0, 1) := by decide +kernel
theorem dX11_windsOf_34 : decode cX11_windsOf 34 = .ok (.iload 4, 2) := by decide +kernel
theorem dX11_windsOf_36 : decode cX11_windsOf 36 = .ok (.aload_n 0, 1) := by decide +kernel
theorem dX11_windsOf_37 : decode cX11_windsOf 37 = .ok (.iload 4, 2) := by decide +kernel
theorem dX11_windsOf_39 : decode cX11_windsOf 39 = .ok (.iconst 1, 1) := by decide +kernel
theorem dX11_windsOf_40 : decode cX11_windsOf 40 = .ok (.iload_n 3, 1) := by decide +kernel
theorem dX11_windsOf_41 : decode cX11_windsOf 41 = .ok (.invokevirtual 282, 3) := by decide +kernel
theorem dX11_windsOf_44 : decode cX11_windsOf 44 = .ok (.ifCond .ne 7, 3) := by decide +kernel
theorem dX11_windsOf_47 : decode cX11_windsOf 47 = .ok (.iconst 1, 1) := by decide +kernel
theorem dX11_windsOf_48 : decode cX11_windsOf 48 = .ok (.goto 4, 3) := by decide +kernel
theorem dX11_windsOf_51 : decode cX11_windsOf 51 = .ok (.iconst 0, 1) := by decide +kernel
theorem dX11_windsOf_52 : decode cX11_windsOf 52 = .ok (.iload_n 3, 1) := by decide +kernel
theorem dX11_windsOf_53 : decode cX11_windsOf 53 = .ok (.invokevirtual 288, 3) := by decide +kernel
theorem dX11_windsOf_56 : decode cX11_windsOf 56 = .ok (.istore 4, 2) := by decide +kernel
theorem dX11_windsOf_58 : decode cX11_windsOf 58 = .ok (.iload 5, 2) := by decide +kernel
theorem dX11_windsOf_60 : decode cX11_windsOf 60 = .ok (.iload 4, 2) := by decide +kernel
theorem dX11_windsOf_62 : decode cX11_windsOf 62 = .ok (.iconst 5, 1) := by decide +kernel
theorem dX11_windsOf_63 : decode cX11_windsOf 63 = .ok (.irem, 1) := by decide +kernel
theorem dX11_windsOf_64 : decode cX11_windsOf 64 = .ok (.i2l, 1) := by decide +kernel
theorem dX11_windsOf_65 : decode cX11_windsOf 65 = .ok (.aload_n 0, 1) := by decide +kernel
theorem dX11_windsOf_66 : decode cX11_windsOf 66 = .ok (.getfield 89, 3) := by decide +kernel
theorem dX11_windsOf_69 : decode cX11_windsOf 69 = .ok (.bipush 40, 2) := by decide +kernel
theorem dX11_windsOf_71 : decode cX11_windsOf 71 = .ok (.iload_n 1, 1) := by decide +kernel
theorem dX11_windsOf_72 : decode cX11_windsOf 72 = .ok (.imul, 1) := by decide +kernel
theorem dX11_windsOf_73 : decode cX11_windsOf 73 = .ok (.iload 6, 2) := by decide +kernel
theorem dX11_windsOf_75 : decode cX11_windsOf 75 = .ok (.iadd, 1) := by decide +kernel
theorem dX11_windsOf_76 : decode cX11_windsOf 76 = .ok (.laload, 1) := by decide +kernel
theorem dX11_windsOf_77 : decode cX11_windsOf 77 = .ok (.lcmp, 1) := by decide +kernel
theorem dX11_windsOf_78 : decode cX11_windsOf 78 = .ok (.ifCond .ne 7, 3) := by decide +kernel
theorem dX11_windsOf_81 : decode cX11_windsOf 81 = .ok (.iconst 1, 1) := by decide +kernel
theorem dX11_windsOf_82 : decode cX11_windsOf 82 = .ok (.goto 4, 3) := by decide +kernel
theorem dX11_windsOf_85 : decode cX11_windsOf 85 = .ok (.iconst 0, 1) := by decide +kernel
theorem dX11_windsOf_86 : decode cX11_windsOf 86 = .ok (.iand, 1) := by decide +kernel
theorem dX11_windsOf_87 : decode cX11_windsOf 87 = .ok (.istore 5, 2) := by decide +kernel
theorem dX11_windsOf_89 : decode cX11_windsOf 89 = .ok (.iinc 6 1, 3) := by decide +kernel
theorem dX11_windsOf_92 : decode cX11_windsOf 92 = .ok (.goto (-70), 3) := by decide +kernel
theorem dX11_windsOf_95 : decode cX11_windsOf 95 = .ok (.iload_n 2, 1) := by decide +kernel
theorem dX11_windsOf_96 : decode cX11_windsOf 96 = .ok (.iload 5, 2) := by decide +kernel
theorem dX11_windsOf_98 : decode cX11_windsOf 98 = .ok (.ifCond .eq 9, 3) := by decide +kernel
theorem dX11_windsOf_101 : decode cX11_windsOf 101 = .ok (.iconst 1, 1) := by decide +kernel
theorem dX11_windsOf_102 : decode cX11_windsOf 102 = .ok (.iload_n 3, 1) := by decide +kernel
theorem dX11_windsOf_103 : decode cX11_windsOf 103 = .ok (.ishl, 1) := by decide +kernel
theorem dX11_windsOf_104 : decode cX11_windsOf 104 = .ok (.goto 4, 3) := by decide +kernel
theorem dX11_windsOf_107 : decode cX11_windsOf 107 = .ok (.iconst 0, 1) := by decide +kernel
theorem dX11_windsOf_108 : decode cX11_windsOf 108 = .ok (.ior, 1) := by decide +kernel
theorem dX11_windsOf_109 : decode cX11_windsOf 109 = .ok (.istore_n 2, 1) := by decide +kernel
theorem dX11_windsOf_110 : decode cX11_windsOf 110 = .ok (.iinc 3 1, 3) := by decide +kernel
theorem dX11_windsOf_113 : decode cX11_windsOf 113 = .ok (.goto (-109), 3) := by decide +kernel
theorem dX11_windsOf_116 : decode cX11_windsOf 116 = .ok (.iload_n 2, 1) := by decide +kernel
theorem dX11_windsOf_117 : decode cX11_windsOf 117 = .ok (.ireturn, 1) := by decide +kernel
theorem dX11_winds_0 : decode cX11_winds 0 = .ok (.aload_n 0, 1) := by decide +kernel
theorem dX11_winds_1 : decode cX11_winds 1 = .ok (.iconst 0, 1) := by decide +kernel
theorem dX11_winds_2 : decode cX11_winds 2 = .ok (.putfield 1, 3) := by decide +kernel
theorem dX11_winds_5 : decode cX11_winds 5 = .ok (.aload_n 0, 1) := by decide +kernel
theorem dX11_winds_6 : decode cX11_winds 6 = .ok (.iload_n 1, 1) := by decide +kernel
theorem dX11_winds_7 : decode cX11_winds 7 = .ok (.invokevirtual 426, 3) := by decide +kernel
theorem dX11_winds_10 : decode cX11_winds 10 = .ok (.istore_n 2, 1) := by decide +kernel
theorem dX11_winds_11 : decode cX11_winds 11 = .ok (.iload_n 2, 1) := by decide +kernel
theorem dX11_winds_12 : decode cX11_winds 12 = .ok (.ifCond .eq 7, 3) := by decide +kernel
theorem dX11_winds_15 : decode cX11_winds 15 = .ok (.iload_n 2, 1) := by decide +kernel
theorem dX11_winds_16 : decode cX11_winds 16 = .ok (.goto 8, 3) := by decide +kernel
theorem dX11_winds_19 : decode cX11_winds 19 = .ok (.aload_n 0, 1) := by decide +kernel
theorem dX11_winds_20 : decode cX11_winds 20 = .ok (.iload_n 1, 1) := by decide +kernel
theorem dX11_winds_21 : decode cX11_winds 21 = .ok (.invokevirtual 429, 3) := by decide +kernel
theorem dX11_winds_24 : decode cX11_winds 24 = .ok (.ireturn, 1) := by decide +kernel
theorem dX11_mostAlike_0 : decode cX11_mostAlike 0 = .ok (.iconst 0, 1) := by decide +kernel
theorem dX11_mostAlike_1 : decode cX11_mostAlike 1 = .ok (.istore_n 3, 1) := by decide +kernel
theorem dX11_mostAlike_2 : decode cX11_mostAlike 2 = .ok (.iconst 0, 1) := by decide +kernel
theorem dX11_mostAlike_3 : decode cX11_mostAlike 3 = .ok (.istore 4, 2) := by decide +kernel
theorem dX11_mostAlike_5 : decode cX11_mostAlike 5 = .ok (.iload 4, 2) := by decide +kernel
theorem dX11_mostAlike_7 : decode cX11_mostAlike 7 = .ok (.bipush 10, 2) := by decide +kernel
theorem dX11_mostAlike_9 : decode cX11_mostAlike 9 = .ok (.if_icmp .ge 66, 3) := by decide +kernel
theorem dX11_mostAlike_12 : decode cX11_mostAlike 12 = .ok (.aload_n 0, 1) := by decide +kernel
theorem dX11_mostAlike_13 : decode cX11_mostAlike 13 = .ok (.aload_n 0, 1) := by decide +kernel
theorem dX11_mostAlike_14 : decode cX11_mostAlike 14 = .ok (.invokevirtual 279, 3) := by decide +kernel
theorem dX11_mostAlike_17 : decode cX11_mostAlike 17 = .ok (.iload_n 1, 1) := by decide +kernel
theorem dX11_mostAlike_18 : decode cX11_mostAlike 18 = .ok (.iload 4, 2) := by decide +kernel
theorem dX11_mostAlike_20 : decode cX11_mostAlike 20 = .ok (.invokevirtual 282, 3) := by decide +kernel
theorem dX11_mostAlike_23 : decode cX11_mostAlike 23 = .ok (.ifCond .ne 17, 3) := by decide +kernel
theorem dX11_mostAlike_26 : decode cX11_mostAlike 26 = .ok (.aload_n 0, 1) := by decide +kernel
theorem dX11_mostAlike_27 : decode cX11_mostAlike 27 = .ok (.aload_n 0, 1) := by decide +kernel
theorem dX11_mostAlike_28 : decode cX11_mostAlike 28 = .ok (.invokevirtual 279, 3) := by decide +kernel
theorem dX11_mostAlike_31 : decode cX11_mostAlike 31 = .ok (.iload_n 1, 1) := by decide +kernel
theorem dX11_mostAlike_32 : decode cX11_mostAlike 32 = .ok (.iload 4, 2) := by decide +kernel
theorem dX11_mostAlike_34 : decode cX11_mostAlike 34 = .ok (.invokevirtual 288, 3) := by decide +kernel
theorem dX11_mostAlike_37 : decode cX11_mostAlike 37 = .ok (.goto 7, 3) := by decide +kernel
theorem dX11_mostAlike_40 : decode cX11_mostAlike 40 = .ok (.aload_n 0, 1) := by decide +kernel
theorem dX11_mostAlike_41 : decode cX11_mostAlike 41 = .ok (.invokevirtual 279, 3) := by decide +kernel
theorem dX11_mostAlike_44 : decode cX11_mostAlike 44 = .ok (.istore 5, 2) := by decide +kernel
theorem dX11_mostAlike_46 : decode cX11_mostAlike 46 = .ok (.aload_n 0, 1) := by decide +kernel
theorem dX11_mostAlike_47 : decode cX11_mostAlike 47 = .ok (.getfield 74, 3) := by decide +kernel
theorem dX11_mostAlike_50 : decode cX11_mostAlike 50 = .ok (.iload 4, 2) := by decide +kernel
theorem dX11_mostAlike_52 : decode cX11_mostAlike 52 = .ok (.iload_n 2, 1) := by decide +kernel
theorem dX11_mostAlike_53 : decode cX11_mostAlike 53 = .ok (.i2l, 1) := by decide +kernel
theorem dX11_mostAlike_54 : decode cX11_mostAlike 54 = .ok (.iload 4, 2) := by decide +kernel
theorem dX11_mostAlike_56 : decode cX11_mostAlike 56 = .ok (.invokestatic 265, 3) := by decide +kernel
theorem dX11_mostAlike_59 : decode cX11_mostAlike 59 = .ok (.ifCond .eq 8, 3) := by decide +kernel
theorem dX11_mostAlike_62 : decode cX11_mostAlike 62 = .ok (.iload 5, 2) := by decide +kernel
theorem dX11_mostAlike_64 : decode cX11_mostAlike 64 = .ok (.goto 4, 3) := by decide +kernel
theorem dX11_mostAlike_67 : decode cX11_mostAlike 67 = .ok (.iconst (-1), 1) := by decide +kernel
theorem dX11_mostAlike_68 : decode cX11_mostAlike 68 = .ok (.iastore, 1) := by decide +kernel
theorem dX11_mostAlike_69 : decode cX11_mostAlike 69 = .ok (.iinc 4 1, 3) := by decide +kernel
theorem dX11_mostAlike_72 : decode cX11_mostAlike 72 = .ok (.goto (-67), 3) := by decide +kernel
theorem dX11_mostAlike_75 : decode cX11_mostAlike 75 = .ok (.iconst 0, 1) := by decide +kernel
theorem dX11_mostAlike_76 : decode cX11_mostAlike 76 = .ok (.istore 4, 2) := by decide +kernel
theorem dX11_mostAlike_78 : decode cX11_mostAlike 78 = .ok (.iload 4, 2) := by decide +kernel
theorem dX11_mostAlike_80 : decode cX11_mostAlike 80 = .ok (.bipush 10, 2) := by decide +kernel
theorem dX11_mostAlike_82 : decode cX11_mostAlike 82 = .ok (.if_icmp .ge 79, 3) := by decide +kernel
theorem dX11_mostAlike_85 : decode cX11_mostAlike 85 = .ok (.iconst 0, 1) := by decide +kernel
theorem dX11_mostAlike_86 : decode cX11_mostAlike 86 = .ok (.istore 5, 2) := by decide +kernel
theorem dX11_mostAlike_88 : decode cX11_mostAlike 88 = .ok (.iconst 0, 1) := by decide +kernel
theorem dX11_mostAlike_89 : decode cX11_mostAlike 89 = .ok (.istore 6, 2) := by decide +kernel
theorem dX11_mostAlike_91 : decode cX11_mostAlike 91 = .ok (.iload 6, 2) := by decide +kernel
theorem dX11_mostAlike_93 : decode cX11_mostAlike 93 = .ok (.bipush 10, 2) := by decide +kernel
theorem dX11_mostAlike_95 : decode cX11_mostAlike 95 = .ok (.if_icmp .ge 47, 3) := by decide +kernel
theorem dX11_mostAlike_98 : decode cX11_mostAlike 98 = .ok (.iload 5, 2) := by decide +kernel
theorem dX11_mostAlike_100 : decode cX11_mostAlike 100 = .ok (.aload_n 0, 1) := by decide +kernel
theorem dX11_mostAlike_101 : decode cX11_mostAlike 101 = .ok (.getfield 74, 3) := by decide +kernel
theorem dX11_mostAlike_104 : decode cX11_mostAlike 104 = .ok (.iload 4, 2) := by decide +kernel
theorem dX11_mostAlike_106 : decode cX11_mostAlike 106 = .ok (.iaload, 1) := by decide +kernel
theorem dX11_mostAlike_107 : decode cX11_mostAlike 107 = .ok (.iconst (-1), 1) := by decide +kernel
theorem dX11_mostAlike_108 : decode cX11_mostAlike 108 = .ok (.if_icmp .eq 24, 3) := by decide +kernel
theorem dX11_mostAlike_111 : decode cX11_mostAlike 111 = .ok (.aload_n 0, 1) := by decide +kernel
theorem dX11_mostAlike_112 : decode cX11_mostAlike 112 = .ok (.getfield 74, 3) := by decide +kernel
theorem dX11_mostAlike_115 : decode cX11_mostAlike 115 = .ok (.iload 6, 2) := by decide +kernel
theorem dX11_mostAlike_117 : decode cX11_mostAlike 117 = .ok (.iaload, 1) := by decide +kernel
theorem dX11_mostAlike_118 : decode cX11_mostAlike 118 = .ok (.aload_n 0, 1) := by decide +kernel
theorem dX11_mostAlike_119 : decode cX11_mostAlike 119 = .ok (.getfield 74, 3) := by decide +kernel
theorem dX11_mostAlike_122 : decode cX11_mostAlike 122 = .ok (.iload 4, 2) := by decide +kernel
theorem dX11_mostAlike_124 : decode cX11_mostAlike 124 = .ok (.iaload, 1) := by decide +kernel
theorem dX11_mostAlike_125 : decode cX11_mostAlike 125 = .ok (.if_icmp .ne 7, 3) := by decide +kernel
theorem dX11_mostAlike_128 : decode cX11_mostAlike 128 = .ok (.iconst 1, 1) := by decide +kernel
theorem dX11_mostAlike_129 : decode cX11_mostAlike 129 = .ok (.goto 4, 3) := by decide +kernel
theorem dX11_mostAlike_132 : decode cX11_mostAlike 132 = .ok (.iconst 0, 1) := by decide +kernel
theorem dX11_mostAlike_133 : decode cX11_mostAlike 133 = .ok (.iadd, 1) := by decide +kernel
theorem dX11_mostAlike_134 : decode cX11_mostAlike 134 = .ok (.istore 5, 2) := by decide +kernel
theorem dX11_mostAlike_136 : decode cX11_mostAlike 136 = .ok (.iinc 6 1, 3) := by decide +kernel
theorem dX11_mostAlike_139 : decode cX11_mostAlike 139 = .ok (.goto (-48), 3) := by decide +kernel
theorem dX11_mostAlike_142 : decode cX11_mostAlike 142 = .ok (.iload 5, 2) := by decide +kernel
theorem dX11_mostAlike_144 : decode cX11_mostAlike 144 = .ok (.iload_n 3, 1) := by decide +kernel
theorem dX11_mostAlike_145 : decode cX11_mostAlike 145 = .ok (.if_icmp .le 8, 3) := by decide +kernel
theorem dX11_mostAlike_148 : decode cX11_mostAlike 148 = .ok (.iload 5, 2) := by decide +kernel
theorem dX11_mostAlike_150 : decode cX11_mostAlike 150 = .ok (.goto 4, 3) := by decide +kernel
theorem dX11_mostAlike_153 : decode cX11_mostAlike 153 = .ok (.iload_n 3, 1) := by decide +kernel
theorem dX11_mostAlike_154 : decode cX11_mostAlike 154 = .ok (.istore_n 3, 1) := by decide +kernel
theorem dX11_mostAlike_155 : decode cX11_mostAlike 155 = .ok (.iinc 4 1, 3) := by decide +kernel
theorem dX11_mostAlike_158 : decode cX11_mostAlike 158 = .ok (.goto (-80), 3) := by decide +kernel
theorem dX11_mostAlike_161 : decode cX11_mostAlike 161 = .ok (.iload_n 3, 1) := by decide +kernel
theorem dX11_mostAlike_162 : decode cX11_mostAlike 162 = .ok (.ireturn, 1) := by decide +kernel
theorem dX11_attempt_0 : decode cX11_attempt 0 = .ok (.aload_n 0, 1) := by decide +kernel
theorem dX11_attempt_1 : decode cX11_attempt 1 = .ok (.iconst 0, 1) := by decide +kernel
theorem dX11_attempt_2 : decode cX11_attempt 2 = .ok (.putfield 1, 3) := by decide +kernel
theorem dX11_attempt_5 : decode cX11_attempt 5 = .ok (.aload_n 0, 1) := by decide +kernel
theorem dX11_attempt_6 : decode cX11_attempt 6 = .ok (.iload_n 1, 1) := by decide +kernel
theorem dX11_attempt_7 : decode cX11_attempt 7 = .ok (.invokevirtual 426, 3) := by decide +kernel
theorem dX11_attempt_10 : decode cX11_attempt 10 = .ok (.istore_n 2, 1) := by decide +kernel
theorem dX11_attempt_11 : decode cX11_attempt 11 = .ok (.iload_n 2, 1) := by decide +kernel
theorem dX11_attempt_12 : decode cX11_attempt 12 = .ok (.ifCond .eq 5, 3) := by decide +kernel
theorem dX11_attempt_15 : decode cX11_attempt 15 = .ok (.iload_n 2, 1) := by decide +kernel
theorem dX11_attempt_16 : decode cX11_attempt 16 = .ok (.ireturn, 1) := by decide +kernel
theorem dX11_attempt_17 : decode cX11_attempt 17 = .ok (.aload_n 0, 1) := by decide +kernel
theorem dX11_attempt_18 : decode cX11_attempt 18 = .ok (.iload_n 1, 1) := by decide +kernel
theorem dX11_attempt_19 : decode cX11_attempt 19 = .ok (.invokevirtual 429, 3) := by decide +kernel
theorem dX11_attempt_22 : decode cX11_attempt 22 = .ok (.istore_n 3, 1) := by decide +kernel
theorem dX11_attempt_23 : decode cX11_attempt 23 = .ok (.iconst (-1), 1) := by decide +kernel
theorem dX11_attempt_24 : decode cX11_attempt 24 = .ok (.istore 4, 2) := by decide +kernel
theorem dX11_attempt_26 : decode cX11_attempt 26 = .ok (.ldc_w 358, 3) := by decide +kernel
theorem dX11_attempt_29 : decode cX11_attempt 29 = .ok (.istore 5, 2) := by decide +kernel
theorem dX11_attempt_31 : decode cX11_attempt 31 = .ok (.iconst 0, 1) := by decide +kernel
theorem dX11_attempt_32 : decode cX11_attempt 32 = .ok (.istore 6, 2) := by decide +kernel
theorem dX11_attempt_34 : decode cX11_attempt 34 = .ok (.iload 6, 2) := by decide +kernel
theorem dX11_attempt_36 : decode cX11_attempt 36 = .ok (.iconst 3, 1) := by decide +kernel
theorem dX11_attempt_37 : decode cX11_attempt 37 = .ok (.if_icmp .ge 40, 3) := by decide +kernel
theorem dX11_attempt_40 : decode cX11_attempt 40 = .ok (.iload_n 3, 1) := by decide +kernel
theorem dX11_attempt_41 : decode cX11_attempt 41 = .ok (.ifCond .eq 36, 3) := by decide +kernel
theorem dX11_attempt_44 : decode cX11_attempt 44 = .ok (.aload_n 0, 1) := by decide +kernel
theorem dX11_attempt_45 : decode cX11_attempt 45 = .ok (.iload 6, 2) := by decide +kernel
theorem dX11_attempt_47 : decode cX11_attempt 47 = .ok (.iload_n 3, 1) := by decide +kernel
theorem dX11_attempt_48 : decode cX11_attempt 48 = .ok (.invokevirtual 432, 3) := by decide +kernel
theorem dX11_attempt_51 : decode cX11_attempt 51 = .ok (.istore 7, 2) := by decide +kernel
theorem dX11_attempt_53 : decode cX11_attempt 53 = .ok (.iload 7, 2) := by decide +kernel
theorem dX11_attempt_55 : decode cX11_attempt 55 = .ok (.iload 5, 2) := by decide +kernel
theorem dX11_attempt_57 : decode cX11_attempt 57 = .ok (.if_icmp .lt 6, 3) := by decide +kernel
theorem dX11_attempt_60 : decode cX11_attempt 60 = .ok (.goto 11, 3) := by decide +kernel
theorem dX11_attempt_63 : decode cX11_attempt 63 = .ok (.iload 6, 2) := by decide +kernel
theorem dX11_attempt_65 : decode cX11_attempt 65 = .ok (.istore 4, 2) := by decide +kernel
theorem dX11_attempt_67 : decode cX11_attempt 67 = .ok (.iload 7, 2) := by decide +kernel
theorem dX11_attempt_69 : decode cX11_attempt 69 = .ok (.istore 5, 2) := by decide +kernel
theorem dX11_attempt_71 : decode cX11_attempt 71 = .ok (.iinc 6 1, 3) := by decide +kernel
theorem dX11_attempt_74 : decode cX11_attempt 74 = .ok (.goto (-40), 3) := by decide +kernel
theorem dX11_attempt_77 : decode cX11_attempt 77 = .ok (.iload 4, 2) := by decide +kernel
theorem dX11_attempt_79 : decode cX11_attempt 79 = .ok (.ireturn, 1) := by decide +kernel
theorem dX11_standsBy_0 : decode cX11_standsBy 0 = .ok (.aload_n 0, 1) := by decide +kernel
theorem dX11_standsBy_1 : decode cX11_standsBy 1 = .ok (.getfield 43, 3) := by decide +kernel
theorem dX11_standsBy_4 : decode cX11_standsBy 4 = .ok (.bipush 15, 2) := by decide +kernel
theorem dX11_standsBy_6 : decode cX11_standsBy 6 = .ok (.iload_n 1, 1) := by decide +kernel
theorem dX11_standsBy_7 : decode cX11_standsBy 7 = .ok (.imul, 1) := by decide +kernel
theorem dX11_standsBy_8 : decode cX11_standsBy 8 = .ok (.iload_n 2, 1) := by decide +kernel
theorem dX11_standsBy_9 : decode cX11_standsBy 9 = .ok (.iadd, 1) := by decide +kernel
theorem dX11_standsBy_10 : decode cX11_standsBy 10 = .ok (.iaload, 1) := by decide +kernel
theorem dX11_standsBy_11 : decode cX11_standsBy 11 = .ok (.istore 4, 2) := by decide +kernel
theorem dX11_standsBy_13 : decode cX11_standsBy 13 = .ok (.iload 4, 2) := by decide +kernel
theorem dX11_standsBy_15 : decode cX11_standsBy 15 = .ok (.iconst (-1), 1) := by decide +kernel
theorem dX11_standsBy_16 : decode cX11_standsBy 16 = .ok (.if_icmp .eq 19, 3) := by decide +kernel
theorem dX11_standsBy_19 : decode cX11_standsBy 19 = .ok (.aload_n 0, 1) := by decide +kernel
theorem dX11_standsBy_20 : decode cX11_standsBy 20 = .ok (.getfield 77, 3) := by decide +kernel
theorem dX11_standsBy_23 : decode cX11_standsBy 23 = .ok (.sipush 2880, 3) := by decide +kernel
theorem dX11_standsBy_26 : decode cX11_standsBy 26 = .ok (.iload_n 3, 1) := by decide +kernel
theorem dX11_standsBy_27 : decode cX11_standsBy 27 = .ok (.imul, 1) := by decide +kernel
theorem dX11_standsBy_28 : decode cX11_standsBy 28 = .ok (.iload 4, 2) := by decide +kernel
theorem dX11_standsBy_30 : decode cX11_standsBy 30 = .ok (.iadd, 1) := by decide +kernel
theorem dX11_standsBy_31 : decode cX11_standsBy 31 = .ok (.baload, 1) := by decide +kernel
theorem dX11_standsBy_32 : decode cX11_standsBy 32 = .ok (.ifCond .ne 5, 3) := by decide +kernel
theorem dX11_standsBy_35 : decode cX11_standsBy 35 = .ok (.iconst 0, 1) := by decide +kernel
theorem dX11_standsBy_36 : decode cX11_standsBy 36 = .ok (.ireturn, 1) := by decide +kernel
theorem dX11_standsBy_37 : decode cX11_standsBy 37 = .ok (.iload_n 2, 1) := by decide +kernel
theorem dX11_standsBy_38 : decode cX11_standsBy 38 = .ok (.iconst 1, 1) := by decide +kernel
theorem dX11_standsBy_39 : decode cX11_standsBy 39 = .ok (.if_icmp .ne 28, 3) := by decide +kernel
theorem dX11_standsBy_42 : decode cX11_standsBy 42 = .ok (.iload_n 3, 1) := by decide +kernel
theorem dX11_standsBy_43 : decode cX11_standsBy 43 = .ok (.ifCond .eq 24, 3) := by decide +kernel
theorem dX11_standsBy_46 : decode cX11_standsBy 46 = .ok (.aload_n 0, 1) := by decide +kernel
theorem dX11_standsBy_47 : decode cX11_standsBy 47 = .ok (.getfield 77, 3) := by decide +kernel
theorem dX11_standsBy_50 : decode cX11_standsBy 50 = .ok (.sipush 2880, 3) := by decide +kernel
theorem dX11_standsBy_53 : decode cX11_standsBy 53 = .ok (.iload_n 3, 1) := by decide +kernel
theorem dX11_standsBy_54 : decode cX11_standsBy 54 = .ok (.iconst 1, 1) := by decide +kernel
theorem dX11_standsBy_55 : decode cX11_standsBy 55 = .ok (.isub, 1) := by decide +kernel
theorem dX11_standsBy_56 : decode cX11_standsBy 56 = .ok (.imul, 1) := by decide +kernel
theorem dX11_standsBy_57 : decode cX11_standsBy 57 = .ok (.iload 4, 2) := by decide +kernel
theorem dX11_standsBy_59 : decode cX11_standsBy 59 = .ok (.invokestatic 355, 3) := by decide +kernel
theorem dX11_standsBy_62 : decode cX11_standsBy 62 = .ok (.iadd, 1) := by decide +kernel
theorem dX11_standsBy_63 : decode cX11_standsBy 63 = .ok (.baload, 1) := by decide +kernel
theorem dX11_standsBy_64 : decode cX11_standsBy 64 = .ok (.ifCond .eq 7, 3) := by decide +kernel
theorem dX11_standsBy_67 : decode cX11_standsBy 67 = .ok (.iconst 1, 1) := by decide +kernel
theorem dX11_standsBy_68 : decode cX11_standsBy 68 = .ok (.goto 4, 3) := by decide +kernel
theorem dX11_standsBy_71 : decode cX11_standsBy 71 = .ok (.iconst 0, 1) := by decide +kernel
theorem dX11_standsBy_72 : decode cX11_standsBy 72 = .ok (.ireturn, 1) := by decide +kernel
theorem dX11_laysStood_0 : decode cX11_laysStood 0 = .ok (.iconst 0, 1) := by decide +kernel
theorem dX11_laysStood_1 : decode cX11_laysStood 1 = .ok (.istore_n 3, 1) := by decide +kernel
theorem dX11_laysStood_2 : decode cX11_laysStood 2 = .ok (.iload_n 3, 1) := by decide +kernel
theorem dX11_laysStood_3 : decode cX11_laysStood 3 = .ok (.aload_n 0, 1) := by decide +kernel
theorem dX11_laysStood_4 : decode cX11_laysStood 4 = .ok (.getfield 346, 3) := by decide +kernel
theorem dX11_laysStood_7 : decode cX11_laysStood 7 = .ok (.if_icmp .ge 44, 3) := by decide +kernel
theorem dX11_laysStood_10 : decode cX11_laysStood 10 = .ok (.aload_n 0, 1) := by decide +kernel
theorem dX11_laysStood_11 : decode cX11_laysStood 11 = .ok (.getfield 77, 3) := by decide +kernel
theorem dX11_laysStood_14 : decode cX11_laysStood 14 = .ok (.sipush 2880, 3) := by decide +kernel
theorem dX11_laysStood_17 : decode cX11_laysStood 17 = .ok (.iload_n 2, 1) := by decide +kernel
theorem dX11_laysStood_18 : decode cX11_laysStood 18 = .ok (.imul, 1) := by decide +kernel
theorem dX11_laysStood_19 : decode cX11_laysStood 19 = .ok (.aload_n 0, 1) := by decide +kernel
theorem dX11_laysStood_20 : decode cX11_laysStood 20 = .ok (.getfield 39, 3) := by decide +kernel
theorem dX11_laysStood_23 : decode cX11_laysStood 23 = .ok (.iload_n 3, 1) := by decide +kernel
theorem dX11_laysStood_24 : decode cX11_laysStood 24 = .ok (.iaload, 1) := by decide +kernel
theorem dX11_laysStood_25 : decode cX11_laysStood 25 = .ok (.iadd, 1) := by decide +kernel
theorem dX11_laysStood_26 : decode cX11_laysStood 26 = .ok (.aload_n 0, 1) := by decide +kernel
theorem dX11_laysStood_27 : decode cX11_laysStood 27 = .ok (.getfield 39, 3) := by decide +kernel
theorem dX11_laysStood_30 : decode cX11_laysStood 30 = .ok (.iload_n 3, 1) := by decide +kernel
theorem dX11_laysStood_31 : decode cX11_laysStood 31 = .ok (.iaload, 1) := by decide +kernel
theorem dX11_laysStood_32 : decode cX11_laysStood 32 = .ok (.invokestatic 230, 3) := by decide +kernel
theorem dX11_laysStood_35 : decode cX11_laysStood 35 = .ok (.iload_n 1, 1) := by decide +kernel
theorem dX11_laysStood_36 : decode cX11_laysStood 36 = .ok (.if_icmp .ne 7, 3) := by decide +kernel
theorem dX11_laysStood_39 : decode cX11_laysStood 39 = .ok (.iconst 1, 1) := by decide +kernel
theorem dX11_laysStood_40 : decode cX11_laysStood 40 = .ok (.goto 4, 3) := by decide +kernel
theorem dX11_laysStood_43 : decode cX11_laysStood 43 = .ok (.iconst 0, 1) := by decide +kernel
theorem dX11_laysStood_44 : decode cX11_laysStood 44 = .ok (.bastore, 1) := by decide +kernel
theorem dX11_laysStood_45 : decode cX11_laysStood 45 = .ok (.iinc 3 1, 3) := by decide +kernel
theorem dX11_laysStood_48 : decode cX11_laysStood 48 = .ok (.goto (-46), 3) := by decide +kernel
theorem dX11_laysStood_51 : decode cX11_laysStood 51 = .ok (.iconst 1, 1) := by decide +kernel
theorem dX11_laysStood_52 : decode cX11_laysStood 52 = .ok (.istore_n 3, 1) := by decide +kernel
theorem dX11_laysStood_53 : decode cX11_laysStood 53 = .ok (.iload_n 3, 1) := by decide +kernel
theorem dX11_laysStood_54 : decode cX11_laysStood 54 = .ok (.ifCond .eq 105, 3) := by decide +kernel
theorem dX11_laysStood_57 : decode cX11_laysStood 57 = .ok (.iconst 0, 1) := by decide +kernel
theorem dX11_laysStood_58 : decode cX11_laysStood 58 = .ok (.istore_n 3, 1) := by decide +kernel
theorem dX11_laysStood_59 : decode cX11_laysStood 59 = .ok (.aload_n 0, 1) := by decide +kernel
theorem dX11_laysStood_60 : decode cX11_laysStood 60 = .ok (.getfield 346, 3) := by decide +kernel
theorem dX11_laysStood_63 : decode cX11_laysStood 63 = .ok (.iconst 1, 1) := by decide +kernel
theorem dX11_laysStood_64 : decode cX11_laysStood 64 = .ok (.isub, 1) := by decide +kernel
theorem dX11_laysStood_65 : decode cX11_laysStood 65 = .ok (.istore 4, 2) := by decide +kernel
theorem dX11_laysStood_67 : decode cX11_laysStood 67 = .ok (.iload 4, 2) := by decide +kernel
theorem dX11_laysStood_69 : decode cX11_laysStood 69 = .ok (.ifCond .lt 87, 3) := by decide +kernel
theorem dX11_laysStood_72 : decode cX11_laysStood 72 = .ok (.iconst 0, 1) := by decide +kernel
theorem dX11_laysStood_73 : decode cX11_laysStood 73 = .ok (.istore 5, 2) := by decide +kernel
theorem dX11_laysStood_75 : decode cX11_laysStood 75 = .ok (.iload 5, 2) := by decide +kernel
theorem dX11_laysStood_77 : decode cX11_laysStood 77 = .ok (.bipush 15, 2) := by decide +kernel
theorem dX11_laysStood_79 : decode cX11_laysStood 79 = .ok (.if_icmp .ge 71, 3) := by decide +kernel
theorem dX11_laysStood_82 : decode cX11_laysStood 82 = .ok (.aload_n 0, 1) := by decide +kernel
theorem dX11_laysStood_83 : decode cX11_laysStood 83 = .ok (.getfield 77, 3) := by decide +kernel
theorem dX11_laysStood_86 : decode cX11_laysStood 86 = .ok (.sipush 2880, 3) := by decide +kernel
theorem dX11_laysStood_89 : decode cX11_laysStood 89 = .ok (.iload_n 2, 1) := by decide +kernel
theorem dX11_laysStood_90 : decode cX11_laysStood 90 = .ok (.imul, 1) := by decide +kernel
theorem dX11_laysStood_91 : decode cX11_laysStood 91 = .ok (.aload_n 0, 1) := by decide +kernel
theorem dX11_laysStood_92 : decode cX11_laysStood 92 = .ok (.getfield 39, 3) := by decide +kernel
theorem dX11_laysStood_95 : decode cX11_laysStood 95 = .ok (.iload 4, 2) := by decide +kernel
theorem dX11_laysStood_97 : decode cX11_laysStood 97 = .ok (.iaload, 1) := by decide +kernel
theorem dX11_laysStood_98 : decode cX11_laysStood 98 = .ok (.iadd, 1) := by decide +kernel
theorem dX11_laysStood_99 : decode cX11_laysStood 99 = .ok (.baload, 1) := by decide +kernel
theorem dX11_laysStood_100 : decode cX11_laysStood 100 = .ok (.ifCond .ne 50, 3) := by decide +kernel
theorem dX11_laysStood_103 : decode cX11_laysStood 103 = .ok (.aload_n 0, 1) := by decide +kernel
theorem dX11_laysStood_104 : decode cX11_laysStood 104 = .ok (.aload_n 0, 1) := by decide +kernel
theorem dX11_laysStood_105 : decode cX11_laysStood 105 = .ok (.getfield 39, 3) := by decide +kernel
theorem dX11_laysStood_108 : decode cX11_laysStood 108 = .ok (.iload 4, 2) := by decide +kernel
theorem dX11_laysStood_110 : decode cX11_laysStood 110 = .ok (.iaload, 1) := by decide +kernel
theorem dX11_laysStood_111 : decode cX11_laysStood 111 = .ok (.iload 5, 2) := by decide +kernel
theorem dX11_laysStood_113 : decode cX11_laysStood 113 = .ok (.iload_n 2, 1) := by decide +kernel
theorem dX11_laysStood_114 : decode cX11_laysStood 114 = .ok (.invokevirtual 435, 3) := by decide +kernel
theorem dX11_laysStood_117 : decode cX11_laysStood 117 = .ok (.ifCond .ne 6, 3) := by decide +kernel
theorem dX11_laysStood_120 : decode cX11_laysStood 120 = .ok (.goto 24, 3) := by decide +kernel
theorem dX11_laysStood_123 : decode cX11_laysStood 123 = .ok (.aload_n 0, 1) := by decide +kernel
theorem dX11_laysStood_124 : decode cX11_laysStood 124 = .ok (.getfield 77, 3) := by decide +kernel
theorem dX11_laysStood_127 : decode cX11_laysStood 127 = .ok (.sipush 2880, 3) := by decide +kernel
theorem dX11_laysStood_130 : decode cX11_laysStood 130 = .ok (.iload_n 2, 1) := by decide +kernel
theorem dX11_laysStood_131 : decode cX11_laysStood 131 = .ok (.imul, 1) := by decide +kernel
theorem dX11_laysStood_132 : decode cX11_laysStood 132 = .ok (.aload_n 0, 1) := by decide +kernel
theorem dX11_laysStood_133 : decode cX11_laysStood 133 = .ok (.getfield 39, 3) := by decide +kernel
theorem dX11_laysStood_136 : decode cX11_laysStood 136 = .ok (.iload 4, 2) := by decide +kernel
theorem dX11_laysStood_138 : decode cX11_laysStood 138 = .ok (.iaload, 1) := by decide +kernel
theorem dX11_laysStood_139 : decode cX11_laysStood 139 = .ok (.iadd, 1) := by decide +kernel
theorem dX11_laysStood_140 : decode cX11_laysStood 140 = .ok (.iconst 1, 1) := by decide +kernel
theorem dX11_laysStood_141 : decode cX11_laysStood 141 = .ok (.bastore, 1) := by decide +kernel
theorem dX11_laysStood_142 : decode cX11_laysStood 142 = .ok (.iconst 1, 1) := by decide +kernel
theorem dX11_laysStood_143 : decode cX11_laysStood 143 = .ok (.istore_n 3, 1) := by decide +kernel
theorem dX11_laysStood_144 : decode cX11_laysStood 144 = .ok (.iinc 5 1, 3) := by decide +kernel
theorem dX11_laysStood_147 : decode cX11_laysStood 147 = .ok (.goto (-72), 3) := by decide +kernel
theorem dX11_laysStood_150 : decode cX11_laysStood 150 = .ok (.iinc 4 (-1), 3) := by decide +kernel
theorem dX11_laysStood_153 : decode cX11_laysStood 153 = .ok (.goto (-86), 3) := by decide +kernel
theorem dX11_laysStood_156 : decode cX11_laysStood 156 = .ok (.goto (-103), 3) := by decide +kernel
theorem dX11_laysStood_159 : decode cX11_laysStood 159 = .ok (.return_, 1) := by decide +kernel
theorem dX11_withstands_0 : decode cX11_withstands 0 = .ok (.aload_n 0, 1) := by decide +kernel
theorem dX11_withstands_1 : decode cX11_withstands 1 = .ok (.iconst 0, 1) := by decide +kernel
theorem dX11_withstands_2 : decode cX11_withstands 2 = .ok (.putfield 1, 3) := by decide +kernel
theorem dX11_withstands_5 : decode cX11_withstands 5 = .ok (.aload_n 0, 1) := by decide +kernel
theorem dX11_withstands_6 : decode cX11_withstands 6 = .ok (.iload_n 1, 1) := by decide +kernel
theorem dX11_withstands_7 : decode cX11_withstands 7 = .ok (.invokevirtual 272, 3) := by decide +kernel
theorem dX11_withstands_10 : decode cX11_withstands 10 = .ok (.ifCond .ne 6, 3) := by decide +kernel
theorem dX11_withstands_13 : decode cX11_withstands 13 = .ok (.bipush (-2), 2) := by decide +kernel
theorem dX11_withstands_15 : decode cX11_withstands 15 = .ok (.ireturn, 1) := by decide +kernel
theorem dX11_withstands_16 : decode cX11_withstands 16 = .ok (.aload_n 0, 1) := by decide +kernel
theorem dX11_withstands_17 : decode cX11_withstands 17 = .ok (.iconst 1, 1) := by decide +kernel
theorem dX11_withstands_18 : decode cX11_withstands 18 = .ok (.invokevirtual 359, 3) := by decide +kernel
theorem dX11_withstands_21 : decode cX11_withstands 21 = .ok (.iconst (-1), 1) := by decide +kernel
theorem dX11_withstands_22 : decode cX11_withstands 22 = .ok (.istore_n 2, 1) := by decide +kernel
theorem dX11_withstands_23 : decode cX11_withstands 23 = .ok (.iconst 0, 1) := by decide +kernel
theorem dX11_withstands_24 : decode cX11_withstands 24 = .ok (.istore_n 3, 1) := by decide +kernel
theorem dX11_withstands_25 : decode cX11_withstands 25 = .ok (.iload_n 3, 1) := by decide +kernel
theorem dX11_withstands_26 : decode cX11_withstands 26 = .ok (.bipush 10, 2) := by decide +kernel
theorem dX11_withstands_28 : decode cX11_withstands 28 = .ok (.if_icmp .ge 35, 3) := by decide +kernel
theorem dX11_withstands_31 : decode cX11_withstands 31 = .ok (.aload_n 0, 1) := by decide +kernel
theorem dX11_withstands_32 : decode cX11_withstands 32 = .ok (.iload_n 1, 1) := by decide +kernel
theorem dX11_withstands_33 : decode cX11_withstands 33 = .ok (.iload_n 3, 1) := by decide +kernel
theorem dX11_withstands_34 : decode cX11_withstands 34 = .ok (.invokevirtual 438, 3) := by decide +kernel
theorem dX11_withstands_37 : decode cX11_withstands 37 = .ok (.aload_n 0, 1) := by decide +kernel
theorem dX11_withstands_38 : decode cX11_withstands 38 = .ok (.getfield 77, 3) := by decide +kernel
theorem dX11_withstands_41 : decode cX11_withstands 41 = .ok (.sipush 2880, 3) := by decide +kernel
theorem dX11_withstands_44 : decode cX11_withstands 44 = .ok (.iload_n 3, 1) := by decide +kernel
theorem dX11_withstands_45 : decode cX11_withstands 45 = .ok (.imul, 1) := by decide +kernel
theorem dX11_withstands_46 : decode cX11_withstands 46 = .ok (.aload_n 0, 1) := by decide +kernel
theorem dX11_withstands_47 : decode cX11_withstands 47 = .ok (.invokevirtual 279, 3) := by decide +kernel
theorem dX11_withstands_50 : decode cX11_withstands 50 = .ok (.iadd, 1) := by decide +kernel
theorem dX11_withstands_51 : decode cX11_withstands 51 = .ok (.baload, 1) := by decide +kernel
theorem dX11_withstands_52 : decode cX11_withstands 52 = .ok (.ifCond .eq 5, 3) := by decide +kernel
theorem dX11_withstands_55 : decode cX11_withstands 55 = .ok (.iload_n 3, 1) := by decide +kernel
theorem dX11_withstands_56 : decode cX11_withstands 56 = .ok (.istore_n 2, 1) := by decide +kernel
theorem dX11_withstands_57 : decode cX11_withstands 57 = .ok (.iinc 3 1, 3) := by decide +kernel
theorem dX11_withstands_60 : decode cX11_withstands 60 = .ok (.goto (-35), 3) := by decide +kernel
theorem dX11_withstands_63 : decode cX11_withstands 63 = .ok (.iload_n 2, 1) := by decide +kernel
theorem dX11_withstands_64 : decode cX11_withstands 64 = .ok (.ireturn, 1) := by decide +kernel
theorem dX11_wholeOf_0 : decode cX11_wholeOf 0 = .ok (.iconst 1, 1) := by decide +kernel
theorem dX11_wholeOf_1 : decode cX11_wholeOf 1 = .ok (.istore_n 1, 1) := by decide +kernel
theorem dX11_wholeOf_2 : decode cX11_wholeOf 2 = .ok (.iconst 0, 1) := by decide +kernel
theorem dX11_wholeOf_3 : decode cX11_wholeOf 3 = .ok (.istore_n 2, 1) := by decide +kernel
theorem dX11_wholeOf_4 : decode cX11_wholeOf 4 = .ok (.iload_n 2, 1) := by decide +kernel
theorem dX11_wholeOf_5 : decode cX11_wholeOf 5 = .ok (.iload_n 0, 1) := by decide +kernel
theorem dX11_wholeOf_6 : decode cX11_wholeOf 6 = .ok (.if_icmp .ge 14, 3) := by decide +kernel
theorem dX11_wholeOf_9 : decode cX11_wholeOf 9 = .ok (.iload_n 1, 1) := by decide +kernel
theorem dX11_wholeOf_10 : decode cX11_wholeOf 10 = .ok (.bipush 10, 2) := by decide +kernel
theorem dX11_wholeOf_12 : decode cX11_wholeOf 12 = .ok (.imul, 1) := by decide +kernel
theorem dX11_wholeOf_13 : decode cX11_wholeOf 13 = .ok (.istore_n 1, 1) := by decide +kernel
theorem dX11_wholeOf_14 : decode cX11_wholeOf 14 = .ok (.iinc 2 1, 3) := by decide +kernel
theorem dX11_wholeOf_17 : decode cX11_wholeOf 17 = .ok (.goto (-13), 3) := by decide +kernel
theorem dX11_wholeOf_20 : decode cX11_wholeOf 20 = .ok (.iload_n 1, 1) := by decide +kernel
theorem dX11_wholeOf_21 : decode cX11_wholeOf 21 = .ok (.ireturn, 1) := by decide +kernel
theorem dX11_likelyBy_0 : decode cX11_likelyBy 0 = .ok (.aload_n 0, 1) := by decide +kernel
theorem dX11_likelyBy_1 : decode cX11_likelyBy 1 = .ok (.getfield 43, 3) := by decide +kernel
theorem dX11_likelyBy_4 : decode cX11_likelyBy 4 = .ok (.bipush 15, 2) := by decide +kernel
theorem dX11_likelyBy_6 : decode cX11_likelyBy 6 = .ok (.iload_n 1, 1) := by decide +kernel
theorem dX11_likelyBy_7 : decode cX11_likelyBy 7 = .ok (.imul, 1) := by decide +kernel
theorem dX11_likelyBy_8 : decode cX11_likelyBy 8 = .ok (.iload_n 2, 1) := by decide +kernel
theorem dX11_likelyBy_9 : decode cX11_likelyBy 9 = .ok (.iadd, 1) := by decide +kernel
theorem dX11_likelyBy_10 : decode cX11_likelyBy 10 = .ok (.iaload, 1) := by decide +kernel
theorem dX11_likelyBy_11 : decode cX11_likelyBy 11 = .ok (.istore 4, 2) := by decide +kernel
theorem dX11_likelyBy_13 : decode cX11_likelyBy 13 = .ok (.iload 4, 2) := by decide +kernel
theorem dX11_likelyBy_15 : decode cX11_likelyBy 15 = .ok (.iconst (-1), 1) := by decide +kernel
theorem dX11_likelyBy_16 : decode cX11_likelyBy 16 = .ok (.if_icmp .ne 5, 3) := by decide +kernel
theorem dX11_likelyBy_19 : decode cX11_likelyBy 19 = .ok (.iconst (-1), 1) := by decide +kernel
theorem dX11_likelyBy_20 : decode cX11_likelyBy 20 = .ok (.ireturn, 1) := by decide +kernel
theorem dX11_likelyBy_21 : decode cX11_likelyBy 21 = .ok (.iload_n 2, 1) := by decide +kernel
theorem dX11_likelyBy_22 : decode cX11_likelyBy 22 = .ok (.iconst 1, 1) := by decide +kernel
theorem dX11_likelyBy_23 : decode cX11_likelyBy 23 = .ok (.if_icmp .eq 22, 3) := by decide +kernel
theorem dX11_likelyBy_26 : decode cX11_likelyBy 26 = .ok (.bipush 10, 2) := by decide +kernel
theorem dX11_likelyBy_28 : decode cX11_likelyBy 28 = .ok (.aload_n 0, 1) := by decide +kernel
theorem dX11_likelyBy_29 : decode cX11_likelyBy 29 = .ok (.getfield 80, 3) := by decide +kernel
theorem dX11_likelyBy_32 : decode cX11_likelyBy 32 = .ok (.sipush 2880, 3) := by decide +kernel
theorem dX11_likelyBy_35 : decode cX11_likelyBy 35 = .ok (.iload_n 3, 1) := by decide +kernel
theorem dX11_likelyBy_36 : decode cX11_likelyBy 36 = .ok (.iconst 1, 1) := by decide +kernel
theorem dX11_likelyBy_37 : decode cX11_likelyBy 37 = .ok (.isub, 1) := by decide +kernel
theorem dX11_likelyBy_38 : decode cX11_likelyBy 38 = .ok (.imul, 1) := by decide +kernel
theorem dX11_likelyBy_39 : decode cX11_likelyBy 39 = .ok (.iload 4, 2) := by decide +kernel
theorem dX11_likelyBy_41 : decode cX11_likelyBy 41 = .ok (.iadd, 1) := by decide +kernel
theorem dX11_likelyBy_42 : decode cX11_likelyBy 42 = .ok (.iaload, 1) := by decide +kernel
theorem dX11_likelyBy_43 : decode cX11_likelyBy 43 = .ok (.imul, 1) := by decide +kernel
theorem dX11_likelyBy_44 : decode cX11_likelyBy 44 = .ok (.ireturn, 1) := by decide +kernel
theorem dX11_likelyBy_45 : decode cX11_likelyBy 45 = .ok (.bipush 10, 2) := by decide +kernel
theorem dX11_likelyBy_47 : decode cX11_likelyBy 47 = .ok (.aload_n 0, 1) := by decide +kernel
theorem dX11_likelyBy_48 : decode cX11_likelyBy 48 = .ok (.getfield 13, 3) := by decide +kernel
theorem dX11_likelyBy_51 : decode cX11_likelyBy 51 = .ok (.iconst 3, 1) := by decide +kernel
theorem dX11_likelyBy_52 : decode cX11_likelyBy 52 = .ok (.iaload, 1) := by decide +kernel
theorem dX11_likelyBy_53 : decode cX11_likelyBy 53 = .ok (.isub, 1) := by decide +kernel
theorem dX11_likelyBy_54 : decode cX11_likelyBy 54 = .ok (.aload_n 0, 1) := by decide +kernel
theorem dX11_likelyBy_55 : decode cX11_likelyBy 55 = .ok (.getfield 80, 3) := by decide +kernel
theorem dX11_likelyBy_58 : decode cX11_likelyBy 58 = .ok (.sipush 2880, 3) := by decide +kernel
theorem dX11_likelyBy_61 : decode cX11_likelyBy 61 = .ok (.iload_n 3, 1) := by decide +kernel
theorem dX11_likelyBy_62 : decode cX11_likelyBy 62 = .ok (.iconst 1, 1) := by decide +kernel
theorem dX11_likelyBy_63 : decode cX11_likelyBy 63 = .ok (.isub, 1) := by decide +kernel
theorem dX11_likelyBy_64 : decode cX11_likelyBy 64 = .ok (.imul, 1) := by decide +kernel
theorem dX11_likelyBy_65 : decode cX11_likelyBy 65 = .ok (.iload 4, 2) := by decide +kernel
theorem dX11_likelyBy_67 : decode cX11_likelyBy 67 = .ok (.iadd, 1) := by decide +kernel
theorem dX11_likelyBy_68 : decode cX11_likelyBy 68 = .ok (.iaload, 1) := by decide +kernel
theorem dX11_likelyBy_69 : decode cX11_likelyBy 69 = .ok (.imul, 1) := by decide +kernel
theorem dX11_likelyBy_70 : decode cX11_likelyBy 70 = .ok (.aload_n 0, 1) := by decide +kernel
theorem dX11_likelyBy_71 : decode cX11_likelyBy 71 = .ok (.getfield 13, 3) := by decide +kernel
theorem dX11_likelyBy_74 : decode cX11_likelyBy 74 = .ok (.iconst 3, 1) := by decide +kernel
theorem dX11_likelyBy_75 : decode cX11_likelyBy 75 = .ok (.iaload, 1) := by decide +kernel
theorem dX11_likelyBy_76 : decode cX11_likelyBy 76 = .ok (.aload_n 0, 1) := by decide +kernel
theorem dX11_likelyBy_77 : decode cX11_likelyBy 77 = .ok (.getfield 80, 3) := by decide +kernel
theorem dX11_likelyBy_80 : decode cX11_likelyBy 80 = .ok (.sipush 2880, 3) := by decide +kernel
theorem dX11_likelyBy_83 : decode cX11_likelyBy 83 = .ok (.iload_n 3, 1) := by decide +kernel
theorem dX11_likelyBy_84 : decode cX11_likelyBy 84 = .ok (.iconst 1, 1) := by decide +kernel
theorem dX11_likelyBy_85 : decode cX11_likelyBy 85 = .ok (.isub, 1) := by decide +kernel
theorem dX11_likelyBy_86 : decode cX11_likelyBy 86 = .ok (.imul, 1) := by decide +kernel
theorem dX11_likelyBy_87 : decode cX11_likelyBy 87 = .ok (.iload 4, 2) := by decide +kernel
theorem dX11_likelyBy_89 : decode cX11_likelyBy 89 = .ok (.iadd, 1) := by decide +kernel
theorem dX11_likelyBy_90 : decode cX11_likelyBy 90 = .ok (.sipush 320, 3) := by decide +kernel
theorem dX11_likelyBy_93 : decode cX11_likelyBy 93 = .ok (.isub, 1) := by decide +kernel
theorem dX11_likelyBy_94 : decode cX11_likelyBy 94 = .ok (.iaload, 1) := by decide +kernel
theorem dX11_likelyBy_95 : decode cX11_likelyBy 95 = .ok (.imul, 1) := by decide +kernel
theorem dX11_likelyBy_96 : decode cX11_likelyBy 96 = .ok (.iadd, 1) := by decide +kernel
theorem dX11_likelyBy_97 : decode cX11_likelyBy 97 = .ok (.ireturn, 1) := by decide +kernel
theorem dX11_laysLikely_0 : decode cX11_laysLikely 0 = .ok (.aload_n 0, 1) := by decide +kernel
theorem dX11_laysLikely_1 : decode cX11_laysLikely 1 = .ok (.iconst 1, 1) := by decide +kernel
theorem dX11_laysLikely_2 : decode cX11_laysLikely 2 = .ok (.invokevirtual 359, 3) := by decide +kernel
theorem dX11_laysLikely_5 : decode cX11_laysLikely 5 = .ok (.iconst 0, 1) := by decide +kernel
theorem dX11_laysLikely_6 : decode cX11_laysLikely 6 = .ok (.istore_n 3, 1) := by decide +kernel
theorem dX11_laysLikely_7 : decode cX11_laysLikely 7 = .ok (.iload_n 3, 1) := by decide +kernel
theorem dX11_laysLikely_8 : decode cX11_laysLikely 8 = .ok (.iload_n 2, 1) := by decide +kernel
theorem dX11_laysLikely_9 : decode cX11_laysLikely 9 = .ok (.if_icmp .gt 129, 3) := by decide +kernel
theorem dX11_laysLikely_12 : decode cX11_laysLikely 12 = .ok (.iconst 0, 1) := by decide +kernel
theorem dX11_laysLikely_13 : decode cX11_laysLikely 13 = .ok (.istore 4, 2) := by decide +kernel
theorem dX11_laysLikely_15 : decode cX11_laysLikely 15 = .ok (.iload 4, 2) := by decide +kernel
theorem dX11_laysLikely_17 : decode cX11_laysLikely 17 = .ok (.aload_n 0, 1) := by decide +kernel
theorem dX11_laysLikely_18 : decode cX11_laysLikely 18 = .ok (.getfield 346, 3) := by decide +kernel
theorem dX11_laysLikely_21 : decode cX11_laysLikely 21 = .ok (.if_icmp .ge 111, 3) := by decide +kernel
theorem dX11_laysLikely_24 : decode cX11_laysLikely 24 = .ok (.aload_n 0, 1) := by decide +kernel
theorem dX11_laysLikely_25 : decode cX11_laysLikely 25 = .ok (.getfield 39, 3) := by decide +kernel
theorem dX11_laysLikely_28 : decode cX11_laysLikely 28 = .ok (.iload 4, 2) := by decide +kernel
theorem dX11_laysLikely_30 : decode cX11_laysLikely 30 = .ok (.iaload, 1) := by decide +kernel
theorem dX11_laysLikely_31 : decode cX11_laysLikely 31 = .ok (.istore 5, 2) := by decide +kernel
theorem dX11_laysLikely_33 : decode cX11_laysLikely 33 = .ok (.iload 5, 2) := by decide +kernel
theorem dX11_laysLikely_35 : decode cX11_laysLikely 35 = .ok (.invokestatic 230, 3) := by decide +kernel
theorem dX11_laysLikely_38 : decode cX11_laysLikely 38 = .ok (.iload_n 1, 1) := by decide +kernel
theorem dX11_laysLikely_39 : decode cX11_laysLikely 39 = .ok (.if_icmp .ne 10, 3) := by decide +kernel
theorem dX11_laysLikely_42 : decode cX11_laysLikely 42 = .ok (.iload_n 3, 1) := by decide +kernel
theorem dX11_laysLikely_43 : decode cX11_laysLikely 43 = .ok (.invokestatic 442, 3) := by decide +kernel
theorem dX11_laysLikely_46 : decode cX11_laysLikely 46 = .ok (.goto 4, 3) := by decide +kernel
theorem dX11_laysLikely_49 : decode cX11_laysLikely 49 = .ok (.iconst 0, 1) := by decide +kernel
theorem dX11_laysLikely_50 : decode cX11_laysLikely 50 = .ok (.istore 6, 2) := by decide +kernel
theorem dX11_laysLikely_52 : decode cX11_laysLikely 52 = .ok (.iconst 0, 1) := by decide +kernel
theorem dX11_laysLikely_53 : decode cX11_laysLikely 53 = .ok (.istore 7, 2) := by decide +kernel
theorem dX11_laysLikely_55 : decode cX11_laysLikely 55 = .ok (.iload 7, 2) := by decide +kernel
theorem dX11_laysLikely_57 : decode cX11_laysLikely 57 = .ok (.bipush 15, 2) := by decide +kernel
theorem dX11_laysLikely_59 : decode cX11_laysLikely 59 = .ok (.if_icmp .ge 52, 3) := by decide +kernel
theorem dX11_laysLikely_62 : decode cX11_laysLikely 62 = .ok (.iload_n 3, 1) := by decide +kernel
theorem dX11_laysLikely_63 : decode cX11_laysLikely 63 = .ok (.ifCond .le 48, 3) := by decide +kernel
theorem dX11_laysLikely_66 : decode cX11_laysLikely 66 = .ok (.iload 6, 2) := by decide +kernel
theorem dX11_laysLikely_68 : decode cX11_laysLikely 68 = .ok (.iload_n 3, 1) := by decide +kernel
theorem dX11_laysLikely_69 : decode cX11_laysLikely 69 = .ok (.invokestatic 442, 3) := by decide +kernel
theorem dX11_laysLikely_72 : decode cX11_laysLikely 72 = .ok (.if_icmp .ge 39, 3) := by decide +kernel
theorem dX11_laysLikely_75 : decode cX11_laysLikely 75 = .ok (.aload_n 0, 1) := by decide +kernel
theorem dX11_laysLikely_76 : decode cX11_laysLikely 76 = .ok (.iload 5, 2) := by decide +kernel
theorem dX11_laysLikely_78 : decode cX11_laysLikely 78 = .ok (.iload 7, 2) := by decide +kernel
theorem dX11_laysLikely_80 : decode cX11_laysLikely 80 = .ok (.iload_n 3, 1) := by decide +kernel
theorem dX11_laysLikely_81 : decode cX11_laysLikely 81 = .ok (.invokevirtual 445, 3) := by decide +kernel
theorem dX11_laysLikely_84 : decode cX11_laysLikely 84 = .ok (.iload 6, 2) := by decide +kernel
theorem dX11_laysLikely_86 : decode cX11_laysLikely 86 = .ok (.if_icmp .le 15, 3) := by decide +kernel
theorem dX11_laysLikely_89 : decode cX11_laysLikely 89 = .ok (.aload_n 0, 1) := by decide +kernel
theorem dX11_laysLikely_90 : decode cX11_laysLikely 90 = .ok (.iload 5, 2) := by decide +kernel
theorem dX11_laysLikely_92 : decode cX11_laysLikely 92 = .ok (.iload 7, 2) := by decide +kernel
theorem dX11_laysLikely_94 : decode cX11_laysLikely 94 = .ok (.iload_n 3, 1) := by decide +kernel
theorem dX11_laysLikely_95 : decode cX11_laysLikely 95 = .ok (.invokevirtual 445, 3) := by decide +kernel
theorem dX11_laysLikely_98 : decode cX11_laysLikely 98 = .ok (.goto 5, 3) := by decide +kernel
theorem dX11_laysLikely_101 : decode cX11_laysLikely 101 = .ok (.iload 6, 2) := by decide +kernel
theorem dX11_laysLikely_103 : decode cX11_laysLikely 103 = .ok (.istore 6, 2) := by decide +kernel
theorem dX11_laysLikely_105 : decode cX11_laysLikely 105 = .ok (.iinc 7 1, 3) := by decide +kernel
theorem dX11_laysLikely_108 : decode cX11_laysLikely 108 = .ok (.goto (-53), 3) := by decide +kernel
theorem dX11_laysLikely_111 : decode cX11_laysLikely 111 = .ok (.aload_n 0, 1) := by decide +kernel
theorem dX11_laysLikely_112 : decode cX11_laysLikely 112 = .ok (.getfield 80, 3) := by decide +kernel
theorem dX11_laysLikely_115 : decode cX11_laysLikely 115 = .ok (.sipush 2880, 3) := by decide +kernel
theorem dX11_laysLikely_118 : decode cX11_laysLikely 118 = .ok (.iload_n 3, 1) := by decide +kernel
theorem dX11_laysLikely_119 : decode cX11_laysLikely 119 = .ok (.imul, 1) := by decide +kernel
theorem dX11_laysLikely_120 : decode cX11_laysLikely 120 = .ok (.iload 5, 2) := by decide +kernel
theorem dX11_laysLikely_122 : decode cX11_laysLikely 122 = .ok (.iadd, 1) := by decide +kernel
theorem dX11_laysLikely_123 : decode cX11_laysLikely 123 = .ok (.iload 6, 2) := by decide +kernel
theorem dX11_laysLikely_125 : decode cX11_laysLikely 125 = .ok (.iastore, 1) := by decide +kernel
theorem dX11_laysLikely_126 : decode cX11_laysLikely 126 = .ok (.iinc 4 1, 3) := by decide +kernel
theorem dX11_laysLikely_129 : decode cX11_laysLikely 129 = .ok (.goto (-114), 3) := by decide +kernel
theorem dX11_laysLikely_132 : decode cX11_laysLikely 132 = .ok (.iinc 3 1, 3) := by decide +kernel
theorem dX11_laysLikely_135 : decode cX11_laysLikely 135 = .ok (.goto (-128), 3) := by decide +kernel
theorem dX11_laysLikely_138 : decode cX11_laysLikely 138 = .ok (.aload_n 0, 1) := by decide +kernel
theorem dX11_laysLikely_139 : decode cX11_laysLikely 139 = .ok (.getfield 80, 3) := by decide +kernel
theorem dX11_laysLikely_142 : decode cX11_laysLikely 142 = .ok (.sipush 2880, 3) := by decide +kernel
theorem dX11_laysLikely_145 : decode cX11_laysLikely 145 = .ok (.iload_n 2, 1) := by decide +kernel
theorem dX11_laysLikely_146 : decode cX11_laysLikely 146 = .ok (.imul, 1) := by decide +kernel
theorem dX11_laysLikely_147 : decode cX11_laysLikely 147 = .ok (.aload_n 0, 1) := by decide +kernel
theorem dX11_laysLikely_148 : decode cX11_laysLikely 148 = .ok (.invokevirtual 279, 3) := by decide +kernel
theorem dX11_laysLikely_151 : decode cX11_laysLikely 151 = .ok (.iadd, 1) := by decide +kernel
theorem dX11_laysLikely_152 : decode cX11_laysLikely 152 = .ok (.iaload, 1) := by decide +kernel
theorem dX11_laysLikely_153 : decode cX11_laysLikely 153 = .ok (.ireturn, 1) := by decide +kernel
theorem dX11_common_0 : decode cX11_common 0 = .ok (.iload_n 1, 1) := by decide +kernel
theorem dX11_common_1 : decode cX11_common 1 = .ok (.ifCond .ne 7, 3) := by decide +kernel
theorem dX11_common_4 : decode cX11_common 4 = .ok (.iload_n 0, 1) := by decide +kernel
theorem dX11_common_5 : decode cX11_common 5 = .ok (.goto 10, 3) := by decide +kernel
theorem dX11_common_8 : decode cX11_common 8 = .ok (.iload_n 1, 1) := by decide +kernel
theorem dX11_common_9 : decode cX11_common 9 = .ok (.iload_n 0, 1) := by decide +kernel
theorem dX11_common_10 : decode cX11_common 10 = .ok (.iload_n 1, 1) := by decide +kernel
theorem dX11_common_11 : decode cX11_common 11 = .ok (.irem, 1) := by decide +kernel
theorem dX11_common_12 : decode cX11_common 12 = .ok (.invokestatic 448, 3) := by decide +kernel
theorem dX11_common_15 : decode cX11_common 15 = .ok (.ireturn, 1) := by decide +kernel
theorem dX11_chance_0 : decode cX11_chance 0 = .ok (.aload_n 0, 1) := by decide +kernel
theorem dX11_chance_1 : decode cX11_chance 1 = .ok (.iconst 0, 1) := by decide +kernel
theorem dX11_chance_2 : decode cX11_chance 2 = .ok (.putfield 1, 3) := by decide +kernel
theorem dX11_chance_5 : decode cX11_chance 5 = .ok (.aload_n 0, 1) := by decide +kernel
theorem dX11_chance_6 : decode cX11_chance 6 = .ok (.iload_n 1, 1) := by decide +kernel
theorem dX11_chance_7 : decode cX11_chance 7 = .ok (.invokevirtual 272, 3) := by decide +kernel
theorem dX11_chance_10 : decode cX11_chance 10 = .ok (.ifCond .eq 13, 3) := by decide +kernel
theorem dX11_chance_13 : decode cX11_chance 13 = .ok (.iload_n 3, 1) := by decide +kernel
theorem dX11_chance_14 : decode cX11_chance 14 = .ok (.i2l, 1) := by decide +kernel
theorem dX11_chance_15 : decode cX11_chance 15 = .ok (.lconst 0, 1) := by decide +kernel
theorem dX11_chance_16 : decode cX11_chance 16 = .ok (.lconst 1, 1) := by decide +kernel
theorem dX11_chance_17 : decode cX11_chance 17 = .ok (.invokestatic 158, 3) := by decide +kernel
theorem dX11_chance_20 : decode cX11_chance 20 = .ok (.ifCond .ne 6, 3) := by decide +kernel
theorem dX11_chance_23 : decode cX11_chance 23 = .ok (.bipush (-2), 2) := by decide +kernel
theorem dX11_chance_25 : decode cX11_chance 25 = .ok (.ireturn, 1) := by decide +kernel
theorem dX11_chance_26 : decode cX11_chance 26 = .ok (.iload_n 2, 1) := by decide +kernel
theorem dX11_chance_27 : decode cX11_chance 27 = .ok (.i2l, 1) := by decide +kernel
theorem dX11_chance_28 : decode cX11_chance 28 = .ok (.lconst 0, 1) := by decide +kernel
theorem dX11_chance_29 : decode cX11_chance 29 = .ok (.ldc2_w 422, 3) := by decide +kernel
theorem dX11_chance_32 : decode cX11_chance 32 = .ok (.invokestatic 158, 3) := by decide +kernel
theorem dX11_chance_35 : decode cX11_chance 35 = .ok (.ifCond .ne 6, 3) := by decide +kernel
theorem dX11_chance_38 : decode cX11_chance 38 = .ok (.bipush (-3), 2) := by decide +kernel
theorem dX11_chance_40 : decode cX11_chance 40 = .ok (.ireturn, 1) := by decide +kernel
theorem dX11_chance_41 : decode cX11_chance 41 = .ok (.aload_n 0, 1) := by decide +kernel
theorem dX11_chance_42 : decode cX11_chance 42 = .ok (.iload_n 1, 1) := by decide +kernel
theorem dX11_chance_43 : decode cX11_chance 43 = .ok (.iload_n 2, 1) := by decide +kernel
theorem dX11_chance_44 : decode cX11_chance 44 = .ok (.invokevirtual 451, 3) := by decide +kernel
theorem dX11_chance_47 : decode cX11_chance 47 = .ok (.istore 4, 2) := by decide +kernel
theorem dX11_chance_49 : decode cX11_chance 49 = .ok (.iload_n 3, 1) := by decide +kernel
theorem dX11_chance_50 : decode cX11_chance 50 = .ok (.ifCond .ne 8, 3) := by decide +kernel
theorem dX11_chance_53 : decode cX11_chance 53 = .ok (.iload 4, 2) := by decide +kernel
theorem dX11_chance_55 : decode cX11_chance 55 = .ok (.goto 7, 3) := by decide +kernel
theorem dX11_chance_58 : decode cX11_chance 58 = .ok (.iload_n 2, 1) := by decide +kernel
theorem dX11_chance_59 : decode cX11_chance 59 = .ok (.invokestatic 442, 3) := by decide +kernel
theorem dX11_chance_62 : decode cX11_chance 62 = .ok (.iload 4, 2) := by decide +kernel
theorem dX11_chance_64 : decode cX11_chance 64 = .ok (.iload_n 2, 1) := by decide +kernel
theorem dX11_chance_65 : decode cX11_chance 65 = .ok (.invokestatic 442, 3) := by decide +kernel
theorem dX11_chance_68 : decode cX11_chance 68 = .ok (.invokestatic 448, 3) := by decide +kernel
theorem dX11_chance_71 : decode cX11_chance 71 = .ok (.idiv, 1) := by decide +kernel
theorem dX11_chance_72 : decode cX11_chance 72 = .ok (.ireturn, 1) := by decide +kernel
theorem dX11_best_0 : decode cX11_best 0 = .ok (.aload_n 0, 1) := by decide +kernel
theorem dX11_best_1 : decode cX11_best 1 = .ok (.iconst 0, 1) := by decide +kernel
theorem dX11_best_2 : decode cX11_best 2 = .ok (.putfield 1, 3) := by decide +kernel
theorem dX11_best_5 : decode cX11_best 5 = .ok (.aload_n 0, 1) := by decide +kernel
theorem dX11_best_6 : decode cX11_best 6 = .ok (.iload_n 1, 1) := by decide +kernel
theorem dX11_best_7 : decode cX11_best 7 = .ok (.invokevirtual 272, 3) := by decide +kernel
theorem dX11_best_10 : decode cX11_best 10 = .ok (.ifCond .ne 6, 3) := by decide +kernel
theorem dX11_best_13 : decode cX11_best 13 = .ok (.bipush (-2), 2) := by decide +kernel
theorem dX11_best_15 : decode cX11_best 15 = .ok (.ireturn, 1) := by decide +kernel
theorem dX11_best_16 : decode cX11_best 16 = .ok (.iload_n 2, 1) := by decide +kernel
theorem dX11_best_17 : decode cX11_best 17 = .ok (.i2l, 1) := by decide +kernel
theorem dX11_best_18 : decode cX11_best 18 = .ok (.lconst 0, 1) := by decide +kernel
theorem dX11_best_19 : decode cX11_best 19 = .ok (.ldc2_w 422, 3) := by decide +kernel
theorem dX11_best_22 : decode cX11_best 22 = .ok (.invokestatic 158, 3) := by decide +kernel
theorem dX11_best_25 : decode cX11_best 25 = .ok (.ifCond .ne 6, 3) := by decide +kernel
theorem dX11_best_28 : decode cX11_best 28 = .ok (.bipush (-3), 2) := by decide +kernel
theorem dX11_best_30 : decode cX11_best 30 = .ok (.ireturn, 1) := by decide +kernel
theorem dX11_best_31 : decode cX11_best 31 = .ok (.aload_n 0, 1) := by decide +kernel
theorem dX11_best_32 : decode cX11_best 32 = .ok (.iload_n 1, 1) := by decide +kernel
theorem dX11_best_33 : decode cX11_best 33 = .ok (.iload_n 2, 1) := by decide +kernel
theorem dX11_best_34 : decode cX11_best 34 = .ok (.invokevirtual 451, 3) := by decide +kernel
theorem dX11_best_37 : decode cX11_best 37 = .ok (.istore_n 3, 1) := by decide +kernel
theorem dX11_best_38 : decode cX11_best 38 = .ok (.iload_n 3, 1) := by decide +kernel
theorem dX11_best_39 : decode cX11_best 39 = .ok (.ifCond .eq 14, 3) := by decide +kernel
theorem dX11_best_42 : decode cX11_best 42 = .ok (.aload_n 0, 1) := by decide +kernel
theorem dX11_best_43 : decode cX11_best 43 = .ok (.getfield 13, 3) := by decide +kernel
theorem dX11_best_46 : decode cX11_best 46 = .ok (.bipush 37, 2) := by decide +kernel
theorem dX11_best_48 : decode cX11_best 48 = .ok (.iaload, 1) := by decide +kernel
theorem dX11_best_49 : decode cX11_best 49 = .ok (.iload_n 1, 1) := by decide +kernel
theorem dX11_best_50 : decode cX11_best 50 = .ok (.if_icmp .ne 5, 3) := by decide +kernel
theorem dX11_best_53 : decode cX11_best 53 = .ok (.iconst (-1), 1) := by decide +kernel
theorem dX11_best_54 : decode cX11_best 54 = .ok (.ireturn, 1) := by decide +kernel
theorem dX11_best_55 : decode cX11_best 55 = .ok (.iconst 0, 1) := by decide +kernel
theorem dX11_best_56 : decode cX11_best 56 = .ok (.istore 4, 2) := by decide +kernel
theorem dX11_best_58 : decode cX11_best 58 = .ok (.aload_n 0, 1) := by decide +kernel
theorem dX11_best_59 : decode cX11_best 59 = .ok (.aload_n 0, 1) := by decide +kernel
theorem dX11_best_60 : decode cX11_best 60 = .ok (.invokevirtual 279, 3) := by decide +kernel
theorem dX11_best_63 : decode cX11_best 63 = .ok (.iload 4, 2) := by decide +kernel
theorem dX11_best_65 : decode cX11_best 65 = .ok (.iload_n 2, 1) := by decide +kernel
theorem dX11_best_66 : decode cX11_best 66 = .ok (.invokevirtual 445, 3) := by decide +kernel
theorem dX11_best_69 : decode cX11_best 69 = .ok (.iload_n 3, 1) := by decide +kernel
theorem dX11_best_70 : decode cX11_best 70 = .ok (.if_icmp .eq 9, 3) := by decide +kernel
theorem dX11_best_73 : decode cX11_best 73 = .ok (.iinc 4 1, 3) := by decide +kernel
theorem dX11_best_76 : decode cX11_best 76 = .ok (.goto (-18), 3) := by decide +kernel
theorem dX11_best_79 : decode cX11_best 79 = .ok (.iload 4, 2) := by decide +kernel
theorem dX11_best_81 : decode cX11_best 81 = .ok (.invokestatic 373, 3) := by decide +kernel
theorem dX11_best_84 : decode cX11_best 84 = .ok (.ireturn, 1) := by decide +kernel
theorem dX11_cut_0 : decode cX11_cut 0 = .ok (.iload_n 2, 1) := by decide +kernel
theorem dX11_cut_1 : decode cX11_cut 1 = .ok (.ifCond .ne 10, 3) := by decide +kernel
theorem dX11_cut_4 : decode cX11_cut 4 = .ok (.lload_n 0, 1) := by decide +kernel
theorem dX11_cut_5 : decode cX11_cut 5 = .ok (.l2i, 1) := by decide +kernel
theorem dX11_cut_6 : decode cX11_cut 6 = .ok (.i2b, 1) := by decide +kernel
theorem dX11_cut_7 : decode cX11_cut 7 = .ok (.i2l, 1) := by decide +kernel
theorem dX11_cut_8 : decode cX11_cut 8 = .ok (.goto 27, 3) := by decide +kernel
theorem dX11_cut_11 : decode cX11_cut 11 = .ok (.iload_n 2, 1) := by decide +kernel
theorem dX11_cut_12 : decode cX11_cut 12 = .ok (.iconst 1, 1) := by decide +kernel
theorem dX11_cut_13 : decode cX11_cut 13 = .ok (.if_icmp .ne 10, 3) := by decide +kernel
theorem dX11_cut_16 : decode cX11_cut 16 = .ok (.lload_n 0, 1) := by decide +kernel
theorem dX11_cut_17 : decode cX11_cut 17 = .ok (.l2i, 1) := by decide +kernel
theorem dX11_cut_18 : decode cX11_cut 18 = .ok (.i2s, 1) := by decide +kernel
theorem dX11_cut_19 : decode cX11_cut 19 = .ok (.i2l, 1) := by decide +kernel
theorem dX11_cut_20 : decode cX11_cut 20 = .ok (.goto 15, 3) := by decide +kernel
theorem dX11_cut_23 : decode cX11_cut 23 = .ok (.iload_n 2, 1) := by decide +kernel
theorem dX11_cut_24 : decode cX11_cut 24 = .ok (.iconst 2, 1) := by decide +kernel
theorem dX11_cut_25 : decode cX11_cut 25 = .ok (.if_icmp .ne 9, 3) := by decide +kernel
theorem dX11_cut_28 : decode cX11_cut 28 = .ok (.lload_n 0, 1) := by decide +kernel
theorem dX11_cut_29 : decode cX11_cut 29 = .ok (.l2i, 1) := by decide +kernel
theorem dX11_cut_30 : decode cX11_cut 30 = .ok (.i2l, 1) := by decide +kernel
theorem dX11_cut_31 : decode cX11_cut 31 = .ok (.goto 4, 3) := by decide +kernel
theorem dX11_cut_34 : decode cX11_cut 34 = .ok (.lload_n 0, 1) := by decide +kernel
theorem dX11_cut_35 : decode cX11_cut 35 = .ok (.lreturn, 1) := by decide +kernel
theorem dX11_numbers_0 : decode cX11_numbers 0 = .ok (.aload_n 0, 1) := by decide +kernel
theorem dX11_numbers_1 : decode cX11_numbers 1 = .ok (.iconst 0, 1) := by decide +kernel
theorem dX11_numbers_2 : decode cX11_numbers 2 = .ok (.putfield 1, 3) := by decide +kernel
theorem dX11_numbers_5 : decode cX11_numbers 5 = .ok (.iload_n 1, 1) := by decide +kernel
theorem dX11_numbers_6 : decode cX11_numbers 6 = .ok (.i2l, 1) := by decide +kernel
theorem dX11_numbers_7 : decode cX11_numbers 7 = .ok (.lconst 0, 1) := by decide +kernel
theorem dX11_numbers_8 : decode cX11_numbers 8 = .ok (.ldc2_w 323, 3) := by decide +kernel
theorem dX11_numbers_11 : decode cX11_numbers 11 = .ok (.invokestatic 158, 3) := by decide +kernel
theorem dX11_numbers_14 : decode cX11_numbers 14 = .ok (.ifCond .eq 15, 3) := by decide +kernel
theorem dX11_numbers_17 : decode cX11_numbers 17 = .ok (.iload_n 2, 1) := by decide +kernel
theorem dX11_numbers_18 : decode cX11_numbers 18 = .ok (.i2l, 1) := by decide +kernel
theorem dX11_numbers_19 : decode cX11_numbers 19 = .ok (.lconst 0, 1) := by decide +kernel
theorem dX11_numbers_20 : decode cX11_numbers 20 = .ok (.ldc2_w 323, 3) := by decide +kernel
theorem dX11_numbers_23 : decode cX11_numbers 23 = .ok (.invokestatic 158, 3) := by decide +kernel
theorem dX11_numbers_26 : decode cX11_numbers 26 = .ok (.ifCond .ne 6, 3) := by decide +kernel
theorem dX11_numbers_29 : decode cX11_numbers 29 = .ok (.bipush (-2), 2) := by decide +kernel
theorem dX11_numbers_31 : decode cX11_numbers 31 = .ok (.ireturn, 1) := by decide +kernel
theorem dX11_numbers_32 : decode cX11_numbers 32 = .ok (.iload_n 3, 1) := by decide +kernel
theorem dX11_numbers_33 : decode cX11_numbers 33 = .ok (.i2l, 1) := by decide +kernel
theorem dX11_numbers_34 : decode cX11_numbers 34 = .ok (.lconst 0, 1) := by decide +kernel
theorem dX11_numbers_35 : decode cX11_numbers 35 = .ok (.ldc2_w 341, 3) := by decide +kernel
theorem dX11_numbers_38 : decode cX11_numbers 38 = .ok (.invokestatic 158, 3) := by decide +kernel
theorem dX11_numbers_41 : decode cX11_numbers 41 = .ok (.ifCond .ne 6, 3) := by decide +kernel
theorem dX11_numbers_44 : decode cX11_numbers 44 = .ok (.bipush (-3), 2) := by decide +kernel
theorem dX11_numbers_46 : decode cX11_numbers 46 = .ok (.ireturn, 1) := by decide +kernel
theorem dX11_numbers_47 : decode cX11_numbers 47 = .ok (.aload_n 0, 1) := by decide +kernel
theorem dX11_numbers_48 : decode cX11_numbers 48 = .ok (.getfield 83, 3) := by decide +kernel
theorem dX11_numbers_51 : decode cX11_numbers 51 = .ok (.iload_n 1, 1) := by decide +kernel
theorem dX11_numbers_52 : decode cX11_numbers 52 = .ok (.iload_n 2, 1) := by decide +kernel
theorem dX11_numbers_53 : decode cX11_numbers 53 = .ok (.iastore, 1) := by decide +kernel
theorem dX11_numbers_54 : decode cX11_numbers 54 = .ok (.aload_n 0, 1) := by decide +kernel
theorem dX11_numbers_55 : decode cX11_numbers 55 = .ok (.getfield 86, 3) := by decide +kernel
theorem dX11_numbers_58 : decode cX11_numbers 58 = .ok (.iload_n 1, 1) := by decide +kernel
theorem dX11_numbers_59 : decode cX11_numbers 59 = .ok (.iload_n 3, 1) := by decide +kernel
theorem dX11_numbers_60 : decode cX11_numbers 60 = .ok (.iastore, 1) := by decide +kernel
theorem dX11_numbers_61 : decode cX11_numbers 61 = .ok (.iconst 0, 1) := by decide +kernel
theorem dX11_numbers_62 : decode cX11_numbers 62 = .ok (.istore 4, 2) := by decide +kernel
theorem dX11_numbers_64 : decode cX11_numbers 64 = .ok (.iload 4, 2) := by decide +kernel
theorem dX11_numbers_66 : decode cX11_numbers 66 = .ok (.iload_n 3, 1) := by decide +kernel
theorem dX11_numbers_67 : decode cX11_numbers 67 = .ok (.if_icmp .ge 22, 3) := by decide +kernel
theorem dX11_numbers_70 : decode cX11_numbers 70 = .ok (.aload_n 0, 1) := by decide +kernel
theorem dX11_numbers_71 : decode cX11_numbers 71 = .ok (.getfield 89, 3) := by decide +kernel
theorem dX11_numbers_74 : decode cX11_numbers 74 = .ok (.bipush 40, 2) := by decide +kernel
theorem dX11_numbers_76 : decode cX11_numbers 76 = .ok (.iload_n 1, 1) := by decide +kernel
theorem dX11_numbers_77 : decode cX11_numbers 77 = .ok (.imul, 1) := by decide +kernel
theorem dX11_numbers_78 : decode cX11_numbers 78 = .ok (.iload 4, 2) := by decide +kernel
theorem dX11_numbers_80 : decode cX11_numbers 80 = .ok (.iadd, 1) := by decide +kernel
theorem dX11_numbers_81 : decode cX11_numbers 81 = .ok (.lconst 0, 1) := by decide +kernel
theorem dX11_numbers_82 : decode cX11_numbers 82 = .ok (.lastore, 1) := by decide +kernel
theorem dX11_numbers_83 : decode cX11_numbers 83 = .ok (.iinc 4 1, 3) := by decide +kernel
theorem dX11_numbers_86 : decode cX11_numbers 86 = .ok (.goto (-22), 3) := by decide +kernel
theorem dX11_numbers_89 : decode cX11_numbers 89 = .ok (.iconst 0, 1) := by decide +kernel
theorem dX11_numbers_90 : decode cX11_numbers 90 = .ok (.ireturn, 1) := by decide +kernel
theorem dX11_write_0 : decode cX11_write 0 = .ok (.aload_n 0, 1) := by decide +kernel
theorem dX11_write_1 : decode cX11_write 1 = .ok (.iconst 0, 1) := by decide +kernel
theorem dX11_write_2 : decode cX11_write 2 = .ok (.putfield 1, 3) := by decide +kernel
theorem dX11_write_5 : decode cX11_write 5 = .ok (.aload_n 0, 1) := by decide +kernel
theorem dX11_write_6 : decode cX11_write 6 = .ok (.iload_n 1, 1) := by decide +kernel
theorem dX11_write_7 : decode cX11_write 7 = .ok (.invokevirtual 325, 3) := by decide +kernel
theorem dX11_write_10 : decode cX11_write 10 = .ok (.istore 5, 2) := by decide +kernel
theorem dX11_write_12 : decode cX11_write 12 = .ok (.iload 5, 2) := by decide +kernel
theorem dX11_write_14 : decode cX11_write 14 = .ok (.ifCond .eq 7, 3) := by decide +kernel
theorem dX11_write_17 : decode cX11_write 17 = .ok (.iload 5, 2) := by decide +kernel
theorem dX11_write_19 : decode cX11_write 19 = .ok (.i2l, 1) := by decide +kernel
theorem dX11_write_20 : decode cX11_write 20 = .ok (.lreturn, 1) := by decide +kernel
theorem dX11_write_21 : decode cX11_write 21 = .ok (.iload_n 2, 1) := by decide +kernel
theorem dX11_write_22 : decode cX11_write 22 = .ok (.i2l, 1) := by decide +kernel
theorem dX11_write_23 : decode cX11_write 23 = .ok (.lconst 0, 1) := by decide +kernel
theorem dX11_write_24 : decode cX11_write 24 = .ok (.aload_n 0, 1) := by decide +kernel
theorem dX11_write_25 : decode cX11_write 25 = .ok (.getfield 86, 3) := by decide +kernel
theorem dX11_write_28 : decode cX11_write 28 = .ok (.iload_n 1, 1) := by decide +kernel
theorem dX11_write_29 : decode cX11_write 29 = .ok (.iaload, 1) := by decide +kernel
theorem dX11_write_30 : decode cX11_write 30 = .ok (.iconst 1, 1) := by decide +kernel
theorem dX11_write_31 : decode cX11_write 31 = .ok (.isub, 1) := by decide +kernel
theorem dX11_write_32 : decode cX11_write 32 = .ok (.i2l, 1) := by decide +kernel
theorem dX11_write_33 : decode cX11_write 33 = .ok (.invokestatic 158, 3) := by decide +kernel
theorem dX11_write_36 : decode cX11_write 36 = .ok (.ifCond .ne 7, 3) := by decide +kernel
theorem dX11_write_39 : decode cX11_write 39 = .ok (.ldc2_w 454, 3) := by decide +kernel
theorem dX11_write_42 : decode cX11_write 42 = .ok (.lreturn, 1) := by decide +kernel
theorem dX11_write_43 : decode cX11_write 43 = .ok (.aload_n 0, 1) := by decide +kernel
theorem dX11_write_44 : decode cX11_write 44 = .ok (.getfield 89, 3) := by decide +kernel
theorem dX11_write_47 : decode cX11_write 47 = .ok (.bipush 40, 2) := by decide +kernel
theorem dX11_write_49 : decode cX11_write 49 = .ok (.iload_n 1, 1) := by decide +kernel
theorem dX11_write_50 : decode cX11_write 50 = .ok (.imul, 1) := by decide +kernel
theorem dX11_write_51 : decode cX11_write 51 = .ok (.iload_n 2, 1) := by decide +kernel
theorem dX11_write_52 : decode cX11_write 52 = .ok (.iadd, 1) := by decide +kernel
theorem dX11_write_53 : decode cX11_write 53 = .ok (.lload_n 3, 1) := by decide +kernel
theorem dX11_write_54 : decode cX11_write 54 = .ok (.aload_n 0, 1) := by decide +kernel
theorem dX11_write_55 : decode cX11_write 55 = .ok (.getfield 83, 3) := by decide +kernel
theorem dX11_write_58 : decode cX11_write 58 = .ok (.iload_n 1, 1) := by decide +kernel
theorem dX11_write_59 : decode cX11_write 59 = .ok (.iaload, 1) := by decide +kernel
theorem dX11_write_60 : decode cX11_write 60 = .ok (.invokestatic 456, 3) := by decide +kernel
theorem dX11_write_63 : decode cX11_write 63 = .ok (.lastore, 1) := by decide +kernel
theorem dX11_write_64 : decode cX11_write 64 = .ok (.aload_n 0, 1) := by decide +kernel
theorem dX11_write_65 : decode cX11_write 65 = .ok (.getfield 89, 3) := by decide +kernel
theorem dX11_write_68 : decode cX11_write 68 = .ok (.bipush 40, 2) := by decide +kernel
theorem dX11_write_70 : decode cX11_write 70 = .ok (.iload_n 1, 1) := by decide +kernel
theorem dX11_write_71 : decode cX11_write 71 = .ok (.imul, 1) := by decide +kernel
theorem dX11_write_72 : decode cX11_write 72 = .ok (.iload_n 2, 1) := by decide +kernel
theorem dX11_write_73 : decode cX11_write 73 = .ok (.iadd, 1) := by decide +kernel
theorem dX11_write_74 : decode cX11_write 74 = .ok (.laload, 1) := by decide +kernel
theorem dX11_write_75 : decode cX11_write 75 = .ok (.lreturn, 1) := by decide +kernel
theorem dX11_lists_0 : decode cX11_lists 0 = .ok (.aload_n 0, 1) := by decide +kernel
theorem dX11_lists_1 : decode cX11_lists 1 = .ok (.iconst 0, 1) := by decide +kernel
theorem dX11_lists_2 : decode cX11_lists 2 = .ok (.putfield 1, 3) := by decide +kernel
theorem dX11_lists_5 : decode cX11_lists 5 = .ok (.iload_n 1, 1) := by decide +kernel
theorem dX11_lists_6 : decode cX11_lists 6 = .ok (.i2l, 1) := by decide +kernel
theorem dX11_lists_7 : decode cX11_lists 7 = .ok (.lconst 0, 1) := by decide +kernel
theorem dX11_lists_8 : decode cX11_lists 8 = .ok (.ldc2_w 323, 3) := by decide +kernel
theorem dX11_lists_11 : decode cX11_lists 11 = .ok (.invokestatic 158, 3) := by decide +kernel
theorem dX11_lists_14 : decode cX11_lists 14 = .ok (.ifCond .eq 11, 3) := by decide +kernel
theorem dX11_lists_17 : decode cX11_lists 17 = .ok (.aload_n 0, 1) := by decide +kernel
theorem dX11_lists_18 : decode cX11_lists 18 = .ok (.iload_n 2, 1) := by decide +kernel
theorem dX11_lists_19 : decode cX11_lists 19 = .ok (.invokevirtual 272, 3) := by decide +kernel
theorem dX11_lists_22 : decode cX11_lists 22 = .ok (.ifCond .ne 6, 3) := by decide +kernel
theorem dX11_lists_25 : decode cX11_lists 25 = .ok (.bipush (-2), 2) := by decide +kernel
theorem dX11_lists_27 : decode cX11_lists 27 = .ok (.ireturn, 1) := by decide +kernel
theorem dX11_lists_28 : decode cX11_lists 28 = .ok (.aload_n 0, 1) := by decide +kernel
theorem dX11_lists_29 : decode cX11_lists 29 = .ok (.iload_n 1, 1) := by decide +kernel
theorem dX11_lists_30 : decode cX11_lists 30 = .ok (.invokevirtual 325, 3) := by decide +kernel
theorem dX11_lists_33 : decode cX11_lists 33 = .ok (.istore 4, 2) := by decide +kernel
theorem dX11_lists_35 : decode cX11_lists 35 = .ok (.iload 4, 2) := by decide +kernel
theorem dX11_lists_37 : decode cX11_lists 37 = .ok (.ifCond .eq 6, 3) := by decide +kernel
theorem dX11_lists_40 : decode cX11_lists 40 = .ok (.iload 4, 2) := by decide +kernel
theorem dX11_lists_42 : decode cX11_lists 42 = .ok (.ireturn, 1) := by decide +kernel
theorem dX11_lists_43 : decode cX11_lists 43 = .ok (.aload_n 0, 1) := by decide +kernel
theorem dX11_lists_44 : decode cX11_lists 44 = .ok (.iload_n 3, 1) := by decide +kernel
theorem dX11_lists_45 : decode cX11_lists 45 = .ok (.invokevirtual 370, 3) := by decide +kernel
theorem dX11_lists_48 : decode cX11_lists 48 = .ok (.ifCond .ne 6, 3) := by decide +kernel
theorem dX11_lists_51 : decode cX11_lists 51 = .ok (.bipush (-3), 2) := by decide +kernel
theorem dX11_lists_53 : decode cX11_lists 53 = .ok (.ireturn, 1) := by decide +kernel
theorem dX11_lists_54 : decode cX11_lists 54 = .ok (.aload_n 0, 1) := by decide +kernel
theorem dX11_lists_55 : decode cX11_lists 55 = .ok (.iload_n 2, 1) := by decide +kernel
theorem dX11_lists_56 : decode cX11_lists 56 = .ok (.iload_n 3, 1) := by decide +kernel
theorem dX11_lists_57 : decode cX11_lists 57 = .ok (.invokevirtual 379, 3) := by decide +kernel
theorem dX11_lists_60 : decode cX11_lists 60 = .ok (.istore 5, 2) := by decide +kernel
theorem dX11_lists_62 : decode cX11_lists 62 = .ok (.iload 5, 2) := by decide +kernel
theorem dX11_lists_64 : decode cX11_lists 64 = .ok (.ldc_w 358, 3) := by decide +kernel
theorem dX11_lists_67 : decode cX11_lists 67 = .ok (.if_icmp .ne 6, 3) := by decide +kernel
theorem dX11_lists_70 : decode cX11_lists 70 = .ok (.bipush (-5), 2) := by decide +kernel
theorem dX11_lists_72 : decode cX11_lists 72 = .ok (.ireturn, 1) := by decide +kernel
theorem dX11_lists_73 : decode cX11_lists 73 = .ok (.iload 5, 2) := by decide +kernel
theorem dX11_lists_75 : decode cX11_lists 75 = .ok (.aload_n 0, 1) := by decide +kernel
theorem dX11_lists_76 : decode cX11_lists 76 = .ok (.getfield 86, 3) := by decide +kernel
theorem dX11_lists_79 : decode cX11_lists 79 = .ok (.iload_n 1, 1) := by decide +kernel
theorem dX11_lists_80 : decode cX11_lists 80 = .ok (.iaload, 1) := by decide +kernel
theorem dX11_lists_81 : decode cX11_lists 81 = .ok (.if_icmp .ge 8, 3) := by decide +kernel
theorem dX11_lists_84 : decode cX11_lists 84 = .ok (.iload 5, 2) := by decide +kernel
theorem dX11_lists_86 : decode cX11_lists 86 = .ok (.goto 9, 3) := by decide +kernel
theorem dX11_lists_89 : decode cX11_lists 89 = .ok (.aload_n 0, 1) := by decide +kernel
theorem dX11_lists_90 : decode cX11_lists 90 = .ok (.getfield 86, 3) := by decide +kernel
theorem dX11_lists_93 : decode cX11_lists 93 = .ok (.iload_n 1, 1) := by decide +kernel
theorem dX11_lists_94 : decode cX11_lists 94 = .ok (.iaload, 1) := by decide +kernel
theorem dX11_lists_95 : decode cX11_lists 95 = .ok (.istore 6, 2) := by decide +kernel
theorem dX11_lists_97 : decode cX11_lists 97 = .ok (.iconst 0, 1) := by decide +kernel
theorem dX11_lists_98 : decode cX11_lists 98 = .ok (.istore 7, 2) := by decide +kernel
theorem dX11_lists_100 : decode cX11_lists 100 = .ok (.iload 7, 2) := by decide +kernel
theorem dX11_lists_102 : decode cX11_lists 102 = .ok (.iload 6, 2) := by decide +kernel
theorem dX11_lists_104 : decode cX11_lists 104 = .ok (.if_icmp .ge 28, 3) := by decide +kernel
theorem dX11_lists_107 : decode cX11_lists 107 = .ok (.aload_n 0, 1) := by decide +kernel
theorem dX11_lists_108 : decode cX11_lists 108 = .ok (.getfield 89, 3) := by decide +kernel
theorem dX11_lists_111 : decode cX11_lists 111 = .ok (.bipush 40, 2) := by decide +kernel
theorem dX11_lists_113 : decode cX11_lists 113 = .ok (.iload_n 1, 1) := by decide +kernel
theorem dX11_lists_114 : decode cX11_lists 114 = .ok (.imul, 1) := by decide +kernel
theorem dX11_lists_115 : decode cX11_lists 115 = .ok (.iload 7, 2) := by decide +kernel
theorem dX11_lists_117 : decode cX11_lists 117 = .ok (.iadd, 1) := by decide +kernel
theorem dX11_lists_118 : decode cX11_lists 118 = .ok (.aload_n 0, 1) := by decide +kernel
theorem dX11_lists_119 : decode cX11_lists 119 = .ok (.iload 7, 2) := by decide +kernel
theorem dX11_lists_121 : decode cX11_lists 121 = .ok (.invokevirtual 382, 3) := by decide +kernel
theorem dX11_lists_124 : decode cX11_lists 124 = .ok (.i2l, 1) := by decide +kernel
theorem dX11_lists_125 : decode cX11_lists 125 = .ok (.lastore, 1) := by decide +kernel
theorem dX11_lists_126 : decode cX11_lists 126 = .ok (.iinc 7 1, 3) := by decide +kernel
theorem dX11_lists_129 : decode cX11_lists 129 = .ok (.goto (-29), 3) := by decide +kernel
theorem dX11_lists_132 : decode cX11_lists 132 = .ok (.iload 6, 2) := by decide +kernel
theorem dX11_lists_134 : decode cX11_lists 134 = .ok (.ireturn, 1) := by decide +kernel
theorem dX11_image_0 : decode cX11_image 0 = .ok (.aload_n 0, 1) := by decide +kernel
theorem dX11_image_1 : decode cX11_image 1 = .ok (.iconst 0, 1) := by decide +kernel
theorem dX11_image_2 : decode cX11_image 2 = .ok (.putfield 1, 3) := by decide +kernel
theorem dX11_image_5 : decode cX11_image 5 = .ok (.iload_n 1, 1) := by decide +kernel
theorem dX11_image_6 : decode cX11_image 6 = .ok (.i2l, 1) := by decide +kernel
theorem dX11_image_7 : decode cX11_image 7 = .ok (.lconst 0, 1) := by decide +kernel
theorem dX11_image_8 : decode cX11_image 8 = .ok (.lconst 1, 1) := by decide +kernel
theorem dX11_image_9 : decode cX11_image 9 = .ok (.invokestatic 158, 3) := by decide +kernel
theorem dX11_image_12 : decode cX11_image 12 = .ok (.ifCond .ne 6, 3) := by decide +kernel
theorem dX11_image_15 : decode cX11_image 15 = .ok (.bipush (-2), 2) := by decide +kernel
theorem dX11_image_17 : decode cX11_image 17 = .ok (.ireturn, 1) := by decide +kernel
theorem dX11_image_18 : decode cX11_image 18 = .ok (.iconst 0, 1) := by decide +kernel
theorem dX11_image_19 : decode cX11_image 19 = .ok (.istore_n 2, 1) := by decide +kernel
theorem dX11_image_20 : decode cX11_image 20 = .ok (.iload_n 2, 1) := by decide +kernel
theorem dX11_image_21 : decode cX11_image 21 = .ok (.sipush 994, 3) := by decide +kernel
theorem dX11_image_24 : decode cX11_image 24 = .ok (.if_icmp .ge 29, 3) := by decide +kernel
theorem dX11_image_27 : decode cX11_image 27 = .ok (.aload_n 0, 1) := by decide +kernel
theorem dX11_image_28 : decode cX11_image 28 = .ok (.getfield 13, 3) := by decide +kernel
theorem dX11_image_31 : decode cX11_image 31 = .ok (.sipush 994, 3) := by decide +kernel
theorem dX11_image_34 : decode cX11_image 34 = .ok (.iload_n 1, 1) := by decide +kernel
theorem dX11_image_35 : decode cX11_image 35 = .ok (.iconst 1, 1) := by decide +kernel
theorem dX11_image_36 : decode cX11_image 36 = .ok (.iadd, 1) := by decide +kernel
theorem dX11_image_37 : decode cX11_image 37 = .ok (.imul, 1) := by decide +kernel
theorem dX11_image_38 : decode cX11_image 38 = .ok (.iload_n 2, 1) := by decide +kernel
theorem dX11_image_39 : decode cX11_image 39 = .ok (.iadd, 1) := by decide +kernel
theorem dX11_image_40 : decode cX11_image 40 = .ok (.aload_n 0, 1) := by decide +kernel
theorem dX11_image_41 : decode cX11_image 41 = .ok (.getfield 13, 3) := by decide +kernel
theorem dX11_image_44 : decode cX11_image 44 = .ok (.iload_n 2, 1) := by decide +kernel
theorem dX11_image_45 : decode cX11_image 45 = .ok (.iaload, 1) := by decide +kernel
theorem dX11_image_46 : decode cX11_image 46 = .ok (.iastore, 1) := by decide +kernel
theorem dX11_image_47 : decode cX11_image 47 = .ok (.iinc 2 1, 3) := by decide +kernel
theorem dX11_image_50 : decode cX11_image 50 = .ok (.goto (-30), 3) := by decide +kernel
theorem dX11_image_53 : decode cX11_image 53 = .ok (.aload_n 0, 1) := by decide +kernel
theorem dX11_image_54 : decode cX11_image 54 = .ok (.getfield 17, 3) := by decide +kernel
theorem dX11_image_57 : decode cX11_image 57 = .ok (.iload_n 1, 1) := by decide +kernel
theorem dX11_image_58 : decode cX11_image 58 = .ok (.iconst 1, 1) := by decide +kernel
theorem dX11_image_59 : decode cX11_image 59 = .ok (.bastore, 1) := by decide +kernel
theorem dX11_image_60 : decode cX11_image 60 = .ok (.iconst 0, 1) := by decide +kernel
theorem dX11_image_61 : decode cX11_image 61 = .ok (.ireturn, 1) := by decide +kernel
theorem dX11_restore_0 : decode cX11_restore 0 = .ok (.aload_n 0, 1) := by decide +kernel
theorem dX11_restore_1 : decode cX11_restore 1 = .ok (.iconst 0, 1) := by decide +kernel
theorem dX11_restore_2 : decode cX11_restore 2 = .ok (.putfield 1, 3) := by decide +kernel
theorem dX11_restore_5 : decode cX11_restore 5 = .ok (.iload_n 1, 1) := by decide +kernel
theorem dX11_restore_6 : decode cX11_restore 6 = .ok (.i2l, 1) := by decide +kernel
theorem dX11_restore_7 : decode cX11_restore 7 = .ok (.lconst 0, 1) := by decide +kernel
theorem dX11_restore_8 : decode cX11_restore 8 = .ok (.lconst 1, 1) := by decide +kernel
theorem dX11_restore_9 : decode cX11_restore 9 = .ok (.invokestatic 158, 3) := by decide +kernel
theorem dX11_restore_12 : decode cX11_restore 12 = .ok (.ifCond .ne 6, 3) := by decide +kernel
theorem dX11_restore_15 : decode cX11_restore 15 = .ok (.bipush (-2), 2) := by decide +kernel
theorem dX11_restore_17 : decode cX11_restore 17 = .ok (.ireturn, 1) := by decide +kernel
theorem dX11_restore_18 : decode cX11_restore 18 = .ok (.aload_n 0, 1) := by decide +kernel
theorem dX11_restore_19 : decode cX11_restore 19 = .ok (.getfield 17, 3) := by decide +kernel
theorem dX11_restore_22 : decode cX11_restore 22 = .ok (.iload_n 1, 1) := by decide +kernel
theorem dX11_restore_23 : decode cX11_restore 23 = .ok (.baload, 1) := by decide +kernel
theorem dX11_restore_24 : decode cX11_restore 24 = .ok (.ifCond .ne 6, 3) := by decide +kernel
theorem dX11_restore_27 : decode cX11_restore 27 = .ok (.bipush (-5), 2) := by decide +kernel
theorem dX11_restore_29 : decode cX11_restore 29 = .ok (.ireturn, 1) := by decide +kernel
theorem dX11_restore_30 : decode cX11_restore 30 = .ok (.iconst 0, 1) := by decide +kernel
theorem dX11_restore_31 : decode cX11_restore 31 = .ok (.istore_n 2, 1) := by decide +kernel
theorem dX11_restore_32 : decode cX11_restore 32 = .ok (.iload_n 2, 1) := by decide +kernel
theorem dX11_restore_33 : decode cX11_restore 33 = .ok (.sipush 994, 3) := by decide +kernel
theorem dX11_restore_36 : decode cX11_restore 36 = .ok (.if_icmp .ge 29, 3) := by decide +kernel
theorem dX11_restore_39 : decode cX11_restore 39 = .ok (.aload_n 0, 1) := by decide +kernel
theorem dX11_restore_40 : decode cX11_restore 40 = .ok (.getfield 13, 3) := by decide +kernel
theorem dX11_restore_43 : decode cX11_restore 43 = .ok (.iload_n 2, 1) := by decide +kernel
theorem dX11_restore_44 : decode cX11_restore 44 = .ok (.aload_n 0, 1) := by decide +kernel
theorem dX11_restore_45 : decode cX11_restore 45 = .ok (.getfield 13, 3) := by decide +kernel
theorem dX11_restore_48 : decode cX11_restore 48 = .ok (.sipush 994, 3) := by decide +kernel
theorem dX11_restore_51 : decode cX11_restore 51 = .ok (.iload_n 1, 1) := by decide +kernel
theorem dX11_restore_52 : decode cX11_restore 52 = .ok (.iconst 1, 1) := by decide +kernel
theorem dX11_restore_53 : decode cX11_restore 53 = .ok (.iadd, 1) := by decide +kernel
theorem dX11_restore_54 : decode cX11_restore 54 = .ok (.imul, 1) := by decide +kernel
theorem dX11_restore_55 : decode cX11_restore 55 = .ok (.iload_n 2, 1) := by decide +kernel
theorem dX11_restore_56 : decode cX11_restore 56 = .ok (.iadd, 1) := by decide +kernel
theorem dX11_restore_57 : decode cX11_restore 57 = .ok (.iaload, 1) := by decide +kernel
theorem dX11_restore_58 : decode cX11_restore 58 = .ok (.iastore, 1) := by decide +kernel
theorem dX11_restore_59 : decode cX11_restore 59 = .ok (.iinc 2 1, 3) := by decide +kernel
theorem dX11_restore_62 : decode cX11_restore 62 = .ok (.goto (-30), 3) := by decide +kernel
theorem dX11_restore_65 : decode cX11_restore 65 = .ok (.aload_n 0, 1) := by decide +kernel
theorem dX11_restore_66 : decode cX11_restore 66 = .ok (.getfield 13, 3) := by decide +kernel
theorem dX11_restore_69 : decode cX11_restore 69 = .ok (.bipush 42, 2) := by decide +kernel
theorem dX11_restore_71 : decode cX11_restore 71 = .ok (.iconst 0, 1) := by decide +kernel
theorem dX11_restore_72 : decode cX11_restore 72 = .ok (.iastore, 1) := by decide +kernel
theorem dX11_restore_73 : decode cX11_restore 73 = .ok (.iconst 0, 1) := by decide +kernel
theorem dX11_restore_74 : decode cX11_restore 74 = .ok (.ireturn, 1) := by decide +kernel
theorem dX11_count_0 : decode cX11_count 0 = .ok (.aload_n 0, 1) := by decide +kernel
theorem dX11_count_1 : decode cX11_count 1 = .ok (.iconst 0, 1) := by decide +kernel
theorem dX11_count_2 : decode cX11_count 2 = .ok (.putfield 1, 3) := by decide +kernel
theorem dX11_count_5 : decode cX11_count 5 = .ok (.iload_n 1, 1) := by decide +kernel
theorem dX11_count_6 : decode cX11_count 6 = .ok (.tableswitch 128 0 9 #[54, 61, 68, 76, 84, 92, 100, 108, 116, 121], 54) := by decide +kernel
theorem dX11_count_60 : decode cX11_count 60 = .ok (.aload_n 0, 1) := by decide +kernel
theorem dX11_count_61 : decode cX11_count 61 = .ok (.getfield 13, 3) := by decide +kernel
theorem dX11_count_64 : decode cX11_count 64 = .ok (.iconst 1, 1) := by decide +kernel
theorem dX11_count_65 : decode cX11_count 65 = .ok (.iaload, 1) := by decide +kernel
theorem dX11_count_66 : decode cX11_count 66 = .ok (.ireturn, 1) := by decide +kernel
theorem dX11_count_67 : decode cX11_count 67 = .ok (.aload_n 0, 1) := by decide +kernel
theorem dX11_count_68 : decode cX11_count 68 = .ok (.getfield 13, 3) := by decide +kernel
theorem dX11_count_71 : decode cX11_count 71 = .ok (.iconst 2, 1) := by decide +kernel
theorem dX11_count_72 : decode cX11_count 72 = .ok (.iaload, 1) := by decide +kernel
theorem dX11_count_73 : decode cX11_count 73 = .ok (.ireturn, 1) := by decide +kernel
theorem dX11_count_74 : decode cX11_count 74 = .ok (.aload_n 0, 1) := by decide +kernel
theorem dX11_count_75 : decode cX11_count 75 = .ok (.getfield 13, 3) := by decide +kernel
theorem dX11_count_78 : decode cX11_count 78 = .ok (.bipush 37, 2) := by decide +kernel
theorem dX11_count_80 : decode cX11_count 80 = .ok (.iaload, 1) := by decide +kernel
theorem dX11_count_81 : decode cX11_count 81 = .ok (.ireturn, 1) := by decide +kernel
theorem dX11_count_82 : decode cX11_count 82 = .ok (.aload_n 0, 1) := by decide +kernel
theorem dX11_count_83 : decode cX11_count 83 = .ok (.getfield 13, 3) := by decide +kernel
theorem dX11_count_86 : decode cX11_count 86 = .ok (.bipush 38, 2) := by decide +kernel
theorem dX11_count_88 : decode cX11_count 88 = .ok (.iaload, 1) := by decide +kernel
theorem dX11_count_89 : decode cX11_count 89 = .ok (.ireturn, 1) := by decide +kernel
theorem dX11_count_90 : decode cX11_count 90 = .ok (.aload_n 0, 1) := by decide +kernel
theorem dX11_count_91 : decode cX11_count 91 = .ok (.getfield 13, 3) := by decide +kernel
theorem dX11_count_94 : decode cX11_count 94 = .ok (.bipush 39, 2) := by decide +kernel
theorem dX11_count_96 : decode cX11_count 96 = .ok (.iaload, 1) := by decide +kernel
theorem dX11_count_97 : decode cX11_count 97 = .ok (.ireturn, 1) := by decide +kernel
theorem dX11_count_98 : decode cX11_count 98 = .ok (.aload_n 0, 1) := by decide +kernel
theorem dX11_count_99 : decode cX11_count 99 = .ok (.getfield 13, 3) := by decide +kernel
theorem dX11_count_102 : decode cX11_count 102 = .ok (.bipush 40, 2) := by decide +kernel
theorem dX11_count_104 : decode cX11_count 104 = .ok (.iaload, 1) := by decide +kernel
theorem dX11_count_105 : decode cX11_count 105 = .ok (.ireturn, 1) := by decide +kernel
theorem dX11_count_106 : decode cX11_count 106 = .ok (.aload_n 0, 1) := by decide +kernel
theorem dX11_count_107 : decode cX11_count 107 = .ok (.getfield 13, 3) := by decide +kernel
theorem dX11_count_110 : decode cX11_count 110 = .ok (.bipush 41, 2) := by decide +kernel
theorem dX11_count_112 : decode cX11_count 112 = .ok (.iaload, 1) := by decide +kernel
theorem dX11_count_113 : decode cX11_count 113 = .ok (.ireturn, 1) := by decide +kernel
theorem dX11_count_114 : decode cX11_count 114 = .ok (.aload_n 0, 1) := by decide +kernel
theorem dX11_count_115 : decode cX11_count 115 = .ok (.getfield 13, 3) := by decide +kernel
theorem dX11_count_118 : decode cX11_count 118 = .ok (.bipush 42, 2) := by decide +kernel
theorem dX11_count_120 : decode cX11_count 120 = .ok (.iaload, 1) := by decide +kernel
theorem dX11_count_121 : decode cX11_count 121 = .ok (.ireturn, 1) := by decide +kernel
theorem dX11_count_122 : decode cX11_count 122 = .ok (.aload_n 0, 1) := by decide +kernel
theorem dX11_count_123 : decode cX11_count 123 = .ok (.getfield 96, 3) := by decide +kernel
theorem dX11_count_126 : decode cX11_count 126 = .ok (.ireturn, 1) := by decide +kernel
theorem dX11_count_127 : decode cX11_count 127 = .ok (.aload_n 0, 1) := by decide +kernel
theorem dX11_count_128 : decode cX11_count 128 = .ok (.getfield 13, 3) := by decide +kernel
theorem dX11_count_131 : decode cX11_count 131 = .ok (.iconst 0, 1) := by decide +kernel
theorem dX11_count_132 : decode cX11_count 132 = .ok (.iaload, 1) := by decide +kernel
theorem dX11_count_133 : decode cX11_count 133 = .ok (.ireturn, 1) := by decide +kernel
theorem dX11_count_134 : decode cX11_count 134 = .ok (.iconst (-1), 1) := by decide +kernel
theorem dX11_count_135 : decode cX11_count 135 = .ok (.ireturn, 1) := by decide +kernel
