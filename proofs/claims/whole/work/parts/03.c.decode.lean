theorem dX8_figures_45 : decode cX8_figures 45 = .ok (.getfield 92, 3) := by decide +kernel
theorem dX8_figures_48 : decode cX8_figures 48 = .ok (.invokevirtual 95, 3) := by decide +kernel
theorem dX8_figures_51 : decode cX8_figures 51 = .ok (.iadd, 1) := by decide +kernel
theorem dX8_figures_52 : decode cX8_figures 52 = .ok (.bipush 48, 2) := by decide +kernel
theorem dX8_figures_54 : decode cX8_figures 54 = .ok (.isub, 1) := by decide +kernel
theorem dX8_figures_55 : decode cX8_figures 55 = .ok (.istore 4, 2) := by decide +kernel
theorem dX8_figures_57 : decode cX8_figures 57 = .ok (.iinc 3 1, 3) := by decide +kernel
theorem dX8_figures_60 : decode cX8_figures 60 = .ok (.aload_n 0, 1) := by decide +kernel
theorem dX8_figures_61 : decode cX8_figures 61 = .ok (.dup, 1) := by decide +kernel
theorem dX8_figures_62 : decode cX8_figures 62 = .ok (.getfield 92, 3) := by decide +kernel
theorem dX8_figures_65 : decode cX8_figures 65 = .ok (.iconst 1, 1) := by decide +kernel
theorem dX8_figures_66 : decode cX8_figures 66 = .ok (.iadd, 1) := by decide +kernel
theorem dX8_figures_67 : decode cX8_figures 67 = .ok (.putfield 92, 3) := by decide +kernel
theorem dX8_figures_70 : decode cX8_figures 70 = .ok (.goto (-58), 3) := by decide +kernel
theorem dX8_figures_73 : decode cX8_figures 73 = .ok (.iload_n 3, 1) := by decide +kernel
theorem dX8_figures_74 : decode cX8_figures 74 = .ok (.i2l, 1) := by decide +kernel
theorem dX8_figures_75 : decode cX8_figures 75 = .ok (.lconst 1, 1) := by decide +kernel
theorem dX8_figures_76 : decode cX8_figures 76 = .ok (.ldc2_w 103, 3) := by decide +kernel
theorem dX8_figures_79 : decode cX8_figures 79 = .ok (.invokestatic 82, 3) := by decide +kernel
theorem dX8_figures_82 : decode cX8_figures 82 = .ok (.ifCond .eq 28, 3) := by decide +kernel
theorem dX8_figures_85 : decode cX8_figures 85 = .ok (.aload_n 0, 1) := by decide +kernel
theorem dX8_figures_86 : decode cX8_figures 86 = .ok (.aload_n 0, 1) := by decide +kernel
theorem dX8_figures_87 : decode cX8_figures 87 = .ok (.getfield 92, 3) := by decide +kernel
theorem dX8_figures_90 : decode cX8_figures 90 = .ok (.invokevirtual 95, 3) := by decide +kernel
theorem dX8_figures_93 : decode cX8_figures 93 = .ok (.iload_n 2, 1) := by decide +kernel
theorem dX8_figures_94 : decode cX8_figures 94 = .ok (.iload_n 1, 1) := by decide +kernel
theorem dX8_figures_95 : decode cX8_figures 95 = .ok (.iconst 1, 1) := by decide +kernel
theorem dX8_figures_96 : decode cX8_figures 96 = .ok (.isub, 1) := by decide +kernel
theorem dX8_figures_97 : decode cX8_figures 97 = .ok (.if_icmp .ge 8, 3) := by decide +kernel
theorem dX8_figures_100 : decode cX8_figures 100 = .ok (.bipush 44, 2) := by decide +kernel
theorem dX8_figures_102 : decode cX8_figures 102 = .ok (.goto 5, 3) := by decide +kernel
theorem dX8_figures_105 : decode cX8_figures 105 = .ok (.bipush 59, 2) := by decide +kernel
theorem dX8_figures_107 : decode cX8_figures 107 = .ok (.if_icmp .eq 5, 3) := by decide +kernel
theorem dX8_figures_110 : decode cX8_figures 110 = .ok (.iconst 0, 1) := by decide +kernel
theorem dX8_figures_111 : decode cX8_figures 111 = .ok (.ireturn, 1) := by decide +kernel
theorem dX8_figures_112 : decode cX8_figures 112 = .ok (.aload_n 0, 1) := by decide +kernel
theorem dX8_figures_113 : decode cX8_figures 113 = .ok (.getfield 52, 3) := by decide +kernel
theorem dX8_figures_116 : decode cX8_figures 116 = .ok (.iload_n 2, 1) := by decide +kernel
theorem dX8_figures_117 : decode cX8_figures 117 = .ok (.iload 4, 2) := by decide +kernel
theorem dX8_figures_119 : decode cX8_figures 119 = .ok (.iastore, 1) := by decide +kernel
theorem dX8_figures_120 : decode cX8_figures 120 = .ok (.aload_n 0, 1) := by decide +kernel
theorem dX8_figures_121 : decode cX8_figures 121 = .ok (.dup, 1) := by decide +kernel
theorem dX8_figures_122 : decode cX8_figures 122 = .ok (.getfield 92, 3) := by decide +kernel
theorem dX8_figures_125 : decode cX8_figures 125 = .ok (.iconst 1, 1) := by decide +kernel
theorem dX8_figures_126 : decode cX8_figures 126 = .ok (.iadd, 1) := by decide +kernel
theorem dX8_figures_127 : decode cX8_figures 127 = .ok (.putfield 92, 3) := by decide +kernel
theorem dX8_figures_130 : decode cX8_figures 130 = .ok (.iinc 2 1, 3) := by decide +kernel
theorem dX8_figures_133 : decode cX8_figures 133 = .ok (.goto (-131), 3) := by decide +kernel
theorem dX8_figures_136 : decode cX8_figures 136 = .ok (.iconst 1, 1) := by decide +kernel
theorem dX8_figures_137 : decode cX8_figures 137 = .ok (.ireturn, 1) := by decide +kernel
set_option maxRecDepth 20000 in
theorem ggX8_item_X8_byteAt : GoodIn wsX8_item wsX8_byteAt := goodIn_r _ [14, 15, 16, 27, 28, 29, 30, 31, 32, 33, 34, 35, 36, 37, 38, 39, 40, 41, 42, 43, 44, 45, 46, 47, 48, 49, 50, 51, 52, 53, 54, 55, 56] (by decide +kernel) (by decide +kernel)
set_option maxRecDepth 20000 in
theorem gX8_item_X8_byteAt : GoodIn wsX8_item (wsV RX8 95 RX8 yX8_byteAt wsX8_byteAt) := goodIn_app (goodIn_of _ (by decide +kernel)) ggX8_item_X8_byteAt
set_option maxRecDepth 20000 in
theorem ggX8_item_X8_figures : GoodIn wsX8_item wsX8_figures := goodIn_r _ [20, 1, 21, 22, 23, 3, 10, 11, 12, 13, 14, 15, 16, 24, 25, 26, 27, 28, 29, 30, 31, 32, 33, 34, 35, 36, 37, 38, 39, 40, 41, 42, 43, 44, 45, 46, 47, 48, 49, 50, 51, 52, 53, 54, 55, 56] (by decide +kernel) (by decide +kernel)
set_option maxRecDepth 20000 in
theorem gX8_item_X8_figures : GoodIn wsX8_item (wsV RX8 105 RX8 yX8_figures wsX8_figures) := goodIn_app (goodIn_of _ (by decide +kernel)) ggX8_item_X8_figures
set_option maxRecDepth 20000 in
theorem ggX8_item_X8_in : GoodIn wsX8_item wsX8_in := goodIn_r _ [26] (by decide +kernel) (by decide +kernel)
set_option maxRecDepth 20000 in
theorem gX8_item_X8_in : GoodIn wsX8_item (va_wsS RX8 82 yX8_in wsX8_in) := goodIn_app (goodIn_of _ (by decide +kernel)) ggX8_item_X8_in
theorem dX8_item_0 : decode cX8_item 0 = .ok (.aload_n 0, 1) := by decide +kernel
theorem dX8_item_1 : decode cX8_item 1 = .ok (.aload_n 0, 1) := by decide +kernel
theorem dX8_item_2 : decode cX8_item 2 = .ok (.getfield 92, 3) := by decide +kernel
theorem dX8_item_5 : decode cX8_item 5 = .ok (.invokevirtual 95, 3) := by decide +kernel
theorem dX8_item_8 : decode cX8_item 8 = .ok (.istore_n 1, 1) := by decide +kernel
theorem dX8_item_9 : decode cX8_item 9 = .ok (.aload_n 0, 1) := by decide +kernel
theorem dX8_item_10 : decode cX8_item 10 = .ok (.dup, 1) := by decide +kernel
theorem dX8_item_11 : decode cX8_item 11 = .ok (.getfield 92, 3) := by decide +kernel
theorem dX8_item_14 : decode cX8_item 14 = .ok (.iconst 1, 1) := by decide +kernel
theorem dX8_item_15 : decode cX8_item 15 = .ok (.iadd, 1) := by decide +kernel
theorem dX8_item_16 : decode cX8_item 16 = .ok (.putfield 92, 3) := by decide +kernel
theorem dX8_item_19 : decode cX8_item 19 = .ok (.iload_n 1, 1) := by decide +kernel
theorem dX8_item_20 : decode cX8_item 20 = .ok (.lookupswitch 251 #[(103, 28), (110, 210)], 28) := by decide +kernel
theorem dX8_item_48 : decode cX8_item 48 = .ok (.aload_n 0, 1) := by decide +kernel
theorem dX8_item_49 : decode cX8_item 49 = .ok (.iconst 4, 1) := by decide +kernel
theorem dX8_item_50 : decode cX8_item 50 = .ok (.invokevirtual 105, 3) := by decide +kernel
theorem dX8_item_53 : decode cX8_item 53 = .ok (.ifCond .eq 62, 3) := by decide +kernel
theorem dX8_item_56 : decode cX8_item 56 = .ok (.aload_n 0, 1) := by decide +kernel
theorem dX8_item_57 : decode cX8_item 57 = .ok (.getfield 13, 3) := by decide +kernel
theorem dX8_item_60 : decode cX8_item 60 = .ok (.iconst 1, 1) := by decide +kernel
theorem dX8_item_61 : decode cX8_item 61 = .ok (.iaload, 1) := by decide +kernel
theorem dX8_item_62 : decode cX8_item 62 = .ok (.iconst 5, 1) := by decide +kernel
theorem dX8_item_63 : decode cX8_item 63 = .ok (.if_icmp .ge 52, 3) := by decide +kernel
theorem dX8_item_66 : decode cX8_item 66 = .ok (.aload_n 0, 1) := by decide +kernel
theorem dX8_item_67 : decode cX8_item 67 = .ok (.getfield 52, 3) := by decide +kernel
theorem dX8_item_70 : decode cX8_item 70 = .ok (.iconst 0, 1) := by decide +kernel
theorem dX8_item_71 : decode cX8_item 71 = .ok (.iaload, 1) := by decide +kernel
theorem dX8_item_72 : decode cX8_item 72 = .ok (.iconst 5, 1) := by decide +kernel
theorem dX8_item_73 : decode cX8_item 73 = .ok (.if_icmp .ge 42, 3) := by decide +kernel
theorem dX8_item_76 : decode cX8_item 76 = .ok (.aload_n 0, 1) := by decide +kernel
theorem dX8_item_77 : decode cX8_item 77 = .ok (.getfield 52, 3) := by decide +kernel
theorem dX8_item_80 : decode cX8_item 80 = .ok (.iconst 1, 1) := by decide +kernel
theorem dX8_item_81 : decode cX8_item 81 = .ok (.iaload, 1) := by decide +kernel
theorem dX8_item_82 : decode cX8_item 82 = .ok (.iconst 5, 1) := by decide +kernel
theorem dX8_item_83 : decode cX8_item 83 = .ok (.if_icmp .ge 32, 3) := by decide +kernel
theorem dX8_item_86 : decode cX8_item 86 = .ok (.aload_n 0, 1) := by decide +kernel
theorem dX8_item_87 : decode cX8_item 87 = .ok (.getfield 52, 3) := by decide +kernel
theorem dX8_item_90 : decode cX8_item 90 = .ok (.iconst 0, 1) := by decide +kernel
theorem dX8_item_91 : decode cX8_item 91 = .ok (.iaload, 1) := by decide +kernel
theorem dX8_item_92 : decode cX8_item 92 = .ok (.aload_n 0, 1) := by decide +kernel
theorem dX8_item_93 : decode cX8_item 93 = .ok (.getfield 52, 3) := by decide +kernel
theorem dX8_item_96 : decode cX8_item 96 = .ok (.iconst 1, 1) := by decide +kernel
theorem dX8_item_97 : decode cX8_item 97 = .ok (.iaload, 1) := by decide +kernel
theorem dX8_item_98 : decode cX8_item 98 = .ok (.if_icmp .eq 17, 3) := by decide +kernel
theorem dX8_item_101 : decode cX8_item 101 = .ok (.aload_n 0, 1) := by decide +kernel
theorem dX8_item_102 : decode cX8_item 102 = .ok (.getfield 52, 3) := by decide +kernel
theorem dX8_item_105 : decode cX8_item 105 = .ok (.iconst 2, 1) := by decide +kernel
theorem dX8_item_106 : decode cX8_item 106 = .ok (.iaload, 1) := by decide +kernel
theorem dX8_item_107 : decode cX8_item 107 = .ok (.iconst 5, 1) := by decide +kernel
theorem dX8_item_108 : decode cX8_item 108 = .ok (.if_icmp .ge 7, 3) := by decide +kernel
theorem dX8_item_111 : decode cX8_item 111 = .ok (.iconst 1, 1) := by decide +kernel
theorem dX8_item_112 : decode cX8_item 112 = .ok (.goto 4, 3) := by decide +kernel
theorem dX8_item_115 : decode cX8_item 115 = .ok (.iconst 0, 1) := by decide +kernel
theorem dX8_item_116 : decode cX8_item 116 = .ok (.istore_n 2, 1) := by decide +kernel
theorem dX8_item_117 : decode cX8_item 117 = .ok (.iload_n 2, 1) := by decide +kernel
theorem dX8_item_118 : decode cX8_item 118 = .ok (.ifCond .eq 22, 3) := by decide +kernel
theorem dX8_item_121 : decode cX8_item 121 = .ok (.aload_n 0, 1) := by decide +kernel
theorem dX8_item_122 : decode cX8_item 122 = .ok (.getfield 52, 3) := by decide +kernel
theorem dX8_item_125 : decode cX8_item 125 = .ok (.iconst 2, 1) := by decide +kernel
theorem dX8_item_126 : decode cX8_item 126 = .ok (.iaload, 1) := by decide +kernel
theorem dX8_item_127 : decode cX8_item 127 = .ok (.iconst 3, 1) := by decide +kernel
theorem dX8_item_128 : decode cX8_item 128 = .ok (.if_icmp .ne 14, 3) := by decide +kernel
theorem dX8_item_131 : decode cX8_item 131 = .ok (.aload_n 0, 1) := by decide +kernel
theorem dX8_item_132 : decode cX8_item 132 = .ok (.getfield 13, 3) := by decide +kernel
theorem dX8_item_135 : decode cX8_item 135 = .ok (.iconst 1, 1) := by decide +kernel
theorem dX8_item_136 : decode cX8_item 136 = .ok (.iaload, 1) := by decide +kernel
theorem dX8_item_137 : decode cX8_item 137 = .ok (.ifCond .ne 5, 3) := by decide +kernel
theorem dX8_item_140 : decode cX8_item 140 = .ok (.iconst 0, 1) := by decide +kernel
theorem dX8_item_141 : decode cX8_item 141 = .ok (.ireturn, 1) := by decide +kernel
theorem dX8_item_142 : decode cX8_item 142 = .ok (.aload_n 0, 1) := by decide +kernel
theorem dX8_item_143 : decode cX8_item 143 = .ok (.getfield 16, 3) := by decide +kernel
theorem dX8_item_146 : decode cX8_item 146 = .ok (.iconst 5, 1) := by decide +kernel
theorem dX8_item_147 : decode cX8_item 147 = .ok (.aload_n 0, 1) := by decide +kernel
theorem dX8_item_148 : decode cX8_item 148 = .ok (.getfield 13, 3) := by decide +kernel
theorem dX8_item_151 : decode cX8_item 151 = .ok (.iconst 1, 1) := by decide +kernel
theorem dX8_item_152 : decode cX8_item 152 = .ok (.iaload, 1) := by decide +kernel
theorem dX8_item_153 : decode cX8_item 153 = .ok (.iadd, 1) := by decide +kernel
theorem dX8_item_154 : decode cX8_item 154 = .ok (.aload_n 0, 1) := by decide +kernel
theorem dX8_item_155 : decode cX8_item 155 = .ok (.getfield 52, 3) := by decide +kernel
theorem dX8_item_158 : decode cX8_item 158 = .ok (.iconst 0, 1) := by decide +kernel
theorem dX8_item_159 : decode cX8_item 159 = .ok (.iaload, 1) := by decide +kernel
theorem dX8_item_160 : decode cX8_item 160 = .ok (.iastore, 1) := by decide +kernel
theorem dX8_item_161 : decode cX8_item 161 = .ok (.aload_n 0, 1) := by decide +kernel
theorem dX8_item_162 : decode cX8_item 162 = .ok (.getfield 19, 3) := by decide +kernel
theorem dX8_item_165 : decode cX8_item 165 = .ok (.iconst 5, 1) := by decide +kernel
theorem dX8_item_166 : decode cX8_item 166 = .ok (.aload_n 0, 1) := by decide +kernel
theorem dX8_item_167 : decode cX8_item 167 = .ok (.getfield 13, 3) := by decide +kernel
theorem dX8_item_170 : decode cX8_item 170 = .ok (.iconst 1, 1) := by decide +kernel
theorem dX8_item_171 : decode cX8_item 171 = .ok (.iaload, 1) := by decide +kernel
theorem dX8_item_172 : decode cX8_item 172 = .ok (.iadd, 1) := by decide +kernel
theorem dX8_item_173 : decode cX8_item 173 = .ok (.aload_n 0, 1) := by decide +kernel
theorem dX8_item_174 : decode cX8_item 174 = .ok (.getfield 52, 3) := by decide +kernel
theorem dX8_item_177 : decode cX8_item 177 = .ok (.iconst 1, 1) := by decide +kernel
theorem dX8_item_178 : decode cX8_item 178 = .ok (.iaload, 1) := by decide +kernel
theorem dX8_item_179 : decode cX8_item 179 = .ok (.iastore, 1) := by decide +kernel
theorem dX8_item_180 : decode cX8_item 180 = .ok (.aload_n 0, 1) := by decide +kernel
theorem dX8_item_181 : decode cX8_item 181 = .ok (.getfield 22, 3) := by decide +kernel
theorem dX8_item_184 : decode cX8_item 184 = .ok (.iconst 5, 1) := by decide +kernel
theorem dX8_item_185 : decode cX8_item 185 = .ok (.aload_n 0, 1) := by decide +kernel
theorem dX8_item_186 : decode cX8_item 186 = .ok (.getfield 13, 3) := by decide +kernel
theorem dX8_item_189 : decode cX8_item 189 = .ok (.iconst 1, 1) := by decide +kernel
theorem dX8_item_190 : decode cX8_item 190 = .ok (.iaload, 1) := by decide +kernel
theorem dX8_item_191 : decode cX8_item 191 = .ok (.iadd, 1) := by decide +kernel
theorem dX8_item_192 : decode cX8_item 192 = .ok (.aload_n 0, 1) := by decide +kernel
theorem dX8_item_193 : decode cX8_item 193 = .ok (.getfield 52, 3) := by decide +kernel
theorem dX8_item_196 : decode cX8_item 196 = .ok (.iconst 2, 1) := by decide +kernel
theorem dX8_item_197 : decode cX8_item 197 = .ok (.iaload, 1) := by decide +kernel
theorem dX8_item_198 : decode cX8_item 198 = .ok (.iastore, 1) := by decide +kernel
theorem dX8_item_199 : decode cX8_item 199 = .ok (.aload_n 0, 1) := by decide +kernel
theorem dX8_item_200 : decode cX8_item 200 = .ok (.getfield 25, 3) := by decide +kernel
theorem dX8_item_203 : decode cX8_item 203 = .ok (.iconst 5, 1) := by decide +kernel
theorem dX8_item_204 : decode cX8_item 204 = .ok (.aload_n 0, 1) := by decide +kernel
theorem dX8_item_205 : decode cX8_item 205 = .ok (.getfield 13, 3) := by decide +kernel
theorem dX8_item_208 : decode cX8_item 208 = .ok (.iconst 1, 1) := by decide +kernel
theorem dX8_item_209 : decode cX8_item 209 = .ok (.iaload, 1) := by decide +kernel
theorem dX8_item_210 : decode cX8_item 210 = .ok (.iadd, 1) := by decide +kernel
theorem dX8_item_211 : decode cX8_item 211 = .ok (.aload_n 0, 1) := by decide +kernel
theorem dX8_item_212 : decode cX8_item 212 = .ok (.getfield 52, 3) := by decide +kernel
theorem dX8_item_215 : decode cX8_item 215 = .ok (.iconst 3, 1) := by decide +kernel
theorem dX8_item_216 : decode cX8_item 216 = .ok (.iaload, 1) := by decide +kernel
theorem dX8_item_217 : decode cX8_item 217 = .ok (.iastore, 1) := by decide +kernel
theorem dX8_item_218 : decode cX8_item 218 = .ok (.aload_n 0, 1) := by decide +kernel
theorem dX8_item_219 : decode cX8_item 219 = .ok (.getfield 13, 3) := by decide +kernel
theorem dX8_item_222 : decode cX8_item 222 = .ok (.iconst 1, 1) := by decide +kernel
theorem dX8_item_223 : decode cX8_item 223 = .ok (.dup2, 1) := by decide +kernel
theorem dX8_item_224 : decode cX8_item 224 = .ok (.iaload, 1) := by decide +kernel
theorem dX8_item_225 : decode cX8_item 225 = .ok (.iconst 1, 1) := by decide +kernel
theorem dX8_item_226 : decode cX8_item 226 = .ok (.iadd, 1) := by decide +kernel
theorem dX8_item_227 : decode cX8_item 227 = .ok (.iastore, 1) := by decide +kernel
theorem dX8_item_228 : decode cX8_item 228 = .ok (.iconst 1, 1) := by decide +kernel
theorem dX8_item_229 : decode cX8_item 229 = .ok (.ireturn, 1) := by decide +kernel
theorem dX8_item_230 : decode cX8_item 230 = .ok (.aload_n 0, 1) := by decide +kernel
theorem dX8_item_231 : decode cX8_item 231 = .ok (.iconst 1, 1) := by decide +kernel
theorem dX8_item_232 : decode cX8_item 232 = .ok (.invokevirtual 105, 3) := by decide +kernel
theorem dX8_item_235 : decode cX8_item 235 = .ok (.ifCond .eq 20, 3) := by decide +kernel
theorem dX8_item_238 : decode cX8_item 238 = .ok (.aload_n 0, 1) := by decide +kernel
theorem dX8_item_239 : decode cX8_item 239 = .ok (.getfield 52, 3) := by decide +kernel
theorem dX8_item_242 : decode cX8_item 242 = .ok (.iconst 0, 1) := by decide +kernel
theorem dX8_item_243 : decode cX8_item 243 = .ok (.iaload, 1) := by decide +kernel
theorem dX8_item_244 : decode cX8_item 244 = .ok (.i2l, 1) := by decide +kernel
theorem dX8_item_245 : decode cX8_item 245 = .ok (.lconst 1, 1) := by decide +kernel
theorem dX8_item_246 : decode cX8_item 246 = .ok (.ldc2_w 109, 3) := by decide +kernel
theorem dX8_item_249 : decode cX8_item 249 = .ok (.invokestatic 82, 3) := by decide +kernel
theorem dX8_item_252 : decode cX8_item 252 = .ok (.ifCond .ne 5, 3) := by decide +kernel
theorem dX8_item_255 : decode cX8_item 255 = .ok (.iconst 0, 1) := by decide +kernel
theorem dX8_item_256 : decode cX8_item 256 = .ok (.ireturn, 1) := by decide +kernel
theorem dX8_item_257 : decode cX8_item 257 = .ok (.aload_n 0, 1) := by decide +kernel
theorem dX8_item_258 : decode cX8_item 258 = .ok (.getfield 28, 3) := by decide +kernel
theorem dX8_item_261 : decode cX8_item 261 = .ok (.iconst 1, 1) := by decide +kernel
theorem dX8_item_262 : decode cX8_item 262 = .ok (.aload_n 0, 1) := by decide +kernel
theorem dX8_item_263 : decode cX8_item 263 = .ok (.getfield 52, 3) := by decide +kernel
theorem dX8_item_266 : decode cX8_item 266 = .ok (.iconst 0, 1) := by decide +kernel
theorem dX8_item_267 : decode cX8_item 267 = .ok (.iaload, 1) := by decide +kernel
theorem dX8_item_268 : decode cX8_item 268 = .ok (.iastore, 1) := by decide +kernel
theorem dX8_item_269 : decode cX8_item 269 = .ok (.iconst 1, 1) := by decide +kernel
theorem dX8_item_270 : decode cX8_item 270 = .ok (.ireturn, 1) := by decide +kernel
theorem dX8_item_271 : decode cX8_item 271 = .ok (.iconst 0, 1) := by decide +kernel
theorem dX8_item_272 : decode cX8_item 272 = .ok (.ireturn, 1) := by decide +kernel
set_option maxRecDepth 20000 in
theorem ggX8_readAll_X8_item : GoodIn wsX8_readAll wsX8_item := goodIn_r _ [9, 3, 1, 10, 11, 12, 13, 14, 15, 2, 16, 17, 18, 8, 19, 4, 20, 21, 22, 23, 24, 25, 26, 27, 28, 29, 30, 31, 32, 33, 34, 35, 36, 37, 38, 39, 40, 41, 42, 43, 44, 45, 46, 47, 48, 49, 50, 51, 52, 53, 54, 55, 56, 57, 58, 59, 60] (by decide +kernel) (by decide +kernel)
set_option maxRecDepth 20000 in
theorem gX8_readAll_X8_item : GoodIn wsX8_readAll (wsV RX8 111 RX8 yX8_item wsX8_item) := goodIn_app (goodIn_of _ (by decide +kernel)) ggX8_readAll_X8_item
theorem dX8_readAll_0 : decode cX8_readAll 0 = .ok (.aload_n 0, 1) := by decide +kernel
theorem dX8_readAll_1 : decode cX8_readAll 1 = .ok (.getfield 13, 3) := by decide +kernel
theorem dX8_readAll_4 : decode cX8_readAll 4 = .ok (.iconst 1, 1) := by decide +kernel
theorem dX8_readAll_5 : decode cX8_readAll 5 = .ok (.iconst 0, 1) := by decide +kernel
theorem dX8_readAll_6 : decode cX8_readAll 6 = .ok (.iastore, 1) := by decide +kernel
theorem dX8_readAll_7 : decode cX8_readAll 7 = .ok (.aload_n 0, 1) := by decide +kernel
theorem dX8_readAll_8 : decode cX8_readAll 8 = .ok (.getfield 28, 3) := by decide +kernel
theorem dX8_readAll_11 : decode cX8_readAll 11 = .ok (.iconst 1, 1) := by decide +kernel
theorem dX8_readAll_12 : decode cX8_readAll 12 = .ok (.iconst 2, 1) := by decide +kernel
theorem dX8_readAll_13 : decode cX8_readAll 13 = .ok (.iastore, 1) := by decide +kernel
theorem dX8_readAll_14 : decode cX8_readAll 14 = .ok (.aload_n 0, 1) := by decide +kernel
theorem dX8_readAll_15 : decode cX8_readAll 15 = .ok (.iconst 0, 1) := by decide +kernel
theorem dX8_readAll_16 : decode cX8_readAll 16 = .ok (.putfield 92, 3) := by decide +kernel
theorem dX8_readAll_19 : decode cX8_readAll 19 = .ok (.aload_n 0, 1) := by decide +kernel
theorem dX8_readAll_20 : decode cX8_readAll 20 = .ok (.getfield 92, 3) := by decide +kernel
theorem dX8_readAll_23 : decode cX8_readAll 23 = .ok (.aload_n 0, 1) := by decide +kernel
theorem dX8_readAll_24 : decode cX8_readAll 24 = .ok (.getfield 86, 3) := by decide +kernel
theorem dX8_readAll_27 : decode cX8_readAll 27 = .ok (.if_icmp .ge 20, 3) := by decide +kernel
theorem dX8_readAll_30 : decode cX8_readAll 30 = .ok (.aload_n 0, 1) := by decide +kernel
theorem dX8_readAll_31 : decode cX8_readAll 31 = .ok (.getfield 92, 3) := by decide +kernel
theorem dX8_readAll_34 : decode cX8_readAll 34 = .ok (.istore_n 1, 1) := by decide +kernel
theorem dX8_readAll_35 : decode cX8_readAll 35 = .ok (.aload_n 0, 1) := by decide +kernel
theorem dX8_readAll_36 : decode cX8_readAll 36 = .ok (.invokevirtual 111, 3) := by decide +kernel
theorem dX8_readAll_39 : decode cX8_readAll 39 = .ok (.ifCond .ne 5, 3) := by decide +kernel
theorem dX8_readAll_42 : decode cX8_readAll 42 = .ok (.iload_n 1, 1) := by decide +kernel
theorem dX8_readAll_43 : decode cX8_readAll 43 = .ok (.ireturn, 1) := by decide +kernel
theorem dX8_readAll_44 : decode cX8_readAll 44 = .ok (.goto (-25), 3) := by decide +kernel
theorem dX8_readAll_47 : decode cX8_readAll 47 = .ok (.bipush (-4), 2) := by decide +kernel
theorem dX8_readAll_49 : decode cX8_readAll 49 = .ok (.ireturn, 1) := by decide +kernel
set_option maxRecDepth 20000 in
theorem ggX8_fault_X8_readAll : GoodIn wsX8_fault wsX8_readAll := goodIn_r _ [5, 6, 7, 8, 9, 10, 11, 12, 4, 13, 14, 15, 16, 17, 18, 19, 20, 21, 22, 23, 24, 25, 26, 27, 28, 29, 30, 31, 32, 33, 34, 35, 36, 37, 38, 39, 40, 41, 42, 43, 44, 45, 46, 47, 48, 49, 50, 51, 52, 53, 54, 55, 56, 57, 58, 59, 60, 61, 62, 63, 64] (by decide +kernel) (by decide +kernel)
set_option maxRecDepth 20000 in
theorem gX8_fault_X8_readAll : GoodIn wsX8_fault (wsV RX8 115 RX8 yX8_readAll wsX8_readAll) := goodIn_app (goodIn_of _ (by decide +kernel)) ggX8_fault_X8_readAll
theorem dX8_fault_0 : decode cX8_fault 0 = .ok (.aload_n 0, 1) := by decide +kernel
theorem dX8_fault_1 : decode cX8_fault 1 = .ok (.invokevirtual 115, 3) := by decide +kernel
theorem dX8_fault_4 : decode cX8_fault 4 = .ok (.ireturn, 1) := by decide +kernel
theorem dX8_begin_0 : decode cX8_begin 0 = .ok (.iconst 0, 1) := by decide +kernel
theorem dX8_begin_1 : decode cX8_begin 1 = .ok (.istore_n 1, 1) := by decide +kernel
theorem dX8_begin_2 : decode cX8_begin 2 = .ok (.iload_n 1, 1) := by decide +kernel
theorem dX8_begin_3 : decode cX8_begin 3 = .ok (.iconst 5, 1) := by decide +kernel
theorem dX8_begin_4 : decode cX8_begin 4 = .ok (.if_icmp .ge 21, 3) := by decide +kernel
theorem dX8_begin_7 : decode cX8_begin 7 = .ok (.aload_n 0, 1) := by decide +kernel
theorem dX8_begin_8 : decode cX8_begin 8 = .ok (.getfield 31, 3) := by decide +kernel
theorem dX8_begin_11 : decode cX8_begin 11 = .ok (.iload_n 1, 1) := by decide +kernel
theorem dX8_begin_12 : decode cX8_begin 12 = .ok (.aload_n 0, 1) := by decide +kernel
theorem dX8_begin_13 : decode cX8_begin 13 = .ok (.getfield 25, 3) := by decide +kernel
theorem dX8_begin_16 : decode cX8_begin 16 = .ok (.iload_n 1, 1) := by decide +kernel
theorem dX8_begin_17 : decode cX8_begin 17 = .ok (.iaload, 1) := by decide +kernel
theorem dX8_begin_18 : decode cX8_begin 18 = .ok (.iastore, 1) := by decide +kernel
theorem dX8_begin_19 : decode cX8_begin 19 = .ok (.iinc 1 1, 3) := by decide +kernel
theorem dX8_begin_22 : decode cX8_begin 22 = .ok (.goto (-20), 3) := by decide +kernel
theorem dX8_begin_25 : decode cX8_begin 25 = .ok (.iconst 0, 1) := by decide +kernel
theorem dX8_begin_26 : decode cX8_begin 26 = .ok (.istore_n 1, 1) := by decide +kernel
theorem dX8_begin_27 : decode cX8_begin 27 = .ok (.iload_n 1, 1) := by decide +kernel
theorem dX8_begin_28 : decode cX8_begin 28 = .ok (.iconst 3, 1) := by decide +kernel
theorem dX8_begin_29 : decode cX8_begin 29 = .ok (.if_icmp .ge 16, 3) := by decide +kernel
theorem dX8_begin_32 : decode cX8_begin 32 = .ok (.aload_n 0, 1) := by decide +kernel
theorem dX8_begin_33 : decode cX8_begin 33 = .ok (.getfield 34, 3) := by decide +kernel
theorem dX8_begin_36 : decode cX8_begin 36 = .ok (.iload_n 1, 1) := by decide +kernel
theorem dX8_begin_37 : decode cX8_begin 37 = .ok (.iconst 0, 1) := by decide +kernel
theorem dX8_begin_38 : decode cX8_begin 38 = .ok (.iastore, 1) := by decide +kernel
theorem dX8_begin_39 : decode cX8_begin 39 = .ok (.iinc 1 1, 3) := by decide +kernel
theorem dX8_begin_42 : decode cX8_begin 42 = .ok (.goto (-15), 3) := by decide +kernel
theorem dX8_begin_45 : decode cX8_begin 45 = .ok (.aload_n 0, 1) := by decide +kernel
theorem dX8_begin_46 : decode cX8_begin 46 = .ok (.getfield 37, 3) := by decide +kernel
theorem dX8_begin_49 : decode cX8_begin 49 = .ok (.iconst 0, 1) := by decide +kernel
theorem dX8_begin_50 : decode cX8_begin 50 = .ok (.iconst 0, 1) := by decide +kernel
theorem dX8_begin_51 : decode cX8_begin 51 = .ok (.iastore, 1) := by decide +kernel
theorem dX8_begin_52 : decode cX8_begin 52 = .ok (.aload_n 0, 1) := by decide +kernel
theorem dX8_begin_53 : decode cX8_begin 53 = .ok (.iconst 0, 1) := by decide +kernel
theorem dX8_begin_54 : decode cX8_begin 54 = .ok (.putfield 119, 3) := by decide +kernel
theorem dX8_begin_57 : decode cX8_begin 57 = .ok (.aload_n 0, 1) := by decide +kernel
theorem dX8_begin_58 : decode cX8_begin 58 = .ok (.iconst 0, 1) := by decide +kernel
theorem dX8_begin_59 : decode cX8_begin 59 = .ok (.putfield 122, 3) := by decide +kernel
theorem dX8_begin_62 : decode cX8_begin 62 = .ok (.aload_n 0, 1) := by decide +kernel
theorem dX8_begin_63 : decode cX8_begin 63 = .ok (.iconst 0, 1) := by decide +kernel
theorem dX8_begin_64 : decode cX8_begin 64 = .ok (.putfield 125, 3) := by decide +kernel
theorem dX8_begin_67 : decode cX8_begin 67 = .ok (.aload_n 0, 1) := by decide +kernel
theorem dX8_begin_68 : decode cX8_begin 68 = .ok (.iconst 0, 1) := by decide +kernel
theorem dX8_begin_69 : decode cX8_begin 69 = .ok (.putfield 128, 3) := by decide +kernel
theorem dX8_begin_72 : decode cX8_begin 72 = .ok (.return_, 1) := by decide +kernel
set_option maxRecDepth 20000 in
theorem ggX8_lay_X8_readAll : GoodIn wsX8_lay wsX8_readAll := goodIn_r _ [11, 1, 2, 12, 13, 14, 15, 16, 10, 17, 18, 3, 4, 5, 6, 19, 20, 21, 22, 23, 24, 25, 26, 27, 28, 29, 30, 31, 32, 33, 34, 46, 47, 48, 49, 50, 51, 52, 53, 54, 55, 56, 57, 58, 59, 60, 61, 62, 63, 64, 65, 66, 67, 68, 69, 70, 71, 72, 73, 74, 75] (by decide +kernel) (by decide +kernel)
set_option maxRecDepth 20000 in
theorem gX8_lay_X8_readAll : GoodIn wsX8_lay (wsV RX8 115 RX8 yX8_readAll wsX8_readAll) := goodIn_app (goodIn_of _ (by decide +kernel)) ggX8_lay_X8_readAll
set_option maxRecDepth 20000 in
theorem ggX8_lay_X8_begin : GoodIn wsX8_lay wsX8_begin := goodIn_r _ [38, 39, 6, 40, 41, 42, 43, 44, 45, 46, 47, 48, 49, 50, 51, 52, 53, 54, 55, 56, 57, 58, 59, 60, 61, 62, 63, 64, 65, 66, 67, 68, 69, 70, 71, 72, 73, 74, 75] (by decide +kernel) (by decide +kernel)
set_option maxRecDepth 20000 in
theorem gX8_lay_X8_begin : GoodIn wsX8_lay (wsV RX8 77 RX8 yX8_begin wsX8_begin) := goodIn_app (goodIn_of _ (by decide +kernel)) ggX8_lay_X8_begin
theorem dX8_lay_0 : decode cX8_lay 0 = .ok (.aload_n 0, 1) := by decide +kernel
theorem dX8_lay_1 : decode cX8_lay 1 = .ok (.invokevirtual 115, 3) := by decide +kernel
theorem dX8_lay_4 : decode cX8_lay 4 = .ok (.bipush (-4), 2) := by decide +kernel
theorem dX8_lay_6 : decode cX8_lay 6 = .ok (.if_icmp .ne 12, 3) := by decide +kernel
theorem dX8_lay_9 : decode cX8_lay 9 = .ok (.aload_n 0, 1) := by decide +kernel
theorem dX8_lay_10 : decode cX8_lay 10 = .ok (.getfield 13, 3) := by decide +kernel
theorem dX8_lay_13 : decode cX8_lay 13 = .ok (.iconst 1, 1) := by decide +kernel
theorem dX8_lay_14 : decode cX8_lay 14 = .ok (.iaload, 1) := by decide +kernel
theorem dX8_lay_15 : decode cX8_lay 15 = .ok (.ifCond .ne 6, 3) := by decide +kernel
theorem dX8_lay_18 : decode cX8_lay 18 = .ok (.bipush (-2), 2) := by decide +kernel
theorem dX8_lay_20 : decode cX8_lay 20 = .ok (.ireturn, 1) := by decide +kernel
theorem dX8_lay_21 : decode cX8_lay 21 = .ok (.aload_n 0, 1) := by decide +kernel
theorem dX8_lay_22 : decode cX8_lay 22 = .ok (.getfield 13, 3) := by decide +kernel
theorem dX8_lay_25 : decode cX8_lay 25 = .ok (.iconst 0, 1) := by decide +kernel
theorem dX8_lay_26 : decode cX8_lay 26 = .ok (.aload_n 0, 1) := by decide +kernel
theorem dX8_lay_27 : decode cX8_lay 27 = .ok (.getfield 13, 3) := by decide +kernel
theorem dX8_lay_30 : decode cX8_lay 30 = .ok (.iconst 1, 1) := by decide +kernel
theorem dX8_lay_31 : decode cX8_lay 31 = .ok (.iaload, 1) := by decide +kernel
theorem dX8_lay_32 : decode cX8_lay 32 = .ok (.iastore, 1) := by decide +kernel
theorem dX8_lay_33 : decode cX8_lay 33 = .ok (.aload_n 0, 1) := by decide +kernel
theorem dX8_lay_34 : decode cX8_lay 34 = .ok (.getfield 28, 3) := by decide +kernel
theorem dX8_lay_37 : decode cX8_lay 37 = .ok (.iconst 0, 1) := by decide +kernel
theorem dX8_lay_38 : decode cX8_lay 38 = .ok (.aload_n 0, 1) := by decide +kernel
theorem dX8_lay_39 : decode cX8_lay 39 = .ok (.getfield 28, 3) := by decide +kernel
theorem dX8_lay_42 : decode cX8_lay 42 = .ok (.iconst 1, 1) := by decide +kernel
theorem dX8_lay_43 : decode cX8_lay 43 = .ok (.iaload, 1) := by decide +kernel
theorem dX8_lay_44 : decode cX8_lay 44 = .ok (.iastore, 1) := by decide +kernel
theorem dX8_lay_45 : decode cX8_lay 45 = .ok (.iconst 0, 1) := by decide +kernel
theorem dX8_lay_46 : decode cX8_lay 46 = .ok (.istore_n 1, 1) := by decide +kernel
theorem dX8_lay_47 : decode cX8_lay 47 = .ok (.iload_n 1, 1) := by decide +kernel
theorem dX8_lay_48 : decode cX8_lay 48 = .ok (.iconst 5, 1) := by decide +kernel
theorem dX8_lay_49 : decode cX8_lay 49 = .ok (.if_icmp .ge 65, 3) := by decide +kernel
theorem dX8_lay_52 : decode cX8_lay 52 = .ok (.aload_n 0, 1) := by decide +kernel
theorem dX8_lay_53 : decode cX8_lay 53 = .ok (.getfield 16, 3) := by decide +kernel
theorem dX8_lay_56 : decode cX8_lay 56 = .ok (.iload_n 1, 1) := by decide +kernel
theorem dX8_lay_57 : decode cX8_lay 57 = .ok (.aload_n 0, 1) := by decide +kernel
theorem dX8_lay_58 : decode cX8_lay 58 = .ok (.getfield 16, 3) := by decide +kernel
theorem dX8_lay_61 : decode cX8_lay 61 = .ok (.iconst 5, 1) := by decide +kernel
theorem dX8_lay_62 : decode cX8_lay 62 = .ok (.iload_n 1, 1) := by decide +kernel
theorem dX8_lay_63 : decode cX8_lay 63 = .ok (.iadd, 1) := by decide +kernel
theorem dX8_lay_64 : decode cX8_lay 64 = .ok (.iaload, 1) := by decide +kernel
theorem dX8_lay_65 : decode cX8_lay 65 = .ok (.iastore, 1) := by decide +kernel
theorem dX8_lay_66 : decode cX8_lay 66 = .ok (.aload_n 0, 1) := by decide +kernel
theorem dX8_lay_67 : decode cX8_lay 67 = .ok (.getfield 19, 3) := by decide +kernel
theorem dX8_lay_70 : decode cX8_lay 70 = .ok (.iload_n 1, 1) := by decide +kernel
theorem dX8_lay_71 : decode cX8_lay 71 = .ok (.aload_n 0, 1) := by decide +kernel
theorem dX8_lay_72 : decode cX8_lay 72 = .ok (.getfield 19, 3) := by decide +kernel
theorem dX8_lay_75 : decode cX8_lay 75 = .ok (.iconst 5, 1) := by decide +kernel
theorem dX8_lay_76 : decode cX8_lay 76 = .ok (.iload_n 1, 1) := by decide +kernel
theorem dX8_lay_77 : decode cX8_lay 77 = .ok (.iadd, 1) := by decide +kernel
theorem dX8_lay_78 : decode cX8_lay 78 = .ok (.iaload, 1) := by decide +kernel
theorem dX8_lay_79 : decode cX8_lay 79 = .ok (.iastore, 1) := by decide +kernel
theorem dX8_lay_80 : decode cX8_lay 80 = .ok (.aload_n 0, 1) := by decide +kernel
theorem dX8_lay_81 : decode cX8_lay 81 = .ok (.getfield 22, 3) := by decide +kernel
theorem dX8_lay_84 : decode cX8_lay 84 = .ok (.iload_n 1, 1) := by decide +kernel
theorem dX8_lay_85 : decode cX8_lay 85 = .ok (.aload_n 0, 1) := by decide +kernel
theorem dX8_lay_86 : decode cX8_lay 86 = .ok (.getfield 22, 3) := by decide +kernel
theorem dX8_lay_89 : decode cX8_lay 89 = .ok (.iconst 5, 1) := by decide +kernel
theorem dX8_lay_90 : decode cX8_lay 90 = .ok (.iload_n 1, 1) := by decide +kernel
theorem dX8_lay_91 : decode cX8_lay 91 = .ok (.iadd, 1) := by decide +kernel
theorem dX8_lay_92 : decode cX8_lay 92 = .ok (.iaload, 1) := by decide +kernel
theorem dX8_lay_93 : decode cX8_lay 93 = .ok (.iastore, 1) := by decide +kernel
theorem dX8_lay_94 : decode cX8_lay 94 = .ok (.aload_n 0, 1) := by decide +kernel
theorem dX8_lay_95 : decode cX8_lay 95 = .ok (.getfield 25, 3) := by decide +kernel
theorem dX8_lay_98 : decode cX8_lay 98 = .ok (.iload_n 1, 1) := by decide +kernel
theorem dX8_lay_99 : decode cX8_lay 99 = .ok (.aload_n 0, 1) := by decide +kernel
theorem dX8_lay_100 : decode cX8_lay 100 = .ok (.getfield 25, 3) := by decide +kernel
theorem dX8_lay_103 : decode cX8_lay 103 = .ok (.iconst 5, 1) := by decide +kernel
theorem dX8_lay_104 : decode cX8_lay 104 = .ok (.iload_n 1, 1) := by decide +kernel
theorem dX8_lay_105 : decode cX8_lay 105 = .ok (.iadd, 1) := by decide +kernel
theorem dX8_lay_106 : decode cX8_lay 106 = .ok (.iaload, 1) := by decide +kernel
theorem dX8_lay_107 : decode cX8_lay 107 = .ok (.iastore, 1) := by decide +kernel
theorem dX8_lay_108 : decode cX8_lay 108 = .ok (.iinc 1 1, 3) := by decide +kernel
theorem dX8_lay_111 : decode cX8_lay 111 = .ok (.goto (-64), 3) := by decide +kernel
theorem dX8_lay_114 : decode cX8_lay 114 = .ok (.aload_n 0, 1) := by decide +kernel
theorem dX8_lay_115 : decode cX8_lay 115 = .ok (.invokevirtual 77, 3) := by decide +kernel
theorem dX8_lay_118 : decode cX8_lay 118 = .ok (.aload_n 0, 1) := by decide +kernel
theorem dX8_lay_119 : decode cX8_lay 119 = .ok (.getfield 13, 3) := by decide +kernel
theorem dX8_lay_122 : decode cX8_lay 122 = .ok (.iconst 0, 1) := by decide +kernel
theorem dX8_lay_123 : decode cX8_lay 123 = .ok (.iaload, 1) := by decide +kernel
theorem dX8_lay_124 : decode cX8_lay 124 = .ok (.ireturn, 1) := by decide +kernel
set_option maxRecDepth 20000 in
theorem ggX8_isGate_X8_in : GoodIn wsX8_isGate wsX8_in := goodIn_r _ [5] (by decide +kernel) (by decide +kernel)
set_option maxRecDepth 20000 in
theorem gX8_isGate_X8_in : GoodIn wsX8_isGate (va_wsS RX8 82 yX8_in wsX8_in) := goodIn_app (goodIn_of _ (by decide +kernel)) ggX8_isGate_X8_in
theorem dX8_isGate_0 : decode cX8_isGate 0 = .ok (.iload_n 1, 1) := by decide +kernel
theorem dX8_isGate_1 : decode cX8_isGate 1 = .ok (.i2l, 1) := by decide +kernel
theorem dX8_isGate_2 : decode cX8_isGate 2 = .ok (.lconst 0, 1) := by decide +kernel
theorem dX8_isGate_3 : decode cX8_isGate 3 = .ok (.aload_n 0, 1) := by decide +kernel
theorem dX8_isGate_4 : decode cX8_isGate 4 = .ok (.getfield 13, 3) := by decide +kernel
theorem dX8_isGate_7 : decode cX8_isGate 7 = .ok (.iconst 0, 1) := by decide +kernel
theorem dX8_isGate_8 : decode cX8_isGate 8 = .ok (.iaload, 1) := by decide +kernel
theorem dX8_isGate_9 : decode cX8_isGate 9 = .ok (.iconst 1, 1) := by decide +kernel
theorem dX8_isGate_10 : decode cX8_isGate 10 = .ok (.isub, 1) := by decide +kernel
theorem dX8_isGate_11 : decode cX8_isGate 11 = .ok (.i2l, 1) := by decide +kernel
theorem dX8_isGate_12 : decode cX8_isGate 12 = .ok (.invokestatic 82, 3) := by decide +kernel
theorem dX8_isGate_15 : decode cX8_isGate 15 = .ok (.ireturn, 1) := by decide +kernel
set_option maxRecDepth 20000 in
theorem ggX8_isPerson_X8_in : GoodIn wsX8_isPerson wsX8_in := goodIn_r _ [5] (by decide +kernel) (by decide +kernel)
set_option maxRecDepth 20000 in
theorem gX8_isPerson_X8_in : GoodIn wsX8_isPerson (va_wsS RX8 82 yX8_in wsX8_in) := goodIn_app (goodIn_of _ (by decide +kernel)) ggX8_isPerson_X8_in
theorem dX8_isPerson_0 : decode cX8_isPerson 0 = .ok (.iload_n 1, 1) := by decide +kernel
theorem dX8_isPerson_1 : decode cX8_isPerson 1 = .ok (.i2l, 1) := by decide +kernel
theorem dX8_isPerson_2 : decode cX8_isPerson 2 = .ok (.lconst 0, 1) := by decide +kernel
theorem dX8_isPerson_3 : decode cX8_isPerson 3 = .ok (.aload_n 0, 1) := by decide +kernel
theorem dX8_isPerson_4 : decode cX8_isPerson 4 = .ok (.getfield 28, 3) := by decide +kernel
theorem dX8_isPerson_7 : decode cX8_isPerson 7 = .ok (.iconst 0, 1) := by decide +kernel
theorem dX8_isPerson_8 : decode cX8_isPerson 8 = .ok (.iaload, 1) := by decide +kernel
theorem dX8_isPerson_9 : decode cX8_isPerson 9 = .ok (.iconst 1, 1) := by decide +kernel
theorem dX8_isPerson_10 : decode cX8_isPerson 10 = .ok (.isub, 1) := by decide +kernel
theorem dX8_isPerson_11 : decode cX8_isPerson 11 = .ok (.i2l, 1) := by decide +kernel
theorem dX8_isPerson_12 : decode cX8_isPerson 12 = .ok (.invokestatic 82, 3) := by decide +kernel
theorem dX8_isPerson_15 : decode cX8_isPerson 15 = .ok (.ireturn, 1) := by decide +kernel
theorem dX8_layCounts_0 : decode cX8_layCounts 0 = .ok (.iconst 0, 1) := by decide +kernel
theorem dX8_layCounts_1 : decode cX8_layCounts 1 = .ok (.istore_n 1, 1) := by decide +kernel
theorem dX8_layCounts_2 : decode cX8_layCounts 2 = .ok (.iload_n 1, 1) := by decide +kernel
theorem dX8_layCounts_3 : decode cX8_layCounts 3 = .ok (.iconst 5, 1) := by decide +kernel
theorem dX8_layCounts_4 : decode cX8_layCounts 4 = .ok (.if_icmp .ge 21, 3) := by decide +kernel
theorem dX8_layCounts_7 : decode cX8_layCounts 7 = .ok (.aload_n 0, 1) := by decide +kernel
theorem dX8_layCounts_8 : decode cX8_layCounts 8 = .ok (.getfield 55, 3) := by decide +kernel
theorem dX8_layCounts_11 : decode cX8_layCounts 11 = .ok (.iload_n 1, 1) := by decide +kernel
theorem dX8_layCounts_12 : decode cX8_layCounts 12 = .ok (.aload_n 0, 1) := by decide +kernel
theorem dX8_layCounts_13 : decode cX8_layCounts 13 = .ok (.getfield 31, 3) := by decide +kernel
theorem dX8_layCounts_16 : decode cX8_layCounts 16 = .ok (.iload_n 1, 1) := by decide +kernel
theorem dX8_layCounts_17 : decode cX8_layCounts 17 = .ok (.iaload, 1) := by decide +kernel
theorem dX8_layCounts_18 : decode cX8_layCounts 18 = .ok (.iastore, 1) := by decide +kernel
theorem dX8_layCounts_19 : decode cX8_layCounts 19 = .ok (.iinc 1 1, 3) := by decide +kernel
theorem dX8_layCounts_22 : decode cX8_layCounts 22 = .ok (.goto (-20), 3) := by decide +kernel
theorem dX8_layCounts_25 : decode cX8_layCounts 25 = .ok (.return_, 1) := by decide +kernel
set_option maxRecDepth 20000 in
theorem ggX8_layNow_X8_layCounts : GoodIn wsX8_layNow wsX8_layCounts := goodIn_r _ [7, 8, 9, 10, 11, 12, 13, 14, 15, 16, 17, 18, 19, 20, 21, 22, 23, 24, 25, 26, 27, 28, 29, 30, 31, 32, 33, 34, 35, 36, 37, 38, 39] (by decide +kernel) (by decide +kernel)
set_option maxRecDepth 20000 in
theorem gX8_layNow_X8_layCounts : GoodIn wsX8_layNow (wsV RX8 131 RX8 yX8_layCounts wsX8_layCounts) := goodIn_app (goodIn_of _ (by decide +kernel)) ggX8_layNow_X8_layCounts
theorem dX8_layNow_0 : decode cX8_layNow 0 = .ok (.aload_n 0, 1) := by decide +kernel
theorem dX8_layNow_1 : decode cX8_layNow 1 = .ok (.invokevirtual 131, 3) := by decide +kernel
theorem dX8_layNow_4 : decode cX8_layNow 4 = .ok (.iconst 0, 1) := by decide +kernel
theorem dX8_layNow_5 : decode cX8_layNow 5 = .ok (.istore_n 1, 1) := by decide +kernel
theorem dX8_layNow_6 : decode cX8_layNow 6 = .ok (.iload_n 1, 1) := by decide +kernel
theorem dX8_layNow_7 : decode cX8_layNow 7 = .ok (.iconst 3, 1) := by decide +kernel
theorem dX8_layNow_8 : decode cX8_layNow 8 = .ok (.if_icmp .ge 21, 3) := by decide +kernel
theorem dX8_layNow_11 : decode cX8_layNow 11 = .ok (.aload_n 0, 1) := by decide +kernel
theorem dX8_layNow_12 : decode cX8_layNow 12 = .ok (.getfield 58, 3) := by decide +kernel
theorem dX8_layNow_15 : decode cX8_layNow 15 = .ok (.iload_n 1, 1) := by decide +kernel
theorem dX8_layNow_16 : decode cX8_layNow 16 = .ok (.aload_n 0, 1) := by decide +kernel
theorem dX8_layNow_17 : decode cX8_layNow 17 = .ok (.getfield 34, 3) := by decide +kernel
theorem dX8_layNow_20 : decode cX8_layNow 20 = .ok (.iload_n 1, 1) := by decide +kernel
theorem dX8_layNow_21 : decode cX8_layNow 21 = .ok (.iaload, 1) := by decide +kernel
theorem dX8_layNow_22 : decode cX8_layNow 22 = .ok (.iastore, 1) := by decide +kernel
theorem dX8_layNow_23 : decode cX8_layNow 23 = .ok (.iinc 1 1, 3) := by decide +kernel
theorem dX8_layNow_26 : decode cX8_layNow 26 = .ok (.goto (-20), 3) := by decide +kernel
theorem dX8_layNow_29 : decode cX8_layNow 29 = .ok (.return_, 1) := by decide +kernel
theorem dX8_isOpen_0 : decode cX8_isOpen 0 = .ok (.iload_n 1, 1) := by decide +kernel
theorem dX8_isOpen_1 : decode cX8_isOpen 1 = .ok (.istore_n 3, 1) := by decide +kernel
theorem dX8_isOpen_2 : decode cX8_isOpen 2 = .ok (.aload_n 0, 1) := by decide +kernel
theorem dX8_isOpen_3 : decode cX8_isOpen 3 = .ok (.getfield 22, 3) := by decide +kernel
theorem dX8_isOpen_6 : decode cX8_isOpen 6 = .ok (.iload_n 3, 1) := by decide +kernel
theorem dX8_isOpen_7 : decode cX8_isOpen 7 = .ok (.iaload, 1) := by decide +kernel
theorem dX8_isOpen_8 : decode cX8_isOpen 8 = .ok (.iconst 3, 1) := by decide +kernel
theorem dX8_isOpen_9 : decode cX8_isOpen 9 = .ok (.if_icmp .ne 9, 3) := by decide +kernel
theorem dX8_isOpen_12 : decode cX8_isOpen 12 = .ok (.iinc 3 (-1), 3) := by decide +kernel
theorem dX8_isOpen_15 : decode cX8_isOpen 15 = .ok (.goto (-13), 3) := by decide +kernel
theorem dX8_isOpen_18 : decode cX8_isOpen 18 = .ok (.aload_n 0, 1) := by decide +kernel
theorem dX8_isOpen_19 : decode cX8_isOpen 19 = .ok (.getfield 22, 3) := by decide +kernel
theorem dX8_isOpen_22 : decode cX8_isOpen 22 = .ok (.iload_n 3, 1) := by decide +kernel
theorem dX8_isOpen_23 : decode cX8_isOpen 23 = .ok (.iaload, 1) := by decide +kernel
theorem dX8_isOpen_24 : decode cX8_isOpen 24 = .ok (.tableswitch 80 0 2 #[28, 45, 63], 28) := by decide +kernel
theorem dX8_isOpen_52 : decode cX8_isOpen 52 = .ok (.aload_n 0, 1) := by decide +kernel
theorem dX8_isOpen_53 : decode cX8_isOpen 53 = .ok (.getfield 55, 3) := by decide +kernel
theorem dX8_isOpen_56 : decode cX8_isOpen 56 = .ok (.iload_n 3, 1) := by decide +kernel
theorem dX8_isOpen_57 : decode cX8_isOpen 57 = .ok (.iaload, 1) := by decide +kernel
theorem dX8_isOpen_58 : decode cX8_isOpen 58 = .ok (.iconst 2, 1) := by decide +kernel
theorem dX8_isOpen_59 : decode cX8_isOpen 59 = .ok (.irem, 1) := by decide +kernel
theorem dX8_isOpen_60 : decode cX8_isOpen 60 = .ok (.ifCond .ne 7, 3) := by decide +kernel
theorem dX8_isOpen_63 : decode cX8_isOpen 63 = .ok (.iconst 1, 1) := by decide +kernel
theorem dX8_isOpen_64 : decode cX8_isOpen 64 = .ok (.goto 4, 3) := by decide +kernel
theorem dX8_isOpen_67 : decode cX8_isOpen 67 = .ok (.iconst 0, 1) := by decide +kernel
theorem dX8_isOpen_68 : decode cX8_isOpen 68 = .ok (.ireturn, 1) := by decide +kernel
theorem dX8_isOpen_69 : decode cX8_isOpen 69 = .ok (.aload_n 0, 1) := by decide +kernel
theorem dX8_isOpen_70 : decode cX8_isOpen 70 = .ok (.getfield 55, 3) := by decide +kernel
theorem dX8_isOpen_73 : decode cX8_isOpen 73 = .ok (.iload_n 3, 1) := by decide +kernel
theorem dX8_isOpen_74 : decode cX8_isOpen 74 = .ok (.iaload, 1) := by decide +kernel
theorem dX8_isOpen_75 : decode cX8_isOpen 75 = .ok (.iconst 2, 1) := by decide +kernel
theorem dX8_isOpen_76 : decode cX8_isOpen 76 = .ok (.irem, 1) := by decide +kernel
theorem dX8_isOpen_77 : decode cX8_isOpen 77 = .ok (.iconst 1, 1) := by decide +kernel
theorem dX8_isOpen_78 : decode cX8_isOpen 78 = .ok (.if_icmp .ne 7, 3) := by decide +kernel
theorem dX8_isOpen_81 : decode cX8_isOpen 81 = .ok (.iconst 1, 1) := by decide +kernel
theorem dX8_isOpen_82 : decode cX8_isOpen 82 = .ok (.goto 4, 3) := by decide +kernel
theorem dX8_isOpen_85 : decode cX8_isOpen 85 = .ok (.iconst 0, 1) := by decide +kernel
theorem dX8_isOpen_86 : decode cX8_isOpen 86 = .ok (.ireturn, 1) := by decide +kernel
theorem dX8_isOpen_87 : decode cX8_isOpen 87 = .ok (.aload_n 0, 1) := by decide +kernel
theorem dX8_isOpen_88 : decode cX8_isOpen 88 = .ok (.getfield 55, 3) := by decide +kernel
theorem dX8_isOpen_91 : decode cX8_isOpen 91 = .ok (.iload_n 3, 1) := by decide +kernel
theorem dX8_isOpen_92 : decode cX8_isOpen 92 = .ok (.iaload, 1) := by decide +kernel
theorem dX8_isOpen_93 : decode cX8_isOpen 93 = .ok (.iconst 3, 1) := by decide +kernel
theorem dX8_isOpen_94 : decode cX8_isOpen 94 = .ok (.irem, 1) := by decide +kernel
theorem dX8_isOpen_95 : decode cX8_isOpen 95 = .ok (.ifCond .ne 7, 3) := by decide +kernel
theorem dX8_isOpen_98 : decode cX8_isOpen 98 = .ok (.iconst 1, 1) := by decide +kernel
theorem dX8_isOpen_99 : decode cX8_isOpen 99 = .ok (.goto 4, 3) := by decide +kernel
theorem dX8_isOpen_102 : decode cX8_isOpen 102 = .ok (.iconst 0, 1) := by decide +kernel
theorem dX8_isOpen_103 : decode cX8_isOpen 103 = .ok (.ireturn, 1) := by decide +kernel
theorem dX8_isOpen_104 : decode cX8_isOpen 104 = .ok (.iload_n 2, 1) := by decide +kernel
theorem dX8_isOpen_105 : decode cX8_isOpen 105 = .ok (.ifCond .ne 18, 3) := by decide +kernel
theorem dX8_isOpen_108 : decode cX8_isOpen 108 = .ok (.aload_n 0, 1) := by decide +kernel
theorem dX8_isOpen_109 : decode cX8_isOpen 109 = .ok (.getfield 55, 3) := by decide +kernel
theorem dX8_isOpen_112 : decode cX8_isOpen 112 = .ok (.iload_n 3, 1) := by decide +kernel
theorem dX8_isOpen_113 : decode cX8_isOpen 113 = .ok (.iaload, 1) := by decide +kernel
theorem dX8_isOpen_114 : decode cX8_isOpen 114 = .ok (.iconst 2, 1) := by decide +kernel
theorem dX8_isOpen_115 : decode cX8_isOpen 115 = .ok (.irem, 1) := by decide +kernel
theorem dX8_isOpen_116 : decode cX8_isOpen 116 = .ok (.ifCond .ne 7, 3) := by decide +kernel
theorem dX8_isOpen_119 : decode cX8_isOpen 119 = .ok (.iconst 1, 1) := by decide +kernel
theorem dX8_isOpen_120 : decode cX8_isOpen 120 = .ok (.goto 4, 3) := by decide +kernel
theorem dX8_isOpen_123 : decode cX8_isOpen 123 = .ok (.iconst 0, 1) := by decide +kernel
theorem dX8_isOpen_124 : decode cX8_isOpen 124 = .ok (.ireturn, 1) := by decide +kernel
theorem dX8_sideOf_0 : decode cX8_sideOf 0 = .ok (.aload_n 0, 1) := by decide +kernel
theorem dX8_sideOf_1 : decode cX8_sideOf 1 = .ok (.getfield 16, 3) := by decide +kernel
theorem dX8_sideOf_4 : decode cX8_sideOf 4 = .ok (.iload_n 1, 1) := by decide +kernel
theorem dX8_sideOf_5 : decode cX8_sideOf 5 = .ok (.iaload, 1) := by decide +kernel
theorem dX8_sideOf_6 : decode cX8_sideOf 6 = .ok (.iload_n 2, 1) := by decide +kernel
theorem dX8_sideOf_7 : decode cX8_sideOf 7 = .ok (.if_icmp .ne 7, 3) := by decide +kernel
theorem dX8_sideOf_10 : decode cX8_sideOf 10 = .ok (.iconst 0, 1) := by decide +kernel
theorem dX8_sideOf_11 : decode cX8_sideOf 11 = .ok (.goto 19, 3) := by decide +kernel
theorem dX8_sideOf_14 : decode cX8_sideOf 14 = .ok (.aload_n 0, 1) := by decide +kernel
theorem dX8_sideOf_15 : decode cX8_sideOf 15 = .ok (.getfield 19, 3) := by decide +kernel
theorem dX8_sideOf_18 : decode cX8_sideOf 18 = .ok (.iload_n 1, 1) := by decide +kernel
theorem dX8_sideOf_19 : decode cX8_sideOf 19 = .ok (.iaload, 1) := by decide +kernel
theorem dX8_sideOf_20 : decode cX8_sideOf 20 = .ok (.iload_n 2, 1) := by decide +kernel
theorem dX8_sideOf_21 : decode cX8_sideOf 21 = .ok (.if_icmp .ne 7, 3) := by decide +kernel
theorem dX8_sideOf_24 : decode cX8_sideOf 24 = .ok (.iconst 1, 1) := by decide +kernel
theorem dX8_sideOf_25 : decode cX8_sideOf 25 = .ok (.goto 5, 3) := by decide +kernel
theorem dX8_sideOf_28 : decode cX8_sideOf 28 = .ok (.bipush (-4), 2) := by decide +kernel
theorem dX8_sideOf_30 : decode cX8_sideOf 30 = .ok (.ireturn, 1) := by decide +kernel
set_option maxRecDepth 20000 in
theorem ggX8_canPass_X8_sideOf : GoodIn wsX8_canPass wsX8_sideOf := goodIn_r _ [5, 6, 7, 14, 15, 16, 17, 18, 19, 20, 21, 22, 23, 24, 25, 26, 27, 28, 29, 30, 31, 32, 33, 34, 35, 36, 37, 38, 39, 40, 41, 42, 43] (by decide +kernel) (by decide +kernel)
set_option maxRecDepth 20000 in
theorem gX8_canPass_X8_sideOf : GoodIn wsX8_canPass (wsV RX8 134 RX8 yX8_sideOf wsX8_sideOf) := goodIn_app (goodIn_of _ (by decide +kernel)) ggX8_canPass_X8_sideOf
set_option maxRecDepth 20000 in
theorem ggX8_canPass_X8_isOpen : GoodIn wsX8_canPass wsX8_isOpen := goodIn_r _ [11, 12, 13, 14, 15, 16, 17, 18, 19, 20, 21, 22, 23, 24, 25, 26, 27, 28, 29, 30, 31, 32, 33, 34, 35, 36, 37, 38, 39, 40, 41, 42, 43] (by decide +kernel) (by decide +kernel)
set_option maxRecDepth 20000 in
theorem gX8_canPass_X8_isOpen : GoodIn wsX8_canPass (wsV RX8 138 RX8 yX8_isOpen wsX8_isOpen) := goodIn_app (goodIn_of _ (by decide +kernel)) ggX8_canPass_X8_isOpen
theorem dX8_canPass_0 : decode cX8_canPass 0 = .ok (.aload_n 0, 1) := by decide +kernel
theorem dX8_canPass_1 : decode cX8_canPass 1 = .ok (.iload_n 2, 1) := by decide +kernel
theorem dX8_canPass_2 : decode cX8_canPass 2 = .ok (.iload_n 1, 1) := by decide +kernel
theorem dX8_canPass_3 : decode cX8_canPass 3 = .ok (.invokevirtual 134, 3) := by decide +kernel
theorem dX8_canPass_6 : decode cX8_canPass 6 = .ok (.istore_n 3, 1) := by decide +kernel
theorem dX8_canPass_7 : decode cX8_canPass 7 = .ok (.iload_n 3, 1) := by decide +kernel
theorem dX8_canPass_8 : decode cX8_canPass 8 = .ok (.ifCond .lt 16, 3) := by decide +kernel
theorem dX8_canPass_11 : decode cX8_canPass 11 = .ok (.aload_n 0, 1) := by decide +kernel
theorem dX8_canPass_12 : decode cX8_canPass 12 = .ok (.iload_n 2, 1) := by decide +kernel
theorem dX8_canPass_13 : decode cX8_canPass 13 = .ok (.iload_n 3, 1) := by decide +kernel
theorem dX8_canPass_14 : decode cX8_canPass 14 = .ok (.invokevirtual 138, 3) := by decide +kernel
theorem dX8_canPass_17 : decode cX8_canPass 17 = .ok (.ifCond .eq 7, 3) := by decide +kernel
theorem dX8_canPass_20 : decode cX8_canPass 20 = .ok (.iconst 1, 1) := by decide +kernel
theorem dX8_canPass_21 : decode cX8_canPass 21 = .ok (.goto 4, 3) := by decide +kernel
theorem dX8_canPass_24 : decode cX8_canPass 24 = .ok (.iconst 0, 1) := by decide +kernel
theorem dX8_canPass_25 : decode cX8_canPass 25 = .ok (.ireturn, 1) := by decide +kernel
theorem dX8_beyond_0 : decode cX8_beyond 0 = .ok (.aload_n 0, 1) := by decide +kernel
theorem dX8_beyond_1 : decode cX8_beyond 1 = .ok (.getfield 16, 3) := by decide +kernel
theorem dX8_beyond_4 : decode cX8_beyond 4 = .ok (.iload_n 1, 1) := by decide +kernel
theorem dX8_beyond_5 : decode cX8_beyond 5 = .ok (.iaload, 1) := by decide +kernel
theorem dX8_beyond_6 : decode cX8_beyond 6 = .ok (.iload_n 2, 1) := by decide +kernel
theorem dX8_beyond_7 : decode cX8_beyond 7 = .ok (.if_icmp .ne 12, 3) := by decide +kernel
theorem dX8_beyond_10 : decode cX8_beyond 10 = .ok (.aload_n 0, 1) := by decide +kernel
theorem dX8_beyond_11 : decode cX8_beyond 11 = .ok (.getfield 19, 3) := by decide +kernel
theorem dX8_beyond_14 : decode cX8_beyond 14 = .ok (.iload_n 1, 1) := by decide +kernel
theorem dX8_beyond_15 : decode cX8_beyond 15 = .ok (.iaload, 1) := by decide +kernel
theorem dX8_beyond_16 : decode cX8_beyond 16 = .ok (.goto 9, 3) := by decide +kernel
theorem dX8_beyond_19 : decode cX8_beyond 19 = .ok (.aload_n 0, 1) := by decide +kernel
theorem dX8_beyond_20 : decode cX8_beyond 20 = .ok (.getfield 16, 3) := by decide +kernel
theorem dX8_beyond_23 : decode cX8_beyond 23 = .ok (.iload_n 1, 1) := by decide +kernel
theorem dX8_beyond_24 : decode cX8_beyond 24 = .ok (.iaload, 1) := by decide +kernel
theorem dX8_beyond_25 : decode cX8_beyond 25 = .ok (.ireturn, 1) := by decide +kernel
set_option maxRecDepth 20000 in
theorem ggX8_openSet_X8_isOpen : GoodIn wsX8_openSet wsX8_isOpen := goodIn_r _ [6, 7, 8, 9, 10, 11, 12, 13, 14, 15, 16, 17, 18, 19, 20, 21, 22, 23, 24, 25, 26, 27, 28, 29, 30, 31, 32, 33, 34, 35, 36, 37, 38] (by decide +kernel) (by decide +kernel)
set_option maxRecDepth 20000 in
theorem gX8_openSet_X8_isOpen : GoodIn wsX8_openSet (wsV RX8 138 RX8 yX8_isOpen wsX8_isOpen) := goodIn_app (goodIn_of _ (by decide +kernel)) ggX8_openSet_X8_isOpen
theorem dX8_openSet_0 : decode cX8_openSet 0 = .ok (.iconst 0, 1) := by decide +kernel
theorem dX8_openSet_1 : decode cX8_openSet 1 = .ok (.istore_n 1, 1) := by decide +kernel
theorem dX8_openSet_2 : decode cX8_openSet 2 = .ok (.iconst 0, 1) := by decide +kernel
theorem dX8_openSet_3 : decode cX8_openSet 3 = .ok (.istore_n 2, 1) := by decide +kernel
theorem dX8_openSet_4 : decode cX8_openSet 4 = .ok (.iload_n 2, 1) := by decide +kernel
theorem dX8_openSet_5 : decode cX8_openSet 5 = .ok (.aload_n 0, 1) := by decide +kernel
theorem dX8_openSet_6 : decode cX8_openSet 6 = .ok (.getfield 13, 3) := by decide +kernel
theorem dX8_openSet_9 : decode cX8_openSet 9 = .ok (.iconst 0, 1) := by decide +kernel
theorem dX8_openSet_10 : decode cX8_openSet 10 = .ok (.iaload, 1) := by decide +kernel
theorem dX8_openSet_11 : decode cX8_openSet 11 = .ok (.if_icmp .ge 28, 3) := by decide +kernel
theorem dX8_openSet_14 : decode cX8_openSet 14 = .ok (.iload_n 1, 1) := by decide +kernel
theorem dX8_openSet_15 : decode cX8_openSet 15 = .ok (.aload_n 0, 1) := by decide +kernel
theorem dX8_openSet_16 : decode cX8_openSet 16 = .ok (.iload_n 2, 1) := by decide +kernel
theorem dX8_openSet_17 : decode cX8_openSet 17 = .ok (.iconst 0, 1) := by decide +kernel
theorem dX8_openSet_18 : decode cX8_openSet 18 = .ok (.invokevirtual 138, 3) := by decide +kernel
theorem dX8_openSet_21 : decode cX8_openSet 21 = .ok (.ifCond .eq 9, 3) := by decide +kernel
theorem dX8_openSet_24 : decode cX8_openSet 24 = .ok (.iconst 1, 1) := by decide +kernel
theorem dX8_openSet_25 : decode cX8_openSet 25 = .ok (.iload_n 2, 1) := by decide +kernel
theorem dX8_openSet_26 : decode cX8_openSet 26 = .ok (.ishl, 1) := by decide +kernel
theorem dX8_openSet_27 : decode cX8_openSet 27 = .ok (.goto 4, 3) := by decide +kernel
theorem dX8_openSet_30 : decode cX8_openSet 30 = .ok (.iconst 0, 1) := by decide +kernel
theorem dX8_openSet_31 : decode cX8_openSet 31 = .ok (.ior, 1) := by decide +kernel
theorem dX8_openSet_32 : decode cX8_openSet 32 = .ok (.istore_n 1, 1) := by decide +kernel
theorem dX8_openSet_33 : decode cX8_openSet 33 = .ok (.iinc 2 1, 3) := by decide +kernel
theorem dX8_openSet_36 : decode cX8_openSet 36 = .ok (.goto (-32), 3) := by decide +kernel
theorem dX8_openSet_39 : decode cX8_openSet 39 = .ok (.iload_n 1, 1) := by decide +kernel
theorem dX8_openSet_40 : decode cX8_openSet 40 = .ok (.ireturn, 1) := by decide +kernel
set_option maxRecDepth 20000 in
theorem ggX8_gate_X8_isGate : GoodIn wsX8_gate wsX8_isGate := goodIn_r _ [10, 11, 12, 13, 9, 14, 30, 31, 32, 33, 34, 35, 36, 37, 38, 39, 40, 41, 42, 43, 44, 45, 46, 47, 48, 49, 50, 51, 52, 53, 54, 55, 56, 57, 58, 59] (by decide +kernel) (by decide +kernel)
set_option maxRecDepth 20000 in
theorem gX8_gate_X8_isGate : GoodIn wsX8_gate (wsV RX8 142 RX8 yX8_isGate wsX8_isGate) := goodIn_app (goodIn_of _ (by decide +kernel)) ggX8_gate_X8_isGate
set_option maxRecDepth 20000 in
theorem ggX8_gate_X8_in : GoodIn wsX8_gate wsX8_in := goodIn_r _ [14] (by decide +kernel) (by decide +kernel)
set_option maxRecDepth 20000 in
theorem gX8_gate_X8_in : GoodIn wsX8_gate (va_wsS RX8 82 yX8_in wsX8_in) := goodIn_app (goodIn_of _ (by decide +kernel)) ggX8_gate_X8_in
set_option maxRecDepth 20000 in
theorem ggX8_gate_X8_layNow : GoodIn wsX8_gate wsX8_layNow := goodIn_r _ [18, 19, 20, 21, 22, 23, 9, 24, 25, 5, 30, 31, 32, 33, 34, 35, 36, 37, 38, 39, 40, 41, 42, 43, 44, 45, 46, 47, 48, 49, 50, 51, 52, 53, 54, 55, 56, 57, 58, 59] (by decide +kernel) (by decide +kernel)
set_option maxRecDepth 20000 in
theorem gX8_gate_X8_layNow : GoodIn wsX8_gate (wsV RX8 147 RX8 yX8_layNow wsX8_layNow) := goodIn_app (goodIn_of _ (by decide +kernel)) ggX8_gate_X8_layNow
set_option maxRecDepth 20000 in
theorem ggX8_gate_X8_isOpen : GoodIn wsX8_gate wsX8_isOpen := goodIn_r _ [29, 4, 25, 30, 31, 32, 33, 34, 35, 36, 37, 38, 39, 40, 41, 42, 43, 44, 45, 46, 47, 48, 49, 50, 51, 52, 53, 54, 55, 56, 57, 58, 59] (by decide +kernel) (by decide +kernel)
set_option maxRecDepth 20000 in
theorem gX8_gate_X8_isOpen : GoodIn wsX8_gate (wsV RX8 138 RX8 yX8_isOpen wsX8_isOpen) := goodIn_app (goodIn_of _ (by decide +kernel)) ggX8_gate_X8_isOpen
theorem dX8_gate_0 : decode cX8_gate 0 = .ok (.aload_n 0, 1) := by decide +kernel
theorem dX8_gate_1 : decode cX8_gate 1 = .ok (.iload_n 1, 1) := by decide +kernel
theorem dX8_gate_2 : decode cX8_gate 2 = .ok (.invokevirtual 142, 3) := by decide +kernel
theorem dX8_gate_5 : decode cX8_gate 5 = .ok (.ifCond .eq 15, 3) := by decide +kernel
theorem dX8_gate_8 : decode cX8_gate 8 = .ok (.iload_n 2, 1) := by decide +kernel
theorem dX8_gate_9 : decode cX8_gate 9 = .ok (.i2l, 1) := by decide +kernel
theorem dX8_gate_10 : decode cX8_gate 10 = .ok (.lconst 0, 1) := by decide +kernel
theorem dX8_gate_11 : decode cX8_gate 11 = .ok (.ldc2_w 145, 3) := by decide +kernel
theorem dX8_gate_14 : decode cX8_gate 14 = .ok (.invokestatic 82, 3) := by decide +kernel
theorem dX8_gate_17 : decode cX8_gate 17 = .ok (.ifCond .ne 5, 3) := by decide +kernel
theorem dX8_gate_20 : decode cX8_gate 20 = .ok (.iconst (-1), 1) := by decide +kernel
theorem dX8_gate_21 : decode cX8_gate 21 = .ok (.ireturn, 1) := by decide +kernel
theorem dX8_gate_22 : decode cX8_gate 22 = .ok (.aload_n 0, 1) := by decide +kernel
theorem dX8_gate_23 : decode cX8_gate 23 = .ok (.invokevirtual 147, 3) := by decide +kernel
theorem dX8_gate_26 : decode cX8_gate 26 = .ok (.iload_n 2, 1) := by decide +kernel
theorem dX8_gate_27 : decode cX8_gate 27 = .ok (.tableswitch 57 0 3 #[29, 36, 43, 50], 29) := by decide +kernel
theorem dX8_gate_56 : decode cX8_gate 56 = .ok (.aload_n 0, 1) := by decide +kernel
theorem dX8_gate_57 : decode cX8_gate 57 = .ok (.getfield 16, 3) := by decide +kernel
theorem dX8_gate_60 : decode cX8_gate 60 = .ok (.iload_n 1, 1) := by decide +kernel
theorem dX8_gate_61 : decode cX8_gate 61 = .ok (.iaload, 1) := by decide +kernel
theorem dX8_gate_62 : decode cX8_gate 62 = .ok (.ireturn, 1) := by decide +kernel
theorem dX8_gate_63 : decode cX8_gate 63 = .ok (.aload_n 0, 1) := by decide +kernel
theorem dX8_gate_64 : decode cX8_gate 64 = .ok (.getfield 19, 3) := by decide +kernel
theorem dX8_gate_67 : decode cX8_gate 67 = .ok (.iload_n 1, 1) := by decide +kernel
theorem dX8_gate_68 : decode cX8_gate 68 = .ok (.iaload, 1) := by decide +kernel
theorem dX8_gate_69 : decode cX8_gate 69 = .ok (.ireturn, 1) := by decide +kernel
theorem dX8_gate_70 : decode cX8_gate 70 = .ok (.aload_n 0, 1) := by decide +kernel
theorem dX8_gate_71 : decode cX8_gate 71 = .ok (.getfield 22, 3) := by decide +kernel
theorem dX8_gate_74 : decode cX8_gate 74 = .ok (.iload_n 1, 1) := by decide +kernel
theorem dX8_gate_75 : decode cX8_gate 75 = .ok (.iaload, 1) := by decide +kernel
theorem dX8_gate_76 : decode cX8_gate 76 = .ok (.ireturn, 1) := by decide +kernel
theorem dX8_gate_77 : decode cX8_gate 77 = .ok (.aload_n 0, 1) := by decide +kernel
theorem dX8_gate_78 : decode cX8_gate 78 = .ok (.getfield 31, 3) := by decide +kernel
theorem dX8_gate_81 : decode cX8_gate 81 = .ok (.iload_n 1, 1) := by decide +kernel
theorem dX8_gate_82 : decode cX8_gate 82 = .ok (.iaload, 1) := by decide +kernel
theorem dX8_gate_83 : decode cX8_gate 83 = .ok (.ireturn, 1) := by decide +kernel
theorem dX8_gate_84 : decode cX8_gate 84 = .ok (.aload_n 0, 1) := by decide +kernel
theorem dX8_gate_85 : decode cX8_gate 85 = .ok (.iload_n 1, 1) := by decide +kernel
theorem dX8_gate_86 : decode cX8_gate 86 = .ok (.iload_n 2, 1) := by decide +kernel
theorem dX8_gate_87 : decode cX8_gate 87 = .ok (.iconst 4, 1) := by decide +kernel
theorem dX8_gate_88 : decode cX8_gate 88 = .ok (.isub, 1) := by decide +kernel
theorem dX8_gate_89 : decode cX8_gate 89 = .ok (.invokevirtual 138, 3) := by decide +kernel
theorem dX8_gate_92 : decode cX8_gate 92 = .ok (.ifCond .eq 7, 3) := by decide +kernel
theorem dX8_gate_95 : decode cX8_gate 95 = .ok (.iconst 1, 1) := by decide +kernel
theorem dX8_gate_96 : decode cX8_gate 96 = .ok (.goto 4, 3) := by decide +kernel
theorem dX8_gate_99 : decode cX8_gate 99 = .ok (.iconst 0, 1) := by decide +kernel
theorem dX8_gate_100 : decode cX8_gate 100 = .ok (.ireturn, 1) := by decide +kernel
set_option maxRecDepth 20000 in
theorem ggX8_where_X8_isPerson : GoodIn wsX8_where wsX8_isPerson := goodIn_r _ [6, 7, 8, 9, 5, 10, 11, 12, 13, 14, 15, 16, 17, 18, 19, 20, 21, 22, 23, 24, 25, 26, 27, 28, 29, 30, 31, 32, 33, 34, 35, 36, 37, 38, 39, 40] (by decide +kernel) (by decide +kernel)
set_option maxRecDepth 20000 in
theorem gX8_where_X8_isPerson : GoodIn wsX8_where (wsV RX8 150 RX8 yX8_isPerson wsX8_isPerson) := goodIn_app (goodIn_of _ (by decide +kernel)) ggX8_where_X8_isPerson
theorem dX8_where_0 : decode cX8_where 0 = .ok (.aload_n 0, 1) := by decide +kernel
theorem dX8_where_1 : decode cX8_where 1 = .ok (.iload_n 1, 1) := by decide +kernel
theorem dX8_where_2 : decode cX8_where 2 = .ok (.invokevirtual 150, 3) := by decide +kernel
theorem dX8_where_5 : decode cX8_where 5 = .ok (.ifCond .eq 12, 3) := by decide +kernel
theorem dX8_where_8 : decode cX8_where 8 = .ok (.aload_n 0, 1) := by decide +kernel
theorem dX8_where_9 : decode cX8_where 9 = .ok (.getfield 34, 3) := by decide +kernel
theorem dX8_where_12 : decode cX8_where 12 = .ok (.iload_n 1, 1) := by decide +kernel
theorem dX8_where_13 : decode cX8_where 13 = .ok (.iaload, 1) := by decide +kernel
theorem dX8_where_14 : decode cX8_where 14 = .ok (.goto 4, 3) := by decide +kernel
theorem dX8_where_17 : decode cX8_where 17 = .ok (.iconst (-1), 1) := by decide +kernel
theorem dX8_where_18 : decode cX8_where 18 = .ok (.ireturn, 1) := by decide +kernel
set_option maxRecDepth 20000 in
theorem ggX8_canNow_X8_layNow : GoodIn wsX8_canNow wsX8_layNow := goodIn_r _ [6, 7, 1, 8, 9, 10, 5, 11, 12, 13, 29, 30, 31, 32, 33, 34, 35, 36, 37, 38, 39, 40, 41, 42, 43, 44, 45, 46, 47, 48, 49, 50, 51, 52, 53, 54, 55, 56, 57, 58] (by decide +kernel) (by decide +kernel)
set_option maxRecDepth 20000 in
theorem gX8_canNow_X8_layNow : GoodIn wsX8_canNow (wsV RX8 147 RX8 yX8_layNow wsX8_layNow) := goodIn_app (goodIn_of _ (by decide +kernel)) ggX8_canNow_X8_layNow
set_option maxRecDepth 20000 in
theorem ggX8_canNow_X8_canPass : GoodIn wsX8_canNow wsX8_canPass := goodIn_r _ [17, 18, 19, 20, 5, 21, 22, 23, 24, 25, 26, 27, 28, 12, 29, 30, 31, 32, 33, 34, 35, 36, 37, 38, 39, 40, 41, 42, 43, 44, 45, 46, 47, 48, 49, 50, 51, 52, 53, 54, 55, 56, 57, 58] (by decide +kernel) (by decide +kernel)
set_option maxRecDepth 20000 in
theorem gX8_canNow_X8_canPass : GoodIn wsX8_canNow (wsV RX8 153 RX8 yX8_canPass wsX8_canPass) := goodIn_app (goodIn_of _ (by decide +kernel)) ggX8_canNow_X8_canPass
theorem dX8_canNow_0 : decode cX8_canNow 0 = .ok (.aload_n 0, 1) := by decide +kernel
theorem dX8_canNow_1 : decode cX8_canNow 1 = .ok (.invokevirtual 147, 3) := by decide +kernel
theorem dX8_canNow_4 : decode cX8_canNow 4 = .ok (.aload_n 0, 1) := by decide +kernel
theorem dX8_canNow_5 : decode cX8_canNow 5 = .ok (.aload_n 0, 1) := by decide +kernel
theorem dX8_canNow_6 : decode cX8_canNow 6 = .ok (.getfield 34, 3) := by decide +kernel
theorem dX8_canNow_9 : decode cX8_canNow 9 = .ok (.iload_n 1, 1) := by decide +kernel
theorem dX8_canNow_10 : decode cX8_canNow 10 = .ok (.iaload, 1) := by decide +kernel
theorem dX8_canNow_11 : decode cX8_canNow 11 = .ok (.iload_n 2, 1) := by decide +kernel
theorem dX8_canNow_12 : decode cX8_canNow 12 = .ok (.invokevirtual 153, 3) := by decide +kernel
theorem dX8_canNow_15 : decode cX8_canNow 15 = .ok (.ireturn, 1) := by decide +kernel
set_option maxRecDepth 20000 in
theorem ggX8_can_X8_isPerson : GoodIn wsX8_can wsX8_isPerson := goodIn_r _ [5, 6, 7, 8, 4, 9, 46, 47, 48, 49, 50, 51, 52, 53, 54, 55, 56, 57, 58, 59, 60, 61, 62, 63, 64, 65, 66, 67, 68, 69, 70, 71, 72, 73, 74, 75] (by decide +kernel) (by decide +kernel)
set_option maxRecDepth 20000 in
theorem gX8_can_X8_isPerson : GoodIn wsX8_can (wsV RX8 150 RX8 yX8_isPerson wsX8_isPerson) := goodIn_app (goodIn_of _ (by decide +kernel)) ggX8_can_X8_isPerson
set_option maxRecDepth 20000 in
theorem ggX8_can_X8_isGate : GoodIn wsX8_can wsX8_isGate := goodIn_r _ [13, 14, 7, 8, 4, 9, 46, 47, 48, 49, 50, 51, 52, 53, 54, 55, 56, 57, 58, 59, 60, 61, 62, 63, 64, 65, 66, 67, 68, 69, 70, 71, 72, 73, 74, 75] (by decide +kernel) (by decide +kernel)
set_option maxRecDepth 20000 in
theorem gX8_can_X8_isGate : GoodIn wsX8_can (wsV RX8 142 RX8 yX8_isGate wsX8_isGate) := goodIn_app (goodIn_of _ (by decide +kernel)) ggX8_can_X8_isGate
set_option maxRecDepth 20000 in
theorem ggX8_can_X8_canNow : GoodIn wsX8_can wsX8_canNow := goodIn_r _ [18, 19, 20, 21, 22, 4, 23, 24, 25, 26, 27, 28, 29, 30, 31, 32, 33, 34, 35, 36, 37, 38, 39, 40, 41, 42, 43, 44, 45, 46, 47, 48, 49, 50, 51, 52, 53, 54, 55, 56, 57, 58, 59, 60, 61, 62, 63, 64, 65, 66, 67, 68, 69, 70, 71, 72, 73, 74, 75] (by decide +kernel) (by decide +kernel)
set_option maxRecDepth 20000 in
theorem gX8_can_X8_canNow : GoodIn wsX8_can (wsV RX8 156 RX8 yX8_canNow wsX8_canNow) := goodIn_app (goodIn_of _ (by decide +kernel)) ggX8_can_X8_canNow
theorem dX8_can_0 : decode cX8_can 0 = .ok (.aload_n 0, 1) := by decide +kernel
theorem dX8_can_1 : decode cX8_can 1 = .ok (.iload_n 1, 1) := by decide +kernel
theorem dX8_can_2 : decode cX8_can 2 = .ok (.invokevirtual 150, 3) := by decide +kernel
theorem dX8_can_5 : decode cX8_can 5 = .ok (.ifCond .eq 11, 3) := by decide +kernel
theorem dX8_can_8 : decode cX8_can 8 = .ok (.aload_n 0, 1) := by decide +kernel
theorem dX8_can_9 : decode cX8_can 9 = .ok (.iload_n 2, 1) := by decide +kernel
theorem dX8_can_10 : decode cX8_can 10 = .ok (.invokevirtual 142, 3) := by decide +kernel
theorem dX8_can_13 : decode cX8_can 13 = .ok (.ifCond .ne 7, 3) := by decide +kernel
theorem dX8_can_16 : decode cX8_can 16 = .ok (.iconst (-1), 1) := by decide +kernel
theorem dX8_can_17 : decode cX8_can 17 = .ok (.goto 17, 3) := by decide +kernel
theorem dX8_can_20 : decode cX8_can 20 = .ok (.aload_n 0, 1) := by decide +kernel
theorem dX8_can_21 : decode cX8_can 21 = .ok (.iload_n 1, 1) := by decide +kernel
theorem dX8_can_22 : decode cX8_can 22 = .ok (.iload_n 2, 1) := by decide +kernel
theorem dX8_can_23 : decode cX8_can 23 = .ok (.invokevirtual 156, 3) := by decide +kernel
theorem dX8_can_26 : decode cX8_can 26 = .ok (.ifCond .eq 7, 3) := by decide +kernel
theorem dX8_can_29 : decode cX8_can 29 = .ok (.iconst 1, 1) := by decide +kernel
theorem dX8_can_30 : decode cX8_can 30 = .ok (.goto 4, 3) := by decide +kernel
theorem dX8_can_33 : decode cX8_can 33 = .ok (.iconst 0, 1) := by decide +kernel
theorem dX8_can_34 : decode cX8_can 34 = .ok (.ireturn, 1) := by decide +kernel
theorem dX8_note_0 : decode cX8_note 0 = .ok (.aload_n 0, 1) := by decide +kernel
theorem dX8_note_1 : decode cX8_note 1 = .ok (.getfield 122, 3) := by decide +kernel
theorem dX8_note_4 : decode cX8_note 4 = .ok (.bipush 8, 2) := by decide +kernel
theorem dX8_note_6 : decode cX8_note 6 = .ok (.if_icmp .ne 45, 3) := by decide +kernel
theorem dX8_note_9 : decode cX8_note 9 = .ok (.iconst 0, 1) := by decide +kernel
theorem dX8_note_10 : decode cX8_note 10 = .ok (.istore 4, 2) := by decide +kernel
theorem dX8_note_12 : decode cX8_note 12 = .ok (.iload 4, 2) := by decide +kernel
theorem dX8_note_14 : decode cX8_note 14 = .ok (.bipush 28, 2) := by decide +kernel
theorem dX8_note_16 : decode cX8_note 16 = .ok (.if_icmp .ge 25, 3) := by decide +kernel
theorem dX8_note_19 : decode cX8_note 19 = .ok (.aload_n 0, 1) := by decide +kernel
theorem dX8_note_20 : decode cX8_note 20 = .ok (.getfield 40, 3) := by decide +kernel
theorem dX8_note_23 : decode cX8_note 23 = .ok (.iload 4, 2) := by decide +kernel
theorem dX8_note_25 : decode cX8_note 25 = .ok (.aload_n 0, 1) := by decide +kernel
theorem dX8_note_26 : decode cX8_note 26 = .ok (.getfield 40, 3) := by decide +kernel
theorem dX8_note_29 : decode cX8_note 29 = .ok (.iload 4, 2) := by decide +kernel
theorem dX8_note_31 : decode cX8_note 31 = .ok (.iconst 4, 1) := by decide +kernel
theorem dX8_note_32 : decode cX8_note 32 = .ok (.iadd, 1) := by decide +kernel
theorem dX8_note_33 : decode cX8_note 33 = .ok (.iaload, 1) := by decide +kernel
theorem dX8_note_34 : decode cX8_note 34 = .ok (.iastore, 1) := by decide +kernel
theorem dX8_note_35 : decode cX8_note 35 = .ok (.iinc 4 1, 3) := by decide +kernel
theorem dX8_note_38 : decode cX8_note 38 = .ok (.goto (-26), 3) := by decide +kernel
theorem dX8_note_41 : decode cX8_note 41 = .ok (.aload_n 0, 1) := by decide +kernel
theorem dX8_note_42 : decode cX8_note 42 = .ok (.dup, 1) := by decide +kernel
theorem dX8_note_43 : decode cX8_note 43 = .ok (.getfield 122, 3) := by decide +kernel
theorem dX8_note_46 : decode cX8_note 46 = .ok (.iconst 1, 1) := by decide +kernel
theorem dX8_note_47 : decode cX8_note 47 = .ok (.isub, 1) := by decide +kernel
theorem dX8_note_48 : decode cX8_note 48 = .ok (.putfield 122, 3) := by decide +kernel
theorem dX8_note_51 : decode cX8_note 51 = .ok (.aload_n 0, 1) := by decide +kernel
theorem dX8_note_52 : decode cX8_note 52 = .ok (.getfield 40, 3) := by decide +kernel
theorem dX8_note_55 : decode cX8_note 55 = .ok (.iconst 4, 1) := by decide +kernel
theorem dX8_note_56 : decode cX8_note 56 = .ok (.aload_n 0, 1) := by decide +kernel
theorem dX8_note_57 : decode cX8_note 57 = .ok (.getfield 122, 3) := by decide +kernel
theorem dX8_note_60 : decode cX8_note 60 = .ok (.imul, 1) := by decide +kernel
theorem dX8_note_61 : decode cX8_note 61 = .ok (.iload_n 1, 1) := by decide +kernel
theorem dX8_note_62 : decode cX8_note 62 = .ok (.iastore, 1) := by decide +kernel
theorem dX8_note_63 : decode cX8_note 63 = .ok (.aload_n 0, 1) := by decide +kernel
theorem dX8_note_64 : decode cX8_note 64 = .ok (.getfield 40, 3) := by decide +kernel
theorem dX8_note_67 : decode cX8_note 67 = .ok (.iconst 4, 1) := by decide +kernel
theorem dX8_note_68 : decode cX8_note 68 = .ok (.aload_n 0, 1) := by decide +kernel
theorem dX8_note_69 : decode cX8_note 69 = .ok (.getfield 122, 3) := by decide +kernel
theorem dX8_note_72 : decode cX8_note 72 = .ok (.imul, 1) := by decide +kernel
theorem dX8_note_73 : decode cX8_note 73 = .ok (.iconst 1, 1) := by decide +kernel
theorem dX8_note_74 : decode cX8_note 74 = .ok (.iadd, 1) := by decide +kernel
theorem dX8_note_75 : decode cX8_note 75 = .ok (.iload_n 2, 1) := by decide +kernel
theorem dX8_note_76 : decode cX8_note 76 = .ok (.iastore, 1) := by decide +kernel
theorem dX8_note_77 : decode cX8_note 77 = .ok (.aload_n 0, 1) := by decide +kernel
theorem dX8_note_78 : decode cX8_note 78 = .ok (.getfield 40, 3) := by decide +kernel
theorem dX8_note_81 : decode cX8_note 81 = .ok (.iconst 4, 1) := by decide +kernel
theorem dX8_note_82 : decode cX8_note 82 = .ok (.aload_n 0, 1) := by decide +kernel
theorem dX8_note_83 : decode cX8_note 83 = .ok (.getfield 122, 3) := by decide +kernel
theorem dX8_note_86 : decode cX8_note 86 = .ok (.imul, 1) := by decide +kernel
theorem dX8_note_87 : decode cX8_note 87 = .ok (.iconst 2, 1) := by decide +kernel
theorem dX8_note_88 : decode cX8_note 88 = .ok (.iadd, 1) := by decide +kernel
theorem dX8_note_89 : decode cX8_note 89 = .ok (.aload_n 0, 1) := by decide +kernel
theorem dX8_note_90 : decode cX8_note 90 = .ok (.getfield 34, 3) := by decide +kernel
theorem dX8_note_93 : decode cX8_note 93 = .ok (.iload_n 1, 1) := by decide +kernel
theorem dX8_note_94 : decode cX8_note 94 = .ok (.iaload, 1) := by decide +kernel
theorem dX8_note_95 : decode cX8_note 95 = .ok (.iastore, 1) := by decide +kernel
theorem dX8_note_96 : decode cX8_note 96 = .ok (.aload_n 0, 1) := by decide +kernel
theorem dX8_note_97 : decode cX8_note 97 = .ok (.getfield 40, 3) := by decide +kernel
theorem dX8_note_100 : decode cX8_note 100 = .ok (.iconst 4, 1) := by decide +kernel
theorem dX8_note_101 : decode cX8_note 101 = .ok (.aload_n 0, 1) := by decide +kernel
theorem dX8_note_102 : decode cX8_note 102 = .ok (.getfield 122, 3) := by decide +kernel
theorem dX8_note_105 : decode cX8_note 105 = .ok (.imul, 1) := by decide +kernel
theorem dX8_note_106 : decode cX8_note 106 = .ok (.iconst 3, 1) := by decide +kernel
theorem dX8_note_107 : decode cX8_note 107 = .ok (.iadd, 1) := by decide +kernel
theorem dX8_note_108 : decode cX8_note 108 = .ok (.iload_n 3, 1) := by decide +kernel
theorem dX8_note_109 : decode cX8_note 109 = .ok (.iastore, 1) := by decide +kernel
theorem dX8_note_110 : decode cX8_note 110 = .ok (.aload_n 0, 1) := by decide +kernel
theorem dX8_note_111 : decode cX8_note 111 = .ok (.dup, 1) := by decide +kernel
theorem dX8_note_112 : decode cX8_note 112 = .ok (.getfield 122, 3) := by decide +kernel
theorem dX8_note_115 : decode cX8_note 115 = .ok (.iconst 1, 1) := by decide +kernel
theorem dX8_note_116 : decode cX8_note 116 = .ok (.iadd, 1) := by decide +kernel
theorem dX8_note_117 : decode cX8_note 117 = .ok (.putfield 122, 3) := by decide +kernel
theorem dX8_note_120 : decode cX8_note 120 = .ok (.aload_n 0, 1) := by decide +kernel
theorem dX8_note_121 : decode cX8_note 121 = .ok (.getfield 31, 3) := by decide +kernel
theorem dX8_note_124 : decode cX8_note 124 = .ok (.iload_n 2, 1) := by decide +kernel
theorem dX8_note_125 : decode cX8_note 125 = .ok (.dup2, 1) := by decide +kernel
theorem dX8_note_126 : decode cX8_note 126 = .ok (.iaload, 1) := by decide +kernel
theorem dX8_note_127 : decode cX8_note 127 = .ok (.iconst 1, 1) := by decide +kernel
theorem dX8_note_128 : decode cX8_note 128 = .ok (.iadd, 1) := by decide +kernel
theorem dX8_note_129 : decode cX8_note 129 = .ok (.iastore, 1) := by decide +kernel
theorem dX8_note_130 : decode cX8_note 130 = .ok (.return_, 1) := by decide +kernel
set_option maxRecDepth 20000 in
theorem ggX8_pass_X8_isPerson : GoodIn wsX8_pass wsX8_isPerson := goodIn_r _ [6, 7, 8, 9, 5, 10, 56, 57, 58, 59, 60, 61, 62, 63, 64, 65, 66, 67, 68, 69, 70, 71, 72, 73, 74, 75, 76, 77, 78, 79, 80, 81, 82, 83, 84, 85] (by decide +kernel) (by decide +kernel)
set_option maxRecDepth 20000 in
theorem gX8_pass_X8_isPerson : GoodIn wsX8_pass (wsV RX8 150 RX8 yX8_isPerson wsX8_isPerson) := goodIn_app (goodIn_of _ (by decide +kernel)) ggX8_pass_X8_isPerson
set_option maxRecDepth 20000 in
theorem ggX8_pass_X8_isGate : GoodIn wsX8_pass wsX8_isGate := goodIn_r _ [14, 15, 8, 9, 5, 10, 56, 57, 58, 59, 60, 61, 62, 63, 64, 65, 66, 67, 68, 69, 70, 71, 72, 73, 74, 75, 76, 77, 78, 79, 80, 81, 82, 83, 84, 85] (by decide +kernel) (by decide +kernel)
set_option maxRecDepth 20000 in
theorem gX8_pass_X8_isGate : GoodIn wsX8_pass (wsV RX8 142 RX8 yX8_isGate wsX8_isGate) := goodIn_app (goodIn_of _ (by decide +kernel)) ggX8_pass_X8_isGate
set_option maxRecDepth 20000 in
theorem ggX8_pass_X8_canNow : GoodIn wsX8_pass wsX8_canNow := goodIn_r _ [19, 1, 20, 21, 22, 5, 23, 24, 25, 26, 27, 28, 29, 30, 31, 32, 33, 34, 35, 36, 37, 38, 39, 40, 41, 42, 43, 44, 45, 56, 57, 58, 59, 60, 61, 62, 63, 64, 65, 66, 67, 68, 69, 70, 71, 72, 73, 74, 75, 76, 77, 78, 79, 80, 81, 82, 83, 84, 85] (by decide +kernel) (by decide +kernel)
set_option maxRecDepth 20000 in
theorem gX8_pass_X8_canNow : GoodIn wsX8_pass (wsV RX8 156 RX8 yX8_canNow wsX8_canNow) := goodIn_app (goodIn_of _ (by decide +kernel)) ggX8_pass_X8_canNow
set_option maxRecDepth 20000 in
theorem ggX8_pass_X8_note : GoodIn wsX8_pass wsX8_note := goodIn_r _ [49, 50, 51, 1, 30, 56, 57, 58, 59, 60, 61, 62, 63, 64, 65, 66, 67, 68, 69, 70, 71, 72, 73, 74, 75, 76, 77, 78, 79, 80, 81, 82, 83, 84, 85] (by decide +kernel) (by decide +kernel)
set_option maxRecDepth 20000 in
theorem gX8_pass_X8_note : GoodIn wsX8_pass (wsV RX8 159 RX8 yX8_note wsX8_note) := goodIn_app (goodIn_of _ (by decide +kernel)) ggX8_pass_X8_note
set_option maxRecDepth 20000 in
theorem ggX8_pass_X8_beyond : GoodIn wsX8_pass wsX8_beyond := goodIn_r _ [55, 39, 40, 56, 57, 58, 59, 60, 61, 62, 63, 64, 65, 66, 67, 68, 69, 70, 71, 72, 73, 74, 75, 76, 77, 78, 79, 80, 81, 82, 83, 84, 85] (by decide +kernel) (by decide +kernel)
set_option maxRecDepth 20000 in
theorem gX8_pass_X8_beyond : GoodIn wsX8_pass (wsV RX8 163 RX8 yX8_beyond wsX8_beyond) := goodIn_app (goodIn_of _ (by decide +kernel)) ggX8_pass_X8_beyond
theorem dX8_pass_0 : decode cX8_pass 0 = .ok (.aload_n 0, 1) := by decide +kernel
theorem dX8_pass_1 : decode cX8_pass 1 = .ok (.iload_n 1, 1) := by decide +kernel
theorem dX8_pass_2 : decode cX8_pass 2 = .ok (.invokevirtual 150, 3) := by decide +kernel
theorem dX8_pass_5 : decode cX8_pass 5 = .ok (.ifCond .eq 11, 3) := by decide +kernel
theorem dX8_pass_8 : decode cX8_pass 8 = .ok (.aload_n 0, 1) := by decide +kernel
theorem dX8_pass_9 : decode cX8_pass 9 = .ok (.iload_n 2, 1) := by decide +kernel
theorem dX8_pass_10 : decode cX8_pass 10 = .ok (.invokevirtual 142, 3) := by decide +kernel
theorem dX8_pass_13 : decode cX8_pass 13 = .ok (.ifCond .ne 5, 3) := by decide +kernel
theorem dX8_pass_16 : decode cX8_pass 16 = .ok (.iconst (-1), 1) := by decide +kernel
theorem dX8_pass_17 : decode cX8_pass 17 = .ok (.ireturn, 1) := by decide +kernel
theorem dX8_pass_18 : decode cX8_pass 18 = .ok (.aload_n 0, 1) := by decide +kernel
theorem dX8_pass_19 : decode cX8_pass 19 = .ok (.iload_n 1, 1) := by decide +kernel
theorem dX8_pass_20 : decode cX8_pass 20 = .ok (.iload_n 2, 1) := by decide +kernel
theorem dX8_pass_21 : decode cX8_pass 21 = .ok (.invokevirtual 156, 3) := by decide +kernel
theorem dX8_pass_24 : decode cX8_pass 24 = .ok (.ifCond .ne 6, 3) := by decide +kernel
theorem dX8_pass_27 : decode cX8_pass 27 = .ok (.bipush (-2), 2) := by decide +kernel
theorem dX8_pass_29 : decode cX8_pass 29 = .ok (.ireturn, 1) := by decide +kernel
theorem dX8_pass_30 : decode cX8_pass 30 = .ok (.aload_n 0, 1) := by decide +kernel
theorem dX8_pass_31 : decode cX8_pass 31 = .ok (.iload_n 1, 1) := by decide +kernel
theorem dX8_pass_32 : decode cX8_pass 32 = .ok (.iload_n 2, 1) := by decide +kernel
theorem dX8_pass_33 : decode cX8_pass 33 = .ok (.iconst 0, 1) := by decide +kernel
theorem dX8_pass_34 : decode cX8_pass 34 = .ok (.invokevirtual 159, 3) := by decide +kernel
theorem dX8_pass_37 : decode cX8_pass 37 = .ok (.aload_n 0, 1) := by decide +kernel
theorem dX8_pass_38 : decode cX8_pass 38 = .ok (.getfield 34, 3) := by decide +kernel
theorem dX8_pass_41 : decode cX8_pass 41 = .ok (.iload_n 1, 1) := by decide +kernel
theorem dX8_pass_42 : decode cX8_pass 42 = .ok (.aload_n 0, 1) := by decide +kernel
theorem dX8_pass_43 : decode cX8_pass 43 = .ok (.iload_n 2, 1) := by decide +kernel
theorem dX8_pass_44 : decode cX8_pass 44 = .ok (.aload_n 0, 1) := by decide +kernel
theorem dX8_pass_45 : decode cX8_pass 45 = .ok (.getfield 34, 3) := by decide +kernel
theorem dX8_pass_48 : decode cX8_pass 48 = .ok (.iload_n 1, 1) := by decide +kernel
theorem dX8_pass_49 : decode cX8_pass 49 = .ok (.iaload, 1) := by decide +kernel
theorem dX8_pass_50 : decode cX8_pass 50 = .ok (.invokevirtual 163, 3) := by decide +kernel
theorem dX8_pass_53 : decode cX8_pass 53 = .ok (.iastore, 1) := by decide +kernel
theorem dX8_pass_54 : decode cX8_pass 54 = .ok (.aload_n 0, 1) := by decide +kernel
theorem dX8_pass_55 : decode cX8_pass 55 = .ok (.getfield 34, 3) := by decide +kernel
theorem dX8_pass_58 : decode cX8_pass 58 = .ok (.iload_n 1, 1) := by decide +kernel
theorem dX8_pass_59 : decode cX8_pass 59 = .ok (.iaload, 1) := by decide +kernel
theorem dX8_pass_60 : decode cX8_pass 60 = .ok (.ireturn, 1) := by decide +kernel
set_option maxRecDepth 20000 in
theorem ggX8_linger_X8_isPerson : GoodIn wsX8_linger wsX8_isPerson := goodIn_r _ [6, 7, 8, 9, 5, 10, 53, 54, 55, 56, 57, 58, 59, 60, 61, 62, 63, 64, 65, 66, 67, 68, 69, 70, 71, 72, 73, 74, 75, 76, 77, 78, 79, 80, 81, 82] (by decide +kernel) (by decide +kernel)
set_option maxRecDepth 20000 in
theorem gX8_linger_X8_isPerson : GoodIn wsX8_linger (wsV RX8 150 RX8 yX8_isPerson wsX8_isPerson) := goodIn_app (goodIn_of _ (by decide +kernel)) ggX8_linger_X8_isPerson
set_option maxRecDepth 20000 in
theorem ggX8_linger_X8_isGate : GoodIn wsX8_linger wsX8_isGate := goodIn_r _ [14, 15, 8, 9, 5, 10, 53, 54, 55, 56, 57, 58, 59, 60, 61, 62, 63, 64, 65, 66, 67, 68, 69, 70, 71, 72, 73, 74, 75, 76, 77, 78, 79, 80, 81, 82] (by decide +kernel) (by decide +kernel)
set_option maxRecDepth 20000 in
theorem gX8_linger_X8_isGate : GoodIn wsX8_linger (wsV RX8 142 RX8 yX8_isGate wsX8_isGate) := goodIn_app (goodIn_of _ (by decide +kernel)) ggX8_linger_X8_isGate
set_option maxRecDepth 20000 in
theorem ggX8_linger_X8_canNow : GoodIn wsX8_linger wsX8_canNow := goodIn_r _ [19, 20, 21, 22, 23, 5, 24, 25, 26, 27, 28, 29, 30, 31, 32, 33, 34, 35, 36, 37, 38, 39, 40, 41, 42, 43, 44, 45, 46, 53, 54, 55, 56, 57, 58, 59, 60, 61, 62, 63, 64, 65, 66, 67, 68, 69, 70, 71, 72, 73, 74, 75, 76, 77, 78, 79, 80, 81, 82] (by decide +kernel) (by decide +kernel)
set_option maxRecDepth 20000 in
theorem gX8_linger_X8_canNow : GoodIn wsX8_linger (wsV RX8 156 RX8 yX8_canNow wsX8_canNow) := goodIn_app (goodIn_of _ (by decide +kernel)) ggX8_linger_X8_canNow
set_option maxRecDepth 20000 in
theorem ggX8_linger_X8_note : GoodIn wsX8_linger wsX8_note := goodIn_r _ [50, 51, 52, 20, 31, 53, 54, 55, 56, 57, 58, 59, 60, 61, 62, 63, 64, 65, 66, 67, 68, 69, 70, 71, 72, 73, 74, 75, 76, 77, 78, 79, 80, 81, 82] (by decide +kernel) (by decide +kernel)
set_option maxRecDepth 20000 in
theorem gX8_linger_X8_note : GoodIn wsX8_linger (wsV RX8 159 RX8 yX8_note wsX8_note) := goodIn_app (goodIn_of _ (by decide +kernel)) ggX8_linger_X8_note
theorem dX8_linger_0 : decode cX8_linger 0 = .ok (.aload_n 0, 1) := by decide +kernel
theorem dX8_linger_1 : decode cX8_linger 1 = .ok (.iload_n 1, 1) := by decide +kernel
theorem dX8_linger_2 : decode cX8_linger 2 = .ok (.invokevirtual 150, 3) := by decide +kernel
theorem dX8_linger_5 : decode cX8_linger 5 = .ok (.ifCond .eq 11, 3) := by decide +kernel
theorem dX8_linger_8 : decode cX8_linger 8 = .ok (.aload_n 0, 1) := by decide +kernel
theorem dX8_linger_9 : decode cX8_linger 9 = .ok (.iload_n 2, 1) := by decide +kernel
theorem dX8_linger_10 : decode cX8_linger 10 = .ok (.invokevirtual 142, 3) := by decide +kernel
theorem dX8_linger_13 : decode cX8_linger 13 = .ok (.ifCond .ne 5, 3) := by decide +kernel
theorem dX8_linger_16 : decode cX8_linger 16 = .ok (.iconst (-1), 1) := by decide +kernel
theorem dX8_linger_17 : decode cX8_linger 17 = .ok (.ireturn, 1) := by decide +kernel
theorem dX8_linger_18 : decode cX8_linger 18 = .ok (.aload_n 0, 1) := by decide +kernel
theorem dX8_linger_19 : decode cX8_linger 19 = .ok (.iload_n 1, 1) := by decide +kernel
theorem dX8_linger_20 : decode cX8_linger 20 = .ok (.iload_n 2, 1) := by decide +kernel
theorem dX8_linger_21 : decode cX8_linger 21 = .ok (.invokevirtual 156, 3) := by decide +kernel
theorem dX8_linger_24 : decode cX8_linger 24 = .ok (.ifCond .ne 6, 3) := by decide +kernel
theorem dX8_linger_27 : decode cX8_linger 27 = .ok (.bipush (-2), 2) := by decide +kernel
theorem dX8_linger_29 : decode cX8_linger 29 = .ok (.ireturn, 1) := by decide +kernel
theorem dX8_linger_30 : decode cX8_linger 30 = .ok (.aload_n 0, 1) := by decide +kernel
theorem dX8_linger_31 : decode cX8_linger 31 = .ok (.iload_n 1, 1) := by decide +kernel
theorem dX8_linger_32 : decode cX8_linger 32 = .ok (.iload_n 2, 1) := by decide +kernel
theorem dX8_linger_33 : decode cX8_linger 33 = .ok (.iconst 1, 1) := by decide +kernel
theorem dX8_linger_34 : decode cX8_linger 34 = .ok (.invokevirtual 159, 3) := by decide +kernel
theorem dX8_linger_37 : decode cX8_linger 37 = .ok (.aload_n 0, 1) := by decide +kernel
theorem dX8_linger_38 : decode cX8_linger 38 = .ok (.getfield 37, 3) := by decide +kernel
theorem dX8_linger_41 : decode cX8_linger 41 = .ok (.iconst 0, 1) := by decide +kernel
theorem dX8_linger_42 : decode cX8_linger 42 = .ok (.dup2, 1) := by decide +kernel
theorem dX8_linger_43 : decode cX8_linger 43 = .ok (.iaload, 1) := by decide +kernel
theorem dX8_linger_44 : decode cX8_linger 44 = .ok (.iconst 1, 1) := by decide +kernel
theorem dX8_linger_45 : decode cX8_linger 45 = .ok (.iadd, 1) := by decide +kernel
theorem dX8_linger_46 : decode cX8_linger 46 = .ok (.iastore, 1) := by decide +kernel
theorem dX8_linger_47 : decode cX8_linger 47 = .ok (.aload_n 0, 1) := by decide +kernel
theorem dX8_linger_48 : decode cX8_linger 48 = .ok (.getfield 37, 3) := by decide +kernel
theorem dX8_linger_51 : decode cX8_linger 51 = .ok (.iconst 0, 1) := by decide +kernel
theorem dX8_linger_52 : decode cX8_linger 52 = .ok (.iaload, 1) := by decide +kernel
theorem dX8_linger_53 : decode cX8_linger 53 = .ok (.ireturn, 1) := by decide +kernel
theorem dX8_undo_0 : decode cX8_undo 0 = .ok (.aload_n 0, 1) := by decide +kernel
theorem dX8_undo_1 : decode cX8_undo 1 = .ok (.getfield 122, 3) := by decide +kernel
theorem dX8_undo_4 : decode cX8_undo 4 = .ok (.ifCond .ne 6, 3) := by decide +kernel
theorem dX8_undo_7 : decode cX8_undo 7 = .ok (.bipush (-2), 2) := by decide +kernel
theorem dX8_undo_9 : decode cX8_undo 9 = .ok (.ireturn, 1) := by decide +kernel
theorem dX8_undo_10 : decode cX8_undo 10 = .ok (.aload_n 0, 1) := by decide +kernel
theorem dX8_undo_11 : decode cX8_undo 11 = .ok (.dup, 1) := by decide +kernel
theorem dX8_undo_12 : decode cX8_undo 12 = .ok (.getfield 122, 3) := by decide +kernel
theorem dX8_undo_15 : decode cX8_undo 15 = .ok (.iconst 1, 1) := by decide +kernel
theorem dX8_undo_16 : decode cX8_undo 16 = .ok (.isub, 1) := by decide +kernel
theorem dX8_undo_17 : decode cX8_undo 17 = .ok (.putfield 122, 3) := by decide +kernel
theorem dX8_undo_20 : decode cX8_undo 20 = .ok (.aload_n 0, 1) := by decide +kernel
theorem dX8_undo_21 : decode cX8_undo 21 = .ok (.getfield 31, 3) := by decide +kernel
theorem dX8_undo_24 : decode cX8_undo 24 = .ok (.aload_n 0, 1) := by decide +kernel
theorem dX8_undo_25 : decode cX8_undo 25 = .ok (.getfield 40, 3) := by decide +kernel
theorem dX8_undo_28 : decode cX8_undo 28 = .ok (.iconst 4, 1) := by decide +kernel
theorem dX8_undo_29 : decode cX8_undo 29 = .ok (.aload_n 0, 1) := by decide +kernel
theorem dX8_undo_30 : decode cX8_undo 30 = .ok (.getfield 122, 3) := by decide +kernel
theorem dX8_undo_33 : decode cX8_undo 33 = .ok (.imul, 1) := by decide +kernel
theorem dX8_undo_34 : decode cX8_undo 34 = .ok (.iconst 1, 1) := by decide +kernel
theorem dX8_undo_35 : decode cX8_undo 35 = .ok (.iadd, 1) := by decide +kernel
theorem dX8_undo_36 : decode cX8_undo 36 = .ok (.iaload, 1) := by decide +kernel
theorem dX8_undo_37 : decode cX8_undo 37 = .ok (.dup2, 1) := by decide +kernel
theorem dX8_undo_38 : decode cX8_undo 38 = .ok (.iaload, 1) := by decide +kernel
theorem dX8_undo_39 : decode cX8_undo 39 = .ok (.iconst 1, 1) := by decide +kernel
theorem dX8_undo_40 : decode cX8_undo 40 = .ok (.isub, 1) := by decide +kernel
theorem dX8_undo_41 : decode cX8_undo 41 = .ok (.iastore, 1) := by decide +kernel
theorem dX8_undo_42 : decode cX8_undo 42 = .ok (.aload_n 0, 1) := by decide +kernel
theorem dX8_undo_43 : decode cX8_undo 43 = .ok (.getfield 34, 3) := by decide +kernel
theorem dX8_undo_46 : decode cX8_undo 46 = .ok (.aload_n 0, 1) := by decide +kernel
theorem dX8_undo_47 : decode cX8_undo 47 = .ok (.getfield 40, 3) := by decide +kernel
theorem dX8_undo_50 : decode cX8_undo 50 = .ok (.iconst 4, 1) := by decide +kernel
theorem dX8_undo_51 : decode cX8_undo 51 = .ok (.aload_n 0, 1) := by decide +kernel
theorem dX8_undo_52 : decode cX8_undo 52 = .ok (.getfield 122, 3) := by decide +kernel
theorem dX8_undo_55 : decode cX8_undo 55 = .ok (.imul, 1) := by decide +kernel
theorem dX8_undo_56 : decode cX8_undo 56 = .ok (.iaload, 1) := by decide +kernel
theorem dX8_undo_57 : decode cX8_undo 57 = .ok (.aload_n 0, 1) := by decide +kernel
theorem dX8_undo_58 : decode cX8_undo 58 = .ok (.getfield 40, 3) := by decide +kernel
theorem dX8_undo_61 : decode cX8_undo 61 = .ok (.iconst 4, 1) := by decide +kernel
theorem dX8_undo_62 : decode cX8_undo 62 = .ok (.aload_n 0, 1) := by decide +kernel
theorem dX8_undo_63 : decode cX8_undo 63 = .ok (.getfield 122, 3) := by decide +kernel
theorem dX8_undo_66 : decode cX8_undo 66 = .ok (.imul, 1) := by decide +kernel
theorem dX8_undo_67 : decode cX8_undo 67 = .ok (.iconst 2, 1) := by decide +kernel
theorem dX8_undo_68 : decode cX8_undo 68 = .ok (.iadd, 1) := by decide +kernel
theorem dX8_undo_69 : decode cX8_undo 69 = .ok (.iaload, 1) := by decide +kernel
theorem dX8_undo_70 : decode cX8_undo 70 = .ok (.iastore, 1) := by decide +kernel
theorem dX8_undo_71 : decode cX8_undo 71 = .ok (.aload_n 0, 1) := by decide +kernel
theorem dX8_undo_72 : decode cX8_undo 72 = .ok (.getfield 37, 3) := by decide +kernel
theorem dX8_undo_75 : decode cX8_undo 75 = .ok (.iconst 0, 1) := by decide +kernel
theorem dX8_undo_76 : decode cX8_undo 76 = .ok (.dup2, 1) := by decide +kernel
theorem dX8_undo_77 : decode cX8_undo 77 = .ok (.iaload, 1) := by decide +kernel
theorem dX8_undo_78 : decode cX8_undo 78 = .ok (.aload_n 0, 1) := by decide +kernel
theorem dX8_undo_79 : decode cX8_undo 79 = .ok (.getfield 40, 3) := by decide +kernel
theorem dX8_undo_82 : decode cX8_undo 82 = .ok (.iconst 4, 1) := by decide +kernel
theorem dX8_undo_83 : decode cX8_undo 83 = .ok (.aload_n 0, 1) := by decide +kernel
theorem dX8_undo_84 : decode cX8_undo 84 = .ok (.getfield 122, 3) := by decide +kernel
theorem dX8_undo_87 : decode cX8_undo 87 = .ok (.imul, 1) := by decide +kernel
theorem dX8_undo_88 : decode cX8_undo 88 = .ok (.iconst 3, 1) := by decide +kernel
theorem dX8_undo_89 : decode cX8_undo 89 = .ok (.iadd, 1) := by decide +kernel
theorem dX8_undo_90 : decode cX8_undo 90 = .ok (.iaload, 1) := by decide +kernel
theorem dX8_undo_91 : decode cX8_undo 91 = .ok (.isub, 1) := by decide +kernel
theorem dX8_undo_92 : decode cX8_undo 92 = .ok (.iastore, 1) := by decide +kernel
theorem dX8_undo_93 : decode cX8_undo 93 = .ok (.aload_n 0, 1) := by decide +kernel
theorem dX8_undo_94 : decode cX8_undo 94 = .ok (.getfield 122, 3) := by decide +kernel
theorem dX8_undo_97 : decode cX8_undo 97 = .ok (.ireturn, 1) := by decide +kernel
theorem dX8_rests_0 : decode cX8_rests 0 = .ok (.iload_n 0, 1) := by decide +kernel
theorem dX8_rests_1 : decode cX8_rests 1 = .ok (.iconst 2, 1) := by decide +kernel
theorem dX8_rests_2 : decode cX8_rests 2 = .ok (.if_icmp .ne 7, 3) := by decide +kernel
theorem dX8_rests_5 : decode cX8_rests 5 = .ok (.iconst 3, 1) := by decide +kernel
theorem dX8_rests_6 : decode cX8_rests 6 = .ok (.goto 13, 3) := by decide +kernel
theorem dX8_rests_9 : decode cX8_rests 9 = .ok (.iload_n 0, 1) := by decide +kernel
theorem dX8_rests_10 : decode cX8_rests 10 = .ok (.iconst 3, 1) := by decide +kernel
theorem dX8_rests_11 : decode cX8_rests 11 = .ok (.if_icmp .ne 7, 3) := by decide +kernel
theorem dX8_rests_14 : decode cX8_rests 14 = .ok (.iconst 1, 1) := by decide +kernel
theorem dX8_rests_15 : decode cX8_rests 15 = .ok (.goto 4, 3) := by decide +kernel
theorem dX8_rests_18 : decode cX8_rests 18 = .ok (.iconst 2, 1) := by decide +kernel
theorem dX8_rests_19 : decode cX8_rests 19 = .ok (.ireturn, 1) := by decide +kernel
set_option maxRecDepth 20000 in
theorem ggX8_code_X8_rests : GoodIn wsX8_code wsX8_rests := goodIn_r _ [9] (by decide +kernel) (by decide +kernel)
set_option maxRecDepth 20000 in
theorem gX8_code_X8_rests : GoodIn wsX8_code (va_wsS RX8 166 yX8_rests wsX8_rests) := goodIn_app (goodIn_of _ (by decide +kernel)) ggX8_code_X8_rests
theorem dX8_code_0 : decode cX8_code 0 = .ok (.iconst 0, 1) := by decide +kernel
theorem dX8_code_1 : decode cX8_code 1 = .ok (.istore_n 1, 1) := by decide +kernel
theorem dX8_code_2 : decode cX8_code 2 = .ok (.iconst 0, 1) := by decide +kernel
theorem dX8_code_3 : decode cX8_code 3 = .ok (.istore_n 2, 1) := by decide +kernel
theorem dX8_code_4 : decode cX8_code 4 = .ok (.iload_n 2, 1) := by decide +kernel
theorem dX8_code_5 : decode cX8_code 5 = .ok (.aload_n 0, 1) := by decide +kernel
theorem dX8_code_6 : decode cX8_code 6 = .ok (.getfield 13, 3) := by decide +kernel
theorem dX8_code_9 : decode cX8_code 9 = .ok (.iconst 0, 1) := by decide +kernel
theorem dX8_code_10 : decode cX8_code 10 = .ok (.iaload, 1) := by decide +kernel
theorem dX8_code_11 : decode cX8_code 11 = .ok (.if_icmp .ge 38, 3) := by decide +kernel
theorem dX8_code_14 : decode cX8_code 14 = .ok (.iload_n 1, 1) := by decide +kernel
theorem dX8_code_15 : decode cX8_code 15 = .ok (.aload_n 0, 1) := by decide +kernel
theorem dX8_code_16 : decode cX8_code 16 = .ok (.getfield 22, 3) := by decide +kernel
theorem dX8_code_19 : decode cX8_code 19 = .ok (.iload_n 2, 1) := by decide +kernel
theorem dX8_code_20 : decode cX8_code 20 = .ok (.iaload, 1) := by decide +kernel
theorem dX8_code_21 : decode cX8_code 21 = .ok (.invokestatic 166, 3) := by decide +kernel
theorem dX8_code_24 : decode cX8_code 24 = .ok (.imul, 1) := by decide +kernel
theorem dX8_code_25 : decode cX8_code 25 = .ok (.aload_n 0, 1) := by decide +kernel
theorem dX8_code_26 : decode cX8_code 26 = .ok (.getfield 55, 3) := by decide +kernel
theorem dX8_code_29 : decode cX8_code 29 = .ok (.iload_n 2, 1) := by decide +kernel
theorem dX8_code_30 : decode cX8_code 30 = .ok (.iaload, 1) := by decide +kernel
theorem dX8_code_31 : decode cX8_code 31 = .ok (.aload_n 0, 1) := by decide +kernel
theorem dX8_code_32 : decode cX8_code 32 = .ok (.getfield 22, 3) := by decide +kernel
theorem dX8_code_35 : decode cX8_code 35 = .ok (.iload_n 2, 1) := by decide +kernel
theorem dX8_code_36 : decode cX8_code 36 = .ok (.iaload, 1) := by decide +kernel
theorem dX8_code_37 : decode cX8_code 37 = .ok (.invokestatic 166, 3) := by decide +kernel
theorem dX8_code_40 : decode cX8_code 40 = .ok (.irem, 1) := by decide +kernel
theorem dX8_code_41 : decode cX8_code 41 = .ok (.iadd, 1) := by decide +kernel
theorem dX8_code_42 : decode cX8_code 42 = .ok (.istore_n 1, 1) := by decide +kernel
theorem dX8_code_43 : decode cX8_code 43 = .ok (.iinc 2 1, 3) := by decide +kernel
theorem dX8_code_46 : decode cX8_code 46 = .ok (.goto (-42), 3) := by decide +kernel
theorem dX8_code_49 : decode cX8_code 49 = .ok (.iconst 0, 1) := by decide +kernel
theorem dX8_code_50 : decode cX8_code 50 = .ok (.istore_n 2, 1) := by decide +kernel
theorem dX8_code_51 : decode cX8_code 51 = .ok (.iload_n 2, 1) := by decide +kernel
theorem dX8_code_52 : decode cX8_code 52 = .ok (.aload_n 0, 1) := by decide +kernel
theorem dX8_code_53 : decode cX8_code 53 = .ok (.getfield 169, 3) := by decide +kernel
theorem dX8_code_56 : decode cX8_code 56 = .ok (.if_icmp .ge 20, 3) := by decide +kernel
theorem dX8_code_59 : decode cX8_code 59 = .ok (.iconst 5, 1) := by decide +kernel
theorem dX8_code_60 : decode cX8_code 60 = .ok (.iload_n 1, 1) := by decide +kernel
theorem dX8_code_61 : decode cX8_code 61 = .ok (.imul, 1) := by decide +kernel
theorem dX8_code_62 : decode cX8_code 62 = .ok (.aload_n 0, 1) := by decide +kernel
theorem dX8_code_63 : decode cX8_code 63 = .ok (.getfield 58, 3) := by decide +kernel
theorem dX8_code_66 : decode cX8_code 66 = .ok (.iload_n 2, 1) := by decide +kernel
theorem dX8_code_67 : decode cX8_code 67 = .ok (.iaload, 1) := by decide +kernel
theorem dX8_code_68 : decode cX8_code 68 = .ok (.iadd, 1) := by decide +kernel
theorem dX8_code_69 : decode cX8_code 69 = .ok (.istore_n 1, 1) := by decide +kernel
theorem dX8_code_70 : decode cX8_code 70 = .ok (.iinc 2 1, 3) := by decide +kernel
theorem dX8_code_73 : decode cX8_code 73 = .ok (.goto (-22), 3) := by decide +kernel
theorem dX8_code_76 : decode cX8_code 76 = .ok (.iload_n 1, 1) := by decide +kernel
theorem dX8_code_77 : decode cX8_code 77 = .ok (.ireturn, 1) := by decide +kernel
set_option maxRecDepth 20000 in
theorem ggX8_take_X8_rests : GoodIn wsX8_take wsX8_rests := goodIn_r _ [9] (by decide +kernel) (by decide +kernel)
set_option maxRecDepth 20000 in
theorem gX8_take_X8_rests : GoodIn wsX8_take (va_wsS RX8 166 yX8_rests wsX8_rests) := goodIn_app (goodIn_of _ (by decide +kernel)) ggX8_take_X8_rests
theorem dX8_take_0 : decode cX8_take 0 = .ok (.iload_n 1, 1) := by decide +kernel
theorem dX8_take_1 : decode cX8_take 1 = .ok (.istore_n 2, 1) := by decide +kernel
theorem dX8_take_2 : decode cX8_take 2 = .ok (.aload_n 0, 1) := by decide +kernel
theorem dX8_take_3 : decode cX8_take 3 = .ok (.getfield 169, 3) := by decide +kernel
theorem dX8_take_6 : decode cX8_take 6 = .ok (.iconst 1, 1) := by decide +kernel
theorem dX8_take_7 : decode cX8_take 7 = .ok (.isub, 1) := by decide +kernel
theorem dX8_take_8 : decode cX8_take 8 = .ok (.istore_n 3, 1) := by decide +kernel
theorem dX8_take_9 : decode cX8_take 9 = .ok (.iload_n 3, 1) := by decide +kernel
theorem dX8_take_10 : decode cX8_take 10 = .ok (.ifCond .lt 22, 3) := by decide +kernel
theorem dX8_take_13 : decode cX8_take 13 = .ok (.aload_n 0, 1) := by decide +kernel
theorem dX8_take_14 : decode cX8_take 14 = .ok (.getfield 58, 3) := by decide +kernel
theorem dX8_take_17 : decode cX8_take 17 = .ok (.iload_n 3, 1) := by decide +kernel
theorem dX8_take_18 : decode cX8_take 18 = .ok (.iload_n 2, 1) := by decide +kernel
theorem dX8_take_19 : decode cX8_take 19 = .ok (.iconst 5, 1) := by decide +kernel
theorem dX8_take_20 : decode cX8_take 20 = .ok (.irem, 1) := by decide +kernel
theorem dX8_take_21 : decode cX8_take 21 = .ok (.iastore, 1) := by decide +kernel
theorem dX8_take_22 : decode cX8_take 22 = .ok (.iload_n 2, 1) := by decide +kernel
theorem dX8_take_23 : decode cX8_take 23 = .ok (.iconst 5, 1) := by decide +kernel
theorem dX8_take_24 : decode cX8_take 24 = .ok (.idiv, 1) := by decide +kernel
theorem dX8_take_25 : decode cX8_take 25 = .ok (.istore_n 2, 1) := by decide +kernel
theorem dX8_take_26 : decode cX8_take 26 = .ok (.iinc 3 (-1), 3) := by decide +kernel
theorem dX8_take_29 : decode cX8_take 29 = .ok (.goto (-20), 3) := by decide +kernel
theorem dX8_take_32 : decode cX8_take 32 = .ok (.aload_n 0, 1) := by decide +kernel
theorem dX8_take_33 : decode cX8_take 33 = .ok (.getfield 13, 3) := by decide +kernel
theorem dX8_take_36 : decode cX8_take 36 = .ok (.iconst 0, 1) := by decide +kernel
theorem dX8_take_37 : decode cX8_take 37 = .ok (.iaload, 1) := by decide +kernel
theorem dX8_take_38 : decode cX8_take 38 = .ok (.iconst 1, 1) := by decide +kernel
theorem dX8_take_39 : decode cX8_take 39 = .ok (.isub, 1) := by decide +kernel
theorem dX8_take_40 : decode cX8_take 40 = .ok (.istore_n 3, 1) := by decide +kernel
theorem dX8_take_41 : decode cX8_take 41 = .ok (.iload_n 3, 1) := by decide +kernel
theorem dX8_take_42 : decode cX8_take 42 = .ok (.ifCond .lt 38, 3) := by decide +kernel
theorem dX8_take_45 : decode cX8_take 45 = .ok (.aload_n 0, 1) := by decide +kernel
theorem dX8_take_46 : decode cX8_take 46 = .ok (.getfield 55, 3) := by decide +kernel
theorem dX8_take_49 : decode cX8_take 49 = .ok (.iload_n 3, 1) := by decide +kernel
theorem dX8_take_50 : decode cX8_take 50 = .ok (.iload_n 2, 1) := by decide +kernel
theorem dX8_take_51 : decode cX8_take 51 = .ok (.aload_n 0, 1) := by decide +kernel
theorem dX8_take_52 : decode cX8_take 52 = .ok (.getfield 22, 3) := by decide +kernel
theorem dX8_take_55 : decode cX8_take 55 = .ok (.iload_n 3, 1) := by decide +kernel
theorem dX8_take_56 : decode cX8_take 56 = .ok (.iaload, 1) := by decide +kernel
theorem dX8_take_57 : decode cX8_take 57 = .ok (.invokestatic 166, 3) := by decide +kernel
theorem dX8_take_60 : decode cX8_take 60 = .ok (.irem, 1) := by decide +kernel
theorem dX8_take_61 : decode cX8_take 61 = .ok (.iastore, 1) := by decide +kernel
theorem dX8_take_62 : decode cX8_take 62 = .ok (.iload_n 2, 1) := by decide +kernel
theorem dX8_take_63 : decode cX8_take 63 = .ok (.aload_n 0, 1) := by decide +kernel
theorem dX8_take_64 : decode cX8_take 64 = .ok (.getfield 22, 3) := by decide +kernel
theorem dX8_take_67 : decode cX8_take 67 = .ok (.iload_n 3, 1) := by decide +kernel
theorem dX8_take_68 : decode cX8_take 68 = .ok (.iaload, 1) := by decide +kernel
theorem dX8_take_69 : decode cX8_take 69 = .ok (.invokestatic 166, 3) := by decide +kernel
theorem dX8_take_72 : decode cX8_take 72 = .ok (.idiv, 1) := by decide +kernel
theorem dX8_take_73 : decode cX8_take 73 = .ok (.istore_n 2, 1) := by decide +kernel
theorem dX8_take_74 : decode cX8_take 74 = .ok (.iinc 3 (-1), 3) := by decide +kernel
theorem dX8_take_77 : decode cX8_take 77 = .ok (.goto (-36), 3) := by decide +kernel
theorem dX8_take_80 : decode cX8_take 80 = .ok (.return_, 1) := by decide +kernel
set_option maxRecDepth 20000 in
theorem ggX8_search_X8_code : GoodIn wsX8_search wsX8_code := goodIn_r _ [13, 6, 14, 8, 1, 7, 15, 16, 12, 17, 40, 41, 42, 43, 44, 45, 46, 47, 48, 49, 50, 51, 52, 53, 54, 55, 56, 57, 58, 59, 60, 61, 62, 63, 64, 65, 66, 67, 68, 69] (by decide +kernel) (by decide +kernel)
set_option maxRecDepth 20000 in
theorem gX8_search_X8_code : GoodIn wsX8_search (wsV RX8 172 RX8 yX8_code wsX8_code) := goodIn_app (goodIn_of _ (by decide +kernel)) ggX8_search_X8_code
set_option maxRecDepth 20000 in
theorem ggX8_search_X8_take : GoodIn wsX8_search wsX8_take := goodIn_r _ [21, 1, 7, 6, 8, 14, 15, 16, 12, 17, 40, 41, 42, 43, 44, 45, 46, 47, 48, 49, 50, 51, 52, 53, 54, 55, 56, 57, 58, 59, 60, 61, 62, 63, 64, 65, 66, 67, 68, 69] (by decide +kernel) (by decide +kernel)
set_option maxRecDepth 20000 in
theorem gX8_search_X8_take : GoodIn wsX8_search (wsV RX8 178 RX8 yX8_take wsX8_take) := goodIn_app (goodIn_of _ (by decide +kernel)) ggX8_search_X8_take
set_option maxRecDepth 20000 in
theorem ggX8_search_X8_canPass : GoodIn wsX8_search wsX8_canPass := goodIn_r _ [25, 26, 27, 28, 12, 29, 30, 31, 32, 33, 34, 35, 14, 8, 40, 41, 42, 43, 44, 45, 46, 47, 48, 49, 50, 51, 52, 53, 54, 55, 56, 57, 58, 59, 60, 61, 62, 63, 64, 65, 66, 67, 68, 69] (by decide +kernel) (by decide +kernel)
set_option maxRecDepth 20000 in
theorem gX8_search_X8_canPass : GoodIn wsX8_search (wsV RX8 153 RX8 yX8_canPass wsX8_canPass) := goodIn_app (goodIn_of _ (by decide +kernel)) ggX8_search_X8_canPass
set_option maxRecDepth 20000 in
theorem ggX8_search_X8_beyond : GoodIn wsX8_search wsX8_beyond := goodIn_r _ [39, 30, 31, 40, 41, 42, 43, 44, 45, 46, 47, 48, 49, 50, 51, 52, 53, 54, 55, 56, 57, 58, 59, 60, 61, 62, 63, 64, 65, 66, 67, 68, 69] (by decide +kernel) (by decide +kernel)
set_option maxRecDepth 20000 in
theorem gX8_search_X8_beyond : GoodIn wsX8_search (wsV RX8 163 RX8 yX8_beyond wsX8_beyond) := goodIn_app (goodIn_of _ (by decide +kernel)) ggX8_search_X8_beyond
theorem dX8_search_0 : decode cX8_search 0 = .ok (.aload_n 0, 1) := by decide +kernel
theorem dX8_search_1 : decode cX8_search 1 = .ok (.iload_n 1, 1) := by decide +kernel
theorem dX8_search_2 : decode cX8_search 2 = .ok (.putfield 169, 3) := by decide +kernel
theorem dX8_search_5 : decode cX8_search 5 = .ok (.iconst 0, 1) := by decide +kernel
theorem dX8_search_6 : decode cX8_search 6 = .ok (.istore_n 2, 1) := by decide +kernel
theorem dX8_search_7 : decode cX8_search 7 = .ok (.iload_n 2, 1) := by decide +kernel
theorem dX8_search_8 : decode cX8_search 8 = .ok (.sipush 30400, 3) := by decide +kernel
theorem dX8_search_11 : decode cX8_search 11 = .ok (.if_icmp .ge 17, 3) := by decide +kernel
theorem dX8_search_14 : decode cX8_search 14 = .ok (.aload_n 0, 1) := by decide +kernel
theorem dX8_search_15 : decode cX8_search 15 = .ok (.getfield 61, 3) := by decide +kernel
theorem dX8_search_18 : decode cX8_search 18 = .ok (.iload_n 2, 1) := by decide +kernel
theorem dX8_search_19 : decode cX8_search 19 = .ok (.bipush (-4), 2) := by decide +kernel
theorem dX8_search_21 : decode cX8_search 21 = .ok (.iastore, 1) := by decide +kernel
theorem dX8_search_22 : decode cX8_search 22 = .ok (.iinc 2 1, 3) := by decide +kernel
theorem dX8_search_25 : decode cX8_search 25 = .ok (.goto (-18), 3) := by decide +kernel
theorem dX8_search_28 : decode cX8_search 28 = .ok (.aload_n 0, 1) := by decide +kernel
theorem dX8_search_29 : decode cX8_search 29 = .ok (.getfield 64, 3) := by decide +kernel
theorem dX8_search_32 : decode cX8_search 32 = .ok (.iconst 0, 1) := by decide +kernel
theorem dX8_search_33 : decode cX8_search 33 = .ok (.aload_n 0, 1) := by decide +kernel
theorem dX8_search_34 : decode cX8_search 34 = .ok (.invokevirtual 172, 3) := by decide +kernel
theorem dX8_search_37 : decode cX8_search 37 = .ok (.iastore, 1) := by decide +kernel
theorem dX8_search_38 : decode cX8_search 38 = .ok (.aload_n 0, 1) := by decide +kernel
theorem dX8_search_39 : decode cX8_search 39 = .ok (.getfield 61, 3) := by decide +kernel
theorem dX8_search_42 : decode cX8_search 42 = .ok (.aload_n 0, 1) := by decide +kernel
theorem dX8_search_43 : decode cX8_search 43 = .ok (.getfield 64, 3) := by decide +kernel
theorem dX8_search_46 : decode cX8_search 46 = .ok (.iconst 0, 1) := by decide +kernel
theorem dX8_search_47 : decode cX8_search 47 = .ok (.iaload, 1) := by decide +kernel
theorem dX8_search_48 : decode cX8_search 48 = .ok (.iconst 0, 1) := by decide +kernel
theorem dX8_search_49 : decode cX8_search 49 = .ok (.iastore, 1) := by decide +kernel
theorem dX8_search_50 : decode cX8_search 50 = .ok (.aload_n 0, 1) := by decide +kernel
theorem dX8_search_51 : decode cX8_search 51 = .ok (.getfield 67, 3) := by decide +kernel
theorem dX8_search_54 : decode cX8_search 54 = .ok (.aload_n 0, 1) := by decide +kernel
theorem dX8_search_55 : decode cX8_search 55 = .ok (.getfield 64, 3) := by decide +kernel
theorem dX8_search_58 : decode cX8_search 58 = .ok (.iconst 0, 1) := by decide +kernel
theorem dX8_search_59 : decode cX8_search 59 = .ok (.iaload, 1) := by decide +kernel
theorem dX8_search_60 : decode cX8_search 60 = .ok (.bipush (-4), 2) := by decide +kernel
theorem dX8_search_62 : decode cX8_search 62 = .ok (.iastore, 1) := by decide +kernel
theorem dX8_search_63 : decode cX8_search 63 = .ok (.aload_n 0, 1) := by decide +kernel
theorem dX8_search_64 : decode cX8_search 64 = .ok (.iconst 1, 1) := by decide +kernel
theorem dX8_search_65 : decode cX8_search 65 = .ok (.putfield 175, 3) := by decide +kernel
theorem dX8_search_68 : decode cX8_search 68 = .ok (.iconst 0, 1) := by decide +kernel
theorem dX8_search_69 : decode cX8_search 69 = .ok (.istore_n 2, 1) := by decide +kernel
theorem dX8_search_70 : decode cX8_search 70 = .ok (.iload_n 2, 1) := by decide +kernel
theorem dX8_search_71 : decode cX8_search 71 = .ok (.aload_n 0, 1) := by decide +kernel
theorem dX8_search_72 : decode cX8_search 72 = .ok (.getfield 175, 3) := by decide +kernel
theorem dX8_search_75 : decode cX8_search 75 = .ok (.if_icmp .ge 192, 3) := by decide +kernel
theorem dX8_search_78 : decode cX8_search 78 = .ok (.aload_n 0, 1) := by decide +kernel
theorem dX8_search_79 : decode cX8_search 79 = .ok (.getfield 64, 3) := by decide +kernel
theorem dX8_search_82 : decode cX8_search 82 = .ok (.iload_n 2, 1) := by decide +kernel
theorem dX8_search_83 : decode cX8_search 83 = .ok (.iaload, 1) := by decide +kernel
theorem dX8_search_84 : decode cX8_search 84 = .ok (.istore_n 3, 1) := by decide +kernel
theorem dX8_search_85 : decode cX8_search 85 = .ok (.iconst 0, 1) := by decide +kernel
theorem dX8_search_86 : decode cX8_search 86 = .ok (.istore 4, 2) := by decide +kernel
theorem dX8_search_88 : decode cX8_search 88 = .ok (.iload 4, 2) := by decide +kernel
theorem dX8_search_90 : decode cX8_search 90 = .ok (.iload_n 1, 1) := by decide +kernel
theorem dX8_search_91 : decode cX8_search 91 = .ok (.aload_n 0, 1) := by decide +kernel
theorem dX8_search_92 : decode cX8_search 92 = .ok (.getfield 13, 3) := by decide +kernel
theorem dX8_search_95 : decode cX8_search 95 = .ok (.iconst 0, 1) := by decide +kernel
theorem dX8_search_96 : decode cX8_search 96 = .ok (.iaload, 1) := by decide +kernel
theorem dX8_search_97 : decode cX8_search 97 = .ok (.imul, 1) := by decide +kernel
theorem dX8_search_98 : decode cX8_search 98 = .ok (.if_icmp .ge 163, 3) := by decide +kernel
theorem dX8_search_101 : decode cX8_search 101 = .ok (.iload 4, 2) := by decide +kernel
theorem dX8_search_103 : decode cX8_search 103 = .ok (.aload_n 0, 1) := by decide +kernel
theorem dX8_search_104 : decode cX8_search 104 = .ok (.getfield 13, 3) := by decide +kernel
theorem dX8_search_107 : decode cX8_search 107 = .ok (.iconst 0, 1) := by decide +kernel
theorem dX8_search_108 : decode cX8_search 108 = .ok (.iaload, 1) := by decide +kernel
theorem dX8_search_109 : decode cX8_search 109 = .ok (.idiv, 1) := by decide +kernel
theorem dX8_search_110 : decode cX8_search 110 = .ok (.istore 5, 2) := by decide +kernel
theorem dX8_search_112 : decode cX8_search 112 = .ok (.iload 4, 2) := by decide +kernel
theorem dX8_search_114 : decode cX8_search 114 = .ok (.aload_n 0, 1) := by decide +kernel
theorem dX8_search_115 : decode cX8_search 115 = .ok (.getfield 13, 3) := by decide +kernel
theorem dX8_search_118 : decode cX8_search 118 = .ok (.iconst 0, 1) := by decide +kernel
theorem dX8_search_119 : decode cX8_search 119 = .ok (.iaload, 1) := by decide +kernel
theorem dX8_search_120 : decode cX8_search 120 = .ok (.irem, 1) := by decide +kernel
theorem dX8_search_121 : decode cX8_search 121 = .ok (.istore 6, 2) := by decide +kernel
theorem dX8_search_123 : decode cX8_search 123 = .ok (.aload_n 0, 1) := by decide +kernel
theorem dX8_search_124 : decode cX8_search 124 = .ok (.iload_n 3, 1) := by decide +kernel
theorem dX8_search_125 : decode cX8_search 125 = .ok (.invokevirtual 178, 3) := by decide +kernel
theorem dX8_search_128 : decode cX8_search 128 = .ok (.aload_n 0, 1) := by decide +kernel
theorem dX8_search_129 : decode cX8_search 129 = .ok (.aload_n 0, 1) := by decide +kernel
theorem dX8_search_130 : decode cX8_search 130 = .ok (.getfield 58, 3) := by decide +kernel
theorem dX8_search_133 : decode cX8_search 133 = .ok (.iload 5, 2) := by decide +kernel
theorem dX8_search_135 : decode cX8_search 135 = .ok (.iaload, 1) := by decide +kernel
theorem dX8_search_136 : decode cX8_search 136 = .ok (.iload 6, 2) := by decide +kernel
theorem dX8_search_138 : decode cX8_search 138 = .ok (.invokevirtual 153, 3) := by decide +kernel
theorem dX8_search_141 : decode cX8_search 141 = .ok (.ifCond .eq 114, 3) := by decide +kernel
theorem dX8_search_144 : decode cX8_search 144 = .ok (.aload_n 0, 1) := by decide +kernel
theorem dX8_search_145 : decode cX8_search 145 = .ok (.getfield 55, 3) := by decide +kernel
theorem dX8_search_148 : decode cX8_search 148 = .ok (.iload 6, 2) := by decide +kernel
theorem dX8_search_150 : decode cX8_search 150 = .ok (.dup2, 1) := by decide +kernel
theorem dX8_search_151 : decode cX8_search 151 = .ok (.iaload, 1) := by decide +kernel
theorem dX8_search_152 : decode cX8_search 152 = .ok (.iconst 1, 1) := by decide +kernel
theorem dX8_search_153 : decode cX8_search 153 = .ok (.iadd, 1) := by decide +kernel
theorem dX8_search_154 : decode cX8_search 154 = .ok (.iastore, 1) := by decide +kernel
theorem dX8_search_155 : decode cX8_search 155 = .ok (.aload_n 0, 1) := by decide +kernel
theorem dX8_search_156 : decode cX8_search 156 = .ok (.getfield 58, 3) := by decide +kernel
theorem dX8_search_159 : decode cX8_search 159 = .ok (.iload 5, 2) := by decide +kernel
theorem dX8_search_161 : decode cX8_search 161 = .ok (.aload_n 0, 1) := by decide +kernel
theorem dX8_search_162 : decode cX8_search 162 = .ok (.iload 6, 2) := by decide +kernel
theorem dX8_search_164 : decode cX8_search 164 = .ok (.aload_n 0, 1) := by decide +kernel
theorem dX8_search_165 : decode cX8_search 165 = .ok (.getfield 58, 3) := by decide +kernel
theorem dX8_search_168 : decode cX8_search 168 = .ok (.iload 5, 2) := by decide +kernel
theorem dX8_search_170 : decode cX8_search 170 = .ok (.iaload, 1) := by decide +kernel
theorem dX8_search_171 : decode cX8_search 171 = .ok (.invokevirtual 163, 3) := by decide +kernel
theorem dX8_search_174 : decode cX8_search 174 = .ok (.iastore, 1) := by decide +kernel
theorem dX8_search_175 : decode cX8_search 175 = .ok (.aload_n 0, 1) := by decide +kernel
theorem dX8_search_176 : decode cX8_search 176 = .ok (.invokevirtual 172, 3) := by decide +kernel
theorem dX8_search_179 : decode cX8_search 179 = .ok (.istore 7, 2) := by decide +kernel
theorem dX8_search_181 : decode cX8_search 181 = .ok (.aload_n 0, 1) := by decide +kernel
theorem dX8_search_182 : decode cX8_search 182 = .ok (.getfield 61, 3) := by decide +kernel
theorem dX8_search_185 : decode cX8_search 185 = .ok (.iload 7, 2) := by decide +kernel
theorem dX8_search_187 : decode cX8_search 187 = .ok (.iaload, 1) := by decide +kernel
theorem dX8_search_188 : decode cX8_search 188 = .ok (.ifCond .ge 67, 3) := by decide +kernel
theorem dX8_search_191 : decode cX8_search 191 = .ok (.aload_n 0, 1) := by decide +kernel
theorem dX8_search_192 : decode cX8_search 192 = .ok (.getfield 61, 3) := by decide +kernel
theorem dX8_search_195 : decode cX8_search 195 = .ok (.iload 7, 2) := by decide +kernel
theorem dX8_search_197 : decode cX8_search 197 = .ok (.aload_n 0, 1) := by decide +kernel
theorem dX8_search_198 : decode cX8_search 198 = .ok (.getfield 61, 3) := by decide +kernel
theorem dX8_search_201 : decode cX8_search 201 = .ok (.iload_n 3, 1) := by decide +kernel
theorem dX8_search_202 : decode cX8_search 202 = .ok (.iaload, 1) := by decide +kernel
theorem dX8_search_203 : decode cX8_search 203 = .ok (.iconst 1, 1) := by decide +kernel
theorem dX8_search_204 : decode cX8_search 204 = .ok (.iadd, 1) := by decide +kernel
theorem dX8_search_205 : decode cX8_search 205 = .ok (.iastore, 1) := by decide +kernel
theorem dX8_search_206 : decode cX8_search 206 = .ok (.aload_n 0, 1) := by decide +kernel
theorem dX8_search_207 : decode cX8_search 207 = .ok (.getfield 67, 3) := by decide +kernel
theorem dX8_search_210 : decode cX8_search 210 = .ok (.iload 7, 2) := by decide +kernel
theorem dX8_search_212 : decode cX8_search 212 = .ok (.iload_n 2, 1) := by decide +kernel
theorem dX8_search_213 : decode cX8_search 213 = .ok (.ifCond .ne 14, 3) := by decide +kernel
theorem dX8_search_216 : decode cX8_search 216 = .ok (.bipush 10, 2) := by decide +kernel
theorem dX8_search_218 : decode cX8_search 218 = .ok (.iload 5, 2) := by decide +kernel
theorem dX8_search_220 : decode cX8_search 220 = .ok (.imul, 1) := by decide +kernel
theorem dX8_search_221 : decode cX8_search 221 = .ok (.iload 6, 2) := by decide +kernel
theorem dX8_search_223 : decode cX8_search 223 = .ok (.iadd, 1) := by decide +kernel
theorem dX8_search_224 : decode cX8_search 224 = .ok (.goto 9, 3) := by decide +kernel
theorem dX8_search_227 : decode cX8_search 227 = .ok (.aload_n 0, 1) := by decide +kernel
theorem dX8_search_228 : decode cX8_search 228 = .ok (.getfield 67, 3) := by decide +kernel
theorem dX8_search_231 : decode cX8_search 231 = .ok (.iload_n 3, 1) := by decide +kernel
theorem dX8_search_232 : decode cX8_search 232 = .ok (.iaload, 1) := by decide +kernel
theorem dX8_search_233 : decode cX8_search 233 = .ok (.iastore, 1) := by decide +kernel
theorem dX8_search_234 : decode cX8_search 234 = .ok (.aload_n 0, 1) := by decide +kernel
theorem dX8_search_235 : decode cX8_search 235 = .ok (.getfield 64, 3) := by decide +kernel
theorem dX8_search_238 : decode cX8_search 238 = .ok (.aload_n 0, 1) := by decide +kernel
theorem dX8_search_239 : decode cX8_search 239 = .ok (.getfield 175, 3) := by decide +kernel
theorem dX8_search_242 : decode cX8_search 242 = .ok (.iload 7, 2) := by decide +kernel
theorem dX8_search_244 : decode cX8_search 244 = .ok (.iastore, 1) := by decide +kernel
theorem dX8_search_245 : decode cX8_search 245 = .ok (.aload_n 0, 1) := by decide +kernel
theorem dX8_search_246 : decode cX8_search 246 = .ok (.dup, 1) := by decide +kernel
theorem dX8_search_247 : decode cX8_search 247 = .ok (.getfield 175, 3) := by decide +kernel
theorem dX8_search_250 : decode cX8_search 250 = .ok (.iconst 1, 1) := by decide +kernel
theorem dX8_search_251 : decode cX8_search 251 = .ok (.iadd, 1) := by decide +kernel
theorem dX8_search_252 : decode cX8_search 252 = .ok (.putfield 175, 3) := by decide +kernel
theorem dX8_search_255 : decode cX8_search 255 = .ok (.iinc 4 1, 3) := by decide +kernel
theorem dX8_search_258 : decode cX8_search 258 = .ok (.goto (-170), 3) := by decide +kernel
theorem dX8_search_261 : decode cX8_search 261 = .ok (.iinc 2 1, 3) := by decide +kernel
theorem dX8_search_264 : decode cX8_search 264 = .ok (.goto (-194), 3) := by decide +kernel
theorem dX8_search_267 : decode cX8_search 267 = .ok (.return_, 1) := by decide +kernel
theorem dX8_areThere_0 : decode cX8_areThere 0 = .ok (.iconst 0, 1) := by decide +kernel
theorem dX8_areThere_1 : decode cX8_areThere 1 = .ok (.istore_n 3, 1) := by decide +kernel
theorem dX8_areThere_2 : decode cX8_areThere 2 = .ok (.iconst 0, 1) := by decide +kernel
theorem dX8_areThere_3 : decode cX8_areThere 3 = .ok (.istore 4, 2) := by decide +kernel
theorem dX8_areThere_5 : decode cX8_areThere 5 = .ok (.iload 4, 2) := by decide +kernel
theorem dX8_areThere_7 : decode cX8_areThere 7 = .ok (.aload_n 0, 1) := by decide +kernel
theorem dX8_areThere_8 : decode cX8_areThere 8 = .ok (.getfield 169, 3) := by decide +kernel
theorem dX8_areThere_11 : decode cX8_areThere 11 = .ok (.if_icmp .ge 28, 3) := by decide +kernel
theorem dX8_areThere_14 : decode cX8_areThere 14 = .ok (.iload_n 3, 1) := by decide +kernel
theorem dX8_areThere_15 : decode cX8_areThere 15 = .ok (.aload_n 0, 1) := by decide +kernel
theorem dX8_areThere_16 : decode cX8_areThere 16 = .ok (.getfield 58, 3) := by decide +kernel
theorem dX8_areThere_19 : decode cX8_areThere 19 = .ok (.iload 4, 2) := by decide +kernel
theorem dX8_areThere_21 : decode cX8_areThere 21 = .ok (.iaload, 1) := by decide +kernel
theorem dX8_areThere_22 : decode cX8_areThere 22 = .ok (.iload_n 1, 1) := by decide +kernel
theorem dX8_areThere_23 : decode cX8_areThere 23 = .ok (.if_icmp .ne 7, 3) := by decide +kernel
theorem dX8_areThere_26 : decode cX8_areThere 26 = .ok (.iconst 1, 1) := by decide +kernel
theorem dX8_areThere_27 : decode cX8_areThere 27 = .ok (.goto 4, 3) := by decide +kernel
theorem dX8_areThere_30 : decode cX8_areThere 30 = .ok (.iconst 0, 1) := by decide +kernel
theorem dX8_areThere_31 : decode cX8_areThere 31 = .ok (.iadd, 1) := by decide +kernel
theorem dX8_areThere_32 : decode cX8_areThere 32 = .ok (.istore_n 3, 1) := by decide +kernel
theorem dX8_areThere_33 : decode cX8_areThere 33 = .ok (.iinc 4 1, 3) := by decide +kernel
theorem dX8_areThere_36 : decode cX8_areThere 36 = .ok (.goto (-31), 3) := by decide +kernel
theorem dX8_areThere_39 : decode cX8_areThere 39 = .ok (.iload_n 2, 1) := by decide +kernel
theorem dX8_areThere_40 : decode cX8_areThere 40 = .ok (.ifCond .eq 19, 3) := by decide +kernel
theorem dX8_areThere_43 : decode cX8_areThere 43 = .ok (.iload_n 3, 1) := by decide +kernel
theorem dX8_areThere_44 : decode cX8_areThere 44 = .ok (.aload_n 0, 1) := by decide +kernel
theorem dX8_areThere_45 : decode cX8_areThere 45 = .ok (.getfield 169, 3) := by decide +kernel
theorem dX8_areThere_48 : decode cX8_areThere 48 = .ok (.if_icmp .ne 7, 3) := by decide +kernel
theorem dX8_areThere_51 : decode cX8_areThere 51 = .ok (.iconst 1, 1) := by decide +kernel
theorem dX8_areThere_52 : decode cX8_areThere 52 = .ok (.goto 16, 3) := by decide +kernel
theorem dX8_areThere_55 : decode cX8_areThere 55 = .ok (.iconst 0, 1) := by decide +kernel
theorem dX8_areThere_56 : decode cX8_areThere 56 = .ok (.goto 12, 3) := by decide +kernel
theorem dX8_areThere_59 : decode cX8_areThere 59 = .ok (.iload_n 3, 1) := by decide +kernel
theorem dX8_areThere_60 : decode cX8_areThere 60 = .ok (.ifCond .le 7, 3) := by decide +kernel
theorem dX8_areThere_63 : decode cX8_areThere 63 = .ok (.iconst 1, 1) := by decide +kernel
theorem dX8_areThere_64 : decode cX8_areThere 64 = .ok (.goto 4, 3) := by decide +kernel
theorem dX8_areThere_67 : decode cX8_areThere 67 = .ok (.iconst 0, 1) := by decide +kernel
theorem dX8_areThere_68 : decode cX8_areThere 68 = .ok (.ireturn, 1) := by decide +kernel
set_option maxRecDepth 20000 in
theorem ggX8_isCourt_X8_in : GoodIn wsX8_isCourt wsX8_in := goodIn_r _ [5] (by decide +kernel) (by decide +kernel)
set_option maxRecDepth 20000 in
theorem gX8_isCourt_X8_in : GoodIn wsX8_isCourt (va_wsS RX8 82 yX8_in wsX8_in) := goodIn_app (goodIn_of _ (by decide +kernel)) ggX8_isCourt_X8_in
theorem dX8_isCourt_0 : decode cX8_isCourt 0 = .ok (.iload_n 0, 1) := by decide +kernel
theorem dX8_isCourt_1 : decode cX8_isCourt 1 = .ok (.i2l, 1) := by decide +kernel
theorem dX8_isCourt_2 : decode cX8_isCourt 2 = .ok (.lconst 0, 1) := by decide +kernel
theorem dX8_isCourt_3 : decode cX8_isCourt 3 = .ok (.ldc2_w 182, 3) := by decide +kernel
theorem dX8_isCourt_6 : decode cX8_isCourt 6 = .ok (.invokestatic 82, 3) := by decide +kernel
theorem dX8_isCourt_9 : decode cX8_isCourt 9 = .ok (.ireturn, 1) := by decide +kernel
set_option maxRecDepth 20000 in
theorem ggX8_way_X8_isCourt : GoodIn wsX8_way wsX8_isCourt := goodIn_r _ [9, 10, 11, 12, 8, 13] (by decide +kernel) (by decide +kernel)
set_option maxRecDepth 20000 in
theorem gX8_way_X8_isCourt : GoodIn wsX8_way (va_wsS RX8 184 yX8_isCourt wsX8_isCourt) := goodIn_app (goodIn_of _ (by decide +kernel)) ggX8_way_X8_isCourt
set_option maxRecDepth 20000 in
theorem ggX8_way_X8_in : GoodIn wsX8_way wsX8_in := goodIn_r _ [13] (by decide +kernel) (by decide +kernel)
set_option maxRecDepth 20000 in
theorem gX8_way_X8_in : GoodIn wsX8_way (va_wsS RX8 82 yX8_in wsX8_in) := goodIn_app (goodIn_of _ (by decide +kernel)) ggX8_way_X8_in
set_option maxRecDepth 20000 in
theorem ggX8_way_X8_layNow : GoodIn wsX8_way wsX8_layNow := goodIn_r _ [17, 18, 19, 20, 21, 22, 8, 23, 24, 25, 66, 67, 68, 69, 70, 71, 72, 73, 74, 75, 76, 77, 78, 79, 80, 81, 82, 83, 84, 85, 86, 87, 88, 89, 90, 91, 92, 93, 94, 95] (by decide +kernel) (by decide +kernel)
set_option maxRecDepth 20000 in
theorem gX8_way_X8_layNow : GoodIn wsX8_way (wsV RX8 147 RX8 yX8_layNow wsX8_layNow) := goodIn_app (goodIn_of _ (by decide +kernel)) ggX8_way_X8_layNow
set_option maxRecDepth 20000 in
theorem ggX8_way_X8_search : GoodIn wsX8_way wsX8_search := goodIn_r _ [29, 30, 4, 3, 5, 2, 31, 18, 24, 32, 33, 34, 8, 35, 36, 37, 38, 39, 40, 41, 42, 43, 44, 45, 46, 47, 48, 49, 50, 51, 52, 53, 54, 55, 56, 57, 58, 59, 60, 61, 66, 67, 68, 69, 70, 71, 72, 73, 74, 75, 76, 77, 78, 79, 80, 81, 82, 83, 84, 85, 86, 87, 88, 89, 90, 91, 92, 93, 94, 95] (by decide +kernel) (by decide +kernel)
set_option maxRecDepth 20000 in
theorem gX8_way_X8_search : GoodIn wsX8_way (wsV RX8 187 RX8 yX8_search wsX8_search) := goodIn_app (goodIn_of _ (by decide +kernel)) ggX8_way_X8_search
set_option maxRecDepth 20000 in
theorem ggX8_way_X8_take : GoodIn wsX8_way wsX8_take := goodIn_r _ [43, 30, 18, 31, 24, 36, 37, 38, 8, 39, 66, 67, 68, 69, 70, 71, 72, 73, 74, 75, 76, 77, 78, 79, 80, 81, 82, 83, 84, 85, 86, 87, 88, 89, 90, 91, 92, 93, 94, 95] (by decide +kernel) (by decide +kernel)
set_option maxRecDepth 20000 in
theorem gX8_way_X8_take : GoodIn wsX8_way (wsV RX8 178 RX8 yX8_take wsX8_take) := goodIn_app (goodIn_of _ (by decide +kernel)) ggX8_way_X8_take
set_option maxRecDepth 20000 in
theorem ggX8_way_X8_areThere : GoodIn wsX8_way wsX8_areThere := goodIn_r _ [65, 30, 18, 66, 67, 68, 69, 70, 71, 72, 73, 74, 75, 76, 77, 78, 79, 80, 81, 82, 83, 84, 85, 86, 87, 88, 89, 90, 91, 92, 93, 94, 95] (by decide +kernel) (by decide +kernel)
set_option maxRecDepth 20000 in
theorem gX8_way_X8_areThere : GoodIn wsX8_way (wsV RX8 190 RX8 yX8_areThere wsX8_areThere) := goodIn_app (goodIn_of _ (by decide +kernel)) ggX8_way_X8_areThere
theorem dX8_way_0 : decode cX8_way 0 = .ok (.iload_n 1, 1) := by decide +kernel
theorem dX8_way_1 : decode cX8_way 1 = .ok (.invokestatic 184, 3) := by decide +kernel
theorem dX8_way_4 : decode cX8_way 4 = .ok (.ifCond .eq 13, 3) := by decide +kernel
theorem dX8_way_7 : decode cX8_way 7 = .ok (.iload_n 3, 1) := by decide +kernel
theorem dX8_way_8 : decode cX8_way 8 = .ok (.i2l, 1) := by decide +kernel
theorem dX8_way_9 : decode cX8_way 9 = .ok (.lconst 0, 1) := by decide +kernel
theorem dX8_way_10 : decode cX8_way 10 = .ok (.lconst 1, 1) := by decide +kernel
theorem dX8_way_11 : decode cX8_way 11 = .ok (.invokestatic 82, 3) := by decide +kernel
theorem dX8_way_14 : decode cX8_way 14 = .ok (.ifCond .ne 5, 3) := by decide +kernel
theorem dX8_way_17 : decode cX8_way 17 = .ok (.iconst (-1), 1) := by decide +kernel
theorem dX8_way_18 : decode cX8_way 18 = .ok (.ireturn, 1) := by decide +kernel
theorem dX8_way_19 : decode cX8_way 19 = .ok (.aload_n 0, 1) := by decide +kernel
theorem dX8_way_20 : decode cX8_way 20 = .ok (.invokevirtual 147, 3) := by decide +kernel
theorem dX8_way_23 : decode cX8_way 23 = .ok (.aload_n 0, 1) := by decide +kernel
theorem dX8_way_24 : decode cX8_way 24 = .ok (.aload_n 0, 1) := by decide +kernel
theorem dX8_way_25 : decode cX8_way 25 = .ok (.getfield 28, 3) := by decide +kernel
theorem dX8_way_28 : decode cX8_way 28 = .ok (.iconst 0, 1) := by decide +kernel
theorem dX8_way_29 : decode cX8_way 29 = .ok (.iaload, 1) := by decide +kernel
theorem dX8_way_30 : decode cX8_way 30 = .ok (.invokevirtual 187, 3) := by decide +kernel
theorem dX8_way_33 : decode cX8_way 33 = .ok (.iconst 0, 1) := by decide +kernel
theorem dX8_way_34 : decode cX8_way 34 = .ok (.istore 4, 2) := by decide +kernel
theorem dX8_way_36 : decode cX8_way 36 = .ok (.iload 4, 2) := by decide +kernel
theorem dX8_way_38 : decode cX8_way 38 = .ok (.aload_n 0, 1) := by decide +kernel
theorem dX8_way_39 : decode cX8_way 39 = .ok (.getfield 175, 3) := by decide +kernel
theorem dX8_way_42 : decode cX8_way 42 = .ok (.if_icmp .ge 61, 3) := by decide +kernel
theorem dX8_way_45 : decode cX8_way 45 = .ok (.aload_n 0, 1) := by decide +kernel
theorem dX8_way_46 : decode cX8_way 46 = .ok (.aload_n 0, 1) := by decide +kernel
theorem dX8_way_47 : decode cX8_way 47 = .ok (.getfield 64, 3) := by decide +kernel
theorem dX8_way_50 : decode cX8_way 50 = .ok (.iload 4, 2) := by decide +kernel
theorem dX8_way_52 : decode cX8_way 52 = .ok (.iaload, 1) := by decide +kernel
theorem dX8_way_53 : decode cX8_way 53 = .ok (.invokevirtual 178, 3) := by decide +kernel
theorem dX8_way_56 : decode cX8_way 56 = .ok (.aload_n 0, 1) := by decide +kernel
theorem dX8_way_57 : decode cX8_way 57 = .ok (.iload_n 1, 1) := by decide +kernel
theorem dX8_way_58 : decode cX8_way 58 = .ok (.iload_n 2, 1) := by decide +kernel
theorem dX8_way_59 : decode cX8_way 59 = .ok (.invokevirtual 190, 3) := by decide +kernel
theorem dX8_way_62 : decode cX8_way 62 = .ok (.ifCond .eq 35, 3) := by decide +kernel
theorem dX8_way_65 : decode cX8_way 65 = .ok (.iload_n 3, 1) := by decide +kernel
theorem dX8_way_66 : decode cX8_way 66 = .ok (.ifCond .ne 18, 3) := by decide +kernel
theorem dX8_way_69 : decode cX8_way 69 = .ok (.aload_n 0, 1) := by decide +kernel
theorem dX8_way_70 : decode cX8_way 70 = .ok (.getfield 61, 3) := by decide +kernel
theorem dX8_way_73 : decode cX8_way 73 = .ok (.aload_n 0, 1) := by decide +kernel
theorem dX8_way_74 : decode cX8_way 74 = .ok (.getfield 64, 3) := by decide +kernel
theorem dX8_way_77 : decode cX8_way 77 = .ok (.iload 4, 2) := by decide +kernel
theorem dX8_way_79 : decode cX8_way 79 = .ok (.iaload, 1) := by decide +kernel
theorem dX8_way_80 : decode cX8_way 80 = .ok (.iaload, 1) := by decide +kernel
theorem dX8_way_81 : decode cX8_way 81 = .ok (.goto 15, 3) := by decide +kernel
theorem dX8_way_84 : decode cX8_way 84 = .ok (.aload_n 0, 1) := by decide +kernel
theorem dX8_way_85 : decode cX8_way 85 = .ok (.getfield 67, 3) := by decide +kernel
theorem dX8_way_88 : decode cX8_way 88 = .ok (.aload_n 0, 1) := by decide +kernel
theorem dX8_way_89 : decode cX8_way 89 = .ok (.getfield 64, 3) := by decide +kernel
theorem dX8_way_92 : decode cX8_way 92 = .ok (.iload 4, 2) := by decide +kernel
theorem dX8_way_94 : decode cX8_way 94 = .ok (.iaload, 1) := by decide +kernel
theorem dX8_way_95 : decode cX8_way 95 = .ok (.iaload, 1) := by decide +kernel
theorem dX8_way_96 : decode cX8_way 96 = .ok (.ireturn, 1) := by decide +kernel
theorem dX8_way_97 : decode cX8_way 97 = .ok (.iinc 4 1, 3) := by decide +kernel
theorem dX8_way_100 : decode cX8_way 100 = .ok (.goto (-64), 3) := by decide +kernel
theorem dX8_way_103 : decode cX8_way 103 = .ok (.bipush (-4), 2) := by decide +kernel
theorem dX8_way_105 : decode cX8_way 105 = .ok (.ireturn, 1) := by decide +kernel
set_option maxRecDepth 20000 in
theorem ggX8_layAtFirst_X8_layCounts : GoodIn wsX8_layAtFirst wsX8_layCounts := goodIn_r _ [6, 7, 8, 9, 10, 11, 12, 13, 14, 15, 16, 17, 18, 19, 20, 21, 22, 23, 24, 25, 26, 27, 28, 29, 30, 31, 32, 33, 34, 35, 36, 37, 38] (by decide +kernel) (by decide +kernel)
set_option maxRecDepth 20000 in
theorem gX8_layAtFirst_X8_layCounts : GoodIn wsX8_layAtFirst (wsV RX8 131 RX8 yX8_layCounts wsX8_layCounts) := goodIn_app (goodIn_of _ (by decide +kernel)) ggX8_layAtFirst_X8_layCounts
theorem dX8_layAtFirst_0 : decode cX8_layAtFirst 0 = .ok (.aload_n 0, 1) := by decide +kernel
theorem dX8_layAtFirst_1 : decode cX8_layAtFirst 1 = .ok (.invokevirtual 131, 3) := by decide +kernel
theorem dX8_layAtFirst_4 : decode cX8_layAtFirst 4 = .ok (.iconst 0, 1) := by decide +kernel
theorem dX8_layAtFirst_5 : decode cX8_layAtFirst 5 = .ok (.istore_n 1, 1) := by decide +kernel
theorem dX8_layAtFirst_6 : decode cX8_layAtFirst 6 = .ok (.iload_n 1, 1) := by decide +kernel
theorem dX8_layAtFirst_7 : decode cX8_layAtFirst 7 = .ok (.iconst 3, 1) := by decide +kernel
theorem dX8_layAtFirst_8 : decode cX8_layAtFirst 8 = .ok (.if_icmp .ge 16, 3) := by decide +kernel
theorem dX8_layAtFirst_11 : decode cX8_layAtFirst 11 = .ok (.aload_n 0, 1) := by decide +kernel
theorem dX8_layAtFirst_12 : decode cX8_layAtFirst 12 = .ok (.getfield 58, 3) := by decide +kernel
theorem dX8_layAtFirst_15 : decode cX8_layAtFirst 15 = .ok (.iload_n 1, 1) := by decide +kernel
theorem dX8_layAtFirst_16 : decode cX8_layAtFirst 16 = .ok (.iconst 0, 1) := by decide +kernel
theorem dX8_layAtFirst_17 : decode cX8_layAtFirst 17 = .ok (.iastore, 1) := by decide +kernel
theorem dX8_layAtFirst_18 : decode cX8_layAtFirst 18 = .ok (.iinc 1 1, 3) := by decide +kernel
theorem dX8_layAtFirst_21 : decode cX8_layAtFirst 21 = .ok (.goto (-15), 3) := by decide +kernel
theorem dX8_layAtFirst_24 : decode cX8_layAtFirst 24 = .ok (.return_, 1) := by decide +kernel
set_option maxRecDepth 20000 in
theorem ggX8_smallest_X8_isCourt : GoodIn wsX8_smallest wsX8_isCourt := goodIn_r _ [6, 7, 8, 9, 5, 10] (by decide +kernel) (by decide +kernel)
set_option maxRecDepth 20000 in
theorem gX8_smallest_X8_isCourt : GoodIn wsX8_smallest (va_wsS RX8 184 yX8_isCourt wsX8_isCourt) := goodIn_app (goodIn_of _ (by decide +kernel)) ggX8_smallest_X8_isCourt
set_option maxRecDepth 20000 in
theorem ggX8_smallest_X8_layAtFirst : GoodIn wsX8_smallest wsX8_layAtFirst := goodIn_r _ [14, 15, 16, 17, 18, 5, 19, 20, 21, 64, 65, 66, 67, 68, 69, 70, 71, 72, 73, 74, 75, 76, 77, 78, 79, 80, 81, 82, 83, 84, 85, 86, 87, 88, 89, 90, 91, 92, 93] (by decide +kernel) (by decide +kernel)
set_option maxRecDepth 20000 in
theorem gX8_smallest_X8_layAtFirst : GoodIn wsX8_smallest (wsV RX8 194 RX8 yX8_layAtFirst wsX8_layAtFirst) := goodIn_app (goodIn_of _ (by decide +kernel)) ggX8_smallest_X8_layAtFirst
set_option maxRecDepth 20000 in
theorem ggX8_smallest_X8_search : GoodIn wsX8_smallest wsX8_search := goodIn_r _ [25, 26, 27, 2, 28, 1, 29, 15, 20, 30, 31, 32, 5, 33, 34, 35, 36, 37, 38, 39, 40, 41, 42, 43, 44, 45, 46, 47, 48, 49, 50, 51, 52, 53, 54, 55, 56, 57, 58, 59, 64, 65, 66, 67, 68, 69, 70, 71, 72, 73, 74, 75, 76, 77, 78, 79, 80, 81, 82, 83, 84, 85, 86, 87, 88, 89, 90, 91, 92, 93] (by decide +kernel) (by decide +kernel)
set_option maxRecDepth 20000 in
theorem gX8_smallest_X8_search : GoodIn wsX8_smallest (wsV RX8 187 RX8 yX8_search wsX8_search) := goodIn_app (goodIn_of _ (by decide +kernel)) ggX8_smallest_X8_search
set_option maxRecDepth 20000 in
theorem ggX8_smallest_X8_take : GoodIn wsX8_smallest wsX8_take := goodIn_r _ [41, 26, 15, 29, 20, 34, 35, 36, 5, 37, 64, 65, 66, 67, 68, 69, 70, 71, 72, 73, 74, 75, 76, 77, 78, 79, 80, 81, 82, 83, 84, 85, 86, 87, 88, 89, 90, 91, 92, 93] (by decide +kernel) (by decide +kernel)
set_option maxRecDepth 20000 in
theorem gX8_smallest_X8_take : GoodIn wsX8_smallest (wsV RX8 178 RX8 yX8_take wsX8_take) := goodIn_app (goodIn_of _ (by decide +kernel)) ggX8_smallest_X8_take
set_option maxRecDepth 20000 in
theorem ggX8_smallest_X8_areThere : GoodIn wsX8_smallest wsX8_areThere := goodIn_r _ [63, 26, 15, 64, 65, 66, 67, 68, 69, 70, 71, 72, 73, 74, 75, 76, 77, 78, 79, 80, 81, 82, 83, 84, 85, 86, 87, 88, 89, 90, 91, 92, 93] (by decide +kernel) (by decide +kernel)
set_option maxRecDepth 20000 in
theorem gX8_smallest_X8_areThere : GoodIn wsX8_smallest (wsV RX8 190 RX8 yX8_areThere wsX8_areThere) := goodIn_app (goodIn_of _ (by decide +kernel)) ggX8_smallest_X8_areThere
theorem dX8_smallest_0 : decode cX8_smallest 0 = .ok (.iload_n 1, 1) := by decide +kernel
theorem dX8_smallest_1 : decode cX8_smallest 1 = .ok (.invokestatic 184, 3) := by decide +kernel
theorem dX8_smallest_4 : decode cX8_smallest 4 = .ok (.ifCond .ne 5, 3) := by decide +kernel
theorem dX8_smallest_7 : decode cX8_smallest 7 = .ok (.iconst (-1), 1) := by decide +kernel
theorem dX8_smallest_8 : decode cX8_smallest 8 = .ok (.ireturn, 1) := by decide +kernel
theorem dX8_smallest_9 : decode cX8_smallest 9 = .ok (.iconst 1, 1) := by decide +kernel
theorem dX8_smallest_10 : decode cX8_smallest 10 = .ok (.istore_n 2, 1) := by decide +kernel
theorem dX8_smallest_11 : decode cX8_smallest 11 = .ok (.iload_n 2, 1) := by decide +kernel
theorem dX8_smallest_12 : decode cX8_smallest 12 = .ok (.iconst 3, 1) := by decide +kernel
theorem dX8_smallest_13 : decode cX8_smallest 13 = .ok (.if_icmp .gt 55, 3) := by decide +kernel
theorem dX8_smallest_16 : decode cX8_smallest 16 = .ok (.aload_n 0, 1) := by decide +kernel
theorem dX8_smallest_17 : decode cX8_smallest 17 = .ok (.invokevirtual 194, 3) := by decide +kernel
theorem dX8_smallest_20 : decode cX8_smallest 20 = .ok (.aload_n 0, 1) := by decide +kernel
theorem dX8_smallest_21 : decode cX8_smallest 21 = .ok (.iload_n 2, 1) := by decide +kernel
theorem dX8_smallest_22 : decode cX8_smallest 22 = .ok (.invokevirtual 187, 3) := by decide +kernel
theorem dX8_smallest_25 : decode cX8_smallest 25 = .ok (.iconst 0, 1) := by decide +kernel
theorem dX8_smallest_26 : decode cX8_smallest 26 = .ok (.istore_n 3, 1) := by decide +kernel
theorem dX8_smallest_27 : decode cX8_smallest 27 = .ok (.iload_n 3, 1) := by decide +kernel
theorem dX8_smallest_28 : decode cX8_smallest 28 = .ok (.aload_n 0, 1) := by decide +kernel
theorem dX8_smallest_29 : decode cX8_smallest 29 = .ok (.getfield 175, 3) := by decide +kernel
theorem dX8_smallest_32 : decode cX8_smallest 32 = .ok (.if_icmp .ge 30, 3) := by decide +kernel
theorem dX8_smallest_35 : decode cX8_smallest 35 = .ok (.aload_n 0, 1) := by decide +kernel
theorem dX8_smallest_36 : decode cX8_smallest 36 = .ok (.aload_n 0, 1) := by decide +kernel
theorem dX8_smallest_37 : decode cX8_smallest 37 = .ok (.getfield 64, 3) := by decide +kernel
theorem dX8_smallest_40 : decode cX8_smallest 40 = .ok (.iload_n 3, 1) := by decide +kernel
theorem dX8_smallest_41 : decode cX8_smallest 41 = .ok (.iaload, 1) := by decide +kernel
theorem dX8_smallest_42 : decode cX8_smallest 42 = .ok (.invokevirtual 178, 3) := by decide +kernel
theorem dX8_smallest_45 : decode cX8_smallest 45 = .ok (.aload_n 0, 1) := by decide +kernel
theorem dX8_smallest_46 : decode cX8_smallest 46 = .ok (.iload_n 1, 1) := by decide +kernel
theorem dX8_smallest_47 : decode cX8_smallest 47 = .ok (.iconst 0, 1) := by decide +kernel
theorem dX8_smallest_48 : decode cX8_smallest 48 = .ok (.invokevirtual 190, 3) := by decide +kernel
theorem dX8_smallest_51 : decode cX8_smallest 51 = .ok (.ifCond .eq 5, 3) := by decide +kernel
theorem dX8_smallest_54 : decode cX8_smallest 54 = .ok (.iload_n 2, 1) := by decide +kernel
theorem dX8_smallest_55 : decode cX8_smallest 55 = .ok (.ireturn, 1) := by decide +kernel
theorem dX8_smallest_56 : decode cX8_smallest 56 = .ok (.iinc 3 1, 3) := by decide +kernel
theorem dX8_smallest_59 : decode cX8_smallest 59 = .ok (.goto (-32), 3) := by decide +kernel
theorem dX8_smallest_62 : decode cX8_smallest 62 = .ok (.iinc 2 1, 3) := by decide +kernel
theorem dX8_smallest_65 : decode cX8_smallest 65 = .ok (.goto (-54), 3) := by decide +kernel
theorem dX8_smallest_68 : decode cX8_smallest 68 = .ok (.bipush (-4), 2) := by decide +kernel
theorem dX8_smallest_70 : decode cX8_smallest 70 = .ok (.ireturn, 1) := by decide +kernel
set_option maxRecDepth 20000 in
theorem ggX8_isSet_X8_in : GoodIn wsX8_isSet wsX8_in := goodIn_r _ [5] (by decide +kernel) (by decide +kernel)
set_option maxRecDepth 20000 in
theorem gX8_isSet_X8_in : GoodIn wsX8_isSet (va_wsS RX8 82 yX8_in wsX8_in) := goodIn_app (goodIn_of _ (by decide +kernel)) ggX8_isSet_X8_in
theorem dX8_isSet_0 : decode cX8_isSet 0 = .ok (.iload_n 1, 1) := by decide +kernel
theorem dX8_isSet_1 : decode cX8_isSet 1 = .ok (.i2l, 1) := by decide +kernel
theorem dX8_isSet_2 : decode cX8_isSet 2 = .ok (.lconst 0, 1) := by decide +kernel
theorem dX8_isSet_3 : decode cX8_isSet 3 = .ok (.iconst 1, 1) := by decide +kernel
theorem dX8_isSet_4 : decode cX8_isSet 4 = .ok (.aload_n 0, 1) := by decide +kernel
theorem dX8_isSet_5 : decode cX8_isSet 5 = .ok (.getfield 13, 3) := by decide +kernel
theorem dX8_isSet_8 : decode cX8_isSet 8 = .ok (.iconst 0, 1) := by decide +kernel
theorem dX8_isSet_9 : decode cX8_isSet 9 = .ok (.iaload, 1) := by decide +kernel
theorem dX8_isSet_10 : decode cX8_isSet 10 = .ok (.ishl, 1) := by decide +kernel
theorem dX8_isSet_11 : decode cX8_isSet 11 = .ok (.iconst 1, 1) := by decide +kernel
theorem dX8_isSet_12 : decode cX8_isSet 12 = .ok (.isub, 1) := by decide +kernel
theorem dX8_isSet_13 : decode cX8_isSet 13 = .ok (.i2l, 1) := by decide +kernel
theorem dX8_isSet_14 : decode cX8_isSet 14 = .ok (.invokestatic 82, 3) := by decide +kernel
theorem dX8_isSet_17 : decode cX8_isSet 17 = .ok (.ireturn, 1) := by decide +kernel
set_option maxRecDepth 20000 in
theorem ggX8_mend_X8_isSet : GoodIn wsX8_mend wsX8_isSet := goodIn_r _ [9, 10, 11, 12, 8, 13, 64, 65, 66, 67, 68, 69, 70, 71, 72, 73, 74, 75, 76, 77, 78, 79, 80, 81, 82, 83, 84, 85, 86, 87, 88, 89, 90, 91, 92, 93] (by decide +kernel) (by decide +kernel)
set_option maxRecDepth 20000 in
theorem gX8_mend_X8_isSet : GoodIn wsX8_mend (wsV RX8 197 RX8 yX8_isSet wsX8_isSet) := goodIn_app (goodIn_of _ (by decide +kernel)) ggX8_mend_X8_isSet
set_option maxRecDepth 20000 in
theorem ggX8_mend_X8_in : GoodIn wsX8_mend wsX8_in := goodIn_r _ [13] (by decide +kernel) (by decide +kernel)
set_option maxRecDepth 20000 in
theorem gX8_mend_X8_in : GoodIn wsX8_mend (va_wsS RX8 82 yX8_in wsX8_in) := goodIn_app (goodIn_of _ (by decide +kernel)) ggX8_mend_X8_in
set_option maxRecDepth 20000 in
theorem ggX8_mend_X8_layAtFirst : GoodIn wsX8_mend wsX8_layAtFirst := goodIn_r _ [17, 18, 19, 20, 21, 8, 22, 23, 24, 64, 65, 66, 67, 68, 69, 70, 71, 72, 73, 74, 75, 76, 77, 78, 79, 80, 81, 82, 83, 84, 85, 86, 87, 88, 89, 90, 91, 92, 93] (by decide +kernel) (by decide +kernel)
set_option maxRecDepth 20000 in
theorem gX8_mend_X8_layAtFirst : GoodIn wsX8_mend (wsV RX8 194 RX8 yX8_layAtFirst wsX8_layAtFirst) := goodIn_app (goodIn_of _ (by decide +kernel)) ggX8_mend_X8_layAtFirst
set_option maxRecDepth 20000 in
theorem ggX8_mend_X8_search : GoodIn wsX8_mend wsX8_search := goodIn_r _ [28, 29, 3, 2, 4, 1, 10, 18, 23, 30, 31, 32, 8, 33, 34, 35, 36, 37, 38, 39, 40, 41, 42, 43, 44, 45, 46, 47, 48, 49, 50, 51, 52, 53, 54, 55, 56, 57, 58, 59, 64, 65, 66, 67, 68, 69, 70, 71, 72, 73, 74, 75, 76, 77, 78, 79, 80, 81, 82, 83, 84, 85, 86, 87, 88, 89, 90, 91, 92, 93] (by decide +kernel) (by decide +kernel)
set_option maxRecDepth 20000 in
theorem gX8_mend_X8_search : GoodIn wsX8_mend (wsV RX8 187 RX8 yX8_search wsX8_search) := goodIn_app (goodIn_of _ (by decide +kernel)) ggX8_mend_X8_search
set_option maxRecDepth 20000 in
theorem ggX8_mend_X8_take : GoodIn wsX8_mend wsX8_take := goodIn_r _ [41, 29, 18, 10, 23, 34, 35, 36, 8, 37, 64, 65, 66, 67, 68, 69, 70, 71, 72, 73, 74, 75, 76, 77, 78, 79, 80, 81, 82, 83, 84, 85, 86, 87, 88, 89, 90, 91, 92, 93] (by decide +kernel) (by decide +kernel)
set_option maxRecDepth 20000 in
theorem gX8_mend_X8_take : GoodIn wsX8_mend (wsV RX8 178 RX8 yX8_take wsX8_take) := goodIn_app (goodIn_of _ (by decide +kernel)) ggX8_mend_X8_take
set_option maxRecDepth 20000 in
theorem ggX8_mend_X8_openSet : GoodIn wsX8_mend wsX8_openSet := goodIn_r _ [63, 10, 52, 53, 54, 8, 55, 34, 23, 64, 65, 66, 67, 68, 69, 70, 71, 72, 73, 74, 75, 76, 77, 78, 79, 80, 81, 82, 83, 84, 85, 86, 87, 88, 89, 90, 91, 92, 93] (by decide +kernel) (by decide +kernel)
set_option maxRecDepth 20000 in
theorem gX8_mend_X8_openSet : GoodIn wsX8_mend (wsV RX8 200 RX8 yX8_openSet wsX8_openSet) := goodIn_app (goodIn_of _ (by decide +kernel)) ggX8_mend_X8_openSet
theorem dX8_mend_0 : decode cX8_mend 0 = .ok (.aload_n 0, 1) := by decide +kernel
theorem dX8_mend_1 : decode cX8_mend 1 = .ok (.iload_n 1, 1) := by decide +kernel
theorem dX8_mend_2 : decode cX8_mend 2 = .ok (.invokevirtual 197, 3) := by decide +kernel
theorem dX8_mend_5 : decode cX8_mend 5 = .ok (.ifCond .eq 13, 3) := by decide +kernel
theorem dX8_mend_8 : decode cX8_mend 8 = .ok (.iload_n 2, 1) := by decide +kernel
theorem dX8_mend_9 : decode cX8_mend 9 = .ok (.i2l, 1) := by decide +kernel
theorem dX8_mend_10 : decode cX8_mend 10 = .ok (.lconst 0, 1) := by decide +kernel
theorem dX8_mend_11 : decode cX8_mend 11 = .ok (.lconst 1, 1) := by decide +kernel
theorem dX8_mend_12 : decode cX8_mend 12 = .ok (.invokestatic 82, 3) := by decide +kernel
theorem dX8_mend_15 : decode cX8_mend 15 = .ok (.ifCond .ne 5, 3) := by decide +kernel
theorem dX8_mend_18 : decode cX8_mend 18 = .ok (.iconst (-1), 1) := by decide +kernel
theorem dX8_mend_19 : decode cX8_mend 19 = .ok (.ireturn, 1) := by decide +kernel
theorem dX8_mend_20 : decode cX8_mend 20 = .ok (.aload_n 0, 1) := by decide +kernel
theorem dX8_mend_21 : decode cX8_mend 21 = .ok (.invokevirtual 194, 3) := by decide +kernel
theorem dX8_mend_24 : decode cX8_mend 24 = .ok (.aload_n 0, 1) := by decide +kernel
theorem dX8_mend_25 : decode cX8_mend 25 = .ok (.iconst 1, 1) := by decide +kernel
theorem dX8_mend_26 : decode cX8_mend 26 = .ok (.invokevirtual 187, 3) := by decide +kernel
theorem dX8_mend_29 : decode cX8_mend 29 = .ok (.iconst 0, 1) := by decide +kernel
theorem dX8_mend_30 : decode cX8_mend 30 = .ok (.istore_n 3, 1) := by decide +kernel
theorem dX8_mend_31 : decode cX8_mend 31 = .ok (.iload_n 3, 1) := by decide +kernel
theorem dX8_mend_32 : decode cX8_mend 32 = .ok (.aload_n 0, 1) := by decide +kernel
theorem dX8_mend_33 : decode cX8_mend 33 = .ok (.getfield 175, 3) := by decide +kernel
theorem dX8_mend_36 : decode cX8_mend 36 = .ok (.if_icmp .ge 57, 3) := by decide +kernel
theorem dX8_mend_39 : decode cX8_mend 39 = .ok (.aload_n 0, 1) := by decide +kernel
theorem dX8_mend_40 : decode cX8_mend 40 = .ok (.aload_n 0, 1) := by decide +kernel
theorem dX8_mend_41 : decode cX8_mend 41 = .ok (.getfield 64, 3) := by decide +kernel
theorem dX8_mend_44 : decode cX8_mend 44 = .ok (.iload_n 3, 1) := by decide +kernel
theorem dX8_mend_45 : decode cX8_mend 45 = .ok (.iaload, 1) := by decide +kernel
theorem dX8_mend_46 : decode cX8_mend 46 = .ok (.invokevirtual 178, 3) := by decide +kernel
theorem dX8_mend_49 : decode cX8_mend 49 = .ok (.aload_n 0, 1) := by decide +kernel
theorem dX8_mend_50 : decode cX8_mend 50 = .ok (.invokevirtual 200, 3) := by decide +kernel
theorem dX8_mend_53 : decode cX8_mend 53 = .ok (.iload_n 1, 1) := by decide +kernel
theorem dX8_mend_54 : decode cX8_mend 54 = .ok (.if_icmp .ne 33, 3) := by decide +kernel
theorem dX8_mend_57 : decode cX8_mend 57 = .ok (.iload_n 2, 1) := by decide +kernel
theorem dX8_mend_58 : decode cX8_mend 58 = .ok (.ifCond .ne 17, 3) := by decide +kernel
theorem dX8_mend_61 : decode cX8_mend 61 = .ok (.aload_n 0, 1) := by decide +kernel
theorem dX8_mend_62 : decode cX8_mend 62 = .ok (.getfield 61, 3) := by decide +kernel
theorem dX8_mend_65 : decode cX8_mend 65 = .ok (.aload_n 0, 1) := by decide +kernel
theorem dX8_mend_66 : decode cX8_mend 66 = .ok (.getfield 64, 3) := by decide +kernel
theorem dX8_mend_69 : decode cX8_mend 69 = .ok (.iload_n 3, 1) := by decide +kernel
theorem dX8_mend_70 : decode cX8_mend 70 = .ok (.iaload, 1) := by decide +kernel
theorem dX8_mend_71 : decode cX8_mend 71 = .ok (.iaload, 1) := by decide +kernel
theorem dX8_mend_72 : decode cX8_mend 72 = .ok (.goto 14, 3) := by decide +kernel
theorem dX8_mend_75 : decode cX8_mend 75 = .ok (.aload_n 0, 1) := by decide +kernel
theorem dX8_mend_76 : decode cX8_mend 76 = .ok (.getfield 67, 3) := by decide +kernel
theorem dX8_mend_79 : decode cX8_mend 79 = .ok (.aload_n 0, 1) := by decide +kernel
theorem dX8_mend_80 : decode cX8_mend 80 = .ok (.getfield 64, 3) := by decide +kernel
theorem dX8_mend_83 : decode cX8_mend 83 = .ok (.iload_n 3, 1) := by decide +kernel
theorem dX8_mend_84 : decode cX8_mend 84 = .ok (.iaload, 1) := by decide +kernel
theorem dX8_mend_85 : decode cX8_mend 85 = .ok (.iaload, 1) := by decide +kernel
theorem dX8_mend_86 : decode cX8_mend 86 = .ok (.ireturn, 1) := by decide +kernel
theorem dX8_mend_87 : decode cX8_mend 87 = .ok (.iinc 3 1, 3) := by decide +kernel
theorem dX8_mend_90 : decode cX8_mend 90 = .ok (.goto (-59), 3) := by decide +kernel
theorem dX8_mend_93 : decode cX8_mend 93 = .ok (.bipush (-4), 2) := by decide +kernel
theorem dX8_mend_95 : decode cX8_mend 95 = .ok (.ireturn, 1) := by decide +kernel
set_option maxRecDepth 20000 in
theorem ggX8_seen_X8_isGate : GoodIn wsX8_seen wsX8_isGate := goodIn_r _ [8, 9, 10, 11, 7, 12, 13, 14, 15, 16, 17, 18, 19, 20, 21, 22, 23, 24, 25, 26, 27, 28, 29, 30, 31, 32, 33, 34, 35, 36, 37, 38, 39, 40, 41, 42] (by decide +kernel) (by decide +kernel)
set_option maxRecDepth 20000 in
theorem gX8_seen_X8_isGate : GoodIn wsX8_seen (wsV RX8 142 RX8 yX8_isGate wsX8_isGate) := goodIn_app (goodIn_of _ (by decide +kernel)) ggX8_seen_X8_isGate
theorem dX8_seen_0 : decode cX8_seen 0 = .ok (.aload_n 0, 1) := by decide +kernel
theorem dX8_seen_1 : decode cX8_seen 1 = .ok (.iload_n 1, 1) := by decide +kernel
theorem dX8_seen_2 : decode cX8_seen 2 = .ok (.invokevirtual 142, 3) := by decide +kernel
theorem dX8_seen_5 : decode cX8_seen 5 = .ok (.ifCond .ne 5, 3) := by decide +kernel
theorem dX8_seen_8 : decode cX8_seen 8 = .ok (.iconst (-1), 1) := by decide +kernel
theorem dX8_seen_9 : decode cX8_seen 9 = .ok (.ireturn, 1) := by decide +kernel
theorem dX8_seen_10 : decode cX8_seen 10 = .ok (.aload_n 0, 1) := by decide +kernel
theorem dX8_seen_11 : decode cX8_seen 11 = .ok (.getfield 125, 3) := by decide +kernel
theorem dX8_seen_14 : decode cX8_seen 14 = .ok (.bipush 10, 2) := by decide +kernel
theorem dX8_seen_16 : decode cX8_seen 16 = .ok (.if_icmp .ne 6, 3) := by decide +kernel
theorem dX8_seen_19 : decode cX8_seen 19 = .ok (.bipush (-3), 2) := by decide +kernel
theorem dX8_seen_21 : decode cX8_seen 21 = .ok (.ireturn, 1) := by decide +kernel
theorem dX8_seen_22 : decode cX8_seen 22 = .ok (.aload_n 0, 1) := by decide +kernel
theorem dX8_seen_23 : decode cX8_seen 23 = .ok (.getfield 43, 3) := by decide +kernel
theorem dX8_seen_26 : decode cX8_seen 26 = .ok (.aload_n 0, 1) := by decide +kernel
theorem dX8_seen_27 : decode cX8_seen 27 = .ok (.getfield 125, 3) := by decide +kernel
theorem dX8_seen_30 : decode cX8_seen 30 = .ok (.iload_n 1, 1) := by decide +kernel
theorem dX8_seen_31 : decode cX8_seen 31 = .ok (.iastore, 1) := by decide +kernel
theorem dX8_seen_32 : decode cX8_seen 32 = .ok (.aload_n 0, 1) := by decide +kernel
theorem dX8_seen_33 : decode cX8_seen 33 = .ok (.getfield 46, 3) := by decide +kernel
theorem dX8_seen_36 : decode cX8_seen 36 = .ok (.aload_n 0, 1) := by decide +kernel
theorem dX8_seen_37 : decode cX8_seen 37 = .ok (.getfield 125, 3) := by decide +kernel
theorem dX8_seen_40 : decode cX8_seen 40 = .ok (.iload_n 2, 1) := by decide +kernel
theorem dX8_seen_41 : decode cX8_seen 41 = .ok (.ifCond .eq 7, 3) := by decide +kernel
theorem dX8_seen_44 : decode cX8_seen 44 = .ok (.iconst 1, 1) := by decide +kernel
theorem dX8_seen_45 : decode cX8_seen 45 = .ok (.goto 4, 3) := by decide +kernel
theorem dX8_seen_48 : decode cX8_seen 48 = .ok (.iconst 0, 1) := by decide +kernel
theorem dX8_seen_49 : decode cX8_seen 49 = .ok (.iastore, 1) := by decide +kernel
theorem dX8_seen_50 : decode cX8_seen 50 = .ok (.aload_n 0, 1) := by decide +kernel
theorem dX8_seen_51 : decode cX8_seen 51 = .ok (.dup, 1) := by decide +kernel
theorem dX8_seen_52 : decode cX8_seen 52 = .ok (.getfield 125, 3) := by decide +kernel
theorem dX8_seen_55 : decode cX8_seen 55 = .ok (.iconst 1, 1) := by decide +kernel
theorem dX8_seen_56 : decode cX8_seen 56 = .ok (.iadd, 1) := by decide +kernel
theorem dX8_seen_57 : decode cX8_seen 57 = .ok (.putfield 125, 3) := by decide +kernel
theorem dX8_seen_60 : decode cX8_seen 60 = .ok (.aload_n 0, 1) := by decide +kernel
theorem dX8_seen_61 : decode cX8_seen 61 = .ok (.getfield 125, 3) := by decide +kernel
theorem dX8_seen_64 : decode cX8_seen 64 = .ok (.ireturn, 1) := by decide +kernel
theorem dX8_forget_0 : decode cX8_forget 0 = .ok (.aload_n 0, 1) := by decide +kernel
theorem dX8_forget_1 : decode cX8_forget 1 = .ok (.getfield 125, 3) := by decide +kernel
theorem dX8_forget_4 : decode cX8_forget 4 = .ok (.istore_n 1, 1) := by decide +kernel
theorem dX8_forget_5 : decode cX8_forget 5 = .ok (.aload_n 0, 1) := by decide +kernel
theorem dX8_forget_6 : decode cX8_forget 6 = .ok (.iconst 0, 1) := by decide +kernel
theorem dX8_forget_7 : decode cX8_forget 7 = .ok (.putfield 125, 3) := by decide +kernel
theorem dX8_forget_10 : decode cX8_forget 10 = .ok (.iload_n 1, 1) := by decide +kernel
theorem dX8_forget_11 : decode cX8_forget 11 = .ok (.ireturn, 1) := by decide +kernel
set_option maxRecDepth 20000 in
theorem ggX8_isSeenSo_X8_openSet : GoodIn wsX8_isSeenSo wsX8_openSet := goodIn_r _ [8, 9, 10, 11, 12, 7, 13, 14, 15, 16, 17, 18, 19, 20, 21, 22, 23, 24, 25, 26, 27, 28, 29, 30, 31, 32, 33, 34, 35, 36, 37, 38, 39, 40, 41, 42, 43, 44, 45] (by decide +kernel) (by decide +kernel)
set_option maxRecDepth 20000 in
theorem gX8_isSeenSo_X8_openSet : GoodIn wsX8_isSeenSo (wsV RX8 200 RX8 yX8_openSet wsX8_openSet) := goodIn_app (goodIn_of _ (by decide +kernel)) ggX8_isSeenSo_X8_openSet
