/-! the reference's constructor (printed by wip/gen/ctor_m.py) -/
theorem jf_M_23 : Cond.fieldLink "CoatsFitTheMoodModel" 23 "CoatsFitTheMoodModel" "moods" "[I" ∈ lw_good := ab_at_in (k := 903) (by decide +kernel)
theorem jl_M_7 : Cond.methodLink "CoatsFitTheMoodModel" 7 ⟨"java/lang/Object", "<init>", "()V"⟩ ∈ lw_good := ab_at_in (k := 892) (by decide +kernel)
theorem jf_M_13 : Cond.fieldLink "CoatsFitTheMoodModel" 13 "CoatsFitTheMoodModel" "texts" "[I" ∈ lw_good := ab_at_in (k := 897) (by decide +kernel)
theorem jf_M_17 : Cond.fieldLink "CoatsFitTheMoodModel" 17 "CoatsFitTheMoodModel" "textSize" "[I" ∈ lw_good := ab_at_in (k := 898) (by decide +kernel)
theorem jf_M_20 : Cond.fieldLink "CoatsFitTheMoodModel" 20 "CoatsFitTheMoodModel" "tape" "[I" ∈ lw_good := ab_at_in (k := 901) (by decide +kernel)
theorem jf_M_26 : Cond.fieldLink "CoatsFitTheMoodModel" 26 "CoatsFitTheMoodModel" "kinds" "[I" ∈ lw_good := ab_at_in (k := 904) (by decide +kernel)
theorem jf_M_29 : Cond.fieldLink "CoatsFitTheMoodModel" 29 "CoatsFitTheMoodModel" "rows" "[I" ∈ lw_good := ab_at_in (k := 905) (by decide +kernel)
theorem jf_M_32 : Cond.fieldLink "CoatsFitTheMoodModel" 32 "CoatsFitTheMoodModel" "right" "[I" ∈ lw_good := ab_at_in (k := 922) (by decide +kernel)
theorem jf_M_35 : Cond.fieldLink "CoatsFitTheMoodModel" 35 "CoatsFitTheMoodModel" "now" "[I" ∈ lw_good := ab_at_in (k := 923) (by decide +kernel)
theorem jf_M_38 : Cond.fieldLink "CoatsFitTheMoodModel" 38 "CoatsFitTheMoodModel" "next" "[I" ∈ lw_good := ab_at_in (k := 924) (by decide +kernel)
theorem jf_M_41 : Cond.fieldLink "CoatsFitTheMoodModel" 41 "CoatsFitTheMoodModel" "least1" "[I" ∈ lw_good := ab_at_in (k := 925) (by decide +kernel)
theorem jf_M_44 : Cond.fieldLink "CoatsFitTheMoodModel" 44 "CoatsFitTheMoodModel" "fine1" "[I" ∈ lw_good := ab_at_in (k := 926) (by decide +kernel)
theorem jf_M_47 : Cond.fieldLink "CoatsFitTheMoodModel" 47 "CoatsFitTheMoodModel" "cost1" "[I" ∈ lw_good := ab_at_in (k := 927) (by decide +kernel)
theorem jf_M_50 : Cond.fieldLink "CoatsFitTheMoodModel" 50 "CoatsFitTheMoodModel" "wears" "[I" ∈ lw_good := ab_at_in (k := 928) (by decide +kernel)
theorem jf_M_53 : Cond.fieldLink "CoatsFitTheMoodModel" 53 "CoatsFitTheMoodModel" "moodsWas" "[I" ∈ lw_good := ab_at_in (k := 929) (by decide +kernel)
theorem jf_M_56 : Cond.fieldLink "CoatsFitTheMoodModel" 56 "CoatsFitTheMoodModel" "moodsKept" "[I" ∈ lw_good := ab_at_in (k := 930) (by decide +kernel)
theorem jf_M_59 : Cond.fieldLink "CoatsFitTheMoodModel" 59 "CoatsFitTheMoodModel" "rowsKept" "[I" ∈ lw_good := ab_at_in (k := 931) (by decide +kernel)
theorem jf_M_62 : Cond.fieldLink "CoatsFitTheMoodModel" 62 "CoatsFitTheMoodModel" "manyKept" "I" ∈ lw_good := ab_at_in (k := 932) (by decide +kernel)
theorem jf_M_65 : Cond.fieldLink "CoatsFitTheMoodModel" 65 "CoatsFitTheMoodModel" "isThere" "[Z" ∈ lw_good := ab_at_in (k := 934) (by decide +kernel)
theorem jf_M_69 : Cond.fieldLink "CoatsFitTheMoodModel" 69 "CoatsFitTheMoodModel" "sorts" "[I" ∈ lw_good := ab_at_in (k := 935) (by decide +kernel)
theorem jf_M_72 : Cond.fieldLink "CoatsFitTheMoodModel" 72 "CoatsFitTheMoodModel" "sheetSize" "[I" ∈ lw_good := ab_at_in (k := 936) (by decide +kernel)
theorem jf_M_75 : Cond.fieldLink "CoatsFitTheMoodModel" 75 "CoatsFitTheMoodModel" "items" "[I" ∈ lw_good := ab_at_in (k := 937) (by decide +kernel)
set_option maxRecDepth 100000 in
theorem jk_M_spell : Cond.code ⟨"CoatsFitTheMoodModel", "spell", "(IIIIIIIII)V"⟩ prog_10_method_5_code 10 none ∈ lw_good := List.mem_filter.mpr ⟨List.mem_of_getElem? (i := 896) (by rfl), rfl⟩
theorem jz_M : Cond.initialized "CoatsFitTheMoodModel" ∈ lw_good := ab_at_in (k := 125) (by decide +kernel)
theorem jl_M_78 : Cond.methodLink "CoatsFitTheMoodModel" 78 ⟨"CoatsFitTheMoodModel", "spell", "(IIIIIIIII)V"⟩ ∈ lw_good := ab_at_in (k := 893) (by decide +kernel)
theorem ji_M_spell : Cond.instanceMethod ⟨"CoatsFitTheMoodModel", "spell", "(IIIIIIIII)V"⟩ ∈ lw_good := ab_at_in (k := 895) (by decide +kernel)
theorem jf_M_82 : Cond.fieldLink "CoatsFitTheMoodModel" 82 "CoatsFitTheMoodModel" "textCount" "I" ∈ lw_good := ab_at_in (k := 899) (by decide +kernel)
theorem de_M_init_174 : decode prog_10_method_4_code 174 = .ok (.iload_n 1, 1) := by decide +kernel
theorem de_M_init_175 : decode prog_10_method_4_code 175 = .ok (.bipush 72, 2) := by decide +kernel
theorem de_M_init_177 : decode prog_10_method_4_code 177 = .ok (.if_icmp .ge 17, 3) := by decide +kernel
theorem de_M_init_180 : decode prog_10_method_4_code 180 = .ok (.aload_n 0, 1) := by decide +kernel
theorem de_M_init_181 : decode prog_10_method_4_code 181 = .ok (.getfield 23, 3) := by decide +kernel
theorem de_M_init_184 : decode prog_10_method_4_code 184 = .ok (.iload_n 1, 1) := by decide +kernel
theorem de_M_init_185 : decode prog_10_method_4_code 185 = .ok (.bipush 50, 2) := by decide +kernel
theorem de_M_init_187 : decode prog_10_method_4_code 187 = .ok (.iastore, 1) := by decide +kernel
theorem de_M_init_188 : decode prog_10_method_4_code 188 = .ok (.iinc 1 1, 3) := by decide +kernel
theorem de_M_init_191 : decode prog_10_method_4_code 191 = .ok (.goto (-17), 3) := by decide +kernel
theorem de_M_init_0 : decode prog_10_method_4_code 0 = .ok (.aload_n 0, 1) := by decide +kernel
theorem de_M_init_1 : decode prog_10_method_4_code 1 = .ok (.invokespecial 7, 3) := by decide +kernel
theorem de_M_init_4 : decode prog_10_method_4_code 4 = .ok (.aload_n 0, 1) := by decide +kernel
theorem de_M_init_5 : decode prog_10_method_4_code 5 = .ok (.sipush 960, 3) := by decide +kernel
theorem de_M_init_8 : decode prog_10_method_4_code 8 = .ok (.newarray .int, 2) := by decide +kernel
theorem de_M_init_10 : decode prog_10_method_4_code 10 = .ok (.putfield 13, 3) := by decide +kernel
theorem de_M_init_13 : decode prog_10_method_4_code 13 = .ok (.aload_n 0, 1) := by decide +kernel
theorem de_M_init_14 : decode prog_10_method_4_code 14 = .ok (.bipush 6, 2) := by decide +kernel
theorem de_M_init_16 : decode prog_10_method_4_code 16 = .ok (.newarray .int, 2) := by decide +kernel
theorem de_M_init_18 : decode prog_10_method_4_code 18 = .ok (.putfield 17, 3) := by decide +kernel
theorem de_M_init_21 : decode prog_10_method_4_code 21 = .ok (.aload_n 0, 1) := by decide +kernel
theorem de_M_init_22 : decode prog_10_method_4_code 22 = .ok (.sipush 160, 3) := by decide +kernel
theorem de_M_init_25 : decode prog_10_method_4_code 25 = .ok (.newarray .int, 2) := by decide +kernel
theorem de_M_init_27 : decode prog_10_method_4_code 27 = .ok (.putfield 20, 3) := by decide +kernel
theorem de_M_init_30 : decode prog_10_method_4_code 30 = .ok (.aload_n 0, 1) := by decide +kernel
theorem de_M_init_31 : decode prog_10_method_4_code 31 = .ok (.bipush 72, 2) := by decide +kernel
theorem de_M_init_33 : decode prog_10_method_4_code 33 = .ok (.newarray .int, 2) := by decide +kernel
theorem de_M_init_35 : decode prog_10_method_4_code 35 = .ok (.putfield 23, 3) := by decide +kernel
theorem de_M_init_38 : decode prog_10_method_4_code 38 = .ok (.aload_n 0, 1) := by decide +kernel
theorem de_M_init_39 : decode prog_10_method_4_code 39 = .ok (.bipush 8, 2) := by decide +kernel
theorem de_M_init_41 : decode prog_10_method_4_code 41 = .ok (.newarray .int, 2) := by decide +kernel
theorem de_M_init_43 : decode prog_10_method_4_code 43 = .ok (.putfield 26, 3) := by decide +kernel
theorem de_M_init_46 : decode prog_10_method_4_code 46 = .ok (.aload_n 0, 1) := by decide +kernel
theorem de_M_init_47 : decode prog_10_method_4_code 47 = .ok (.bipush 24, 2) := by decide +kernel
theorem de_M_init_49 : decode prog_10_method_4_code 49 = .ok (.newarray .int, 2) := by decide +kernel
theorem de_M_init_51 : decode prog_10_method_4_code 51 = .ok (.putfield 29, 3) := by decide +kernel
theorem de_M_init_54 : decode prog_10_method_4_code 54 = .ok (.aload_n 0, 1) := by decide +kernel
theorem de_M_init_55 : decode prog_10_method_4_code 55 = .ok (.bipush 24, 2) := by decide +kernel
theorem de_M_init_57 : decode prog_10_method_4_code 57 = .ok (.newarray .int, 2) := by decide +kernel
theorem de_M_init_59 : decode prog_10_method_4_code 59 = .ok (.putfield 32, 3) := by decide +kernel
theorem de_M_init_62 : decode prog_10_method_4_code 62 = .ok (.aload_n 0, 1) := by decide +kernel
theorem de_M_init_63 : decode prog_10_method_4_code 63 = .ok (.bipush 9, 2) := by decide +kernel
theorem de_M_init_65 : decode prog_10_method_4_code 65 = .ok (.newarray .int, 2) := by decide +kernel
theorem de_M_init_67 : decode prog_10_method_4_code 67 = .ok (.putfield 35, 3) := by decide +kernel
theorem de_M_init_70 : decode prog_10_method_4_code 70 = .ok (.aload_n 0, 1) := by decide +kernel
theorem de_M_init_71 : decode prog_10_method_4_code 71 = .ok (.bipush 9, 2) := by decide +kernel
theorem de_M_init_73 : decode prog_10_method_4_code 73 = .ok (.newarray .int, 2) := by decide +kernel
theorem de_M_init_75 : decode prog_10_method_4_code 75 = .ok (.putfield 38, 3) := by decide +kernel
theorem de_M_init_78 : decode prog_10_method_4_code 78 = .ok (.aload_n 0, 1) := by decide +kernel
theorem de_M_init_79 : decode prog_10_method_4_code 79 = .ok (.sipush 225, 3) := by decide +kernel
theorem de_M_init_82 : decode prog_10_method_4_code 82 = .ok (.newarray .int, 2) := by decide +kernel
theorem de_M_init_84 : decode prog_10_method_4_code 84 = .ok (.putfield 41, 3) := by decide +kernel
theorem de_M_init_87 : decode prog_10_method_4_code 87 = .ok (.aload_n 0, 1) := by decide +kernel
theorem de_M_init_88 : decode prog_10_method_4_code 88 = .ok (.sipush 216, 3) := by decide +kernel
theorem de_M_init_91 : decode prog_10_method_4_code 91 = .ok (.newarray .int, 2) := by decide +kernel
theorem de_M_init_93 : decode prog_10_method_4_code 93 = .ok (.putfield 44, 3) := by decide +kernel
theorem de_M_init_96 : decode prog_10_method_4_code 96 = .ok (.aload_n 0, 1) := by decide +kernel
theorem de_M_init_97 : decode prog_10_method_4_code 97 = .ok (.sipush 216, 3) := by decide +kernel
theorem de_M_init_100 : decode prog_10_method_4_code 100 = .ok (.newarray .int, 2) := by decide +kernel
theorem de_M_init_102 : decode prog_10_method_4_code 102 = .ok (.putfield 47, 3) := by decide +kernel
theorem de_M_init_105 : decode prog_10_method_4_code 105 = .ok (.aload_n 0, 1) := by decide +kernel
theorem de_M_init_106 : decode prog_10_method_4_code 106 = .ok (.bipush 24, 2) := by decide +kernel
theorem de_M_init_108 : decode prog_10_method_4_code 108 = .ok (.newarray .int, 2) := by decide +kernel
theorem de_M_init_110 : decode prog_10_method_4_code 110 = .ok (.putfield 50, 3) := by decide +kernel
theorem de_M_init_113 : decode prog_10_method_4_code 113 = .ok (.aload_n 0, 1) := by decide +kernel
theorem de_M_init_114 : decode prog_10_method_4_code 114 = .ok (.bipush 24, 2) := by decide +kernel
theorem de_M_init_116 : decode prog_10_method_4_code 116 = .ok (.newarray .int, 2) := by decide +kernel
theorem de_M_init_118 : decode prog_10_method_4_code 118 = .ok (.putfield 53, 3) := by decide +kernel
theorem de_M_init_121 : decode prog_10_method_4_code 121 = .ok (.aload_n 0, 1) := by decide +kernel
theorem de_M_init_122 : decode prog_10_method_4_code 122 = .ok (.bipush 72, 2) := by decide +kernel
theorem de_M_init_124 : decode prog_10_method_4_code 124 = .ok (.newarray .int, 2) := by decide +kernel
theorem de_M_init_126 : decode prog_10_method_4_code 126 = .ok (.putfield 56, 3) := by decide +kernel
theorem de_M_init_129 : decode prog_10_method_4_code 129 = .ok (.aload_n 0, 1) := by decide +kernel
theorem de_M_init_130 : decode prog_10_method_4_code 130 = .ok (.bipush 24, 2) := by decide +kernel
theorem de_M_init_132 : decode prog_10_method_4_code 132 = .ok (.newarray .int, 2) := by decide +kernel
theorem de_M_init_134 : decode prog_10_method_4_code 134 = .ok (.putfield 59, 3) := by decide +kernel
theorem de_M_init_137 : decode prog_10_method_4_code 137 = .ok (.aload_n 0, 1) := by decide +kernel
theorem de_M_init_138 : decode prog_10_method_4_code 138 = .ok (.iconst (-1), 1) := by decide +kernel
theorem de_M_init_139 : decode prog_10_method_4_code 139 = .ok (.putfield 62, 3) := by decide +kernel
theorem de_M_init_142 : decode prog_10_method_4_code 142 = .ok (.aload_n 0, 1) := by decide +kernel
theorem de_M_init_143 : decode prog_10_method_4_code 143 = .ok (.iconst 4, 1) := by decide +kernel
theorem de_M_init_144 : decode prog_10_method_4_code 144 = .ok (.newarray .boolean, 2) := by decide +kernel
theorem de_M_init_146 : decode prog_10_method_4_code 146 = .ok (.putfield 65, 3) := by decide +kernel
theorem de_M_init_149 : decode prog_10_method_4_code 149 = .ok (.aload_n 0, 1) := by decide +kernel
theorem de_M_init_150 : decode prog_10_method_4_code 150 = .ok (.iconst 4, 1) := by decide +kernel
theorem de_M_init_151 : decode prog_10_method_4_code 151 = .ok (.newarray .int, 2) := by decide +kernel
theorem de_M_init_153 : decode prog_10_method_4_code 153 = .ok (.putfield 69, 3) := by decide +kernel
theorem de_M_init_156 : decode prog_10_method_4_code 156 = .ok (.aload_n 0, 1) := by decide +kernel
theorem de_M_init_157 : decode prog_10_method_4_code 157 = .ok (.iconst 4, 1) := by decide +kernel
theorem de_M_init_158 : decode prog_10_method_4_code 158 = .ok (.newarray .int, 2) := by decide +kernel
theorem de_M_init_160 : decode prog_10_method_4_code 160 = .ok (.putfield 72, 3) := by decide +kernel
theorem de_M_init_163 : decode prog_10_method_4_code 163 = .ok (.aload_n 0, 1) := by decide +kernel
theorem de_M_init_164 : decode prog_10_method_4_code 164 = .ok (.sipush 160, 3) := by decide +kernel
theorem de_M_init_167 : decode prog_10_method_4_code 167 = .ok (.newarray .int, 2) := by decide +kernel
theorem de_M_init_169 : decode prog_10_method_4_code 169 = .ok (.putfield 75, 3) := by decide +kernel
theorem de_M_init_172 : decode prog_10_method_4_code 172 = .ok (.iconst 0, 1) := by decide +kernel
theorem de_M_init_173 : decode prog_10_method_4_code 173 = .ok (.istore_n 1, 1) := by decide +kernel
theorem de_M_init_194 : decode prog_10_method_4_code 194 = .ok (.aload_n 0, 1) := by decide +kernel
theorem de_M_init_195 : decode prog_10_method_4_code 195 = .ok (.iconst 0, 1) := by decide +kernel
theorem de_M_init_196 : decode prog_10_method_4_code 196 = .ok (.bipush 101, 2) := by decide +kernel
theorem de_M_init_198 : decode prog_10_method_4_code 198 = .ok (.bipush 97, 2) := by decide +kernel
theorem de_M_init_200 : decode prog_10_method_4_code 200 = .ok (.bipush 115, 2) := by decide +kernel
theorem de_M_init_202 : decode prog_10_method_4_code 202 = .ok (.bipush 101, 2) := by decide +kernel
theorem de_M_init_204 : decode prog_10_method_4_code 204 = .ok (.bipush 115, 2) := by decide +kernel
theorem de_M_init_206 : decode prog_10_method_4_code 206 = .ok (.bipush 32, 2) := by decide +kernel
theorem de_M_init_208 : decode prog_10_method_4_code 208 = .ok (.bipush 49, 2) := by decide +kernel
theorem de_M_init_210 : decode prog_10_method_4_code 210 = .ok (.bipush 53, 2) := by decide +kernel
theorem de_M_init_212 : decode prog_10_method_4_code 212 = .ok (.invokevirtual 78, 3) := by decide +kernel
theorem de_M_init_215 : decode prog_10_method_4_code 215 = .ok (.aload_n 0, 1) := by decide +kernel
theorem de_M_init_216 : decode prog_10_method_4_code 216 = .ok (.bipush 8, 2) := by decide +kernel
theorem de_M_init_218 : decode prog_10_method_4_code 218 = .ok (.bipush 32, 2) := by decide +kernel
theorem de_M_init_220 : decode prog_10_method_4_code 220 = .ok (.bipush 59, 2) := by decide +kernel
theorem de_M_init_222 : decode prog_10_method_4_code 222 = .ok (.bipush 32, 2) := by decide +kernel
theorem de_M_init_224 : decode prog_10_method_4_code 224 = .ok (.bipush 102, 2) := by decide +kernel
theorem de_M_init_226 : decode prog_10_method_4_code 226 = .ok (.bipush 105, 2) := by decide +kernel
theorem de_M_init_228 : decode prog_10_method_4_code 228 = .ok (.bipush 110, 2) := by decide +kernel
theorem de_M_init_230 : decode prog_10_method_4_code 230 = .ok (.bipush 101, 2) := by decide +kernel
theorem de_M_init_232 : decode prog_10_method_4_code 232 = .ok (.bipush 115, 2) := by decide +kernel
theorem de_M_init_234 : decode prog_10_method_4_code 234 = .ok (.invokevirtual 78, 3) := by decide +kernel
theorem de_M_init_237 : decode prog_10_method_4_code 237 = .ok (.aload_n 0, 1) := by decide +kernel
theorem de_M_init_238 : decode prog_10_method_4_code 238 = .ok (.bipush 16, 2) := by decide +kernel
theorem de_M_init_240 : decode prog_10_method_4_code 240 = .ok (.bipush 32, 2) := by decide +kernel
theorem de_M_init_242 : decode prog_10_method_4_code 242 = .ok (.bipush 53, 2) := by decide +kernel
theorem de_M_init_244 : decode prog_10_method_4_code 244 = .ok (.bipush 32, 2) := by decide +kernel
theorem de_M_init_246 : decode prog_10_method_4_code 246 = .ok (.bipush 59, 2) := by decide +kernel
theorem de_M_init_248 : decode prog_10_method_4_code 248 = .ok (.bipush 32, 2) := by decide +kernel
theorem de_M_init_250 : decode prog_10_method_4_code 250 = .ok (.bipush 99, 2) := by decide +kernel
theorem de_M_init_252 : decode prog_10_method_4_code 252 = .ok (.bipush 111, 2) := by decide +kernel
theorem de_M_init_254 : decode prog_10_method_4_code 254 = .ok (.bipush 115, 2) := by decide +kernel
theorem de_M_init_256 : decode prog_10_method_4_code 256 = .ok (.invokevirtual 78, 3) := by decide +kernel
theorem de_M_init_259 : decode prog_10_method_4_code 259 = .ok (.aload_n 0, 1) := by decide +kernel
theorem de_M_init_260 : decode prog_10_method_4_code 260 = .ok (.bipush 24, 2) := by decide +kernel
theorem de_M_init_262 : decode prog_10_method_4_code 262 = .ok (.bipush 116, 2) := by decide +kernel
theorem de_M_init_264 : decode prog_10_method_4_code 264 = .ok (.bipush 115, 2) := by decide +kernel
theorem de_M_init_266 : decode prog_10_method_4_code 266 = .ok (.bipush 32, 2) := by decide +kernel
theorem de_M_init_268 : decode prog_10_method_4_code 268 = .ok (.bipush 51, 2) := by decide +kernel
theorem de_M_init_270 : decode prog_10_method_4_code 270 = .ok (.bipush 32, 2) := by decide +kernel
theorem de_M_init_272 : decode prog_10_method_4_code 272 = .ok (.bipush 59, 2) := by decide +kernel
theorem de_M_init_274 : decode prog_10_method_4_code 274 = .ok (.bipush 32, 2) := by decide +kernel
theorem de_M_init_276 : decode prog_10_method_4_code 276 = .ok (.bipush 32, 2) := by decide +kernel
theorem de_M_init_278 : decode prog_10_method_4_code 278 = .ok (.invokevirtual 78, 3) := by decide +kernel
theorem de_M_init_281 : decode prog_10_method_4_code 281 = .ok (.aload_n 0, 1) := by decide +kernel
theorem de_M_init_282 : decode prog_10_method_4_code 282 = .ok (.getfield 17, 3) := by decide +kernel
theorem de_M_init_285 : decode prog_10_method_4_code 285 = .ok (.iconst 0, 1) := by decide +kernel
theorem de_M_init_286 : decode prog_10_method_4_code 286 = .ok (.bipush 32, 2) := by decide +kernel
theorem de_M_init_288 : decode prog_10_method_4_code 288 = .ok (.iastore, 1) := by decide +kernel
theorem de_M_init_289 : decode prog_10_method_4_code 289 = .ok (.aload_n 0, 1) := by decide +kernel
theorem de_M_init_290 : decode prog_10_method_4_code 290 = .ok (.iconst 1, 1) := by decide +kernel
theorem de_M_init_291 : decode prog_10_method_4_code 291 = .ok (.putfield 82, 3) := by decide +kernel
theorem de_M_init_294 : decode prog_10_method_4_code 294 = .ok (.return_, 1) := by decide +kernel
theorem de_M_spell_0 : decode prog_10_method_5_code 0 = .ok (.aload_n 0, 1) := by decide +kernel
theorem de_M_spell_1 : decode prog_10_method_5_code 1 = .ok (.getfield 13, 3) := by decide +kernel
theorem de_M_spell_4 : decode prog_10_method_5_code 4 = .ok (.iload_n 1, 1) := by decide +kernel
theorem de_M_spell_5 : decode prog_10_method_5_code 5 = .ok (.iload_n 2, 1) := by decide +kernel
theorem de_M_spell_6 : decode prog_10_method_5_code 6 = .ok (.iastore, 1) := by decide +kernel
theorem de_M_spell_7 : decode prog_10_method_5_code 7 = .ok (.aload_n 0, 1) := by decide +kernel
theorem de_M_spell_8 : decode prog_10_method_5_code 8 = .ok (.getfield 13, 3) := by decide +kernel
theorem de_M_spell_11 : decode prog_10_method_5_code 11 = .ok (.iload_n 1, 1) := by decide +kernel
theorem de_M_spell_12 : decode prog_10_method_5_code 12 = .ok (.iconst 1, 1) := by decide +kernel
theorem de_M_spell_13 : decode prog_10_method_5_code 13 = .ok (.iadd, 1) := by decide +kernel
theorem de_M_spell_14 : decode prog_10_method_5_code 14 = .ok (.iload_n 3, 1) := by decide +kernel
theorem de_M_spell_15 : decode prog_10_method_5_code 15 = .ok (.iastore, 1) := by decide +kernel
theorem de_M_spell_16 : decode prog_10_method_5_code 16 = .ok (.aload_n 0, 1) := by decide +kernel
theorem de_M_spell_17 : decode prog_10_method_5_code 17 = .ok (.getfield 13, 3) := by decide +kernel
theorem de_M_spell_20 : decode prog_10_method_5_code 20 = .ok (.iload_n 1, 1) := by decide +kernel
theorem de_M_spell_21 : decode prog_10_method_5_code 21 = .ok (.iconst 2, 1) := by decide +kernel
theorem de_M_spell_22 : decode prog_10_method_5_code 22 = .ok (.iadd, 1) := by decide +kernel
theorem de_M_spell_23 : decode prog_10_method_5_code 23 = .ok (.iload 4, 2) := by decide +kernel
theorem de_M_spell_25 : decode prog_10_method_5_code 25 = .ok (.iastore, 1) := by decide +kernel
theorem de_M_spell_26 : decode prog_10_method_5_code 26 = .ok (.aload_n 0, 1) := by decide +kernel
theorem de_M_spell_27 : decode prog_10_method_5_code 27 = .ok (.getfield 13, 3) := by decide +kernel
theorem de_M_spell_30 : decode prog_10_method_5_code 30 = .ok (.iload_n 1, 1) := by decide +kernel
theorem de_M_spell_31 : decode prog_10_method_5_code 31 = .ok (.iconst 3, 1) := by decide +kernel
theorem de_M_spell_32 : decode prog_10_method_5_code 32 = .ok (.iadd, 1) := by decide +kernel
theorem de_M_spell_33 : decode prog_10_method_5_code 33 = .ok (.iload 5, 2) := by decide +kernel
theorem de_M_spell_35 : decode prog_10_method_5_code 35 = .ok (.iastore, 1) := by decide +kernel
theorem de_M_spell_36 : decode prog_10_method_5_code 36 = .ok (.aload_n 0, 1) := by decide +kernel
theorem de_M_spell_37 : decode prog_10_method_5_code 37 = .ok (.getfield 13, 3) := by decide +kernel
theorem de_M_spell_40 : decode prog_10_method_5_code 40 = .ok (.iload_n 1, 1) := by decide +kernel
theorem de_M_spell_41 : decode prog_10_method_5_code 41 = .ok (.iconst 4, 1) := by decide +kernel
theorem de_M_spell_42 : decode prog_10_method_5_code 42 = .ok (.iadd, 1) := by decide +kernel
theorem de_M_spell_43 : decode prog_10_method_5_code 43 = .ok (.iload 6, 2) := by decide +kernel
theorem de_M_spell_45 : decode prog_10_method_5_code 45 = .ok (.iastore, 1) := by decide +kernel
theorem de_M_spell_46 : decode prog_10_method_5_code 46 = .ok (.aload_n 0, 1) := by decide +kernel
theorem de_M_spell_47 : decode prog_10_method_5_code 47 = .ok (.getfield 13, 3) := by decide +kernel
theorem de_M_spell_50 : decode prog_10_method_5_code 50 = .ok (.iload_n 1, 1) := by decide +kernel
theorem de_M_spell_51 : decode prog_10_method_5_code 51 = .ok (.iconst 5, 1) := by decide +kernel
theorem de_M_spell_52 : decode prog_10_method_5_code 52 = .ok (.iadd, 1) := by decide +kernel
theorem de_M_spell_53 : decode prog_10_method_5_code 53 = .ok (.iload 7, 2) := by decide +kernel
theorem de_M_spell_55 : decode prog_10_method_5_code 55 = .ok (.iastore, 1) := by decide +kernel
theorem de_M_spell_56 : decode prog_10_method_5_code 56 = .ok (.aload_n 0, 1) := by decide +kernel
theorem de_M_spell_57 : decode prog_10_method_5_code 57 = .ok (.getfield 13, 3) := by decide +kernel
theorem de_M_spell_60 : decode prog_10_method_5_code 60 = .ok (.iload_n 1, 1) := by decide +kernel
theorem de_M_spell_61 : decode prog_10_method_5_code 61 = .ok (.bipush 6, 2) := by decide +kernel
theorem de_M_spell_63 : decode prog_10_method_5_code 63 = .ok (.iadd, 1) := by decide +kernel
theorem de_M_spell_64 : decode prog_10_method_5_code 64 = .ok (.iload 8, 2) := by decide +kernel
theorem de_M_spell_66 : decode prog_10_method_5_code 66 = .ok (.iastore, 1) := by decide +kernel
theorem de_M_spell_67 : decode prog_10_method_5_code 67 = .ok (.aload_n 0, 1) := by decide +kernel
theorem de_M_spell_68 : decode prog_10_method_5_code 68 = .ok (.getfield 13, 3) := by decide +kernel
theorem de_M_spell_71 : decode prog_10_method_5_code 71 = .ok (.iload_n 1, 1) := by decide +kernel
theorem de_M_spell_72 : decode prog_10_method_5_code 72 = .ok (.bipush 7, 2) := by decide +kernel
theorem de_M_spell_74 : decode prog_10_method_5_code 74 = .ok (.iadd, 1) := by decide +kernel
theorem de_M_spell_75 : decode prog_10_method_5_code 75 = .ok (.iload 9, 2) := by decide +kernel
theorem de_M_spell_77 : decode prog_10_method_5_code 77 = .ok (.iastore, 1) := by decide +kernel
theorem de_M_spell_78 : decode prog_10_method_5_code 78 = .ok (.return_, 1) := by decide +kernel
theorem js_M_spell : Cond.selects "CoatsFitTheMoodModel" ⟨"CoatsFitTheMoodModel", "spell", "(IIIIIIIII)V"⟩ ⟨"CoatsFitTheMoodModel", "spell", "(IIIIIIIII)V"⟩ ∈ lw_good := ab_at_in (k := 41) (by decide +kernel)
theorem fillM {p : Program} {l : Launch} {e : Env} {R : Room} {s : State} {m : MethodId} {args : Array Value} {below : List Frame} {meth : Method} {c : Code} {Q : State → Prop} {cells slots : Nat} {D : va_G} {dA : Nat → ClassId} {A : Nat → Prop} {wf : (Nat → Int32) → va_W} {h0 mo j : Nat} {fs : List Value} (C0 : ct_At p s m args c "CoatsFitTheMoodModel" prog_10_method_4_code 2 D dA) (h1 : ∀ f, (wf f)[0]? = some (h0, .inr (8, fs))) (h2 : fs[7]? = some (.ref mo)) (hj : ∀ f, (wf f)[j]? = some (mo, .inl (dA 0, 72, .inl f))) (hset : ∀ f g, (wf f).set j (mo, .inl (dA 0, 72, .inl g)) = wf g)
    (K : ∀ (H : Heap) (locs : List Loc) (ls : Array Slot), ct_W D A s (wf (mf 72)) H locs → lv_has ls 2 [(1, .int (nI 72)), (0, .ref h0)] → W p l e R s m args below meth c H locs cells slots Q (F0 m 194 ls [])) : ∀ (n i : Nat), i ≤ 72 → 73 ≤ i + n → ∀ (H : Heap) (locs : List Loc) (ls : Array Slot), ct_W D A s (wf (mf i)) H locs → lv_has ls 2 [(1, .int (nI i)), (0, .ref h0)] → W p l e R s m args below meth c H locs cells slots Q (F0 m 174 ls []) := by
  obtain ⟨hx, hb, hml, hown, hg, hK⟩ := id C0
  intro n
  induction n with
  | zero => intro i a b; omega
  | succ n ih =>
    intro i hi hin H locs ls hw hl
    refine lv_iload_n hx hb de_M_init_174 rfl (lv_at hl 0 rfl) ?_
    refine lv_bipush (v := nI 72) hx hb de_M_init_175 (by decide) ?_
    refine lv_icmp_ge (tgt := 194) hx hb de_M_init_177 (by decide) (fun q => ?_) (fun q => ?_)
    · have e : i = 72 := by
        rcases Nat.lt_or_ge i 72 with z | z
        · exact absurd q (nI_ge z (by omega))
        · omega
      subst e
      exact K H locs ls hw hl
    · have hlt : i < 72 := Nat.lt_of_not_le fun z => q (nI_le z (by omega))
      refine lv_aload_n hx hb de_M_init_180 rfl (lv_at hl 1 rfl) ?_
      refine ct_get (ci := 8) C0 hw 0 (h1 _) rfl 7 (by decide) jf_M_23 h2 de_M_init_181 ?_
      refine lv_iload_n hx hb de_M_init_184 rfl (lv_at hl 0 rfl) ?_
      refine lv_bipush (v := 50) hx hb de_M_init_185 (by decide) ?_
      refine ct_iast C0 hw j (hj _) (vp_in_nI hlt (by omega)) de_M_init_187 (fun H locs hw => ?_)
      rw [hset, na_cl (by omega), mf_up] at hw
      refine lv_iinc (v := nI (i + 1)) (lv' := [(1, .int (nI (i + 1))), (0, .ref h0)]) hx hb de_M_init_188 hl (k := 0) rfl (nI_1 i) (by decide) rfl (fun ls hl => ?_)
      refine lv_goto (tgt := 174) hx hb de_M_init_191 (by decide) ?_
      exact ih (i + 1) (by omega) (by omega) H locs ls hw hl
set_option maxHeartbeats 4000000 in
set_option maxRecDepth 100000 in
theorem cc_spell_1 (l : Launch) (D : va_G) (dA : Nat → ClassId) (h0 q1 q2 q3 q4 q5 q6 q7 q8 q9 q10 q11 q12 q13 q14 q15 q16 q17 q18 q19 q20 : Nat) (f : Nat → Int32) : ct_Met l D dA ⟨"CoatsFitTheMoodModel", "spell", "(IIIIIIIII)V"⟩ prog_10_method_5_code 10 1 12 0 0 [.ref h0, .int 0, .int 101, .int 97, .int 115, .int 101, .int 115, .int 32, .int 49, .int 53] [(h0, .inr (8, ((.int 0) :: (.ref q1) :: (.ref q2) :: (.int 0) :: (.int 0) :: (.ref q3) :: (.int 0) :: (.ref q4) :: (.ref q5) :: (.ref q6) :: (.int 0) :: (.int 0) :: (.int 0) :: (.int 0) :: (.int 0) :: (.int 0) :: (.int 0) :: (.int 0) :: (.int 0) :: (.int 0) :: (.int 0) :: (.int 0) :: (.long 0) :: (.int 0) :: (.int 0) :: (.int 0) :: (.ref q7) :: (.ref q8) :: (.ref q9) :: (.ref q10) :: (.ref q11) :: (.ref q12) :: (.ref q13) :: (.ref q14) :: (.ref q15) :: (.ref q16) :: (.int (-1)) :: (.int 0) :: (.ref q17) :: (.ref q18) :: (.ref q19) :: (.ref q20) :: []))), (q1, .inl (dA 0, 960, .inl (f)))] (fun _ => True) (fun w1 => w1 = [(h0, .inr (8, ((.int 0) :: (.ref q1) :: (.ref q2) :: (.int 0) :: (.int 0) :: (.ref q3) :: (.int 0) :: (.ref q4) :: (.ref q5) :: (.ref q6) :: (.int 0) :: (.int 0) :: (.int 0) :: (.int 0) :: (.int 0) :: (.int 0) :: (.int 0) :: (.int 0) :: (.int 0) :: (.int 0) :: (.int 0) :: (.int 0) :: (.long 0) :: (.int 0) :: (.int 0) :: (.int 0) :: (.ref q7) :: (.ref q8) :: (.ref q9) :: (.ref q10) :: (.ref q11) :: (.ref q12) :: (.ref q13) :: (.ref q14) :: (.ref q15) :: (.ref q16) :: (.int (-1)) :: (.int 0) :: (.ref q17) :: (.ref q18) :: (.ref q19) :: (.ref q20) :: []))), (q1, .inl (dA 0, 960, .inl (upd (upd (upd (upd (upd (upd (upd (upd (f) 0 (101)) 1 (97)) 2 (115)) 3 (101)) 4 (115)) 5 (32)) 6 (49)) 7 (53))))]) := by
  intro sz
  refine Met.ofW (cc := prog_10_method_5_code) (maxL := 10) (ret := none) (by decide) rfl ?_
  intro p e s m args below meth c s₁ B hml hv
  obtain ⟨rfl, hsz, hP, hK, hD0, hE⟩ := hv
  have hx := B.exec
  have hb := B.bytes
  have hr := B.returns
  have hts := atoms_spec (ws := jd_ws ⟨"CoatsFitTheMoodModel", "spell", "(IIIIIIIII)V"⟩ prog_10_method_5_code 10 none) B.pre
  have hg : ∀ w ∈ lw_good, w.before _ s = true := fun w hw => hts w (List.mem_cons_of_mem _ hw)
  have hown : s.vm.findClass "CoatsFitTheMoodModel" = some m.cls := findClass_of_methodNamed B.named
  have hlocks := B.notSynchronized
  subst hsz
  have hD := hD0.self (sz := s.heap.size)
  generalize hAe : va_A [(h0, .inr (8, ((.int 0) :: (.ref q1) :: (.ref q2) :: (.int 0) :: (.int 0) :: (.ref q3) :: (.int 0) :: (.ref q4) :: (.ref q5) :: (.ref q6) :: (.int 0) :: (.int 0) :: (.int 0) :: (.int 0) :: (.int 0) :: (.int 0) :: (.int 0) :: (.int 0) :: (.int 0) :: (.int 0) :: (.int 0) :: (.int 0) :: (.long 0) :: (.int 0) :: (.int 0) :: (.int 0) :: (.ref q7) :: (.ref q8) :: (.ref q9) :: (.ref q10) :: (.ref q11) :: (.ref q12) :: (.ref q13) :: (.ref q14) :: (.ref q15) :: (.ref q16) :: (.int (-1)) :: (.int 0) :: (.ref q17) :: (.ref q18) :: (.ref q19) :: (.ref q20) :: []))), (q1, .inl (dA 0, 960, .inl (f)))] s.heap.size = A at hD ⊢
  have hA : ∀ q : Nat, s.heap.size ≤ q → A q := fun q h => by rw [← hAe]; exact Or.inr h
  have hw : ct_W D A s [(h0, .inr (8, ((.int 0) :: (.ref q1) :: (.ref q2) :: (.int 0) :: (.int 0) :: (.ref q3) :: (.int 0) :: (.ref q4) :: (.ref q5) :: (.ref q6) :: (.int 0) :: (.int 0) :: (.int 0) :: (.int 0) :: (.int 0) :: (.int 0) :: (.int 0) :: (.int 0) :: (.int 0) :: (.int 0) :: (.int 0) :: (.int 0) :: (.long 0) :: (.int 0) :: (.int 0) :: (.int 0) :: (.ref q7) :: (.ref q8) :: (.ref q9) :: (.ref q10) :: (.ref q11) :: (.ref q12) :: (.ref q13) :: (.ref q14) :: (.ref q15) :: (.ref q16) :: (.int (-1)) :: (.int 0) :: (.ref q17) :: (.ref q18) :: (.ref q19) :: (.ref q20) :: []))), (q1, .inl (dA 0, 960, .inl (f)))] s.heap [] := ⟨hP, hD, va_S.rf⟩
  have C0 : ct_At p s m _ c "CoatsFitTheMoodModel" prog_10_method_5_code 10 D dA := ⟨hx, hb, hml, hown, hg, hK⟩
  have hl := lv_entry ([.ref h0, .int 0, .int 101, .int 97, .int 115, .int 101, .int 115, .int 32, .int 49, .int 53]) (n := 10) (Nat.le_of_ble_eq_true rfl)
  rw [lg_entry_eq]
  generalize (lg_sl ([.ref h0, .int 0, .int 101, .int 97, .int 115, .int 101, .int 115, .int 32, .int 49, .int 53]) ++ List.replicate (10 - (lg_sl ([.ref h0, .int 0, .int 101, .int 97, .int 115, .int 101, .int 115, .int 32, .int 49, .int 53])).length) Slot.unset).toArray = ls at hl ⊢
  have hl : lv_has ls 10 [(0, .ref h0), (1, .int 0), (2, .int 101), (3, .int 97), (4, .int 115), (5, .int 101), (6, .int 115), (7, .int 32), (8, .int 49), (9, .int 53)] := hl
  refine lv_aload_n hx hb de_M_spell_0 rfl (lv_at hl 0 rfl) ?_
  refine ct_get (ci := 8) C0 hw 0 rfl rfl 1 (by decide) jf_M_13 rfl de_M_spell_1 ?_
  refine lv_iload_n hx hb de_M_spell_4 rfl (lv_at hl 1 rfl) ?_
  refine lv_iload_n hx hb de_M_spell_5 rfl (lv_at hl 2 rfl) ?_
  refine ct_iast C0 hw 1 rfl (by unfold vp_in; decide) de_M_spell_6 (fun H locs hw => ?_)
  have hw : ct_W D A s [(h0, .inr (8, ((.int 0) :: (.ref q1) :: (.ref q2) :: (.int 0) :: (.int 0) :: (.ref q3) :: (.int 0) :: (.ref q4) :: (.ref q5) :: (.ref q6) :: (.int 0) :: (.int 0) :: (.int 0) :: (.int 0) :: (.int 0) :: (.int 0) :: (.int 0) :: (.int 0) :: (.int 0) :: (.int 0) :: (.int 0) :: (.int 0) :: (.long 0) :: (.int 0) :: (.int 0) :: (.int 0) :: (.ref q7) :: (.ref q8) :: (.ref q9) :: (.ref q10) :: (.ref q11) :: (.ref q12) :: (.ref q13) :: (.ref q14) :: (.ref q15) :: (.ref q16) :: (.int (-1)) :: (.int 0) :: (.ref q17) :: (.ref q18) :: (.ref q19) :: (.ref q20) :: []))), (q1, .inl (dA 0, 960, .inl (upd (f) 0 (101))))] H locs := hw
  refine lv_aload_n hx hb de_M_spell_7 rfl (lv_at hl 0 rfl) ?_
  refine ct_get (ci := 8) C0 hw 0 rfl rfl 1 (by decide) jf_M_13 rfl de_M_spell_8 ?_
  refine lv_iload_n hx hb de_M_spell_11 rfl (lv_at hl 1 rfl) ?_
  refine lv_iconst (v := 1) hx hb de_M_spell_12 (by decide) ?_
  refine lv_iadd hx hb de_M_spell_13 ?_
  refine lv_topi (fun y ey => ?_)
  have ey : y = 1 := ey.trans (by decide)
  subst ey
  refine lv_iload_n hx hb de_M_spell_14 rfl (lv_at hl 3 rfl) ?_
  refine ct_iast C0 hw 1 rfl (by unfold vp_in; decide) de_M_spell_15 (fun H locs hw => ?_)
  have hw : ct_W D A s [(h0, .inr (8, ((.int 0) :: (.ref q1) :: (.ref q2) :: (.int 0) :: (.int 0) :: (.ref q3) :: (.int 0) :: (.ref q4) :: (.ref q5) :: (.ref q6) :: (.int 0) :: (.int 0) :: (.int 0) :: (.int 0) :: (.int 0) :: (.int 0) :: (.int 0) :: (.int 0) :: (.int 0) :: (.int 0) :: (.int 0) :: (.int 0) :: (.long 0) :: (.int 0) :: (.int 0) :: (.int 0) :: (.ref q7) :: (.ref q8) :: (.ref q9) :: (.ref q10) :: (.ref q11) :: (.ref q12) :: (.ref q13) :: (.ref q14) :: (.ref q15) :: (.ref q16) :: (.int (-1)) :: (.int 0) :: (.ref q17) :: (.ref q18) :: (.ref q19) :: (.ref q20) :: []))), (q1, .inl (dA 0, 960, .inl (upd (upd (f) 0 (101)) 1 (97))))] H locs := hw
  refine lv_aload_n hx hb de_M_spell_16 rfl (lv_at hl 0 rfl) ?_
  refine ct_get (ci := 8) C0 hw 0 rfl rfl 1 (by decide) jf_M_13 rfl de_M_spell_17 ?_
  refine lv_iload_n hx hb de_M_spell_20 rfl (lv_at hl 1 rfl) ?_
  refine lv_iconst (v := 2) hx hb de_M_spell_21 (by decide) ?_
  refine lv_iadd hx hb de_M_spell_22 ?_
  refine lv_topi (fun y ey => ?_)
  have ey : y = 2 := ey.trans (by decide)
  subst ey
  refine lv_iload hx hb de_M_spell_23 (lv_at hl 4 rfl) ?_
  refine ct_iast C0 hw 1 rfl (by unfold vp_in; decide) de_M_spell_25 (fun H locs hw => ?_)
  have hw : ct_W D A s [(h0, .inr (8, ((.int 0) :: (.ref q1) :: (.ref q2) :: (.int 0) :: (.int 0) :: (.ref q3) :: (.int 0) :: (.ref q4) :: (.ref q5) :: (.ref q6) :: (.int 0) :: (.int 0) :: (.int 0) :: (.int 0) :: (.int 0) :: (.int 0) :: (.int 0) :: (.int 0) :: (.int 0) :: (.int 0) :: (.int 0) :: (.int 0) :: (.long 0) :: (.int 0) :: (.int 0) :: (.int 0) :: (.ref q7) :: (.ref q8) :: (.ref q9) :: (.ref q10) :: (.ref q11) :: (.ref q12) :: (.ref q13) :: (.ref q14) :: (.ref q15) :: (.ref q16) :: (.int (-1)) :: (.int 0) :: (.ref q17) :: (.ref q18) :: (.ref q19) :: (.ref q20) :: []))), (q1, .inl (dA 0, 960, .inl (upd (upd (upd (f) 0 (101)) 1 (97)) 2 (115))))] H locs := hw
  refine lv_aload_n hx hb de_M_spell_26 rfl (lv_at hl 0 rfl) ?_
  refine ct_get (ci := 8) C0 hw 0 rfl rfl 1 (by decide) jf_M_13 rfl de_M_spell_27 ?_
  refine lv_iload_n hx hb de_M_spell_30 rfl (lv_at hl 1 rfl) ?_
  refine lv_iconst (v := 3) hx hb de_M_spell_31 (by decide) ?_
  refine lv_iadd hx hb de_M_spell_32 ?_
  refine lv_topi (fun y ey => ?_)
  have ey : y = 3 := ey.trans (by decide)
  subst ey
  refine lv_iload hx hb de_M_spell_33 (lv_at hl 5 rfl) ?_
  refine ct_iast C0 hw 1 rfl (by unfold vp_in; decide) de_M_spell_35 (fun H locs hw => ?_)
  have hw : ct_W D A s [(h0, .inr (8, ((.int 0) :: (.ref q1) :: (.ref q2) :: (.int 0) :: (.int 0) :: (.ref q3) :: (.int 0) :: (.ref q4) :: (.ref q5) :: (.ref q6) :: (.int 0) :: (.int 0) :: (.int 0) :: (.int 0) :: (.int 0) :: (.int 0) :: (.int 0) :: (.int 0) :: (.int 0) :: (.int 0) :: (.int 0) :: (.int 0) :: (.long 0) :: (.int 0) :: (.int 0) :: (.int 0) :: (.ref q7) :: (.ref q8) :: (.ref q9) :: (.ref q10) :: (.ref q11) :: (.ref q12) :: (.ref q13) :: (.ref q14) :: (.ref q15) :: (.ref q16) :: (.int (-1)) :: (.int 0) :: (.ref q17) :: (.ref q18) :: (.ref q19) :: (.ref q20) :: []))), (q1, .inl (dA 0, 960, .inl (upd (upd (upd (upd (f) 0 (101)) 1 (97)) 2 (115)) 3 (101))))] H locs := hw
  refine lv_aload_n hx hb de_M_spell_36 rfl (lv_at hl 0 rfl) ?_
  refine ct_get (ci := 8) C0 hw 0 rfl rfl 1 (by decide) jf_M_13 rfl de_M_spell_37 ?_
  refine lv_iload_n hx hb de_M_spell_40 rfl (lv_at hl 1 rfl) ?_
  refine lv_iconst (v := 4) hx hb de_M_spell_41 (by decide) ?_
  refine lv_iadd hx hb de_M_spell_42 ?_
  refine lv_topi (fun y ey => ?_)
  have ey : y = 4 := ey.trans (by decide)
  subst ey
  refine lv_iload hx hb de_M_spell_43 (lv_at hl 6 rfl) ?_
  refine ct_iast C0 hw 1 rfl (by unfold vp_in; decide) de_M_spell_45 (fun H locs hw => ?_)
  have hw : ct_W D A s [(h0, .inr (8, ((.int 0) :: (.ref q1) :: (.ref q2) :: (.int 0) :: (.int 0) :: (.ref q3) :: (.int 0) :: (.ref q4) :: (.ref q5) :: (.ref q6) :: (.int 0) :: (.int 0) :: (.int 0) :: (.int 0) :: (.int 0) :: (.int 0) :: (.int 0) :: (.int 0) :: (.int 0) :: (.int 0) :: (.int 0) :: (.int 0) :: (.long 0) :: (.int 0) :: (.int 0) :: (.int 0) :: (.ref q7) :: (.ref q8) :: (.ref q9) :: (.ref q10) :: (.ref q11) :: (.ref q12) :: (.ref q13) :: (.ref q14) :: (.ref q15) :: (.ref q16) :: (.int (-1)) :: (.int 0) :: (.ref q17) :: (.ref q18) :: (.ref q19) :: (.ref q20) :: []))), (q1, .inl (dA 0, 960, .inl (upd (upd (upd (upd (upd (f) 0 (101)) 1 (97)) 2 (115)) 3 (101)) 4 (115))))] H locs := hw
  refine lv_aload_n hx hb de_M_spell_46 rfl (lv_at hl 0 rfl) ?_
  refine ct_get (ci := 8) C0 hw 0 rfl rfl 1 (by decide) jf_M_13 rfl de_M_spell_47 ?_
  refine lv_iload_n hx hb de_M_spell_50 rfl (lv_at hl 1 rfl) ?_
  refine lv_iconst (v := 5) hx hb de_M_spell_51 (by decide) ?_
  refine lv_iadd hx hb de_M_spell_52 ?_
  refine lv_topi (fun y ey => ?_)
  have ey : y = 5 := ey.trans (by decide)
  subst ey
  refine lv_iload hx hb de_M_spell_53 (lv_at hl 7 rfl) ?_
  refine ct_iast C0 hw 1 rfl (by unfold vp_in; decide) de_M_spell_55 (fun H locs hw => ?_)
  have hw : ct_W D A s [(h0, .inr (8, ((.int 0) :: (.ref q1) :: (.ref q2) :: (.int 0) :: (.int 0) :: (.ref q3) :: (.int 0) :: (.ref q4) :: (.ref q5) :: (.ref q6) :: (.int 0) :: (.int 0) :: (.int 0) :: (.int 0) :: (.int 0) :: (.int 0) :: (.int 0) :: (.int 0) :: (.int 0) :: (.int 0) :: (.int 0) :: (.int 0) :: (.long 0) :: (.int 0) :: (.int 0) :: (.int 0) :: (.ref q7) :: (.ref q8) :: (.ref q9) :: (.ref q10) :: (.ref q11) :: (.ref q12) :: (.ref q13) :: (.ref q14) :: (.ref q15) :: (.ref q16) :: (.int (-1)) :: (.int 0) :: (.ref q17) :: (.ref q18) :: (.ref q19) :: (.ref q20) :: []))), (q1, .inl (dA 0, 960, .inl (upd (upd (upd (upd (upd (upd (f) 0 (101)) 1 (97)) 2 (115)) 3 (101)) 4 (115)) 5 (32))))] H locs := hw
  refine lv_aload_n hx hb de_M_spell_56 rfl (lv_at hl 0 rfl) ?_
  refine ct_get (ci := 8) C0 hw 0 rfl rfl 1 (by decide) jf_M_13 rfl de_M_spell_57 ?_
  refine lv_iload_n hx hb de_M_spell_60 rfl (lv_at hl 1 rfl) ?_
  refine lv_bipush (v := 6) hx hb de_M_spell_61 (by decide) ?_
  refine lv_iadd hx hb de_M_spell_63 ?_
  refine lv_topi (fun y ey => ?_)
  have ey : y = 6 := ey.trans (by decide)
  subst ey
  refine lv_iload hx hb de_M_spell_64 (lv_at hl 8 rfl) ?_
  refine ct_iast C0 hw 1 rfl (by unfold vp_in; decide) de_M_spell_66 (fun H locs hw => ?_)
  have hw : ct_W D A s [(h0, .inr (8, ((.int 0) :: (.ref q1) :: (.ref q2) :: (.int 0) :: (.int 0) :: (.ref q3) :: (.int 0) :: (.ref q4) :: (.ref q5) :: (.ref q6) :: (.int 0) :: (.int 0) :: (.int 0) :: (.int 0) :: (.int 0) :: (.int 0) :: (.int 0) :: (.int 0) :: (.int 0) :: (.int 0) :: (.int 0) :: (.int 0) :: (.long 0) :: (.int 0) :: (.int 0) :: (.int 0) :: (.ref q7) :: (.ref q8) :: (.ref q9) :: (.ref q10) :: (.ref q11) :: (.ref q12) :: (.ref q13) :: (.ref q14) :: (.ref q15) :: (.ref q16) :: (.int (-1)) :: (.int 0) :: (.ref q17) :: (.ref q18) :: (.ref q19) :: (.ref q20) :: []))), (q1, .inl (dA 0, 960, .inl (upd (upd (upd (upd (upd (upd (upd (f) 0 (101)) 1 (97)) 2 (115)) 3 (101)) 4 (115)) 5 (32)) 6 (49))))] H locs := hw
  refine lv_aload_n hx hb de_M_spell_67 rfl (lv_at hl 0 rfl) ?_
  refine ct_get (ci := 8) C0 hw 0 rfl rfl 1 (by decide) jf_M_13 rfl de_M_spell_68 ?_
  refine lv_iload_n hx hb de_M_spell_71 rfl (lv_at hl 1 rfl) ?_
  refine lv_bipush (v := 7) hx hb de_M_spell_72 (by decide) ?_
  refine lv_iadd hx hb de_M_spell_74 ?_
  refine lv_topi (fun y ey => ?_)
  have ey : y = 7 := ey.trans (by decide)
  subst ey
  refine lv_iload hx hb de_M_spell_75 (lv_at hl 9 rfl) ?_
  refine ct_iast C0 hw 1 rfl (by unfold vp_in; decide) de_M_spell_77 (fun H locs hw => ?_)
  have hw : ct_W D A s [(h0, .inr (8, ((.int 0) :: (.ref q1) :: (.ref q2) :: (.int 0) :: (.int 0) :: (.ref q3) :: (.int 0) :: (.ref q4) :: (.ref q5) :: (.ref q6) :: (.int 0) :: (.int 0) :: (.int 0) :: (.int 0) :: (.int 0) :: (.int 0) :: (.int 0) :: (.int 0) :: (.int 0) :: (.int 0) :: (.int 0) :: (.int 0) :: (.long 0) :: (.int 0) :: (.int 0) :: (.int 0) :: (.ref q7) :: (.ref q8) :: (.ref q9) :: (.ref q10) :: (.ref q11) :: (.ref q12) :: (.ref q13) :: (.ref q14) :: (.ref q15) :: (.ref q16) :: (.int (-1)) :: (.int 0) :: (.ref q17) :: (.ref q18) :: (.ref q19) :: (.ref q20) :: []))), (q1, .inl (dA 0, 960, .inl (upd (upd (upd (upd (upd (upd (upd (upd (f) 0 (101)) 1 (97)) 2 (115)) 3 (101)) 4 (115)) 5 (32)) 6 (49)) 7 (53))))] H locs := hw
  refine W.widen (k := 0) (n := 0) (Nat.le_of_ble_eq_true rfl) (Nat.le_of_ble_eq_true rfl) ?_
  exact W.vret hx hb hr (fun t ht hW => ⟨⟨_, rfl, rfl, by rw [ht]; exact hw.1, hw.2.1⟩, hw.2.2.F ht⟩) hw.2.2.2.2 de_M_spell_78
set_option maxHeartbeats 4000000 in
set_option maxRecDepth 100000 in
theorem cc_spell_2 (l : Launch) (D : va_G) (dA : Nat → ClassId) (h0 q1 q2 q3 q4 q5 q6 q7 q8 q9 q10 q11 q12 q13 q14 q15 q16 q17 q18 q19 q20 : Nat) (f : Nat → Int32) : ct_Met l D dA ⟨"CoatsFitTheMoodModel", "spell", "(IIIIIIIII)V"⟩ prog_10_method_5_code 10 1 12 0 0 [.ref h0, .int 8, .int 32, .int 59, .int 32, .int 102, .int 105, .int 110, .int 101, .int 115] [(h0, .inr (8, ((.int 0) :: (.ref q1) :: (.ref q2) :: (.int 0) :: (.int 0) :: (.ref q3) :: (.int 0) :: (.ref q4) :: (.ref q5) :: (.ref q6) :: (.int 0) :: (.int 0) :: (.int 0) :: (.int 0) :: (.int 0) :: (.int 0) :: (.int 0) :: (.int 0) :: (.int 0) :: (.int 0) :: (.int 0) :: (.int 0) :: (.long 0) :: (.int 0) :: (.int 0) :: (.int 0) :: (.ref q7) :: (.ref q8) :: (.ref q9) :: (.ref q10) :: (.ref q11) :: (.ref q12) :: (.ref q13) :: (.ref q14) :: (.ref q15) :: (.ref q16) :: (.int (-1)) :: (.int 0) :: (.ref q17) :: (.ref q18) :: (.ref q19) :: (.ref q20) :: []))), (q1, .inl (dA 0, 960, .inl (f)))] (fun _ => True) (fun w1 => w1 = [(h0, .inr (8, ((.int 0) :: (.ref q1) :: (.ref q2) :: (.int 0) :: (.int 0) :: (.ref q3) :: (.int 0) :: (.ref q4) :: (.ref q5) :: (.ref q6) :: (.int 0) :: (.int 0) :: (.int 0) :: (.int 0) :: (.int 0) :: (.int 0) :: (.int 0) :: (.int 0) :: (.int 0) :: (.int 0) :: (.int 0) :: (.int 0) :: (.long 0) :: (.int 0) :: (.int 0) :: (.int 0) :: (.ref q7) :: (.ref q8) :: (.ref q9) :: (.ref q10) :: (.ref q11) :: (.ref q12) :: (.ref q13) :: (.ref q14) :: (.ref q15) :: (.ref q16) :: (.int (-1)) :: (.int 0) :: (.ref q17) :: (.ref q18) :: (.ref q19) :: (.ref q20) :: []))), (q1, .inl (dA 0, 960, .inl (upd (upd (upd (upd (upd (upd (upd (upd (f) 8 (32)) 9 (59)) 10 (32)) 11 (102)) 12 (105)) 13 (110)) 14 (101)) 15 (115))))]) := by
  intro sz
  refine Met.ofW (cc := prog_10_method_5_code) (maxL := 10) (ret := none) (by decide) rfl ?_
  intro p e s m args below meth c s₁ B hml hv
  obtain ⟨rfl, hsz, hP, hK, hD0, hE⟩ := hv
  have hx := B.exec
  have hb := B.bytes
  have hr := B.returns
  have hts := atoms_spec (ws := jd_ws ⟨"CoatsFitTheMoodModel", "spell", "(IIIIIIIII)V"⟩ prog_10_method_5_code 10 none) B.pre
  have hg : ∀ w ∈ lw_good, w.before _ s = true := fun w hw => hts w (List.mem_cons_of_mem _ hw)
  have hown : s.vm.findClass "CoatsFitTheMoodModel" = some m.cls := findClass_of_methodNamed B.named
  have hlocks := B.notSynchronized
  subst hsz
  have hD := hD0.self (sz := s.heap.size)
  generalize hAe : va_A [(h0, .inr (8, ((.int 0) :: (.ref q1) :: (.ref q2) :: (.int 0) :: (.int 0) :: (.ref q3) :: (.int 0) :: (.ref q4) :: (.ref q5) :: (.ref q6) :: (.int 0) :: (.int 0) :: (.int 0) :: (.int 0) :: (.int 0) :: (.int 0) :: (.int 0) :: (.int 0) :: (.int 0) :: (.int 0) :: (.int 0) :: (.int 0) :: (.long 0) :: (.int 0) :: (.int 0) :: (.int 0) :: (.ref q7) :: (.ref q8) :: (.ref q9) :: (.ref q10) :: (.ref q11) :: (.ref q12) :: (.ref q13) :: (.ref q14) :: (.ref q15) :: (.ref q16) :: (.int (-1)) :: (.int 0) :: (.ref q17) :: (.ref q18) :: (.ref q19) :: (.ref q20) :: []))), (q1, .inl (dA 0, 960, .inl (f)))] s.heap.size = A at hD ⊢
  have hA : ∀ q : Nat, s.heap.size ≤ q → A q := fun q h => by rw [← hAe]; exact Or.inr h
  have hw : ct_W D A s [(h0, .inr (8, ((.int 0) :: (.ref q1) :: (.ref q2) :: (.int 0) :: (.int 0) :: (.ref q3) :: (.int 0) :: (.ref q4) :: (.ref q5) :: (.ref q6) :: (.int 0) :: (.int 0) :: (.int 0) :: (.int 0) :: (.int 0) :: (.int 0) :: (.int 0) :: (.int 0) :: (.int 0) :: (.int 0) :: (.int 0) :: (.int 0) :: (.long 0) :: (.int 0) :: (.int 0) :: (.int 0) :: (.ref q7) :: (.ref q8) :: (.ref q9) :: (.ref q10) :: (.ref q11) :: (.ref q12) :: (.ref q13) :: (.ref q14) :: (.ref q15) :: (.ref q16) :: (.int (-1)) :: (.int 0) :: (.ref q17) :: (.ref q18) :: (.ref q19) :: (.ref q20) :: []))), (q1, .inl (dA 0, 960, .inl (f)))] s.heap [] := ⟨hP, hD, va_S.rf⟩
  have C0 : ct_At p s m _ c "CoatsFitTheMoodModel" prog_10_method_5_code 10 D dA := ⟨hx, hb, hml, hown, hg, hK⟩
  have hl := lv_entry ([.ref h0, .int 8, .int 32, .int 59, .int 32, .int 102, .int 105, .int 110, .int 101, .int 115]) (n := 10) (Nat.le_of_ble_eq_true rfl)
  rw [lg_entry_eq]
  generalize (lg_sl ([.ref h0, .int 8, .int 32, .int 59, .int 32, .int 102, .int 105, .int 110, .int 101, .int 115]) ++ List.replicate (10 - (lg_sl ([.ref h0, .int 8, .int 32, .int 59, .int 32, .int 102, .int 105, .int 110, .int 101, .int 115])).length) Slot.unset).toArray = ls at hl ⊢
  have hl : lv_has ls 10 [(0, .ref h0), (1, .int 8), (2, .int 32), (3, .int 59), (4, .int 32), (5, .int 102), (6, .int 105), (7, .int 110), (8, .int 101), (9, .int 115)] := hl
  refine lv_aload_n hx hb de_M_spell_0 rfl (lv_at hl 0 rfl) ?_
  refine ct_get (ci := 8) C0 hw 0 rfl rfl 1 (by decide) jf_M_13 rfl de_M_spell_1 ?_
  refine lv_iload_n hx hb de_M_spell_4 rfl (lv_at hl 1 rfl) ?_
  refine lv_iload_n hx hb de_M_spell_5 rfl (lv_at hl 2 rfl) ?_
  refine ct_iast C0 hw 1 rfl (by unfold vp_in; decide) de_M_spell_6 (fun H locs hw => ?_)
  have hw : ct_W D A s [(h0, .inr (8, ((.int 0) :: (.ref q1) :: (.ref q2) :: (.int 0) :: (.int 0) :: (.ref q3) :: (.int 0) :: (.ref q4) :: (.ref q5) :: (.ref q6) :: (.int 0) :: (.int 0) :: (.int 0) :: (.int 0) :: (.int 0) :: (.int 0) :: (.int 0) :: (.int 0) :: (.int 0) :: (.int 0) :: (.int 0) :: (.int 0) :: (.long 0) :: (.int 0) :: (.int 0) :: (.int 0) :: (.ref q7) :: (.ref q8) :: (.ref q9) :: (.ref q10) :: (.ref q11) :: (.ref q12) :: (.ref q13) :: (.ref q14) :: (.ref q15) :: (.ref q16) :: (.int (-1)) :: (.int 0) :: (.ref q17) :: (.ref q18) :: (.ref q19) :: (.ref q20) :: []))), (q1, .inl (dA 0, 960, .inl (upd (f) 8 (32))))] H locs := hw
  refine lv_aload_n hx hb de_M_spell_7 rfl (lv_at hl 0 rfl) ?_
  refine ct_get (ci := 8) C0 hw 0 rfl rfl 1 (by decide) jf_M_13 rfl de_M_spell_8 ?_
  refine lv_iload_n hx hb de_M_spell_11 rfl (lv_at hl 1 rfl) ?_
  refine lv_iconst (v := 1) hx hb de_M_spell_12 (by decide) ?_
  refine lv_iadd hx hb de_M_spell_13 ?_
  refine lv_topi (fun y ey => ?_)
  have ey : y = 9 := ey.trans (by decide)
  subst ey
  refine lv_iload_n hx hb de_M_spell_14 rfl (lv_at hl 3 rfl) ?_
  refine ct_iast C0 hw 1 rfl (by unfold vp_in; decide) de_M_spell_15 (fun H locs hw => ?_)
  have hw : ct_W D A s [(h0, .inr (8, ((.int 0) :: (.ref q1) :: (.ref q2) :: (.int 0) :: (.int 0) :: (.ref q3) :: (.int 0) :: (.ref q4) :: (.ref q5) :: (.ref q6) :: (.int 0) :: (.int 0) :: (.int 0) :: (.int 0) :: (.int 0) :: (.int 0) :: (.int 0) :: (.int 0) :: (.int 0) :: (.int 0) :: (.int 0) :: (.int 0) :: (.long 0) :: (.int 0) :: (.int 0) :: (.int 0) :: (.ref q7) :: (.ref q8) :: (.ref q9) :: (.ref q10) :: (.ref q11) :: (.ref q12) :: (.ref q13) :: (.ref q14) :: (.ref q15) :: (.ref q16) :: (.int (-1)) :: (.int 0) :: (.ref q17) :: (.ref q18) :: (.ref q19) :: (.ref q20) :: []))), (q1, .inl (dA 0, 960, .inl (upd (upd (f) 8 (32)) 9 (59))))] H locs := hw
  refine lv_aload_n hx hb de_M_spell_16 rfl (lv_at hl 0 rfl) ?_
  refine ct_get (ci := 8) C0 hw 0 rfl rfl 1 (by decide) jf_M_13 rfl de_M_spell_17 ?_
  refine lv_iload_n hx hb de_M_spell_20 rfl (lv_at hl 1 rfl) ?_
  refine lv_iconst (v := 2) hx hb de_M_spell_21 (by decide) ?_
  refine lv_iadd hx hb de_M_spell_22 ?_
  refine lv_topi (fun y ey => ?_)
  have ey : y = 10 := ey.trans (by decide)
  subst ey
  refine lv_iload hx hb de_M_spell_23 (lv_at hl 4 rfl) ?_
  refine ct_iast C0 hw 1 rfl (by unfold vp_in; decide) de_M_spell_25 (fun H locs hw => ?_)
  have hw : ct_W D A s [(h0, .inr (8, ((.int 0) :: (.ref q1) :: (.ref q2) :: (.int 0) :: (.int 0) :: (.ref q3) :: (.int 0) :: (.ref q4) :: (.ref q5) :: (.ref q6) :: (.int 0) :: (.int 0) :: (.int 0) :: (.int 0) :: (.int 0) :: (.int 0) :: (.int 0) :: (.int 0) :: (.int 0) :: (.int 0) :: (.int 0) :: (.int 0) :: (.long 0) :: (.int 0) :: (.int 0) :: (.int 0) :: (.ref q7) :: (.ref q8) :: (.ref q9) :: (.ref q10) :: (.ref q11) :: (.ref q12) :: (.ref q13) :: (.ref q14) :: (.ref q15) :: (.ref q16) :: (.int (-1)) :: (.int 0) :: (.ref q17) :: (.ref q18) :: (.ref q19) :: (.ref q20) :: []))), (q1, .inl (dA 0, 960, .inl (upd (upd (upd (f) 8 (32)) 9 (59)) 10 (32))))] H locs := hw
  refine lv_aload_n hx hb de_M_spell_26 rfl (lv_at hl 0 rfl) ?_
  refine ct_get (ci := 8) C0 hw 0 rfl rfl 1 (by decide) jf_M_13 rfl de_M_spell_27 ?_
  refine lv_iload_n hx hb de_M_spell_30 rfl (lv_at hl 1 rfl) ?_
  refine lv_iconst (v := 3) hx hb de_M_spell_31 (by decide) ?_
  refine lv_iadd hx hb de_M_spell_32 ?_
  refine lv_topi (fun y ey => ?_)
  have ey : y = 11 := ey.trans (by decide)
  subst ey
  refine lv_iload hx hb de_M_spell_33 (lv_at hl 5 rfl) ?_
  refine ct_iast C0 hw 1 rfl (by unfold vp_in; decide) de_M_spell_35 (fun H locs hw => ?_)
  have hw : ct_W D A s [(h0, .inr (8, ((.int 0) :: (.ref q1) :: (.ref q2) :: (.int 0) :: (.int 0) :: (.ref q3) :: (.int 0) :: (.ref q4) :: (.ref q5) :: (.ref q6) :: (.int 0) :: (.int 0) :: (.int 0) :: (.int 0) :: (.int 0) :: (.int 0) :: (.int 0) :: (.int 0) :: (.int 0) :: (.int 0) :: (.int 0) :: (.int 0) :: (.long 0) :: (.int 0) :: (.int 0) :: (.int 0) :: (.ref q7) :: (.ref q8) :: (.ref q9) :: (.ref q10) :: (.ref q11) :: (.ref q12) :: (.ref q13) :: (.ref q14) :: (.ref q15) :: (.ref q16) :: (.int (-1)) :: (.int 0) :: (.ref q17) :: (.ref q18) :: (.ref q19) :: (.ref q20) :: []))), (q1, .inl (dA 0, 960, .inl (upd (upd (upd (upd (f) 8 (32)) 9 (59)) 10 (32)) 11 (102))))] H locs := hw
  refine lv_aload_n hx hb de_M_spell_36 rfl (lv_at hl 0 rfl) ?_
  refine ct_get (ci := 8) C0 hw 0 rfl rfl 1 (by decide) jf_M_13 rfl de_M_spell_37 ?_
  refine lv_iload_n hx hb de_M_spell_40 rfl (lv_at hl 1 rfl) ?_
  refine lv_iconst (v := 4) hx hb de_M_spell_41 (by decide) ?_
  refine lv_iadd hx hb de_M_spell_42 ?_
  refine lv_topi (fun y ey => ?_)
  have ey : y = 12 := ey.trans (by decide)
  subst ey
  refine lv_iload hx hb de_M_spell_43 (lv_at hl 6 rfl) ?_
  refine ct_iast C0 hw 1 rfl (by unfold vp_in; decide) de_M_spell_45 (fun H locs hw => ?_)
  have hw : ct_W D A s [(h0, .inr (8, ((.int 0) :: (.ref q1) :: (.ref q2) :: (.int 0) :: (.int 0) :: (.ref q3) :: (.int 0) :: (.ref q4) :: (.ref q5) :: (.ref q6) :: (.int 0) :: (.int 0) :: (.int 0) :: (.int 0) :: (.int 0) :: (.int 0) :: (.int 0) :: (.int 0) :: (.int 0) :: (.int 0) :: (.int 0) :: (.int 0) :: (.long 0) :: (.int 0) :: (.int 0) :: (.int 0) :: (.ref q7) :: (.ref q8) :: (.ref q9) :: (.ref q10) :: (.ref q11) :: (.ref q12) :: (.ref q13) :: (.ref q14) :: (.ref q15) :: (.ref q16) :: (.int (-1)) :: (.int 0) :: (.ref q17) :: (.ref q18) :: (.ref q19) :: (.ref q20) :: []))), (q1, .inl (dA 0, 960, .inl (upd (upd (upd (upd (upd (f) 8 (32)) 9 (59)) 10 (32)) 11 (102)) 12 (105))))] H locs := hw
  refine lv_aload_n hx hb de_M_spell_46 rfl (lv_at hl 0 rfl) ?_
  refine ct_get (ci := 8) C0 hw 0 rfl rfl 1 (by decide) jf_M_13 rfl de_M_spell_47 ?_
  refine lv_iload_n hx hb de_M_spell_50 rfl (lv_at hl 1 rfl) ?_
  refine lv_iconst (v := 5) hx hb de_M_spell_51 (by decide) ?_
  refine lv_iadd hx hb de_M_spell_52 ?_
  refine lv_topi (fun y ey => ?_)
  have ey : y = 13 := ey.trans (by decide)
  subst ey
  refine lv_iload hx hb de_M_spell_53 (lv_at hl 7 rfl) ?_
  refine ct_iast C0 hw 1 rfl (by unfold vp_in; decide) de_M_spell_55 (fun H locs hw => ?_)
  have hw : ct_W D A s [(h0, .inr (8, ((.int 0) :: (.ref q1) :: (.ref q2) :: (.int 0) :: (.int 0) :: (.ref q3) :: (.int 0) :: (.ref q4) :: (.ref q5) :: (.ref q6) :: (.int 0) :: (.int 0) :: (.int 0) :: (.int 0) :: (.int 0) :: (.int 0) :: (.int 0) :: (.int 0) :: (.int 0) :: (.int 0) :: (.int 0) :: (.int 0) :: (.long 0) :: (.int 0) :: (.int 0) :: (.int 0) :: (.ref q7) :: (.ref q8) :: (.ref q9) :: (.ref q10) :: (.ref q11) :: (.ref q12) :: (.ref q13) :: (.ref q14) :: (.ref q15) :: (.ref q16) :: (.int (-1)) :: (.int 0) :: (.ref q17) :: (.ref q18) :: (.ref q19) :: (.ref q20) :: []))), (q1, .inl (dA 0, 960, .inl (upd (upd (upd (upd (upd (upd (f) 8 (32)) 9 (59)) 10 (32)) 11 (102)) 12 (105)) 13 (110))))] H locs := hw
  refine lv_aload_n hx hb de_M_spell_56 rfl (lv_at hl 0 rfl) ?_
  refine ct_get (ci := 8) C0 hw 0 rfl rfl 1 (by decide) jf_M_13 rfl de_M_spell_57 ?_
  refine lv_iload_n hx hb de_M_spell_60 rfl (lv_at hl 1 rfl) ?_
  refine lv_bipush (v := 6) hx hb de_M_spell_61 (by decide) ?_
  refine lv_iadd hx hb de_M_spell_63 ?_
  refine lv_topi (fun y ey => ?_)
  have ey : y = 14 := ey.trans (by decide)
  subst ey
  refine lv_iload hx hb de_M_spell_64 (lv_at hl 8 rfl) ?_
  refine ct_iast C0 hw 1 rfl (by unfold vp_in; decide) de_M_spell_66 (fun H locs hw => ?_)
  have hw : ct_W D A s [(h0, .inr (8, ((.int 0) :: (.ref q1) :: (.ref q2) :: (.int 0) :: (.int 0) :: (.ref q3) :: (.int 0) :: (.ref q4) :: (.ref q5) :: (.ref q6) :: (.int 0) :: (.int 0) :: (.int 0) :: (.int 0) :: (.int 0) :: (.int 0) :: (.int 0) :: (.int 0) :: (.int 0) :: (.int 0) :: (.int 0) :: (.int 0) :: (.long 0) :: (.int 0) :: (.int 0) :: (.int 0) :: (.ref q7) :: (.ref q8) :: (.ref q9) :: (.ref q10) :: (.ref q11) :: (.ref q12) :: (.ref q13) :: (.ref q14) :: (.ref q15) :: (.ref q16) :: (.int (-1)) :: (.int 0) :: (.ref q17) :: (.ref q18) :: (.ref q19) :: (.ref q20) :: []))), (q1, .inl (dA 0, 960, .inl (upd (upd (upd (upd (upd (upd (upd (f) 8 (32)) 9 (59)) 10 (32)) 11 (102)) 12 (105)) 13 (110)) 14 (101))))] H locs := hw
  refine lv_aload_n hx hb de_M_spell_67 rfl (lv_at hl 0 rfl) ?_
  refine ct_get (ci := 8) C0 hw 0 rfl rfl 1 (by decide) jf_M_13 rfl de_M_spell_68 ?_
  refine lv_iload_n hx hb de_M_spell_71 rfl (lv_at hl 1 rfl) ?_
  refine lv_bipush (v := 7) hx hb de_M_spell_72 (by decide) ?_
  refine lv_iadd hx hb de_M_spell_74 ?_
  refine lv_topi (fun y ey => ?_)
  have ey : y = 15 := ey.trans (by decide)
  subst ey
  refine lv_iload hx hb de_M_spell_75 (lv_at hl 9 rfl) ?_
  refine ct_iast C0 hw 1 rfl (by unfold vp_in; decide) de_M_spell_77 (fun H locs hw => ?_)
  have hw : ct_W D A s [(h0, .inr (8, ((.int 0) :: (.ref q1) :: (.ref q2) :: (.int 0) :: (.int 0) :: (.ref q3) :: (.int 0) :: (.ref q4) :: (.ref q5) :: (.ref q6) :: (.int 0) :: (.int 0) :: (.int 0) :: (.int 0) :: (.int 0) :: (.int 0) :: (.int 0) :: (.int 0) :: (.int 0) :: (.int 0) :: (.int 0) :: (.int 0) :: (.long 0) :: (.int 0) :: (.int 0) :: (.int 0) :: (.ref q7) :: (.ref q8) :: (.ref q9) :: (.ref q10) :: (.ref q11) :: (.ref q12) :: (.ref q13) :: (.ref q14) :: (.ref q15) :: (.ref q16) :: (.int (-1)) :: (.int 0) :: (.ref q17) :: (.ref q18) :: (.ref q19) :: (.ref q20) :: []))), (q1, .inl (dA 0, 960, .inl (upd (upd (upd (upd (upd (upd (upd (upd (f) 8 (32)) 9 (59)) 10 (32)) 11 (102)) 12 (105)) 13 (110)) 14 (101)) 15 (115))))] H locs := hw
  refine W.widen (k := 0) (n := 0) (Nat.le_of_ble_eq_true rfl) (Nat.le_of_ble_eq_true rfl) ?_
  exact W.vret hx hb hr (fun t ht hW => ⟨⟨_, rfl, rfl, by rw [ht]; exact hw.1, hw.2.1⟩, hw.2.2.F ht⟩) hw.2.2.2.2 de_M_spell_78
set_option maxHeartbeats 4000000 in
set_option maxRecDepth 100000 in
theorem cc_spell_3 (l : Launch) (D : va_G) (dA : Nat → ClassId) (h0 q1 q2 q3 q4 q5 q6 q7 q8 q9 q10 q11 q12 q13 q14 q15 q16 q17 q18 q19 q20 : Nat) (f : Nat → Int32) : ct_Met l D dA ⟨"CoatsFitTheMoodModel", "spell", "(IIIIIIIII)V"⟩ prog_10_method_5_code 10 1 12 0 0 [.ref h0, .int 16, .int 32, .int 53, .int 32, .int 59, .int 32, .int 99, .int 111, .int 115] [(h0, .inr (8, ((.int 0) :: (.ref q1) :: (.ref q2) :: (.int 0) :: (.int 0) :: (.ref q3) :: (.int 0) :: (.ref q4) :: (.ref q5) :: (.ref q6) :: (.int 0) :: (.int 0) :: (.int 0) :: (.int 0) :: (.int 0) :: (.int 0) :: (.int 0) :: (.int 0) :: (.int 0) :: (.int 0) :: (.int 0) :: (.int 0) :: (.long 0) :: (.int 0) :: (.int 0) :: (.int 0) :: (.ref q7) :: (.ref q8) :: (.ref q9) :: (.ref q10) :: (.ref q11) :: (.ref q12) :: (.ref q13) :: (.ref q14) :: (.ref q15) :: (.ref q16) :: (.int (-1)) :: (.int 0) :: (.ref q17) :: (.ref q18) :: (.ref q19) :: (.ref q20) :: []))), (q1, .inl (dA 0, 960, .inl (f)))] (fun _ => True) (fun w1 => w1 = [(h0, .inr (8, ((.int 0) :: (.ref q1) :: (.ref q2) :: (.int 0) :: (.int 0) :: (.ref q3) :: (.int 0) :: (.ref q4) :: (.ref q5) :: (.ref q6) :: (.int 0) :: (.int 0) :: (.int 0) :: (.int 0) :: (.int 0) :: (.int 0) :: (.int 0) :: (.int 0) :: (.int 0) :: (.int 0) :: (.int 0) :: (.int 0) :: (.long 0) :: (.int 0) :: (.int 0) :: (.int 0) :: (.ref q7) :: (.ref q8) :: (.ref q9) :: (.ref q10) :: (.ref q11) :: (.ref q12) :: (.ref q13) :: (.ref q14) :: (.ref q15) :: (.ref q16) :: (.int (-1)) :: (.int 0) :: (.ref q17) :: (.ref q18) :: (.ref q19) :: (.ref q20) :: []))), (q1, .inl (dA 0, 960, .inl (upd (upd (upd (upd (upd (upd (upd (upd (f) 16 (32)) 17 (53)) 18 (32)) 19 (59)) 20 (32)) 21 (99)) 22 (111)) 23 (115))))]) := by
  intro sz
  refine Met.ofW (cc := prog_10_method_5_code) (maxL := 10) (ret := none) (by decide) rfl ?_
  intro p e s m args below meth c s₁ B hml hv
  obtain ⟨rfl, hsz, hP, hK, hD0, hE⟩ := hv
  have hx := B.exec
  have hb := B.bytes
  have hr := B.returns
  have hts := atoms_spec (ws := jd_ws ⟨"CoatsFitTheMoodModel", "spell", "(IIIIIIIII)V"⟩ prog_10_method_5_code 10 none) B.pre
  have hg : ∀ w ∈ lw_good, w.before _ s = true := fun w hw => hts w (List.mem_cons_of_mem _ hw)
  have hown : s.vm.findClass "CoatsFitTheMoodModel" = some m.cls := findClass_of_methodNamed B.named
  have hlocks := B.notSynchronized
  subst hsz
  have hD := hD0.self (sz := s.heap.size)
  generalize hAe : va_A [(h0, .inr (8, ((.int 0) :: (.ref q1) :: (.ref q2) :: (.int 0) :: (.int 0) :: (.ref q3) :: (.int 0) :: (.ref q4) :: (.ref q5) :: (.ref q6) :: (.int 0) :: (.int 0) :: (.int 0) :: (.int 0) :: (.int 0) :: (.int 0) :: (.int 0) :: (.int 0) :: (.int 0) :: (.int 0) :: (.int 0) :: (.int 0) :: (.long 0) :: (.int 0) :: (.int 0) :: (.int 0) :: (.ref q7) :: (.ref q8) :: (.ref q9) :: (.ref q10) :: (.ref q11) :: (.ref q12) :: (.ref q13) :: (.ref q14) :: (.ref q15) :: (.ref q16) :: (.int (-1)) :: (.int 0) :: (.ref q17) :: (.ref q18) :: (.ref q19) :: (.ref q20) :: []))), (q1, .inl (dA 0, 960, .inl (f)))] s.heap.size = A at hD ⊢
  have hA : ∀ q : Nat, s.heap.size ≤ q → A q := fun q h => by rw [← hAe]; exact Or.inr h
  have hw : ct_W D A s [(h0, .inr (8, ((.int 0) :: (.ref q1) :: (.ref q2) :: (.int 0) :: (.int 0) :: (.ref q3) :: (.int 0) :: (.ref q4) :: (.ref q5) :: (.ref q6) :: (.int 0) :: (.int 0) :: (.int 0) :: (.int 0) :: (.int 0) :: (.int 0) :: (.int 0) :: (.int 0) :: (.int 0) :: (.int 0) :: (.int 0) :: (.int 0) :: (.long 0) :: (.int 0) :: (.int 0) :: (.int 0) :: (.ref q7) :: (.ref q8) :: (.ref q9) :: (.ref q10) :: (.ref q11) :: (.ref q12) :: (.ref q13) :: (.ref q14) :: (.ref q15) :: (.ref q16) :: (.int (-1)) :: (.int 0) :: (.ref q17) :: (.ref q18) :: (.ref q19) :: (.ref q20) :: []))), (q1, .inl (dA 0, 960, .inl (f)))] s.heap [] := ⟨hP, hD, va_S.rf⟩
  have C0 : ct_At p s m _ c "CoatsFitTheMoodModel" prog_10_method_5_code 10 D dA := ⟨hx, hb, hml, hown, hg, hK⟩
  have hl := lv_entry ([.ref h0, .int 16, .int 32, .int 53, .int 32, .int 59, .int 32, .int 99, .int 111, .int 115]) (n := 10) (Nat.le_of_ble_eq_true rfl)
  rw [lg_entry_eq]
  generalize (lg_sl ([.ref h0, .int 16, .int 32, .int 53, .int 32, .int 59, .int 32, .int 99, .int 111, .int 115]) ++ List.replicate (10 - (lg_sl ([.ref h0, .int 16, .int 32, .int 53, .int 32, .int 59, .int 32, .int 99, .int 111, .int 115])).length) Slot.unset).toArray = ls at hl ⊢
  have hl : lv_has ls 10 [(0, .ref h0), (1, .int 16), (2, .int 32), (3, .int 53), (4, .int 32), (5, .int 59), (6, .int 32), (7, .int 99), (8, .int 111), (9, .int 115)] := hl
  refine lv_aload_n hx hb de_M_spell_0 rfl (lv_at hl 0 rfl) ?_
  refine ct_get (ci := 8) C0 hw 0 rfl rfl 1 (by decide) jf_M_13 rfl de_M_spell_1 ?_
  refine lv_iload_n hx hb de_M_spell_4 rfl (lv_at hl 1 rfl) ?_
  refine lv_iload_n hx hb de_M_spell_5 rfl (lv_at hl 2 rfl) ?_
  refine ct_iast C0 hw 1 rfl (by unfold vp_in; decide) de_M_spell_6 (fun H locs hw => ?_)
  have hw : ct_W D A s [(h0, .inr (8, ((.int 0) :: (.ref q1) :: (.ref q2) :: (.int 0) :: (.int 0) :: (.ref q3) :: (.int 0) :: (.ref q4) :: (.ref q5) :: (.ref q6) :: (.int 0) :: (.int 0) :: (.int 0) :: (.int 0) :: (.int 0) :: (.int 0) :: (.int 0) :: (.int 0) :: (.int 0) :: (.int 0) :: (.int 0) :: (.int 0) :: (.long 0) :: (.int 0) :: (.int 0) :: (.int 0) :: (.ref q7) :: (.ref q8) :: (.ref q9) :: (.ref q10) :: (.ref q11) :: (.ref q12) :: (.ref q13) :: (.ref q14) :: (.ref q15) :: (.ref q16) :: (.int (-1)) :: (.int 0) :: (.ref q17) :: (.ref q18) :: (.ref q19) :: (.ref q20) :: []))), (q1, .inl (dA 0, 960, .inl (upd (f) 16 (32))))] H locs := hw
  refine lv_aload_n hx hb de_M_spell_7 rfl (lv_at hl 0 rfl) ?_
  refine ct_get (ci := 8) C0 hw 0 rfl rfl 1 (by decide) jf_M_13 rfl de_M_spell_8 ?_
  refine lv_iload_n hx hb de_M_spell_11 rfl (lv_at hl 1 rfl) ?_
  refine lv_iconst (v := 1) hx hb de_M_spell_12 (by decide) ?_
  refine lv_iadd hx hb de_M_spell_13 ?_
  refine lv_topi (fun y ey => ?_)
  have ey : y = 17 := ey.trans (by decide)
  subst ey
  refine lv_iload_n hx hb de_M_spell_14 rfl (lv_at hl 3 rfl) ?_
  refine ct_iast C0 hw 1 rfl (by unfold vp_in; decide) de_M_spell_15 (fun H locs hw => ?_)
  have hw : ct_W D A s [(h0, .inr (8, ((.int 0) :: (.ref q1) :: (.ref q2) :: (.int 0) :: (.int 0) :: (.ref q3) :: (.int 0) :: (.ref q4) :: (.ref q5) :: (.ref q6) :: (.int 0) :: (.int 0) :: (.int 0) :: (.int 0) :: (.int 0) :: (.int 0) :: (.int 0) :: (.int 0) :: (.int 0) :: (.int 0) :: (.int 0) :: (.int 0) :: (.long 0) :: (.int 0) :: (.int 0) :: (.int 0) :: (.ref q7) :: (.ref q8) :: (.ref q9) :: (.ref q10) :: (.ref q11) :: (.ref q12) :: (.ref q13) :: (.ref q14) :: (.ref q15) :: (.ref q16) :: (.int (-1)) :: (.int 0) :: (.ref q17) :: (.ref q18) :: (.ref q19) :: (.ref q20) :: []))), (q1, .inl (dA 0, 960, .inl (upd (upd (f) 16 (32)) 17 (53))))] H locs := hw
  refine lv_aload_n hx hb de_M_spell_16 rfl (lv_at hl 0 rfl) ?_
  refine ct_get (ci := 8) C0 hw 0 rfl rfl 1 (by decide) jf_M_13 rfl de_M_spell_17 ?_
  refine lv_iload_n hx hb de_M_spell_20 rfl (lv_at hl 1 rfl) ?_
  refine lv_iconst (v := 2) hx hb de_M_spell_21 (by decide) ?_
  refine lv_iadd hx hb de_M_spell_22 ?_
  refine lv_topi (fun y ey => ?_)
  have ey : y = 18 := ey.trans (by decide)
  subst ey
  refine lv_iload hx hb de_M_spell_23 (lv_at hl 4 rfl) ?_
  refine ct_iast C0 hw 1 rfl (by unfold vp_in; decide) de_M_spell_25 (fun H locs hw => ?_)
  have hw : ct_W D A s [(h0, .inr (8, ((.int 0) :: (.ref q1) :: (.ref q2) :: (.int 0) :: (.int 0) :: (.ref q3) :: (.int 0) :: (.ref q4) :: (.ref q5) :: (.ref q6) :: (.int 0) :: (.int 0) :: (.int 0) :: (.int 0) :: (.int 0) :: (.int 0) :: (.int 0) :: (.int 0) :: (.int 0) :: (.int 0) :: (.int 0) :: (.int 0) :: (.long 0) :: (.int 0) :: (.int 0) :: (.int 0) :: (.ref q7) :: (.ref q8) :: (.ref q9) :: (.ref q10) :: (.ref q11) :: (.ref q12) :: (.ref q13) :: (.ref q14) :: (.ref q15) :: (.ref q16) :: (.int (-1)) :: (.int 0) :: (.ref q17) :: (.ref q18) :: (.ref q19) :: (.ref q20) :: []))), (q1, .inl (dA 0, 960, .inl (upd (upd (upd (f) 16 (32)) 17 (53)) 18 (32))))] H locs := hw
  refine lv_aload_n hx hb de_M_spell_26 rfl (lv_at hl 0 rfl) ?_
  refine ct_get (ci := 8) C0 hw 0 rfl rfl 1 (by decide) jf_M_13 rfl de_M_spell_27 ?_
  refine lv_iload_n hx hb de_M_spell_30 rfl (lv_at hl 1 rfl) ?_
  refine lv_iconst (v := 3) hx hb de_M_spell_31 (by decide) ?_
  refine lv_iadd hx hb de_M_spell_32 ?_
  refine lv_topi (fun y ey => ?_)
  have ey : y = 19 := ey.trans (by decide)
  subst ey
  refine lv_iload hx hb de_M_spell_33 (lv_at hl 5 rfl) ?_
  refine ct_iast C0 hw 1 rfl (by unfold vp_in; decide) de_M_spell_35 (fun H locs hw => ?_)
  have hw : ct_W D A s [(h0, .inr (8, ((.int 0) :: (.ref q1) :: (.ref q2) :: (.int 0) :: (.int 0) :: (.ref q3) :: (.int 0) :: (.ref q4) :: (.ref q5) :: (.ref q6) :: (.int 0) :: (.int 0) :: (.int 0) :: (.int 0) :: (.int 0) :: (.int 0) :: (.int 0) :: (.int 0) :: (.int 0) :: (.int 0) :: (.int 0) :: (.int 0) :: (.long 0) :: (.int 0) :: (.int 0) :: (.int 0) :: (.ref q7) :: (.ref q8) :: (.ref q9) :: (.ref q10) :: (.ref q11) :: (.ref q12) :: (.ref q13) :: (.ref q14) :: (.ref q15) :: (.ref q16) :: (.int (-1)) :: (.int 0) :: (.ref q17) :: (.ref q18) :: (.ref q19) :: (.ref q20) :: []))), (q1, .inl (dA 0, 960, .inl (upd (upd (upd (upd (f) 16 (32)) 17 (53)) 18 (32)) 19 (59))))] H locs := hw
  refine lv_aload_n hx hb de_M_spell_36 rfl (lv_at hl 0 rfl) ?_
  refine ct_get (ci := 8) C0 hw 0 rfl rfl 1 (by decide) jf_M_13 rfl de_M_spell_37 ?_
  refine lv_iload_n hx hb de_M_spell_40 rfl (lv_at hl 1 rfl) ?_
  refine lv_iconst (v := 4) hx hb de_M_spell_41 (by decide) ?_
  refine lv_iadd hx hb de_M_spell_42 ?_
  refine lv_topi (fun y ey => ?_)
  have ey : y = 20 := ey.trans (by decide)
  subst ey
  refine lv_iload hx hb de_M_spell_43 (lv_at hl 6 rfl) ?_
  refine ct_iast C0 hw 1 rfl (by unfold vp_in; decide) de_M_spell_45 (fun H locs hw => ?_)
  have hw : ct_W D A s [(h0, .inr (8, ((.int 0) :: (.ref q1) :: (.ref q2) :: (.int 0) :: (.int 0) :: (.ref q3) :: (.int 0) :: (.ref q4) :: (.ref q5) :: (.ref q6) :: (.int 0) :: (.int 0) :: (.int 0) :: (.int 0) :: (.int 0) :: (.int 0) :: (.int 0) :: (.int 0) :: (.int 0) :: (.int 0) :: (.int 0) :: (.int 0) :: (.long 0) :: (.int 0) :: (.int 0) :: (.int 0) :: (.ref q7) :: (.ref q8) :: (.ref q9) :: (.ref q10) :: (.ref q11) :: (.ref q12) :: (.ref q13) :: (.ref q14) :: (.ref q15) :: (.ref q16) :: (.int (-1)) :: (.int 0) :: (.ref q17) :: (.ref q18) :: (.ref q19) :: (.ref q20) :: []))), (q1, .inl (dA 0, 960, .inl (upd (upd (upd (upd (upd (f) 16 (32)) 17 (53)) 18 (32)) 19 (59)) 20 (32))))] H locs := hw
  refine lv_aload_n hx hb de_M_spell_46 rfl (lv_at hl 0 rfl) ?_
  refine ct_get (ci := 8) C0 hw 0 rfl rfl 1 (by decide) jf_M_13 rfl de_M_spell_47 ?_
  refine lv_iload_n hx hb de_M_spell_50 rfl (lv_at hl 1 rfl) ?_
  refine lv_iconst (v := 5) hx hb de_M_spell_51 (by decide) ?_
  refine lv_iadd hx hb de_M_spell_52 ?_
  refine lv_topi (fun y ey => ?_)
  have ey : y = 21 := ey.trans (by decide)
  subst ey
  refine lv_iload hx hb de_M_spell_53 (lv_at hl 7 rfl) ?_
  refine ct_iast C0 hw 1 rfl (by unfold vp_in; decide) de_M_spell_55 (fun H locs hw => ?_)
  have hw : ct_W D A s [(h0, .inr (8, ((.int 0) :: (.ref q1) :: (.ref q2) :: (.int 0) :: (.int 0) :: (.ref q3) :: (.int 0) :: (.ref q4) :: (.ref q5) :: (.ref q6) :: (.int 0) :: (.int 0) :: (.int 0) :: (.int 0) :: (.int 0) :: (.int 0) :: (.int 0) :: (.int 0) :: (.int 0) :: (.int 0) :: (.int 0) :: (.int 0) :: (.long 0) :: (.int 0) :: (.int 0) :: (.int 0) :: (.ref q7) :: (.ref q8) :: (.ref q9) :: (.ref q10) :: (.ref q11) :: (.ref q12) :: (.ref q13) :: (.ref q14) :: (.ref q15) :: (.ref q16) :: (.int (-1)) :: (.int 0) :: (.ref q17) :: (.ref q18) :: (.ref q19) :: (.ref q20) :: []))), (q1, .inl (dA 0, 960, .inl (upd (upd (upd (upd (upd (upd (f) 16 (32)) 17 (53)) 18 (32)) 19 (59)) 20 (32)) 21 (99))))] H locs := hw
  refine lv_aload_n hx hb de_M_spell_56 rfl (lv_at hl 0 rfl) ?_
  refine ct_get (ci := 8) C0 hw 0 rfl rfl 1 (by decide) jf_M_13 rfl de_M_spell_57 ?_
  refine lv_iload_n hx hb de_M_spell_60 rfl (lv_at hl 1 rfl) ?_
  refine lv_bipush (v := 6) hx hb de_M_spell_61 (by decide) ?_
  refine lv_iadd hx hb de_M_spell_63 ?_
  refine lv_topi (fun y ey => ?_)
  have ey : y = 22 := ey.trans (by decide)
  subst ey
  refine lv_iload hx hb de_M_spell_64 (lv_at hl 8 rfl) ?_
  refine ct_iast C0 hw 1 rfl (by unfold vp_in; decide) de_M_spell_66 (fun H locs hw => ?_)
  have hw : ct_W D A s [(h0, .inr (8, ((.int 0) :: (.ref q1) :: (.ref q2) :: (.int 0) :: (.int 0) :: (.ref q3) :: (.int 0) :: (.ref q4) :: (.ref q5) :: (.ref q6) :: (.int 0) :: (.int 0) :: (.int 0) :: (.int 0) :: (.int 0) :: (.int 0) :: (.int 0) :: (.int 0) :: (.int 0) :: (.int 0) :: (.int 0) :: (.int 0) :: (.long 0) :: (.int 0) :: (.int 0) :: (.int 0) :: (.ref q7) :: (.ref q8) :: (.ref q9) :: (.ref q10) :: (.ref q11) :: (.ref q12) :: (.ref q13) :: (.ref q14) :: (.ref q15) :: (.ref q16) :: (.int (-1)) :: (.int 0) :: (.ref q17) :: (.ref q18) :: (.ref q19) :: (.ref q20) :: []))), (q1, .inl (dA 0, 960, .inl (upd (upd (upd (upd (upd (upd (upd (f) 16 (32)) 17 (53)) 18 (32)) 19 (59)) 20 (32)) 21 (99)) 22 (111))))] H locs := hw
  refine lv_aload_n hx hb de_M_spell_67 rfl (lv_at hl 0 rfl) ?_
  refine ct_get (ci := 8) C0 hw 0 rfl rfl 1 (by decide) jf_M_13 rfl de_M_spell_68 ?_
  refine lv_iload_n hx hb de_M_spell_71 rfl (lv_at hl 1 rfl) ?_
  refine lv_bipush (v := 7) hx hb de_M_spell_72 (by decide) ?_
  refine lv_iadd hx hb de_M_spell_74 ?_
  refine lv_topi (fun y ey => ?_)
  have ey : y = 23 := ey.trans (by decide)
  subst ey
  refine lv_iload hx hb de_M_spell_75 (lv_at hl 9 rfl) ?_
  refine ct_iast C0 hw 1 rfl (by unfold vp_in; decide) de_M_spell_77 (fun H locs hw => ?_)
  have hw : ct_W D A s [(h0, .inr (8, ((.int 0) :: (.ref q1) :: (.ref q2) :: (.int 0) :: (.int 0) :: (.ref q3) :: (.int 0) :: (.ref q4) :: (.ref q5) :: (.ref q6) :: (.int 0) :: (.int 0) :: (.int 0) :: (.int 0) :: (.int 0) :: (.int 0) :: (.int 0) :: (.int 0) :: (.int 0) :: (.int 0) :: (.int 0) :: (.int 0) :: (.long 0) :: (.int 0) :: (.int 0) :: (.int 0) :: (.ref q7) :: (.ref q8) :: (.ref q9) :: (.ref q10) :: (.ref q11) :: (.ref q12) :: (.ref q13) :: (.ref q14) :: (.ref q15) :: (.ref q16) :: (.int (-1)) :: (.int 0) :: (.ref q17) :: (.ref q18) :: (.ref q19) :: (.ref q20) :: []))), (q1, .inl (dA 0, 960, .inl (upd (upd (upd (upd (upd (upd (upd (upd (f) 16 (32)) 17 (53)) 18 (32)) 19 (59)) 20 (32)) 21 (99)) 22 (111)) 23 (115))))] H locs := hw
  refine W.widen (k := 0) (n := 0) (Nat.le_of_ble_eq_true rfl) (Nat.le_of_ble_eq_true rfl) ?_
  exact W.vret hx hb hr (fun t ht hW => ⟨⟨_, rfl, rfl, by rw [ht]; exact hw.1, hw.2.1⟩, hw.2.2.F ht⟩) hw.2.2.2.2 de_M_spell_78
set_option maxHeartbeats 4000000 in
set_option maxRecDepth 100000 in
theorem cc_spell_4 (l : Launch) (D : va_G) (dA : Nat → ClassId) (h0 q1 q2 q3 q4 q5 q6 q7 q8 q9 q10 q11 q12 q13 q14 q15 q16 q17 q18 q19 q20 : Nat) (f : Nat → Int32) : ct_Met l D dA ⟨"CoatsFitTheMoodModel", "spell", "(IIIIIIIII)V"⟩ prog_10_method_5_code 10 1 12 0 0 [.ref h0, .int 24, .int 116, .int 115, .int 32, .int 51, .int 32, .int 59, .int 32, .int 32] [(h0, .inr (8, ((.int 0) :: (.ref q1) :: (.ref q2) :: (.int 0) :: (.int 0) :: (.ref q3) :: (.int 0) :: (.ref q4) :: (.ref q5) :: (.ref q6) :: (.int 0) :: (.int 0) :: (.int 0) :: (.int 0) :: (.int 0) :: (.int 0) :: (.int 0) :: (.int 0) :: (.int 0) :: (.int 0) :: (.int 0) :: (.int 0) :: (.long 0) :: (.int 0) :: (.int 0) :: (.int 0) :: (.ref q7) :: (.ref q8) :: (.ref q9) :: (.ref q10) :: (.ref q11) :: (.ref q12) :: (.ref q13) :: (.ref q14) :: (.ref q15) :: (.ref q16) :: (.int (-1)) :: (.int 0) :: (.ref q17) :: (.ref q18) :: (.ref q19) :: (.ref q20) :: []))), (q1, .inl (dA 0, 960, .inl (f)))] (fun _ => True) (fun w1 => w1 = [(h0, .inr (8, ((.int 0) :: (.ref q1) :: (.ref q2) :: (.int 0) :: (.int 0) :: (.ref q3) :: (.int 0) :: (.ref q4) :: (.ref q5) :: (.ref q6) :: (.int 0) :: (.int 0) :: (.int 0) :: (.int 0) :: (.int 0) :: (.int 0) :: (.int 0) :: (.int 0) :: (.int 0) :: (.int 0) :: (.int 0) :: (.int 0) :: (.long 0) :: (.int 0) :: (.int 0) :: (.int 0) :: (.ref q7) :: (.ref q8) :: (.ref q9) :: (.ref q10) :: (.ref q11) :: (.ref q12) :: (.ref q13) :: (.ref q14) :: (.ref q15) :: (.ref q16) :: (.int (-1)) :: (.int 0) :: (.ref q17) :: (.ref q18) :: (.ref q19) :: (.ref q20) :: []))), (q1, .inl (dA 0, 960, .inl (upd (upd (upd (upd (upd (upd (upd (upd (f) 24 (116)) 25 (115)) 26 (32)) 27 (51)) 28 (32)) 29 (59)) 30 (32)) 31 (32))))]) := by
  intro sz
  refine Met.ofW (cc := prog_10_method_5_code) (maxL := 10) (ret := none) (by decide) rfl ?_
  intro p e s m args below meth c s₁ B hml hv
  obtain ⟨rfl, hsz, hP, hK, hD0, hE⟩ := hv
  have hx := B.exec
  have hb := B.bytes
  have hr := B.returns
  have hts := atoms_spec (ws := jd_ws ⟨"CoatsFitTheMoodModel", "spell", "(IIIIIIIII)V"⟩ prog_10_method_5_code 10 none) B.pre
  have hg : ∀ w ∈ lw_good, w.before _ s = true := fun w hw => hts w (List.mem_cons_of_mem _ hw)
  have hown : s.vm.findClass "CoatsFitTheMoodModel" = some m.cls := findClass_of_methodNamed B.named
  have hlocks := B.notSynchronized
  subst hsz
  have hD := hD0.self (sz := s.heap.size)
  generalize hAe : va_A [(h0, .inr (8, ((.int 0) :: (.ref q1) :: (.ref q2) :: (.int 0) :: (.int 0) :: (.ref q3) :: (.int 0) :: (.ref q4) :: (.ref q5) :: (.ref q6) :: (.int 0) :: (.int 0) :: (.int 0) :: (.int 0) :: (.int 0) :: (.int 0) :: (.int 0) :: (.int 0) :: (.int 0) :: (.int 0) :: (.int 0) :: (.int 0) :: (.long 0) :: (.int 0) :: (.int 0) :: (.int 0) :: (.ref q7) :: (.ref q8) :: (.ref q9) :: (.ref q10) :: (.ref q11) :: (.ref q12) :: (.ref q13) :: (.ref q14) :: (.ref q15) :: (.ref q16) :: (.int (-1)) :: (.int 0) :: (.ref q17) :: (.ref q18) :: (.ref q19) :: (.ref q20) :: []))), (q1, .inl (dA 0, 960, .inl (f)))] s.heap.size = A at hD ⊢
  have hA : ∀ q : Nat, s.heap.size ≤ q → A q := fun q h => by rw [← hAe]; exact Or.inr h
  have hw : ct_W D A s [(h0, .inr (8, ((.int 0) :: (.ref q1) :: (.ref q2) :: (.int 0) :: (.int 0) :: (.ref q3) :: (.int 0) :: (.ref q4) :: (.ref q5) :: (.ref q6) :: (.int 0) :: (.int 0) :: (.int 0) :: (.int 0) :: (.int 0) :: (.int 0) :: (.int 0) :: (.int 0) :: (.int 0) :: (.int 0) :: (.int 0) :: (.int 0) :: (.long 0) :: (.int 0) :: (.int 0) :: (.int 0) :: (.ref q7) :: (.ref q8) :: (.ref q9) :: (.ref q10) :: (.ref q11) :: (.ref q12) :: (.ref q13) :: (.ref q14) :: (.ref q15) :: (.ref q16) :: (.int (-1)) :: (.int 0) :: (.ref q17) :: (.ref q18) :: (.ref q19) :: (.ref q20) :: []))), (q1, .inl (dA 0, 960, .inl (f)))] s.heap [] := ⟨hP, hD, va_S.rf⟩
  have C0 : ct_At p s m _ c "CoatsFitTheMoodModel" prog_10_method_5_code 10 D dA := ⟨hx, hb, hml, hown, hg, hK⟩
  have hl := lv_entry ([.ref h0, .int 24, .int 116, .int 115, .int 32, .int 51, .int 32, .int 59, .int 32, .int 32]) (n := 10) (Nat.le_of_ble_eq_true rfl)
  rw [lg_entry_eq]
  generalize (lg_sl ([.ref h0, .int 24, .int 116, .int 115, .int 32, .int 51, .int 32, .int 59, .int 32, .int 32]) ++ List.replicate (10 - (lg_sl ([.ref h0, .int 24, .int 116, .int 115, .int 32, .int 51, .int 32, .int 59, .int 32, .int 32])).length) Slot.unset).toArray = ls at hl ⊢
  have hl : lv_has ls 10 [(0, .ref h0), (1, .int 24), (2, .int 116), (3, .int 115), (4, .int 32), (5, .int 51), (6, .int 32), (7, .int 59), (8, .int 32), (9, .int 32)] := hl
  refine lv_aload_n hx hb de_M_spell_0 rfl (lv_at hl 0 rfl) ?_
  refine ct_get (ci := 8) C0 hw 0 rfl rfl 1 (by decide) jf_M_13 rfl de_M_spell_1 ?_
  refine lv_iload_n hx hb de_M_spell_4 rfl (lv_at hl 1 rfl) ?_
  refine lv_iload_n hx hb de_M_spell_5 rfl (lv_at hl 2 rfl) ?_
  refine ct_iast C0 hw 1 rfl (by unfold vp_in; decide) de_M_spell_6 (fun H locs hw => ?_)
  have hw : ct_W D A s [(h0, .inr (8, ((.int 0) :: (.ref q1) :: (.ref q2) :: (.int 0) :: (.int 0) :: (.ref q3) :: (.int 0) :: (.ref q4) :: (.ref q5) :: (.ref q6) :: (.int 0) :: (.int 0) :: (.int 0) :: (.int 0) :: (.int 0) :: (.int 0) :: (.int 0) :: (.int 0) :: (.int 0) :: (.int 0) :: (.int 0) :: (.int 0) :: (.long 0) :: (.int 0) :: (.int 0) :: (.int 0) :: (.ref q7) :: (.ref q8) :: (.ref q9) :: (.ref q10) :: (.ref q11) :: (.ref q12) :: (.ref q13) :: (.ref q14) :: (.ref q15) :: (.ref q16) :: (.int (-1)) :: (.int 0) :: (.ref q17) :: (.ref q18) :: (.ref q19) :: (.ref q20) :: []))), (q1, .inl (dA 0, 960, .inl (upd (f) 24 (116))))] H locs := hw
  refine lv_aload_n hx hb de_M_spell_7 rfl (lv_at hl 0 rfl) ?_
  refine ct_get (ci := 8) C0 hw 0 rfl rfl 1 (by decide) jf_M_13 rfl de_M_spell_8 ?_
  refine lv_iload_n hx hb de_M_spell_11 rfl (lv_at hl 1 rfl) ?_
  refine lv_iconst (v := 1) hx hb de_M_spell_12 (by decide) ?_
  refine lv_iadd hx hb de_M_spell_13 ?_
  refine lv_topi (fun y ey => ?_)
  have ey : y = 25 := ey.trans (by decide)
  subst ey
  refine lv_iload_n hx hb de_M_spell_14 rfl (lv_at hl 3 rfl) ?_
  refine ct_iast C0 hw 1 rfl (by unfold vp_in; decide) de_M_spell_15 (fun H locs hw => ?_)
  have hw : ct_W D A s [(h0, .inr (8, ((.int 0) :: (.ref q1) :: (.ref q2) :: (.int 0) :: (.int 0) :: (.ref q3) :: (.int 0) :: (.ref q4) :: (.ref q5) :: (.ref q6) :: (.int 0) :: (.int 0) :: (.int 0) :: (.int 0) :: (.int 0) :: (.int 0) :: (.int 0) :: (.int 0) :: (.int 0) :: (.int 0) :: (.int 0) :: (.int 0) :: (.long 0) :: (.int 0) :: (.int 0) :: (.int 0) :: (.ref q7) :: (.ref q8) :: (.ref q9) :: (.ref q10) :: (.ref q11) :: (.ref q12) :: (.ref q13) :: (.ref q14) :: (.ref q15) :: (.ref q16) :: (.int (-1)) :: (.int 0) :: (.ref q17) :: (.ref q18) :: (.ref q19) :: (.ref q20) :: []))), (q1, .inl (dA 0, 960, .inl (upd (upd (f) 24 (116)) 25 (115))))] H locs := hw
  refine lv_aload_n hx hb de_M_spell_16 rfl (lv_at hl 0 rfl) ?_
  refine ct_get (ci := 8) C0 hw 0 rfl rfl 1 (by decide) jf_M_13 rfl de_M_spell_17 ?_
  refine lv_iload_n hx hb de_M_spell_20 rfl (lv_at hl 1 rfl) ?_
  refine lv_iconst (v := 2) hx hb de_M_spell_21 (by decide) ?_
  refine lv_iadd hx hb de_M_spell_22 ?_
  refine lv_topi (fun y ey => ?_)
  have ey : y = 26 := ey.trans (by decide)
  subst ey
  refine lv_iload hx hb de_M_spell_23 (lv_at hl 4 rfl) ?_
  refine ct_iast C0 hw 1 rfl (by unfold vp_in; decide) de_M_spell_25 (fun H locs hw => ?_)
  have hw : ct_W D A s [(h0, .inr (8, ((.int 0) :: (.ref q1) :: (.ref q2) :: (.int 0) :: (.int 0) :: (.ref q3) :: (.int 0) :: (.ref q4) :: (.ref q5) :: (.ref q6) :: (.int 0) :: (.int 0) :: (.int 0) :: (.int 0) :: (.int 0) :: (.int 0) :: (.int 0) :: (.int 0) :: (.int 0) :: (.int 0) :: (.int 0) :: (.int 0) :: (.long 0) :: (.int 0) :: (.int 0) :: (.int 0) :: (.ref q7) :: (.ref q8) :: (.ref q9) :: (.ref q10) :: (.ref q11) :: (.ref q12) :: (.ref q13) :: (.ref q14) :: (.ref q15) :: (.ref q16) :: (.int (-1)) :: (.int 0) :: (.ref q17) :: (.ref q18) :: (.ref q19) :: (.ref q20) :: []))), (q1, .inl (dA 0, 960, .inl (upd (upd (upd (f) 24 (116)) 25 (115)) 26 (32))))] H locs := hw
  refine lv_aload_n hx hb de_M_spell_26 rfl (lv_at hl 0 rfl) ?_
  refine ct_get (ci := 8) C0 hw 0 rfl rfl 1 (by decide) jf_M_13 rfl de_M_spell_27 ?_
  refine lv_iload_n hx hb de_M_spell_30 rfl (lv_at hl 1 rfl) ?_
  refine lv_iconst (v := 3) hx hb de_M_spell_31 (by decide) ?_
  refine lv_iadd hx hb de_M_spell_32 ?_
  refine lv_topi (fun y ey => ?_)
  have ey : y = 27 := ey.trans (by decide)
  subst ey
  refine lv_iload hx hb de_M_spell_33 (lv_at hl 5 rfl) ?_
  refine ct_iast C0 hw 1 rfl (by unfold vp_in; decide) de_M_spell_35 (fun H locs hw => ?_)
  have hw : ct_W D A s [(h0, .inr (8, ((.int 0) :: (.ref q1) :: (.ref q2) :: (.int 0) :: (.int 0) :: (.ref q3) :: (.int 0) :: (.ref q4) :: (.ref q5) :: (.ref q6) :: (.int 0) :: (.int 0) :: (.int 0) :: (.int 0) :: (.int 0) :: (.int 0) :: (.int 0) :: (.int 0) :: (.int 0) :: (.int 0) :: (.int 0) :: (.int 0) :: (.long 0) :: (.int 0) :: (.int 0) :: (.int 0) :: (.ref q7) :: (.ref q8) :: (.ref q9) :: (.ref q10) :: (.ref q11) :: (.ref q12) :: (.ref q13) :: (.ref q14) :: (.ref q15) :: (.ref q16) :: (.int (-1)) :: (.int 0) :: (.ref q17) :: (.ref q18) :: (.ref q19) :: (.ref q20) :: []))), (q1, .inl (dA 0, 960, .inl (upd (upd (upd (upd (f) 24 (116)) 25 (115)) 26 (32)) 27 (51))))] H locs := hw
  refine lv_aload_n hx hb de_M_spell_36 rfl (lv_at hl 0 rfl) ?_
  refine ct_get (ci := 8) C0 hw 0 rfl rfl 1 (by decide) jf_M_13 rfl de_M_spell_37 ?_
  refine lv_iload_n hx hb de_M_spell_40 rfl (lv_at hl 1 rfl) ?_
  refine lv_iconst (v := 4) hx hb de_M_spell_41 (by decide) ?_
  refine lv_iadd hx hb de_M_spell_42 ?_
  refine lv_topi (fun y ey => ?_)
  have ey : y = 28 := ey.trans (by decide)
  subst ey
  refine lv_iload hx hb de_M_spell_43 (lv_at hl 6 rfl) ?_
  refine ct_iast C0 hw 1 rfl (by unfold vp_in; decide) de_M_spell_45 (fun H locs hw => ?_)
  have hw : ct_W D A s [(h0, .inr (8, ((.int 0) :: (.ref q1) :: (.ref q2) :: (.int 0) :: (.int 0) :: (.ref q3) :: (.int 0) :: (.ref q4) :: (.ref q5) :: (.ref q6) :: (.int 0) :: (.int 0) :: (.int 0) :: (.int 0) :: (.int 0) :: (.int 0) :: (.int 0) :: (.int 0) :: (.int 0) :: (.int 0) :: (.int 0) :: (.int 0) :: (.long 0) :: (.int 0) :: (.int 0) :: (.int 0) :: (.ref q7) :: (.ref q8) :: (.ref q9) :: (.ref q10) :: (.ref q11) :: (.ref q12) :: (.ref q13) :: (.ref q14) :: (.ref q15) :: (.ref q16) :: (.int (-1)) :: (.int 0) :: (.ref q17) :: (.ref q18) :: (.ref q19) :: (.ref q20) :: []))), (q1, .inl (dA 0, 960, .inl (upd (upd (upd (upd (upd (f) 24 (116)) 25 (115)) 26 (32)) 27 (51)) 28 (32))))] H locs := hw
  refine lv_aload_n hx hb de_M_spell_46 rfl (lv_at hl 0 rfl) ?_
  refine ct_get (ci := 8) C0 hw 0 rfl rfl 1 (by decide) jf_M_13 rfl de_M_spell_47 ?_
  refine lv_iload_n hx hb de_M_spell_50 rfl (lv_at hl 1 rfl) ?_
  refine lv_iconst (v := 5) hx hb de_M_spell_51 (by decide) ?_
  refine lv_iadd hx hb de_M_spell_52 ?_
  refine lv_topi (fun y ey => ?_)
  have ey : y = 29 := ey.trans (by decide)
  subst ey
  refine lv_iload hx hb de_M_spell_53 (lv_at hl 7 rfl) ?_
  refine ct_iast C0 hw 1 rfl (by unfold vp_in; decide) de_M_spell_55 (fun H locs hw => ?_)
  have hw : ct_W D A s [(h0, .inr (8, ((.int 0) :: (.ref q1) :: (.ref q2) :: (.int 0) :: (.int 0) :: (.ref q3) :: (.int 0) :: (.ref q4) :: (.ref q5) :: (.ref q6) :: (.int 0) :: (.int 0) :: (.int 0) :: (.int 0) :: (.int 0) :: (.int 0) :: (.int 0) :: (.int 0) :: (.int 0) :: (.int 0) :: (.int 0) :: (.int 0) :: (.long 0) :: (.int 0) :: (.int 0) :: (.int 0) :: (.ref q7) :: (.ref q8) :: (.ref q9) :: (.ref q10) :: (.ref q11) :: (.ref q12) :: (.ref q13) :: (.ref q14) :: (.ref q15) :: (.ref q16) :: (.int (-1)) :: (.int 0) :: (.ref q17) :: (.ref q18) :: (.ref q19) :: (.ref q20) :: []))), (q1, .inl (dA 0, 960, .inl (upd (upd (upd (upd (upd (upd (f) 24 (116)) 25 (115)) 26 (32)) 27 (51)) 28 (32)) 29 (59))))] H locs := hw
  refine lv_aload_n hx hb de_M_spell_56 rfl (lv_at hl 0 rfl) ?_
  refine ct_get (ci := 8) C0 hw 0 rfl rfl 1 (by decide) jf_M_13 rfl de_M_spell_57 ?_
  refine lv_iload_n hx hb de_M_spell_60 rfl (lv_at hl 1 rfl) ?_
  refine lv_bipush (v := 6) hx hb de_M_spell_61 (by decide) ?_
  refine lv_iadd hx hb de_M_spell_63 ?_
  refine lv_topi (fun y ey => ?_)
  have ey : y = 30 := ey.trans (by decide)
  subst ey
  refine lv_iload hx hb de_M_spell_64 (lv_at hl 8 rfl) ?_
  refine ct_iast C0 hw 1 rfl (by unfold vp_in; decide) de_M_spell_66 (fun H locs hw => ?_)
  have hw : ct_W D A s [(h0, .inr (8, ((.int 0) :: (.ref q1) :: (.ref q2) :: (.int 0) :: (.int 0) :: (.ref q3) :: (.int 0) :: (.ref q4) :: (.ref q5) :: (.ref q6) :: (.int 0) :: (.int 0) :: (.int 0) :: (.int 0) :: (.int 0) :: (.int 0) :: (.int 0) :: (.int 0) :: (.int 0) :: (.int 0) :: (.int 0) :: (.int 0) :: (.long 0) :: (.int 0) :: (.int 0) :: (.int 0) :: (.ref q7) :: (.ref q8) :: (.ref q9) :: (.ref q10) :: (.ref q11) :: (.ref q12) :: (.ref q13) :: (.ref q14) :: (.ref q15) :: (.ref q16) :: (.int (-1)) :: (.int 0) :: (.ref q17) :: (.ref q18) :: (.ref q19) :: (.ref q20) :: []))), (q1, .inl (dA 0, 960, .inl (upd (upd (upd (upd (upd (upd (upd (f) 24 (116)) 25 (115)) 26 (32)) 27 (51)) 28 (32)) 29 (59)) 30 (32))))] H locs := hw
  refine lv_aload_n hx hb de_M_spell_67 rfl (lv_at hl 0 rfl) ?_
  refine ct_get (ci := 8) C0 hw 0 rfl rfl 1 (by decide) jf_M_13 rfl de_M_spell_68 ?_
  refine lv_iload_n hx hb de_M_spell_71 rfl (lv_at hl 1 rfl) ?_
  refine lv_bipush (v := 7) hx hb de_M_spell_72 (by decide) ?_
  refine lv_iadd hx hb de_M_spell_74 ?_
  refine lv_topi (fun y ey => ?_)
  have ey : y = 31 := ey.trans (by decide)
  subst ey
  refine lv_iload hx hb de_M_spell_75 (lv_at hl 9 rfl) ?_
  refine ct_iast C0 hw 1 rfl (by unfold vp_in; decide) de_M_spell_77 (fun H locs hw => ?_)
  have hw : ct_W D A s [(h0, .inr (8, ((.int 0) :: (.ref q1) :: (.ref q2) :: (.int 0) :: (.int 0) :: (.ref q3) :: (.int 0) :: (.ref q4) :: (.ref q5) :: (.ref q6) :: (.int 0) :: (.int 0) :: (.int 0) :: (.int 0) :: (.int 0) :: (.int 0) :: (.int 0) :: (.int 0) :: (.int 0) :: (.int 0) :: (.int 0) :: (.int 0) :: (.long 0) :: (.int 0) :: (.int 0) :: (.int 0) :: (.ref q7) :: (.ref q8) :: (.ref q9) :: (.ref q10) :: (.ref q11) :: (.ref q12) :: (.ref q13) :: (.ref q14) :: (.ref q15) :: (.ref q16) :: (.int (-1)) :: (.int 0) :: (.ref q17) :: (.ref q18) :: (.ref q19) :: (.ref q20) :: []))), (q1, .inl (dA 0, 960, .inl (upd (upd (upd (upd (upd (upd (upd (upd (f) 24 (116)) 25 (115)) 26 (32)) 27 (51)) 28 (32)) 29 (59)) 30 (32)) 31 (32))))] H locs := hw
  refine W.widen (k := 0) (n := 0) (Nat.le_of_ble_eq_true rfl) (Nat.le_of_ble_eq_true rfl) ?_
  exact W.vret hx hb hr (fun t ht hW => ⟨⟨_, rfl, rfl, by rw [ht]; exact hw.1, hw.2.1⟩, hw.2.2.F ht⟩) hw.2.2.2.2 de_M_spell_78
def wdM (dA : Nat → ClassId) (q : Nat → Nat) : va_W := (((q 2), .inl (dA 0, 6, .inl (upd (fun _ => 0) 0 (32)))) :: ((q 3), .inl (dA 0, 160, .inl (fun _ => 0))) :: ((q 4), .inl (dA 0, 72, .inl (mf 72))) :: ((q 5), .inl (dA 0, 8, .inl (fun _ => 0))) :: ((q 6), .inl (dA 0, 24, .inl (fun _ => 0))) :: ((q 7), .inl (dA 0, 24, .inl (fun _ => 0))) :: ((q 8), .inl (dA 0, 9, .inl (fun _ => 0))) :: ((q 9), .inl (dA 0, 9, .inl (fun _ => 0))) :: ((q 10), .inl (dA 0, 225, .inl (fun _ => 0))) :: ((q 11), .inl (dA 0, 216, .inl (fun _ => 0))) :: ((q 12), .inl (dA 0, 216, .inl (fun _ => 0))) :: ((q 13), .inl (dA 0, 24, .inl (fun _ => 0))) :: ((q 14), .inl (dA 0, 24, .inl (fun _ => 0))) :: ((q 15), .inl (dA 0, 72, .inl (fun _ => 0))) :: ((q 16), .inl (dA 0, 24, .inl (fun _ => 0))) :: ((q 17), .inl (dA 1, 4, .inl (fun _ => 0))) :: ((q 18), .inl (dA 0, 4, .inl (fun _ => 0))) :: ((q 19), .inl (dA 0, 4, .inl (fun _ => 0))) :: ((q 20), .inl (dA 0, 160, .inl (fun _ => 0))) :: ((q 0), .inr (8, ((.int 0) :: (.ref (q 1)) :: (.ref (q 2)) :: (.int 1) :: (.int 0) :: (.ref (q 3)) :: (.int 0) :: (.ref (q 4)) :: (.ref (q 5)) :: (.ref (q 6)) :: (.int 0) :: (.int 0) :: (.int 0) :: (.int 0) :: (.int 0) :: (.int 0) :: (.int 0) :: (.int 0) :: (.int 0) :: (.int 0) :: (.int 0) :: (.int 0) :: (.long 0) :: (.int 0) :: (.int 0) :: (.int 0) :: (.ref (q 7)) :: (.ref (q 8)) :: (.ref (q 9)) :: (.ref (q 10)) :: (.ref (q 11)) :: (.ref (q 12)) :: (.ref (q 13)) :: (.ref (q 14)) :: (.ref (q 15)) :: (.ref (q 16)) :: (.int (-1)) :: (.int 0) :: (.ref (q 17)) :: (.ref (q 18)) :: (.ref (q 19)) :: (.ref (q 20)) :: []))) :: ((q 1), .inl (dA 0, 960, .inl (upd (upd (upd (upd (upd (upd (upd (upd ((upd (upd (upd (upd (upd (upd (upd (upd ((upd (upd (upd (upd (upd (upd (upd (upd ((upd (upd (upd (upd (upd (upd (upd (upd ((fun _ => 0)) 0 (101)) 1 (97)) 2 (115)) 3 (101)) 4 (115)) 5 (32)) 6 (49)) 7 (53))) 8 (32)) 9 (59)) 10 (32)) 11 (102)) 12 (105)) 13 (110)) 14 (101)) 15 (115))) 16 (32)) 17 (53)) 18 (32)) 19 (59)) 20 (32)) 21 (99)) 22 (111)) 23 (115))) 24 (116)) 25 (115)) 26 (32)) 27 (51)) 28 (32)) 29 (59)) 30 (32)) 31 (32)))) :: [])
set_option maxHeartbeats 8000000 in
set_option maxRecDepth 100000 in
theorem cc_M (l : Launch) (D : va_G) (dA : Nat → ClassId) (h0 : Nat) : ct_Met l D dA ⟨"CoatsFitTheMoodModel", "<init>", "()V"⟩ prog_10_method_4_code 2 4 200 20 2245 [.ref h0] [(h0, .inr (8, [.int 0, .null, .null, .int 0, .int 0, .null, .int 0, .null, .null, .null, .int 0, .int 0, .int 0, .int 0, .int 0, .int 0, .int 0, .int 0, .int 0, .int 0, .int 0, .int 0, .long 0, .int 0, .int 0, .int 0, .null, .null, .null, .null, .null, .null, .null, .null, .null, .null, .int 0, .int 0, .null, .null, .null, .null]))] (fun _ => True) (fun w1 => ∃ q : Nat → Nat, q 0 = h0 ∧ w1 = wdM dA q) := by
  intro sz
  refine Met.ofW (cc := prog_10_method_4_code) (maxL := 2) (ret := none) (by decide) rfl ?_
  intro p e s m args below meth c s₁ B hml hv
  obtain ⟨rfl, hsz, hP, hK, hD0, hE⟩ := hv
  have hx := B.exec
  have hb := B.bytes
  have hr := B.returns
  have hts := atoms_spec (ws := jd_ws ⟨"CoatsFitTheMoodModel", "<init>", "()V"⟩ prog_10_method_4_code 2 none) B.pre
  have hg : ∀ w ∈ lw_good, w.before _ s = true := fun w hw => hts w (List.mem_cons_of_mem _ hw)
  have hown : s.vm.findClass "CoatsFitTheMoodModel" = some m.cls := findClass_of_methodNamed B.named
  have hlocks := B.notSynchronized
  have hin : meth.name = "<init>" := (name_of_methodNamed B.named B.method).1
  subst hsz
  have hD := hD0.self (sz := s.heap.size)
  generalize hAe : va_A [(h0, .inr (8, ((.int 0) :: (.null) :: (.null) :: (.int 0) :: (.int 0) :: (.null) :: (.int 0) :: (.null) :: (.null) :: (.null) :: (.int 0) :: (.int 0) :: (.int 0) :: (.int 0) :: (.int 0) :: (.int 0) :: (.int 0) :: (.int 0) :: (.int 0) :: (.int 0) :: (.int 0) :: (.int 0) :: (.long 0) :: (.int 0) :: (.int 0) :: (.int 0) :: (.null) :: (.null) :: (.null) :: (.null) :: (.null) :: (.null) :: (.null) :: (.null) :: (.null) :: (.null) :: (.int 0) :: (.int 0) :: (.null) :: (.null) :: (.null) :: (.null) :: [])))] s.heap.size = A at hD ⊢
  have hA : ∀ q : Nat, s.heap.size ≤ q → A q := fun q h => by rw [← hAe]; exact Or.inr h
  have hw : ct_W D A s [(h0, .inr (8, ((.int 0) :: (.null) :: (.null) :: (.int 0) :: (.int 0) :: (.null) :: (.int 0) :: (.null) :: (.null) :: (.null) :: (.int 0) :: (.int 0) :: (.int 0) :: (.int 0) :: (.int 0) :: (.int 0) :: (.int 0) :: (.int 0) :: (.int 0) :: (.int 0) :: (.int 0) :: (.int 0) :: (.long 0) :: (.int 0) :: (.int 0) :: (.int 0) :: (.null) :: (.null) :: (.null) :: (.null) :: (.null) :: (.null) :: (.null) :: (.null) :: (.null) :: (.null) :: (.int 0) :: (.int 0) :: (.null) :: (.null) :: (.null) :: (.null) :: [])))] s.heap [] := ⟨hP, hD, va_S.rf⟩
  have C0 : ct_At p s m _ c "CoatsFitTheMoodModel" prog_10_method_4_code 2 D dA := ⟨hx, hb, hml, hown, hg, hK⟩
  have hl := lv_entry ([.ref h0]) (n := 2) (Nat.le_of_ble_eq_true rfl)
  rw [lg_entry_eq]
  generalize (lg_sl ([.ref h0]) ++ List.replicate (2 - (lg_sl ([.ref h0])).length) Slot.unset).toArray = ls at hl ⊢
  have hl : lv_has ls 2 [(0, .ref h0)] := hl
  refine lv_aload_n hx hb de_M_init_0 rfl (lv_at hl 0 rfl) ?_
  refine ct_obj C0 jl_M_7 hl.1 (Nat.le_of_ble_eq_true rfl) (Nat.le_of_ble_eq_true rfl) de_M_init_1 ?_
  refine lv_aload_n hx hb de_M_init_4 rfl (lv_at hl 0 rfl) ?_
  refine lv_sipush (v := 960) hx hb de_M_init_5 (by decide) ?_
  refine ct_newI (N := 960) C0 hA hw (by decide) (by decide) (by decide) (Nat.le_of_ble_eq_true rfl) (Nat.le_of_ble_eq_true rfl) de_M_init_8 (fun q1 H hw => ?_)
  have hw : ct_W D A s [(h0, .inr (8, ((.int 0) :: (.null) :: (.null) :: (.int 0) :: (.int 0) :: (.null) :: (.int 0) :: (.null) :: (.null) :: (.null) :: (.int 0) :: (.int 0) :: (.int 0) :: (.int 0) :: (.int 0) :: (.int 0) :: (.int 0) :: (.int 0) :: (.int 0) :: (.int 0) :: (.int 0) :: (.int 0) :: (.long 0) :: (.int 0) :: (.int 0) :: (.int 0) :: (.null) :: (.null) :: (.null) :: (.null) :: (.null) :: (.null) :: (.null) :: (.null) :: (.null) :: (.null) :: (.int 0) :: (.int 0) :: (.null) :: (.null) :: (.null) :: (.null) :: []))), (q1, .inl (dA 0, 960, .inl (fun _ => 0)))] H [] := hw
  refine ct_putF (ci := 8) C0 hw hin 0 rfl rfl 1 (by decide) jf_M_13 rfl rfl (ab_cl_tt (c := 8) rfl 1 (by decide)) rfl rfl (Nat.le_of_ble_eq_true rfl) de_M_init_10 (fun H locs hw => ?_)
  have hw : ct_W D A s [(h0, .inr (8, ((.int 0) :: (.ref q1) :: (.null) :: (.int 0) :: (.int 0) :: (.null) :: (.int 0) :: (.null) :: (.null) :: (.null) :: (.int 0) :: (.int 0) :: (.int 0) :: (.int 0) :: (.int 0) :: (.int 0) :: (.int 0) :: (.int 0) :: (.int 0) :: (.int 0) :: (.int 0) :: (.int 0) :: (.long 0) :: (.int 0) :: (.int 0) :: (.int 0) :: (.null) :: (.null) :: (.null) :: (.null) :: (.null) :: (.null) :: (.null) :: (.null) :: (.null) :: (.null) :: (.int 0) :: (.int 0) :: (.null) :: (.null) :: (.null) :: (.null) :: []))), (q1, .inl (dA 0, 960, .inl (fun _ => 0)))] H locs := hw
  refine lv_aload_n hx hb de_M_init_13 rfl (lv_at hl 0 rfl) ?_
  refine lv_bipush (v := 6) hx hb de_M_init_14 (by decide) ?_
  refine ct_newI (N := 6) C0 hA hw (by decide) (by decide) (by decide) (Nat.le_of_ble_eq_true rfl) (Nat.le_of_ble_eq_true rfl) de_M_init_16 (fun q2 H hw => ?_)
  have hw : ct_W D A s [(h0, .inr (8, ((.int 0) :: (.ref q1) :: (.null) :: (.int 0) :: (.int 0) :: (.null) :: (.int 0) :: (.null) :: (.null) :: (.null) :: (.int 0) :: (.int 0) :: (.int 0) :: (.int 0) :: (.int 0) :: (.int 0) :: (.int 0) :: (.int 0) :: (.int 0) :: (.int 0) :: (.int 0) :: (.int 0) :: (.long 0) :: (.int 0) :: (.int 0) :: (.int 0) :: (.null) :: (.null) :: (.null) :: (.null) :: (.null) :: (.null) :: (.null) :: (.null) :: (.null) :: (.null) :: (.int 0) :: (.int 0) :: (.null) :: (.null) :: (.null) :: (.null) :: []))), (q1, .inl (dA 0, 960, .inl (fun _ => 0))), (q2, .inl (dA 0, 6, .inl (fun _ => 0)))] H locs := hw
  refine ct_putF (ci := 8) C0 hw hin 0 rfl rfl 2 (by decide) jf_M_17 rfl rfl (ab_cl_tt (c := 8) rfl 2 (by decide)) rfl rfl (Nat.le_of_ble_eq_true rfl) de_M_init_18 (fun H locs hw => ?_)
  have hw : ct_W D A s [(h0, .inr (8, ((.int 0) :: (.ref q1) :: (.ref q2) :: (.int 0) :: (.int 0) :: (.null) :: (.int 0) :: (.null) :: (.null) :: (.null) :: (.int 0) :: (.int 0) :: (.int 0) :: (.int 0) :: (.int 0) :: (.int 0) :: (.int 0) :: (.int 0) :: (.int 0) :: (.int 0) :: (.int 0) :: (.int 0) :: (.long 0) :: (.int 0) :: (.int 0) :: (.int 0) :: (.null) :: (.null) :: (.null) :: (.null) :: (.null) :: (.null) :: (.null) :: (.null) :: (.null) :: (.null) :: (.int 0) :: (.int 0) :: (.null) :: (.null) :: (.null) :: (.null) :: []))), (q1, .inl (dA 0, 960, .inl (fun _ => 0))), (q2, .inl (dA 0, 6, .inl (fun _ => 0)))] H locs := hw
  refine lv_aload_n hx hb de_M_init_21 rfl (lv_at hl 0 rfl) ?_
  refine lv_sipush (v := 160) hx hb de_M_init_22 (by decide) ?_
  refine ct_newI (N := 160) C0 hA hw (by decide) (by decide) (by decide) (Nat.le_of_ble_eq_true rfl) (Nat.le_of_ble_eq_true rfl) de_M_init_25 (fun q3 H hw => ?_)
  have hw : ct_W D A s [(h0, .inr (8, ((.int 0) :: (.ref q1) :: (.ref q2) :: (.int 0) :: (.int 0) :: (.null) :: (.int 0) :: (.null) :: (.null) :: (.null) :: (.int 0) :: (.int 0) :: (.int 0) :: (.int 0) :: (.int 0) :: (.int 0) :: (.int 0) :: (.int 0) :: (.int 0) :: (.int 0) :: (.int 0) :: (.int 0) :: (.long 0) :: (.int 0) :: (.int 0) :: (.int 0) :: (.null) :: (.null) :: (.null) :: (.null) :: (.null) :: (.null) :: (.null) :: (.null) :: (.null) :: (.null) :: (.int 0) :: (.int 0) :: (.null) :: (.null) :: (.null) :: (.null) :: []))), (q1, .inl (dA 0, 960, .inl (fun _ => 0))), (q2, .inl (dA 0, 6, .inl (fun _ => 0))), (q3, .inl (dA 0, 160, .inl (fun _ => 0)))] H locs := hw
  refine ct_putF (ci := 8) C0 hw hin 0 rfl rfl 5 (by decide) jf_M_20 rfl rfl (ab_cl_tt (c := 8) rfl 5 (by decide)) rfl rfl (Nat.le_of_ble_eq_true rfl) de_M_init_27 (fun H locs hw => ?_)
  have hw : ct_W D A s [(h0, .inr (8, ((.int 0) :: (.ref q1) :: (.ref q2) :: (.int 0) :: (.int 0) :: (.ref q3) :: (.int 0) :: (.null) :: (.null) :: (.null) :: (.int 0) :: (.int 0) :: (.int 0) :: (.int 0) :: (.int 0) :: (.int 0) :: (.int 0) :: (.int 0) :: (.int 0) :: (.int 0) :: (.int 0) :: (.int 0) :: (.long 0) :: (.int 0) :: (.int 0) :: (.int 0) :: (.null) :: (.null) :: (.null) :: (.null) :: (.null) :: (.null) :: (.null) :: (.null) :: (.null) :: (.null) :: (.int 0) :: (.int 0) :: (.null) :: (.null) :: (.null) :: (.null) :: []))), (q1, .inl (dA 0, 960, .inl (fun _ => 0))), (q2, .inl (dA 0, 6, .inl (fun _ => 0))), (q3, .inl (dA 0, 160, .inl (fun _ => 0)))] H locs := hw
  refine lv_aload_n hx hb de_M_init_30 rfl (lv_at hl 0 rfl) ?_
  refine lv_bipush (v := 72) hx hb de_M_init_31 (by decide) ?_
  refine ct_newI (N := 72) C0 hA hw (by decide) (by decide) (by decide) (Nat.le_of_ble_eq_true rfl) (Nat.le_of_ble_eq_true rfl) de_M_init_33 (fun q4 H hw => ?_)
  have hw : ct_W D A s [(h0, .inr (8, ((.int 0) :: (.ref q1) :: (.ref q2) :: (.int 0) :: (.int 0) :: (.ref q3) :: (.int 0) :: (.null) :: (.null) :: (.null) :: (.int 0) :: (.int 0) :: (.int 0) :: (.int 0) :: (.int 0) :: (.int 0) :: (.int 0) :: (.int 0) :: (.int 0) :: (.int 0) :: (.int 0) :: (.int 0) :: (.long 0) :: (.int 0) :: (.int 0) :: (.int 0) :: (.null) :: (.null) :: (.null) :: (.null) :: (.null) :: (.null) :: (.null) :: (.null) :: (.null) :: (.null) :: (.int 0) :: (.int 0) :: (.null) :: (.null) :: (.null) :: (.null) :: []))), (q1, .inl (dA 0, 960, .inl (fun _ => 0))), (q2, .inl (dA 0, 6, .inl (fun _ => 0))), (q3, .inl (dA 0, 160, .inl (fun _ => 0))), (q4, .inl (dA 0, 72, .inl (fun _ => 0)))] H locs := hw
  refine ct_putF (ci := 8) C0 hw hin 0 rfl rfl 7 (by decide) jf_M_23 rfl rfl (ab_cl_tt (c := 8) rfl 7 (by decide)) rfl rfl (Nat.le_of_ble_eq_true rfl) de_M_init_35 (fun H locs hw => ?_)
  have hw : ct_W D A s [(h0, .inr (8, ((.int 0) :: (.ref q1) :: (.ref q2) :: (.int 0) :: (.int 0) :: (.ref q3) :: (.int 0) :: (.ref q4) :: (.null) :: (.null) :: (.int 0) :: (.int 0) :: (.int 0) :: (.int 0) :: (.int 0) :: (.int 0) :: (.int 0) :: (.int 0) :: (.int 0) :: (.int 0) :: (.int 0) :: (.int 0) :: (.long 0) :: (.int 0) :: (.int 0) :: (.int 0) :: (.null) :: (.null) :: (.null) :: (.null) :: (.null) :: (.null) :: (.null) :: (.null) :: (.null) :: (.null) :: (.int 0) :: (.int 0) :: (.null) :: (.null) :: (.null) :: (.null) :: []))), (q1, .inl (dA 0, 960, .inl (fun _ => 0))), (q2, .inl (dA 0, 6, .inl (fun _ => 0))), (q3, .inl (dA 0, 160, .inl (fun _ => 0))), (q4, .inl (dA 0, 72, .inl (fun _ => 0)))] H locs := hw
  refine lv_aload_n hx hb de_M_init_38 rfl (lv_at hl 0 rfl) ?_
  refine lv_bipush (v := 8) hx hb de_M_init_39 (by decide) ?_
  refine ct_newI (N := 8) C0 hA hw (by decide) (by decide) (by decide) (Nat.le_of_ble_eq_true rfl) (Nat.le_of_ble_eq_true rfl) de_M_init_41 (fun q5 H hw => ?_)
  have hw : ct_W D A s [(h0, .inr (8, ((.int 0) :: (.ref q1) :: (.ref q2) :: (.int 0) :: (.int 0) :: (.ref q3) :: (.int 0) :: (.ref q4) :: (.null) :: (.null) :: (.int 0) :: (.int 0) :: (.int 0) :: (.int 0) :: (.int 0) :: (.int 0) :: (.int 0) :: (.int 0) :: (.int 0) :: (.int 0) :: (.int 0) :: (.int 0) :: (.long 0) :: (.int 0) :: (.int 0) :: (.int 0) :: (.null) :: (.null) :: (.null) :: (.null) :: (.null) :: (.null) :: (.null) :: (.null) :: (.null) :: (.null) :: (.int 0) :: (.int 0) :: (.null) :: (.null) :: (.null) :: (.null) :: []))), (q1, .inl (dA 0, 960, .inl (fun _ => 0))), (q2, .inl (dA 0, 6, .inl (fun _ => 0))), (q3, .inl (dA 0, 160, .inl (fun _ => 0))), (q4, .inl (dA 0, 72, .inl (fun _ => 0))), (q5, .inl (dA 0, 8, .inl (fun _ => 0)))] H locs := hw
  refine ct_putF (ci := 8) C0 hw hin 0 rfl rfl 8 (by decide) jf_M_26 rfl rfl (ab_cl_tt (c := 8) rfl 8 (by decide)) rfl rfl (Nat.le_of_ble_eq_true rfl) de_M_init_43 (fun H locs hw => ?_)
  have hw : ct_W D A s [(h0, .inr (8, ((.int 0) :: (.ref q1) :: (.ref q2) :: (.int 0) :: (.int 0) :: (.ref q3) :: (.int 0) :: (.ref q4) :: (.ref q5) :: (.null) :: (.int 0) :: (.int 0) :: (.int 0) :: (.int 0) :: (.int 0) :: (.int 0) :: (.int 0) :: (.int 0) :: (.int 0) :: (.int 0) :: (.int 0) :: (.int 0) :: (.long 0) :: (.int 0) :: (.int 0) :: (.int 0) :: (.null) :: (.null) :: (.null) :: (.null) :: (.null) :: (.null) :: (.null) :: (.null) :: (.null) :: (.null) :: (.int 0) :: (.int 0) :: (.null) :: (.null) :: (.null) :: (.null) :: []))), (q1, .inl (dA 0, 960, .inl (fun _ => 0))), (q2, .inl (dA 0, 6, .inl (fun _ => 0))), (q3, .inl (dA 0, 160, .inl (fun _ => 0))), (q4, .inl (dA 0, 72, .inl (fun _ => 0))), (q5, .inl (dA 0, 8, .inl (fun _ => 0)))] H locs := hw
  refine lv_aload_n hx hb de_M_init_46 rfl (lv_at hl 0 rfl) ?_
  refine lv_bipush (v := 24) hx hb de_M_init_47 (by decide) ?_
  refine ct_newI (N := 24) C0 hA hw (by decide) (by decide) (by decide) (Nat.le_of_ble_eq_true rfl) (Nat.le_of_ble_eq_true rfl) de_M_init_49 (fun q6 H hw => ?_)
  have hw : ct_W D A s [(h0, .inr (8, ((.int 0) :: (.ref q1) :: (.ref q2) :: (.int 0) :: (.int 0) :: (.ref q3) :: (.int 0) :: (.ref q4) :: (.ref q5) :: (.null) :: (.int 0) :: (.int 0) :: (.int 0) :: (.int 0) :: (.int 0) :: (.int 0) :: (.int 0) :: (.int 0) :: (.int 0) :: (.int 0) :: (.int 0) :: (.int 0) :: (.long 0) :: (.int 0) :: (.int 0) :: (.int 0) :: (.null) :: (.null) :: (.null) :: (.null) :: (.null) :: (.null) :: (.null) :: (.null) :: (.null) :: (.null) :: (.int 0) :: (.int 0) :: (.null) :: (.null) :: (.null) :: (.null) :: []))), (q1, .inl (dA 0, 960, .inl (fun _ => 0))), (q2, .inl (dA 0, 6, .inl (fun _ => 0))), (q3, .inl (dA 0, 160, .inl (fun _ => 0))), (q4, .inl (dA 0, 72, .inl (fun _ => 0))), (q5, .inl (dA 0, 8, .inl (fun _ => 0))), (q6, .inl (dA 0, 24, .inl (fun _ => 0)))] H locs := hw
  refine ct_putF (ci := 8) C0 hw hin 0 rfl rfl 9 (by decide) jf_M_29 rfl rfl (ab_cl_tt (c := 8) rfl 9 (by decide)) rfl rfl (Nat.le_of_ble_eq_true rfl) de_M_init_51 (fun H locs hw => ?_)
  have hw : ct_W D A s [(h0, .inr (8, ((.int 0) :: (.ref q1) :: (.ref q2) :: (.int 0) :: (.int 0) :: (.ref q3) :: (.int 0) :: (.ref q4) :: (.ref q5) :: (.ref q6) :: (.int 0) :: (.int 0) :: (.int 0) :: (.int 0) :: (.int 0) :: (.int 0) :: (.int 0) :: (.int 0) :: (.int 0) :: (.int 0) :: (.int 0) :: (.int 0) :: (.long 0) :: (.int 0) :: (.int 0) :: (.int 0) :: (.null) :: (.null) :: (.null) :: (.null) :: (.null) :: (.null) :: (.null) :: (.null) :: (.null) :: (.null) :: (.int 0) :: (.int 0) :: (.null) :: (.null) :: (.null) :: (.null) :: []))), (q1, .inl (dA 0, 960, .inl (fun _ => 0))), (q2, .inl (dA 0, 6, .inl (fun _ => 0))), (q3, .inl (dA 0, 160, .inl (fun _ => 0))), (q4, .inl (dA 0, 72, .inl (fun _ => 0))), (q5, .inl (dA 0, 8, .inl (fun _ => 0))), (q6, .inl (dA 0, 24, .inl (fun _ => 0)))] H locs := hw
  refine lv_aload_n hx hb de_M_init_54 rfl (lv_at hl 0 rfl) ?_
  refine lv_bipush (v := 24) hx hb de_M_init_55 (by decide) ?_
  refine ct_newI (N := 24) C0 hA hw (by decide) (by decide) (by decide) (Nat.le_of_ble_eq_true rfl) (Nat.le_of_ble_eq_true rfl) de_M_init_57 (fun q7 H hw => ?_)
  have hw : ct_W D A s [(h0, .inr (8, ((.int 0) :: (.ref q1) :: (.ref q2) :: (.int 0) :: (.int 0) :: (.ref q3) :: (.int 0) :: (.ref q4) :: (.ref q5) :: (.ref q6) :: (.int 0) :: (.int 0) :: (.int 0) :: (.int 0) :: (.int 0) :: (.int 0) :: (.int 0) :: (.int 0) :: (.int 0) :: (.int 0) :: (.int 0) :: (.int 0) :: (.long 0) :: (.int 0) :: (.int 0) :: (.int 0) :: (.null) :: (.null) :: (.null) :: (.null) :: (.null) :: (.null) :: (.null) :: (.null) :: (.null) :: (.null) :: (.int 0) :: (.int 0) :: (.null) :: (.null) :: (.null) :: (.null) :: []))), (q1, .inl (dA 0, 960, .inl (fun _ => 0))), (q2, .inl (dA 0, 6, .inl (fun _ => 0))), (q3, .inl (dA 0, 160, .inl (fun _ => 0))), (q4, .inl (dA 0, 72, .inl (fun _ => 0))), (q5, .inl (dA 0, 8, .inl (fun _ => 0))), (q6, .inl (dA 0, 24, .inl (fun _ => 0))), (q7, .inl (dA 0, 24, .inl (fun _ => 0)))] H locs := hw
  refine ct_putF (ci := 8) C0 hw hin 0 rfl rfl 26 (by decide) jf_M_32 rfl rfl (ab_cl_tt (c := 8) rfl 26 (by decide)) rfl rfl (Nat.le_of_ble_eq_true rfl) de_M_init_59 (fun H locs hw => ?_)
  have hw : ct_W D A s [(h0, .inr (8, ((.int 0) :: (.ref q1) :: (.ref q2) :: (.int 0) :: (.int 0) :: (.ref q3) :: (.int 0) :: (.ref q4) :: (.ref q5) :: (.ref q6) :: (.int 0) :: (.int 0) :: (.int 0) :: (.int 0) :: (.int 0) :: (.int 0) :: (.int 0) :: (.int 0) :: (.int 0) :: (.int 0) :: (.int 0) :: (.int 0) :: (.long 0) :: (.int 0) :: (.int 0) :: (.int 0) :: (.ref q7) :: (.null) :: (.null) :: (.null) :: (.null) :: (.null) :: (.null) :: (.null) :: (.null) :: (.null) :: (.int 0) :: (.int 0) :: (.null) :: (.null) :: (.null) :: (.null) :: []))), (q1, .inl (dA 0, 960, .inl (fun _ => 0))), (q2, .inl (dA 0, 6, .inl (fun _ => 0))), (q3, .inl (dA 0, 160, .inl (fun _ => 0))), (q4, .inl (dA 0, 72, .inl (fun _ => 0))), (q5, .inl (dA 0, 8, .inl (fun _ => 0))), (q6, .inl (dA 0, 24, .inl (fun _ => 0))), (q7, .inl (dA 0, 24, .inl (fun _ => 0)))] H locs := hw
  refine lv_aload_n hx hb de_M_init_62 rfl (lv_at hl 0 rfl) ?_
  refine lv_bipush (v := 9) hx hb de_M_init_63 (by decide) ?_
  refine ct_newI (N := 9) C0 hA hw (by decide) (by decide) (by decide) (Nat.le_of_ble_eq_true rfl) (Nat.le_of_ble_eq_true rfl) de_M_init_65 (fun q8 H hw => ?_)
  have hw : ct_W D A s [(h0, .inr (8, ((.int 0) :: (.ref q1) :: (.ref q2) :: (.int 0) :: (.int 0) :: (.ref q3) :: (.int 0) :: (.ref q4) :: (.ref q5) :: (.ref q6) :: (.int 0) :: (.int 0) :: (.int 0) :: (.int 0) :: (.int 0) :: (.int 0) :: (.int 0) :: (.int 0) :: (.int 0) :: (.int 0) :: (.int 0) :: (.int 0) :: (.long 0) :: (.int 0) :: (.int 0) :: (.int 0) :: (.ref q7) :: (.null) :: (.null) :: (.null) :: (.null) :: (.null) :: (.null) :: (.null) :: (.null) :: (.null) :: (.int 0) :: (.int 0) :: (.null) :: (.null) :: (.null) :: (.null) :: []))), (q1, .inl (dA 0, 960, .inl (fun _ => 0))), (q2, .inl (dA 0, 6, .inl (fun _ => 0))), (q3, .inl (dA 0, 160, .inl (fun _ => 0))), (q4, .inl (dA 0, 72, .inl (fun _ => 0))), (q5, .inl (dA 0, 8, .inl (fun _ => 0))), (q6, .inl (dA 0, 24, .inl (fun _ => 0))), (q7, .inl (dA 0, 24, .inl (fun _ => 0))), (q8, .inl (dA 0, 9, .inl (fun _ => 0)))] H locs := hw
  refine ct_putF (ci := 8) C0 hw hin 0 rfl rfl 27 (by decide) jf_M_35 rfl rfl (ab_cl_tt (c := 8) rfl 27 (by decide)) rfl rfl (Nat.le_of_ble_eq_true rfl) de_M_init_67 (fun H locs hw => ?_)
  have hw : ct_W D A s [(h0, .inr (8, ((.int 0) :: (.ref q1) :: (.ref q2) :: (.int 0) :: (.int 0) :: (.ref q3) :: (.int 0) :: (.ref q4) :: (.ref q5) :: (.ref q6) :: (.int 0) :: (.int 0) :: (.int 0) :: (.int 0) :: (.int 0) :: (.int 0) :: (.int 0) :: (.int 0) :: (.int 0) :: (.int 0) :: (.int 0) :: (.int 0) :: (.long 0) :: (.int 0) :: (.int 0) :: (.int 0) :: (.ref q7) :: (.ref q8) :: (.null) :: (.null) :: (.null) :: (.null) :: (.null) :: (.null) :: (.null) :: (.null) :: (.int 0) :: (.int 0) :: (.null) :: (.null) :: (.null) :: (.null) :: []))), (q1, .inl (dA 0, 960, .inl (fun _ => 0))), (q2, .inl (dA 0, 6, .inl (fun _ => 0))), (q3, .inl (dA 0, 160, .inl (fun _ => 0))), (q4, .inl (dA 0, 72, .inl (fun _ => 0))), (q5, .inl (dA 0, 8, .inl (fun _ => 0))), (q6, .inl (dA 0, 24, .inl (fun _ => 0))), (q7, .inl (dA 0, 24, .inl (fun _ => 0))), (q8, .inl (dA 0, 9, .inl (fun _ => 0)))] H locs := hw
  refine lv_aload_n hx hb de_M_init_70 rfl (lv_at hl 0 rfl) ?_
  refine lv_bipush (v := 9) hx hb de_M_init_71 (by decide) ?_
  refine ct_newI (N := 9) C0 hA hw (by decide) (by decide) (by decide) (Nat.le_of_ble_eq_true rfl) (Nat.le_of_ble_eq_true rfl) de_M_init_73 (fun q9 H hw => ?_)
  have hw : ct_W D A s [(h0, .inr (8, ((.int 0) :: (.ref q1) :: (.ref q2) :: (.int 0) :: (.int 0) :: (.ref q3) :: (.int 0) :: (.ref q4) :: (.ref q5) :: (.ref q6) :: (.int 0) :: (.int 0) :: (.int 0) :: (.int 0) :: (.int 0) :: (.int 0) :: (.int 0) :: (.int 0) :: (.int 0) :: (.int 0) :: (.int 0) :: (.int 0) :: (.long 0) :: (.int 0) :: (.int 0) :: (.int 0) :: (.ref q7) :: (.ref q8) :: (.null) :: (.null) :: (.null) :: (.null) :: (.null) :: (.null) :: (.null) :: (.null) :: (.int 0) :: (.int 0) :: (.null) :: (.null) :: (.null) :: (.null) :: []))), (q1, .inl (dA 0, 960, .inl (fun _ => 0))), (q2, .inl (dA 0, 6, .inl (fun _ => 0))), (q3, .inl (dA 0, 160, .inl (fun _ => 0))), (q4, .inl (dA 0, 72, .inl (fun _ => 0))), (q5, .inl (dA 0, 8, .inl (fun _ => 0))), (q6, .inl (dA 0, 24, .inl (fun _ => 0))), (q7, .inl (dA 0, 24, .inl (fun _ => 0))), (q8, .inl (dA 0, 9, .inl (fun _ => 0))), (q9, .inl (dA 0, 9, .inl (fun _ => 0)))] H locs := hw
  refine ct_putF (ci := 8) C0 hw hin 0 rfl rfl 28 (by decide) jf_M_38 rfl rfl (ab_cl_tt (c := 8) rfl 28 (by decide)) rfl rfl (Nat.le_of_ble_eq_true rfl) de_M_init_75 (fun H locs hw => ?_)
  have hw : ct_W D A s [(h0, .inr (8, ((.int 0) :: (.ref q1) :: (.ref q2) :: (.int 0) :: (.int 0) :: (.ref q3) :: (.int 0) :: (.ref q4) :: (.ref q5) :: (.ref q6) :: (.int 0) :: (.int 0) :: (.int 0) :: (.int 0) :: (.int 0) :: (.int 0) :: (.int 0) :: (.int 0) :: (.int 0) :: (.int 0) :: (.int 0) :: (.int 0) :: (.long 0) :: (.int 0) :: (.int 0) :: (.int 0) :: (.ref q7) :: (.ref q8) :: (.ref q9) :: (.null) :: (.null) :: (.null) :: (.null) :: (.null) :: (.null) :: (.null) :: (.int 0) :: (.int 0) :: (.null) :: (.null) :: (.null) :: (.null) :: []))), (q1, .inl (dA 0, 960, .inl (fun _ => 0))), (q2, .inl (dA 0, 6, .inl (fun _ => 0))), (q3, .inl (dA 0, 160, .inl (fun _ => 0))), (q4, .inl (dA 0, 72, .inl (fun _ => 0))), (q5, .inl (dA 0, 8, .inl (fun _ => 0))), (q6, .inl (dA 0, 24, .inl (fun _ => 0))), (q7, .inl (dA 0, 24, .inl (fun _ => 0))), (q8, .inl (dA 0, 9, .inl (fun _ => 0))), (q9, .inl (dA 0, 9, .inl (fun _ => 0)))] H locs := hw
  refine lv_aload_n hx hb de_M_init_78 rfl (lv_at hl 0 rfl) ?_
  refine lv_sipush (v := 225) hx hb de_M_init_79 (by decide) ?_
  refine ct_newI (N := 225) C0 hA hw (by decide) (by decide) (by decide) (Nat.le_of_ble_eq_true rfl) (Nat.le_of_ble_eq_true rfl) de_M_init_82 (fun q10 H hw => ?_)
  have hw : ct_W D A s [(h0, .inr (8, ((.int 0) :: (.ref q1) :: (.ref q2) :: (.int 0) :: (.int 0) :: (.ref q3) :: (.int 0) :: (.ref q4) :: (.ref q5) :: (.ref q6) :: (.int 0) :: (.int 0) :: (.int 0) :: (.int 0) :: (.int 0) :: (.int 0) :: (.int 0) :: (.int 0) :: (.int 0) :: (.int 0) :: (.int 0) :: (.int 0) :: (.long 0) :: (.int 0) :: (.int 0) :: (.int 0) :: (.ref q7) :: (.ref q8) :: (.ref q9) :: (.null) :: (.null) :: (.null) :: (.null) :: (.null) :: (.null) :: (.null) :: (.int 0) :: (.int 0) :: (.null) :: (.null) :: (.null) :: (.null) :: []))), (q1, .inl (dA 0, 960, .inl (fun _ => 0))), (q2, .inl (dA 0, 6, .inl (fun _ => 0))), (q3, .inl (dA 0, 160, .inl (fun _ => 0))), (q4, .inl (dA 0, 72, .inl (fun _ => 0))), (q5, .inl (dA 0, 8, .inl (fun _ => 0))), (q6, .inl (dA 0, 24, .inl (fun _ => 0))), (q7, .inl (dA 0, 24, .inl (fun _ => 0))), (q8, .inl (dA 0, 9, .inl (fun _ => 0))), (q9, .inl (dA 0, 9, .inl (fun _ => 0))), (q10, .inl (dA 0, 225, .inl (fun _ => 0)))] H locs := hw
  refine ct_putF (ci := 8) C0 hw hin 0 rfl rfl 29 (by decide) jf_M_41 rfl rfl (ab_cl_tt (c := 8) rfl 29 (by decide)) rfl rfl (Nat.le_of_ble_eq_true rfl) de_M_init_84 (fun H locs hw => ?_)
  have hw : ct_W D A s [(h0, .inr (8, ((.int 0) :: (.ref q1) :: (.ref q2) :: (.int 0) :: (.int 0) :: (.ref q3) :: (.int 0) :: (.ref q4) :: (.ref q5) :: (.ref q6) :: (.int 0) :: (.int 0) :: (.int 0) :: (.int 0) :: (.int 0) :: (.int 0) :: (.int 0) :: (.int 0) :: (.int 0) :: (.int 0) :: (.int 0) :: (.int 0) :: (.long 0) :: (.int 0) :: (.int 0) :: (.int 0) :: (.ref q7) :: (.ref q8) :: (.ref q9) :: (.ref q10) :: (.null) :: (.null) :: (.null) :: (.null) :: (.null) :: (.null) :: (.int 0) :: (.int 0) :: (.null) :: (.null) :: (.null) :: (.null) :: []))), (q1, .inl (dA 0, 960, .inl (fun _ => 0))), (q2, .inl (dA 0, 6, .inl (fun _ => 0))), (q3, .inl (dA 0, 160, .inl (fun _ => 0))), (q4, .inl (dA 0, 72, .inl (fun _ => 0))), (q5, .inl (dA 0, 8, .inl (fun _ => 0))), (q6, .inl (dA 0, 24, .inl (fun _ => 0))), (q7, .inl (dA 0, 24, .inl (fun _ => 0))), (q8, .inl (dA 0, 9, .inl (fun _ => 0))), (q9, .inl (dA 0, 9, .inl (fun _ => 0))), (q10, .inl (dA 0, 225, .inl (fun _ => 0)))] H locs := hw
  refine lv_aload_n hx hb de_M_init_87 rfl (lv_at hl 0 rfl) ?_
  refine lv_sipush (v := 216) hx hb de_M_init_88 (by decide) ?_
  refine ct_newI (N := 216) C0 hA hw (by decide) (by decide) (by decide) (Nat.le_of_ble_eq_true rfl) (Nat.le_of_ble_eq_true rfl) de_M_init_91 (fun q11 H hw => ?_)
  have hw : ct_W D A s [(h0, .inr (8, ((.int 0) :: (.ref q1) :: (.ref q2) :: (.int 0) :: (.int 0) :: (.ref q3) :: (.int 0) :: (.ref q4) :: (.ref q5) :: (.ref q6) :: (.int 0) :: (.int 0) :: (.int 0) :: (.int 0) :: (.int 0) :: (.int 0) :: (.int 0) :: (.int 0) :: (.int 0) :: (.int 0) :: (.int 0) :: (.int 0) :: (.long 0) :: (.int 0) :: (.int 0) :: (.int 0) :: (.ref q7) :: (.ref q8) :: (.ref q9) :: (.ref q10) :: (.null) :: (.null) :: (.null) :: (.null) :: (.null) :: (.null) :: (.int 0) :: (.int 0) :: (.null) :: (.null) :: (.null) :: (.null) :: []))), (q1, .inl (dA 0, 960, .inl (fun _ => 0))), (q2, .inl (dA 0, 6, .inl (fun _ => 0))), (q3, .inl (dA 0, 160, .inl (fun _ => 0))), (q4, .inl (dA 0, 72, .inl (fun _ => 0))), (q5, .inl (dA 0, 8, .inl (fun _ => 0))), (q6, .inl (dA 0, 24, .inl (fun _ => 0))), (q7, .inl (dA 0, 24, .inl (fun _ => 0))), (q8, .inl (dA 0, 9, .inl (fun _ => 0))), (q9, .inl (dA 0, 9, .inl (fun _ => 0))), (q10, .inl (dA 0, 225, .inl (fun _ => 0))), (q11, .inl (dA 0, 216, .inl (fun _ => 0)))] H locs := hw
  refine ct_putF (ci := 8) C0 hw hin 0 rfl rfl 30 (by decide) jf_M_44 rfl rfl (ab_cl_tt (c := 8) rfl 30 (by decide)) rfl rfl (Nat.le_of_ble_eq_true rfl) de_M_init_93 (fun H locs hw => ?_)
  have hw : ct_W D A s [(h0, .inr (8, ((.int 0) :: (.ref q1) :: (.ref q2) :: (.int 0) :: (.int 0) :: (.ref q3) :: (.int 0) :: (.ref q4) :: (.ref q5) :: (.ref q6) :: (.int 0) :: (.int 0) :: (.int 0) :: (.int 0) :: (.int 0) :: (.int 0) :: (.int 0) :: (.int 0) :: (.int 0) :: (.int 0) :: (.int 0) :: (.int 0) :: (.long 0) :: (.int 0) :: (.int 0) :: (.int 0) :: (.ref q7) :: (.ref q8) :: (.ref q9) :: (.ref q10) :: (.ref q11) :: (.null) :: (.null) :: (.null) :: (.null) :: (.null) :: (.int 0) :: (.int 0) :: (.null) :: (.null) :: (.null) :: (.null) :: []))), (q1, .inl (dA 0, 960, .inl (fun _ => 0))), (q2, .inl (dA 0, 6, .inl (fun _ => 0))), (q3, .inl (dA 0, 160, .inl (fun _ => 0))), (q4, .inl (dA 0, 72, .inl (fun _ => 0))), (q5, .inl (dA 0, 8, .inl (fun _ => 0))), (q6, .inl (dA 0, 24, .inl (fun _ => 0))), (q7, .inl (dA 0, 24, .inl (fun _ => 0))), (q8, .inl (dA 0, 9, .inl (fun _ => 0))), (q9, .inl (dA 0, 9, .inl (fun _ => 0))), (q10, .inl (dA 0, 225, .inl (fun _ => 0))), (q11, .inl (dA 0, 216, .inl (fun _ => 0)))] H locs := hw
  refine lv_aload_n hx hb de_M_init_96 rfl (lv_at hl 0 rfl) ?_
  refine lv_sipush (v := 216) hx hb de_M_init_97 (by decide) ?_
  refine ct_newI (N := 216) C0 hA hw (by decide) (by decide) (by decide) (Nat.le_of_ble_eq_true rfl) (Nat.le_of_ble_eq_true rfl) de_M_init_100 (fun q12 H hw => ?_)
  have hw : ct_W D A s [(h0, .inr (8, ((.int 0) :: (.ref q1) :: (.ref q2) :: (.int 0) :: (.int 0) :: (.ref q3) :: (.int 0) :: (.ref q4) :: (.ref q5) :: (.ref q6) :: (.int 0) :: (.int 0) :: (.int 0) :: (.int 0) :: (.int 0) :: (.int 0) :: (.int 0) :: (.int 0) :: (.int 0) :: (.int 0) :: (.int 0) :: (.int 0) :: (.long 0) :: (.int 0) :: (.int 0) :: (.int 0) :: (.ref q7) :: (.ref q8) :: (.ref q9) :: (.ref q10) :: (.ref q11) :: (.null) :: (.null) :: (.null) :: (.null) :: (.null) :: (.int 0) :: (.int 0) :: (.null) :: (.null) :: (.null) :: (.null) :: []))), (q1, .inl (dA 0, 960, .inl (fun _ => 0))), (q2, .inl (dA 0, 6, .inl (fun _ => 0))), (q3, .inl (dA 0, 160, .inl (fun _ => 0))), (q4, .inl (dA 0, 72, .inl (fun _ => 0))), (q5, .inl (dA 0, 8, .inl (fun _ => 0))), (q6, .inl (dA 0, 24, .inl (fun _ => 0))), (q7, .inl (dA 0, 24, .inl (fun _ => 0))), (q8, .inl (dA 0, 9, .inl (fun _ => 0))), (q9, .inl (dA 0, 9, .inl (fun _ => 0))), (q10, .inl (dA 0, 225, .inl (fun _ => 0))), (q11, .inl (dA 0, 216, .inl (fun _ => 0))), (q12, .inl (dA 0, 216, .inl (fun _ => 0)))] H locs := hw
  refine ct_putF (ci := 8) C0 hw hin 0 rfl rfl 31 (by decide) jf_M_47 rfl rfl (ab_cl_tt (c := 8) rfl 31 (by decide)) rfl rfl (Nat.le_of_ble_eq_true rfl) de_M_init_102 (fun H locs hw => ?_)
  have hw : ct_W D A s [(h0, .inr (8, ((.int 0) :: (.ref q1) :: (.ref q2) :: (.int 0) :: (.int 0) :: (.ref q3) :: (.int 0) :: (.ref q4) :: (.ref q5) :: (.ref q6) :: (.int 0) :: (.int 0) :: (.int 0) :: (.int 0) :: (.int 0) :: (.int 0) :: (.int 0) :: (.int 0) :: (.int 0) :: (.int 0) :: (.int 0) :: (.int 0) :: (.long 0) :: (.int 0) :: (.int 0) :: (.int 0) :: (.ref q7) :: (.ref q8) :: (.ref q9) :: (.ref q10) :: (.ref q11) :: (.ref q12) :: (.null) :: (.null) :: (.null) :: (.null) :: (.int 0) :: (.int 0) :: (.null) :: (.null) :: (.null) :: (.null) :: []))), (q1, .inl (dA 0, 960, .inl (fun _ => 0))), (q2, .inl (dA 0, 6, .inl (fun _ => 0))), (q3, .inl (dA 0, 160, .inl (fun _ => 0))), (q4, .inl (dA 0, 72, .inl (fun _ => 0))), (q5, .inl (dA 0, 8, .inl (fun _ => 0))), (q6, .inl (dA 0, 24, .inl (fun _ => 0))), (q7, .inl (dA 0, 24, .inl (fun _ => 0))), (q8, .inl (dA 0, 9, .inl (fun _ => 0))), (q9, .inl (dA 0, 9, .inl (fun _ => 0))), (q10, .inl (dA 0, 225, .inl (fun _ => 0))), (q11, .inl (dA 0, 216, .inl (fun _ => 0))), (q12, .inl (dA 0, 216, .inl (fun _ => 0)))] H locs := hw
  refine lv_aload_n hx hb de_M_init_105 rfl (lv_at hl 0 rfl) ?_
  refine lv_bipush (v := 24) hx hb de_M_init_106 (by decide) ?_
  refine ct_newI (N := 24) C0 hA hw (by decide) (by decide) (by decide) (Nat.le_of_ble_eq_true rfl) (Nat.le_of_ble_eq_true rfl) de_M_init_108 (fun q13 H hw => ?_)
  have hw : ct_W D A s [(h0, .inr (8, ((.int 0) :: (.ref q1) :: (.ref q2) :: (.int 0) :: (.int 0) :: (.ref q3) :: (.int 0) :: (.ref q4) :: (.ref q5) :: (.ref q6) :: (.int 0) :: (.int 0) :: (.int 0) :: (.int 0) :: (.int 0) :: (.int 0) :: (.int 0) :: (.int 0) :: (.int 0) :: (.int 0) :: (.int 0) :: (.int 0) :: (.long 0) :: (.int 0) :: (.int 0) :: (.int 0) :: (.ref q7) :: (.ref q8) :: (.ref q9) :: (.ref q10) :: (.ref q11) :: (.ref q12) :: (.null) :: (.null) :: (.null) :: (.null) :: (.int 0) :: (.int 0) :: (.null) :: (.null) :: (.null) :: (.null) :: []))), (q1, .inl (dA 0, 960, .inl (fun _ => 0))), (q2, .inl (dA 0, 6, .inl (fun _ => 0))), (q3, .inl (dA 0, 160, .inl (fun _ => 0))), (q4, .inl (dA 0, 72, .inl (fun _ => 0))), (q5, .inl (dA 0, 8, .inl (fun _ => 0))), (q6, .inl (dA 0, 24, .inl (fun _ => 0))), (q7, .inl (dA 0, 24, .inl (fun _ => 0))), (q8, .inl (dA 0, 9, .inl (fun _ => 0))), (q9, .inl (dA 0, 9, .inl (fun _ => 0))), (q10, .inl (dA 0, 225, .inl (fun _ => 0))), (q11, .inl (dA 0, 216, .inl (fun _ => 0))), (q12, .inl (dA 0, 216, .inl (fun _ => 0))), (q13, .inl (dA 0, 24, .inl (fun _ => 0)))] H locs := hw
  refine ct_putF (ci := 8) C0 hw hin 0 rfl rfl 32 (by decide) jf_M_50 rfl rfl (ab_cl_tt (c := 8) rfl 32 (by decide)) rfl rfl (Nat.le_of_ble_eq_true rfl) de_M_init_110 (fun H locs hw => ?_)
  have hw : ct_W D A s [(h0, .inr (8, ((.int 0) :: (.ref q1) :: (.ref q2) :: (.int 0) :: (.int 0) :: (.ref q3) :: (.int 0) :: (.ref q4) :: (.ref q5) :: (.ref q6) :: (.int 0) :: (.int 0) :: (.int 0) :: (.int 0) :: (.int 0) :: (.int 0) :: (.int 0) :: (.int 0) :: (.int 0) :: (.int 0) :: (.int 0) :: (.int 0) :: (.long 0) :: (.int 0) :: (.int 0) :: (.int 0) :: (.ref q7) :: (.ref q8) :: (.ref q9) :: (.ref q10) :: (.ref q11) :: (.ref q12) :: (.ref q13) :: (.null) :: (.null) :: (.null) :: (.int 0) :: (.int 0) :: (.null) :: (.null) :: (.null) :: (.null) :: []))), (q1, .inl (dA 0, 960, .inl (fun _ => 0))), (q2, .inl (dA 0, 6, .inl (fun _ => 0))), (q3, .inl (dA 0, 160, .inl (fun _ => 0))), (q4, .inl (dA 0, 72, .inl (fun _ => 0))), (q5, .inl (dA 0, 8, .inl (fun _ => 0))), (q6, .inl (dA 0, 24, .inl (fun _ => 0))), (q7, .inl (dA 0, 24, .inl (fun _ => 0))), (q8, .inl (dA 0, 9, .inl (fun _ => 0))), (q9, .inl (dA 0, 9, .inl (fun _ => 0))), (q10, .inl (dA 0, 225, .inl (fun _ => 0))), (q11, .inl (dA 0, 216, .inl (fun _ => 0))), (q12, .inl (dA 0, 216, .inl (fun _ => 0))), (q13, .inl (dA 0, 24, .inl (fun _ => 0)))] H locs := hw
  refine lv_aload_n hx hb de_M_init_113 rfl (lv_at hl 0 rfl) ?_
  refine lv_bipush (v := 24) hx hb de_M_init_114 (by decide) ?_
  refine ct_newI (N := 24) C0 hA hw (by decide) (by decide) (by decide) (Nat.le_of_ble_eq_true rfl) (Nat.le_of_ble_eq_true rfl) de_M_init_116 (fun q14 H hw => ?_)
  have hw : ct_W D A s [(h0, .inr (8, ((.int 0) :: (.ref q1) :: (.ref q2) :: (.int 0) :: (.int 0) :: (.ref q3) :: (.int 0) :: (.ref q4) :: (.ref q5) :: (.ref q6) :: (.int 0) :: (.int 0) :: (.int 0) :: (.int 0) :: (.int 0) :: (.int 0) :: (.int 0) :: (.int 0) :: (.int 0) :: (.int 0) :: (.int 0) :: (.int 0) :: (.long 0) :: (.int 0) :: (.int 0) :: (.int 0) :: (.ref q7) :: (.ref q8) :: (.ref q9) :: (.ref q10) :: (.ref q11) :: (.ref q12) :: (.ref q13) :: (.null) :: (.null) :: (.null) :: (.int 0) :: (.int 0) :: (.null) :: (.null) :: (.null) :: (.null) :: []))), (q1, .inl (dA 0, 960, .inl (fun _ => 0))), (q2, .inl (dA 0, 6, .inl (fun _ => 0))), (q3, .inl (dA 0, 160, .inl (fun _ => 0))), (q4, .inl (dA 0, 72, .inl (fun _ => 0))), (q5, .inl (dA 0, 8, .inl (fun _ => 0))), (q6, .inl (dA 0, 24, .inl (fun _ => 0))), (q7, .inl (dA 0, 24, .inl (fun _ => 0))), (q8, .inl (dA 0, 9, .inl (fun _ => 0))), (q9, .inl (dA 0, 9, .inl (fun _ => 0))), (q10, .inl (dA 0, 225, .inl (fun _ => 0))), (q11, .inl (dA 0, 216, .inl (fun _ => 0))), (q12, .inl (dA 0, 216, .inl (fun _ => 0))), (q13, .inl (dA 0, 24, .inl (fun _ => 0))), (q14, .inl (dA 0, 24, .inl (fun _ => 0)))] H locs := hw
  refine ct_putF (ci := 8) C0 hw hin 0 rfl rfl 33 (by decide) jf_M_53 rfl rfl (ab_cl_tt (c := 8) rfl 33 (by decide)) rfl rfl (Nat.le_of_ble_eq_true rfl) de_M_init_118 (fun H locs hw => ?_)
  have hw : ct_W D A s [(h0, .inr (8, ((.int 0) :: (.ref q1) :: (.ref q2) :: (.int 0) :: (.int 0) :: (.ref q3) :: (.int 0) :: (.ref q4) :: (.ref q5) :: (.ref q6) :: (.int 0) :: (.int 0) :: (.int 0) :: (.int 0) :: (.int 0) :: (.int 0) :: (.int 0) :: (.int 0) :: (.int 0) :: (.int 0) :: (.int 0) :: (.int 0) :: (.long 0) :: (.int 0) :: (.int 0) :: (.int 0) :: (.ref q7) :: (.ref q8) :: (.ref q9) :: (.ref q10) :: (.ref q11) :: (.ref q12) :: (.ref q13) :: (.ref q14) :: (.null) :: (.null) :: (.int 0) :: (.int 0) :: (.null) :: (.null) :: (.null) :: (.null) :: []))), (q1, .inl (dA 0, 960, .inl (fun _ => 0))), (q2, .inl (dA 0, 6, .inl (fun _ => 0))), (q3, .inl (dA 0, 160, .inl (fun _ => 0))), (q4, .inl (dA 0, 72, .inl (fun _ => 0))), (q5, .inl (dA 0, 8, .inl (fun _ => 0))), (q6, .inl (dA 0, 24, .inl (fun _ => 0))), (q7, .inl (dA 0, 24, .inl (fun _ => 0))), (q8, .inl (dA 0, 9, .inl (fun _ => 0))), (q9, .inl (dA 0, 9, .inl (fun _ => 0))), (q10, .inl (dA 0, 225, .inl (fun _ => 0))), (q11, .inl (dA 0, 216, .inl (fun _ => 0))), (q12, .inl (dA 0, 216, .inl (fun _ => 0))), (q13, .inl (dA 0, 24, .inl (fun _ => 0))), (q14, .inl (dA 0, 24, .inl (fun _ => 0)))] H locs := hw
  refine lv_aload_n hx hb de_M_init_121 rfl (lv_at hl 0 rfl) ?_
  refine lv_bipush (v := 72) hx hb de_M_init_122 (by decide) ?_
  refine ct_newI (N := 72) C0 hA hw (by decide) (by decide) (by decide) (Nat.le_of_ble_eq_true rfl) (Nat.le_of_ble_eq_true rfl) de_M_init_124 (fun q15 H hw => ?_)
  have hw : ct_W D A s [(h0, .inr (8, ((.int 0) :: (.ref q1) :: (.ref q2) :: (.int 0) :: (.int 0) :: (.ref q3) :: (.int 0) :: (.ref q4) :: (.ref q5) :: (.ref q6) :: (.int 0) :: (.int 0) :: (.int 0) :: (.int 0) :: (.int 0) :: (.int 0) :: (.int 0) :: (.int 0) :: (.int 0) :: (.int 0) :: (.int 0) :: (.int 0) :: (.long 0) :: (.int 0) :: (.int 0) :: (.int 0) :: (.ref q7) :: (.ref q8) :: (.ref q9) :: (.ref q10) :: (.ref q11) :: (.ref q12) :: (.ref q13) :: (.ref q14) :: (.null) :: (.null) :: (.int 0) :: (.int 0) :: (.null) :: (.null) :: (.null) :: (.null) :: []))), (q1, .inl (dA 0, 960, .inl (fun _ => 0))), (q2, .inl (dA 0, 6, .inl (fun _ => 0))), (q3, .inl (dA 0, 160, .inl (fun _ => 0))), (q4, .inl (dA 0, 72, .inl (fun _ => 0))), (q5, .inl (dA 0, 8, .inl (fun _ => 0))), (q6, .inl (dA 0, 24, .inl (fun _ => 0))), (q7, .inl (dA 0, 24, .inl (fun _ => 0))), (q8, .inl (dA 0, 9, .inl (fun _ => 0))), (q9, .inl (dA 0, 9, .inl (fun _ => 0))), (q10, .inl (dA 0, 225, .inl (fun _ => 0))), (q11, .inl (dA 0, 216, .inl (fun _ => 0))), (q12, .inl (dA 0, 216, .inl (fun _ => 0))), (q13, .inl (dA 0, 24, .inl (fun _ => 0))), (q14, .inl (dA 0, 24, .inl (fun _ => 0))), (q15, .inl (dA 0, 72, .inl (fun _ => 0)))] H locs := hw
  refine ct_putF (ci := 8) C0 hw hin 0 rfl rfl 34 (by decide) jf_M_56 rfl rfl (ab_cl_tt (c := 8) rfl 34 (by decide)) rfl rfl (Nat.le_of_ble_eq_true rfl) de_M_init_126 (fun H locs hw => ?_)
  have hw : ct_W D A s [(h0, .inr (8, ((.int 0) :: (.ref q1) :: (.ref q2) :: (.int 0) :: (.int 0) :: (.ref q3) :: (.int 0) :: (.ref q4) :: (.ref q5) :: (.ref q6) :: (.int 0) :: (.int 0) :: (.int 0) :: (.int 0) :: (.int 0) :: (.int 0) :: (.int 0) :: (.int 0) :: (.int 0) :: (.int 0) :: (.int 0) :: (.int 0) :: (.long 0) :: (.int 0) :: (.int 0) :: (.int 0) :: (.ref q7) :: (.ref q8) :: (.ref q9) :: (.ref q10) :: (.ref q11) :: (.ref q12) :: (.ref q13) :: (.ref q14) :: (.ref q15) :: (.null) :: (.int 0) :: (.int 0) :: (.null) :: (.null) :: (.null) :: (.null) :: []))), (q1, .inl (dA 0, 960, .inl (fun _ => 0))), (q2, .inl (dA 0, 6, .inl (fun _ => 0))), (q3, .inl (dA 0, 160, .inl (fun _ => 0))), (q4, .inl (dA 0, 72, .inl (fun _ => 0))), (q5, .inl (dA 0, 8, .inl (fun _ => 0))), (q6, .inl (dA 0, 24, .inl (fun _ => 0))), (q7, .inl (dA 0, 24, .inl (fun _ => 0))), (q8, .inl (dA 0, 9, .inl (fun _ => 0))), (q9, .inl (dA 0, 9, .inl (fun _ => 0))), (q10, .inl (dA 0, 225, .inl (fun _ => 0))), (q11, .inl (dA 0, 216, .inl (fun _ => 0))), (q12, .inl (dA 0, 216, .inl (fun _ => 0))), (q13, .inl (dA 0, 24, .inl (fun _ => 0))), (q14, .inl (dA 0, 24, .inl (fun _ => 0))), (q15, .inl (dA 0, 72, .inl (fun _ => 0)))] H locs := hw
  refine lv_aload_n hx hb de_M_init_129 rfl (lv_at hl 0 rfl) ?_
  refine lv_bipush (v := 24) hx hb de_M_init_130 (by decide) ?_
  refine ct_newI (N := 24) C0 hA hw (by decide) (by decide) (by decide) (Nat.le_of_ble_eq_true rfl) (Nat.le_of_ble_eq_true rfl) de_M_init_132 (fun q16 H hw => ?_)
  have hw : ct_W D A s [(h0, .inr (8, ((.int 0) :: (.ref q1) :: (.ref q2) :: (.int 0) :: (.int 0) :: (.ref q3) :: (.int 0) :: (.ref q4) :: (.ref q5) :: (.ref q6) :: (.int 0) :: (.int 0) :: (.int 0) :: (.int 0) :: (.int 0) :: (.int 0) :: (.int 0) :: (.int 0) :: (.int 0) :: (.int 0) :: (.int 0) :: (.int 0) :: (.long 0) :: (.int 0) :: (.int 0) :: (.int 0) :: (.ref q7) :: (.ref q8) :: (.ref q9) :: (.ref q10) :: (.ref q11) :: (.ref q12) :: (.ref q13) :: (.ref q14) :: (.ref q15) :: (.null) :: (.int 0) :: (.int 0) :: (.null) :: (.null) :: (.null) :: (.null) :: []))), (q1, .inl (dA 0, 960, .inl (fun _ => 0))), (q2, .inl (dA 0, 6, .inl (fun _ => 0))), (q3, .inl (dA 0, 160, .inl (fun _ => 0))), (q4, .inl (dA 0, 72, .inl (fun _ => 0))), (q5, .inl (dA 0, 8, .inl (fun _ => 0))), (q6, .inl (dA 0, 24, .inl (fun _ => 0))), (q7, .inl (dA 0, 24, .inl (fun _ => 0))), (q8, .inl (dA 0, 9, .inl (fun _ => 0))), (q9, .inl (dA 0, 9, .inl (fun _ => 0))), (q10, .inl (dA 0, 225, .inl (fun _ => 0))), (q11, .inl (dA 0, 216, .inl (fun _ => 0))), (q12, .inl (dA 0, 216, .inl (fun _ => 0))), (q13, .inl (dA 0, 24, .inl (fun _ => 0))), (q14, .inl (dA 0, 24, .inl (fun _ => 0))), (q15, .inl (dA 0, 72, .inl (fun _ => 0))), (q16, .inl (dA 0, 24, .inl (fun _ => 0)))] H locs := hw
  refine ct_putF (ci := 8) C0 hw hin 0 rfl rfl 35 (by decide) jf_M_59 rfl rfl (ab_cl_tt (c := 8) rfl 35 (by decide)) rfl rfl (Nat.le_of_ble_eq_true rfl) de_M_init_134 (fun H locs hw => ?_)
  have hw : ct_W D A s [(h0, .inr (8, ((.int 0) :: (.ref q1) :: (.ref q2) :: (.int 0) :: (.int 0) :: (.ref q3) :: (.int 0) :: (.ref q4) :: (.ref q5) :: (.ref q6) :: (.int 0) :: (.int 0) :: (.int 0) :: (.int 0) :: (.int 0) :: (.int 0) :: (.int 0) :: (.int 0) :: (.int 0) :: (.int 0) :: (.int 0) :: (.int 0) :: (.long 0) :: (.int 0) :: (.int 0) :: (.int 0) :: (.ref q7) :: (.ref q8) :: (.ref q9) :: (.ref q10) :: (.ref q11) :: (.ref q12) :: (.ref q13) :: (.ref q14) :: (.ref q15) :: (.ref q16) :: (.int 0) :: (.int 0) :: (.null) :: (.null) :: (.null) :: (.null) :: []))), (q1, .inl (dA 0, 960, .inl (fun _ => 0))), (q2, .inl (dA 0, 6, .inl (fun _ => 0))), (q3, .inl (dA 0, 160, .inl (fun _ => 0))), (q4, .inl (dA 0, 72, .inl (fun _ => 0))), (q5, .inl (dA 0, 8, .inl (fun _ => 0))), (q6, .inl (dA 0, 24, .inl (fun _ => 0))), (q7, .inl (dA 0, 24, .inl (fun _ => 0))), (q8, .inl (dA 0, 9, .inl (fun _ => 0))), (q9, .inl (dA 0, 9, .inl (fun _ => 0))), (q10, .inl (dA 0, 225, .inl (fun _ => 0))), (q11, .inl (dA 0, 216, .inl (fun _ => 0))), (q12, .inl (dA 0, 216, .inl (fun _ => 0))), (q13, .inl (dA 0, 24, .inl (fun _ => 0))), (q14, .inl (dA 0, 24, .inl (fun _ => 0))), (q15, .inl (dA 0, 72, .inl (fun _ => 0))), (q16, .inl (dA 0, 24, .inl (fun _ => 0)))] H locs := hw
  refine lv_aload_n hx hb de_M_init_137 rfl (lv_at hl 0 rfl) ?_
  refine lv_iconst (v := (-1)) hx hb de_M_init_138 (by decide) ?_
  refine ct_put (ci := 8) C0 hw 0 rfl rfl 36 (by decide) jf_M_62 rfl (ab_cl_tt (c := 8) rfl 36 (by decide)) rfl rfl (Nat.le_of_ble_eq_true rfl) de_M_init_139 (fun H locs hw => ?_)
  have hw : ct_W D A s [(h0, .inr (8, ((.int 0) :: (.ref q1) :: (.ref q2) :: (.int 0) :: (.int 0) :: (.ref q3) :: (.int 0) :: (.ref q4) :: (.ref q5) :: (.ref q6) :: (.int 0) :: (.int 0) :: (.int 0) :: (.int 0) :: (.int 0) :: (.int 0) :: (.int 0) :: (.int 0) :: (.int 0) :: (.int 0) :: (.int 0) :: (.int 0) :: (.long 0) :: (.int 0) :: (.int 0) :: (.int 0) :: (.ref q7) :: (.ref q8) :: (.ref q9) :: (.ref q10) :: (.ref q11) :: (.ref q12) :: (.ref q13) :: (.ref q14) :: (.ref q15) :: (.ref q16) :: (.int (-1)) :: (.int 0) :: (.null) :: (.null) :: (.null) :: (.null) :: []))), (q1, .inl (dA 0, 960, .inl (fun _ => 0))), (q2, .inl (dA 0, 6, .inl (fun _ => 0))), (q3, .inl (dA 0, 160, .inl (fun _ => 0))), (q4, .inl (dA 0, 72, .inl (fun _ => 0))), (q5, .inl (dA 0, 8, .inl (fun _ => 0))), (q6, .inl (dA 0, 24, .inl (fun _ => 0))), (q7, .inl (dA 0, 24, .inl (fun _ => 0))), (q8, .inl (dA 0, 9, .inl (fun _ => 0))), (q9, .inl (dA 0, 9, .inl (fun _ => 0))), (q10, .inl (dA 0, 225, .inl (fun _ => 0))), (q11, .inl (dA 0, 216, .inl (fun _ => 0))), (q12, .inl (dA 0, 216, .inl (fun _ => 0))), (q13, .inl (dA 0, 24, .inl (fun _ => 0))), (q14, .inl (dA 0, 24, .inl (fun _ => 0))), (q15, .inl (dA 0, 72, .inl (fun _ => 0))), (q16, .inl (dA 0, 24, .inl (fun _ => 0)))] H locs := hw
  refine lv_aload_n hx hb de_M_init_142 rfl (lv_at hl 0 rfl) ?_
  refine lv_iconst (v := 4) hx hb de_M_init_143 (by decide) ?_
  refine ct_newZ (N := 4) C0 hA hw (by decide) (by decide) (by decide) (Nat.le_of_ble_eq_true rfl) (Nat.le_of_ble_eq_true rfl) de_M_init_144 (fun q17 H hw => ?_)
  have hw : ct_W D A s [(h0, .inr (8, ((.int 0) :: (.ref q1) :: (.ref q2) :: (.int 0) :: (.int 0) :: (.ref q3) :: (.int 0) :: (.ref q4) :: (.ref q5) :: (.ref q6) :: (.int 0) :: (.int 0) :: (.int 0) :: (.int 0) :: (.int 0) :: (.int 0) :: (.int 0) :: (.int 0) :: (.int 0) :: (.int 0) :: (.int 0) :: (.int 0) :: (.long 0) :: (.int 0) :: (.int 0) :: (.int 0) :: (.ref q7) :: (.ref q8) :: (.ref q9) :: (.ref q10) :: (.ref q11) :: (.ref q12) :: (.ref q13) :: (.ref q14) :: (.ref q15) :: (.ref q16) :: (.int (-1)) :: (.int 0) :: (.null) :: (.null) :: (.null) :: (.null) :: []))), (q1, .inl (dA 0, 960, .inl (fun _ => 0))), (q2, .inl (dA 0, 6, .inl (fun _ => 0))), (q3, .inl (dA 0, 160, .inl (fun _ => 0))), (q4, .inl (dA 0, 72, .inl (fun _ => 0))), (q5, .inl (dA 0, 8, .inl (fun _ => 0))), (q6, .inl (dA 0, 24, .inl (fun _ => 0))), (q7, .inl (dA 0, 24, .inl (fun _ => 0))), (q8, .inl (dA 0, 9, .inl (fun _ => 0))), (q9, .inl (dA 0, 9, .inl (fun _ => 0))), (q10, .inl (dA 0, 225, .inl (fun _ => 0))), (q11, .inl (dA 0, 216, .inl (fun _ => 0))), (q12, .inl (dA 0, 216, .inl (fun _ => 0))), (q13, .inl (dA 0, 24, .inl (fun _ => 0))), (q14, .inl (dA 0, 24, .inl (fun _ => 0))), (q15, .inl (dA 0, 72, .inl (fun _ => 0))), (q16, .inl (dA 0, 24, .inl (fun _ => 0))), (q17, .inl (dA 1, 4, .inl (fun _ => 0)))] H locs := hw
  refine ct_putF (ci := 8) C0 hw hin 0 rfl rfl 38 (by decide) jf_M_65 rfl rfl (ab_cl_tt (c := 8) rfl 38 (by decide)) rfl rfl (Nat.le_of_ble_eq_true rfl) de_M_init_146 (fun H locs hw => ?_)
  have hw : ct_W D A s [(h0, .inr (8, ((.int 0) :: (.ref q1) :: (.ref q2) :: (.int 0) :: (.int 0) :: (.ref q3) :: (.int 0) :: (.ref q4) :: (.ref q5) :: (.ref q6) :: (.int 0) :: (.int 0) :: (.int 0) :: (.int 0) :: (.int 0) :: (.int 0) :: (.int 0) :: (.int 0) :: (.int 0) :: (.int 0) :: (.int 0) :: (.int 0) :: (.long 0) :: (.int 0) :: (.int 0) :: (.int 0) :: (.ref q7) :: (.ref q8) :: (.ref q9) :: (.ref q10) :: (.ref q11) :: (.ref q12) :: (.ref q13) :: (.ref q14) :: (.ref q15) :: (.ref q16) :: (.int (-1)) :: (.int 0) :: (.ref q17) :: (.null) :: (.null) :: (.null) :: []))), (q1, .inl (dA 0, 960, .inl (fun _ => 0))), (q2, .inl (dA 0, 6, .inl (fun _ => 0))), (q3, .inl (dA 0, 160, .inl (fun _ => 0))), (q4, .inl (dA 0, 72, .inl (fun _ => 0))), (q5, .inl (dA 0, 8, .inl (fun _ => 0))), (q6, .inl (dA 0, 24, .inl (fun _ => 0))), (q7, .inl (dA 0, 24, .inl (fun _ => 0))), (q8, .inl (dA 0, 9, .inl (fun _ => 0))), (q9, .inl (dA 0, 9, .inl (fun _ => 0))), (q10, .inl (dA 0, 225, .inl (fun _ => 0))), (q11, .inl (dA 0, 216, .inl (fun _ => 0))), (q12, .inl (dA 0, 216, .inl (fun _ => 0))), (q13, .inl (dA 0, 24, .inl (fun _ => 0))), (q14, .inl (dA 0, 24, .inl (fun _ => 0))), (q15, .inl (dA 0, 72, .inl (fun _ => 0))), (q16, .inl (dA 0, 24, .inl (fun _ => 0))), (q17, .inl (dA 1, 4, .inl (fun _ => 0)))] H locs := hw
  refine lv_aload_n hx hb de_M_init_149 rfl (lv_at hl 0 rfl) ?_
  refine lv_iconst (v := 4) hx hb de_M_init_150 (by decide) ?_
  refine ct_newI (N := 4) C0 hA hw (by decide) (by decide) (by decide) (Nat.le_of_ble_eq_true rfl) (Nat.le_of_ble_eq_true rfl) de_M_init_151 (fun q18 H hw => ?_)
  have hw : ct_W D A s [(h0, .inr (8, ((.int 0) :: (.ref q1) :: (.ref q2) :: (.int 0) :: (.int 0) :: (.ref q3) :: (.int 0) :: (.ref q4) :: (.ref q5) :: (.ref q6) :: (.int 0) :: (.int 0) :: (.int 0) :: (.int 0) :: (.int 0) :: (.int 0) :: (.int 0) :: (.int 0) :: (.int 0) :: (.int 0) :: (.int 0) :: (.int 0) :: (.long 0) :: (.int 0) :: (.int 0) :: (.int 0) :: (.ref q7) :: (.ref q8) :: (.ref q9) :: (.ref q10) :: (.ref q11) :: (.ref q12) :: (.ref q13) :: (.ref q14) :: (.ref q15) :: (.ref q16) :: (.int (-1)) :: (.int 0) :: (.ref q17) :: (.null) :: (.null) :: (.null) :: []))), (q1, .inl (dA 0, 960, .inl (fun _ => 0))), (q2, .inl (dA 0, 6, .inl (fun _ => 0))), (q3, .inl (dA 0, 160, .inl (fun _ => 0))), (q4, .inl (dA 0, 72, .inl (fun _ => 0))), (q5, .inl (dA 0, 8, .inl (fun _ => 0))), (q6, .inl (dA 0, 24, .inl (fun _ => 0))), (q7, .inl (dA 0, 24, .inl (fun _ => 0))), (q8, .inl (dA 0, 9, .inl (fun _ => 0))), (q9, .inl (dA 0, 9, .inl (fun _ => 0))), (q10, .inl (dA 0, 225, .inl (fun _ => 0))), (q11, .inl (dA 0, 216, .inl (fun _ => 0))), (q12, .inl (dA 0, 216, .inl (fun _ => 0))), (q13, .inl (dA 0, 24, .inl (fun _ => 0))), (q14, .inl (dA 0, 24, .inl (fun _ => 0))), (q15, .inl (dA 0, 72, .inl (fun _ => 0))), (q16, .inl (dA 0, 24, .inl (fun _ => 0))), (q17, .inl (dA 1, 4, .inl (fun _ => 0))), (q18, .inl (dA 0, 4, .inl (fun _ => 0)))] H locs := hw
  refine ct_putF (ci := 8) C0 hw hin 0 rfl rfl 39 (by decide) jf_M_69 rfl rfl (ab_cl_tt (c := 8) rfl 39 (by decide)) rfl rfl (Nat.le_of_ble_eq_true rfl) de_M_init_153 (fun H locs hw => ?_)
  have hw : ct_W D A s [(h0, .inr (8, ((.int 0) :: (.ref q1) :: (.ref q2) :: (.int 0) :: (.int 0) :: (.ref q3) :: (.int 0) :: (.ref q4) :: (.ref q5) :: (.ref q6) :: (.int 0) :: (.int 0) :: (.int 0) :: (.int 0) :: (.int 0) :: (.int 0) :: (.int 0) :: (.int 0) :: (.int 0) :: (.int 0) :: (.int 0) :: (.int 0) :: (.long 0) :: (.int 0) :: (.int 0) :: (.int 0) :: (.ref q7) :: (.ref q8) :: (.ref q9) :: (.ref q10) :: (.ref q11) :: (.ref q12) :: (.ref q13) :: (.ref q14) :: (.ref q15) :: (.ref q16) :: (.int (-1)) :: (.int 0) :: (.ref q17) :: (.ref q18) :: (.null) :: (.null) :: []))), (q1, .inl (dA 0, 960, .inl (fun _ => 0))), (q2, .inl (dA 0, 6, .inl (fun _ => 0))), (q3, .inl (dA 0, 160, .inl (fun _ => 0))), (q4, .inl (dA 0, 72, .inl (fun _ => 0))), (q5, .inl (dA 0, 8, .inl (fun _ => 0))), (q6, .inl (dA 0, 24, .inl (fun _ => 0))), (q7, .inl (dA 0, 24, .inl (fun _ => 0))), (q8, .inl (dA 0, 9, .inl (fun _ => 0))), (q9, .inl (dA 0, 9, .inl (fun _ => 0))), (q10, .inl (dA 0, 225, .inl (fun _ => 0))), (q11, .inl (dA 0, 216, .inl (fun _ => 0))), (q12, .inl (dA 0, 216, .inl (fun _ => 0))), (q13, .inl (dA 0, 24, .inl (fun _ => 0))), (q14, .inl (dA 0, 24, .inl (fun _ => 0))), (q15, .inl (dA 0, 72, .inl (fun _ => 0))), (q16, .inl (dA 0, 24, .inl (fun _ => 0))), (q17, .inl (dA 1, 4, .inl (fun _ => 0))), (q18, .inl (dA 0, 4, .inl (fun _ => 0)))] H locs := hw
  refine lv_aload_n hx hb de_M_init_156 rfl (lv_at hl 0 rfl) ?_
  refine lv_iconst (v := 4) hx hb de_M_init_157 (by decide) ?_
  refine ct_newI (N := 4) C0 hA hw (by decide) (by decide) (by decide) (Nat.le_of_ble_eq_true rfl) (Nat.le_of_ble_eq_true rfl) de_M_init_158 (fun q19 H hw => ?_)
  have hw : ct_W D A s ((h0, .inr (8, ((.int 0) :: (.ref q1) :: (.ref q2) :: (.int 0) :: (.int 0) :: (.ref q3) :: (.int 0) :: (.ref q4) :: (.ref q5) :: (.ref q6) :: (.int 0) :: (.int 0) :: (.int 0) :: (.int 0) :: (.int 0) :: (.int 0) :: (.int 0) :: (.int 0) :: (.int 0) :: (.int 0) :: (.int 0) :: (.int 0) :: (.long 0) :: (.int 0) :: (.int 0) :: (.int 0) :: (.ref q7) :: (.ref q8) :: (.ref q9) :: (.ref q10) :: (.ref q11) :: (.ref q12) :: (.ref q13) :: (.ref q14) :: (.ref q15) :: (.ref q16) :: (.int (-1)) :: (.int 0) :: (.ref q17) :: (.ref q18) :: (.null) :: (.null) :: []))) :: (q1, .inl (dA 0, 960, .inl (fun _ => 0))) :: (q2, .inl (dA 0, 6, .inl (fun _ => 0))) :: (q3, .inl (dA 0, 160, .inl (fun _ => 0))) :: (q4, .inl (dA 0, 72, .inl (fun _ => 0))) :: (q5, .inl (dA 0, 8, .inl (fun _ => 0))) :: (q6, .inl (dA 0, 24, .inl (fun _ => 0))) :: (q7, .inl (dA 0, 24, .inl (fun _ => 0))) :: (q8, .inl (dA 0, 9, .inl (fun _ => 0))) :: (q9, .inl (dA 0, 9, .inl (fun _ => 0))) :: (q10, .inl (dA 0, 225, .inl (fun _ => 0))) :: (q11, .inl (dA 0, 216, .inl (fun _ => 0))) :: (q12, .inl (dA 0, 216, .inl (fun _ => 0))) :: (q13, .inl (dA 0, 24, .inl (fun _ => 0))) :: (q14, .inl (dA 0, 24, .inl (fun _ => 0))) :: (q15, .inl (dA 0, 72, .inl (fun _ => 0))) :: (q16, .inl (dA 0, 24, .inl (fun _ => 0))) :: (q17, .inl (dA 1, 4, .inl (fun _ => 0))) :: (q18, .inl (dA 0, 4, .inl (fun _ => 0))) :: (q19, .inl (dA 0, 4, .inl (fun _ => 0))) :: []) H locs := hw
  refine ct_putF (ci := 8) C0 hw hin 0 rfl rfl 40 (by decide) jf_M_72 rfl rfl (ab_cl_tt (c := 8) rfl 40 (by decide)) rfl rfl (Nat.le_of_ble_eq_true rfl) de_M_init_160 (fun H locs hw => ?_)
  have hw : ct_W D A s ((h0, .inr (8, ((.int 0) :: (.ref q1) :: (.ref q2) :: (.int 0) :: (.int 0) :: (.ref q3) :: (.int 0) :: (.ref q4) :: (.ref q5) :: (.ref q6) :: (.int 0) :: (.int 0) :: (.int 0) :: (.int 0) :: (.int 0) :: (.int 0) :: (.int 0) :: (.int 0) :: (.int 0) :: (.int 0) :: (.int 0) :: (.int 0) :: (.long 0) :: (.int 0) :: (.int 0) :: (.int 0) :: (.ref q7) :: (.ref q8) :: (.ref q9) :: (.ref q10) :: (.ref q11) :: (.ref q12) :: (.ref q13) :: (.ref q14) :: (.ref q15) :: (.ref q16) :: (.int (-1)) :: (.int 0) :: (.ref q17) :: (.ref q18) :: (.ref q19) :: (.null) :: []))) :: (q1, .inl (dA 0, 960, .inl (fun _ => 0))) :: (q2, .inl (dA 0, 6, .inl (fun _ => 0))) :: (q3, .inl (dA 0, 160, .inl (fun _ => 0))) :: (q4, .inl (dA 0, 72, .inl (fun _ => 0))) :: (q5, .inl (dA 0, 8, .inl (fun _ => 0))) :: (q6, .inl (dA 0, 24, .inl (fun _ => 0))) :: (q7, .inl (dA 0, 24, .inl (fun _ => 0))) :: (q8, .inl (dA 0, 9, .inl (fun _ => 0))) :: (q9, .inl (dA 0, 9, .inl (fun _ => 0))) :: (q10, .inl (dA 0, 225, .inl (fun _ => 0))) :: (q11, .inl (dA 0, 216, .inl (fun _ => 0))) :: (q12, .inl (dA 0, 216, .inl (fun _ => 0))) :: (q13, .inl (dA 0, 24, .inl (fun _ => 0))) :: (q14, .inl (dA 0, 24, .inl (fun _ => 0))) :: (q15, .inl (dA 0, 72, .inl (fun _ => 0))) :: (q16, .inl (dA 0, 24, .inl (fun _ => 0))) :: (q17, .inl (dA 1, 4, .inl (fun _ => 0))) :: (q18, .inl (dA 0, 4, .inl (fun _ => 0))) :: (q19, .inl (dA 0, 4, .inl (fun _ => 0))) :: []) H locs := hw
  refine lv_aload_n hx hb de_M_init_163 rfl (lv_at hl 0 rfl) ?_
  refine lv_sipush (v := 160) hx hb de_M_init_164 (by decide) ?_
  refine ct_newI (N := 160) C0 hA hw (by decide) (by decide) (by decide) (Nat.le_of_ble_eq_true rfl) (Nat.le_of_ble_eq_true rfl) de_M_init_167 (fun q20 H hw => ?_)
  have hw : ct_W D A s ((h0, .inr (8, ((.int 0) :: (.ref q1) :: (.ref q2) :: (.int 0) :: (.int 0) :: (.ref q3) :: (.int 0) :: (.ref q4) :: (.ref q5) :: (.ref q6) :: (.int 0) :: (.int 0) :: (.int 0) :: (.int 0) :: (.int 0) :: (.int 0) :: (.int 0) :: (.int 0) :: (.int 0) :: (.int 0) :: (.int 0) :: (.int 0) :: (.long 0) :: (.int 0) :: (.int 0) :: (.int 0) :: (.ref q7) :: (.ref q8) :: (.ref q9) :: (.ref q10) :: (.ref q11) :: (.ref q12) :: (.ref q13) :: (.ref q14) :: (.ref q15) :: (.ref q16) :: (.int (-1)) :: (.int 0) :: (.ref q17) :: (.ref q18) :: (.ref q19) :: (.null) :: []))) :: (q1, .inl (dA 0, 960, .inl (fun _ => 0))) :: (q2, .inl (dA 0, 6, .inl (fun _ => 0))) :: (q3, .inl (dA 0, 160, .inl (fun _ => 0))) :: (q4, .inl (dA 0, 72, .inl (fun _ => 0))) :: (q5, .inl (dA 0, 8, .inl (fun _ => 0))) :: (q6, .inl (dA 0, 24, .inl (fun _ => 0))) :: (q7, .inl (dA 0, 24, .inl (fun _ => 0))) :: (q8, .inl (dA 0, 9, .inl (fun _ => 0))) :: (q9, .inl (dA 0, 9, .inl (fun _ => 0))) :: (q10, .inl (dA 0, 225, .inl (fun _ => 0))) :: (q11, .inl (dA 0, 216, .inl (fun _ => 0))) :: (q12, .inl (dA 0, 216, .inl (fun _ => 0))) :: (q13, .inl (dA 0, 24, .inl (fun _ => 0))) :: (q14, .inl (dA 0, 24, .inl (fun _ => 0))) :: (q15, .inl (dA 0, 72, .inl (fun _ => 0))) :: (q16, .inl (dA 0, 24, .inl (fun _ => 0))) :: (q17, .inl (dA 1, 4, .inl (fun _ => 0))) :: (q18, .inl (dA 0, 4, .inl (fun _ => 0))) :: (q19, .inl (dA 0, 4, .inl (fun _ => 0))) :: (q20, .inl (dA 0, 160, .inl (fun _ => 0))) :: []) H locs := hw
  refine ct_putF (ci := 8) C0 hw hin 0 rfl rfl 41 (by decide) jf_M_75 rfl rfl (ab_cl_tt (c := 8) rfl 41 (by decide)) rfl rfl (Nat.le_of_ble_eq_true rfl) de_M_init_169 (fun H locs hw => ?_)
  have hw : ct_W D A s ((h0, .inr (8, ((.int 0) :: (.ref q1) :: (.ref q2) :: (.int 0) :: (.int 0) :: (.ref q3) :: (.int 0) :: (.ref q4) :: (.ref q5) :: (.ref q6) :: (.int 0) :: (.int 0) :: (.int 0) :: (.int 0) :: (.int 0) :: (.int 0) :: (.int 0) :: (.int 0) :: (.int 0) :: (.int 0) :: (.int 0) :: (.int 0) :: (.long 0) :: (.int 0) :: (.int 0) :: (.int 0) :: (.ref q7) :: (.ref q8) :: (.ref q9) :: (.ref q10) :: (.ref q11) :: (.ref q12) :: (.ref q13) :: (.ref q14) :: (.ref q15) :: (.ref q16) :: (.int (-1)) :: (.int 0) :: (.ref q17) :: (.ref q18) :: (.ref q19) :: (.ref q20) :: []))) :: (q1, .inl (dA 0, 960, .inl (fun _ => 0))) :: (q2, .inl (dA 0, 6, .inl (fun _ => 0))) :: (q3, .inl (dA 0, 160, .inl (fun _ => 0))) :: (q4, .inl (dA 0, 72, .inl (fun _ => 0))) :: (q5, .inl (dA 0, 8, .inl (fun _ => 0))) :: (q6, .inl (dA 0, 24, .inl (fun _ => 0))) :: (q7, .inl (dA 0, 24, .inl (fun _ => 0))) :: (q8, .inl (dA 0, 9, .inl (fun _ => 0))) :: (q9, .inl (dA 0, 9, .inl (fun _ => 0))) :: (q10, .inl (dA 0, 225, .inl (fun _ => 0))) :: (q11, .inl (dA 0, 216, .inl (fun _ => 0))) :: (q12, .inl (dA 0, 216, .inl (fun _ => 0))) :: (q13, .inl (dA 0, 24, .inl (fun _ => 0))) :: (q14, .inl (dA 0, 24, .inl (fun _ => 0))) :: (q15, .inl (dA 0, 72, .inl (fun _ => 0))) :: (q16, .inl (dA 0, 24, .inl (fun _ => 0))) :: (q17, .inl (dA 1, 4, .inl (fun _ => 0))) :: (q18, .inl (dA 0, 4, .inl (fun _ => 0))) :: (q19, .inl (dA 0, 4, .inl (fun _ => 0))) :: (q20, .inl (dA 0, 160, .inl (fun _ => 0))) :: []) H locs := hw
  refine lv_iconst (v := 0) hx hb de_M_init_172 (by decide) ?_
  refine lv_istore_n (lv' := [(1, .int 0), (0, .ref h0)]) hx hb de_M_init_173 rfl hl (by decide) rfl (fun ls hl => ?_)
  refine fillM (wf := fun f => ((h0, .inr (8, ((.int 0) :: (.ref q1) :: (.ref q2) :: (.int 0) :: (.int 0) :: (.ref q3) :: (.int 0) :: (.ref q4) :: (.ref q5) :: (.ref q6) :: (.int 0) :: (.int 0) :: (.int 0) :: (.int 0) :: (.int 0) :: (.int 0) :: (.int 0) :: (.int 0) :: (.int 0) :: (.int 0) :: (.int 0) :: (.int 0) :: (.long 0) :: (.int 0) :: (.int 0) :: (.int 0) :: (.ref q7) :: (.ref q8) :: (.ref q9) :: (.ref q10) :: (.ref q11) :: (.ref q12) :: (.ref q13) :: (.ref q14) :: (.ref q15) :: (.ref q16) :: (.int (-1)) :: (.int 0) :: (.ref q17) :: (.ref q18) :: (.ref q19) :: (.ref q20) :: []))) :: (q1, .inl (dA 0, 960, .inl (fun _ => 0))) :: (q2, .inl (dA 0, 6, .inl (fun _ => 0))) :: (q3, .inl (dA 0, 160, .inl (fun _ => 0))) :: (q4, .inl (dA 0, 72, .inl (f))) :: (q5, .inl (dA 0, 8, .inl (fun _ => 0))) :: (q6, .inl (dA 0, 24, .inl (fun _ => 0))) :: (q7, .inl (dA 0, 24, .inl (fun _ => 0))) :: (q8, .inl (dA 0, 9, .inl (fun _ => 0))) :: (q9, .inl (dA 0, 9, .inl (fun _ => 0))) :: (q10, .inl (dA 0, 225, .inl (fun _ => 0))) :: (q11, .inl (dA 0, 216, .inl (fun _ => 0))) :: (q12, .inl (dA 0, 216, .inl (fun _ => 0))) :: (q13, .inl (dA 0, 24, .inl (fun _ => 0))) :: (q14, .inl (dA 0, 24, .inl (fun _ => 0))) :: (q15, .inl (dA 0, 72, .inl (fun _ => 0))) :: (q16, .inl (dA 0, 24, .inl (fun _ => 0))) :: (q17, .inl (dA 1, 4, .inl (fun _ => 0))) :: (q18, .inl (dA 0, 4, .inl (fun _ => 0))) :: (q19, .inl (dA 0, 4, .inl (fun _ => 0))) :: (q20, .inl (dA 0, 160, .inl (fun _ => 0))) :: [])) (j := 4) C0 (fun _ => rfl) rfl (fun _ => rfl) (fun _ _ => rfl) (fun H locs ls hw hl => ?_) 73 0 (by omega) (by omega) H locs ls (by rw [mf_0]; exact hw) hl
  have hw : ct_W D A s ((h0, .inr (8, ((.int 0) :: (.ref q1) :: (.ref q2) :: (.int 0) :: (.int 0) :: (.ref q3) :: (.int 0) :: (.ref q4) :: (.ref q5) :: (.ref q6) :: (.int 0) :: (.int 0) :: (.int 0) :: (.int 0) :: (.int 0) :: (.int 0) :: (.int 0) :: (.int 0) :: (.int 0) :: (.int 0) :: (.int 0) :: (.int 0) :: (.long 0) :: (.int 0) :: (.int 0) :: (.int 0) :: (.ref q7) :: (.ref q8) :: (.ref q9) :: (.ref q10) :: (.ref q11) :: (.ref q12) :: (.ref q13) :: (.ref q14) :: (.ref q15) :: (.ref q16) :: (.int (-1)) :: (.int 0) :: (.ref q17) :: (.ref q18) :: (.ref q19) :: (.ref q20) :: []))) :: (q1, .inl (dA 0, 960, .inl (fun _ => 0))) :: (q2, .inl (dA 0, 6, .inl (fun _ => 0))) :: (q3, .inl (dA 0, 160, .inl (fun _ => 0))) :: (q4, .inl (dA 0, 72, .inl (mf 72))) :: (q5, .inl (dA 0, 8, .inl (fun _ => 0))) :: (q6, .inl (dA 0, 24, .inl (fun _ => 0))) :: (q7, .inl (dA 0, 24, .inl (fun _ => 0))) :: (q8, .inl (dA 0, 9, .inl (fun _ => 0))) :: (q9, .inl (dA 0, 9, .inl (fun _ => 0))) :: (q10, .inl (dA 0, 225, .inl (fun _ => 0))) :: (q11, .inl (dA 0, 216, .inl (fun _ => 0))) :: (q12, .inl (dA 0, 216, .inl (fun _ => 0))) :: (q13, .inl (dA 0, 24, .inl (fun _ => 0))) :: (q14, .inl (dA 0, 24, .inl (fun _ => 0))) :: (q15, .inl (dA 0, 72, .inl (fun _ => 0))) :: (q16, .inl (dA 0, 24, .inl (fun _ => 0))) :: (q17, .inl (dA 1, 4, .inl (fun _ => 0))) :: (q18, .inl (dA 0, 4, .inl (fun _ => 0))) :: (q19, .inl (dA 0, 4, .inl (fun _ => 0))) :: (q20, .inl (dA 0, 160, .inl (fun _ => 0))) :: []) H locs := hw
  have hw : ct_W D A s ((q2, .inl (dA 0, 6, .inl (fun _ => 0))) :: (q3, .inl (dA 0, 160, .inl (fun _ => 0))) :: (q4, .inl (dA 0, 72, .inl (mf 72))) :: (q5, .inl (dA 0, 8, .inl (fun _ => 0))) :: (q6, .inl (dA 0, 24, .inl (fun _ => 0))) :: (q7, .inl (dA 0, 24, .inl (fun _ => 0))) :: (q8, .inl (dA 0, 9, .inl (fun _ => 0))) :: (q9, .inl (dA 0, 9, .inl (fun _ => 0))) :: (q10, .inl (dA 0, 225, .inl (fun _ => 0))) :: (q11, .inl (dA 0, 216, .inl (fun _ => 0))) :: (q12, .inl (dA 0, 216, .inl (fun _ => 0))) :: (q13, .inl (dA 0, 24, .inl (fun _ => 0))) :: (q14, .inl (dA 0, 24, .inl (fun _ => 0))) :: (q15, .inl (dA 0, 72, .inl (fun _ => 0))) :: (q16, .inl (dA 0, 24, .inl (fun _ => 0))) :: (q17, .inl (dA 1, 4, .inl (fun _ => 0))) :: (q18, .inl (dA 0, 4, .inl (fun _ => 0))) :: (q19, .inl (dA 0, 4, .inl (fun _ => 0))) :: (q20, .inl (dA 0, 160, .inl (fun _ => 0))) :: (h0, .inr (8, ((.int 0) :: (.ref q1) :: (.ref q2) :: (.int 0) :: (.int 0) :: (.ref q3) :: (.int 0) :: (.ref q4) :: (.ref q5) :: (.ref q6) :: (.int 0) :: (.int 0) :: (.int 0) :: (.int 0) :: (.int 0) :: (.int 0) :: (.int 0) :: (.int 0) :: (.int 0) :: (.int 0) :: (.int 0) :: (.int 0) :: (.long 0) :: (.int 0) :: (.int 0) :: (.int 0) :: (.ref q7) :: (.ref q8) :: (.ref q9) :: (.ref q10) :: (.ref q11) :: (.ref q12) :: (.ref q13) :: (.ref q14) :: (.ref q15) :: (.ref q16) :: (.int (-1)) :: (.int 0) :: (.ref q17) :: (.ref q18) :: (.ref q19) :: (.ref q20) :: []))) :: (q1, .inl (dA 0, 960, .inl (fun _ => 0))) :: []) H locs := ⟨hw.1.sub [2, 3, 4, 5, 6, 7, 8, 9, 10, 11, 12, 13, 14, 15, 16, 17, 18, 19, 20, 0, 1] rfl, hw.2.1.sub [2, 3, 4, 5, 6, 7, 8, 9, 10, 11, 12, 13, 14, 15, 16, 17, 18, 19, 20, 0, 1] (by decide) rfl, hw.2.2⟩
  refine lv_aload_n hx hb de_M_init_194 rfl (lv_at hl 1 rfl) ?_
  refine lv_iconst (v := 0) hx hb de_M_init_195 (by decide) ?_
  refine lv_bipush (v := 101) hx hb de_M_init_196 (by decide) ?_
  refine lv_bipush (v := 97) hx hb de_M_init_198 (by decide) ?_
  refine lv_bipush (v := 115) hx hb de_M_init_200 (by decide) ?_
  refine lv_bipush (v := 101) hx hb de_M_init_202 (by decide) ?_
  refine lv_bipush (v := 115) hx hb de_M_init_204 (by decide) ?_
  refine lv_bipush (v := 32) hx hb de_M_init_206 (by decide) ?_
  refine lv_bipush (v := 49) hx hb de_M_init_208 (by decide) ?_
  refine lv_bipush (v := 53) hx hb de_M_init_210 (by decide) ?_
  refine ct_callV (wr := [(q2, .inl (dA 0, 6, .inl (fun _ => 0))), (q3, .inl (dA 0, 160, .inl (fun _ => 0))), (q4, .inl (dA 0, 72, .inl (mf 72))), (q5, .inl (dA 0, 8, .inl (fun _ => 0))), (q6, .inl (dA 0, 24, .inl (fun _ => 0))), (q7, .inl (dA 0, 24, .inl (fun _ => 0))), (q8, .inl (dA 0, 9, .inl (fun _ => 0))), (q9, .inl (dA 0, 9, .inl (fun _ => 0))), (q10, .inl (dA 0, 225, .inl (fun _ => 0))), (q11, .inl (dA 0, 216, .inl (fun _ => 0))), (q12, .inl (dA 0, 216, .inl (fun _ => 0))), (q13, .inl (dA 0, 24, .inl (fun _ => 0))), (q14, .inl (dA 0, 24, .inl (fun _ => 0))), (q15, .inl (dA 0, 72, .inl (fun _ => 0))), (q16, .inl (dA 0, 24, .inl (fun _ => 0))), (q17, .inl (dA 1, 4, .inl (fun _ => 0))), (q18, .inl (dA 0, 4, .inl (fun _ => 0))), (q19, .inl (dA 0, 4, .inl (fun _ => 0))), (q20, .inl (dA 0, 160, .inl (fun _ => 0)))]) (wc := [(h0, .inr (8, ((.int 0) :: (.ref q1) :: (.ref q2) :: (.int 0) :: (.int 0) :: (.ref q3) :: (.int 0) :: (.ref q4) :: (.ref q5) :: (.ref q6) :: (.int 0) :: (.int 0) :: (.int 0) :: (.int 0) :: (.int 0) :: (.int 0) :: (.int 0) :: (.int 0) :: (.int 0) :: (.int 0) :: (.int 0) :: (.int 0) :: (.long 0) :: (.int 0) :: (.int 0) :: (.int 0) :: (.ref q7) :: (.ref q8) :: (.ref q9) :: (.ref q10) :: (.ref q11) :: (.ref q12) :: (.ref q13) :: (.ref q14) :: (.ref q15) :: (.ref q16) :: (.int (-1)) :: (.int 0) :: (.ref q17) :: (.ref q18) :: (.ref q19) :: (.ref q20) :: []))), (q1, .inl (dA 0, 960, .inl (fun _ => 0)))]) (av := [.int 0, .int 101, .int 97, .int 115, .int 101, .int 115, .int 32, .int 49, .int 53]) (rest := []) C0 hA hw (cc_spell_1 l D dA h0 q1 q2 q3 q4 q5 q6 q7 q8 q9 q10 q11 q12 q13 q14 q15 q16 q17 q18 q19 q20 (fun _ => 0)) jk_M_spell jz_M jl_M_78 ji_M_spell js_M_spell ⟨by decide, by decide, show _ = some 9 by decide +kernel⟩ rfl (ci := 8) rfl ⟨(Nat.le_of_ble_eq_true rfl), (Nat.le_of_ble_eq_true rfl)⟩ (fun _ _ _ => trivial) (fun _ _ _ _ _ => trivial) hl.1 (Nat.le_of_ble_eq_true rfl) ⟨(Nat.le_of_ble_eq_true rfl), (Nat.le_of_ble_eq_true rfl)⟩ de_M_init_212 (fun w1 H locs hp hw => ?_)
  subst hp
  have hw : ct_W D A s ((q2, .inl (dA 0, 6, .inl (fun _ => 0))) :: (q3, .inl (dA 0, 160, .inl (fun _ => 0))) :: (q4, .inl (dA 0, 72, .inl (mf 72))) :: (q5, .inl (dA 0, 8, .inl (fun _ => 0))) :: (q6, .inl (dA 0, 24, .inl (fun _ => 0))) :: (q7, .inl (dA 0, 24, .inl (fun _ => 0))) :: (q8, .inl (dA 0, 9, .inl (fun _ => 0))) :: (q9, .inl (dA 0, 9, .inl (fun _ => 0))) :: (q10, .inl (dA 0, 225, .inl (fun _ => 0))) :: (q11, .inl (dA 0, 216, .inl (fun _ => 0))) :: (q12, .inl (dA 0, 216, .inl (fun _ => 0))) :: (q13, .inl (dA 0, 24, .inl (fun _ => 0))) :: (q14, .inl (dA 0, 24, .inl (fun _ => 0))) :: (q15, .inl (dA 0, 72, .inl (fun _ => 0))) :: (q16, .inl (dA 0, 24, .inl (fun _ => 0))) :: (q17, .inl (dA 1, 4, .inl (fun _ => 0))) :: (q18, .inl (dA 0, 4, .inl (fun _ => 0))) :: (q19, .inl (dA 0, 4, .inl (fun _ => 0))) :: (q20, .inl (dA 0, 160, .inl (fun _ => 0))) :: (h0, .inr (8, ((.int 0) :: (.ref q1) :: (.ref q2) :: (.int 0) :: (.int 0) :: (.ref q3) :: (.int 0) :: (.ref q4) :: (.ref q5) :: (.ref q6) :: (.int 0) :: (.int 0) :: (.int 0) :: (.int 0) :: (.int 0) :: (.int 0) :: (.int 0) :: (.int 0) :: (.int 0) :: (.int 0) :: (.int 0) :: (.int 0) :: (.long 0) :: (.int 0) :: (.int 0) :: (.int 0) :: (.ref q7) :: (.ref q8) :: (.ref q9) :: (.ref q10) :: (.ref q11) :: (.ref q12) :: (.ref q13) :: (.ref q14) :: (.ref q15) :: (.ref q16) :: (.int (-1)) :: (.int 0) :: (.ref q17) :: (.ref q18) :: (.ref q19) :: (.ref q20) :: []))) :: (q1, .inl (dA 0, 960, .inl (upd (upd (upd (upd (upd (upd (upd (upd ((fun _ => 0)) 0 (101)) 1 (97)) 2 (115)) 3 (101)) 4 (115)) 5 (32)) 6 (49)) 7 (53)))) :: []) H locs := hw
  refine lv_aload_n hx hb de_M_init_215 rfl (lv_at hl 1 rfl) ?_
  refine lv_bipush (v := 8) hx hb de_M_init_216 (by decide) ?_
  refine lv_bipush (v := 32) hx hb de_M_init_218 (by decide) ?_
  refine lv_bipush (v := 59) hx hb de_M_init_220 (by decide) ?_
  refine lv_bipush (v := 32) hx hb de_M_init_222 (by decide) ?_
  refine lv_bipush (v := 102) hx hb de_M_init_224 (by decide) ?_
  refine lv_bipush (v := 105) hx hb de_M_init_226 (by decide) ?_
  refine lv_bipush (v := 110) hx hb de_M_init_228 (by decide) ?_
  refine lv_bipush (v := 101) hx hb de_M_init_230 (by decide) ?_
  refine lv_bipush (v := 115) hx hb de_M_init_232 (by decide) ?_
  refine ct_callV (wr := [(q2, .inl (dA 0, 6, .inl (fun _ => 0))), (q3, .inl (dA 0, 160, .inl (fun _ => 0))), (q4, .inl (dA 0, 72, .inl (mf 72))), (q5, .inl (dA 0, 8, .inl (fun _ => 0))), (q6, .inl (dA 0, 24, .inl (fun _ => 0))), (q7, .inl (dA 0, 24, .inl (fun _ => 0))), (q8, .inl (dA 0, 9, .inl (fun _ => 0))), (q9, .inl (dA 0, 9, .inl (fun _ => 0))), (q10, .inl (dA 0, 225, .inl (fun _ => 0))), (q11, .inl (dA 0, 216, .inl (fun _ => 0))), (q12, .inl (dA 0, 216, .inl (fun _ => 0))), (q13, .inl (dA 0, 24, .inl (fun _ => 0))), (q14, .inl (dA 0, 24, .inl (fun _ => 0))), (q15, .inl (dA 0, 72, .inl (fun _ => 0))), (q16, .inl (dA 0, 24, .inl (fun _ => 0))), (q17, .inl (dA 1, 4, .inl (fun _ => 0))), (q18, .inl (dA 0, 4, .inl (fun _ => 0))), (q19, .inl (dA 0, 4, .inl (fun _ => 0))), (q20, .inl (dA 0, 160, .inl (fun _ => 0)))]) (wc := [(h0, .inr (8, ((.int 0) :: (.ref q1) :: (.ref q2) :: (.int 0) :: (.int 0) :: (.ref q3) :: (.int 0) :: (.ref q4) :: (.ref q5) :: (.ref q6) :: (.int 0) :: (.int 0) :: (.int 0) :: (.int 0) :: (.int 0) :: (.int 0) :: (.int 0) :: (.int 0) :: (.int 0) :: (.int 0) :: (.int 0) :: (.int 0) :: (.long 0) :: (.int 0) :: (.int 0) :: (.int 0) :: (.ref q7) :: (.ref q8) :: (.ref q9) :: (.ref q10) :: (.ref q11) :: (.ref q12) :: (.ref q13) :: (.ref q14) :: (.ref q15) :: (.ref q16) :: (.int (-1)) :: (.int 0) :: (.ref q17) :: (.ref q18) :: (.ref q19) :: (.ref q20) :: []))), (q1, .inl (dA 0, 960, .inl (upd (upd (upd (upd (upd (upd (upd (upd ((fun _ => 0)) 0 (101)) 1 (97)) 2 (115)) 3 (101)) 4 (115)) 5 (32)) 6 (49)) 7 (53))))]) (av := [.int 8, .int 32, .int 59, .int 32, .int 102, .int 105, .int 110, .int 101, .int 115]) (rest := []) C0 hA hw (cc_spell_2 l D dA h0 q1 q2 q3 q4 q5 q6 q7 q8 q9 q10 q11 q12 q13 q14 q15 q16 q17 q18 q19 q20 (upd (upd (upd (upd (upd (upd (upd (upd ((fun _ => 0)) 0 (101)) 1 (97)) 2 (115)) 3 (101)) 4 (115)) 5 (32)) 6 (49)) 7 (53))) jk_M_spell jz_M jl_M_78 ji_M_spell js_M_spell ⟨by decide, by decide, show _ = some 9 by decide +kernel⟩ rfl (ci := 8) rfl ⟨(Nat.le_of_ble_eq_true rfl), (Nat.le_of_ble_eq_true rfl)⟩ (fun _ _ _ => trivial) (fun _ _ _ _ _ => trivial) hl.1 (Nat.le_of_ble_eq_true rfl) ⟨(Nat.le_of_ble_eq_true rfl), (Nat.le_of_ble_eq_true rfl)⟩ de_M_init_234 (fun w1 H locs hp hw => ?_)
  subst hp
  have hw : ct_W D A s ((q2, .inl (dA 0, 6, .inl (fun _ => 0))) :: (q3, .inl (dA 0, 160, .inl (fun _ => 0))) :: (q4, .inl (dA 0, 72, .inl (mf 72))) :: (q5, .inl (dA 0, 8, .inl (fun _ => 0))) :: (q6, .inl (dA 0, 24, .inl (fun _ => 0))) :: (q7, .inl (dA 0, 24, .inl (fun _ => 0))) :: (q8, .inl (dA 0, 9, .inl (fun _ => 0))) :: (q9, .inl (dA 0, 9, .inl (fun _ => 0))) :: (q10, .inl (dA 0, 225, .inl (fun _ => 0))) :: (q11, .inl (dA 0, 216, .inl (fun _ => 0))) :: (q12, .inl (dA 0, 216, .inl (fun _ => 0))) :: (q13, .inl (dA 0, 24, .inl (fun _ => 0))) :: (q14, .inl (dA 0, 24, .inl (fun _ => 0))) :: (q15, .inl (dA 0, 72, .inl (fun _ => 0))) :: (q16, .inl (dA 0, 24, .inl (fun _ => 0))) :: (q17, .inl (dA 1, 4, .inl (fun _ => 0))) :: (q18, .inl (dA 0, 4, .inl (fun _ => 0))) :: (q19, .inl (dA 0, 4, .inl (fun _ => 0))) :: (q20, .inl (dA 0, 160, .inl (fun _ => 0))) :: (h0, .inr (8, ((.int 0) :: (.ref q1) :: (.ref q2) :: (.int 0) :: (.int 0) :: (.ref q3) :: (.int 0) :: (.ref q4) :: (.ref q5) :: (.ref q6) :: (.int 0) :: (.int 0) :: (.int 0) :: (.int 0) :: (.int 0) :: (.int 0) :: (.int 0) :: (.int 0) :: (.int 0) :: (.int 0) :: (.int 0) :: (.int 0) :: (.long 0) :: (.int 0) :: (.int 0) :: (.int 0) :: (.ref q7) :: (.ref q8) :: (.ref q9) :: (.ref q10) :: (.ref q11) :: (.ref q12) :: (.ref q13) :: (.ref q14) :: (.ref q15) :: (.ref q16) :: (.int (-1)) :: (.int 0) :: (.ref q17) :: (.ref q18) :: (.ref q19) :: (.ref q20) :: []))) :: (q1, .inl (dA 0, 960, .inl (upd (upd (upd (upd (upd (upd (upd (upd ((upd (upd (upd (upd (upd (upd (upd (upd ((fun _ => 0)) 0 (101)) 1 (97)) 2 (115)) 3 (101)) 4 (115)) 5 (32)) 6 (49)) 7 (53))) 8 (32)) 9 (59)) 10 (32)) 11 (102)) 12 (105)) 13 (110)) 14 (101)) 15 (115)))) :: []) H locs := hw
  refine lv_aload_n hx hb de_M_init_237 rfl (lv_at hl 1 rfl) ?_
  refine lv_bipush (v := 16) hx hb de_M_init_238 (by decide) ?_
  refine lv_bipush (v := 32) hx hb de_M_init_240 (by decide) ?_
  refine lv_bipush (v := 53) hx hb de_M_init_242 (by decide) ?_
  refine lv_bipush (v := 32) hx hb de_M_init_244 (by decide) ?_
  refine lv_bipush (v := 59) hx hb de_M_init_246 (by decide) ?_
  refine lv_bipush (v := 32) hx hb de_M_init_248 (by decide) ?_
  refine lv_bipush (v := 99) hx hb de_M_init_250 (by decide) ?_
  refine lv_bipush (v := 111) hx hb de_M_init_252 (by decide) ?_
  refine lv_bipush (v := 115) hx hb de_M_init_254 (by decide) ?_
  refine ct_callV (wr := [(q2, .inl (dA 0, 6, .inl (fun _ => 0))), (q3, .inl (dA 0, 160, .inl (fun _ => 0))), (q4, .inl (dA 0, 72, .inl (mf 72))), (q5, .inl (dA 0, 8, .inl (fun _ => 0))), (q6, .inl (dA 0, 24, .inl (fun _ => 0))), (q7, .inl (dA 0, 24, .inl (fun _ => 0))), (q8, .inl (dA 0, 9, .inl (fun _ => 0))), (q9, .inl (dA 0, 9, .inl (fun _ => 0))), (q10, .inl (dA 0, 225, .inl (fun _ => 0))), (q11, .inl (dA 0, 216, .inl (fun _ => 0))), (q12, .inl (dA 0, 216, .inl (fun _ => 0))), (q13, .inl (dA 0, 24, .inl (fun _ => 0))), (q14, .inl (dA 0, 24, .inl (fun _ => 0))), (q15, .inl (dA 0, 72, .inl (fun _ => 0))), (q16, .inl (dA 0, 24, .inl (fun _ => 0))), (q17, .inl (dA 1, 4, .inl (fun _ => 0))), (q18, .inl (dA 0, 4, .inl (fun _ => 0))), (q19, .inl (dA 0, 4, .inl (fun _ => 0))), (q20, .inl (dA 0, 160, .inl (fun _ => 0)))]) (wc := [(h0, .inr (8, ((.int 0) :: (.ref q1) :: (.ref q2) :: (.int 0) :: (.int 0) :: (.ref q3) :: (.int 0) :: (.ref q4) :: (.ref q5) :: (.ref q6) :: (.int 0) :: (.int 0) :: (.int 0) :: (.int 0) :: (.int 0) :: (.int 0) :: (.int 0) :: (.int 0) :: (.int 0) :: (.int 0) :: (.int 0) :: (.int 0) :: (.long 0) :: (.int 0) :: (.int 0) :: (.int 0) :: (.ref q7) :: (.ref q8) :: (.ref q9) :: (.ref q10) :: (.ref q11) :: (.ref q12) :: (.ref q13) :: (.ref q14) :: (.ref q15) :: (.ref q16) :: (.int (-1)) :: (.int 0) :: (.ref q17) :: (.ref q18) :: (.ref q19) :: (.ref q20) :: []))), (q1, .inl (dA 0, 960, .inl (upd (upd (upd (upd (upd (upd (upd (upd ((upd (upd (upd (upd (upd (upd (upd (upd ((fun _ => 0)) 0 (101)) 1 (97)) 2 (115)) 3 (101)) 4 (115)) 5 (32)) 6 (49)) 7 (53))) 8 (32)) 9 (59)) 10 (32)) 11 (102)) 12 (105)) 13 (110)) 14 (101)) 15 (115))))]) (av := [.int 16, .int 32, .int 53, .int 32, .int 59, .int 32, .int 99, .int 111, .int 115]) (rest := []) C0 hA hw (cc_spell_3 l D dA h0 q1 q2 q3 q4 q5 q6 q7 q8 q9 q10 q11 q12 q13 q14 q15 q16 q17 q18 q19 q20 (upd (upd (upd (upd (upd (upd (upd (upd ((upd (upd (upd (upd (upd (upd (upd (upd ((fun _ => 0)) 0 (101)) 1 (97)) 2 (115)) 3 (101)) 4 (115)) 5 (32)) 6 (49)) 7 (53))) 8 (32)) 9 (59)) 10 (32)) 11 (102)) 12 (105)) 13 (110)) 14 (101)) 15 (115))) jk_M_spell jz_M jl_M_78 ji_M_spell js_M_spell ⟨by decide, by decide, show _ = some 9 by decide +kernel⟩ rfl (ci := 8) rfl ⟨(Nat.le_of_ble_eq_true rfl), (Nat.le_of_ble_eq_true rfl)⟩ (fun _ _ _ => trivial) (fun _ _ _ _ _ => trivial) hl.1 (Nat.le_of_ble_eq_true rfl) ⟨(Nat.le_of_ble_eq_true rfl), (Nat.le_of_ble_eq_true rfl)⟩ de_M_init_256 (fun w1 H locs hp hw => ?_)
  subst hp
  have hw : ct_W D A s ((q2, .inl (dA 0, 6, .inl (fun _ => 0))) :: (q3, .inl (dA 0, 160, .inl (fun _ => 0))) :: (q4, .inl (dA 0, 72, .inl (mf 72))) :: (q5, .inl (dA 0, 8, .inl (fun _ => 0))) :: (q6, .inl (dA 0, 24, .inl (fun _ => 0))) :: (q7, .inl (dA 0, 24, .inl (fun _ => 0))) :: (q8, .inl (dA 0, 9, .inl (fun _ => 0))) :: (q9, .inl (dA 0, 9, .inl (fun _ => 0))) :: (q10, .inl (dA 0, 225, .inl (fun _ => 0))) :: (q11, .inl (dA 0, 216, .inl (fun _ => 0))) :: (q12, .inl (dA 0, 216, .inl (fun _ => 0))) :: (q13, .inl (dA 0, 24, .inl (fun _ => 0))) :: (q14, .inl (dA 0, 24, .inl (fun _ => 0))) :: (q15, .inl (dA 0, 72, .inl (fun _ => 0))) :: (q16, .inl (dA 0, 24, .inl (fun _ => 0))) :: (q17, .inl (dA 1, 4, .inl (fun _ => 0))) :: (q18, .inl (dA 0, 4, .inl (fun _ => 0))) :: (q19, .inl (dA 0, 4, .inl (fun _ => 0))) :: (q20, .inl (dA 0, 160, .inl (fun _ => 0))) :: (h0, .inr (8, ((.int 0) :: (.ref q1) :: (.ref q2) :: (.int 0) :: (.int 0) :: (.ref q3) :: (.int 0) :: (.ref q4) :: (.ref q5) :: (.ref q6) :: (.int 0) :: (.int 0) :: (.int 0) :: (.int 0) :: (.int 0) :: (.int 0) :: (.int 0) :: (.int 0) :: (.int 0) :: (.int 0) :: (.int 0) :: (.int 0) :: (.long 0) :: (.int 0) :: (.int 0) :: (.int 0) :: (.ref q7) :: (.ref q8) :: (.ref q9) :: (.ref q10) :: (.ref q11) :: (.ref q12) :: (.ref q13) :: (.ref q14) :: (.ref q15) :: (.ref q16) :: (.int (-1)) :: (.int 0) :: (.ref q17) :: (.ref q18) :: (.ref q19) :: (.ref q20) :: []))) :: (q1, .inl (dA 0, 960, .inl (upd (upd (upd (upd (upd (upd (upd (upd ((upd (upd (upd (upd (upd (upd (upd (upd ((upd (upd (upd (upd (upd (upd (upd (upd ((fun _ => 0)) 0 (101)) 1 (97)) 2 (115)) 3 (101)) 4 (115)) 5 (32)) 6 (49)) 7 (53))) 8 (32)) 9 (59)) 10 (32)) 11 (102)) 12 (105)) 13 (110)) 14 (101)) 15 (115))) 16 (32)) 17 (53)) 18 (32)) 19 (59)) 20 (32)) 21 (99)) 22 (111)) 23 (115)))) :: []) H locs := hw
  refine lv_aload_n hx hb de_M_init_259 rfl (lv_at hl 1 rfl) ?_
  refine lv_bipush (v := 24) hx hb de_M_init_260 (by decide) ?_
  refine lv_bipush (v := 116) hx hb de_M_init_262 (by decide) ?_
  refine lv_bipush (v := 115) hx hb de_M_init_264 (by decide) ?_
  refine lv_bipush (v := 32) hx hb de_M_init_266 (by decide) ?_
  refine lv_bipush (v := 51) hx hb de_M_init_268 (by decide) ?_
  refine lv_bipush (v := 32) hx hb de_M_init_270 (by decide) ?_
  refine lv_bipush (v := 59) hx hb de_M_init_272 (by decide) ?_
  refine lv_bipush (v := 32) hx hb de_M_init_274 (by decide) ?_
  refine lv_bipush (v := 32) hx hb de_M_init_276 (by decide) ?_
  refine ct_callV (wr := [(q2, .inl (dA 0, 6, .inl (fun _ => 0))), (q3, .inl (dA 0, 160, .inl (fun _ => 0))), (q4, .inl (dA 0, 72, .inl (mf 72))), (q5, .inl (dA 0, 8, .inl (fun _ => 0))), (q6, .inl (dA 0, 24, .inl (fun _ => 0))), (q7, .inl (dA 0, 24, .inl (fun _ => 0))), (q8, .inl (dA 0, 9, .inl (fun _ => 0))), (q9, .inl (dA 0, 9, .inl (fun _ => 0))), (q10, .inl (dA 0, 225, .inl (fun _ => 0))), (q11, .inl (dA 0, 216, .inl (fun _ => 0))), (q12, .inl (dA 0, 216, .inl (fun _ => 0))), (q13, .inl (dA 0, 24, .inl (fun _ => 0))), (q14, .inl (dA 0, 24, .inl (fun _ => 0))), (q15, .inl (dA 0, 72, .inl (fun _ => 0))), (q16, .inl (dA 0, 24, .inl (fun _ => 0))), (q17, .inl (dA 1, 4, .inl (fun _ => 0))), (q18, .inl (dA 0, 4, .inl (fun _ => 0))), (q19, .inl (dA 0, 4, .inl (fun _ => 0))), (q20, .inl (dA 0, 160, .inl (fun _ => 0)))]) (wc := [(h0, .inr (8, ((.int 0) :: (.ref q1) :: (.ref q2) :: (.int 0) :: (.int 0) :: (.ref q3) :: (.int 0) :: (.ref q4) :: (.ref q5) :: (.ref q6) :: (.int 0) :: (.int 0) :: (.int 0) :: (.int 0) :: (.int 0) :: (.int 0) :: (.int 0) :: (.int 0) :: (.int 0) :: (.int 0) :: (.int 0) :: (.int 0) :: (.long 0) :: (.int 0) :: (.int 0) :: (.int 0) :: (.ref q7) :: (.ref q8) :: (.ref q9) :: (.ref q10) :: (.ref q11) :: (.ref q12) :: (.ref q13) :: (.ref q14) :: (.ref q15) :: (.ref q16) :: (.int (-1)) :: (.int 0) :: (.ref q17) :: (.ref q18) :: (.ref q19) :: (.ref q20) :: []))), (q1, .inl (dA 0, 960, .inl (upd (upd (upd (upd (upd (upd (upd (upd ((upd (upd (upd (upd (upd (upd (upd (upd ((upd (upd (upd (upd (upd (upd (upd (upd ((fun _ => 0)) 0 (101)) 1 (97)) 2 (115)) 3 (101)) 4 (115)) 5 (32)) 6 (49)) 7 (53))) 8 (32)) 9 (59)) 10 (32)) 11 (102)) 12 (105)) 13 (110)) 14 (101)) 15 (115))) 16 (32)) 17 (53)) 18 (32)) 19 (59)) 20 (32)) 21 (99)) 22 (111)) 23 (115))))]) (av := [.int 24, .int 116, .int 115, .int 32, .int 51, .int 32, .int 59, .int 32, .int 32]) (rest := []) C0 hA hw (cc_spell_4 l D dA h0 q1 q2 q3 q4 q5 q6 q7 q8 q9 q10 q11 q12 q13 q14 q15 q16 q17 q18 q19 q20 (upd (upd (upd (upd (upd (upd (upd (upd ((upd (upd (upd (upd (upd (upd (upd (upd ((upd (upd (upd (upd (upd (upd (upd (upd ((fun _ => 0)) 0 (101)) 1 (97)) 2 (115)) 3 (101)) 4 (115)) 5 (32)) 6 (49)) 7 (53))) 8 (32)) 9 (59)) 10 (32)) 11 (102)) 12 (105)) 13 (110)) 14 (101)) 15 (115))) 16 (32)) 17 (53)) 18 (32)) 19 (59)) 20 (32)) 21 (99)) 22 (111)) 23 (115))) jk_M_spell jz_M jl_M_78 ji_M_spell js_M_spell ⟨by decide, by decide, show _ = some 9 by decide +kernel⟩ rfl (ci := 8) rfl ⟨(Nat.le_of_ble_eq_true rfl), (Nat.le_of_ble_eq_true rfl)⟩ (fun _ _ _ => trivial) (fun _ _ _ _ _ => trivial) hl.1 (Nat.le_of_ble_eq_true rfl) ⟨(Nat.le_of_ble_eq_true rfl), (Nat.le_of_ble_eq_true rfl)⟩ de_M_init_278 (fun w1 H locs hp hw => ?_)
  subst hp
  have hw : ct_W D A s ((q2, .inl (dA 0, 6, .inl (fun _ => 0))) :: (q3, .inl (dA 0, 160, .inl (fun _ => 0))) :: (q4, .inl (dA 0, 72, .inl (mf 72))) :: (q5, .inl (dA 0, 8, .inl (fun _ => 0))) :: (q6, .inl (dA 0, 24, .inl (fun _ => 0))) :: (q7, .inl (dA 0, 24, .inl (fun _ => 0))) :: (q8, .inl (dA 0, 9, .inl (fun _ => 0))) :: (q9, .inl (dA 0, 9, .inl (fun _ => 0))) :: (q10, .inl (dA 0, 225, .inl (fun _ => 0))) :: (q11, .inl (dA 0, 216, .inl (fun _ => 0))) :: (q12, .inl (dA 0, 216, .inl (fun _ => 0))) :: (q13, .inl (dA 0, 24, .inl (fun _ => 0))) :: (q14, .inl (dA 0, 24, .inl (fun _ => 0))) :: (q15, .inl (dA 0, 72, .inl (fun _ => 0))) :: (q16, .inl (dA 0, 24, .inl (fun _ => 0))) :: (q17, .inl (dA 1, 4, .inl (fun _ => 0))) :: (q18, .inl (dA 0, 4, .inl (fun _ => 0))) :: (q19, .inl (dA 0, 4, .inl (fun _ => 0))) :: (q20, .inl (dA 0, 160, .inl (fun _ => 0))) :: (h0, .inr (8, ((.int 0) :: (.ref q1) :: (.ref q2) :: (.int 0) :: (.int 0) :: (.ref q3) :: (.int 0) :: (.ref q4) :: (.ref q5) :: (.ref q6) :: (.int 0) :: (.int 0) :: (.int 0) :: (.int 0) :: (.int 0) :: (.int 0) :: (.int 0) :: (.int 0) :: (.int 0) :: (.int 0) :: (.int 0) :: (.int 0) :: (.long 0) :: (.int 0) :: (.int 0) :: (.int 0) :: (.ref q7) :: (.ref q8) :: (.ref q9) :: (.ref q10) :: (.ref q11) :: (.ref q12) :: (.ref q13) :: (.ref q14) :: (.ref q15) :: (.ref q16) :: (.int (-1)) :: (.int 0) :: (.ref q17) :: (.ref q18) :: (.ref q19) :: (.ref q20) :: []))) :: (q1, .inl (dA 0, 960, .inl (upd (upd (upd (upd (upd (upd (upd (upd ((upd (upd (upd (upd (upd (upd (upd (upd ((upd (upd (upd (upd (upd (upd (upd (upd ((upd (upd (upd (upd (upd (upd (upd (upd ((fun _ => 0)) 0 (101)) 1 (97)) 2 (115)) 3 (101)) 4 (115)) 5 (32)) 6 (49)) 7 (53))) 8 (32)) 9 (59)) 10 (32)) 11 (102)) 12 (105)) 13 (110)) 14 (101)) 15 (115))) 16 (32)) 17 (53)) 18 (32)) 19 (59)) 20 (32)) 21 (99)) 22 (111)) 23 (115))) 24 (116)) 25 (115)) 26 (32)) 27 (51)) 28 (32)) 29 (59)) 30 (32)) 31 (32)))) :: []) H locs := hw
  refine lv_aload_n hx hb de_M_init_281 rfl (lv_at hl 1 rfl) ?_
  refine ct_get (ci := 8) C0 hw 19 rfl rfl 2 (by decide) jf_M_17 rfl de_M_init_282 ?_
  refine lv_iconst (v := 0) hx hb de_M_init_285 (by decide) ?_
  refine lv_bipush (v := 32) hx hb de_M_init_286 (by decide) ?_
  refine ct_iast C0 hw 0 rfl (by unfold vp_in; decide) de_M_init_288 (fun H locs hw => ?_)
  have hw : ct_W D A s ((q2, .inl (dA 0, 6, .inl (upd (fun _ => 0) 0 (32)))) :: (q3, .inl (dA 0, 160, .inl (fun _ => 0))) :: (q4, .inl (dA 0, 72, .inl (mf 72))) :: (q5, .inl (dA 0, 8, .inl (fun _ => 0))) :: (q6, .inl (dA 0, 24, .inl (fun _ => 0))) :: (q7, .inl (dA 0, 24, .inl (fun _ => 0))) :: (q8, .inl (dA 0, 9, .inl (fun _ => 0))) :: (q9, .inl (dA 0, 9, .inl (fun _ => 0))) :: (q10, .inl (dA 0, 225, .inl (fun _ => 0))) :: (q11, .inl (dA 0, 216, .inl (fun _ => 0))) :: (q12, .inl (dA 0, 216, .inl (fun _ => 0))) :: (q13, .inl (dA 0, 24, .inl (fun _ => 0))) :: (q14, .inl (dA 0, 24, .inl (fun _ => 0))) :: (q15, .inl (dA 0, 72, .inl (fun _ => 0))) :: (q16, .inl (dA 0, 24, .inl (fun _ => 0))) :: (q17, .inl (dA 1, 4, .inl (fun _ => 0))) :: (q18, .inl (dA 0, 4, .inl (fun _ => 0))) :: (q19, .inl (dA 0, 4, .inl (fun _ => 0))) :: (q20, .inl (dA 0, 160, .inl (fun _ => 0))) :: (h0, .inr (8, ((.int 0) :: (.ref q1) :: (.ref q2) :: (.int 0) :: (.int 0) :: (.ref q3) :: (.int 0) :: (.ref q4) :: (.ref q5) :: (.ref q6) :: (.int 0) :: (.int 0) :: (.int 0) :: (.int 0) :: (.int 0) :: (.int 0) :: (.int 0) :: (.int 0) :: (.int 0) :: (.int 0) :: (.int 0) :: (.int 0) :: (.long 0) :: (.int 0) :: (.int 0) :: (.int 0) :: (.ref q7) :: (.ref q8) :: (.ref q9) :: (.ref q10) :: (.ref q11) :: (.ref q12) :: (.ref q13) :: (.ref q14) :: (.ref q15) :: (.ref q16) :: (.int (-1)) :: (.int 0) :: (.ref q17) :: (.ref q18) :: (.ref q19) :: (.ref q20) :: []))) :: (q1, .inl (dA 0, 960, .inl (upd (upd (upd (upd (upd (upd (upd (upd ((upd (upd (upd (upd (upd (upd (upd (upd ((upd (upd (upd (upd (upd (upd (upd (upd ((upd (upd (upd (upd (upd (upd (upd (upd ((fun _ => 0)) 0 (101)) 1 (97)) 2 (115)) 3 (101)) 4 (115)) 5 (32)) 6 (49)) 7 (53))) 8 (32)) 9 (59)) 10 (32)) 11 (102)) 12 (105)) 13 (110)) 14 (101)) 15 (115))) 16 (32)) 17 (53)) 18 (32)) 19 (59)) 20 (32)) 21 (99)) 22 (111)) 23 (115))) 24 (116)) 25 (115)) 26 (32)) 27 (51)) 28 (32)) 29 (59)) 30 (32)) 31 (32)))) :: []) H locs := hw
  refine lv_aload_n hx hb de_M_init_289 rfl (lv_at hl 1 rfl) ?_
  refine lv_iconst (v := 1) hx hb de_M_init_290 (by decide) ?_
  refine ct_put (ci := 8) C0 hw 19 rfl rfl 3 (by decide) jf_M_82 rfl (ab_cl_tt (c := 8) rfl 3 (by decide)) rfl rfl (Nat.le_of_ble_eq_true rfl) de_M_init_291 (fun H locs hw => ?_)
  have hw : ct_W D A s ((q2, .inl (dA 0, 6, .inl (upd (fun _ => 0) 0 (32)))) :: (q3, .inl (dA 0, 160, .inl (fun _ => 0))) :: (q4, .inl (dA 0, 72, .inl (mf 72))) :: (q5, .inl (dA 0, 8, .inl (fun _ => 0))) :: (q6, .inl (dA 0, 24, .inl (fun _ => 0))) :: (q7, .inl (dA 0, 24, .inl (fun _ => 0))) :: (q8, .inl (dA 0, 9, .inl (fun _ => 0))) :: (q9, .inl (dA 0, 9, .inl (fun _ => 0))) :: (q10, .inl (dA 0, 225, .inl (fun _ => 0))) :: (q11, .inl (dA 0, 216, .inl (fun _ => 0))) :: (q12, .inl (dA 0, 216, .inl (fun _ => 0))) :: (q13, .inl (dA 0, 24, .inl (fun _ => 0))) :: (q14, .inl (dA 0, 24, .inl (fun _ => 0))) :: (q15, .inl (dA 0, 72, .inl (fun _ => 0))) :: (q16, .inl (dA 0, 24, .inl (fun _ => 0))) :: (q17, .inl (dA 1, 4, .inl (fun _ => 0))) :: (q18, .inl (dA 0, 4, .inl (fun _ => 0))) :: (q19, .inl (dA 0, 4, .inl (fun _ => 0))) :: (q20, .inl (dA 0, 160, .inl (fun _ => 0))) :: (h0, .inr (8, ((.int 0) :: (.ref q1) :: (.ref q2) :: (.int 1) :: (.int 0) :: (.ref q3) :: (.int 0) :: (.ref q4) :: (.ref q5) :: (.ref q6) :: (.int 0) :: (.int 0) :: (.int 0) :: (.int 0) :: (.int 0) :: (.int 0) :: (.int 0) :: (.int 0) :: (.int 0) :: (.int 0) :: (.int 0) :: (.int 0) :: (.long 0) :: (.int 0) :: (.int 0) :: (.int 0) :: (.ref q7) :: (.ref q8) :: (.ref q9) :: (.ref q10) :: (.ref q11) :: (.ref q12) :: (.ref q13) :: (.ref q14) :: (.ref q15) :: (.ref q16) :: (.int (-1)) :: (.int 0) :: (.ref q17) :: (.ref q18) :: (.ref q19) :: (.ref q20) :: []))) :: (q1, .inl (dA 0, 960, .inl (upd (upd (upd (upd (upd (upd (upd (upd ((upd (upd (upd (upd (upd (upd (upd (upd ((upd (upd (upd (upd (upd (upd (upd (upd ((upd (upd (upd (upd (upd (upd (upd (upd ((fun _ => 0)) 0 (101)) 1 (97)) 2 (115)) 3 (101)) 4 (115)) 5 (32)) 6 (49)) 7 (53))) 8 (32)) 9 (59)) 10 (32)) 11 (102)) 12 (105)) 13 (110)) 14 (101)) 15 (115))) 16 (32)) 17 (53)) 18 (32)) 19 (59)) 20 (32)) 21 (99)) 22 (111)) 23 (115))) 24 (116)) 25 (115)) 26 (32)) 27 (51)) 28 (32)) 29 (59)) 30 (32)) 31 (32)))) :: []) H locs := hw
  refine W.widen (k := 20) (n := 2245) (Nat.le_of_ble_eq_true rfl) (Nat.le_of_ble_eq_true rfl) ?_
  exact W.vret hx hb hr (fun t ht hW => ⟨⟨_, rfl, ⟨fun i => ab_nth 0 [h0, q1, q2, q3, q4, q5, q6, q7, q8, q9, q10, q11, q12, q13, q14, q15, q16, q17, q18, q19, q20] i, rfl, rfl⟩, by rw [ht]; exact hw.1, hw.2.1⟩, hw.2.2.F ht⟩) hw.2.2.2.2 de_M_init_294
