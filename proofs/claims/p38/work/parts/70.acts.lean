theorem dL_acts_0 : decode cL_acts 0 = .ok (.iload_n 3, 1) := by decide +kernel
theorem dL_acts_1 : decode cL_acts 1 = .ok (.aload_n 0, 1) := by decide +kernel
theorem dL_acts_2 : decode cL_acts 2 = .ok (.getfield 167, 3) := by decide +kernel
theorem dL_acts_5 : decode cL_acts 5 = .ok (.irem, 1) := by decide +kernel
theorem dL_acts_6 : decode cL_acts 6 = .ok (.istore 5, 2) := by decide +kernel
theorem dL_acts_8 : decode cL_acts 8 = .ok (.iload 4, 2) := by decide +kernel
theorem dL_acts_10 : decode cL_acts 10 = .ok (.aload_n 0, 1) := by decide +kernel
theorem dL_acts_11 : decode cL_acts 11 = .ok (.getfield 167, 3) := by decide +kernel
theorem dL_acts_14 : decode cL_acts 14 = .ok (.irem, 1) := by decide +kernel
theorem dL_acts_15 : decode cL_acts 15 = .ok (.istore 6, 2) := by decide +kernel
theorem dL_acts_17 : decode cL_acts 17 = .ok (.iload_n 2, 1) := by decide +kernel
theorem dL_acts_18 : decode cL_acts 18 = .ok (.ifCond .ne 91, 3) := by decide +kernel
theorem dL_acts_21 : decode cL_acts 21 = .ok (.aload_n 0, 1) := by decide +kernel
theorem dL_acts_22 : decode cL_acts 22 = .ok (.getfield 167, 3) := by decide +kernel
theorem dL_acts_25 : decode cL_acts 25 = .ok (.bipush 6, 2) := by decide +kernel
theorem dL_acts_27 : decode cL_acts 27 = .ok (.if_icmp .eq 9, 3) := by decide +kernel
theorem dL_acts_36 : decode cL_acts 36 = .ok (.aload_n 0, 1) := by decide +kernel
theorem dL_acts_37 : decode cL_acts 37 = .ok (.getfield 164, 3) := by decide +kernel
theorem dL_acts_40 : decode cL_acts 40 = .ok (.istore 7, 2) := by decide +kernel
theorem dL_acts_42 : decode cL_acts 42 = .ok (.iload 7, 2) := by decide +kernel
theorem dL_acts_44 : decode cL_acts 44 = .ok (.iload 5, 2) := by decide +kernel
theorem dL_acts_46 : decode cL_acts 46 = .ok (.if_icmp .eq 7, 3) := by decide +kernel
theorem dL_acts_53 : decode cL_acts 53 = .ok (.aload_n 0, 1) := by decide +kernel
theorem dL_acts_54 : decode cL_acts 54 = .ok (.iload 5, 2) := by decide +kernel
theorem dL_acts_56 : decode cL_acts 56 = .ok (.putfield 164, 3) := by decide +kernel
theorem dL_acts_59 : decode cL_acts 59 = .ok (.aload_n 1, 1) := by decide +kernel
theorem dL_acts_60 : decode cL_acts 60 = .ok (.iload 5, 2) := by decide +kernel
theorem dL_acts_62 : decode cL_acts 62 = .ok (.invokestatic 174, 3) := by decide +kernel
theorem q_770 : (Jvm.Cond.codeWith ({ cls := "ChipfoldLaw", name := "setSink", desc := "(LChipfold;I)I" } : Jvm.MethodName) method_8_code (3 : Nat) (Option.some Jvm.ClassFile.FieldType.int) [((0 : Nat), (5 : Nat), (6 : Nat), (55 : Nat))]) ∈ WG := wg_2 (List.mem_of_getElem? (i := 176) (by decide +kernel)) (by decide +kernel)
theorem q_771 : (Jvm.Cond.methodLink "ChipfoldLaw" (174 : Nat) ({ cls := "ChipfoldLaw", name := "setSink", desc := "(LChipfold;I)I" } : Jvm.MethodName)) ∈ WG := wg_2 (List.mem_of_getElem? (i := 174) (by decide +kernel)) (by decide +kernel)
theorem q_772 : (Jvm.Cond.static ({ cls := "ChipfoldLaw", name := "setSink", desc := "(LChipfold;I)I" } : Jvm.MethodName)) ∈ WG := wg_2 (List.mem_of_getElem? (i := 175) (by decide +kernel)) (by decide +kernel)
theorem dL_acts_65 : decode cL_acts 65 = .ok (.iload 7, 2) := by decide +kernel
theorem dL_acts_67 : decode cL_acts 67 = .ok (.if_icmp .ne 7, 3) := by decide +kernel
theorem dL_acts_70 : decode cL_acts 70 = .ok (.iconst 1, 1) := by decide +kernel
theorem dL_acts_71 : decode cL_acts 71 = .ok (.goto 4, 3) := by decide +kernel
theorem dL_acts_75 : decode cL_acts 75 = .ok (.ireturn, 1) := by decide +kernel
theorem dL_acts_30 : decode cL_acts 30 = .ok (.iload_n 3, 1) := by decide +kernel
theorem dL_acts_31 : decode cL_acts 31 = .ok (.iconst 3, 1) := by decide +kernel
theorem dL_acts_32 : decode cL_acts 32 = .ok (.irem, 1) := by decide +kernel
theorem dL_acts_33 : decode cL_acts 33 = .ok (.ifCond .le 43, 3) := by decide +kernel
theorem dL_acts_49 : decode cL_acts 49 = .ok (.aload_n 0, 1) := by decide +kernel
theorem dL_acts_50 : decode cL_acts 50 = .ok (.invokevirtual 171, 3) := by decide +kernel
theorem q_773 : (Jvm.Cond.code ({ cls := "ChipfoldLaw", name := "clear", desc := "()V" } : Jvm.MethodName) method_35_code (6 : Nat) (Option.none : Option Jvm.ClassFile.FieldType)) ∈ WG := wg_2 (List.mem_of_getElem? (i := 172) rfl) rfl
theorem q_774 : (Jvm.Cond.selects "ChipfoldLaw" ({ cls := "ChipfoldLaw", name := "clear", desc := "()V" } : Jvm.MethodName) ({ cls := "ChipfoldLaw", name := "clear", desc := "()V" } : Jvm.MethodName)) ∈ WG := wg_0 (by decide +kernel) (by decide +kernel)
theorem q_775 : (Jvm.Cond.methodLink "ChipfoldLaw" (171 : Nat) ({ cls := "ChipfoldLaw", name := "clear", desc := "()V" } : Jvm.MethodName)) ∈ WG := wg_2 (List.mem_of_getElem? (i := 169) (by decide +kernel)) (by decide +kernel)
theorem q_776 : (Jvm.Cond.instanceMethod ({ cls := "ChipfoldLaw", name := "clear", desc := "()V" } : Jvm.MethodName)) ∈ WG := wg_2 (List.mem_of_getElem? (i := 171) (by decide +kernel)) (by decide +kernel)
theorem dL_acts_76 : decode cL_acts 76 = .ok (.aload_n 0, 1) := by decide +kernel
theorem dL_acts_77 : decode cL_acts 77 = .ok (.dup, 1) := by decide +kernel
theorem dL_acts_78 : decode cL_acts 78 = .ok (.getfield 167, 3) := by decide +kernel
theorem dL_acts_81 : decode cL_acts 81 = .ok (.iconst 1, 1) := by decide +kernel
theorem dL_acts_82 : decode cL_acts 82 = .ok (.iadd, 1) := by decide +kernel
theorem dL_acts_83 : decode cL_acts 83 = .ok (.putfield 167, 3) := by decide +kernel
theorem dL_acts_86 : decode cL_acts 86 = .ok (.aload_n 0, 1) := by decide +kernel
theorem dL_acts_87 : decode cL_acts 87 = .ok (.invokevirtual 171, 3) := by decide +kernel
theorem dL_acts_90 : decode cL_acts 90 = .ok (.aload_n 1, 1) := by decide +kernel
theorem dL_acts_91 : decode cL_acts 91 = .ok (.invokestatic 177, 3) := by decide +kernel
theorem q_777 : (Jvm.Cond.codeWith ({ cls := "ChipfoldLaw", name := "vertex", desc := "(LChipfold;)I" } : Jvm.MethodName) method_6_code (2 : Nat) (Option.some Jvm.ClassFile.FieldType.int) [((0 : Nat), (4 : Nat), (5 : Nat), (49 : Nat))]) ∈ WG := wg_2 (List.mem_of_getElem? (i := 57) (by decide +kernel)) (by decide +kernel)
theorem q_778 : (Jvm.Cond.methodLink "ChipfoldLaw" (177 : Nat) ({ cls := "ChipfoldLaw", name := "vertex", desc := "(LChipfold;)I" } : Jvm.MethodName)) ∈ WG := wg_2 (List.mem_of_getElem? (i := 55) (by decide +kernel)) (by decide +kernel)
theorem q_779 : (Jvm.Cond.static ({ cls := "ChipfoldLaw", name := "vertex", desc := "(LChipfold;)I" } : Jvm.MethodName)) ∈ WG := wg_2 (List.mem_of_getElem? (i := 56) (by decide +kernel)) (by decide +kernel)
theorem dL_acts_94 : decode cL_acts 94 = .ok (.aload_n 0, 1) := by decide +kernel
theorem dL_acts_95 : decode cL_acts 95 = .ok (.getfield 167, 3) := by decide +kernel
theorem dL_acts_98 : decode cL_acts 98 = .ok (.iconst 1, 1) := by decide +kernel
theorem dL_acts_99 : decode cL_acts 99 = .ok (.isub, 1) := by decide +kernel
theorem dL_acts_100 : decode cL_acts 100 = .ok (.if_icmp .ne 7, 3) := by decide +kernel
theorem dL_acts_103 : decode cL_acts 103 = .ok (.iconst 1, 1) := by decide +kernel
theorem dL_acts_104 : decode cL_acts 104 = .ok (.goto 4, 3) := by decide +kernel
theorem dL_acts_108 : decode cL_acts 108 = .ok (.ireturn, 1) := by decide +kernel
theorem dL_acts_109 : decode cL_acts 109 = .ok (.iload_n 2, 1) := by decide +kernel
theorem dL_acts_110 : decode cL_acts 110 = .ok (.iconst 3, 1) := by decide +kernel
theorem dL_acts_111 : decode cL_acts 111 = .ok (.if_icmp .ge 117, 3) := by decide +kernel
theorem dL_acts_114 : decode cL_acts 114 = .ok (.aload_n 1, 1) := by decide +kernel
theorem dL_acts_115 : decode cL_acts 115 = .ok (.iload 5, 2) := by decide +kernel
theorem dL_acts_117 : decode cL_acts 117 = .ok (.iload 6, 2) := by decide +kernel
theorem dL_acts_119 : decode cL_acts 119 = .ok (.iload 4, 2) := by decide +kernel
theorem dL_acts_121 : decode cL_acts 121 = .ok (.bipush 6, 2) := by decide +kernel
theorem dL_acts_123 : decode cL_acts 123 = .ok (.idiv, 1) := by decide +kernel
theorem dL_acts_124 : decode cL_acts 124 = .ok (.iconst 4, 1) := by decide +kernel
theorem dL_acts_125 : decode cL_acts 125 = .ok (.irem, 1) := by decide +kernel
theorem dL_acts_126 : decode cL_acts 126 = .ok (.invokestatic 180, 3) := by decide +kernel
theorem q_780 : (Jvm.Cond.codeWith ({ cls := "ChipfoldLaw", name := "edges", desc := "(LChipfold;III)I" } : Jvm.MethodName) method_7_code (5 : Nat) (Option.some Jvm.ClassFile.FieldType.int) [((0 : Nat), (7 : Nat), (8 : Nat), (55 : Nat)), ((0 : Nat), (7 : Nat), (13 : Nat), (57 : Nat))]) ∈ WG := wg_2 (List.mem_of_getElem? (i := 236) (by decide +kernel)) (by decide +kernel)
theorem q_781 : (Jvm.Cond.methodLink "ChipfoldLaw" (180 : Nat) ({ cls := "ChipfoldLaw", name := "edges", desc := "(LChipfold;III)I" } : Jvm.MethodName)) ∈ WG := wg_2 (List.mem_of_getElem? (i := 234) (by decide +kernel)) (by decide +kernel)
theorem q_782 : (Jvm.Cond.static ({ cls := "ChipfoldLaw", name := "edges", desc := "(LChipfold;III)I" } : Jvm.MethodName)) ∈ WG := wg_2 (List.mem_of_getElem? (i := 235) (by decide +kernel)) (by decide +kernel)
theorem dL_acts_129 : decode cL_acts 129 = .ok (.istore 7, 2) := by decide +kernel
theorem dL_acts_131 : decode cL_acts 131 = .ok (.iload 5, 2) := by decide +kernel
theorem dL_acts_133 : decode cL_acts 133 = .ok (.iload 6, 2) := by decide +kernel
theorem dL_acts_135 : decode cL_acts 135 = .ok (.if_icmp .ne 18, 3) := by decide +kernel
theorem dL_acts_138 : decode cL_acts 138 = .ok (.iload 7, 2) := by decide +kernel
theorem dL_acts_140 : decode cL_acts 140 = .ok (.iconst 2, 1) := by decide +kernel
theorem dL_acts_141 : decode cL_acts 141 = .ok (.invokestatic 183, 3) := by decide +kernel
theorem dL_acts_144 : decode cL_acts 144 = .ok (.if_icmp .ne 7, 3) := by decide +kernel
theorem dL_acts_147 : decode cL_acts 147 = .ok (.iconst 1, 1) := by decide +kernel
theorem dL_acts_148 : decode cL_acts 148 = .ok (.goto 4, 3) := by decide +kernel
theorem dL_acts_152 : decode cL_acts 152 = .ok (.ireturn, 1) := by decide +kernel
theorem dL_acts_153 : decode cL_acts 153 = .ok (.aload_n 0, 1) := by decide +kernel
theorem dL_acts_154 : decode cL_acts 154 = .ok (.getfield 9, 3) := by decide +kernel
theorem dL_acts_157 : decode cL_acts 157 = .ok (.iload 5, 2) := by decide +kernel
theorem dL_acts_159 : decode cL_acts 159 = .ok (.aaload, 1) := by decide +kernel
theorem dL_acts_160 : decode cL_acts 160 = .ok (.iload 6, 2) := by decide +kernel
theorem dL_acts_162 : decode cL_acts 162 = .ok (.iaload, 1) := by decide +kernel
theorem dL_acts_163 : decode cL_acts 163 = .ok (.istore 8, 2) := by decide +kernel
theorem dL_acts_165 : decode cL_acts 165 = .ok (.aload_n 0, 1) := by decide +kernel
theorem dL_acts_166 : decode cL_acts 166 = .ok (.getfield 9, 3) := by decide +kernel
theorem dL_acts_169 : decode cL_acts 169 = .ok (.iload 5, 2) := by decide +kernel
theorem dL_acts_171 : decode cL_acts 171 = .ok (.aaload, 1) := by decide +kernel
theorem dL_acts_172 : decode cL_acts 172 = .ok (.iload 6, 2) := by decide +kernel
theorem dL_acts_174 : decode cL_acts 174 = .ok (.iload 4, 2) := by decide +kernel
theorem dL_acts_176 : decode cL_acts 176 = .ok (.bipush 6, 2) := by decide +kernel
theorem dL_acts_178 : decode cL_acts 178 = .ok (.idiv, 1) := by decide +kernel
theorem dL_acts_179 : decode cL_acts 179 = .ok (.iconst 4, 1) := by decide +kernel
theorem dL_acts_180 : decode cL_acts 180 = .ok (.irem, 1) := by decide +kernel
theorem dL_acts_181 : decode cL_acts 181 = .ok (.iastore, 1) := by decide +kernel
theorem dL_acts_182 : decode cL_acts 182 = .ok (.aload_n 0, 1) := by decide +kernel
theorem dL_acts_183 : decode cL_acts 183 = .ok (.getfield 9, 3) := by decide +kernel
theorem dL_acts_186 : decode cL_acts 186 = .ok (.iload 6, 2) := by decide +kernel
theorem dL_acts_188 : decode cL_acts 188 = .ok (.aaload, 1) := by decide +kernel
theorem dL_acts_189 : decode cL_acts 189 = .ok (.iload 5, 2) := by decide +kernel
theorem dL_acts_191 : decode cL_acts 191 = .ok (.iload 4, 2) := by decide +kernel
theorem dL_acts_193 : decode cL_acts 193 = .ok (.bipush 6, 2) := by decide +kernel
theorem dL_acts_195 : decode cL_acts 195 = .ok (.idiv, 1) := by decide +kernel
theorem dL_acts_196 : decode cL_acts 196 = .ok (.iconst 4, 1) := by decide +kernel
theorem dL_acts_197 : decode cL_acts 197 = .ok (.irem, 1) := by decide +kernel
theorem dL_acts_198 : decode cL_acts 198 = .ok (.iastore, 1) := by decide +kernel
theorem dL_acts_199 : decode cL_acts 199 = .ok (.iload 8, 2) := by decide +kernel
theorem dL_acts_201 : decode cL_acts 201 = .ok (.iload 4, 2) := by decide +kernel
theorem dL_acts_203 : decode cL_acts 203 = .ok (.bipush 6, 2) := by decide +kernel
theorem dL_acts_205 : decode cL_acts 205 = .ok (.idiv, 1) := by decide +kernel
theorem dL_acts_206 : decode cL_acts 206 = .ok (.iconst 4, 1) := by decide +kernel
theorem dL_acts_207 : decode cL_acts 207 = .ok (.irem, 1) := by decide +kernel
theorem dL_acts_208 : decode cL_acts 208 = .ok (.if_icmp .eq 7, 3) := by decide +kernel
theorem dL_acts_215 : decode cL_acts 215 = .ok (.iload 7, 2) := by decide +kernel
theorem dL_acts_217 : decode cL_acts 217 = .ok (.iload 8, 2) := by decide +kernel
theorem dL_acts_219 : decode cL_acts 219 = .ok (.if_icmp .ne 7, 3) := by decide +kernel
theorem dL_acts_222 : decode cL_acts 222 = .ok (.iconst 1, 1) := by decide +kernel
theorem dL_acts_223 : decode cL_acts 223 = .ok (.goto 4, 3) := by decide +kernel
theorem dL_acts_227 : decode cL_acts 227 = .ok (.ireturn, 1) := by decide +kernel
theorem dL_acts_211 : decode cL_acts 211 = .ok (.aload_n 0, 1) := by decide +kernel
theorem dL_acts_212 : decode cL_acts 212 = .ok (.invokevirtual 171, 3) := by decide +kernel
theorem dL_acts_228 : decode cL_acts 228 = .ok (.iload_n 2, 1) := by decide +kernel
theorem dL_acts_229 : decode cL_acts 229 = .ok (.bipush 8, 2) := by decide +kernel
theorem dL_acts_231 : decode cL_acts 231 = .ok (.if_icmp .ge 81, 3) := by decide +kernel
theorem dL_acts_234 : decode cL_acts 234 = .ok (.aload_n 1, 1) := by decide +kernel
theorem dL_acts_235 : decode cL_acts 235 = .ok (.iload 5, 2) := by decide +kernel
theorem dL_acts_237 : decode cL_acts 237 = .ok (.iconst 1, 1) := by decide +kernel
theorem dL_acts_238 : decode cL_acts 238 = .ok (.iload 4, 2) := by decide +kernel
theorem dL_acts_240 : decode cL_acts 240 = .ok (.bipush 30, 2) := by decide +kernel
theorem dL_acts_242 : decode cL_acts 242 = .ok (.irem, 1) := by decide +kernel
theorem dL_acts_243 : decode cL_acts 243 = .ok (.iadd, 1) := by decide +kernel
theorem dL_acts_244 : decode cL_acts 244 = .ok (.invokestatic 186, 3) := by decide +kernel
theorem q_783 : (Jvm.Cond.codeWith ({ cls := "ChipfoldLaw", name := "put", desc := "(LChipfold;II)I" } : Jvm.MethodName) method_10_code (4 : Nat) (Option.some Jvm.ClassFile.FieldType.int) [((0 : Nat), (6 : Nat), (7 : Nat), (55 : Nat)), ((0 : Nat), (6 : Nat), (11 : Nat), (57 : Nat)), ((0 : Nat), (6 : Nat), (15 : Nat), (49 : Nat))]) ∈ WG := wg_3 (List.mem_of_getElem? (i := 38) (by decide +kernel)) (by decide +kernel)
theorem q_784 : (Jvm.Cond.methodLink "ChipfoldLaw" (186 : Nat) ({ cls := "ChipfoldLaw", name := "put", desc := "(LChipfold;II)I" } : Jvm.MethodName)) ∈ WG := wg_3 (List.mem_of_getElem? (i := 36) (by decide +kernel)) (by decide +kernel)
theorem q_785 : (Jvm.Cond.static ({ cls := "ChipfoldLaw", name := "put", desc := "(LChipfold;II)I" } : Jvm.MethodName)) ∈ WG := wg_3 (List.mem_of_getElem? (i := 37) (by decide +kernel)) (by decide +kernel)
theorem dL_acts_247 : decode cL_acts 247 = .ok (.istore 7, 2) := by decide +kernel
theorem dL_acts_249 : decode cL_acts 249 = .ok (.iload 5, 2) := by decide +kernel
theorem dL_acts_251 : decode cL_acts 251 = .ok (.aload_n 0, 1) := by decide +kernel
theorem dL_acts_252 : decode cL_acts 252 = .ok (.getfield 164, 3) := by decide +kernel
theorem dL_acts_255 : decode cL_acts 255 = .ok (.if_icmp .ne 22, 3) := by decide +kernel
theorem dL_acts_258 : decode cL_acts 258 = .ok (.aload_n 0, 1) := by decide +kernel
theorem dL_acts_259 : decode cL_acts 259 = .ok (.dup, 1) := by decide +kernel
theorem dL_acts_260 : decode cL_acts 260 = .ok (.getfield 160, 3) := by decide +kernel
theorem dL_acts_263 : decode cL_acts 263 = .ok (.iconst 1, 1) := by decide +kernel
theorem dL_acts_264 : decode cL_acts 264 = .ok (.iload 4, 2) := by decide +kernel
theorem dL_acts_266 : decode cL_acts 266 = .ok (.bipush 30, 2) := by decide +kernel
theorem dL_acts_268 : decode cL_acts 268 = .ok (.irem, 1) := by decide +kernel
theorem dL_acts_269 : decode cL_acts 269 = .ok (.iadd, 1) := by decide +kernel
theorem dL_acts_270 : decode cL_acts 270 = .ok (.iadd, 1) := by decide +kernel
theorem dL_acts_271 : decode cL_acts 271 = .ok (.putfield 160, 3) := by decide +kernel
theorem dL_acts_274 : decode cL_acts 274 = .ok (.goto 20, 3) := by decide +kernel
theorem dL_acts_294 : decode cL_acts 294 = .ok (.iload 7, 2) := by decide +kernel
theorem dL_acts_296 : decode cL_acts 296 = .ok (.aload_n 0, 1) := by decide +kernel
theorem dL_acts_297 : decode cL_acts 297 = .ok (.getfield 14, 3) := by decide +kernel
theorem dL_acts_300 : decode cL_acts 300 = .ok (.iload 5, 2) := by decide +kernel
theorem dL_acts_302 : decode cL_acts 302 = .ok (.iaload, 1) := by decide +kernel
theorem dL_acts_303 : decode cL_acts 303 = .ok (.if_icmp .ne 7, 3) := by decide +kernel
theorem dL_acts_306 : decode cL_acts 306 = .ok (.iconst 1, 1) := by decide +kernel
theorem dL_acts_307 : decode cL_acts 307 = .ok (.goto 4, 3) := by decide +kernel
theorem dL_acts_311 : decode cL_acts 311 = .ok (.ireturn, 1) := by decide +kernel
theorem dL_acts_277 : decode cL_acts 277 = .ok (.aload_n 0, 1) := by decide +kernel
theorem dL_acts_278 : decode cL_acts 278 = .ok (.getfield 14, 3) := by decide +kernel
theorem dL_acts_281 : decode cL_acts 281 = .ok (.iload 5, 2) := by decide +kernel
theorem dL_acts_283 : decode cL_acts 283 = .ok (.dup2, 1) := by decide +kernel
theorem dL_acts_284 : decode cL_acts 284 = .ok (.iaload, 1) := by decide +kernel
theorem dL_acts_285 : decode cL_acts 285 = .ok (.iconst 1, 1) := by decide +kernel
theorem dL_acts_286 : decode cL_acts 286 = .ok (.iload 4, 2) := by decide +kernel
theorem dL_acts_288 : decode cL_acts 288 = .ok (.bipush 30, 2) := by decide +kernel
theorem dL_acts_290 : decode cL_acts 290 = .ok (.irem, 1) := by decide +kernel
theorem dL_acts_291 : decode cL_acts 291 = .ok (.iadd, 1) := by decide +kernel
theorem dL_acts_292 : decode cL_acts 292 = .ok (.iadd, 1) := by decide +kernel
theorem dL_acts_293 : decode cL_acts 293 = .ok (.iastore, 1) := by decide +kernel
theorem dL_acts_312 : decode cL_acts 312 = .ok (.iload_n 2, 1) := by decide +kernel
theorem dL_acts_313 : decode cL_acts 313 = .ok (.bipush 8, 2) := by decide +kernel
theorem dL_acts_315 : decode cL_acts 315 = .ok (.if_icmp .ne 145, 3) := by decide +kernel
theorem dL_acts_318 : decode cL_acts 318 = .ok (.aload_n 1, 1) := by decide +kernel
theorem dL_acts_319 : decode cL_acts 319 = .ok (.iload 5, 2) := by decide +kernel
theorem dL_acts_321 : decode cL_acts 321 = .ok (.invokestatic 189, 3) := by decide +kernel
theorem q_786 : (Jvm.Cond.codeWith ({ cls := "ChipfoldLaw", name := "topple", desc := "(LChipfold;I)I" } : Jvm.MethodName) method_12_code (3 : Nat) (Option.some Jvm.ClassFile.FieldType.int) [((0 : Nat), (5 : Nat), (6 : Nat), (55 : Nat)), ((0 : Nat), (5 : Nat), (10 : Nat), (77 : Nat))]) ∈ WG := wg_3 (List.mem_of_getElem? (i := 69) (by decide +kernel)) (by decide +kernel)
theorem q_787 : (Jvm.Cond.methodLink "ChipfoldLaw" (189 : Nat) ({ cls := "ChipfoldLaw", name := "topple", desc := "(LChipfold;I)I" } : Jvm.MethodName)) ∈ WG := wg_3 (List.mem_of_getElem? (i := 67) (by decide +kernel)) (by decide +kernel)
theorem q_788 : (Jvm.Cond.static ({ cls := "ChipfoldLaw", name := "topple", desc := "(LChipfold;I)I" } : Jvm.MethodName)) ∈ WG := wg_3 (List.mem_of_getElem? (i := 68) (by decide +kernel)) (by decide +kernel)
theorem dL_acts_324 : decode cL_acts 324 = .ok (.istore 7, 2) := by decide +kernel
theorem dL_acts_326 : decode cL_acts 326 = .ok (.iload 5, 2) := by decide +kernel
theorem dL_acts_328 : decode cL_acts 328 = .ok (.aload_n 0, 1) := by decide +kernel
theorem dL_acts_329 : decode cL_acts 329 = .ok (.getfield 164, 3) := by decide +kernel
theorem dL_acts_332 : decode cL_acts 332 = .ok (.if_icmp .eq 28, 3) := by decide +kernel
theorem dL_acts_360 : decode cL_acts 360 = .ok (.iload 7, 2) := by decide +kernel
theorem dL_acts_362 : decode cL_acts 362 = .ok (.iconst 2, 1) := by decide +kernel
theorem dL_acts_363 : decode cL_acts 363 = .ok (.invokestatic 183, 3) := by decide +kernel
theorem dL_acts_366 : decode cL_acts 366 = .ok (.if_icmp .ne 7, 3) := by decide +kernel
theorem dL_acts_369 : decode cL_acts 369 = .ok (.iconst 1, 1) := by decide +kernel
theorem dL_acts_370 : decode cL_acts 370 = .ok (.goto 4, 3) := by decide +kernel
theorem dL_acts_374 : decode cL_acts 374 = .ok (.ireturn, 1) := by decide +kernel
theorem dL_acts_335 : decode cL_acts 335 = .ok (.aload_n 0, 1) := by decide +kernel
theorem dL_acts_336 : decode cL_acts 336 = .ok (.iload 5, 2) := by decide +kernel
theorem dL_acts_338 : decode cL_acts 338 = .ok (.invokevirtual 170, 3) := by decide +kernel
theorem dL_acts_341 : decode cL_acts 341 = .ok (.ifCond .eq 19, 3) := by decide +kernel
theorem dL_acts_344 : decode cL_acts 344 = .ok (.aload_n 0, 1) := by decide +kernel
theorem dL_acts_345 : decode cL_acts 345 = .ok (.getfield 14, 3) := by decide +kernel
theorem dL_acts_348 : decode cL_acts 348 = .ok (.iload 5, 2) := by decide +kernel
theorem dL_acts_350 : decode cL_acts 350 = .ok (.iaload, 1) := by decide +kernel
theorem dL_acts_351 : decode cL_acts 351 = .ok (.aload_n 0, 1) := by decide +kernel
theorem dL_acts_352 : decode cL_acts 352 = .ok (.iload 5, 2) := by decide +kernel
theorem dL_acts_354 : decode cL_acts 354 = .ok (.invokevirtual 170, 3) := by decide +kernel
theorem dL_acts_357 : decode cL_acts 357 = .ok (.if_icmp .ge 18, 3) := by decide +kernel
theorem dL_acts_375 : decode cL_acts 375 = .ok (.aload_n 0, 1) := by decide +kernel
theorem dL_acts_376 : decode cL_acts 376 = .ok (.getfield 14, 3) := by decide +kernel
theorem dL_acts_379 : decode cL_acts 379 = .ok (.iload 5, 2) := by decide +kernel
theorem dL_acts_381 : decode cL_acts 381 = .ok (.dup2, 1) := by decide +kernel
theorem dL_acts_382 : decode cL_acts 382 = .ok (.iaload, 1) := by decide +kernel
theorem dL_acts_383 : decode cL_acts 383 = .ok (.aload_n 0, 1) := by decide +kernel
theorem dL_acts_384 : decode cL_acts 384 = .ok (.iload 5, 2) := by decide +kernel
theorem dL_acts_386 : decode cL_acts 386 = .ok (.invokevirtual 170, 3) := by decide +kernel
theorem dL_acts_389 : decode cL_acts 389 = .ok (.isub, 1) := by decide +kernel
theorem dL_acts_390 : decode cL_acts 390 = .ok (.iastore, 1) := by decide +kernel
theorem dL_acts_391 : decode cL_acts 391 = .ok (.iconst 0, 1) := by decide +kernel
theorem dL_acts_392 : decode cL_acts 392 = .ok (.istore 8, 2) := by decide +kernel
theorem dL_acts_394 : decode cL_acts 394 = .ok (.iload 8, 2) := by decide +kernel
theorem dL_acts_396 : decode cL_acts 396 = .ok (.bipush 6, 2) := by decide +kernel
theorem dL_acts_398 : decode cL_acts 398 = .ok (.if_icmp .ge 29, 3) := by decide +kernel
theorem dL_acts_427 : decode cL_acts 427 = .ok (.aload_n 0, 1) := by decide +kernel
theorem dL_acts_428 : decode cL_acts 428 = .ok (.getfield 18, 3) := by decide +kernel
theorem dL_acts_431 : decode cL_acts 431 = .ok (.iload 5, 2) := by decide +kernel
theorem dL_acts_433 : decode cL_acts 433 = .ok (.dup2, 1) := by decide +kernel
theorem dL_acts_434 : decode cL_acts 434 = .ok (.iaload, 1) := by decide +kernel
theorem dL_acts_435 : decode cL_acts 435 = .ok (.iconst 1, 1) := by decide +kernel
theorem dL_acts_436 : decode cL_acts 436 = .ok (.iadd, 1) := by decide +kernel
theorem dL_acts_437 : decode cL_acts 437 = .ok (.iastore, 1) := by decide +kernel
theorem dL_acts_438 : decode cL_acts 438 = .ok (.aload_n 0, 1) := by decide +kernel
theorem dL_acts_439 : decode cL_acts 439 = .ok (.invokevirtual 191, 3) := by decide +kernel
theorem dL_acts_442 : decode cL_acts 442 = .ok (.iload 7, 2) := by decide +kernel
theorem dL_acts_444 : decode cL_acts 444 = .ok (.aload_n 0, 1) := by decide +kernel
theorem dL_acts_445 : decode cL_acts 445 = .ok (.getfield 14, 3) := by decide +kernel
theorem dL_acts_448 : decode cL_acts 448 = .ok (.iload 5, 2) := by decide +kernel
theorem dL_acts_450 : decode cL_acts 450 = .ok (.iaload, 1) := by decide +kernel
theorem dL_acts_451 : decode cL_acts 451 = .ok (.if_icmp .ne 7, 3) := by decide +kernel
theorem dL_acts_454 : decode cL_acts 454 = .ok (.iconst 1, 1) := by decide +kernel
theorem dL_acts_455 : decode cL_acts 455 = .ok (.goto 4, 3) := by decide +kernel
theorem dL_acts_459 : decode cL_acts 459 = .ok (.ireturn, 1) := by decide +kernel
theorem dL_acts_401 : decode cL_acts 401 = .ok (.aload_n 0, 1) := by decide +kernel
theorem dL_acts_402 : decode cL_acts 402 = .ok (.getfield 14, 3) := by decide +kernel
theorem dL_acts_405 : decode cL_acts 405 = .ok (.iload 8, 2) := by decide +kernel
theorem dL_acts_407 : decode cL_acts 407 = .ok (.dup2, 1) := by decide +kernel
theorem dL_acts_408 : decode cL_acts 408 = .ok (.iaload, 1) := by decide +kernel
theorem dL_acts_409 : decode cL_acts 409 = .ok (.aload_n 0, 1) := by decide +kernel
theorem dL_acts_410 : decode cL_acts 410 = .ok (.getfield 9, 3) := by decide +kernel
theorem dL_acts_413 : decode cL_acts 413 = .ok (.iload 5, 2) := by decide +kernel
theorem dL_acts_415 : decode cL_acts 415 = .ok (.aaload, 1) := by decide +kernel
theorem dL_acts_416 : decode cL_acts 416 = .ok (.iload 8, 2) := by decide +kernel
theorem dL_acts_418 : decode cL_acts 418 = .ok (.iaload, 1) := by decide +kernel
theorem dL_acts_419 : decode cL_acts 419 = .ok (.iadd, 1) := by decide +kernel
theorem dL_acts_420 : decode cL_acts 420 = .ok (.iastore, 1) := by decide +kernel
theorem dL_acts_421 : decode cL_acts 421 = .ok (.iinc 8 1, 3) := by decide +kernel
theorem dL_acts_424 : decode cL_acts 424 = .ok (.goto (-30), 3) := by decide +kernel
set_option maxRecDepth 100000 in
set_option maxHeartbeats 400000 in
theorem c_L_acts_k0s {l : Launch} {D : va_G} {k : Nat → ClassId} (o : Nat) (h : Nat) (pp : Nat) (x2 : Nat) (x3 : Nat) (x4 : Nat) (o2 : Nat) (o4 : Nat) (o9 : Nat) (o7 : Nat) (o0 : Nat) (o1 : Nat) (jj : Nat) (dd : Nat) (n : Nat) (z : Nat) (fj : Nat → Int32) (fd : Nat → Int32) (lo : Nat) (eo : Nat) (e1 : Nat) (e2 : Nat) (e3 : Nat) (e4 : Nat) (e5 : Nat) (tk : Int32) (E : Nat → Nat → Nat) (kd : Nat) (av : Nat) (aw : Nat) (v : Nat) (u : Nat) (hn : n ≤ 6) (hz : z < n) (hE3 : ∀ i j, E i j ≤ 3) (hav : av % n = v) (haw : aw % n = u) (hv : v < n) (hu : u < n) (hb1 : av ≤ 9000) (hb2 : aw ≤ 9000) (hk : kd = 0) (hs3 : n = 6 ∨ ¬ av % 3 = 0) (hzv : z = v) : CM l D k yL_acts cL_acts 9 (some .boolean)  4 86 [.ref lo, .ref o, .int (nI kd), .int (nI av), .int (nI aw)] [(o, .inr (12, [.ref h, .ref pp, .ref x2, .ref x3, .ref x4, .ref o2, .ref o4, .ref o9, .ref o7, .ref o0, .ref o1])), (h, .inr (5, [.ref jj, .ref dd, .int (nI n), .int (nI z)])), (jj, aI k 36 fj), (dd, aI k 6 fd), (lo, .inr (13, [.ref eo, .ref e1, .ref e2, .ref e3, .ref e4, .ref e5, .int (nI n), .int (nI z), .int tk]))] (is1 (some (.int 1)) [(o, .inr (12, [.ref h, .ref pp, .ref x2, .ref x3, .ref x4, .ref o2, .ref o4, .ref o9, .ref o7, .ref o0, .ref o1])), (h, .inr (5, [.ref jj, .ref dd, .int (nI n), .int (nI z)])), (jj, aI k 36 fj), (dd, aI k 6 fd), (lo, .inr (13, [.ref eo, .ref e1, .ref e2, .ref e3, .ref e4, .ref e5, .int (nI n), .int (nI z), .int tk]))]) 0 0 0 := by
  refine CM.of (lv0 := [(0, .ref lo), (1, .ref o), (2, .int (nI kd)), (3, .int (nI av)), (4, .int (nI aw))]) (by decide +kernel) (Nat.le_of_ble_eq_true rfl) rfl ?_
  intro p9 e9 s9 m9 bl9 me9 co9 C hr hlk hin had
  refine g_iload_n (pc := 0) C 3 rfl rfl dL_acts_0 ?_
  refine g_aload_n (pc := 1) C 0 rfl rfl dL_acts_1 ?_
  refine g_get (pc := 2) C (T := TXL) inXL 4 rfl rfl 6 (by decide) q_564 rfl rfl dL_acts_2 ?_
  refine g_irem (pc := 5) C (nI_ne0 (by omega) (by omega)) dL_acts_5 ?_
  refine G.eqs (st' := [.int (nI v)]) (congrArg (β := List Value) (fun z9 => [.int z9]) (show (((nI av) - (nI av) / (nI n) * (nI n)) : Int32) = (nI v) from (by rw [← hav]; exact pk_rem (by omega) (by omega) (by omega)))) ?_
  refine g_istore (pc := 6) C [(5, .int (nI v)), (0, .ref lo), (1, .ref o), (2, .int (nI kd)), (3, .int (nI av)), (4, .int (nI aw))] dL_acts_6 (by decide) rfl ?_
  refine g_iload (pc := 8) C 5 rfl dL_acts_8 ?_
  refine g_aload_n (pc := 10) C 1 rfl rfl dL_acts_10 ?_
  refine g_get (pc := 11) C (T := TXL) inXL 4 rfl rfl 6 (by decide) q_564 rfl rfl dL_acts_11 ?_
  refine g_irem (pc := 14) C (nI_ne0 (by omega) (by omega)) dL_acts_14 ?_
  refine G.eqs (st' := [.int (nI u)]) (congrArg (β := List Value) (fun z9 => [.int z9]) (show (((nI aw) - (nI aw) / (nI n) * (nI n)) : Int32) = (nI u) from (by rw [← haw]; exact pk_rem (by omega) (by omega) (by omega)))) ?_
  refine g_istore (pc := 15) C [(6, .int (nI u)), (5, .int (nI v)), (0, .ref lo), (1, .ref o), (2, .int (nI kd)), (3, .int (nI av)), (4, .int (nI aw))] dL_acts_15 (by decide) rfl ?_
  refine g_iload_n (pc := 17) C 4 rfl rfl dL_acts_17 ?_
  refine g_if_ne (pc := 18) C 109 (by decide) dL_acts_18 (fun c_18 => ?_) (fun c_18 => ?_)
  · exact absurd (by rw [hk]; rfl) c_18
  · refine g_aload_n (pc := 21) C 2 rfl rfl dL_acts_21 ?_
    refine g_get (pc := 22) C (T := TXL) inXL 4 rfl rfl 6 (by decide) q_564 rfl rfl dL_acts_22 ?_
    refine g_bipush (pc := 25) (v := 6) C (by decide) dL_acts_25 ?_
    refine g_icmp_eq (pc := 27) C 36 (by decide) dL_acts_27 (fun c_27 => ?_) (fun c_27 => ?_)
    · refine g_aload_n (pc := 36) C 2 rfl rfl dL_acts_36 ?_
      refine g_get (pc := 37) C (T := TXL) inXL 4 rfl rfl 7 (by decide) q_563 rfl rfl dL_acts_37 ?_
      refine g_istore (pc := 40) C [(7, .int (nI z)), (6, .int (nI u)), (5, .int (nI v)), (0, .ref lo), (1, .ref o), (2, .int (nI kd)), (3, .int (nI av)), (4, .int (nI aw))] dL_acts_40 (by decide) rfl ?_
      refine g_iload (pc := 42) C 0 rfl dL_acts_42 ?_
      refine g_iload (pc := 44) C 2 rfl dL_acts_44 ?_
      refine g_icmp_eq (pc := 46) C 53 (by decide) dL_acts_46 (fun c_46 => ?_) (fun c_46 => ?_)
      · refine g_aload_n (pc := 53) C 3 rfl rfl dL_acts_53 ?_
        refine g_iload (pc := 54) C 2 rfl dL_acts_54 ?_
        refine g_put (pc := 56) C (T := TXL) inXL 4 rfl rfl 7 (by decide) q_563 rfl tyXL tyXL_ok nmXL rfl [(o, .inr (12, [.ref h, .ref pp, .ref x2, .ref x3, .ref x4, .ref o2, .ref o4, .ref o9, .ref o7, .ref o0, .ref o1])), (h, .inr (5, [.ref jj, .ref dd, .int (nI n), .int (nI z)])), (jj, aI k 36 fj), (dd, aI k 6 fd), (lo, .inr (13, [.ref eo, .ref e1, .ref e2, .ref e3, .ref e4, .ref e5, .int (nI n), .int (nI v), .int tk]))] (tyXL_ok 7 (by decide)) rfl (by rfl) (Nat.le_of_ble_eq_true rfl) rfl dL_acts_56 ?_
        refine g_aload_n (pc := 59) C 4 rfl rfl dL_acts_59 ?_
        refine g_iload (pc := 60) C 2 rfl dL_acts_60 ?_
        refine g_callSW (pc := 62) (cells := 0) (slots := 0) (g := 0) (As := [.ref o, .int (nI v)]) (st := []) (b := 0) C (nA := 2) rfl (c_L_setSink_s o h pp x2 x3 x4 o2 o4 o9 o7 o0 o1 jj dd n z fj fd v (by first | assumption | decide | omega) (by first | assumption | decide | omega) (by first | assumption | decide | omega)) q_771 q_772 q_551 q_770 (by decide +kernel) dL_acts_62 ⟨Nat.le_of_ble_eq_true rfl, Nat.le_of_ble_eq_true rfl⟩ [0, 1, 2, 3] [4] rfl (wr := [(lo, .inr (13, [.ref eo, .ref e1, .ref e2, .ref e3, .ref e4, .ref e5, .int (nI n), .int (nI v), .int tk]))]) rfl (by decide) (by decide) (by decide) (Nat.le_of_ble_eq_true rfl) ⟨Nat.le_of_ble_eq_true rfl, Nat.le_of_ble_eq_true rfl⟩ (fun rv w1 h1 => ?_)
        obtain ⟨rfl, rfl⟩ := h1
        refine G.aft [1, 2, 3, 4, 0] (ws' := [(o, .inr (12, [.ref h, .ref pp, .ref x2, .ref x3, .ref x4, .ref o2, .ref o4, .ref o9, .ref o7, .ref o0, .ref o1])), (h, .inr (5, [.ref jj, .ref dd, .int (nI n), .int (nI z)])), (jj, aI k 36 fj), (dd, aI k 6 fd), (lo, .inr (13, [.ref eo, .ref e1, .ref e2, .ref e3, .ref e4, .ref e5, .int (nI n), .int (nI v), .int tk]))]) (st' := [.int (nI z)]) (cells' := 0) (slots' := 0) (g' := 0) (by decide) rfl rfl rfl rfl rfl ?_
        refine g_iload (pc := 65) C 0 rfl dL_acts_65 ?_
        refine g_icmp_ne (pc := 67) C 74 (by decide) dL_acts_67 (fun c_67 => ?_) (fun c_67 => ?_)
        · exact absurd rfl c_67
        · refine g_iconst (pc := 70) (v := 1) C (by decide) dL_acts_70 ?_
          refine g_goto (pc := 71) C 75 (by decide) dL_acts_71 ?_
          refine G.eqw (ws' := [(o, .inr (12, [.ref h, .ref pp, .ref x2, .ref x3, .ref x4, .ref o2, .ref o4, .ref o9, .ref o7, .ref o0, .ref o1])), (h, .inr (5, [.ref jj, .ref dd, .int (nI n), .int (nI z)])), (jj, aI k 36 fj), (dd, aI k 6 fd), (lo, .inr (13, [.ref eo, .ref e1, .ref e2, .ref e3, .ref e4, .ref e5, .int (nI n), .int (nI z), .int tk]))]) (congrArg (β := va_W) (fun z9 => [(o, .inr (12, [.ref h, .ref pp, .ref x2, .ref x3, .ref x4, .ref o2, .ref o4, .ref o9, .ref o7, .ref o0, .ref o1])), (h, .inr (5, [.ref jj, .ref dd, .int (nI n), .int (nI z)])), (jj, aI k 36 fj), (dd, aI k 6 fd), (lo, .inr (13, [.ref eo, .ref e1, .ref e2, .ref e3, .ref e4, .ref e5, .int (nI n), .int z9, .int tk]))]) (show ((nI v) : Int32) = (nI z) from by rw [hzv])) ?_
          exact g_zret (pc := 75) C hr (by first | rfl | exact bI_nar _) hlk (by first | decide | omega) (by first | decide | omega) (by first | decide | omega) dL_acts_75 ⟨rfl, rfl⟩
      · exact absurd (by rw [hzv]) c_46
    · refine g_iload_n (pc := 30) C 5 rfl rfl dL_acts_30 ?_
      refine g_iconst (pc := 31) (v := 3) C (by decide) dL_acts_31 ?_
      refine g_irem (pc := 32) C (by decide) dL_acts_32 ?_
      refine G.eqs (st' := [.int (nI (av % 3))]) (congrArg (β := List Value) (fun z9 => [.int z9]) (show (((nI av) - (nI av) / 3 * 3) : Int32) = (nI (av % 3)) from (pk_rem (a := av) (d := 3) (by omega) (by omega) (by omega)))) ?_
      refine g_if_le (pc := 33) C 76 (by decide) dL_acts_33 (fun c_33 => ?_) (fun c_33 => ?_)
      · exact absurd c_33 (nI_nle (by rcases hs3 with q | q; exact absurd (show nI n = nI 6 by rw [q]) c_27; omega) (by omega))
      · refine g_aload_n (pc := 36) C 2 rfl rfl dL_acts_36 ?_
        refine g_get (pc := 37) C (T := TXL) inXL 4 rfl rfl 7 (by decide) q_563 rfl rfl dL_acts_37 ?_
        refine g_istore (pc := 40) C [(7, .int (nI z)), (6, .int (nI u)), (5, .int (nI v)), (0, .ref lo), (1, .ref o), (2, .int (nI kd)), (3, .int (nI av)), (4, .int (nI aw))] dL_acts_40 (by decide) rfl ?_
        refine g_iload (pc := 42) C 0 rfl dL_acts_42 ?_
        refine g_iload (pc := 44) C 2 rfl dL_acts_44 ?_
        refine g_icmp_eq (pc := 46) C 53 (by decide) dL_acts_46 (fun c_46 => ?_) (fun c_46 => ?_)
        · refine g_aload_n (pc := 53) C 3 rfl rfl dL_acts_53 ?_
          refine g_iload (pc := 54) C 2 rfl dL_acts_54 ?_
          refine g_put (pc := 56) C (T := TXL) inXL 4 rfl rfl 7 (by decide) q_563 rfl tyXL tyXL_ok nmXL rfl [(o, .inr (12, [.ref h, .ref pp, .ref x2, .ref x3, .ref x4, .ref o2, .ref o4, .ref o9, .ref o7, .ref o0, .ref o1])), (h, .inr (5, [.ref jj, .ref dd, .int (nI n), .int (nI z)])), (jj, aI k 36 fj), (dd, aI k 6 fd), (lo, .inr (13, [.ref eo, .ref e1, .ref e2, .ref e3, .ref e4, .ref e5, .int (nI n), .int (nI v), .int tk]))] (tyXL_ok 7 (by decide)) rfl (by rfl) (Nat.le_of_ble_eq_true rfl) rfl dL_acts_56 ?_
          refine g_aload_n (pc := 59) C 4 rfl rfl dL_acts_59 ?_
          refine g_iload (pc := 60) C 2 rfl dL_acts_60 ?_
          refine g_callSW (pc := 62) (cells := 0) (slots := 0) (g := 0) (As := [.ref o, .int (nI v)]) (st := []) (b := 0) C (nA := 2) rfl (c_L_setSink_s o h pp x2 x3 x4 o2 o4 o9 o7 o0 o1 jj dd n z fj fd v (by first | assumption | decide | omega) (by first | assumption | decide | omega) (by first | assumption | decide | omega)) q_771 q_772 q_551 q_770 (by decide +kernel) dL_acts_62 ⟨Nat.le_of_ble_eq_true rfl, Nat.le_of_ble_eq_true rfl⟩ [0, 1, 2, 3] [4] rfl (wr := [(lo, .inr (13, [.ref eo, .ref e1, .ref e2, .ref e3, .ref e4, .ref e5, .int (nI n), .int (nI v), .int tk]))]) rfl (by decide) (by decide) (by decide) (Nat.le_of_ble_eq_true rfl) ⟨Nat.le_of_ble_eq_true rfl, Nat.le_of_ble_eq_true rfl⟩ (fun rv w1 h1 => ?_)
          obtain ⟨rfl, rfl⟩ := h1
          refine G.aft [1, 2, 3, 4, 0] (ws' := [(o, .inr (12, [.ref h, .ref pp, .ref x2, .ref x3, .ref x4, .ref o2, .ref o4, .ref o9, .ref o7, .ref o0, .ref o1])), (h, .inr (5, [.ref jj, .ref dd, .int (nI n), .int (nI z)])), (jj, aI k 36 fj), (dd, aI k 6 fd), (lo, .inr (13, [.ref eo, .ref e1, .ref e2, .ref e3, .ref e4, .ref e5, .int (nI n), .int (nI v), .int tk]))]) (st' := [.int (nI z)]) (cells' := 0) (slots' := 0) (g' := 0) (by decide) rfl rfl rfl rfl rfl ?_
          refine g_iload (pc := 65) C 0 rfl dL_acts_65 ?_
          refine g_icmp_ne (pc := 67) C 74 (by decide) dL_acts_67 (fun c_67 => ?_) (fun c_67 => ?_)
          · exact absurd rfl c_67
          · refine g_iconst (pc := 70) (v := 1) C (by decide) dL_acts_70 ?_
            refine g_goto (pc := 71) C 75 (by decide) dL_acts_71 ?_
            refine G.eqw (ws' := [(o, .inr (12, [.ref h, .ref pp, .ref x2, .ref x3, .ref x4, .ref o2, .ref o4, .ref o9, .ref o7, .ref o0, .ref o1])), (h, .inr (5, [.ref jj, .ref dd, .int (nI n), .int (nI z)])), (jj, aI k 36 fj), (dd, aI k 6 fd), (lo, .inr (13, [.ref eo, .ref e1, .ref e2, .ref e3, .ref e4, .ref e5, .int (nI n), .int (nI z), .int tk]))]) (congrArg (β := va_W) (fun z9 => [(o, .inr (12, [.ref h, .ref pp, .ref x2, .ref x3, .ref x4, .ref o2, .ref o4, .ref o9, .ref o7, .ref o0, .ref o1])), (h, .inr (5, [.ref jj, .ref dd, .int (nI n), .int (nI z)])), (jj, aI k 36 fj), (dd, aI k 6 fd), (lo, .inr (13, [.ref eo, .ref e1, .ref e2, .ref e3, .ref e4, .ref e5, .int (nI n), .int z9, .int tk]))]) (show ((nI v) : Int32) = (nI z) from by rw [hzv])) ?_
            exact g_zret (pc := 75) C hr (by first | rfl | exact bI_nar _) hlk (by first | decide | omega) (by first | decide | omega) (by first | decide | omega) dL_acts_75 ⟨rfl, rfl⟩
        · exact absurd (by rw [hzv]) c_46
set_option maxRecDepth 100000 in
set_option maxHeartbeats 400000 in
theorem c_L_acts_k0d {l : Launch} {D : va_G} {k : Nat → ClassId} (o : Nat) (h : Nat) (pp : Nat) (x2 : Nat) (x3 : Nat) (x4 : Nat) (o2 : Nat) (o4 : Nat) (o9 : Nat) (o7 : Nat) (o0 : Nat) (o1 : Nat) (jj : Nat) (dd : Nat) (n : Nat) (z : Nat) (fj : Nat → Int32) (fd : Nat → Int32) (r1 : Nat) (r2 : Nat) (tk : Int32) (a1 : Nat) (f : Nat → Int32) (a2 : Nat) (ct : Nat → Int32) (s1 : Nat) (s2 : Nat) (b1 : Nat) (fp : Nat → Int32) (b2 : Nat) (fv : Nat → Int32) (t1 : Nat) (t2 : Nat) (t3 : Nat) (t4 : Nat) (t5 : Nat) (u1 : Nat) (fo : Nat → Int32) (lo : Nat) (eo : Nat) (e1 : Nat) (e2 : Nat) (e3 : Nat) (e4 : Nat) (e5 : Nat) (t : Nat → Nat) (E : Nat → Nat → Nat) (kd : Nat) (av : Nat) (aw : Nat) (v : Nat) (u : Nat) (hn : n ≤ 6) (hz : z < n) (hE3 : ∀ i j, E i j ≤ 3) (hav : av % n = v) (haw : aw % n = u) (hv : v < n) (hu : u < n) (hb1 : av ≤ 9000) (hb2 : aw ≤ 9000) (hk : kd = 0) (hs3 : n = 6 ∨ ¬ av % 3 = 0) (hzv : ¬ z = v) : CM l D k yL_acts cL_acts 9 (some .boolean)  5 106 [.ref lo, .ref o, .int (nI kd), .int (nI av), .int (nI aw)] [(o, .inr (12, [.ref h, .ref pp, .ref x2, .ref x3, .ref x4, .ref o2, .ref o4, .ref o9, .ref o7, .ref o0, .ref o1])), (h, .inr (5, [.ref jj, .ref dd, .int (nI n), .int (nI z)])), (jj, aI k 36 fj), (dd, aI k 6 fd), (pp, .inr (8, [.ref h, .ref r1, .ref r2, .int tk])), (r1, .inr (10, [.ref a1])), (a1, aI k 6 f), (r2, .inr (10, [.ref a2])), (a2, aI k 6 ct), (o7, .inr (9, [.ref h, .ref s1, .ref s2])), (s1, .inr (10, [.ref b1])), (b1, aI k 6 fp), (s2, .inr (10, [.ref b2])), (b2, aI k 6 fv), (o0, .inr (2, [.ref h, .ref o2, .ref t1, .ref t2, .ref t3, .ref t4, .ref t5])), (t1, .inr (10, [.ref u1])), (u1, aI k 6 fo), (lo, .inr (13, [.ref eo, .ref e1, .ref e2, .ref e3, .ref e4, .ref e5, .int (nI n), .int (nI z), .int tk])), (e1, aI k 6 f), (e2, aI k 6 ct), (e3, aI k 6 fo), (e4, aI k 6 (fun j9 => nI (t j9))), (e5, aI k 6 fv)] (is1 (some (.int 1)) [(o, .inr (12, [.ref h, .ref pp, .ref x2, .ref x3, .ref x4, .ref o2, .ref o4, .ref o9, .ref o7, .ref o0, .ref o1])), (h, .inr (5, [.ref jj, .ref dd, .int (nI n), .int (nI v)])), (jj, aI k 36 fj), (dd, aI k 6 fd), (pp, .inr (8, [.ref h, .ref r1, .ref r2, .int 0])), (r1, .inr (10, [.ref a1])), (a1, aI k 6 (fun _ => 0)), (r2, .inr (10, [.ref a2])), (a2, aI k 6 (fun _ => 0)), (o7, .inr (9, [.ref h, .ref s1, .ref s2])), (s1, .inr (10, [.ref b1])), (b1, aI k 6 (fun _ => 0)), (s2, .inr (10, [.ref b2])), (b2, aI k 6 (fun _ => 0)), (o0, .inr (2, [.ref h, .ref o2, .ref t1, .ref t2, .ref t3, .ref t4, .ref t5])), (t1, .inr (10, [.ref u1])), (u1, aI k 6 (fun _ => 0)), (lo, .inr (13, [.ref eo, .ref e1, .ref e2, .ref e3, .ref e4, .ref e5, .int (nI n), .int (nI v), .int 0])), (e1, aI k 6 (fun _ => 0)), (e2, aI k 6 (fun _ => 0)), (e3, aI k 6 (fun _ => 0)), (e4, aI k 6 (fun _ => 0)), (e5, aI k 6 (fun _ => 0))]) 1 5 0 := by
  refine CM.of (lv0 := [(0, .ref lo), (1, .ref o), (2, .int (nI kd)), (3, .int (nI av)), (4, .int (nI aw))]) (by decide +kernel) (Nat.le_of_ble_eq_true rfl) rfl ?_
  intro p9 e9 s9 m9 bl9 me9 co9 C hr hlk hin had
  refine g_iload_n (pc := 0) C 3 rfl rfl dL_acts_0 ?_
  refine g_aload_n (pc := 1) C 0 rfl rfl dL_acts_1 ?_
  refine g_get (pc := 2) C (T := TXL) inXL 17 rfl rfl 6 (by decide) q_564 rfl rfl dL_acts_2 ?_
  refine g_irem (pc := 5) C (nI_ne0 (by omega) (by omega)) dL_acts_5 ?_
  refine G.eqs (st' := [.int (nI v)]) (congrArg (β := List Value) (fun z9 => [.int z9]) (show (((nI av) - (nI av) / (nI n) * (nI n)) : Int32) = (nI v) from (by rw [← hav]; exact pk_rem (by omega) (by omega) (by omega)))) ?_
  refine g_istore (pc := 6) C [(5, .int (nI v)), (0, .ref lo), (1, .ref o), (2, .int (nI kd)), (3, .int (nI av)), (4, .int (nI aw))] dL_acts_6 (by decide) rfl ?_
  refine g_iload (pc := 8) C 5 rfl dL_acts_8 ?_
  refine g_aload_n (pc := 10) C 1 rfl rfl dL_acts_10 ?_
  refine g_get (pc := 11) C (T := TXL) inXL 17 rfl rfl 6 (by decide) q_564 rfl rfl dL_acts_11 ?_
  refine g_irem (pc := 14) C (nI_ne0 (by omega) (by omega)) dL_acts_14 ?_
  refine G.eqs (st' := [.int (nI u)]) (congrArg (β := List Value) (fun z9 => [.int z9]) (show (((nI aw) - (nI aw) / (nI n) * (nI n)) : Int32) = (nI u) from (by rw [← haw]; exact pk_rem (by omega) (by omega) (by omega)))) ?_
  refine g_istore (pc := 15) C [(6, .int (nI u)), (5, .int (nI v)), (0, .ref lo), (1, .ref o), (2, .int (nI kd)), (3, .int (nI av)), (4, .int (nI aw))] dL_acts_15 (by decide) rfl ?_
  refine g_iload_n (pc := 17) C 4 rfl rfl dL_acts_17 ?_
  refine g_if_ne (pc := 18) C 109 (by decide) dL_acts_18 (fun c_18 => ?_) (fun c_18 => ?_)
  · exact absurd (by rw [hk]; rfl) c_18
  · refine g_aload_n (pc := 21) C 2 rfl rfl dL_acts_21 ?_
    refine g_get (pc := 22) C (T := TXL) inXL 17 rfl rfl 6 (by decide) q_564 rfl rfl dL_acts_22 ?_
    refine g_bipush (pc := 25) (v := 6) C (by decide) dL_acts_25 ?_
    refine g_icmp_eq (pc := 27) C 36 (by decide) dL_acts_27 (fun c_27 => ?_) (fun c_27 => ?_)
    · refine g_aload_n (pc := 36) C 2 rfl rfl dL_acts_36 ?_
      refine g_get (pc := 37) C (T := TXL) inXL 17 rfl rfl 7 (by decide) q_563 rfl rfl dL_acts_37 ?_
      refine g_istore (pc := 40) C [(7, .int (nI z)), (6, .int (nI u)), (5, .int (nI v)), (0, .ref lo), (1, .ref o), (2, .int (nI kd)), (3, .int (nI av)), (4, .int (nI aw))] dL_acts_40 (by decide) rfl ?_
      refine g_iload (pc := 42) C 0 rfl dL_acts_42 ?_
      refine g_iload (pc := 44) C 2 rfl dL_acts_44 ?_
      refine g_icmp_eq (pc := 46) C 53 (by decide) dL_acts_46 (fun c_46 => ?_) (fun c_46 => ?_)
      · exact absurd ((nI_eq (by omega) (by omega)).mp c_46) hzv
      · refine g_aload_n (pc := 49) C 3 rfl rfl dL_acts_49 ?_
        refine g_callV (pc := 50) (cells := 0) (slots := 0) (g := 0) (As := []) (st := []) (T := TXL) (q0 := 17) C (nA := 0) rfl (c_L_clear lo eo e1 e2 e3 e4 e5 n z tk f ct fo (fun j9 => nI (t j9)) fv ) q_775 q_776 q_774 q_551 q_773 (by decide +kernel) rfl rfl dL_acts_50 ⟨Nat.le_of_ble_eq_true rfl, Nat.le_of_ble_eq_true rfl⟩ [17, 18, 19, 20, 21, 22] [0, 1, 2, 3, 4, 5, 6, 7, 8, 9, 10, 11, 12, 13, 14, 15, 16] rfl (wr := [(o, .inr (12, [.ref h, .ref pp, .ref x2, .ref x3, .ref x4, .ref o2, .ref o4, .ref o9, .ref o7, .ref o0, .ref o1])), (h, .inr (5, [.ref jj, .ref dd, .int (nI n), .int (nI z)])), (jj, aI k 36 fj), (dd, aI k 6 fd), (pp, .inr (8, [.ref h, .ref r1, .ref r2, .int tk])), (r1, .inr (10, [.ref a1])), (a1, aI k 6 f), (r2, .inr (10, [.ref a2])), (a2, aI k 6 ct), (o7, .inr (9, [.ref h, .ref s1, .ref s2])), (s1, .inr (10, [.ref b1])), (b1, aI k 6 fp), (s2, .inr (10, [.ref b2])), (b2, aI k 6 fv), (o0, .inr (2, [.ref h, .ref o2, .ref t1, .ref t2, .ref t3, .ref t4, .ref t5])), (t1, .inr (10, [.ref u1])), (u1, aI k 6 fo)]) rfl (by decide) (by decide) (by decide) (Nat.le_of_ble_eq_true rfl) ⟨Nat.le_of_ble_eq_true rfl, Nat.le_of_ble_eq_true rfl⟩ (fun rv w1 h1 => ?_)
        obtain ⟨rfl, rfl⟩ := h1
        refine G.aft [0, 1, 2, 3, 4, 5, 6, 7, 8, 9, 10, 11, 12, 13, 14, 15, 16, 17, 18, 19, 20, 21, 22] (ws' := [(o, .inr (12, [.ref h, .ref pp, .ref x2, .ref x3, .ref x4, .ref o2, .ref o4, .ref o9, .ref o7, .ref o0, .ref o1])), (h, .inr (5, [.ref jj, .ref dd, .int (nI n), .int (nI z)])), (jj, aI k 36 fj), (dd, aI k 6 fd), (pp, .inr (8, [.ref h, .ref r1, .ref r2, .int tk])), (r1, .inr (10, [.ref a1])), (a1, aI k 6 f), (r2, .inr (10, [.ref a2])), (a2, aI k 6 ct), (o7, .inr (9, [.ref h, .ref s1, .ref s2])), (s1, .inr (10, [.ref b1])), (b1, aI k 6 fp), (s2, .inr (10, [.ref b2])), (b2, aI k 6 fv), (o0, .inr (2, [.ref h, .ref o2, .ref t1, .ref t2, .ref t3, .ref t4, .ref t5])), (t1, .inr (10, [.ref u1])), (u1, aI k 6 fo), (lo, .inr (13, [.ref eo, .ref e1, .ref e2, .ref e3, .ref e4, .ref e5, .int (nI n), .int (nI z), .int 0])), (e1, aI k 6 (fun _ => 0)), (e2, aI k 6 (fun _ => 0)), (e3, aI k 6 (fun _ => 0)), (e4, aI k 6 (fun _ => 0)), (e5, aI k 6 (fun _ => 0))]) (st' := []) (cells' := 1) (slots' := 5) (g' := 0) (by decide) rfl rfl rfl rfl rfl ?_
        refine g_aload_n (pc := 53) C 3 rfl rfl dL_acts_53 ?_
        refine g_iload (pc := 54) C 2 rfl dL_acts_54 ?_
        refine g_put (pc := 56) C (T := TXL) inXL 17 rfl rfl 7 (by decide) q_563 rfl tyXL tyXL_ok nmXL rfl [(o, .inr (12, [.ref h, .ref pp, .ref x2, .ref x3, .ref x4, .ref o2, .ref o4, .ref o9, .ref o7, .ref o0, .ref o1])), (h, .inr (5, [.ref jj, .ref dd, .int (nI n), .int (nI z)])), (jj, aI k 36 fj), (dd, aI k 6 fd), (pp, .inr (8, [.ref h, .ref r1, .ref r2, .int tk])), (r1, .inr (10, [.ref a1])), (a1, aI k 6 f), (r2, .inr (10, [.ref a2])), (a2, aI k 6 ct), (o7, .inr (9, [.ref h, .ref s1, .ref s2])), (s1, .inr (10, [.ref b1])), (b1, aI k 6 fp), (s2, .inr (10, [.ref b2])), (b2, aI k 6 fv), (o0, .inr (2, [.ref h, .ref o2, .ref t1, .ref t2, .ref t3, .ref t4, .ref t5])), (t1, .inr (10, [.ref u1])), (u1, aI k 6 fo), (lo, .inr (13, [.ref eo, .ref e1, .ref e2, .ref e3, .ref e4, .ref e5, .int (nI n), .int (nI v), .int 0])), (e1, aI k 6 (fun _ => 0)), (e2, aI k 6 (fun _ => 0)), (e3, aI k 6 (fun _ => 0)), (e4, aI k 6 (fun _ => 0)), (e5, aI k 6 (fun _ => 0))] (tyXL_ok 7 (by decide)) rfl (by rfl) (Nat.le_of_ble_eq_true rfl) rfl dL_acts_56 ?_
        refine g_aload_n (pc := 59) C 4 rfl rfl dL_acts_59 ?_
        refine g_iload (pc := 60) C 2 rfl dL_acts_60 ?_
        refine g_callSW (pc := 62) (cells := 1) (slots := 5) (g := 0) (As := [.ref o, .int (nI v)]) (st := []) (b := 0) C (nA := 2) rfl (c_L_setSink_d o h pp x2 x3 x4 o2 o4 o9 o7 o0 o1 jj dd n z fj fd r1 a1 r2 a2 f ct tk s1 b1 s2 b2 fp fv t1 t2 t3 t4 t5 u1 fo v (by first | assumption | decide | omega) (by first | assumption | decide | omega) (by first | assumption | decide | omega) (by first | assumption | decide | omega)) q_771 q_772 q_551 q_770 (by decide +kernel) dL_acts_62 ⟨Nat.le_of_ble_eq_true rfl, Nat.le_of_ble_eq_true rfl⟩ [0, 1, 2, 3, 4, 5, 6, 7, 8, 9, 10, 11, 12, 13, 14, 15, 16] [17, 18, 19, 20, 21, 22] rfl (wr := [(lo, .inr (13, [.ref eo, .ref e1, .ref e2, .ref e3, .ref e4, .ref e5, .int (nI n), .int (nI v), .int 0])), (e1, aI k 6 (fun _ => 0)), (e2, aI k 6 (fun _ => 0)), (e3, aI k 6 (fun _ => 0)), (e4, aI k 6 (fun _ => 0)), (e5, aI k 6 (fun _ => 0))]) rfl (by decide) (by decide) (by decide) (Nat.le_of_ble_eq_true rfl) ⟨Nat.le_of_ble_eq_true rfl, Nat.le_of_ble_eq_true rfl⟩ (fun rv w1 h1 => ?_)
        obtain ⟨rfl, rfl⟩ := h1
        refine G.aft [6, 7, 8, 9, 10, 11, 12, 13, 14, 15, 16, 17, 18, 19, 20, 21, 22, 0, 1, 2, 3, 4, 5] (ws' := [(o, .inr (12, [.ref h, .ref pp, .ref x2, .ref x3, .ref x4, .ref o2, .ref o4, .ref o9, .ref o7, .ref o0, .ref o1])), (h, .inr (5, [.ref jj, .ref dd, .int (nI n), .int (nI v)])), (jj, aI k 36 fj), (dd, aI k 6 fd), (pp, .inr (8, [.ref h, .ref r1, .ref r2, .int 0])), (r1, .inr (10, [.ref a1])), (a1, aI k 6 (fun _ => 0)), (r2, .inr (10, [.ref a2])), (a2, aI k 6 (fun _ => 0)), (o7, .inr (9, [.ref h, .ref s1, .ref s2])), (s1, .inr (10, [.ref b1])), (b1, aI k 6 (fun _ => 0)), (s2, .inr (10, [.ref b2])), (b2, aI k 6 (fun _ => 0)), (o0, .inr (2, [.ref h, .ref o2, .ref t1, .ref t2, .ref t3, .ref t4, .ref t5])), (t1, .inr (10, [.ref u1])), (u1, aI k 6 (fun _ => 0)), (lo, .inr (13, [.ref eo, .ref e1, .ref e2, .ref e3, .ref e4, .ref e5, .int (nI n), .int (nI v), .int 0])), (e1, aI k 6 (fun _ => 0)), (e2, aI k 6 (fun _ => 0)), (e3, aI k 6 (fun _ => 0)), (e4, aI k 6 (fun _ => 0)), (e5, aI k 6 (fun _ => 0))]) (st' := [.int (nI z)]) (cells' := 1) (slots' := 5) (g' := 0) (by decide) rfl rfl rfl rfl rfl ?_
        refine g_iload (pc := 65) C 0 rfl dL_acts_65 ?_
        refine g_icmp_ne (pc := 67) C 74 (by decide) dL_acts_67 (fun c_67 => ?_) (fun c_67 => ?_)
        · exact absurd rfl c_67
        · refine g_iconst (pc := 70) (v := 1) C (by decide) dL_acts_70 ?_
          refine g_goto (pc := 71) C 75 (by decide) dL_acts_71 ?_
          exact g_zret (pc := 75) C hr (by first | rfl | exact bI_nar _) hlk (by first | decide | omega) (by first | decide | omega) (by first | decide | omega) dL_acts_75 ⟨rfl, rfl⟩
    · refine g_iload_n (pc := 30) C 5 rfl rfl dL_acts_30 ?_
      refine g_iconst (pc := 31) (v := 3) C (by decide) dL_acts_31 ?_
      refine g_irem (pc := 32) C (by decide) dL_acts_32 ?_
      refine G.eqs (st' := [.int (nI (av % 3))]) (congrArg (β := List Value) (fun z9 => [.int z9]) (show (((nI av) - (nI av) / 3 * 3) : Int32) = (nI (av % 3)) from (pk_rem (a := av) (d := 3) (by omega) (by omega) (by omega)))) ?_
      refine g_if_le (pc := 33) C 76 (by decide) dL_acts_33 (fun c_33 => ?_) (fun c_33 => ?_)
      · exact absurd c_33 (nI_nle (by rcases hs3 with q | q; exact absurd (show nI n = nI 6 by rw [q]) c_27; omega) (by omega))
      · refine g_aload_n (pc := 36) C 2 rfl rfl dL_acts_36 ?_
        refine g_get (pc := 37) C (T := TXL) inXL 17 rfl rfl 7 (by decide) q_563 rfl rfl dL_acts_37 ?_
        refine g_istore (pc := 40) C [(7, .int (nI z)), (6, .int (nI u)), (5, .int (nI v)), (0, .ref lo), (1, .ref o), (2, .int (nI kd)), (3, .int (nI av)), (4, .int (nI aw))] dL_acts_40 (by decide) rfl ?_
        refine g_iload (pc := 42) C 0 rfl dL_acts_42 ?_
        refine g_iload (pc := 44) C 2 rfl dL_acts_44 ?_
        refine g_icmp_eq (pc := 46) C 53 (by decide) dL_acts_46 (fun c_46 => ?_) (fun c_46 => ?_)
        · exact absurd ((nI_eq (by omega) (by omega)).mp c_46) hzv
        · refine g_aload_n (pc := 49) C 3 rfl rfl dL_acts_49 ?_
          refine g_callV (pc := 50) (cells := 0) (slots := 0) (g := 0) (As := []) (st := []) (T := TXL) (q0 := 17) C (nA := 0) rfl (c_L_clear lo eo e1 e2 e3 e4 e5 n z tk f ct fo (fun j9 => nI (t j9)) fv ) q_775 q_776 q_774 q_551 q_773 (by decide +kernel) rfl rfl dL_acts_50 ⟨Nat.le_of_ble_eq_true rfl, Nat.le_of_ble_eq_true rfl⟩ [17, 18, 19, 20, 21, 22] [0, 1, 2, 3, 4, 5, 6, 7, 8, 9, 10, 11, 12, 13, 14, 15, 16] rfl (wr := [(o, .inr (12, [.ref h, .ref pp, .ref x2, .ref x3, .ref x4, .ref o2, .ref o4, .ref o9, .ref o7, .ref o0, .ref o1])), (h, .inr (5, [.ref jj, .ref dd, .int (nI n), .int (nI z)])), (jj, aI k 36 fj), (dd, aI k 6 fd), (pp, .inr (8, [.ref h, .ref r1, .ref r2, .int tk])), (r1, .inr (10, [.ref a1])), (a1, aI k 6 f), (r2, .inr (10, [.ref a2])), (a2, aI k 6 ct), (o7, .inr (9, [.ref h, .ref s1, .ref s2])), (s1, .inr (10, [.ref b1])), (b1, aI k 6 fp), (s2, .inr (10, [.ref b2])), (b2, aI k 6 fv), (o0, .inr (2, [.ref h, .ref o2, .ref t1, .ref t2, .ref t3, .ref t4, .ref t5])), (t1, .inr (10, [.ref u1])), (u1, aI k 6 fo)]) rfl (by decide) (by decide) (by decide) (Nat.le_of_ble_eq_true rfl) ⟨Nat.le_of_ble_eq_true rfl, Nat.le_of_ble_eq_true rfl⟩ (fun rv w1 h1 => ?_)
          obtain ⟨rfl, rfl⟩ := h1
          refine G.aft [0, 1, 2, 3, 4, 5, 6, 7, 8, 9, 10, 11, 12, 13, 14, 15, 16, 17, 18, 19, 20, 21, 22] (ws' := [(o, .inr (12, [.ref h, .ref pp, .ref x2, .ref x3, .ref x4, .ref o2, .ref o4, .ref o9, .ref o7, .ref o0, .ref o1])), (h, .inr (5, [.ref jj, .ref dd, .int (nI n), .int (nI z)])), (jj, aI k 36 fj), (dd, aI k 6 fd), (pp, .inr (8, [.ref h, .ref r1, .ref r2, .int tk])), (r1, .inr (10, [.ref a1])), (a1, aI k 6 f), (r2, .inr (10, [.ref a2])), (a2, aI k 6 ct), (o7, .inr (9, [.ref h, .ref s1, .ref s2])), (s1, .inr (10, [.ref b1])), (b1, aI k 6 fp), (s2, .inr (10, [.ref b2])), (b2, aI k 6 fv), (o0, .inr (2, [.ref h, .ref o2, .ref t1, .ref t2, .ref t3, .ref t4, .ref t5])), (t1, .inr (10, [.ref u1])), (u1, aI k 6 fo), (lo, .inr (13, [.ref eo, .ref e1, .ref e2, .ref e3, .ref e4, .ref e5, .int (nI n), .int (nI z), .int 0])), (e1, aI k 6 (fun _ => 0)), (e2, aI k 6 (fun _ => 0)), (e3, aI k 6 (fun _ => 0)), (e4, aI k 6 (fun _ => 0)), (e5, aI k 6 (fun _ => 0))]) (st' := []) (cells' := 1) (slots' := 5) (g' := 0) (by decide) rfl rfl rfl rfl rfl ?_
          refine g_aload_n (pc := 53) C 3 rfl rfl dL_acts_53 ?_
          refine g_iload (pc := 54) C 2 rfl dL_acts_54 ?_
          refine g_put (pc := 56) C (T := TXL) inXL 17 rfl rfl 7 (by decide) q_563 rfl tyXL tyXL_ok nmXL rfl [(o, .inr (12, [.ref h, .ref pp, .ref x2, .ref x3, .ref x4, .ref o2, .ref o4, .ref o9, .ref o7, .ref o0, .ref o1])), (h, .inr (5, [.ref jj, .ref dd, .int (nI n), .int (nI z)])), (jj, aI k 36 fj), (dd, aI k 6 fd), (pp, .inr (8, [.ref h, .ref r1, .ref r2, .int tk])), (r1, .inr (10, [.ref a1])), (a1, aI k 6 f), (r2, .inr (10, [.ref a2])), (a2, aI k 6 ct), (o7, .inr (9, [.ref h, .ref s1, .ref s2])), (s1, .inr (10, [.ref b1])), (b1, aI k 6 fp), (s2, .inr (10, [.ref b2])), (b2, aI k 6 fv), (o0, .inr (2, [.ref h, .ref o2, .ref t1, .ref t2, .ref t3, .ref t4, .ref t5])), (t1, .inr (10, [.ref u1])), (u1, aI k 6 fo), (lo, .inr (13, [.ref eo, .ref e1, .ref e2, .ref e3, .ref e4, .ref e5, .int (nI n), .int (nI v), .int 0])), (e1, aI k 6 (fun _ => 0)), (e2, aI k 6 (fun _ => 0)), (e3, aI k 6 (fun _ => 0)), (e4, aI k 6 (fun _ => 0)), (e5, aI k 6 (fun _ => 0))] (tyXL_ok 7 (by decide)) rfl (by rfl) (Nat.le_of_ble_eq_true rfl) rfl dL_acts_56 ?_
          refine g_aload_n (pc := 59) C 4 rfl rfl dL_acts_59 ?_
          refine g_iload (pc := 60) C 2 rfl dL_acts_60 ?_
          refine g_callSW (pc := 62) (cells := 1) (slots := 5) (g := 0) (As := [.ref o, .int (nI v)]) (st := []) (b := 0) C (nA := 2) rfl (c_L_setSink_d o h pp x2 x3 x4 o2 o4 o9 o7 o0 o1 jj dd n z fj fd r1 a1 r2 a2 f ct tk s1 b1 s2 b2 fp fv t1 t2 t3 t4 t5 u1 fo v (by first | assumption | decide | omega) (by first | assumption | decide | omega) (by first | assumption | decide | omega) (by first | assumption | decide | omega)) q_771 q_772 q_551 q_770 (by decide +kernel) dL_acts_62 ⟨Nat.le_of_ble_eq_true rfl, Nat.le_of_ble_eq_true rfl⟩ [0, 1, 2, 3, 4, 5, 6, 7, 8, 9, 10, 11, 12, 13, 14, 15, 16] [17, 18, 19, 20, 21, 22] rfl (wr := [(lo, .inr (13, [.ref eo, .ref e1, .ref e2, .ref e3, .ref e4, .ref e5, .int (nI n), .int (nI v), .int 0])), (e1, aI k 6 (fun _ => 0)), (e2, aI k 6 (fun _ => 0)), (e3, aI k 6 (fun _ => 0)), (e4, aI k 6 (fun _ => 0)), (e5, aI k 6 (fun _ => 0))]) rfl (by decide) (by decide) (by decide) (Nat.le_of_ble_eq_true rfl) ⟨Nat.le_of_ble_eq_true rfl, Nat.le_of_ble_eq_true rfl⟩ (fun rv w1 h1 => ?_)
          obtain ⟨rfl, rfl⟩ := h1
          refine G.aft [6, 7, 8, 9, 10, 11, 12, 13, 14, 15, 16, 17, 18, 19, 20, 21, 22, 0, 1, 2, 3, 4, 5] (ws' := [(o, .inr (12, [.ref h, .ref pp, .ref x2, .ref x3, .ref x4, .ref o2, .ref o4, .ref o9, .ref o7, .ref o0, .ref o1])), (h, .inr (5, [.ref jj, .ref dd, .int (nI n), .int (nI v)])), (jj, aI k 36 fj), (dd, aI k 6 fd), (pp, .inr (8, [.ref h, .ref r1, .ref r2, .int 0])), (r1, .inr (10, [.ref a1])), (a1, aI k 6 (fun _ => 0)), (r2, .inr (10, [.ref a2])), (a2, aI k 6 (fun _ => 0)), (o7, .inr (9, [.ref h, .ref s1, .ref s2])), (s1, .inr (10, [.ref b1])), (b1, aI k 6 (fun _ => 0)), (s2, .inr (10, [.ref b2])), (b2, aI k 6 (fun _ => 0)), (o0, .inr (2, [.ref h, .ref o2, .ref t1, .ref t2, .ref t3, .ref t4, .ref t5])), (t1, .inr (10, [.ref u1])), (u1, aI k 6 (fun _ => 0)), (lo, .inr (13, [.ref eo, .ref e1, .ref e2, .ref e3, .ref e4, .ref e5, .int (nI n), .int (nI v), .int 0])), (e1, aI k 6 (fun _ => 0)), (e2, aI k 6 (fun _ => 0)), (e3, aI k 6 (fun _ => 0)), (e4, aI k 6 (fun _ => 0)), (e5, aI k 6 (fun _ => 0))]) (st' := [.int (nI z)]) (cells' := 1) (slots' := 5) (g' := 0) (by decide) rfl rfl rfl rfl rfl ?_
          refine g_iload (pc := 65) C 0 rfl dL_acts_65 ?_
          refine g_icmp_ne (pc := 67) C 74 (by decide) dL_acts_67 (fun c_67 => ?_) (fun c_67 => ?_)
          · exact absurd rfl c_67
          · refine g_iconst (pc := 70) (v := 1) C (by decide) dL_acts_70 ?_
            refine g_goto (pc := 71) C 75 (by decide) dL_acts_71 ?_
            exact g_zret (pc := 75) C hr (by first | rfl | exact bI_nar _) hlk (by first | decide | omega) (by first | decide | omega) (by first | decide | omega) dL_acts_75 ⟨rfl, rfl⟩
set_option maxRecDepth 100000 in
set_option maxHeartbeats 400000 in
theorem c_L_acts_k0g {l : Launch} {D : va_G} {k : Nat → ClassId} (o : Nat) (h : Nat) (pp : Nat) (x2 : Nat) (x3 : Nat) (x4 : Nat) (o2 : Nat) (o4 : Nat) (o9 : Nat) (o7 : Nat) (o0 : Nat) (o1 : Nat) (jj : Nat) (dd : Nat) (n : Nat) (z : Nat) (fj : Nat → Int32) (fd : Nat → Int32) (r1 : Nat) (r2 : Nat) (tk : Int32) (a1 : Nat) (f : Nat → Int32) (a2 : Nat) (ct : Nat → Int32) (s1 : Nat) (s2 : Nat) (b1 : Nat) (fp : Nat → Int32) (b2 : Nat) (fv : Nat → Int32) (t1 : Nat) (t2 : Nat) (t3 : Nat) (t4 : Nat) (t5 : Nat) (u1 : Nat) (fo : Nat → Int32) (lo : Nat) (eo : Nat) (e1 : Nat) (e2 : Nat) (e3 : Nat) (e4 : Nat) (e5 : Nat) (t : Nat → Nat) (E : Nat → Nat → Nat) (kd : Nat) (av : Nat) (aw : Nat) (v : Nat) (u : Nat) (hn : n ≤ 6) (hz : z < n) (hE3 : ∀ i j, E i j ≤ 3) (hav : av % n = v) (haw : aw % n = u) (hv : v < n) (hu : u < n) (hb1 : av ≤ 9000) (hb2 : aw ≤ 9000) (hk : kd = 0) (hn6 : n < 6) (h3 : av % 3 = 0) : CM l D k yL_acts cL_acts 9 (some .boolean)  5 104 [.ref lo, .ref o, .int (nI kd), .int (nI av), .int (nI aw)] [(o, .inr (12, [.ref h, .ref pp, .ref x2, .ref x3, .ref x4, .ref o2, .ref o4, .ref o9, .ref o7, .ref o0, .ref o1])), (h, .inr (5, [.ref jj, .ref dd, .int (nI n), .int (nI z)])), (jj, aI k 36 fj), (dd, aI k 6 fd), (pp, .inr (8, [.ref h, .ref r1, .ref r2, .int tk])), (r1, .inr (10, [.ref a1])), (a1, aI k 6 f), (r2, .inr (10, [.ref a2])), (a2, aI k 6 ct), (o7, .inr (9, [.ref h, .ref s1, .ref s2])), (s1, .inr (10, [.ref b1])), (b1, aI k 6 fp), (s2, .inr (10, [.ref b2])), (b2, aI k 6 fv), (o0, .inr (2, [.ref h, .ref o2, .ref t1, .ref t2, .ref t3, .ref t4, .ref t5])), (t1, .inr (10, [.ref u1])), (u1, aI k 6 fo), (lo, .inr (13, [.ref eo, .ref e1, .ref e2, .ref e3, .ref e4, .ref e5, .int (nI n), .int (nI z), .int tk])), (e1, aI k 6 f), (e2, aI k 6 ct), (e3, aI k 6 fo), (e4, aI k 6 (fun j9 => nI (t j9))), (e5, aI k 6 fv)] (is1 (some (.int 1)) [(o, .inr (12, [.ref h, .ref pp, .ref x2, .ref x3, .ref x4, .ref o2, .ref o4, .ref o9, .ref o7, .ref o0, .ref o1])), (h, .inr (5, [.ref jj, .ref dd, .int (nI (n + 1)), .int (nI z)])), (jj, aI k 36 fj), (dd, aI k 6 fd), (pp, .inr (8, [.ref h, .ref r1, .ref r2, .int 0])), (r1, .inr (10, [.ref a1])), (a1, aI k 6 (fun _ => 0)), (r2, .inr (10, [.ref a2])), (a2, aI k 6 (fun _ => 0)), (o7, .inr (9, [.ref h, .ref s1, .ref s2])), (s1, .inr (10, [.ref b1])), (b1, aI k 6 (fun _ => 0)), (s2, .inr (10, [.ref b2])), (b2, aI k 6 (fun _ => 0)), (o0, .inr (2, [.ref h, .ref o2, .ref t1, .ref t2, .ref t3, .ref t4, .ref t5])), (t1, .inr (10, [.ref u1])), (u1, aI k 6 (fun _ => 0)), (lo, .inr (13, [.ref eo, .ref e1, .ref e2, .ref e3, .ref e4, .ref e5, .int (nI (n + 1)), .int (nI z), .int 0])), (e1, aI k 6 (fun _ => 0)), (e2, aI k 6 (fun _ => 0)), (e3, aI k 6 (fun _ => 0)), (e4, aI k 6 (fun _ => 0)), (e5, aI k 6 (fun _ => 0))]) 1 5 0 := by
  refine CM.of (lv0 := [(0, .ref lo), (1, .ref o), (2, .int (nI kd)), (3, .int (nI av)), (4, .int (nI aw))]) (by decide +kernel) (Nat.le_of_ble_eq_true rfl) rfl ?_
  intro p9 e9 s9 m9 bl9 me9 co9 C hr hlk hin had
  refine g_iload_n (pc := 0) C 3 rfl rfl dL_acts_0 ?_
  refine g_aload_n (pc := 1) C 0 rfl rfl dL_acts_1 ?_
  refine g_get (pc := 2) C (T := TXL) inXL 17 rfl rfl 6 (by decide) q_564 rfl rfl dL_acts_2 ?_
  refine g_irem (pc := 5) C (nI_ne0 (by omega) (by omega)) dL_acts_5 ?_
  refine G.eqs (st' := [.int (nI v)]) (congrArg (β := List Value) (fun z9 => [.int z9]) (show (((nI av) - (nI av) / (nI n) * (nI n)) : Int32) = (nI v) from (by rw [← hav]; exact pk_rem (by omega) (by omega) (by omega)))) ?_
  refine g_istore (pc := 6) C [(5, .int (nI v)), (0, .ref lo), (1, .ref o), (2, .int (nI kd)), (3, .int (nI av)), (4, .int (nI aw))] dL_acts_6 (by decide) rfl ?_
  refine g_iload (pc := 8) C 5 rfl dL_acts_8 ?_
  refine g_aload_n (pc := 10) C 1 rfl rfl dL_acts_10 ?_
  refine g_get (pc := 11) C (T := TXL) inXL 17 rfl rfl 6 (by decide) q_564 rfl rfl dL_acts_11 ?_
  refine g_irem (pc := 14) C (nI_ne0 (by omega) (by omega)) dL_acts_14 ?_
  refine G.eqs (st' := [.int (nI u)]) (congrArg (β := List Value) (fun z9 => [.int z9]) (show (((nI aw) - (nI aw) / (nI n) * (nI n)) : Int32) = (nI u) from (by rw [← haw]; exact pk_rem (by omega) (by omega) (by omega)))) ?_
  refine g_istore (pc := 15) C [(6, .int (nI u)), (5, .int (nI v)), (0, .ref lo), (1, .ref o), (2, .int (nI kd)), (3, .int (nI av)), (4, .int (nI aw))] dL_acts_15 (by decide) rfl ?_
  refine g_iload_n (pc := 17) C 4 rfl rfl dL_acts_17 ?_
  refine g_if_ne (pc := 18) C 109 (by decide) dL_acts_18 (fun c_18 => ?_) (fun c_18 => ?_)
  · exact absurd (by rw [hk]; rfl) c_18
  · refine g_aload_n (pc := 21) C 2 rfl rfl dL_acts_21 ?_
    refine g_get (pc := 22) C (T := TXL) inXL 17 rfl rfl 6 (by decide) q_564 rfl rfl dL_acts_22 ?_
    refine g_bipush (pc := 25) (v := 6) C (by decide) dL_acts_25 ?_
    refine g_icmp_eq (pc := 27) C 36 (by decide) dL_acts_27 (fun c_27 => ?_) (fun c_27 => ?_)
    · exact absurd ((nI_eq (a := n) (b := 6) (by omega) (by omega)).mp c_27) (by omega)
    · refine g_iload_n (pc := 30) C 5 rfl rfl dL_acts_30 ?_
      refine g_iconst (pc := 31) (v := 3) C (by decide) dL_acts_31 ?_
      refine g_irem (pc := 32) C (by decide) dL_acts_32 ?_
      refine G.eqs (st' := [.int (nI (av % 3))]) (congrArg (β := List Value) (fun z9 => [.int z9]) (show (((nI av) - (nI av) / 3 * 3) : Int32) = (nI (av % 3)) from (pk_rem (a := av) (d := 3) (by omega) (by omega) (by omega)))) ?_
      refine g_if_le (pc := 33) C 76 (by decide) dL_acts_33 (fun c_33 => ?_) (fun c_33 => ?_)
      · refine g_aload_n (pc := 76) C 2 rfl rfl dL_acts_76 ?_
        refine g_dup (pc := 77) C rfl dL_acts_77 ?_
        refine g_get (pc := 78) C (T := TXL) inXL 17 rfl rfl 6 (by decide) q_564 rfl rfl dL_acts_78 ?_
        refine g_iconst (pc := 81) (v := 1) C (by decide) dL_acts_81 ?_
        refine g_iadd (pc := 82) C dL_acts_82 ?_
        refine G.eqs (st' := [.int (nI (n + 1)), .ref lo]) (congrArg (β := List Value) (fun z9 => [.int z9, .ref lo]) (show (((nI n) + 1) : Int32) = (nI (n + 1)) from nI_1 n)) ?_
        refine g_put (pc := 83) C (T := TXL) inXL 17 rfl rfl 6 (by decide) q_564 rfl tyXL tyXL_ok nmXL rfl [(o, .inr (12, [.ref h, .ref pp, .ref x2, .ref x3, .ref x4, .ref o2, .ref o4, .ref o9, .ref o7, .ref o0, .ref o1])), (h, .inr (5, [.ref jj, .ref dd, .int (nI n), .int (nI z)])), (jj, aI k 36 fj), (dd, aI k 6 fd), (pp, .inr (8, [.ref h, .ref r1, .ref r2, .int tk])), (r1, .inr (10, [.ref a1])), (a1, aI k 6 f), (r2, .inr (10, [.ref a2])), (a2, aI k 6 ct), (o7, .inr (9, [.ref h, .ref s1, .ref s2])), (s1, .inr (10, [.ref b1])), (b1, aI k 6 fp), (s2, .inr (10, [.ref b2])), (b2, aI k 6 fv), (o0, .inr (2, [.ref h, .ref o2, .ref t1, .ref t2, .ref t3, .ref t4, .ref t5])), (t1, .inr (10, [.ref u1])), (u1, aI k 6 fo), (lo, .inr (13, [.ref eo, .ref e1, .ref e2, .ref e3, .ref e4, .ref e5, .int (nI (n + 1)), .int (nI z), .int tk])), (e1, aI k 6 f), (e2, aI k 6 ct), (e3, aI k 6 fo), (e4, aI k 6 (fun j9 => nI (t j9))), (e5, aI k 6 fv)] (tyXL_ok 6 (by decide)) rfl (by rfl) (Nat.le_of_ble_eq_true rfl) rfl dL_acts_83 ?_
        refine g_aload_n (pc := 86) C 2 rfl rfl dL_acts_86 ?_
        refine g_callV (pc := 87) (cells := 0) (slots := 0) (g := 0) (As := []) (st := []) (T := TXL) (q0 := 17) C (nA := 0) rfl (c_L_clear lo eo e1 e2 e3 e4 e5 (n + 1) z tk f ct fo (fun j9 => nI (t j9)) fv ) q_775 q_776 q_774 q_551 q_773 (by decide +kernel) rfl rfl dL_acts_87 ⟨Nat.le_of_ble_eq_true rfl, Nat.le_of_ble_eq_true rfl⟩ [17, 18, 19, 20, 21, 22] [0, 1, 2, 3, 4, 5, 6, 7, 8, 9, 10, 11, 12, 13, 14, 15, 16] rfl (wr := [(o, .inr (12, [.ref h, .ref pp, .ref x2, .ref x3, .ref x4, .ref o2, .ref o4, .ref o9, .ref o7, .ref o0, .ref o1])), (h, .inr (5, [.ref jj, .ref dd, .int (nI n), .int (nI z)])), (jj, aI k 36 fj), (dd, aI k 6 fd), (pp, .inr (8, [.ref h, .ref r1, .ref r2, .int tk])), (r1, .inr (10, [.ref a1])), (a1, aI k 6 f), (r2, .inr (10, [.ref a2])), (a2, aI k 6 ct), (o7, .inr (9, [.ref h, .ref s1, .ref s2])), (s1, .inr (10, [.ref b1])), (b1, aI k 6 fp), (s2, .inr (10, [.ref b2])), (b2, aI k 6 fv), (o0, .inr (2, [.ref h, .ref o2, .ref t1, .ref t2, .ref t3, .ref t4, .ref t5])), (t1, .inr (10, [.ref u1])), (u1, aI k 6 fo)]) rfl (by decide) (by decide) (by decide) (Nat.le_of_ble_eq_true rfl) ⟨Nat.le_of_ble_eq_true rfl, Nat.le_of_ble_eq_true rfl⟩ (fun rv w1 h1 => ?_)
        obtain ⟨rfl, rfl⟩ := h1
        refine G.aft [0, 1, 2, 3, 4, 5, 6, 7, 8, 9, 10, 11, 12, 13, 14, 15, 16, 17, 18, 19, 20, 21, 22] (ws' := [(o, .inr (12, [.ref h, .ref pp, .ref x2, .ref x3, .ref x4, .ref o2, .ref o4, .ref o9, .ref o7, .ref o0, .ref o1])), (h, .inr (5, [.ref jj, .ref dd, .int (nI n), .int (nI z)])), (jj, aI k 36 fj), (dd, aI k 6 fd), (pp, .inr (8, [.ref h, .ref r1, .ref r2, .int tk])), (r1, .inr (10, [.ref a1])), (a1, aI k 6 f), (r2, .inr (10, [.ref a2])), (a2, aI k 6 ct), (o7, .inr (9, [.ref h, .ref s1, .ref s2])), (s1, .inr (10, [.ref b1])), (b1, aI k 6 fp), (s2, .inr (10, [.ref b2])), (b2, aI k 6 fv), (o0, .inr (2, [.ref h, .ref o2, .ref t1, .ref t2, .ref t3, .ref t4, .ref t5])), (t1, .inr (10, [.ref u1])), (u1, aI k 6 fo), (lo, .inr (13, [.ref eo, .ref e1, .ref e2, .ref e3, .ref e4, .ref e5, .int (nI (n + 1)), .int (nI z), .int 0])), (e1, aI k 6 (fun _ => 0)), (e2, aI k 6 (fun _ => 0)), (e3, aI k 6 (fun _ => 0)), (e4, aI k 6 (fun _ => 0)), (e5, aI k 6 (fun _ => 0))]) (st' := []) (cells' := 1) (slots' := 5) (g' := 0) (by decide) rfl rfl rfl rfl rfl ?_
        refine g_aload_n (pc := 90) C 3 rfl rfl dL_acts_90 ?_
        refine g_callSW (pc := 91) (cells := 1) (slots := 5) (g := 0) (As := [.ref o]) (st := []) (b := 0) C (nA := 1) rfl (c_L_vertex o h pp x2 x3 x4 o2 o4 o9 o7 o0 o1 jj dd n z fj fd r1 a1 r2 a2 f ct tk s1 b1 s2 b2 fp fv t1 t2 t3 t4 t5 u1 fo (by first | assumption | decide | omega)) q_778 q_779 q_551 q_777 (by decide +kernel) dL_acts_91 ⟨Nat.le_of_ble_eq_true rfl, Nat.le_of_ble_eq_true rfl⟩ [0, 1, 2, 3, 4, 5, 6, 7, 8, 9, 10, 11, 12, 13, 14, 15, 16] [17, 18, 19, 20, 21, 22] rfl (wr := [(lo, .inr (13, [.ref eo, .ref e1, .ref e2, .ref e3, .ref e4, .ref e5, .int (nI (n + 1)), .int (nI z), .int 0])), (e1, aI k 6 (fun _ => 0)), (e2, aI k 6 (fun _ => 0)), (e3, aI k 6 (fun _ => 0)), (e4, aI k 6 (fun _ => 0)), (e5, aI k 6 (fun _ => 0))]) rfl (by decide) (by decide) (by decide) (Nat.le_of_ble_eq_true rfl) ⟨Nat.le_of_ble_eq_true rfl, Nat.le_of_ble_eq_true rfl⟩ (fun rv w1 h1 => ?_)
        obtain ⟨rfl, rfl⟩ := h1
        refine G.aft [6, 7, 8, 9, 10, 11, 12, 13, 14, 15, 16, 17, 18, 19, 20, 21, 22, 0, 1, 2, 3, 4, 5] (ws' := [(o, .inr (12, [.ref h, .ref pp, .ref x2, .ref x3, .ref x4, .ref o2, .ref o4, .ref o9, .ref o7, .ref o0, .ref o1])), (h, .inr (5, [.ref jj, .ref dd, .int (nI (n + 1)), .int (nI z)])), (jj, aI k 36 fj), (dd, aI k 6 fd), (pp, .inr (8, [.ref h, .ref r1, .ref r2, .int 0])), (r1, .inr (10, [.ref a1])), (a1, aI k 6 (fun _ => 0)), (r2, .inr (10, [.ref a2])), (a2, aI k 6 (fun _ => 0)), (o7, .inr (9, [.ref h, .ref s1, .ref s2])), (s1, .inr (10, [.ref b1])), (b1, aI k 6 (fun _ => 0)), (s2, .inr (10, [.ref b2])), (b2, aI k 6 (fun _ => 0)), (o0, .inr (2, [.ref h, .ref o2, .ref t1, .ref t2, .ref t3, .ref t4, .ref t5])), (t1, .inr (10, [.ref u1])), (u1, aI k 6 (fun _ => 0)), (lo, .inr (13, [.ref eo, .ref e1, .ref e2, .ref e3, .ref e4, .ref e5, .int (nI (n + 1)), .int (nI z), .int 0])), (e1, aI k 6 (fun _ => 0)), (e2, aI k 6 (fun _ => 0)), (e3, aI k 6 (fun _ => 0)), (e4, aI k 6 (fun _ => 0)), (e5, aI k 6 (fun _ => 0))]) (st' := [.int (nI n)]) (cells' := 1) (slots' := 5) (g' := 0) (by decide) rfl rfl rfl rfl rfl ?_
        refine g_aload_n (pc := 94) C 2 rfl rfl dL_acts_94 ?_
        refine g_get (pc := 95) C (T := TXL) inXL 17 rfl rfl 6 (by decide) q_564 rfl rfl dL_acts_95 ?_
        refine g_iconst (pc := 98) (v := 1) C (by decide) dL_acts_98 ?_
        refine g_isub (pc := 99) C dL_acts_99 ?_
        refine G.eqs (st' := [.int (nI n), .int (nI n)]) (congrArg (β := List Value) (fun z9 => [.int z9, .int (nI n)]) (show (((nI (n + 1)) - 1) : Int32) = (nI n) from (nI_pred n))) ?_
        refine g_icmp_ne (pc := 100) C 107 (by decide) dL_acts_100 (fun c_100 => ?_) (fun c_100 => ?_)
        · exact absurd rfl c_100
        · refine g_iconst (pc := 103) (v := 1) C (by decide) dL_acts_103 ?_
          refine g_goto (pc := 104) C 108 (by decide) dL_acts_104 ?_
          exact g_zret (pc := 108) C hr (by first | rfl | exact bI_nar _) hlk (by first | decide | omega) (by first | decide | omega) (by first | decide | omega) dL_acts_108 ⟨rfl, rfl⟩
      · exact absurd (by rw [h3]; decide) c_33
set_option maxRecDepth 100000 in
set_option maxHeartbeats 400000 in
theorem c_L_acts_k1x {l : Launch} {D : va_G} {k : Nat → ClassId} (o : Nat) (h : Nat) (pp : Nat) (x2 : Nat) (x3 : Nat) (x4 : Nat) (o2 : Nat) (o4 : Nat) (o9 : Nat) (o7 : Nat) (o0 : Nat) (o1 : Nat) (jj : Nat) (dd : Nat) (n : Nat) (z : Nat) (fj : Nat → Int32) (fd : Nat → Int32) (lo : Nat) (eo : Nat) (e1 : Nat) (e2 : Nat) (e3 : Nat) (e4 : Nat) (e5 : Nat) (tk : Int32) (E : Nat → Nat → Nat) (kd : Nat) (av : Nat) (aw : Nat) (v : Nat) (u : Nat) (hn : n ≤ 6) (hz : z < n) (hE3 : ∀ i j, E i j ≤ 3) (hav : av % n = v) (haw : aw % n = u) (hv : v < n) (hu : u < n) (hb1 : av ≤ 9000) (hb2 : aw ≤ 9000) (hk1 : 1 ≤ kd) (hk2 : kd ≤ 2) (huv : u = v) : CM l D k yL_acts cL_acts 9 (some .boolean)  8 130 [.ref lo, .ref o, .int (nI kd), .int (nI av), .int (nI aw)] [(o, .inr (12, [.ref h, .ref pp, .ref x2, .ref x3, .ref x4, .ref o2, .ref o4, .ref o9, .ref o7, .ref o0, .ref o1])), (h, .inr (5, [.ref jj, .ref dd, .int (nI n), .int (nI z)])), (jj, aI k 36 fj), (dd, aI k 6 fd), (lo, .inr (13, [.ref eo, .ref e1, .ref e2, .ref e3, .ref e4, .ref e5, .int (nI n), .int (nI z), .int tk]))] (is1 (some (.int 1)) [(o, .inr (12, [.ref h, .ref pp, .ref x2, .ref x3, .ref x4, .ref o2, .ref o4, .ref o9, .ref o7, .ref o0, .ref o1])), (h, .inr (5, [.ref jj, .ref dd, .int (nI n), .int (nI z)])), (jj, aI k 36 fj), (dd, aI k 6 fd), (lo, .inr (13, [.ref eo, .ref e1, .ref e2, .ref e3, .ref e4, .ref e5, .int (nI n), .int (nI z), .int tk]))]) 1 6 0 := by
  refine CM.of (lv0 := [(0, .ref lo), (1, .ref o), (2, .int (nI kd)), (3, .int (nI av)), (4, .int (nI aw))]) (by decide +kernel) (Nat.le_of_ble_eq_true rfl) rfl ?_
  intro p9 e9 s9 m9 bl9 me9 co9 C hr hlk hin had
  refine g_iload_n (pc := 0) C 3 rfl rfl dL_acts_0 ?_
  refine g_aload_n (pc := 1) C 0 rfl rfl dL_acts_1 ?_
  refine g_get (pc := 2) C (T := TXL) inXL 4 rfl rfl 6 (by decide) q_564 rfl rfl dL_acts_2 ?_
  refine g_irem (pc := 5) C (nI_ne0 (by omega) (by omega)) dL_acts_5 ?_
  refine G.eqs (st' := [.int (nI v)]) (congrArg (β := List Value) (fun z9 => [.int z9]) (show (((nI av) - (nI av) / (nI n) * (nI n)) : Int32) = (nI v) from (by rw [← hav]; exact pk_rem (by omega) (by omega) (by omega)))) ?_
  refine g_istore (pc := 6) C [(5, .int (nI v)), (0, .ref lo), (1, .ref o), (2, .int (nI kd)), (3, .int (nI av)), (4, .int (nI aw))] dL_acts_6 (by decide) rfl ?_
  refine g_iload (pc := 8) C 5 rfl dL_acts_8 ?_
  refine g_aload_n (pc := 10) C 1 rfl rfl dL_acts_10 ?_
  refine g_get (pc := 11) C (T := TXL) inXL 4 rfl rfl 6 (by decide) q_564 rfl rfl dL_acts_11 ?_
  refine g_irem (pc := 14) C (nI_ne0 (by omega) (by omega)) dL_acts_14 ?_
  refine G.eqs (st' := [.int (nI u)]) (congrArg (β := List Value) (fun z9 => [.int z9]) (show (((nI aw) - (nI aw) / (nI n) * (nI n)) : Int32) = (nI u) from (by rw [← haw]; exact pk_rem (by omega) (by omega) (by omega)))) ?_
  refine g_istore (pc := 15) C [(6, .int (nI u)), (5, .int (nI v)), (0, .ref lo), (1, .ref o), (2, .int (nI kd)), (3, .int (nI av)), (4, .int (nI aw))] dL_acts_15 (by decide) rfl ?_
  refine g_iload_n (pc := 17) C 4 rfl rfl dL_acts_17 ?_
  refine g_if_ne (pc := 18) C 109 (by decide) dL_acts_18 (fun c_18 => ?_) (fun c_18 => ?_)
  · refine g_iload_n (pc := 109) C 4 rfl rfl dL_acts_109 ?_
    refine g_iconst (pc := 110) (v := 3) C (by decide) dL_acts_110 ?_
    refine g_icmp_ge (pc := 111) C 228 (by decide) dL_acts_111 (fun c_111 => ?_) (fun c_111 => ?_)
    · exact absurd c_111 (nI_ge (b := 3) (a := kd) (by omega) (by omega))
    · refine G.eql (lv' := [(6, .int (nI v)), (5, .int (nI v)), (0, .ref lo), (1, .ref o), (2, .int (nI kd)), (3, .int (nI av)), (4, .int (nI aw))]) (congrArg (β := List (Nat × Value)) (fun z9 => [(6, .int z9), (5, .int (nI v)), (0, .ref lo), (1, .ref o), (2, .int (nI kd)), (3, .int (nI av)), (4, .int (nI aw))]) (show ((nI u) : Int32) = (nI v) from by rw [huv])) ?_
      refine g_aload_n (pc := 114) C 3 rfl rfl dL_acts_114 ?_
      refine g_iload (pc := 115) C 1 rfl dL_acts_115 ?_
      refine g_iload (pc := 117) C 0 rfl dL_acts_117 ?_
      refine g_iload (pc := 119) C 6 rfl dL_acts_119 ?_
      refine g_bipush (pc := 121) (v := 6) C (by decide) dL_acts_121 ?_
      refine g_idiv (pc := 123) C (by decide) dL_acts_123 ?_
      refine g_iconst (pc := 124) (v := 4) C (by decide) dL_acts_124 ?_
      refine g_irem (pc := 125) C (by decide) dL_acts_125 ?_
      refine G.eqs (st' := [.int (nI (aw / 6 % 4)), .int (nI v), .int (nI v), .ref o]) (congrArg (β := List Value) (fun z9 => [.int z9, .int (nI v), .int (nI v), .ref o]) (show ((((nI aw) / 6) - ((nI aw) / 6) / 4 * 4) : Int32) = (nI (aw / 6 % 4)) from (by rw [show (6 : Int32) = nI 6 from rfl, show (4 : Int32) = nI 4 from rfl, pk_div (by omega) (by omega) (by omega)]; exact pk_rem (by omega) (by omega) (by omega)))) ?_
      refine g_callSW (pc := 126) (cells := 0) (slots := 0) (g := 0) (As := [.ref o, .int (nI v), .int (nI v), .int (nI (aw / 6 % 4))]) (st := []) (b := 0) C (nA := 4) rfl (c_L_edges_x o h pp x2 x3 x4 o2 o4 o9 o7 o0 o1 jj dd n z fj fd v (nI (aw / 6 % 4)) (by first | assumption | decide | omega) (by first | assumption | decide | omega)) q_781 q_782 q_551 q_780 (by decide +kernel) dL_acts_126 ⟨Nat.le_of_ble_eq_true rfl, Nat.le_of_ble_eq_true rfl⟩ [0, 1, 2, 3] [4] rfl (wr := [(lo, .inr (13, [.ref eo, .ref e1, .ref e2, .ref e3, .ref e4, .ref e5, .int (nI n), .int (nI z), .int tk]))]) rfl (by decide) (by decide) (by decide) (Nat.le_of_ble_eq_true rfl) ⟨Nat.le_of_ble_eq_true rfl, Nat.le_of_ble_eq_true rfl⟩ (fun rv w1 h1 => ?_)
      obtain ⟨rfl, rfl⟩ := h1
      refine G.aft [1, 2, 3, 4, 0] (ws' := [(o, .inr (12, [.ref h, .ref pp, .ref x2, .ref x3, .ref x4, .ref o2, .ref o4, .ref o9, .ref o7, .ref o0, .ref o1])), (h, .inr (5, [.ref jj, .ref dd, .int (nI n), .int (nI z)])), (jj, aI k 36 fj), (dd, aI k 6 fd), (lo, .inr (13, [.ref eo, .ref e1, .ref e2, .ref e3, .ref e4, .ref e5, .int (nI n), .int (nI z), .int tk]))]) (st' := [.int (-1000002)]) (cells' := 1) (slots' := 6) (g' := 0) (by decide) rfl rfl rfl rfl rfl ?_
      refine g_istore (pc := 129) C [(7, .int (-1000002)), (6, .int (nI v)), (5, .int (nI v)), (0, .ref lo), (1, .ref o), (2, .int (nI kd)), (3, .int (nI av)), (4, .int (nI aw))] dL_acts_129 (by decide) rfl ?_
      refine g_iload (pc := 131) C 2 rfl dL_acts_131 ?_
      refine g_iload (pc := 133) C 1 rfl dL_acts_133 ?_
      refine g_icmp_ne (pc := 135) C 153 (by decide) dL_acts_135 (fun c_135 => ?_) (fun c_135 => ?_)
      · exact absurd rfl c_135
      · refine g_iload (pc := 138) C 0 rfl dL_acts_138 ?_
        refine g_iconst (pc := 140) (v := 2) C (by decide) dL_acts_140 ?_
        refine g_callS (pc := 141) (cells := 1) (slots := 6) (g := 0) (As := [.int 2]) (st := [.int (-1000002)]) (b := 0) C (nA := 1) rfl (c_L_bad 2 ) q_710 q_711 q_551 q_709 (by decide +kernel) dL_acts_141 ⟨Nat.le_of_ble_eq_true rfl, Nat.le_of_ble_eq_true rfl⟩ [] [0, 1, 2, 3, 4] rfl (wr := [(o, .inr (12, [.ref h, .ref pp, .ref x2, .ref x3, .ref x4, .ref o2, .ref o4, .ref o9, .ref o7, .ref o0, .ref o1])), (h, .inr (5, [.ref jj, .ref dd, .int (nI n), .int (nI z)])), (jj, aI k 36 fj), (dd, aI k 6 fd), (lo, .inr (13, [.ref eo, .ref e1, .ref e2, .ref e3, .ref e4, .ref e5, .int (nI n), .int (nI z), .int tk]))]) rfl (by decide) (by decide) (by decide) (Nat.le_of_ble_eq_true rfl) ⟨Nat.le_of_ble_eq_true rfl, Nat.le_of_ble_eq_true rfl⟩ (fun rv w1 h1 => ?_)
        obtain ⟨rfl, rfl⟩ := h1
        refine G.aft [0, 1, 2, 3, 4] (ws' := [(o, .inr (12, [.ref h, .ref pp, .ref x2, .ref x3, .ref x4, .ref o2, .ref o4, .ref o9, .ref o7, .ref o0, .ref o1])), (h, .inr (5, [.ref jj, .ref dd, .int (nI n), .int (nI z)])), (jj, aI k 36 fj), (dd, aI k 6 fd), (lo, .inr (13, [.ref eo, .ref e1, .ref e2, .ref e3, .ref e4, .ref e5, .int (nI n), .int (nI z), .int tk]))]) (st' := [.int (-1000000 - 2), .int (-1000002)]) (cells' := 1) (slots' := 6) (g' := 0) (by decide) rfl rfl rfl rfl rfl ?_
        refine g_icmp_ne (pc := 144) C 151 (by decide) dL_acts_144 (fun c_144 => ?_) (fun c_144 => ?_)
        · exact absurd c_144 (by decide)
        · refine g_iconst (pc := 147) (v := 1) C (by decide) dL_acts_147 ?_
          refine g_goto (pc := 148) C 152 (by decide) dL_acts_148 ?_
          exact g_zret (pc := 152) C hr (by first | rfl | exact bI_nar _) hlk (by first | decide | omega) (by first | decide | omega) (by first | decide | omega) dL_acts_152 ⟨rfl, rfl⟩
  · exact absurd c_18 (nI_ne0 (by omega) (by omega))
/-- edges between v and u, both ways -/
def jnE (E : Nat → Nat → Nat) (v u x : Nat) : Nat → Nat → Nat := fun a b => if (a = v ∧ b = u) ∨ (a = u ∧ b = v) then x else E a b
theorem jn_at {E : Nat → Nat → Nat} {v u x a b : Nat} (h : ¬ v = u) : eU (eU (EN E) v u (nI x)) u v (nI x) a b = EN (jnE E v u x) a b := by
  unfold eU EN jnE upd
  by_cases h1 : a = u
  · subst h1
    by_cases h2 : b = v
    · subst h2; simp
    · have h3 : ¬ a = v := fun q => h q.symm
      simp [h2, h3]
  · by_cases h2 : a = v
    · subst h2
      by_cases h3 : b = u
      · subst h3; simp [h1]
      · simp [h1, h3]
    · simp [h1, h2]
theorem jn_same {E : Nat → Nat → Nat} {v u x a b : Nat} (hS : ∀ i j, E i j = E j i) (h : E v u = x) : jnE E v u x a b = E a b := by
  unfold jnE
  by_cases q : (a = v ∧ b = u) ∨ (a = u ∧ b = v)
  · rw [if_pos q]
    rcases q with ⟨rfl, rfl⟩ | ⟨rfl, rfl⟩
    · exact h.symm
    · rw [← h]; exact hS _ _
  · rw [if_neg q]
set_option maxRecDepth 100000 in
set_option maxHeartbeats 400000 in
theorem c_L_acts_k1s {l : Launch} {D : va_G} {k : Nat → ClassId} (o : Nat) (h : Nat) (pp : Nat) (x2 : Nat) (x3 : Nat) (x4 : Nat) (o2 : Nat) (o4 : Nat) (o9 : Nat) (o7 : Nat) (o0 : Nat) (o1 : Nat) (jj : Nat) (dd : Nat) (n : Nat) (z : Nat) (fj : Nat → Int32) (fd : Nat → Int32) (lo : Nat) (eo : Nat) (e1 : Nat) (e2 : Nat) (e3 : Nat) (e4 : Nat) (e5 : Nat) (tk : Int32) (er : Nat → Nat) (E : Nat → Nat → Nat) (kd : Nat) (av : Nat) (aw : Nat) (v : Nat) (u : Nat) (hn : n ≤ 6) (hz : z < n) (hE3 : ∀ i j, E i j ≤ 3) (hav : av % n = v) (haw : aw % n = u) (hv : v < n) (hu : u < n) (hb1 : av ≤ 9000) (hb2 : aw ≤ 9000) (hk1 : 1 ≤ kd) (hk2 : kd ≤ 2) (hvu : ¬ v = u) (hfj : fj (v * 6 + u) = nI (E v u)) (hsm : E v u = aw / 6 % 4) (hS : ∀ i j, E i j = E j i) : CM l D k yL_acts cL_acts 9 (some .boolean)  4 90 [.ref lo, .ref o, .int (nI kd), .int (nI av), .int (nI aw)] [(o, .inr (12, [.ref h, .ref pp, .ref x2, .ref x3, .ref x4, .ref o2, .ref o4, .ref o9, .ref o7, .ref o0, .ref o1])), (h, .inr (5, [.ref jj, .ref dd, .int (nI n), .int (nI z)])), (jj, aI k 36 fj), (dd, aI k 6 fd), (lo, .inr (13, [.ref eo, .ref e1, .ref e2, .ref e3, .ref e4, .ref e5, .int (nI n), .int (nI z), .int tk])), (eo, aR k 3 6 (fun i9 => if i9 < 6 then some (er i9) else none)), ((er 0), aI k 6 (EN E 0)), ((er 1), aI k 6 (EN E 1)), ((er 2), aI k 6 (EN E 2)), ((er 3), aI k 6 (EN E 3)), ((er 4), aI k 6 (EN E 4)), ((er 5), aI k 6 (EN E 5))] (is1 (some (.int 1)) [(o, .inr (12, [.ref h, .ref pp, .ref x2, .ref x3, .ref x4, .ref o2, .ref o4, .ref o9, .ref o7, .ref o0, .ref o1])), (h, .inr (5, [.ref jj, .ref dd, .int (nI n), .int (nI z)])), (jj, aI k 36 fj), (dd, aI k 6 fd), (lo, .inr (13, [.ref eo, .ref e1, .ref e2, .ref e3, .ref e4, .ref e5, .int (nI n), .int (nI z), .int tk])), (eo, aR k 3 6 (fun i9 => if i9 < 6 then some (er i9) else none)), ((er 0), aI k 6 (EN E 0)), ((er 1), aI k 6 (EN E 1)), ((er 2), aI k 6 (EN E 2)), ((er 3), aI k 6 (EN E 3)), ((er 4), aI k 6 (EN E 4)), ((er 5), aI k 6 (EN E 5))]) 0 0 0 := by
  refine CM.of (lv0 := [(0, .ref lo), (1, .ref o), (2, .int (nI kd)), (3, .int (nI av)), (4, .int (nI aw))]) (by decide +kernel) (Nat.le_of_ble_eq_true rfl) rfl ?_
  intro p9 e9 s9 m9 bl9 me9 co9 C hr hlk hin had
  refine g_iload_n (pc := 0) C 3 rfl rfl dL_acts_0 ?_
  refine g_aload_n (pc := 1) C 0 rfl rfl dL_acts_1 ?_
  refine g_get (pc := 2) C (T := TXL) inXL 4 rfl rfl 6 (by decide) q_564 rfl rfl dL_acts_2 ?_
  refine g_irem (pc := 5) C (nI_ne0 (by omega) (by omega)) dL_acts_5 ?_
  refine G.eqs (st' := [.int (nI v)]) (congrArg (β := List Value) (fun z9 => [.int z9]) (show (((nI av) - (nI av) / (nI n) * (nI n)) : Int32) = (nI v) from (by rw [← hav]; exact pk_rem (by omega) (by omega) (by omega)))) ?_
  refine g_istore (pc := 6) C [(5, .int (nI v)), (0, .ref lo), (1, .ref o), (2, .int (nI kd)), (3, .int (nI av)), (4, .int (nI aw))] dL_acts_6 (by decide) rfl ?_
  refine g_iload (pc := 8) C 5 rfl dL_acts_8 ?_
  refine g_aload_n (pc := 10) C 1 rfl rfl dL_acts_10 ?_
  refine g_get (pc := 11) C (T := TXL) inXL 4 rfl rfl 6 (by decide) q_564 rfl rfl dL_acts_11 ?_
  refine g_irem (pc := 14) C (nI_ne0 (by omega) (by omega)) dL_acts_14 ?_
  refine G.eqs (st' := [.int (nI u)]) (congrArg (β := List Value) (fun z9 => [.int z9]) (show (((nI aw) - (nI aw) / (nI n) * (nI n)) : Int32) = (nI u) from (by rw [← haw]; exact pk_rem (by omega) (by omega) (by omega)))) ?_
  refine g_istore (pc := 15) C [(6, .int (nI u)), (5, .int (nI v)), (0, .ref lo), (1, .ref o), (2, .int (nI kd)), (3, .int (nI av)), (4, .int (nI aw))] dL_acts_15 (by decide) rfl ?_
  refine g_iload_n (pc := 17) C 4 rfl rfl dL_acts_17 ?_
  refine g_if_ne (pc := 18) C 109 (by decide) dL_acts_18 (fun c_18 => ?_) (fun c_18 => ?_)
  · refine g_iload_n (pc := 109) C 4 rfl rfl dL_acts_109 ?_
    refine g_iconst (pc := 110) (v := 3) C (by decide) dL_acts_110 ?_
    refine g_icmp_ge (pc := 111) C 228 (by decide) dL_acts_111 (fun c_111 => ?_) (fun c_111 => ?_)
    · exact absurd c_111 (nI_ge (b := 3) (a := kd) (by omega) (by omega))
    · refine g_aload_n (pc := 114) C 3 rfl rfl dL_acts_114 ?_
      refine g_iload (pc := 115) C 1 rfl dL_acts_115 ?_
      refine g_iload (pc := 117) C 0 rfl dL_acts_117 ?_
      refine g_iload (pc := 119) C 6 rfl dL_acts_119 ?_
      refine g_bipush (pc := 121) (v := 6) C (by decide) dL_acts_121 ?_
      refine g_idiv (pc := 123) C (by decide) dL_acts_123 ?_
      refine g_iconst (pc := 124) (v := 4) C (by decide) dL_acts_124 ?_
      refine g_irem (pc := 125) C (by decide) dL_acts_125 ?_
      refine G.eqs (st' := [.int (nI (aw / 6 % 4)), .int (nI u), .int (nI v), .ref o]) (congrArg (β := List Value) (fun z9 => [.int z9, .int (nI u), .int (nI v), .ref o]) (show ((((nI aw) / 6) - ((nI aw) / 6) / 4 * 4) : Int32) = (nI (aw / 6 % 4)) from (by rw [show (6 : Int32) = nI 6 from rfl, show (4 : Int32) = nI 4 from rfl, pk_div (by omega) (by omega) (by omega)]; exact pk_rem (by omega) (by omega) (by omega)))) ?_
      refine g_callSW (pc := 126) (cells := 0) (slots := 0) (g := 0) (As := [.ref o, .int (nI v), .int (nI u), .int (nI (aw / 6 % 4))]) (st := []) (b := 0) C (nA := 4) rfl (c_L_edges_s o h pp x2 x3 x4 o2 o4 o9 o7 o0 o1 jj dd n z fj fd v u (aw / 6 % 4) (by first | assumption | decide | omega) (by first | assumption | decide | omega) (by first | assumption | decide | omega) hvu (by omega) (by rw [hfj, hsm])) q_781 q_782 q_551 q_780 (by decide +kernel) dL_acts_126 ⟨Nat.le_of_ble_eq_true rfl, Nat.le_of_ble_eq_true rfl⟩ [0, 1, 2, 3] [4, 5, 6, 7, 8, 9, 10, 11] rfl (wr := [(lo, .inr (13, [.ref eo, .ref e1, .ref e2, .ref e3, .ref e4, .ref e5, .int (nI n), .int (nI z), .int tk])), (eo, aR k 3 6 (fun i9 => if i9 < 6 then some (er i9) else none)), ((er 0), aI k 6 (EN E 0)), ((er 1), aI k 6 (EN E 1)), ((er 2), aI k 6 (EN E 2)), ((er 3), aI k 6 (EN E 3)), ((er 4), aI k 6 (EN E 4)), ((er 5), aI k 6 (EN E 5))]) rfl (by decide) (by decide) (by decide) (Nat.le_of_ble_eq_true rfl) ⟨Nat.le_of_ble_eq_true rfl, Nat.le_of_ble_eq_true rfl⟩ (fun rv w1 h1 => ?_)
      obtain ⟨rfl, rfl⟩ := h1
      refine G.aft [8, 9, 10, 11, 0, 1, 2, 3, 4, 5, 6, 7] (ws' := [(o, .inr (12, [.ref h, .ref pp, .ref x2, .ref x3, .ref x4, .ref o2, .ref o4, .ref o9, .ref o7, .ref o0, .ref o1])), (h, .inr (5, [.ref jj, .ref dd, .int (nI n), .int (nI z)])), (jj, aI k 36 fj), (dd, aI k 6 fd), (lo, .inr (13, [.ref eo, .ref e1, .ref e2, .ref e3, .ref e4, .ref e5, .int (nI n), .int (nI z), .int tk])), (eo, aR k 3 6 (fun i9 => if i9 < 6 then some (er i9) else none)), ((er 0), aI k 6 (EN E 0)), ((er 1), aI k 6 (EN E 1)), ((er 2), aI k 6 (EN E 2)), ((er 3), aI k 6 (EN E 3)), ((er 4), aI k 6 (EN E 4)), ((er 5), aI k 6 (EN E 5))]) (st' := [.int (fj (v * 6 + u))]) (cells' := 0) (slots' := 0) (g' := 0) (by decide) rfl rfl rfl rfl rfl ?_
      refine g_istore (pc := 129) C [(7, .int (fj (v * 6 + u))), (6, .int (nI u)), (5, .int (nI v)), (0, .ref lo), (1, .ref o), (2, .int (nI kd)), (3, .int (nI av)), (4, .int (nI aw))] dL_acts_129 (by decide) rfl ?_
      refine g_iload (pc := 131) C 2 rfl dL_acts_131 ?_
      refine g_iload (pc := 133) C 1 rfl dL_acts_133 ?_
      refine g_icmp_ne (pc := 135) C 153 (by decide) dL_acts_135 (fun c_135 => ?_) (fun c_135 => ?_)
      · refine g_aload_n (pc := 153) C 3 rfl rfl dL_acts_153 ?_
        refine g_get (pc := 154) C (T := TXL) inXL 4 rfl rfl 0 (by decide) q_561 rfl rfl dL_acts_154 ?_
        refine g_iload (pc := 157) C 2 rfl dL_acts_157 ?_
        refine g_aald (pc := 159) C (j := v) (b := er v) 5 rfl (by omega) (by decide) rfl (if_pos (by omega)) dL_acts_159 ?_
        refine g_iload (pc := 160) C 1 rfl dL_acts_160 ?_
        refine g_iald_n (pc := 162) (a := (er v)) (n := 6) (f := (EN E v)) C (j := u) (6 + v) (by rcases (show v = 0 ∨ v = 1 ∨ v = 2 ∨ v = 3 ∨ v = 4 ∨ v = 5 by omega) with h9 | h9 | h9 | h9 | h9 | h9 <;> rw [h9] <;> rfl) (by omega) (by first | decide | omega) rfl dL_acts_162 ?_
        refine G.eqs (st' := [.int (nI (E v u))]) (congrArg (β := List Value) (fun z9 => [.int z9]) (show (((EN E v) u) : Int32) = (nI (E v u)) from rfl)) ?_
        refine g_istore (pc := 163) C [(8, .int (nI (E v u))), (7, .int (fj (v * 6 + u))), (6, .int (nI u)), (5, .int (nI v)), (0, .ref lo), (1, .ref o), (2, .int (nI kd)), (3, .int (nI av)), (4, .int (nI aw))] dL_acts_163 (by decide) rfl ?_
        refine g_aload_n (pc := 165) C 4 rfl rfl dL_acts_165 ?_
        refine g_get (pc := 166) C (T := TXL) inXL 4 rfl rfl 0 (by decide) q_561 rfl rfl dL_acts_166 ?_
        refine g_iload (pc := 169) C 3 rfl dL_acts_169 ?_
        refine g_aald (pc := 171) C (j := v) (b := er v) 5 rfl (by omega) (by decide) rfl (if_pos (by omega)) dL_acts_171 ?_
        refine g_iload (pc := 172) C 2 rfl dL_acts_172 ?_
        refine g_iload (pc := 174) C 8 rfl dL_acts_174 ?_
        refine g_bipush (pc := 176) (v := 6) C (by decide) dL_acts_176 ?_
        refine g_idiv (pc := 178) C (by decide) dL_acts_178 ?_
        refine g_iconst (pc := 179) (v := 4) C (by decide) dL_acts_179 ?_
        refine g_irem (pc := 180) C (by decide) dL_acts_180 ?_
        refine G.eqs (st' := [.int (nI (aw / 6 % 4)), .int (nI u), .ref (er v)]) (congrArg (β := List Value) (fun z9 => [.int z9, .int (nI u), .ref (er v)]) (show ((((nI aw) / 6) - ((nI aw) / 6) / 4 * 4) : Int32) = (nI (aw / 6 % 4)) from (by rw [show (6 : Int32) = nI 6 from rfl, show (4 : Int32) = nI 4 from rfl, pk_div (by omega) (by omega) (by omega)]; exact pk_rem (by omega) (by omega) (by omega)))) ?_
        refine g_iast_n (pc := 181) (a := (er v)) (n := 6) (f := EN E v) C (j := u) (6 + v) [(o, .inr (12, [.ref h, .ref pp, .ref x2, .ref x3, .ref x4, .ref o2, .ref o4, .ref o9, .ref o7, .ref o0, .ref o1])), (h, .inr (5, [.ref jj, .ref dd, .int (nI n), .int (nI z)])), (jj, aI k 36 fj), (dd, aI k 6 fd), (lo, .inr (13, [.ref eo, .ref e1, .ref e2, .ref e3, .ref e4, .ref e5, .int (nI n), .int (nI z), .int tk])), (eo, aR k 3 6 (fun i9 => if i9 < 6 then some (er i9) else none)), ((er 0), aI k 6 ((eU (EN E) v u (nI (aw / 6 % 4))) 0)), ((er 1), aI k 6 ((eU (EN E) v u (nI (aw / 6 % 4))) 1)), ((er 2), aI k 6 ((eU (EN E) v u (nI (aw / 6 % 4))) 2)), ((er 3), aI k 6 ((eU (EN E) v u (nI (aw / 6 % 4))) 3)), ((er 4), aI k 6 ((eU (EN E) v u (nI (aw / 6 % 4))) 4)), ((er 5), aI k 6 ((eU (EN E) v u (nI (aw / 6 % 4))) 5))] (by rcases (show v = 0 ∨ v = 1 ∨ v = 2 ∨ v = 3 ∨ v = 4 ∨ v = 5 by omega) with h9 | h9 | h9 | h9 | h9 | h9 <;> rw [h9] <;> rfl) (by omega) (by decide) rfl (by rcases (show v = 0 ∨ v = 1 ∨ v = 2 ∨ v = 3 ∨ v = 4 ∨ v = 5 by omega) with h9 | h9 | h9 | h9 | h9 | h9 <;> rw [h9] <;> rfl) dL_acts_181 ?_
        refine g_aload_n (pc := 182) C 4 rfl rfl dL_acts_182 ?_
        refine g_get (pc := 183) C (T := TXL) inXL 4 rfl rfl 0 (by decide) q_561 rfl rfl dL_acts_183 ?_
        refine g_iload (pc := 186) C 2 rfl dL_acts_186 ?_
        refine g_aald (pc := 188) C (j := u) (b := er u) 5 rfl (by omega) (by decide) rfl (if_pos (by omega)) dL_acts_188 ?_
        refine g_iload (pc := 189) C 3 rfl dL_acts_189 ?_
        refine g_iload (pc := 191) C 8 rfl dL_acts_191 ?_
        refine g_bipush (pc := 193) (v := 6) C (by decide) dL_acts_193 ?_
        refine g_idiv (pc := 195) C (by decide) dL_acts_195 ?_
        refine g_iconst (pc := 196) (v := 4) C (by decide) dL_acts_196 ?_
        refine g_irem (pc := 197) C (by first | assumption | decide) dL_acts_197 ?_
        refine G.eqs (st' := [.int (nI (aw / 6 % 4)), .int (nI v), .ref (er u)]) (congrArg (β := List Value) (fun z9 => [.int z9, .int (nI v), .ref (er u)]) (show ((((nI aw) / 6) - ((nI aw) / 6) / 4 * 4) : Int32) = (nI (aw / 6 % 4)) from (by rw [show (6 : Int32) = nI 6 from rfl, show (4 : Int32) = nI 4 from rfl, pk_div (by omega) (by omega) (by omega)]; exact pk_rem (by omega) (by omega) (by omega)))) ?_
        refine g_iast_n (pc := 198) (a := (er u)) (n := 6) (f := (eU (EN E) v u (nI (aw / 6 % 4))) u) C (j := v) (6 + u) [(o, .inr (12, [.ref h, .ref pp, .ref x2, .ref x3, .ref x4, .ref o2, .ref o4, .ref o9, .ref o7, .ref o0, .ref o1])), (h, .inr (5, [.ref jj, .ref dd, .int (nI n), .int (nI z)])), (jj, aI k 36 fj), (dd, aI k 6 fd), (lo, .inr (13, [.ref eo, .ref e1, .ref e2, .ref e3, .ref e4, .ref e5, .int (nI n), .int (nI z), .int tk])), (eo, aR k 3 6 (fun i9 => if i9 < 6 then some (er i9) else none)), ((er 0), aI k 6 ((eU (eU (EN E) v u (nI (aw / 6 % 4))) u v (nI (aw / 6 % 4))) 0)), ((er 1), aI k 6 ((eU (eU (EN E) v u (nI (aw / 6 % 4))) u v (nI (aw / 6 % 4))) 1)), ((er 2), aI k 6 ((eU (eU (EN E) v u (nI (aw / 6 % 4))) u v (nI (aw / 6 % 4))) 2)), ((er 3), aI k 6 ((eU (eU (EN E) v u (nI (aw / 6 % 4))) u v (nI (aw / 6 % 4))) 3)), ((er 4), aI k 6 ((eU (eU (EN E) v u (nI (aw / 6 % 4))) u v (nI (aw / 6 % 4))) 4)), ((er 5), aI k 6 ((eU (eU (EN E) v u (nI (aw / 6 % 4))) u v (nI (aw / 6 % 4))) 5))] (by rcases (show u = 0 ∨ u = 1 ∨ u = 2 ∨ u = 3 ∨ u = 4 ∨ u = 5 by omega) with h9 | h9 | h9 | h9 | h9 | h9 <;> rw [h9] <;> rfl) (by omega) (by decide) rfl (by rcases (show u = 0 ∨ u = 1 ∨ u = 2 ∨ u = 3 ∨ u = 4 ∨ u = 5 by omega) with h9 | h9 | h9 | h9 | h9 | h9 <;> rw [h9] <;> rfl) dL_acts_198 ?_
        refine g_iload (pc := 199) C 0 rfl dL_acts_199 ?_
        refine g_iload (pc := 201) C 8 rfl dL_acts_201 ?_
        refine g_bipush (pc := 203) (v := 6) C (by decide) dL_acts_203 ?_
        refine g_idiv (pc := 205) C (by decide) dL_acts_205 ?_
        refine g_iconst (pc := 206) (v := 4) C (by decide) dL_acts_206 ?_
        refine g_irem (pc := 207) C (by decide) dL_acts_207 ?_
        refine G.eqs (st' := [.int (nI (aw / 6 % 4)), .int (nI (E v u))]) (congrArg (β := List Value) (fun z9 => [.int z9, .int (nI (E v u))]) (show ((((nI aw) / 6) - ((nI aw) / 6) / 4 * 4) : Int32) = (nI (aw / 6 % 4)) from (by rw [show (6 : Int32) = nI 6 from rfl, show (4 : Int32) = nI 4 from rfl, pk_div (by omega) (by omega) (by omega)]; exact pk_rem (by omega) (by omega) (by omega)))) ?_
        refine g_icmp_eq (pc := 208) C 215 (by decide) dL_acts_208 (fun c_208 => ?_) (fun c_208 => ?_)
        · refine g_iload (pc := 215) C 1 rfl dL_acts_215 ?_
          refine g_iload (pc := 217) C 0 rfl dL_acts_217 ?_
          refine g_icmp_ne (pc := 219) C 226 (by decide) dL_acts_219 (fun c_219 => ?_) (fun c_219 => ?_)
          · exact absurd hfj c_219
          · refine g_iconst (pc := 222) (v := 1) C (by decide) dL_acts_222 ?_
            refine g_goto (pc := 223) C 227 (by decide) dL_acts_223 ?_
            refine G.fn (EN E 0) 6 [(o, .inr (12, [.ref h, .ref pp, .ref x2, .ref x3, .ref x4, .ref o2, .ref o4, .ref o9, .ref o7, .ref o0, .ref o1])), (h, .inr (5, [.ref jj, .ref dd, .int (nI n), .int (nI z)])), (jj, aI k 36 fj), (dd, aI k 6 fd), (lo, .inr (13, [.ref eo, .ref e1, .ref e2, .ref e3, .ref e4, .ref e5, .int (nI n), .int (nI z), .int tk])), (eo, aR k 3 6 (fun i9 => if i9 < 6 then some (er i9) else none)), ((er 0), aI k 6 (EN E 0)), ((er 1), aI k 6 ((eU (eU (EN E) v u (nI (aw / 6 % 4))) u v (nI (aw / 6 % 4))) 1)), ((er 2), aI k 6 ((eU (eU (EN E) v u (nI (aw / 6 % 4))) u v (nI (aw / 6 % 4))) 2)), ((er 3), aI k 6 ((eU (eU (EN E) v u (nI (aw / 6 % 4))) u v (nI (aw / 6 % 4))) 3)), ((er 4), aI k 6 ((eU (eU (EN E) v u (nI (aw / 6 % 4))) u v (nI (aw / 6 % 4))) 4)), ((er 5), aI k 6 ((eU (eU (EN E) v u (nI (aw / 6 % 4))) u v (nI (aw / 6 % 4))) 5))] rfl (fun j hj => by { rw [jn_at hvu]; show nI (jnE E v u (aw / 6 % 4) _ _) = nI (E _ _); rw [jn_same hS hsm] }) rfl ?_
            refine G.fn (EN E 1) 7 [(o, .inr (12, [.ref h, .ref pp, .ref x2, .ref x3, .ref x4, .ref o2, .ref o4, .ref o9, .ref o7, .ref o0, .ref o1])), (h, .inr (5, [.ref jj, .ref dd, .int (nI n), .int (nI z)])), (jj, aI k 36 fj), (dd, aI k 6 fd), (lo, .inr (13, [.ref eo, .ref e1, .ref e2, .ref e3, .ref e4, .ref e5, .int (nI n), .int (nI z), .int tk])), (eo, aR k 3 6 (fun i9 => if i9 < 6 then some (er i9) else none)), ((er 0), aI k 6 (EN E 0)), ((er 1), aI k 6 (EN E 1)), ((er 2), aI k 6 ((eU (eU (EN E) v u (nI (aw / 6 % 4))) u v (nI (aw / 6 % 4))) 2)), ((er 3), aI k 6 ((eU (eU (EN E) v u (nI (aw / 6 % 4))) u v (nI (aw / 6 % 4))) 3)), ((er 4), aI k 6 ((eU (eU (EN E) v u (nI (aw / 6 % 4))) u v (nI (aw / 6 % 4))) 4)), ((er 5), aI k 6 ((eU (eU (EN E) v u (nI (aw / 6 % 4))) u v (nI (aw / 6 % 4))) 5))] rfl (fun j hj => by { rw [jn_at hvu]; show nI (jnE E v u (aw / 6 % 4) _ _) = nI (E _ _); rw [jn_same hS hsm] }) rfl ?_
            refine G.fn (EN E 2) 8 [(o, .inr (12, [.ref h, .ref pp, .ref x2, .ref x3, .ref x4, .ref o2, .ref o4, .ref o9, .ref o7, .ref o0, .ref o1])), (h, .inr (5, [.ref jj, .ref dd, .int (nI n), .int (nI z)])), (jj, aI k 36 fj), (dd, aI k 6 fd), (lo, .inr (13, [.ref eo, .ref e1, .ref e2, .ref e3, .ref e4, .ref e5, .int (nI n), .int (nI z), .int tk])), (eo, aR k 3 6 (fun i9 => if i9 < 6 then some (er i9) else none)), ((er 0), aI k 6 (EN E 0)), ((er 1), aI k 6 (EN E 1)), ((er 2), aI k 6 (EN E 2)), ((er 3), aI k 6 ((eU (eU (EN E) v u (nI (aw / 6 % 4))) u v (nI (aw / 6 % 4))) 3)), ((er 4), aI k 6 ((eU (eU (EN E) v u (nI (aw / 6 % 4))) u v (nI (aw / 6 % 4))) 4)), ((er 5), aI k 6 ((eU (eU (EN E) v u (nI (aw / 6 % 4))) u v (nI (aw / 6 % 4))) 5))] rfl (fun j hj => by { rw [jn_at hvu]; show nI (jnE E v u (aw / 6 % 4) _ _) = nI (E _ _); rw [jn_same hS hsm] }) rfl ?_
            refine G.fn (EN E 3) 9 [(o, .inr (12, [.ref h, .ref pp, .ref x2, .ref x3, .ref x4, .ref o2, .ref o4, .ref o9, .ref o7, .ref o0, .ref o1])), (h, .inr (5, [.ref jj, .ref dd, .int (nI n), .int (nI z)])), (jj, aI k 36 fj), (dd, aI k 6 fd), (lo, .inr (13, [.ref eo, .ref e1, .ref e2, .ref e3, .ref e4, .ref e5, .int (nI n), .int (nI z), .int tk])), (eo, aR k 3 6 (fun i9 => if i9 < 6 then some (er i9) else none)), ((er 0), aI k 6 (EN E 0)), ((er 1), aI k 6 (EN E 1)), ((er 2), aI k 6 (EN E 2)), ((er 3), aI k 6 (EN E 3)), ((er 4), aI k 6 ((eU (eU (EN E) v u (nI (aw / 6 % 4))) u v (nI (aw / 6 % 4))) 4)), ((er 5), aI k 6 ((eU (eU (EN E) v u (nI (aw / 6 % 4))) u v (nI (aw / 6 % 4))) 5))] rfl (fun j hj => by { rw [jn_at hvu]; show nI (jnE E v u (aw / 6 % 4) _ _) = nI (E _ _); rw [jn_same hS hsm] }) rfl ?_
            refine G.fn (EN E 4) 10 [(o, .inr (12, [.ref h, .ref pp, .ref x2, .ref x3, .ref x4, .ref o2, .ref o4, .ref o9, .ref o7, .ref o0, .ref o1])), (h, .inr (5, [.ref jj, .ref dd, .int (nI n), .int (nI z)])), (jj, aI k 36 fj), (dd, aI k 6 fd), (lo, .inr (13, [.ref eo, .ref e1, .ref e2, .ref e3, .ref e4, .ref e5, .int (nI n), .int (nI z), .int tk])), (eo, aR k 3 6 (fun i9 => if i9 < 6 then some (er i9) else none)), ((er 0), aI k 6 (EN E 0)), ((er 1), aI k 6 (EN E 1)), ((er 2), aI k 6 (EN E 2)), ((er 3), aI k 6 (EN E 3)), ((er 4), aI k 6 (EN E 4)), ((er 5), aI k 6 ((eU (eU (EN E) v u (nI (aw / 6 % 4))) u v (nI (aw / 6 % 4))) 5))] rfl (fun j hj => by { rw [jn_at hvu]; show nI (jnE E v u (aw / 6 % 4) _ _) = nI (E _ _); rw [jn_same hS hsm] }) rfl ?_
            refine G.fn (EN E 5) 11 [(o, .inr (12, [.ref h, .ref pp, .ref x2, .ref x3, .ref x4, .ref o2, .ref o4, .ref o9, .ref o7, .ref o0, .ref o1])), (h, .inr (5, [.ref jj, .ref dd, .int (nI n), .int (nI z)])), (jj, aI k 36 fj), (dd, aI k 6 fd), (lo, .inr (13, [.ref eo, .ref e1, .ref e2, .ref e3, .ref e4, .ref e5, .int (nI n), .int (nI z), .int tk])), (eo, aR k 3 6 (fun i9 => if i9 < 6 then some (er i9) else none)), ((er 0), aI k 6 (EN E 0)), ((er 1), aI k 6 (EN E 1)), ((er 2), aI k 6 (EN E 2)), ((er 3), aI k 6 (EN E 3)), ((er 4), aI k 6 (EN E 4)), ((er 5), aI k 6 (EN E 5))] rfl (fun j hj => by { rw [jn_at hvu]; show nI (jnE E v u (aw / 6 % 4) _ _) = nI (E _ _); rw [jn_same hS hsm] }) rfl ?_
            exact g_zret (pc := 227) C hr (by first | rfl | exact bI_nar _) hlk (by first | decide | omega) (by first | decide | omega) (by first | decide | omega) dL_acts_227 ⟨rfl, rfl⟩
        · exact absurd (by rw [hsm]) c_208
      · exact absurd ((nI_eq (by omega) (by omega)).mp c_135) hvu
  · exact absurd c_18 (nI_ne0 (by omega) (by omega))
set_option maxRecDepth 100000 in
set_option maxHeartbeats 400000 in
theorem c_L_acts_k1d {l : Launch} {D : va_G} {k : Nat → ClassId} (o : Nat) (h : Nat) (pp : Nat) (x2 : Nat) (x3 : Nat) (x4 : Nat) (o2 : Nat) (o4 : Nat) (o9 : Nat) (o7 : Nat) (o0 : Nat) (o1 : Nat) (jj : Nat) (dd : Nat) (n : Nat) (z : Nat) (fj : Nat → Int32) (fd : Nat → Int32) (r1 : Nat) (r2 : Nat) (tk : Int32) (a1 : Nat) (f : Nat → Int32) (a2 : Nat) (ct : Nat → Int32) (s1 : Nat) (s2 : Nat) (b1 : Nat) (fp : Nat → Int32) (b2 : Nat) (fv : Nat → Int32) (t1 : Nat) (t2 : Nat) (t3 : Nat) (t4 : Nat) (t5 : Nat) (u1 : Nat) (fo : Nat → Int32) (lo : Nat) (eo : Nat) (e1 : Nat) (e2 : Nat) (e3 : Nat) (e4 : Nat) (e5 : Nat) (er : Nat → Nat) (E : Nat → Nat → Nat) (t : Nat → Nat) (kd : Nat) (av : Nat) (aw : Nat) (v : Nat) (u : Nat) (hn : n ≤ 6) (hz : z < n) (hE3 : ∀ i j, E i j ≤ 3) (hav : av % n = v) (haw : aw % n = u) (hv : v < n) (hu : u < n) (hb1 : av ≤ 9000) (hb2 : aw ≤ 9000) (hk1 : 1 ≤ kd) (hk2 : kd ≤ 2) (hvu : ¬ v = u) (hfj : fj (v * 6 + u) = nI (E v u)) (hsm : ¬ E v u = aw / 6 % 4) : CM l D k yL_acts cL_acts 9 (some .boolean)  5 110 [.ref lo, .ref o, .int (nI kd), .int (nI av), .int (nI aw)] [(o, .inr (12, [.ref h, .ref pp, .ref x2, .ref x3, .ref x4, .ref o2, .ref o4, .ref o9, .ref o7, .ref o0, .ref o1])), (h, .inr (5, [.ref jj, .ref dd, .int (nI n), .int (nI z)])), (jj, aI k 36 fj), (dd, aI k 6 fd), (pp, .inr (8, [.ref h, .ref r1, .ref r2, .int tk])), (r1, .inr (10, [.ref a1])), (a1, aI k 6 f), (r2, .inr (10, [.ref a2])), (a2, aI k 6 ct), (o7, .inr (9, [.ref h, .ref s1, .ref s2])), (s1, .inr (10, [.ref b1])), (b1, aI k 6 fp), (s2, .inr (10, [.ref b2])), (b2, aI k 6 fv), (o0, .inr (2, [.ref h, .ref o2, .ref t1, .ref t2, .ref t3, .ref t4, .ref t5])), (t1, .inr (10, [.ref u1])), (u1, aI k 6 fo), (lo, .inr (13, [.ref eo, .ref e1, .ref e2, .ref e3, .ref e4, .ref e5, .int (nI n), .int (nI z), .int tk])), (eo, aR k 3 6 (fun i9 => if i9 < 6 then some (er i9) else none)), ((er 0), aI k 6 (EN E 0)), ((er 1), aI k 6 (EN E 1)), ((er 2), aI k 6 (EN E 2)), ((er 3), aI k 6 (EN E 3)), ((er 4), aI k 6 (EN E 4)), ((er 5), aI k 6 (EN E 5)), (e1, aI k 6 f), (e2, aI k 6 ct), (e3, aI k 6 fo), (e4, aI k 6 (fun j9 => nI (t j9))), (e5, aI k 6 fv)] (is1 (some (.int 1)) [(o, .inr (12, [.ref h, .ref pp, .ref x2, .ref x3, .ref x4, .ref o2, .ref o4, .ref o9, .ref o7, .ref o0, .ref o1])), (h, .inr (5, [.ref jj, .ref dd, .int (nI n), .int (nI z)])), (jj, aI k 36 (jnJ fj v u (nI (aw / 6 % 4)))), (dd, aI k 6 (jnD fj fd v u (nI (aw / 6 % 4)))), (pp, .inr (8, [.ref h, .ref r1, .ref r2, .int 0])), (r1, .inr (10, [.ref a1])), (a1, aI k 6 (fun _ => 0)), (r2, .inr (10, [.ref a2])), (a2, aI k 6 (fun _ => 0)), (o7, .inr (9, [.ref h, .ref s1, .ref s2])), (s1, .inr (10, [.ref b1])), (b1, aI k 6 (fun _ => 0)), (s2, .inr (10, [.ref b2])), (b2, aI k 6 (fun _ => 0)), (o0, .inr (2, [.ref h, .ref o2, .ref t1, .ref t2, .ref t3, .ref t4, .ref t5])), (t1, .inr (10, [.ref u1])), (u1, aI k 6 (fun _ => 0)), (lo, .inr (13, [.ref eo, .ref e1, .ref e2, .ref e3, .ref e4, .ref e5, .int (nI n), .int (nI z), .int 0])), (eo, aR k 3 6 (fun i9 => if i9 < 6 then some (er i9) else none)), ((er 0), aI k 6 (EN (jnE E v u (aw / 6 % 4)) 0)), ((er 1), aI k 6 (EN (jnE E v u (aw / 6 % 4)) 1)), ((er 2), aI k 6 (EN (jnE E v u (aw / 6 % 4)) 2)), ((er 3), aI k 6 (EN (jnE E v u (aw / 6 % 4)) 3)), ((er 4), aI k 6 (EN (jnE E v u (aw / 6 % 4)) 4)), ((er 5), aI k 6 (EN (jnE E v u (aw / 6 % 4)) 5)), (e1, aI k 6 (fun _ => 0)), (e2, aI k 6 (fun _ => 0)), (e3, aI k 6 (fun _ => 0)), (e4, aI k 6 (fun _ => 0)), (e5, aI k 6 (fun _ => 0))]) 1 5 0 := by
  refine CM.of (lv0 := [(0, .ref lo), (1, .ref o), (2, .int (nI kd)), (3, .int (nI av)), (4, .int (nI aw))]) (by decide +kernel) (Nat.le_of_ble_eq_true rfl) rfl ?_
  intro p9 e9 s9 m9 bl9 me9 co9 C hr hlk hin had
  refine g_iload_n (pc := 0) C 3 rfl rfl dL_acts_0 ?_
  refine g_aload_n (pc := 1) C 0 rfl rfl dL_acts_1 ?_
  refine g_get (pc := 2) C (T := TXL) inXL 17 rfl rfl 6 (by decide) q_564 rfl rfl dL_acts_2 ?_
  refine g_irem (pc := 5) C (nI_ne0 (by omega) (by omega)) dL_acts_5 ?_
  refine G.eqs (st' := [.int (nI v)]) (congrArg (β := List Value) (fun z9 => [.int z9]) (show (((nI av) - (nI av) / (nI n) * (nI n)) : Int32) = (nI v) from (by rw [← hav]; exact pk_rem (by omega) (by omega) (by omega)))) ?_
  refine g_istore (pc := 6) C [(5, .int (nI v)), (0, .ref lo), (1, .ref o), (2, .int (nI kd)), (3, .int (nI av)), (4, .int (nI aw))] dL_acts_6 (by decide) rfl ?_
  refine g_iload (pc := 8) C 5 rfl dL_acts_8 ?_
  refine g_aload_n (pc := 10) C 1 rfl rfl dL_acts_10 ?_
  refine g_get (pc := 11) C (T := TXL) inXL 17 rfl rfl 6 (by decide) q_564 rfl rfl dL_acts_11 ?_
  refine g_irem (pc := 14) C (nI_ne0 (by omega) (by omega)) dL_acts_14 ?_
  refine G.eqs (st' := [.int (nI u)]) (congrArg (β := List Value) (fun z9 => [.int z9]) (show (((nI aw) - (nI aw) / (nI n) * (nI n)) : Int32) = (nI u) from (by rw [← haw]; exact pk_rem (by omega) (by omega) (by omega)))) ?_
  refine g_istore (pc := 15) C [(6, .int (nI u)), (5, .int (nI v)), (0, .ref lo), (1, .ref o), (2, .int (nI kd)), (3, .int (nI av)), (4, .int (nI aw))] dL_acts_15 (by decide) rfl ?_
  refine g_iload_n (pc := 17) C 4 rfl rfl dL_acts_17 ?_
  refine g_if_ne (pc := 18) C 109 (by decide) dL_acts_18 (fun c_18 => ?_) (fun c_18 => ?_)
  · refine g_iload_n (pc := 109) C 4 rfl rfl dL_acts_109 ?_
    refine g_iconst (pc := 110) (v := 3) C (by decide) dL_acts_110 ?_
    refine g_icmp_ge (pc := 111) C 228 (by decide) dL_acts_111 (fun c_111 => ?_) (fun c_111 => ?_)
    · exact absurd c_111 (nI_ge (b := 3) (a := kd) (by omega) (by omega))
    · refine g_aload_n (pc := 114) C 3 rfl rfl dL_acts_114 ?_
      refine g_iload (pc := 115) C 1 rfl dL_acts_115 ?_
      refine g_iload (pc := 117) C 0 rfl dL_acts_117 ?_
      refine g_iload (pc := 119) C 6 rfl dL_acts_119 ?_
      refine g_bipush (pc := 121) (v := 6) C (by decide) dL_acts_121 ?_
      refine g_idiv (pc := 123) C (by decide) dL_acts_123 ?_
      refine g_iconst (pc := 124) (v := 4) C (by decide) dL_acts_124 ?_
      refine g_irem (pc := 125) C (by decide) dL_acts_125 ?_
      refine G.eqs (st' := [.int (nI (aw / 6 % 4)), .int (nI u), .int (nI v), .ref o]) (congrArg (β := List Value) (fun z9 => [.int z9, .int (nI u), .int (nI v), .ref o]) (show ((((nI aw) / 6) - ((nI aw) / 6) / 4 * 4) : Int32) = (nI (aw / 6 % 4)) from (by rw [show (6 : Int32) = nI 6 from rfl, show (4 : Int32) = nI 4 from rfl, pk_div (by omega) (by omega) (by omega)]; exact pk_rem (by omega) (by omega) (by omega)))) ?_
      refine g_callSW (pc := 126) (cells := 0) (slots := 0) (g := 0) (As := [.ref o, .int (nI v), .int (nI u), .int (nI (aw / 6 % 4))]) (st := []) (b := 0) C (nA := 4) rfl (c_L_edges_d o h pp x2 x3 x4 o2 o4 o9 o7 o0 o1 jj dd n z fj fd r1 a1 r2 a2 f ct tk s1 b1 s2 b2 fp fv t1 t2 t3 t4 t5 u1 fo v u (aw / 6 % 4) (by first | assumption | decide | omega) (by first | assumption | decide | omega) (by first | assumption | decide | omega) hvu (by omega) (by rw [hfj]; exact fun q => hsm ((nI_eq (by have := hE3 v u; omega) (by omega)).mp q))) q_781 q_782 q_551 q_780 (by decide +kernel) dL_acts_126 ⟨Nat.le_of_ble_eq_true rfl, Nat.le_of_ble_eq_true rfl⟩ [0, 1, 2, 3, 4, 5, 6, 7, 8, 9, 10, 11, 12, 13, 14, 15, 16] [17, 18, 19, 20, 21, 22, 23, 24, 25, 26, 27, 28, 29] rfl (wr := [(lo, .inr (13, [.ref eo, .ref e1, .ref e2, .ref e3, .ref e4, .ref e5, .int (nI n), .int (nI z), .int tk])), (eo, aR k 3 6 (fun i9 => if i9 < 6 then some (er i9) else none)), ((er 0), aI k 6 (EN E 0)), ((er 1), aI k 6 (EN E 1)), ((er 2), aI k 6 (EN E 2)), ((er 3), aI k 6 (EN E 3)), ((er 4), aI k 6 (EN E 4)), ((er 5), aI k 6 (EN E 5)), (e1, aI k 6 f), (e2, aI k 6 ct), (e3, aI k 6 fo), (e4, aI k 6 (fun j9 => nI (t j9))), (e5, aI k 6 fv)]) rfl (by decide) (by decide) (by decide) (Nat.le_of_ble_eq_true rfl) ⟨Nat.le_of_ble_eq_true rfl, Nat.le_of_ble_eq_true rfl⟩ (fun rv w1 h1 => ?_)
      obtain ⟨rfl, rfl⟩ := h1
      refine G.aft [13, 14, 15, 16, 17, 18, 19, 20, 21, 22, 23, 24, 25, 26, 27, 28, 29, 0, 1, 2, 3, 4, 5, 6, 7, 8, 9, 10, 11, 12] (ws' := [(o, .inr (12, [.ref h, .ref pp, .ref x2, .ref x3, .ref x4, .ref o2, .ref o4, .ref o9, .ref o7, .ref o0, .ref o1])), (h, .inr (5, [.ref jj, .ref dd, .int (nI n), .int (nI z)])), (jj, aI k 36 (jnJ fj v u (nI (aw / 6 % 4)))), (dd, aI k 6 (jnD fj fd v u (nI (aw / 6 % 4)))), (pp, .inr (8, [.ref h, .ref r1, .ref r2, .int 0])), (r1, .inr (10, [.ref a1])), (a1, aI k 6 (fun _ => 0)), (r2, .inr (10, [.ref a2])), (a2, aI k 6 (fun _ => 0)), (o7, .inr (9, [.ref h, .ref s1, .ref s2])), (s1, .inr (10, [.ref b1])), (b1, aI k 6 (fun _ => 0)), (s2, .inr (10, [.ref b2])), (b2, aI k 6 (fun _ => 0)), (o0, .inr (2, [.ref h, .ref o2, .ref t1, .ref t2, .ref t3, .ref t4, .ref t5])), (t1, .inr (10, [.ref u1])), (u1, aI k 6 (fun _ => 0)), (lo, .inr (13, [.ref eo, .ref e1, .ref e2, .ref e3, .ref e4, .ref e5, .int (nI n), .int (nI z), .int tk])), (eo, aR k 3 6 (fun i9 => if i9 < 6 then some (er i9) else none)), ((er 0), aI k 6 (EN E 0)), ((er 1), aI k 6 (EN E 1)), ((er 2), aI k 6 (EN E 2)), ((er 3), aI k 6 (EN E 3)), ((er 4), aI k 6 (EN E 4)), ((er 5), aI k 6 (EN E 5)), (e1, aI k 6 f), (e2, aI k 6 ct), (e3, aI k 6 fo), (e4, aI k 6 (fun j9 => nI (t j9))), (e5, aI k 6 fv)]) (st' := [.int (fj (v * 6 + u))]) (cells' := 0) (slots' := 0) (g' := 0) (by decide) rfl rfl rfl rfl rfl ?_
      refine g_istore (pc := 129) C [(7, .int (fj (v * 6 + u))), (6, .int (nI u)), (5, .int (nI v)), (0, .ref lo), (1, .ref o), (2, .int (nI kd)), (3, .int (nI av)), (4, .int (nI aw))] dL_acts_129 (by decide) rfl ?_
      refine g_iload (pc := 131) C 2 rfl dL_acts_131 ?_
      refine g_iload (pc := 133) C 1 rfl dL_acts_133 ?_
      refine g_icmp_ne (pc := 135) C 153 (by decide) dL_acts_135 (fun c_135 => ?_) (fun c_135 => ?_)
      · refine g_aload_n (pc := 153) C 3 rfl rfl dL_acts_153 ?_
        refine g_get (pc := 154) C (T := TXL) inXL 17 rfl rfl 0 (by decide) q_561 rfl rfl dL_acts_154 ?_
        refine g_iload (pc := 157) C 2 rfl dL_acts_157 ?_
        refine g_aald (pc := 159) C (j := v) (b := er v) 18 rfl (by omega) (by decide) rfl (if_pos (by omega)) dL_acts_159 ?_
        refine g_iload (pc := 160) C 1 rfl dL_acts_160 ?_
        refine g_iald_n (pc := 162) (a := (er v)) (n := 6) (f := (EN E v)) C (j := u) (19 + v) (by rcases (show v = 0 ∨ v = 1 ∨ v = 2 ∨ v = 3 ∨ v = 4 ∨ v = 5 by omega) with h9 | h9 | h9 | h9 | h9 | h9 <;> rw [h9] <;> rfl) (by omega) (by first | decide | omega) rfl dL_acts_162 ?_
        refine G.eqs (st' := [.int (nI (E v u))]) (congrArg (β := List Value) (fun z9 => [.int z9]) (show (((EN E v) u) : Int32) = (nI (E v u)) from rfl)) ?_
        refine g_istore (pc := 163) C [(8, .int (nI (E v u))), (7, .int (fj (v * 6 + u))), (6, .int (nI u)), (5, .int (nI v)), (0, .ref lo), (1, .ref o), (2, .int (nI kd)), (3, .int (nI av)), (4, .int (nI aw))] dL_acts_163 (by decide) rfl ?_
        refine g_aload_n (pc := 165) C 4 rfl rfl dL_acts_165 ?_
        refine g_get (pc := 166) C (T := TXL) inXL 17 rfl rfl 0 (by decide) q_561 rfl rfl dL_acts_166 ?_
        refine g_iload (pc := 169) C 3 rfl dL_acts_169 ?_
        refine g_aald (pc := 171) C (j := v) (b := er v) 18 rfl (by omega) (by decide) rfl (if_pos (by omega)) dL_acts_171 ?_
        refine g_iload (pc := 172) C 2 rfl dL_acts_172 ?_
        refine g_iload (pc := 174) C 8 rfl dL_acts_174 ?_
        refine g_bipush (pc := 176) (v := 6) C (by decide) dL_acts_176 ?_
        refine g_idiv (pc := 178) C (by decide) dL_acts_178 ?_
        refine g_iconst (pc := 179) (v := 4) C (by decide) dL_acts_179 ?_
        refine g_irem (pc := 180) C (by decide) dL_acts_180 ?_
        refine G.eqs (st' := [.int (nI (aw / 6 % 4)), .int (nI u), .ref (er v)]) (congrArg (β := List Value) (fun z9 => [.int z9, .int (nI u), .ref (er v)]) (show ((((nI aw) / 6) - ((nI aw) / 6) / 4 * 4) : Int32) = (nI (aw / 6 % 4)) from (by rw [show (6 : Int32) = nI 6 from rfl, show (4 : Int32) = nI 4 from rfl, pk_div (by omega) (by omega) (by omega)]; exact pk_rem (by omega) (by omega) (by omega)))) ?_
        refine g_iast_n (pc := 181) (a := (er v)) (n := 6) (f := EN E v) C (j := u) (19 + v) [(o, .inr (12, [.ref h, .ref pp, .ref x2, .ref x3, .ref x4, .ref o2, .ref o4, .ref o9, .ref o7, .ref o0, .ref o1])), (h, .inr (5, [.ref jj, .ref dd, .int (nI n), .int (nI z)])), (jj, aI k 36 (jnJ fj v u (nI (aw / 6 % 4)))), (dd, aI k 6 (jnD fj fd v u (nI (aw / 6 % 4)))), (pp, .inr (8, [.ref h, .ref r1, .ref r2, .int 0])), (r1, .inr (10, [.ref a1])), (a1, aI k 6 (fun _ => 0)), (r2, .inr (10, [.ref a2])), (a2, aI k 6 (fun _ => 0)), (o7, .inr (9, [.ref h, .ref s1, .ref s2])), (s1, .inr (10, [.ref b1])), (b1, aI k 6 (fun _ => 0)), (s2, .inr (10, [.ref b2])), (b2, aI k 6 (fun _ => 0)), (o0, .inr (2, [.ref h, .ref o2, .ref t1, .ref t2, .ref t3, .ref t4, .ref t5])), (t1, .inr (10, [.ref u1])), (u1, aI k 6 (fun _ => 0)), (lo, .inr (13, [.ref eo, .ref e1, .ref e2, .ref e3, .ref e4, .ref e5, .int (nI n), .int (nI z), .int tk])), (eo, aR k 3 6 (fun i9 => if i9 < 6 then some (er i9) else none)), ((er 0), aI k 6 ((eU (EN E) v u (nI (aw / 6 % 4))) 0)), ((er 1), aI k 6 ((eU (EN E) v u (nI (aw / 6 % 4))) 1)), ((er 2), aI k 6 ((eU (EN E) v u (nI (aw / 6 % 4))) 2)), ((er 3), aI k 6 ((eU (EN E) v u (nI (aw / 6 % 4))) 3)), ((er 4), aI k 6 ((eU (EN E) v u (nI (aw / 6 % 4))) 4)), ((er 5), aI k 6 ((eU (EN E) v u (nI (aw / 6 % 4))) 5)), (e1, aI k 6 f), (e2, aI k 6 ct), (e3, aI k 6 fo), (e4, aI k 6 (fun j9 => nI (t j9))), (e5, aI k 6 fv)] (by rcases (show v = 0 ∨ v = 1 ∨ v = 2 ∨ v = 3 ∨ v = 4 ∨ v = 5 by omega) with h9 | h9 | h9 | h9 | h9 | h9 <;> rw [h9] <;> rfl) (by omega) (by decide) rfl (by rcases (show v = 0 ∨ v = 1 ∨ v = 2 ∨ v = 3 ∨ v = 4 ∨ v = 5 by omega) with h9 | h9 | h9 | h9 | h9 | h9 <;> rw [h9] <;> rfl) dL_acts_181 ?_
        refine g_aload_n (pc := 182) C 4 rfl rfl dL_acts_182 ?_
        refine g_get (pc := 183) C (T := TXL) inXL 17 rfl rfl 0 (by decide) q_561 rfl rfl dL_acts_183 ?_
        refine g_iload (pc := 186) C 2 rfl dL_acts_186 ?_
        refine g_aald (pc := 188) C (j := u) (b := er u) 18 rfl (by omega) (by decide) rfl (if_pos (by omega)) dL_acts_188 ?_
        refine g_iload (pc := 189) C 3 rfl dL_acts_189 ?_
        refine g_iload (pc := 191) C 8 rfl dL_acts_191 ?_
        refine g_bipush (pc := 193) (v := 6) C (by decide) dL_acts_193 ?_
        refine g_idiv (pc := 195) C (by decide) dL_acts_195 ?_
        refine g_iconst (pc := 196) (v := 4) C (by decide) dL_acts_196 ?_
        refine g_irem (pc := 197) C (by first | assumption | decide) dL_acts_197 ?_
        refine G.eqs (st' := [.int (nI (aw / 6 % 4)), .int (nI v), .ref (er u)]) (congrArg (β := List Value) (fun z9 => [.int z9, .int (nI v), .ref (er u)]) (show ((((nI aw) / 6) - ((nI aw) / 6) / 4 * 4) : Int32) = (nI (aw / 6 % 4)) from (by rw [show (6 : Int32) = nI 6 from rfl, show (4 : Int32) = nI 4 from rfl, pk_div (by omega) (by omega) (by omega)]; exact pk_rem (by omega) (by omega) (by omega)))) ?_
        refine g_iast_n (pc := 198) (a := (er u)) (n := 6) (f := (eU (EN E) v u (nI (aw / 6 % 4))) u) C (j := v) (19 + u) [(o, .inr (12, [.ref h, .ref pp, .ref x2, .ref x3, .ref x4, .ref o2, .ref o4, .ref o9, .ref o7, .ref o0, .ref o1])), (h, .inr (5, [.ref jj, .ref dd, .int (nI n), .int (nI z)])), (jj, aI k 36 (jnJ fj v u (nI (aw / 6 % 4)))), (dd, aI k 6 (jnD fj fd v u (nI (aw / 6 % 4)))), (pp, .inr (8, [.ref h, .ref r1, .ref r2, .int 0])), (r1, .inr (10, [.ref a1])), (a1, aI k 6 (fun _ => 0)), (r2, .inr (10, [.ref a2])), (a2, aI k 6 (fun _ => 0)), (o7, .inr (9, [.ref h, .ref s1, .ref s2])), (s1, .inr (10, [.ref b1])), (b1, aI k 6 (fun _ => 0)), (s2, .inr (10, [.ref b2])), (b2, aI k 6 (fun _ => 0)), (o0, .inr (2, [.ref h, .ref o2, .ref t1, .ref t2, .ref t3, .ref t4, .ref t5])), (t1, .inr (10, [.ref u1])), (u1, aI k 6 (fun _ => 0)), (lo, .inr (13, [.ref eo, .ref e1, .ref e2, .ref e3, .ref e4, .ref e5, .int (nI n), .int (nI z), .int tk])), (eo, aR k 3 6 (fun i9 => if i9 < 6 then some (er i9) else none)), ((er 0), aI k 6 ((eU (eU (EN E) v u (nI (aw / 6 % 4))) u v (nI (aw / 6 % 4))) 0)), ((er 1), aI k 6 ((eU (eU (EN E) v u (nI (aw / 6 % 4))) u v (nI (aw / 6 % 4))) 1)), ((er 2), aI k 6 ((eU (eU (EN E) v u (nI (aw / 6 % 4))) u v (nI (aw / 6 % 4))) 2)), ((er 3), aI k 6 ((eU (eU (EN E) v u (nI (aw / 6 % 4))) u v (nI (aw / 6 % 4))) 3)), ((er 4), aI k 6 ((eU (eU (EN E) v u (nI (aw / 6 % 4))) u v (nI (aw / 6 % 4))) 4)), ((er 5), aI k 6 ((eU (eU (EN E) v u (nI (aw / 6 % 4))) u v (nI (aw / 6 % 4))) 5)), (e1, aI k 6 f), (e2, aI k 6 ct), (e3, aI k 6 fo), (e4, aI k 6 (fun j9 => nI (t j9))), (e5, aI k 6 fv)] (by rcases (show u = 0 ∨ u = 1 ∨ u = 2 ∨ u = 3 ∨ u = 4 ∨ u = 5 by omega) with h9 | h9 | h9 | h9 | h9 | h9 <;> rw [h9] <;> rfl) (by omega) (by decide) rfl (by rcases (show u = 0 ∨ u = 1 ∨ u = 2 ∨ u = 3 ∨ u = 4 ∨ u = 5 by omega) with h9 | h9 | h9 | h9 | h9 | h9 <;> rw [h9] <;> rfl) dL_acts_198 ?_
        refine g_iload (pc := 199) C 0 rfl dL_acts_199 ?_
        refine g_iload (pc := 201) C 8 rfl dL_acts_201 ?_
        refine g_bipush (pc := 203) (v := 6) C (by decide) dL_acts_203 ?_
        refine g_idiv (pc := 205) C (by decide) dL_acts_205 ?_
        refine g_iconst (pc := 206) (v := 4) C (by decide) dL_acts_206 ?_
        refine g_irem (pc := 207) C (by decide) dL_acts_207 ?_
        refine G.eqs (st' := [.int (nI (aw / 6 % 4)), .int (nI (E v u))]) (congrArg (β := List Value) (fun z9 => [.int z9, .int (nI (E v u))]) (show ((((nI aw) / 6) - ((nI aw) / 6) / 4 * 4) : Int32) = (nI (aw / 6 % 4)) from (by rw [show (6 : Int32) = nI 6 from rfl, show (4 : Int32) = nI 4 from rfl, pk_div (by omega) (by omega) (by omega)]; exact pk_rem (by omega) (by omega) (by omega)))) ?_
        refine g_icmp_eq (pc := 208) C 215 (by decide) dL_acts_208 (fun c_208 => ?_) (fun c_208 => ?_)
        · exact absurd ((nI_eq (by have := hE3 v u; omega) (by omega)).mp c_208) hsm
        · refine g_aload_n (pc := 211) C 4 rfl rfl dL_acts_211 ?_
          refine g_callV (pc := 212) (cells := 0) (slots := 0) (g := 0) (As := []) (st := []) (T := TXL) (q0 := 17) C (nA := 0) rfl (c_L_clear lo eo e1 e2 e3 e4 e5 n z tk f ct fo (fun j9 => nI (t j9)) fv ) q_775 q_776 q_774 q_551 q_773 (by decide +kernel) rfl rfl dL_acts_212 ⟨Nat.le_of_ble_eq_true rfl, Nat.le_of_ble_eq_true rfl⟩ [17, 25, 26, 27, 28, 29] [0, 1, 2, 3, 4, 5, 6, 7, 8, 9, 10, 11, 12, 13, 14, 15, 16, 18, 19, 20, 21, 22, 23, 24] rfl (wr := [(o, .inr (12, [.ref h, .ref pp, .ref x2, .ref x3, .ref x4, .ref o2, .ref o4, .ref o9, .ref o7, .ref o0, .ref o1])), (h, .inr (5, [.ref jj, .ref dd, .int (nI n), .int (nI z)])), (jj, aI k 36 (jnJ fj v u (nI (aw / 6 % 4)))), (dd, aI k 6 (jnD fj fd v u (nI (aw / 6 % 4)))), (pp, .inr (8, [.ref h, .ref r1, .ref r2, .int 0])), (r1, .inr (10, [.ref a1])), (a1, aI k 6 (fun _ => 0)), (r2, .inr (10, [.ref a2])), (a2, aI k 6 (fun _ => 0)), (o7, .inr (9, [.ref h, .ref s1, .ref s2])), (s1, .inr (10, [.ref b1])), (b1, aI k 6 (fun _ => 0)), (s2, .inr (10, [.ref b2])), (b2, aI k 6 (fun _ => 0)), (o0, .inr (2, [.ref h, .ref o2, .ref t1, .ref t2, .ref t3, .ref t4, .ref t5])), (t1, .inr (10, [.ref u1])), (u1, aI k 6 (fun _ => 0)), (eo, aR k 3 6 (fun i9 => if i9 < 6 then some (er i9) else none)), ((er 0), aI k 6 ((eU (eU (EN E) v u (nI (aw / 6 % 4))) u v (nI (aw / 6 % 4))) 0)), ((er 1), aI k 6 ((eU (eU (EN E) v u (nI (aw / 6 % 4))) u v (nI (aw / 6 % 4))) 1)), ((er 2), aI k 6 ((eU (eU (EN E) v u (nI (aw / 6 % 4))) u v (nI (aw / 6 % 4))) 2)), ((er 3), aI k 6 ((eU (eU (EN E) v u (nI (aw / 6 % 4))) u v (nI (aw / 6 % 4))) 3)), ((er 4), aI k 6 ((eU (eU (EN E) v u (nI (aw / 6 % 4))) u v (nI (aw / 6 % 4))) 4)), ((er 5), aI k 6 ((eU (eU (EN E) v u (nI (aw / 6 % 4))) u v (nI (aw / 6 % 4))) 5))]) rfl (by decide) (by decide) (by decide) (Nat.le_of_ble_eq_true rfl) ⟨Nat.le_of_ble_eq_true rfl, Nat.le_of_ble_eq_true rfl⟩ (fun rv w1 h1 => ?_)
          obtain ⟨rfl, rfl⟩ := h1
          refine G.aft [0, 1, 2, 3, 4, 5, 6, 7, 8, 9, 10, 11, 12, 13, 14, 15, 16, 24, 17, 18, 19, 20, 21, 22, 23, 25, 26, 27, 28, 29] (ws' := [(o, .inr (12, [.ref h, .ref pp, .ref x2, .ref x3, .ref x4, .ref o2, .ref o4, .ref o9, .ref o7, .ref o0, .ref o1])), (h, .inr (5, [.ref jj, .ref dd, .int (nI n), .int (nI z)])), (jj, aI k 36 (jnJ fj v u (nI (aw / 6 % 4)))), (dd, aI k 6 (jnD fj fd v u (nI (aw / 6 % 4)))), (pp, .inr (8, [.ref h, .ref r1, .ref r2, .int 0])), (r1, .inr (10, [.ref a1])), (a1, aI k 6 (fun _ => 0)), (r2, .inr (10, [.ref a2])), (a2, aI k 6 (fun _ => 0)), (o7, .inr (9, [.ref h, .ref s1, .ref s2])), (s1, .inr (10, [.ref b1])), (b1, aI k 6 (fun _ => 0)), (s2, .inr (10, [.ref b2])), (b2, aI k 6 (fun _ => 0)), (o0, .inr (2, [.ref h, .ref o2, .ref t1, .ref t2, .ref t3, .ref t4, .ref t5])), (t1, .inr (10, [.ref u1])), (u1, aI k 6 (fun _ => 0)), (lo, .inr (13, [.ref eo, .ref e1, .ref e2, .ref e3, .ref e4, .ref e5, .int (nI n), .int (nI z), .int 0])), (eo, aR k 3 6 (fun i9 => if i9 < 6 then some (er i9) else none)), ((er 0), aI k 6 ((eU (eU (EN E) v u (nI (aw / 6 % 4))) u v (nI (aw / 6 % 4))) 0)), ((er 1), aI k 6 ((eU (eU (EN E) v u (nI (aw / 6 % 4))) u v (nI (aw / 6 % 4))) 1)), ((er 2), aI k 6 ((eU (eU (EN E) v u (nI (aw / 6 % 4))) u v (nI (aw / 6 % 4))) 2)), ((er 3), aI k 6 ((eU (eU (EN E) v u (nI (aw / 6 % 4))) u v (nI (aw / 6 % 4))) 3)), ((er 4), aI k 6 ((eU (eU (EN E) v u (nI (aw / 6 % 4))) u v (nI (aw / 6 % 4))) 4)), ((er 5), aI k 6 ((eU (eU (EN E) v u (nI (aw / 6 % 4))) u v (nI (aw / 6 % 4))) 5)), (e1, aI k 6 (fun _ => 0)), (e2, aI k 6 (fun _ => 0)), (e3, aI k 6 (fun _ => 0)), (e4, aI k 6 (fun _ => 0)), (e5, aI k 6 (fun _ => 0))]) (st' := []) (cells' := 1) (slots' := 5) (g' := 0) (by decide) rfl rfl rfl rfl rfl ?_
          refine g_iload (pc := 215) C 1 rfl dL_acts_215 ?_
          refine g_iload (pc := 217) C 0 rfl dL_acts_217 ?_
          refine g_icmp_ne (pc := 219) C 226 (by decide) dL_acts_219 (fun c_219 => ?_) (fun c_219 => ?_)
          · exact absurd hfj c_219
          · refine g_iconst (pc := 222) (v := 1) C (by decide) dL_acts_222 ?_
            refine g_goto (pc := 223) C 227 (by decide) dL_acts_223 ?_
            refine G.fn (EN (jnE E v u (aw / 6 % 4)) 0) 19 [(o, .inr (12, [.ref h, .ref pp, .ref x2, .ref x3, .ref x4, .ref o2, .ref o4, .ref o9, .ref o7, .ref o0, .ref o1])), (h, .inr (5, [.ref jj, .ref dd, .int (nI n), .int (nI z)])), (jj, aI k 36 (jnJ fj v u (nI (aw / 6 % 4)))), (dd, aI k 6 (jnD fj fd v u (nI (aw / 6 % 4)))), (pp, .inr (8, [.ref h, .ref r1, .ref r2, .int 0])), (r1, .inr (10, [.ref a1])), (a1, aI k 6 (fun _ => 0)), (r2, .inr (10, [.ref a2])), (a2, aI k 6 (fun _ => 0)), (o7, .inr (9, [.ref h, .ref s1, .ref s2])), (s1, .inr (10, [.ref b1])), (b1, aI k 6 (fun _ => 0)), (s2, .inr (10, [.ref b2])), (b2, aI k 6 (fun _ => 0)), (o0, .inr (2, [.ref h, .ref o2, .ref t1, .ref t2, .ref t3, .ref t4, .ref t5])), (t1, .inr (10, [.ref u1])), (u1, aI k 6 (fun _ => 0)), (lo, .inr (13, [.ref eo, .ref e1, .ref e2, .ref e3, .ref e4, .ref e5, .int (nI n), .int (nI z), .int 0])), (eo, aR k 3 6 (fun i9 => if i9 < 6 then some (er i9) else none)), ((er 0), aI k 6 (EN (jnE E v u (aw / 6 % 4)) 0)), ((er 1), aI k 6 ((eU (eU (EN E) v u (nI (aw / 6 % 4))) u v (nI (aw / 6 % 4))) 1)), ((er 2), aI k 6 ((eU (eU (EN E) v u (nI (aw / 6 % 4))) u v (nI (aw / 6 % 4))) 2)), ((er 3), aI k 6 ((eU (eU (EN E) v u (nI (aw / 6 % 4))) u v (nI (aw / 6 % 4))) 3)), ((er 4), aI k 6 ((eU (eU (EN E) v u (nI (aw / 6 % 4))) u v (nI (aw / 6 % 4))) 4)), ((er 5), aI k 6 ((eU (eU (EN E) v u (nI (aw / 6 % 4))) u v (nI (aw / 6 % 4))) 5)), (e1, aI k 6 (fun _ => 0)), (e2, aI k 6 (fun _ => 0)), (e3, aI k 6 (fun _ => 0)), (e4, aI k 6 (fun _ => 0)), (e5, aI k 6 (fun _ => 0))] rfl (fun j hj => by first | rfl | exact jn_at hvu) rfl ?_
            refine G.fn (EN (jnE E v u (aw / 6 % 4)) 1) 20 [(o, .inr (12, [.ref h, .ref pp, .ref x2, .ref x3, .ref x4, .ref o2, .ref o4, .ref o9, .ref o7, .ref o0, .ref o1])), (h, .inr (5, [.ref jj, .ref dd, .int (nI n), .int (nI z)])), (jj, aI k 36 (jnJ fj v u (nI (aw / 6 % 4)))), (dd, aI k 6 (jnD fj fd v u (nI (aw / 6 % 4)))), (pp, .inr (8, [.ref h, .ref r1, .ref r2, .int 0])), (r1, .inr (10, [.ref a1])), (a1, aI k 6 (fun _ => 0)), (r2, .inr (10, [.ref a2])), (a2, aI k 6 (fun _ => 0)), (o7, .inr (9, [.ref h, .ref s1, .ref s2])), (s1, .inr (10, [.ref b1])), (b1, aI k 6 (fun _ => 0)), (s2, .inr (10, [.ref b2])), (b2, aI k 6 (fun _ => 0)), (o0, .inr (2, [.ref h, .ref o2, .ref t1, .ref t2, .ref t3, .ref t4, .ref t5])), (t1, .inr (10, [.ref u1])), (u1, aI k 6 (fun _ => 0)), (lo, .inr (13, [.ref eo, .ref e1, .ref e2, .ref e3, .ref e4, .ref e5, .int (nI n), .int (nI z), .int 0])), (eo, aR k 3 6 (fun i9 => if i9 < 6 then some (er i9) else none)), ((er 0), aI k 6 (EN (jnE E v u (aw / 6 % 4)) 0)), ((er 1), aI k 6 (EN (jnE E v u (aw / 6 % 4)) 1)), ((er 2), aI k 6 ((eU (eU (EN E) v u (nI (aw / 6 % 4))) u v (nI (aw / 6 % 4))) 2)), ((er 3), aI k 6 ((eU (eU (EN E) v u (nI (aw / 6 % 4))) u v (nI (aw / 6 % 4))) 3)), ((er 4), aI k 6 ((eU (eU (EN E) v u (nI (aw / 6 % 4))) u v (nI (aw / 6 % 4))) 4)), ((er 5), aI k 6 ((eU (eU (EN E) v u (nI (aw / 6 % 4))) u v (nI (aw / 6 % 4))) 5)), (e1, aI k 6 (fun _ => 0)), (e2, aI k 6 (fun _ => 0)), (e3, aI k 6 (fun _ => 0)), (e4, aI k 6 (fun _ => 0)), (e5, aI k 6 (fun _ => 0))] rfl (fun j hj => by first | rfl | exact jn_at hvu) rfl ?_
            refine G.fn (EN (jnE E v u (aw / 6 % 4)) 2) 21 [(o, .inr (12, [.ref h, .ref pp, .ref x2, .ref x3, .ref x4, .ref o2, .ref o4, .ref o9, .ref o7, .ref o0, .ref o1])), (h, .inr (5, [.ref jj, .ref dd, .int (nI n), .int (nI z)])), (jj, aI k 36 (jnJ fj v u (nI (aw / 6 % 4)))), (dd, aI k 6 (jnD fj fd v u (nI (aw / 6 % 4)))), (pp, .inr (8, [.ref h, .ref r1, .ref r2, .int 0])), (r1, .inr (10, [.ref a1])), (a1, aI k 6 (fun _ => 0)), (r2, .inr (10, [.ref a2])), (a2, aI k 6 (fun _ => 0)), (o7, .inr (9, [.ref h, .ref s1, .ref s2])), (s1, .inr (10, [.ref b1])), (b1, aI k 6 (fun _ => 0)), (s2, .inr (10, [.ref b2])), (b2, aI k 6 (fun _ => 0)), (o0, .inr (2, [.ref h, .ref o2, .ref t1, .ref t2, .ref t3, .ref t4, .ref t5])), (t1, .inr (10, [.ref u1])), (u1, aI k 6 (fun _ => 0)), (lo, .inr (13, [.ref eo, .ref e1, .ref e2, .ref e3, .ref e4, .ref e5, .int (nI n), .int (nI z), .int 0])), (eo, aR k 3 6 (fun i9 => if i9 < 6 then some (er i9) else none)), ((er 0), aI k 6 (EN (jnE E v u (aw / 6 % 4)) 0)), ((er 1), aI k 6 (EN (jnE E v u (aw / 6 % 4)) 1)), ((er 2), aI k 6 (EN (jnE E v u (aw / 6 % 4)) 2)), ((er 3), aI k 6 ((eU (eU (EN E) v u (nI (aw / 6 % 4))) u v (nI (aw / 6 % 4))) 3)), ((er 4), aI k 6 ((eU (eU (EN E) v u (nI (aw / 6 % 4))) u v (nI (aw / 6 % 4))) 4)), ((er 5), aI k 6 ((eU (eU (EN E) v u (nI (aw / 6 % 4))) u v (nI (aw / 6 % 4))) 5)), (e1, aI k 6 (fun _ => 0)), (e2, aI k 6 (fun _ => 0)), (e3, aI k 6 (fun _ => 0)), (e4, aI k 6 (fun _ => 0)), (e5, aI k 6 (fun _ => 0))] rfl (fun j hj => by first | rfl | exact jn_at hvu) rfl ?_
            refine G.fn (EN (jnE E v u (aw / 6 % 4)) 3) 22 [(o, .inr (12, [.ref h, .ref pp, .ref x2, .ref x3, .ref x4, .ref o2, .ref o4, .ref o9, .ref o7, .ref o0, .ref o1])), (h, .inr (5, [.ref jj, .ref dd, .int (nI n), .int (nI z)])), (jj, aI k 36 (jnJ fj v u (nI (aw / 6 % 4)))), (dd, aI k 6 (jnD fj fd v u (nI (aw / 6 % 4)))), (pp, .inr (8, [.ref h, .ref r1, .ref r2, .int 0])), (r1, .inr (10, [.ref a1])), (a1, aI k 6 (fun _ => 0)), (r2, .inr (10, [.ref a2])), (a2, aI k 6 (fun _ => 0)), (o7, .inr (9, [.ref h, .ref s1, .ref s2])), (s1, .inr (10, [.ref b1])), (b1, aI k 6 (fun _ => 0)), (s2, .inr (10, [.ref b2])), (b2, aI k 6 (fun _ => 0)), (o0, .inr (2, [.ref h, .ref o2, .ref t1, .ref t2, .ref t3, .ref t4, .ref t5])), (t1, .inr (10, [.ref u1])), (u1, aI k 6 (fun _ => 0)), (lo, .inr (13, [.ref eo, .ref e1, .ref e2, .ref e3, .ref e4, .ref e5, .int (nI n), .int (nI z), .int 0])), (eo, aR k 3 6 (fun i9 => if i9 < 6 then some (er i9) else none)), ((er 0), aI k 6 (EN (jnE E v u (aw / 6 % 4)) 0)), ((er 1), aI k 6 (EN (jnE E v u (aw / 6 % 4)) 1)), ((er 2), aI k 6 (EN (jnE E v u (aw / 6 % 4)) 2)), ((er 3), aI k 6 (EN (jnE E v u (aw / 6 % 4)) 3)), ((er 4), aI k 6 ((eU (eU (EN E) v u (nI (aw / 6 % 4))) u v (nI (aw / 6 % 4))) 4)), ((er 5), aI k 6 ((eU (eU (EN E) v u (nI (aw / 6 % 4))) u v (nI (aw / 6 % 4))) 5)), (e1, aI k 6 (fun _ => 0)), (e2, aI k 6 (fun _ => 0)), (e3, aI k 6 (fun _ => 0)), (e4, aI k 6 (fun _ => 0)), (e5, aI k 6 (fun _ => 0))] rfl (fun j hj => by first | rfl | exact jn_at hvu) rfl ?_
            refine G.fn (EN (jnE E v u (aw / 6 % 4)) 4) 23 [(o, .inr (12, [.ref h, .ref pp, .ref x2, .ref x3, .ref x4, .ref o2, .ref o4, .ref o9, .ref o7, .ref o0, .ref o1])), (h, .inr (5, [.ref jj, .ref dd, .int (nI n), .int (nI z)])), (jj, aI k 36 (jnJ fj v u (nI (aw / 6 % 4)))), (dd, aI k 6 (jnD fj fd v u (nI (aw / 6 % 4)))), (pp, .inr (8, [.ref h, .ref r1, .ref r2, .int 0])), (r1, .inr (10, [.ref a1])), (a1, aI k 6 (fun _ => 0)), (r2, .inr (10, [.ref a2])), (a2, aI k 6 (fun _ => 0)), (o7, .inr (9, [.ref h, .ref s1, .ref s2])), (s1, .inr (10, [.ref b1])), (b1, aI k 6 (fun _ => 0)), (s2, .inr (10, [.ref b2])), (b2, aI k 6 (fun _ => 0)), (o0, .inr (2, [.ref h, .ref o2, .ref t1, .ref t2, .ref t3, .ref t4, .ref t5])), (t1, .inr (10, [.ref u1])), (u1, aI k 6 (fun _ => 0)), (lo, .inr (13, [.ref eo, .ref e1, .ref e2, .ref e3, .ref e4, .ref e5, .int (nI n), .int (nI z), .int 0])), (eo, aR k 3 6 (fun i9 => if i9 < 6 then some (er i9) else none)), ((er 0), aI k 6 (EN (jnE E v u (aw / 6 % 4)) 0)), ((er 1), aI k 6 (EN (jnE E v u (aw / 6 % 4)) 1)), ((er 2), aI k 6 (EN (jnE E v u (aw / 6 % 4)) 2)), ((er 3), aI k 6 (EN (jnE E v u (aw / 6 % 4)) 3)), ((er 4), aI k 6 (EN (jnE E v u (aw / 6 % 4)) 4)), ((er 5), aI k 6 ((eU (eU (EN E) v u (nI (aw / 6 % 4))) u v (nI (aw / 6 % 4))) 5)), (e1, aI k 6 (fun _ => 0)), (e2, aI k 6 (fun _ => 0)), (e3, aI k 6 (fun _ => 0)), (e4, aI k 6 (fun _ => 0)), (e5, aI k 6 (fun _ => 0))] rfl (fun j hj => by first | rfl | exact jn_at hvu) rfl ?_
            refine G.fn (EN (jnE E v u (aw / 6 % 4)) 5) 24 [(o, .inr (12, [.ref h, .ref pp, .ref x2, .ref x3, .ref x4, .ref o2, .ref o4, .ref o9, .ref o7, .ref o0, .ref o1])), (h, .inr (5, [.ref jj, .ref dd, .int (nI n), .int (nI z)])), (jj, aI k 36 (jnJ fj v u (nI (aw / 6 % 4)))), (dd, aI k 6 (jnD fj fd v u (nI (aw / 6 % 4)))), (pp, .inr (8, [.ref h, .ref r1, .ref r2, .int 0])), (r1, .inr (10, [.ref a1])), (a1, aI k 6 (fun _ => 0)), (r2, .inr (10, [.ref a2])), (a2, aI k 6 (fun _ => 0)), (o7, .inr (9, [.ref h, .ref s1, .ref s2])), (s1, .inr (10, [.ref b1])), (b1, aI k 6 (fun _ => 0)), (s2, .inr (10, [.ref b2])), (b2, aI k 6 (fun _ => 0)), (o0, .inr (2, [.ref h, .ref o2, .ref t1, .ref t2, .ref t3, .ref t4, .ref t5])), (t1, .inr (10, [.ref u1])), (u1, aI k 6 (fun _ => 0)), (lo, .inr (13, [.ref eo, .ref e1, .ref e2, .ref e3, .ref e4, .ref e5, .int (nI n), .int (nI z), .int 0])), (eo, aR k 3 6 (fun i9 => if i9 < 6 then some (er i9) else none)), ((er 0), aI k 6 (EN (jnE E v u (aw / 6 % 4)) 0)), ((er 1), aI k 6 (EN (jnE E v u (aw / 6 % 4)) 1)), ((er 2), aI k 6 (EN (jnE E v u (aw / 6 % 4)) 2)), ((er 3), aI k 6 (EN (jnE E v u (aw / 6 % 4)) 3)), ((er 4), aI k 6 (EN (jnE E v u (aw / 6 % 4)) 4)), ((er 5), aI k 6 (EN (jnE E v u (aw / 6 % 4)) 5)), (e1, aI k 6 (fun _ => 0)), (e2, aI k 6 (fun _ => 0)), (e3, aI k 6 (fun _ => 0)), (e4, aI k 6 (fun _ => 0)), (e5, aI k 6 (fun _ => 0))] rfl (fun j hj => by first | rfl | exact jn_at hvu) rfl ?_
            exact g_zret (pc := 227) C hr (by first | rfl | exact bI_nar _) hlk (by first | decide | omega) (by first | decide | omega) (by first | decide | omega) dL_acts_227 ⟨rfl, rfl⟩
      · exact absurd ((nI_eq (by omega) (by omega)).mp c_135) hvu
  · exact absurd c_18 (nI_ne0 (by omega) (by omega))
set_option maxRecDepth 100000 in
set_option maxHeartbeats 400000 in
theorem c_L_acts_k3z {l : Launch} {D : va_G} {k : Nat → ClassId} (o : Nat) (h : Nat) (pp : Nat) (x2 : Nat) (x3 : Nat) (x4 : Nat) (o2 : Nat) (o4 : Nat) (o9 : Nat) (o7 : Nat) (o0 : Nat) (o1 : Nat) (jj : Nat) (dd : Nat) (n : Nat) (z : Nat) (fj : Nat → Int32) (fd : Nat → Int32) (r1 : Nat) (r2 : Nat) (tk : Int32) (a1 : Nat) (f : Nat → Int32) (a2 : Nat) (ct : Nat → Int32) (lo : Nat) (eo : Nat) (e1 : Nat) (e2 : Nat) (e3 : Nat) (e4 : Nat) (e5 : Nat) (E : Nat → Nat → Nat) (kd : Nat) (av : Nat) (aw : Nat) (v : Nat) (u : Nat) (hn : n ≤ 6) (hz : z < n) (hE3 : ∀ i j, E i j ≤ 3) (hav : av % n = v) (haw : aw % n = u) (hv : v < n) (hu : u < n) (hb1 : av ≤ 9000) (hb2 : aw ≤ 9000) (hk1 : 3 ≤ kd) (hk2 : kd ≤ 7) (hp : ¬ 2000 < f v + nI (1 + aw % 30)) (hvz : v = z) : CM l D k yL_acts cL_acts 9 (some .boolean)  4 89 [.ref lo, .ref o, .int (nI kd), .int (nI av), .int (nI aw)] [(o, .inr (12, [.ref h, .ref pp, .ref x2, .ref x3, .ref x4, .ref o2, .ref o4, .ref o9, .ref o7, .ref o0, .ref o1])), (h, .inr (5, [.ref jj, .ref dd, .int (nI n), .int (nI z)])), (jj, aI k 36 fj), (dd, aI k 6 fd), (pp, .inr (8, [.ref h, .ref r1, .ref r2, .int tk])), (r1, .inr (10, [.ref a1])), (a1, aI k 6 f), (r2, .inr (10, [.ref a2])), (a2, aI k 6 ct), (lo, .inr (13, [.ref eo, .ref e1, .ref e2, .ref e3, .ref e4, .ref e5, .int (nI n), .int (nI z), .int tk])), (e1, aI k 6 f)] (is1 (some (.int 1)) [(o, .inr (12, [.ref h, .ref pp, .ref x2, .ref x3, .ref x4, .ref o2, .ref o4, .ref o9, .ref o7, .ref o0, .ref o1])), (h, .inr (5, [.ref jj, .ref dd, .int (nI n), .int (nI z)])), (jj, aI k 36 fj), (dd, aI k 6 fd), (pp, .inr (8, [.ref h, .ref r1, .ref r2, .int (tk + (nI (1 + aw % 30)))])), (r1, .inr (10, [.ref a1])), (a1, aI k 6 f), (r2, .inr (10, [.ref a2])), (a2, aI k 6 ct), (lo, .inr (13, [.ref eo, .ref e1, .ref e2, .ref e3, .ref e4, .ref e5, .int (nI n), .int (nI z), .int (tk + (nI (1 + aw % 30)))])), (e1, aI k 6 f)]) 0 0 0 := by
  refine CM.of (lv0 := [(0, .ref lo), (1, .ref o), (2, .int (nI kd)), (3, .int (nI av)), (4, .int (nI aw))]) (by decide +kernel) (Nat.le_of_ble_eq_true rfl) rfl ?_
  intro p9 e9 s9 m9 bl9 me9 co9 C hr hlk hin had
  refine g_iload_n (pc := 0) C 3 rfl rfl dL_acts_0 ?_
  refine g_aload_n (pc := 1) C 0 rfl rfl dL_acts_1 ?_
  refine g_get (pc := 2) C (T := TXL) inXL 9 rfl rfl 6 (by decide) q_564 rfl rfl dL_acts_2 ?_
  refine g_irem (pc := 5) C (nI_ne0 (by omega) (by omega)) dL_acts_5 ?_
  refine G.eqs (st' := [.int (nI v)]) (congrArg (β := List Value) (fun z9 => [.int z9]) (show (((nI av) - (nI av) / (nI n) * (nI n)) : Int32) = (nI v) from (by rw [← hav]; exact pk_rem (by omega) (by omega) (by omega)))) ?_
  refine g_istore (pc := 6) C [(5, .int (nI v)), (0, .ref lo), (1, .ref o), (2, .int (nI kd)), (3, .int (nI av)), (4, .int (nI aw))] dL_acts_6 (by decide) rfl ?_
  refine g_iload (pc := 8) C 5 rfl dL_acts_8 ?_
  refine g_aload_n (pc := 10) C 1 rfl rfl dL_acts_10 ?_
  refine g_get (pc := 11) C (T := TXL) inXL 9 rfl rfl 6 (by decide) q_564 rfl rfl dL_acts_11 ?_
  refine g_irem (pc := 14) C (nI_ne0 (by omega) (by omega)) dL_acts_14 ?_
  refine G.eqs (st' := [.int (nI u)]) (congrArg (β := List Value) (fun z9 => [.int z9]) (show (((nI aw) - (nI aw) / (nI n) * (nI n)) : Int32) = (nI u) from (by rw [← haw]; exact pk_rem (by omega) (by omega) (by omega)))) ?_
  refine g_istore (pc := 15) C [(6, .int (nI u)), (5, .int (nI v)), (0, .ref lo), (1, .ref o), (2, .int (nI kd)), (3, .int (nI av)), (4, .int (nI aw))] dL_acts_15 (by decide) rfl ?_
  refine g_iload_n (pc := 17) C 4 rfl rfl dL_acts_17 ?_
  refine g_if_ne (pc := 18) C 109 (by decide) dL_acts_18 (fun c_18 => ?_) (fun c_18 => ?_)
  · refine g_iload_n (pc := 109) C 4 rfl rfl dL_acts_109 ?_
    refine g_iconst (pc := 110) (v := 3) C (by decide) dL_acts_110 ?_
    refine g_icmp_ge (pc := 111) C 228 (by decide) dL_acts_111 (fun c_111 => ?_) (fun c_111 => ?_)
    · refine g_iload_n (pc := 228) C 4 rfl rfl dL_acts_228 ?_
      refine g_bipush (pc := 229) (v := 8) C (by decide) dL_acts_229 ?_
      refine g_icmp_ge (pc := 231) C 312 (by decide) dL_acts_231 (fun c_231 => ?_) (fun c_231 => ?_)
      · exact absurd c_231 (nI_ge (b := 8) (a := kd) (by omega) (by omega))
      · refine g_aload_n (pc := 234) C 3 rfl rfl dL_acts_234 ?_
        refine g_iload (pc := 235) C 1 rfl dL_acts_235 ?_
        refine g_iconst (pc := 237) (v := 1) C (by decide) dL_acts_237 ?_
        refine g_iload (pc := 238) C 6 rfl dL_acts_238 ?_
        refine g_bipush (pc := 240) (v := 30) C (by decide) dL_acts_240 ?_
        refine g_irem (pc := 242) C (by decide) dL_acts_242 ?_
        refine g_iadd (pc := 243) C dL_acts_243 ?_
        refine G.eqs (st' := [.int (nI (1 + aw % 30)), .int (nI v), .ref o]) (congrArg (β := List Value) (fun z9 => [.int z9, .int (nI v), .ref o]) (show ((1 + ((nI aw) - (nI aw) / 30 * 30)) : Int32) = (nI (1 + aw % 30)) from (by rw [show (30 : Int32) = nI 30 from rfl, pk_rem (by omega) (by omega) (by omega)]; exact nI_add 1 _))) ?_
        refine g_callSW (pc := 244) (cells := 0) (slots := 0) (g := 0) (As := [.ref o, .int (nI v), .int (nI (1 + aw % 30))]) (st := []) (b := 0) C (nA := 3) rfl (c_L_put o h pp x2 x3 x4 o2 o4 o9 o7 o0 o1 jj dd n z fj fd r1 a1 r2 a2 f ct tk v (1 + aw % 30) (by first | assumption | decide | omega) (by first | assumption | decide | omega) (by first | assumption | decide | omega) (by omega) (by omega) (by first | assumption | decide | omega)) q_784 q_785 q_551 q_783 (by decide +kernel) dL_acts_244 ⟨Nat.le_of_ble_eq_true rfl, Nat.le_of_ble_eq_true rfl⟩ [0, 1, 2, 3, 4, 5, 6, 7, 8] [9, 10] rfl (wr := [(lo, .inr (13, [.ref eo, .ref e1, .ref e2, .ref e3, .ref e4, .ref e5, .int (nI n), .int (nI z), .int tk])), (e1, aI k 6 f)]) rfl (by decide) (by decide) (by decide) (Nat.le_of_ble_eq_true rfl) ⟨Nat.le_of_ble_eq_true rfl, Nat.le_of_ble_eq_true rfl⟩ (fun rv w1 h1 => ?_)
        obtain ⟨rfl, rfl⟩ := h1
        refine G.aft [2, 3, 4, 5, 6, 7, 8, 9, 10, 0, 1] (ws' := [(o, .inr (12, [.ref h, .ref pp, .ref x2, .ref x3, .ref x4, .ref o2, .ref o4, .ref o9, .ref o7, .ref o0, .ref o1])), (h, .inr (5, [.ref jj, .ref dd, .int (nI n), .int (nI z)])), (jj, aI k 36 fj), (dd, aI k 6 fd), (pp, .inr (8, [.ref h, .ref r1, .ref r2, .int (if v = z then tk + nI (1 + aw % 30) else tk)])), (r1, .inr (10, [.ref a1])), (a1, aI k 6 (if v = z then f else upd f v (f v + nI (1 + aw % 30)))), (r2, .inr (10, [.ref a2])), (a2, aI k 6 ct), (lo, .inr (13, [.ref eo, .ref e1, .ref e2, .ref e3, .ref e4, .ref e5, .int (nI n), .int (nI z), .int tk])), (e1, aI k 6 f)]) (st' := [.int ((if v = z then f else upd f v (f v + nI (1 + aw % 30))) v)]) (cells' := 0) (slots' := 0) (g' := 0) (by decide) rfl rfl rfl rfl rfl ?_
        refine g_istore (pc := 247) C [(7, .int ((if v = z then f else upd f v (f v + nI (1 + aw % 30))) v)), (6, .int (nI u)), (5, .int (nI v)), (0, .ref lo), (1, .ref o), (2, .int (nI kd)), (3, .int (nI av)), (4, .int (nI aw))] dL_acts_247 (by decide) rfl ?_
        refine g_iload (pc := 249) C 2 rfl dL_acts_249 ?_
        refine g_aload_n (pc := 251) C 3 rfl rfl dL_acts_251 ?_
        refine g_get (pc := 252) C (T := TXL) inXL 9 rfl rfl 7 (by decide) q_563 rfl rfl dL_acts_252 ?_
        refine g_icmp_ne (pc := 255) C 277 (by decide) dL_acts_255 (fun c_255 => ?_) (fun c_255 => ?_)
        · exact absurd (by rw [hvz]) c_255
        · refine g_aload_n (pc := 258) C 3 rfl rfl dL_acts_258 ?_
          refine g_dup (pc := 259) C rfl dL_acts_259 ?_
          refine g_get (pc := 260) C (T := TXL) inXL 9 rfl rfl 8 (by decide) q_565 rfl rfl dL_acts_260 ?_
          refine g_iconst (pc := 263) (v := 1) C (by decide) dL_acts_263 ?_
          refine g_iload (pc := 264) C 7 rfl dL_acts_264 ?_
          refine g_bipush (pc := 266) (v := 30) C (by decide) dL_acts_266 ?_
          refine g_irem (pc := 268) C (by decide) dL_acts_268 ?_
          refine g_iadd (pc := 269) C dL_acts_269 ?_
          refine G.eqs (st' := [.int (nI (1 + aw % 30)), .int tk, .ref lo]) (congrArg (β := List Value) (fun z9 => [.int z9, .int tk, .ref lo]) (show ((1 + ((nI aw) - (nI aw) / 30 * 30)) : Int32) = (nI (1 + aw % 30)) from (by rw [show (30 : Int32) = nI 30 from rfl, pk_rem (by omega) (by omega) (by omega)]; exact nI_add 1 _))) ?_
          refine g_iadd (pc := 270) C dL_acts_270 ?_
          refine g_put (pc := 271) C (T := TXL) inXL 9 rfl rfl 8 (by decide) q_565 rfl tyXL tyXL_ok nmXL rfl [(o, .inr (12, [.ref h, .ref pp, .ref x2, .ref x3, .ref x4, .ref o2, .ref o4, .ref o9, .ref o7, .ref o0, .ref o1])), (h, .inr (5, [.ref jj, .ref dd, .int (nI n), .int (nI z)])), (jj, aI k 36 fj), (dd, aI k 6 fd), (pp, .inr (8, [.ref h, .ref r1, .ref r2, .int (if v = z then tk + nI (1 + aw % 30) else tk)])), (r1, .inr (10, [.ref a1])), (a1, aI k 6 (if v = z then f else upd f v (f v + nI (1 + aw % 30)))), (r2, .inr (10, [.ref a2])), (a2, aI k 6 ct), (lo, .inr (13, [.ref eo, .ref e1, .ref e2, .ref e3, .ref e4, .ref e5, .int (nI n), .int (nI z), .int (tk + (nI (1 + aw % 30)))])), (e1, aI k 6 f)] (tyXL_ok 8 (by decide)) rfl (by rfl) (Nat.le_of_ble_eq_true rfl) rfl dL_acts_271 ?_
          refine g_goto (pc := 274) C 294 (by decide) dL_acts_274 ?_
          refine g_iload (pc := 294) C 0 rfl dL_acts_294 ?_
          refine g_aload_n (pc := 296) C 3 rfl rfl dL_acts_296 ?_
          refine g_get (pc := 297) C (T := TXL) inXL 9 rfl rfl 1 (by decide) q_566 rfl rfl dL_acts_297 ?_
          refine g_iload (pc := 300) C 2 rfl dL_acts_300 ?_
          refine g_iald_n (pc := 302) C (j := v) 10 rfl (by omega) (by first | decide | omega) rfl dL_acts_302 ?_
          refine g_icmp_ne (pc := 303) C 310 (by decide) dL_acts_303 (fun c_303 => ?_) (fun c_303 => ?_)
          · exact absurd (by rw [if_pos hvz]) c_303
          · refine g_iconst (pc := 306) (v := 1) C (by decide) dL_acts_306 ?_
            refine g_goto (pc := 307) C 311 (by decide) dL_acts_307 ?_
            refine G.eqw (ws' := [(o, .inr (12, [.ref h, .ref pp, .ref x2, .ref x3, .ref x4, .ref o2, .ref o4, .ref o9, .ref o7, .ref o0, .ref o1])), (h, .inr (5, [.ref jj, .ref dd, .int (nI n), .int (nI z)])), (jj, aI k 36 fj), (dd, aI k 6 fd), (pp, .inr (8, [.ref h, .ref r1, .ref r2, .int (tk + (nI (1 + aw % 30)))])), (r1, .inr (10, [.ref a1])), (a1, aI k 6 (if v = z then f else upd f v (f v + nI (1 + aw % 30)))), (r2, .inr (10, [.ref a2])), (a2, aI k 6 ct), (lo, .inr (13, [.ref eo, .ref e1, .ref e2, .ref e3, .ref e4, .ref e5, .int (nI n), .int (nI z), .int (tk + (nI (1 + aw % 30)))])), (e1, aI k 6 f)]) (congrArg (β := va_W) (fun z9 => [(o, .inr (12, [.ref h, .ref pp, .ref x2, .ref x3, .ref x4, .ref o2, .ref o4, .ref o9, .ref o7, .ref o0, .ref o1])), (h, .inr (5, [.ref jj, .ref dd, .int (nI n), .int (nI z)])), (jj, aI k 36 fj), (dd, aI k 6 fd), (pp, .inr (8, [.ref h, .ref r1, .ref r2, .int z9])), (r1, .inr (10, [.ref a1])), (a1, aI k 6 (if v = z then f else upd f v (f v + nI (1 + aw % 30)))), (r2, .inr (10, [.ref a2])), (a2, aI k 6 ct), (lo, .inr (13, [.ref eo, .ref e1, .ref e2, .ref e3, .ref e4, .ref e5, .int (nI n), .int (nI z), .int (tk + (nI (1 + aw % 30)))])), (e1, aI k 6 f)]) (show ((if v = z then tk + nI (1 + aw % 30) else tk) : Int32) = (tk + (nI (1 + aw % 30))) from by first | rfl | (rw [if_pos hvz]))) ?_
            refine G.fn f 6 [(o, .inr (12, [.ref h, .ref pp, .ref x2, .ref x3, .ref x4, .ref o2, .ref o4, .ref o9, .ref o7, .ref o0, .ref o1])), (h, .inr (5, [.ref jj, .ref dd, .int (nI n), .int (nI z)])), (jj, aI k 36 fj), (dd, aI k 6 fd), (pp, .inr (8, [.ref h, .ref r1, .ref r2, .int (tk + (nI (1 + aw % 30)))])), (r1, .inr (10, [.ref a1])), (a1, aI k 6 f), (r2, .inr (10, [.ref a2])), (a2, aI k 6 ct), (lo, .inr (13, [.ref eo, .ref e1, .ref e2, .ref e3, .ref e4, .ref e5, .int (nI n), .int (nI z), .int (tk + (nI (1 + aw % 30)))])), (e1, aI k 6 f)] rfl (fun j hj => by first | rfl | (rw [if_pos hvz])) rfl ?_
            exact g_zret (pc := 311) C hr (by first | rfl | exact bI_nar _) hlk (by first | decide | omega) (by first | decide | omega) (by first | decide | omega) dL_acts_311 ⟨rfl, rfl⟩
    · exact absurd (show nI 3 ≤ nI kd from nI_le (by omega) (by omega)) c_111
  · exact absurd c_18 (nI_ne0 (by omega) (by omega))
set_option maxRecDepth 100000 in
set_option maxHeartbeats 400000 in
theorem c_L_acts_k3o {l : Launch} {D : va_G} {k : Nat → ClassId} (o : Nat) (h : Nat) (pp : Nat) (x2 : Nat) (x3 : Nat) (x4 : Nat) (o2 : Nat) (o4 : Nat) (o9 : Nat) (o7 : Nat) (o0 : Nat) (o1 : Nat) (jj : Nat) (dd : Nat) (n : Nat) (z : Nat) (fj : Nat → Int32) (fd : Nat → Int32) (r1 : Nat) (r2 : Nat) (tk : Int32) (a1 : Nat) (f : Nat → Int32) (a2 : Nat) (ct : Nat → Int32) (lo : Nat) (eo : Nat) (e1 : Nat) (e2 : Nat) (e3 : Nat) (e4 : Nat) (e5 : Nat) (E : Nat → Nat → Nat) (kd : Nat) (av : Nat) (aw : Nat) (v : Nat) (u : Nat) (hn : n ≤ 6) (hz : z < n) (hE3 : ∀ i j, E i j ≤ 3) (hav : av % n = v) (haw : aw % n = u) (hv : v < n) (hu : u < n) (hb1 : av ≤ 9000) (hb2 : aw ≤ 9000) (hk1 : 3 ≤ kd) (hk2 : kd ≤ 7) (hp : ¬ 2000 < f v + nI (1 + aw % 30)) (hvz : ¬ v = z) : CM l D k yL_acts cL_acts 9 (some .boolean)  4 89 [.ref lo, .ref o, .int (nI kd), .int (nI av), .int (nI aw)] [(o, .inr (12, [.ref h, .ref pp, .ref x2, .ref x3, .ref x4, .ref o2, .ref o4, .ref o9, .ref o7, .ref o0, .ref o1])), (h, .inr (5, [.ref jj, .ref dd, .int (nI n), .int (nI z)])), (jj, aI k 36 fj), (dd, aI k 6 fd), (pp, .inr (8, [.ref h, .ref r1, .ref r2, .int tk])), (r1, .inr (10, [.ref a1])), (a1, aI k 6 f), (r2, .inr (10, [.ref a2])), (a2, aI k 6 ct), (lo, .inr (13, [.ref eo, .ref e1, .ref e2, .ref e3, .ref e4, .ref e5, .int (nI n), .int (nI z), .int tk])), (e1, aI k 6 f)] (is1 (some (.int 1)) [(o, .inr (12, [.ref h, .ref pp, .ref x2, .ref x3, .ref x4, .ref o2, .ref o4, .ref o9, .ref o7, .ref o0, .ref o1])), (h, .inr (5, [.ref jj, .ref dd, .int (nI n), .int (nI z)])), (jj, aI k 36 fj), (dd, aI k 6 fd), (pp, .inr (8, [.ref h, .ref r1, .ref r2, .int tk])), (r1, .inr (10, [.ref a1])), (a1, aI k 6 (upd f v (f v + (nI (1 + aw % 30))))), (r2, .inr (10, [.ref a2])), (a2, aI k 6 ct), (lo, .inr (13, [.ref eo, .ref e1, .ref e2, .ref e3, .ref e4, .ref e5, .int (nI n), .int (nI z), .int tk])), (e1, aI k 6 (upd f v (f v + (nI (1 + aw % 30)))))]) 0 0 0 := by
  refine CM.of (lv0 := [(0, .ref lo), (1, .ref o), (2, .int (nI kd)), (3, .int (nI av)), (4, .int (nI aw))]) (by decide +kernel) (Nat.le_of_ble_eq_true rfl) rfl ?_
  intro p9 e9 s9 m9 bl9 me9 co9 C hr hlk hin had
  refine g_iload_n (pc := 0) C 3 rfl rfl dL_acts_0 ?_
  refine g_aload_n (pc := 1) C 0 rfl rfl dL_acts_1 ?_
  refine g_get (pc := 2) C (T := TXL) inXL 9 rfl rfl 6 (by decide) q_564 rfl rfl dL_acts_2 ?_
  refine g_irem (pc := 5) C (nI_ne0 (by omega) (by omega)) dL_acts_5 ?_
  refine G.eqs (st' := [.int (nI v)]) (congrArg (β := List Value) (fun z9 => [.int z9]) (show (((nI av) - (nI av) / (nI n) * (nI n)) : Int32) = (nI v) from (by rw [← hav]; exact pk_rem (by omega) (by omega) (by omega)))) ?_
  refine g_istore (pc := 6) C [(5, .int (nI v)), (0, .ref lo), (1, .ref o), (2, .int (nI kd)), (3, .int (nI av)), (4, .int (nI aw))] dL_acts_6 (by decide) rfl ?_
  refine g_iload (pc := 8) C 5 rfl dL_acts_8 ?_
  refine g_aload_n (pc := 10) C 1 rfl rfl dL_acts_10 ?_
  refine g_get (pc := 11) C (T := TXL) inXL 9 rfl rfl 6 (by decide) q_564 rfl rfl dL_acts_11 ?_
  refine g_irem (pc := 14) C (nI_ne0 (by omega) (by omega)) dL_acts_14 ?_
  refine G.eqs (st' := [.int (nI u)]) (congrArg (β := List Value) (fun z9 => [.int z9]) (show (((nI aw) - (nI aw) / (nI n) * (nI n)) : Int32) = (nI u) from (by rw [← haw]; exact pk_rem (by omega) (by omega) (by omega)))) ?_
  refine g_istore (pc := 15) C [(6, .int (nI u)), (5, .int (nI v)), (0, .ref lo), (1, .ref o), (2, .int (nI kd)), (3, .int (nI av)), (4, .int (nI aw))] dL_acts_15 (by decide) rfl ?_
  refine g_iload_n (pc := 17) C 4 rfl rfl dL_acts_17 ?_
  refine g_if_ne (pc := 18) C 109 (by decide) dL_acts_18 (fun c_18 => ?_) (fun c_18 => ?_)
  · refine g_iload_n (pc := 109) C 4 rfl rfl dL_acts_109 ?_
    refine g_iconst (pc := 110) (v := 3) C (by decide) dL_acts_110 ?_
    refine g_icmp_ge (pc := 111) C 228 (by decide) dL_acts_111 (fun c_111 => ?_) (fun c_111 => ?_)
    · refine g_iload_n (pc := 228) C 4 rfl rfl dL_acts_228 ?_
      refine g_bipush (pc := 229) (v := 8) C (by decide) dL_acts_229 ?_
      refine g_icmp_ge (pc := 231) C 312 (by decide) dL_acts_231 (fun c_231 => ?_) (fun c_231 => ?_)
      · exact absurd c_231 (nI_ge (b := 8) (a := kd) (by omega) (by omega))
      · refine g_aload_n (pc := 234) C 3 rfl rfl dL_acts_234 ?_
        refine g_iload (pc := 235) C 1 rfl dL_acts_235 ?_
        refine g_iconst (pc := 237) (v := 1) C (by decide) dL_acts_237 ?_
        refine g_iload (pc := 238) C 6 rfl dL_acts_238 ?_
        refine g_bipush (pc := 240) (v := 30) C (by decide) dL_acts_240 ?_
        refine g_irem (pc := 242) C (by decide) dL_acts_242 ?_
        refine g_iadd (pc := 243) C dL_acts_243 ?_
        refine G.eqs (st' := [.int (nI (1 + aw % 30)), .int (nI v), .ref o]) (congrArg (β := List Value) (fun z9 => [.int z9, .int (nI v), .ref o]) (show ((1 + ((nI aw) - (nI aw) / 30 * 30)) : Int32) = (nI (1 + aw % 30)) from (by rw [show (30 : Int32) = nI 30 from rfl, pk_rem (by omega) (by omega) (by omega)]; exact nI_add 1 _))) ?_
        refine g_callSW (pc := 244) (cells := 0) (slots := 0) (g := 0) (As := [.ref o, .int (nI v), .int (nI (1 + aw % 30))]) (st := []) (b := 0) C (nA := 3) rfl (c_L_put o h pp x2 x3 x4 o2 o4 o9 o7 o0 o1 jj dd n z fj fd r1 a1 r2 a2 f ct tk v (1 + aw % 30) (by first | assumption | decide | omega) (by first | assumption | decide | omega) (by first | assumption | decide | omega) (by omega) (by omega) (by first | assumption | decide | omega)) q_784 q_785 q_551 q_783 (by decide +kernel) dL_acts_244 ⟨Nat.le_of_ble_eq_true rfl, Nat.le_of_ble_eq_true rfl⟩ [0, 1, 2, 3, 4, 5, 6, 7, 8] [9, 10] rfl (wr := [(lo, .inr (13, [.ref eo, .ref e1, .ref e2, .ref e3, .ref e4, .ref e5, .int (nI n), .int (nI z), .int tk])), (e1, aI k 6 f)]) rfl (by decide) (by decide) (by decide) (Nat.le_of_ble_eq_true rfl) ⟨Nat.le_of_ble_eq_true rfl, Nat.le_of_ble_eq_true rfl⟩ (fun rv w1 h1 => ?_)
        obtain ⟨rfl, rfl⟩ := h1
        refine G.aft [2, 3, 4, 5, 6, 7, 8, 9, 10, 0, 1] (ws' := [(o, .inr (12, [.ref h, .ref pp, .ref x2, .ref x3, .ref x4, .ref o2, .ref o4, .ref o9, .ref o7, .ref o0, .ref o1])), (h, .inr (5, [.ref jj, .ref dd, .int (nI n), .int (nI z)])), (jj, aI k 36 fj), (dd, aI k 6 fd), (pp, .inr (8, [.ref h, .ref r1, .ref r2, .int (if v = z then tk + nI (1 + aw % 30) else tk)])), (r1, .inr (10, [.ref a1])), (a1, aI k 6 (if v = z then f else upd f v (f v + nI (1 + aw % 30)))), (r2, .inr (10, [.ref a2])), (a2, aI k 6 ct), (lo, .inr (13, [.ref eo, .ref e1, .ref e2, .ref e3, .ref e4, .ref e5, .int (nI n), .int (nI z), .int tk])), (e1, aI k 6 f)]) (st' := [.int ((if v = z then f else upd f v (f v + nI (1 + aw % 30))) v)]) (cells' := 0) (slots' := 0) (g' := 0) (by decide) rfl rfl rfl rfl rfl ?_
        refine g_istore (pc := 247) C [(7, .int ((if v = z then f else upd f v (f v + nI (1 + aw % 30))) v)), (6, .int (nI u)), (5, .int (nI v)), (0, .ref lo), (1, .ref o), (2, .int (nI kd)), (3, .int (nI av)), (4, .int (nI aw))] dL_acts_247 (by decide) rfl ?_
        refine g_iload (pc := 249) C 2 rfl dL_acts_249 ?_
        refine g_aload_n (pc := 251) C 3 rfl rfl dL_acts_251 ?_
        refine g_get (pc := 252) C (T := TXL) inXL 9 rfl rfl 7 (by decide) q_563 rfl rfl dL_acts_252 ?_
        refine g_icmp_ne (pc := 255) C 277 (by decide) dL_acts_255 (fun c_255 => ?_) (fun c_255 => ?_)
        · refine g_aload_n (pc := 277) C 3 rfl rfl dL_acts_277 ?_
          refine g_get (pc := 278) C (T := TXL) inXL 9 rfl rfl 1 (by decide) q_566 rfl rfl dL_acts_278 ?_
          refine g_iload (pc := 281) C 2 rfl dL_acts_281 ?_
          refine g_dup2 (pc := 283) C rfl rfl dL_acts_283 ?_
          refine g_iald_n (pc := 284) C (j := v) 10 rfl (by omega) (by first | decide | omega) rfl dL_acts_284 ?_
          refine g_iconst (pc := 285) (v := 1) C (by decide) dL_acts_285 ?_
          refine g_iload (pc := 286) C 7 rfl dL_acts_286 ?_
          refine g_bipush (pc := 288) (v := 30) C (by decide) dL_acts_288 ?_
          refine g_irem (pc := 290) C (by decide) dL_acts_290 ?_
          refine g_iadd (pc := 291) C dL_acts_291 ?_
          refine G.eqs (st' := [.int (nI (1 + aw % 30)), .int (f v), .int (nI v), .ref e1]) (congrArg (β := List Value) (fun z9 => [.int z9, .int (f v), .int (nI v), .ref e1]) (show ((1 + ((nI aw) - (nI aw) / 30 * 30)) : Int32) = (nI (1 + aw % 30)) from (by rw [show (30 : Int32) = nI 30 from rfl, pk_rem (by omega) (by omega) (by omega)]; exact nI_add 1 _))) ?_
          refine g_iadd (pc := 292) C dL_acts_292 ?_
          refine g_iast_n (pc := 293) C (j := v) 10 [(o, .inr (12, [.ref h, .ref pp, .ref x2, .ref x3, .ref x4, .ref o2, .ref o4, .ref o9, .ref o7, .ref o0, .ref o1])), (h, .inr (5, [.ref jj, .ref dd, .int (nI n), .int (nI z)])), (jj, aI k 36 fj), (dd, aI k 6 fd), (pp, .inr (8, [.ref h, .ref r1, .ref r2, .int (if v = z then tk + nI (1 + aw % 30) else tk)])), (r1, .inr (10, [.ref a1])), (a1, aI k 6 (if v = z then f else upd f v (f v + nI (1 + aw % 30)))), (r2, .inr (10, [.ref a2])), (a2, aI k 6 ct), (lo, .inr (13, [.ref eo, .ref e1, .ref e2, .ref e3, .ref e4, .ref e5, .int (nI n), .int (nI z), .int tk])), (e1, aI k 6 (upd f v ((f v) + (nI (1 + aw % 30)))))] rfl (by omega) (by first | decide | omega) rfl rfl dL_acts_293 ?_
          refine g_iload (pc := 294) C 0 rfl dL_acts_294 ?_
          refine g_aload_n (pc := 296) C 3 rfl rfl dL_acts_296 ?_
          refine g_get (pc := 297) C (T := TXL) inXL 9 rfl rfl 1 (by decide) q_566 rfl rfl dL_acts_297 ?_
          refine g_iload (pc := 300) C 2 rfl dL_acts_300 ?_
          refine g_iald_n (pc := 302) C (j := v) 10 rfl (by omega) (by first | decide | omega) rfl dL_acts_302 ?_
          refine g_icmp_ne (pc := 303) C 310 (by decide) dL_acts_303 (fun c_303 => ?_) (fun c_303 => ?_)
          · exact absurd (by rw [if_neg hvz]) c_303
          · refine g_iconst (pc := 306) (v := 1) C (by decide) dL_acts_306 ?_
            refine g_goto (pc := 307) C 311 (by decide) dL_acts_307 ?_
            refine G.eqw (ws' := [(o, .inr (12, [.ref h, .ref pp, .ref x2, .ref x3, .ref x4, .ref o2, .ref o4, .ref o9, .ref o7, .ref o0, .ref o1])), (h, .inr (5, [.ref jj, .ref dd, .int (nI n), .int (nI z)])), (jj, aI k 36 fj), (dd, aI k 6 fd), (pp, .inr (8, [.ref h, .ref r1, .ref r2, .int tk])), (r1, .inr (10, [.ref a1])), (a1, aI k 6 (if v = z then f else upd f v (f v + nI (1 + aw % 30)))), (r2, .inr (10, [.ref a2])), (a2, aI k 6 ct), (lo, .inr (13, [.ref eo, .ref e1, .ref e2, .ref e3, .ref e4, .ref e5, .int (nI n), .int (nI z), .int tk])), (e1, aI k 6 (upd f v ((f v) + (nI (1 + aw % 30)))))]) (congrArg (β := va_W) (fun z9 => [(o, .inr (12, [.ref h, .ref pp, .ref x2, .ref x3, .ref x4, .ref o2, .ref o4, .ref o9, .ref o7, .ref o0, .ref o1])), (h, .inr (5, [.ref jj, .ref dd, .int (nI n), .int (nI z)])), (jj, aI k 36 fj), (dd, aI k 6 fd), (pp, .inr (8, [.ref h, .ref r1, .ref r2, .int z9])), (r1, .inr (10, [.ref a1])), (a1, aI k 6 (if v = z then f else upd f v (f v + nI (1 + aw % 30)))), (r2, .inr (10, [.ref a2])), (a2, aI k 6 ct), (lo, .inr (13, [.ref eo, .ref e1, .ref e2, .ref e3, .ref e4, .ref e5, .int (nI n), .int (nI z), .int tk])), (e1, aI k 6 (upd f v ((f v) + (nI (1 + aw % 30)))))]) (show ((if v = z then tk + nI (1 + aw % 30) else tk) : Int32) = tk from by first | rfl | (rw [if_neg hvz]))) ?_
            refine G.fn (upd f v (f v + (nI (1 + aw % 30)))) 6 [(o, .inr (12, [.ref h, .ref pp, .ref x2, .ref x3, .ref x4, .ref o2, .ref o4, .ref o9, .ref o7, .ref o0, .ref o1])), (h, .inr (5, [.ref jj, .ref dd, .int (nI n), .int (nI z)])), (jj, aI k 36 fj), (dd, aI k 6 fd), (pp, .inr (8, [.ref h, .ref r1, .ref r2, .int tk])), (r1, .inr (10, [.ref a1])), (a1, aI k 6 (upd f v (f v + (nI (1 + aw % 30))))), (r2, .inr (10, [.ref a2])), (a2, aI k 6 ct), (lo, .inr (13, [.ref eo, .ref e1, .ref e2, .ref e3, .ref e4, .ref e5, .int (nI n), .int (nI z), .int tk])), (e1, aI k 6 (upd f v ((f v) + (nI (1 + aw % 30)))))] rfl (fun j hj => by first | rfl | (rw [if_neg hvz])) rfl ?_
            refine G.fn (upd f v (f v + (nI (1 + aw % 30)))) 10 [(o, .inr (12, [.ref h, .ref pp, .ref x2, .ref x3, .ref x4, .ref o2, .ref o4, .ref o9, .ref o7, .ref o0, .ref o1])), (h, .inr (5, [.ref jj, .ref dd, .int (nI n), .int (nI z)])), (jj, aI k 36 fj), (dd, aI k 6 fd), (pp, .inr (8, [.ref h, .ref r1, .ref r2, .int tk])), (r1, .inr (10, [.ref a1])), (a1, aI k 6 (upd f v (f v + (nI (1 + aw % 30))))), (r2, .inr (10, [.ref a2])), (a2, aI k 6 ct), (lo, .inr (13, [.ref eo, .ref e1, .ref e2, .ref e3, .ref e4, .ref e5, .int (nI n), .int (nI z), .int tk])), (e1, aI k 6 (upd f v (f v + (nI (1 + aw % 30)))))] rfl (fun j hj => by first | rfl | (rw [if_neg hvz])) rfl ?_
            exact g_zret (pc := 311) C hr (by first | rfl | exact bI_nar _) hlk (by first | decide | omega) (by first | decide | omega) (by first | decide | omega) dL_acts_311 ⟨rfl, rfl⟩
        · exact absurd ((nI_eq (by omega) (by omega)).mp c_255) hvz
    · exact absurd (show nI 3 ≤ nI kd from nI_le (by omega) (by omega)) c_111
  · exact absurd c_18 (nI_ne0 (by omega) (by omega))
set_option maxRecDepth 100000 in
set_option maxHeartbeats 400000 in
theorem c_L_acts_k8x {l : Launch} {D : va_G} {k : Nat → ClassId} (o : Nat) (h : Nat) (pp : Nat) (x2 : Nat) (x3 : Nat) (x4 : Nat) (o2 : Nat) (o4 : Nat) (o9 : Nat) (o7 : Nat) (o0 : Nat) (o1 : Nat) (jj : Nat) (dd : Nat) (n : Nat) (z : Nat) (fj : Nat → Int32) (fd : Nat → Int32) (r1 : Nat) (r2 : Nat) (tk : Int32) (a1 : Nat) (f : Nat → Int32) (a2 : Nat) (ct : Nat → Int32) (lo : Nat) (eo : Nat) (e1 : Nat) (e2 : Nat) (e3 : Nat) (e4 : Nat) (e5 : Nat) (er : Nat → Nat) (E : Nat → Nat → Nat) (kd : Nat) (av : Nat) (aw : Nat) (v : Nat) (u : Nat) (hn : n ≤ 6) (hz : z < n) (hE3 : ∀ i j, E i j ≤ 3) (hav : av % n = v) (haw : aw % n = u) (hv : v < n) (hu : u < n) (hb1 : av ≤ 9000) (hb2 : aw ≤ 9000) (hk : kd = 8) (hc : cTop z fd f v = false) (hcl : cnL E z f v = false) : CM l D k yL_acts cL_acts 9 (some .boolean)  8 125 [.ref lo, .ref o, .int (nI kd), .int (nI av), .int (nI aw)] [(o, .inr (12, [.ref h, .ref pp, .ref x2, .ref x3, .ref x4, .ref o2, .ref o4, .ref o9, .ref o7, .ref o0, .ref o1])), (h, .inr (5, [.ref jj, .ref dd, .int (nI n), .int (nI z)])), (jj, aI k 36 fj), (dd, aI k 6 fd), (pp, .inr (8, [.ref h, .ref r1, .ref r2, .int tk])), (r1, .inr (10, [.ref a1])), (a1, aI k 6 f), (r2, .inr (10, [.ref a2])), (a2, aI k 6 ct), (lo, .inr (13, [.ref eo, .ref e1, .ref e2, .ref e3, .ref e4, .ref e5, .int (nI n), .int (nI z), .int tk])), (eo, aR k 3 6 (fun i9 => if i9 < 6 then some (er i9) else none)), ((er 0), aI k 6 (EN E 0)), ((er 1), aI k 6 (EN E 1)), ((er 2), aI k 6 (EN E 2)), ((er 3), aI k 6 (EN E 3)), ((er 4), aI k 6 (EN E 4)), ((er 5), aI k 6 (EN E 5)), (e1, aI k 6 f)] (is1 (some (.int 1)) [(o, .inr (12, [.ref h, .ref pp, .ref x2, .ref x3, .ref x4, .ref o2, .ref o4, .ref o9, .ref o7, .ref o0, .ref o1])), (h, .inr (5, [.ref jj, .ref dd, .int (nI n), .int (nI z)])), (jj, aI k 36 fj), (dd, aI k 6 fd), (pp, .inr (8, [.ref h, .ref r1, .ref r2, .int tk])), (r1, .inr (10, [.ref a1])), (a1, aI k 6 f), (r2, .inr (10, [.ref a2])), (a2, aI k 6 ct), (lo, .inr (13, [.ref eo, .ref e1, .ref e2, .ref e3, .ref e4, .ref e5, .int (nI n), .int (nI z), .int tk])), (eo, aR k 3 6 (fun i9 => if i9 < 6 then some (er i9) else none)), ((er 0), aI k 6 (EN E 0)), ((er 1), aI k 6 (EN E 1)), ((er 2), aI k 6 (EN E 2)), ((er 3), aI k 6 (EN E 3)), ((er 4), aI k 6 (EN E 4)), ((er 5), aI k 6 (EN E 5)), (e1, aI k 6 f)]) 1 6 0 := by
  refine CM.of (lv0 := [(0, .ref lo), (1, .ref o), (2, .int (nI kd)), (3, .int (nI av)), (4, .int (nI aw))]) (by decide +kernel) (Nat.le_of_ble_eq_true rfl) rfl ?_
  intro p9 e9 s9 m9 bl9 me9 co9 C hr hlk hin had
  refine g_iload_n (pc := 0) C 3 rfl rfl dL_acts_0 ?_
  refine g_aload_n (pc := 1) C 0 rfl rfl dL_acts_1 ?_
  refine g_get (pc := 2) C (T := TXL) inXL 9 rfl rfl 6 (by decide) q_564 rfl rfl dL_acts_2 ?_
  refine g_irem (pc := 5) C (nI_ne0 (by omega) (by omega)) dL_acts_5 ?_
  refine G.eqs (st' := [.int (nI v)]) (congrArg (β := List Value) (fun z9 => [.int z9]) (show (((nI av) - (nI av) / (nI n) * (nI n)) : Int32) = (nI v) from (by rw [← hav]; exact pk_rem (by omega) (by omega) (by omega)))) ?_
  refine g_istore (pc := 6) C [(5, .int (nI v)), (0, .ref lo), (1, .ref o), (2, .int (nI kd)), (3, .int (nI av)), (4, .int (nI aw))] dL_acts_6 (by decide) rfl ?_
  refine g_iload (pc := 8) C 5 rfl dL_acts_8 ?_
  refine g_aload_n (pc := 10) C 1 rfl rfl dL_acts_10 ?_
  refine g_get (pc := 11) C (T := TXL) inXL 9 rfl rfl 6 (by decide) q_564 rfl rfl dL_acts_11 ?_
  refine g_irem (pc := 14) C (nI_ne0 (by omega) (by omega)) dL_acts_14 ?_
  refine G.eqs (st' := [.int (nI u)]) (congrArg (β := List Value) (fun z9 => [.int z9]) (show (((nI aw) - (nI aw) / (nI n) * (nI n)) : Int32) = (nI u) from (by rw [← haw]; exact pk_rem (by omega) (by omega) (by omega)))) ?_
  refine g_istore (pc := 15) C [(6, .int (nI u)), (5, .int (nI v)), (0, .ref lo), (1, .ref o), (2, .int (nI kd)), (3, .int (nI av)), (4, .int (nI aw))] dL_acts_15 (by decide) rfl ?_
  refine g_iload_n (pc := 17) C 4 rfl rfl dL_acts_17 ?_
  refine g_if_ne (pc := 18) C 109 (by decide) dL_acts_18 (fun c_18 => ?_) (fun c_18 => ?_)
  · refine g_iload_n (pc := 109) C 4 rfl rfl dL_acts_109 ?_
    refine g_iconst (pc := 110) (v := 3) C (by decide) dL_acts_110 ?_
    refine g_icmp_ge (pc := 111) C 228 (by decide) dL_acts_111 (fun c_111 => ?_) (fun c_111 => ?_)
    · refine g_iload_n (pc := 228) C 4 rfl rfl dL_acts_228 ?_
      refine g_bipush (pc := 229) (v := 8) C (by decide) dL_acts_229 ?_
      refine g_icmp_ge (pc := 231) C 312 (by decide) dL_acts_231 (fun c_231 => ?_) (fun c_231 => ?_)
      · refine g_iload_n (pc := 312) C 4 rfl rfl dL_acts_312 ?_
        refine g_bipush (pc := 313) (v := 8) C (by decide) dL_acts_313 ?_
        refine g_icmp_ne (pc := 315) C 460 (by decide) dL_acts_315 (fun c_315 => ?_) (fun c_315 => ?_)
        · exact absurd (by rw [hk]; rfl) c_315
        · refine g_aload_n (pc := 318) C 3 rfl rfl dL_acts_318 ?_
          refine g_iload (pc := 319) C 1 rfl dL_acts_319 ?_
          refine g_callSW (pc := 321) (cells := 0) (slots := 0) (g := 0) (As := [.ref o, .int (nI v)]) (st := []) (b := 0) C (nA := 2) rfl (c_L_topple_x o h pp x2 x3 x4 o2 o4 o9 o7 o0 o1 jj dd n z fj fd r1 a1 r2 a2 f ct tk v (by first | assumption | decide | omega) (by first | assumption | decide | omega) (by first | assumption | decide | omega) (by first | assumption | decide | omega)) q_787 q_788 q_551 q_786 (by decide +kernel) dL_acts_321 ⟨Nat.le_of_ble_eq_true rfl, Nat.le_of_ble_eq_true rfl⟩ [0, 1, 2, 3, 4, 5, 6, 7, 8] [9, 10, 11, 12, 13, 14, 15, 16, 17] rfl (wr := [(lo, .inr (13, [.ref eo, .ref e1, .ref e2, .ref e3, .ref e4, .ref e5, .int (nI n), .int (nI z), .int tk])), (eo, aR k 3 6 (fun i9 => if i9 < 6 then some (er i9) else none)), ((er 0), aI k 6 (EN E 0)), ((er 1), aI k 6 (EN E 1)), ((er 2), aI k 6 (EN E 2)), ((er 3), aI k 6 (EN E 3)), ((er 4), aI k 6 (EN E 4)), ((er 5), aI k 6 (EN E 5)), (e1, aI k 6 f)]) rfl (by decide) (by decide) (by decide) (Nat.le_of_ble_eq_true rfl) ⟨Nat.le_of_ble_eq_true rfl, Nat.le_of_ble_eq_true rfl⟩ (fun rv w1 h1 => ?_)
          obtain ⟨rfl, rfl⟩ := h1
          refine G.aft [9, 10, 11, 12, 13, 14, 15, 16, 17, 0, 1, 2, 3, 4, 5, 6, 7, 8] (ws' := [(o, .inr (12, [.ref h, .ref pp, .ref x2, .ref x3, .ref x4, .ref o2, .ref o4, .ref o9, .ref o7, .ref o0, .ref o1])), (h, .inr (5, [.ref jj, .ref dd, .int (nI n), .int (nI z)])), (jj, aI k 36 fj), (dd, aI k 6 fd), (pp, .inr (8, [.ref h, .ref r1, .ref r2, .int tk])), (r1, .inr (10, [.ref a1])), (a1, aI k 6 f), (r2, .inr (10, [.ref a2])), (a2, aI k 6 ct), (lo, .inr (13, [.ref eo, .ref e1, .ref e2, .ref e3, .ref e4, .ref e5, .int (nI n), .int (nI z), .int tk])), (eo, aR k 3 6 (fun i9 => if i9 < 6 then some (er i9) else none)), ((er 0), aI k 6 (EN E 0)), ((er 1), aI k 6 (EN E 1)), ((er 2), aI k 6 (EN E 2)), ((er 3), aI k 6 (EN E 3)), ((er 4), aI k 6 (EN E 4)), ((er 5), aI k 6 (EN E 5)), (e1, aI k 6 f)]) (st' := [.int (-1000002)]) (cells' := 1) (slots' := 6) (g' := 0) (by decide) rfl rfl rfl rfl rfl ?_
          refine g_istore (pc := 324) C [(7, .int (-1000002)), (6, .int (nI u)), (5, .int (nI v)), (0, .ref lo), (1, .ref o), (2, .int (nI kd)), (3, .int (nI av)), (4, .int (nI aw))] dL_acts_324 (by decide) rfl ?_
          refine g_iload (pc := 326) C 2 rfl dL_acts_326 ?_
          refine g_aload_n (pc := 328) C 3 rfl rfl dL_acts_328 ?_
          refine g_get (pc := 329) C (T := TXL) inXL 9 rfl rfl 7 (by decide) q_563 rfl rfl dL_acts_329 ?_
          refine g_icmp_eq (pc := 332) C 360 (by decide) dL_acts_332 (fun c_332 => ?_) (fun c_332 => ?_)
          · have c332 : v = z := (nI_eq (by omega) (by omega)).mp c_332
            refine g_iload (pc := 360) C 0 rfl dL_acts_360 ?_
            refine g_iconst (pc := 362) (v := 2) C (by decide) dL_acts_362 ?_
            refine g_callS (pc := 363) (cells := 1) (slots := 6) (g := 0) (As := [.int 2]) (st := [.int (-1000002)]) (b := 0) C (nA := 1) rfl (c_L_bad 2 ) q_710 q_711 q_551 q_709 (by decide +kernel) dL_acts_363 ⟨Nat.le_of_ble_eq_true rfl, Nat.le_of_ble_eq_true rfl⟩ [] [0, 1, 2, 3, 4, 5, 6, 7, 8, 9, 10, 11, 12, 13, 14, 15, 16, 17] rfl (wr := [(o, .inr (12, [.ref h, .ref pp, .ref x2, .ref x3, .ref x4, .ref o2, .ref o4, .ref o9, .ref o7, .ref o0, .ref o1])), (h, .inr (5, [.ref jj, .ref dd, .int (nI n), .int (nI z)])), (jj, aI k 36 fj), (dd, aI k 6 fd), (pp, .inr (8, [.ref h, .ref r1, .ref r2, .int tk])), (r1, .inr (10, [.ref a1])), (a1, aI k 6 f), (r2, .inr (10, [.ref a2])), (a2, aI k 6 ct), (lo, .inr (13, [.ref eo, .ref e1, .ref e2, .ref e3, .ref e4, .ref e5, .int (nI n), .int (nI z), .int tk])), (eo, aR k 3 6 (fun i9 => if i9 < 6 then some (er i9) else none)), ((er 0), aI k 6 (EN E 0)), ((er 1), aI k 6 (EN E 1)), ((er 2), aI k 6 (EN E 2)), ((er 3), aI k 6 (EN E 3)), ((er 4), aI k 6 (EN E 4)), ((er 5), aI k 6 (EN E 5)), (e1, aI k 6 f)]) rfl (by decide) (by decide) (by decide) (Nat.le_of_ble_eq_true rfl) ⟨Nat.le_of_ble_eq_true rfl, Nat.le_of_ble_eq_true rfl⟩ (fun rv w1 h1 => ?_)
            obtain ⟨rfl, rfl⟩ := h1
            refine G.aft [0, 1, 2, 3, 4, 5, 6, 7, 8, 9, 10, 11, 12, 13, 14, 15, 16, 17] (ws' := [(o, .inr (12, [.ref h, .ref pp, .ref x2, .ref x3, .ref x4, .ref o2, .ref o4, .ref o9, .ref o7, .ref o0, .ref o1])), (h, .inr (5, [.ref jj, .ref dd, .int (nI n), .int (nI z)])), (jj, aI k 36 fj), (dd, aI k 6 fd), (pp, .inr (8, [.ref h, .ref r1, .ref r2, .int tk])), (r1, .inr (10, [.ref a1])), (a1, aI k 6 f), (r2, .inr (10, [.ref a2])), (a2, aI k 6 ct), (lo, .inr (13, [.ref eo, .ref e1, .ref e2, .ref e3, .ref e4, .ref e5, .int (nI n), .int (nI z), .int tk])), (eo, aR k 3 6 (fun i9 => if i9 < 6 then some (er i9) else none)), ((er 0), aI k 6 (EN E 0)), ((er 1), aI k 6 (EN E 1)), ((er 2), aI k 6 (EN E 2)), ((er 3), aI k 6 (EN E 3)), ((er 4), aI k 6 (EN E 4)), ((er 5), aI k 6 (EN E 5)), (e1, aI k 6 f)]) (st' := [.int (-1000000 - 2), .int (-1000002)]) (cells' := 1) (slots' := 6) (g' := 0) (by decide) rfl rfl rfl rfl rfl ?_
            refine g_icmp_ne (pc := 366) C 373 (by decide) dL_acts_366 (fun c_366 => ?_) (fun c_366 => ?_)
            · exact absurd rfl c_366
            · refine g_iconst (pc := 369) (v := 1) C (by decide) dL_acts_369 ?_
              refine g_goto (pc := 370) C 374 (by decide) dL_acts_370 ?_
              exact g_zret (pc := 374) C hr (by first | rfl | exact bI_nar _) hlk (by first | decide | omega) (by first | decide | omega) (by first | decide | omega) dL_acts_374 ⟨rfl, rfl⟩
          · have c332 : ¬ v = z := fun q => c_332 (by rw [q])
            refine g_aload_n (pc := 335) C 3 rfl rfl dL_acts_335 ?_
            refine g_iload (pc := 336) C 2 rfl dL_acts_336 ?_
            refine g_callV (pc := 338) (cells := 1) (slots := 6) (g := 0) (As := [.int (nI v)]) (st := []) (T := TXL) (q0 := 9) C (nA := 1) rfl (c_L_degree_ lo eo e1 e2 e3 e4 e5 er E n z tk v (by omega)) q_569 q_570 q_568 q_551 q_567 (by decide +kernel) rfl rfl dL_acts_338 ⟨Nat.le_of_ble_eq_true rfl, Nat.le_of_ble_eq_true rfl⟩ [9, 10, 11, 12, 13, 14, 15, 16] [0, 1, 2, 3, 4, 5, 6, 7, 8, 17] rfl (wr := [(o, .inr (12, [.ref h, .ref pp, .ref x2, .ref x3, .ref x4, .ref o2, .ref o4, .ref o9, .ref o7, .ref o0, .ref o1])), (h, .inr (5, [.ref jj, .ref dd, .int (nI n), .int (nI z)])), (jj, aI k 36 fj), (dd, aI k 6 fd), (pp, .inr (8, [.ref h, .ref r1, .ref r2, .int tk])), (r1, .inr (10, [.ref a1])), (a1, aI k 6 f), (r2, .inr (10, [.ref a2])), (a2, aI k 6 ct), (e1, aI k 6 f)]) rfl (by decide) (by decide) (by decide) (Nat.le_of_ble_eq_true rfl) ⟨Nat.le_of_ble_eq_true rfl, Nat.le_of_ble_eq_true rfl⟩ (fun rv w1 h1 => ?_)
            obtain ⟨rfl, rfl⟩ := h1
            refine G.aft [0, 1, 2, 3, 4, 5, 6, 7, 8, 10, 11, 12, 13, 14, 15, 16, 17, 9] (ws' := [(o, .inr (12, [.ref h, .ref pp, .ref x2, .ref x3, .ref x4, .ref o2, .ref o4, .ref o9, .ref o7, .ref o0, .ref o1])), (h, .inr (5, [.ref jj, .ref dd, .int (nI n), .int (nI z)])), (jj, aI k 36 fj), (dd, aI k 6 fd), (pp, .inr (8, [.ref h, .ref r1, .ref r2, .int tk])), (r1, .inr (10, [.ref a1])), (a1, aI k 6 f), (r2, .inr (10, [.ref a2])), (a2, aI k 6 ct), (lo, .inr (13, [.ref eo, .ref e1, .ref e2, .ref e3, .ref e4, .ref e5, .int (nI n), .int (nI z), .int tk])), (eo, aR k 3 6 (fun i9 => if i9 < 6 then some (er i9) else none)), ((er 0), aI k 6 (EN E 0)), ((er 1), aI k 6 (EN E 1)), ((er 2), aI k 6 (EN E 2)), ((er 3), aI k 6 (EN E 3)), ((er 4), aI k 6 (EN E 4)), ((er 5), aI k 6 (EN E 5)), (e1, aI k 6 f)]) (st' := [.int (nI (dg E v))]) (cells' := 1) (slots' := 6) (g' := 0) (by decide) rfl rfl rfl rfl rfl ?_
            refine g_if_eq (pc := 341) C 360 (by decide) dL_acts_341 (fun c_341 => ?_) (fun c_341 => ?_)
            · refine g_iload (pc := 360) C 0 rfl dL_acts_360 ?_
              refine g_iconst (pc := 362) (v := 2) C (by decide) dL_acts_362 ?_
              refine g_callS (pc := 363) (cells := 1) (slots := 6) (g := 0) (As := [.int 2]) (st := [.int (-1000002)]) (b := 0) C (nA := 1) rfl (c_L_bad 2 ) q_710 q_711 q_551 q_709 (by decide +kernel) dL_acts_363 ⟨Nat.le_of_ble_eq_true rfl, Nat.le_of_ble_eq_true rfl⟩ [] [0, 1, 2, 3, 4, 5, 6, 7, 8, 9, 10, 11, 12, 13, 14, 15, 16, 17] rfl (wr := [(o, .inr (12, [.ref h, .ref pp, .ref x2, .ref x3, .ref x4, .ref o2, .ref o4, .ref o9, .ref o7, .ref o0, .ref o1])), (h, .inr (5, [.ref jj, .ref dd, .int (nI n), .int (nI z)])), (jj, aI k 36 fj), (dd, aI k 6 fd), (pp, .inr (8, [.ref h, .ref r1, .ref r2, .int tk])), (r1, .inr (10, [.ref a1])), (a1, aI k 6 f), (r2, .inr (10, [.ref a2])), (a2, aI k 6 ct), (lo, .inr (13, [.ref eo, .ref e1, .ref e2, .ref e3, .ref e4, .ref e5, .int (nI n), .int (nI z), .int tk])), (eo, aR k 3 6 (fun i9 => if i9 < 6 then some (er i9) else none)), ((er 0), aI k 6 (EN E 0)), ((er 1), aI k 6 (EN E 1)), ((er 2), aI k 6 (EN E 2)), ((er 3), aI k 6 (EN E 3)), ((er 4), aI k 6 (EN E 4)), ((er 5), aI k 6 (EN E 5)), (e1, aI k 6 f)]) rfl (by decide) (by decide) (by decide) (Nat.le_of_ble_eq_true rfl) ⟨Nat.le_of_ble_eq_true rfl, Nat.le_of_ble_eq_true rfl⟩ (fun rv w1 h1 => ?_)
              obtain ⟨rfl, rfl⟩ := h1
              refine G.aft [0, 1, 2, 3, 4, 5, 6, 7, 8, 9, 10, 11, 12, 13, 14, 15, 16, 17] (ws' := [(o, .inr (12, [.ref h, .ref pp, .ref x2, .ref x3, .ref x4, .ref o2, .ref o4, .ref o9, .ref o7, .ref o0, .ref o1])), (h, .inr (5, [.ref jj, .ref dd, .int (nI n), .int (nI z)])), (jj, aI k 36 fj), (dd, aI k 6 fd), (pp, .inr (8, [.ref h, .ref r1, .ref r2, .int tk])), (r1, .inr (10, [.ref a1])), (a1, aI k 6 f), (r2, .inr (10, [.ref a2])), (a2, aI k 6 ct), (lo, .inr (13, [.ref eo, .ref e1, .ref e2, .ref e3, .ref e4, .ref e5, .int (nI n), .int (nI z), .int tk])), (eo, aR k 3 6 (fun i9 => if i9 < 6 then some (er i9) else none)), ((er 0), aI k 6 (EN E 0)), ((er 1), aI k 6 (EN E 1)), ((er 2), aI k 6 (EN E 2)), ((er 3), aI k 6 (EN E 3)), ((er 4), aI k 6 (EN E 4)), ((er 5), aI k 6 (EN E 5)), (e1, aI k 6 f)]) (st' := [.int (-1000000 - 2), .int (-1000002)]) (cells' := 1) (slots' := 6) (g' := 0) (by decide) rfl rfl rfl rfl rfl ?_
              refine g_icmp_ne (pc := 366) C 373 (by decide) dL_acts_366 (fun c_366 => ?_) (fun c_366 => ?_)
              · exact absurd rfl c_366
              · refine g_iconst (pc := 369) (v := 1) C (by decide) dL_acts_369 ?_
                refine g_goto (pc := 370) C 374 (by decide) dL_acts_370 ?_
                exact g_zret (pc := 374) C hr (by first | rfl | exact bI_nar _) hlk (by first | decide | omega) (by first | decide | omega) (by first | decide | omega) dL_acts_374 ⟨rfl, rfl⟩
            · refine g_aload_n (pc := 344) C 3 rfl rfl dL_acts_344 ?_
              refine g_get (pc := 345) C (T := TXL) inXL 9 rfl rfl 1 (by decide) q_566 rfl rfl dL_acts_345 ?_
              refine g_iload (pc := 348) C 2 rfl dL_acts_348 ?_
              refine g_iald_n (pc := 350) C (j := v) 17 rfl (by omega) (by first | decide | omega) rfl dL_acts_350 ?_
              refine g_aload_n (pc := 351) C 3 rfl rfl dL_acts_351 ?_
              refine g_iload (pc := 352) C 2 rfl dL_acts_352 ?_
              refine g_callV (pc := 354) (cells := 1) (slots := 6) (g := 0) (As := [.int (nI v)]) (st := [.int (f v)]) (T := TXL) (q0 := 9) C (nA := 1) rfl (c_L_degree_ lo eo e1 e2 e3 e4 e5 er E n z tk v (by first | assumption | decide | omega)) q_569 q_570 q_568 q_551 q_567 (by decide +kernel) rfl rfl dL_acts_354 ⟨Nat.le_of_ble_eq_true rfl, Nat.le_of_ble_eq_true rfl⟩ [9, 10, 11, 12, 13, 14, 15, 16] [0, 1, 2, 3, 4, 5, 6, 7, 8, 17] rfl (wr := [(o, .inr (12, [.ref h, .ref pp, .ref x2, .ref x3, .ref x4, .ref o2, .ref o4, .ref o9, .ref o7, .ref o0, .ref o1])), (h, .inr (5, [.ref jj, .ref dd, .int (nI n), .int (nI z)])), (jj, aI k 36 fj), (dd, aI k 6 fd), (pp, .inr (8, [.ref h, .ref r1, .ref r2, .int tk])), (r1, .inr (10, [.ref a1])), (a1, aI k 6 f), (r2, .inr (10, [.ref a2])), (a2, aI k 6 ct), (e1, aI k 6 f)]) rfl (by decide) (by decide) (by decide) (Nat.le_of_ble_eq_true rfl) ⟨Nat.le_of_ble_eq_true rfl, Nat.le_of_ble_eq_true rfl⟩ (fun rv w1 h1 => ?_)
              obtain ⟨rfl, rfl⟩ := h1
              refine G.aft [0, 1, 2, 3, 4, 5, 6, 7, 8, 10, 11, 12, 13, 14, 15, 16, 17, 9] (ws' := [(o, .inr (12, [.ref h, .ref pp, .ref x2, .ref x3, .ref x4, .ref o2, .ref o4, .ref o9, .ref o7, .ref o0, .ref o1])), (h, .inr (5, [.ref jj, .ref dd, .int (nI n), .int (nI z)])), (jj, aI k 36 fj), (dd, aI k 6 fd), (pp, .inr (8, [.ref h, .ref r1, .ref r2, .int tk])), (r1, .inr (10, [.ref a1])), (a1, aI k 6 f), (r2, .inr (10, [.ref a2])), (a2, aI k 6 ct), (lo, .inr (13, [.ref eo, .ref e1, .ref e2, .ref e3, .ref e4, .ref e5, .int (nI n), .int (nI z), .int tk])), (eo, aR k 3 6 (fun i9 => if i9 < 6 then some (er i9) else none)), ((er 0), aI k 6 (EN E 0)), ((er 1), aI k 6 (EN E 1)), ((er 2), aI k 6 (EN E 2)), ((er 3), aI k 6 (EN E 3)), ((er 4), aI k 6 (EN E 4)), ((er 5), aI k 6 (EN E 5)), (e1, aI k 6 f)]) (st' := [.int (nI (dg E v)), .int (f v)]) (cells' := 1) (slots' := 6) (g' := 0) (by decide) rfl rfl rfl rfl rfl ?_
              refine g_icmp_ge (pc := 357) C 375 (by decide) dL_acts_357 (fun c_357 => ?_) (fun c_357 => ?_)
              · exact absurd (cnL_y c332 c_341 (Int32.not_lt.mpr c_357)) (by rw [hcl]; decide)
              · refine g_iload (pc := 360) C 0 rfl dL_acts_360 ?_
                refine g_iconst (pc := 362) (v := 2) C (by decide) dL_acts_362 ?_
                refine g_callS (pc := 363) (cells := 1) (slots := 6) (g := 0) (As := [.int 2]) (st := [.int (-1000002)]) (b := 0) C (nA := 1) rfl (c_L_bad 2 ) q_710 q_711 q_551 q_709 (by decide +kernel) dL_acts_363 ⟨Nat.le_of_ble_eq_true rfl, Nat.le_of_ble_eq_true rfl⟩ [] [0, 1, 2, 3, 4, 5, 6, 7, 8, 9, 10, 11, 12, 13, 14, 15, 16, 17] rfl (wr := [(o, .inr (12, [.ref h, .ref pp, .ref x2, .ref x3, .ref x4, .ref o2, .ref o4, .ref o9, .ref o7, .ref o0, .ref o1])), (h, .inr (5, [.ref jj, .ref dd, .int (nI n), .int (nI z)])), (jj, aI k 36 fj), (dd, aI k 6 fd), (pp, .inr (8, [.ref h, .ref r1, .ref r2, .int tk])), (r1, .inr (10, [.ref a1])), (a1, aI k 6 f), (r2, .inr (10, [.ref a2])), (a2, aI k 6 ct), (lo, .inr (13, [.ref eo, .ref e1, .ref e2, .ref e3, .ref e4, .ref e5, .int (nI n), .int (nI z), .int tk])), (eo, aR k 3 6 (fun i9 => if i9 < 6 then some (er i9) else none)), ((er 0), aI k 6 (EN E 0)), ((er 1), aI k 6 (EN E 1)), ((er 2), aI k 6 (EN E 2)), ((er 3), aI k 6 (EN E 3)), ((er 4), aI k 6 (EN E 4)), ((er 5), aI k 6 (EN E 5)), (e1, aI k 6 f)]) rfl (by decide) (by decide) (by decide) (Nat.le_of_ble_eq_true rfl) ⟨Nat.le_of_ble_eq_true rfl, Nat.le_of_ble_eq_true rfl⟩ (fun rv w1 h1 => ?_)
                obtain ⟨rfl, rfl⟩ := h1
                refine G.aft [0, 1, 2, 3, 4, 5, 6, 7, 8, 9, 10, 11, 12, 13, 14, 15, 16, 17] (ws' := [(o, .inr (12, [.ref h, .ref pp, .ref x2, .ref x3, .ref x4, .ref o2, .ref o4, .ref o9, .ref o7, .ref o0, .ref o1])), (h, .inr (5, [.ref jj, .ref dd, .int (nI n), .int (nI z)])), (jj, aI k 36 fj), (dd, aI k 6 fd), (pp, .inr (8, [.ref h, .ref r1, .ref r2, .int tk])), (r1, .inr (10, [.ref a1])), (a1, aI k 6 f), (r2, .inr (10, [.ref a2])), (a2, aI k 6 ct), (lo, .inr (13, [.ref eo, .ref e1, .ref e2, .ref e3, .ref e4, .ref e5, .int (nI n), .int (nI z), .int tk])), (eo, aR k 3 6 (fun i9 => if i9 < 6 then some (er i9) else none)), ((er 0), aI k 6 (EN E 0)), ((er 1), aI k 6 (EN E 1)), ((er 2), aI k 6 (EN E 2)), ((er 3), aI k 6 (EN E 3)), ((er 4), aI k 6 (EN E 4)), ((er 5), aI k 6 (EN E 5)), (e1, aI k 6 f)]) (st' := [.int (-1000000 - 2), .int (-1000002)]) (cells' := 1) (slots' := 6) (g' := 0) (by decide) rfl rfl rfl rfl rfl ?_
                refine g_icmp_ne (pc := 366) C 373 (by decide) dL_acts_366 (fun c_366 => ?_) (fun c_366 => ?_)
                · exact absurd rfl c_366
                · refine g_iconst (pc := 369) (v := 1) C (by decide) dL_acts_369 ?_
                  refine g_goto (pc := 370) C 374 (by decide) dL_acts_370 ?_
                  exact g_zret (pc := 374) C hr (by first | rfl | exact bI_nar _) hlk (by first | decide | omega) (by first | decide | omega) (by first | decide | omega) dL_acts_374 ⟨rfl, rfl⟩
      · exact absurd (show nI 8 ≤ nI kd from nI_le (by omega) (by omega)) c_231
    · exact absurd (show nI 3 ≤ nI kd from nI_le (by omega) (by omega)) c_111
  · exact absurd c_18 (nI_ne0 (by omega) (by omega))
set_option maxRecDepth 100000 in
set_option maxHeartbeats 400000 in
theorem c_L_acts_k8t {l : Launch} {D : va_G} {k : Nat → ClassId} (o : Nat) (h : Nat) (pp : Nat) (x2 : Nat) (x3 : Nat) (x4 : Nat) (o2 : Nat) (o4 : Nat) (o9 : Nat) (o7 : Nat) (o0 : Nat) (o1 : Nat) (jj : Nat) (dd : Nat) (n : Nat) (z : Nat) (fj : Nat → Int32) (fd : Nat → Int32) (r1 : Nat) (r2 : Nat) (tk : Int32) (a1 : Nat) (f : Nat → Int32) (a2 : Nat) (ct : Nat → Int32) (lo : Nat) (eo : Nat) (e1 : Nat) (e2 : Nat) (e3 : Nat) (e4 : Nat) (e5 : Nat) (er : Nat → Nat) (E : Nat → Nat → Nat) (kd : Nat) (av : Nat) (aw : Nat) (v : Nat) (u : Nat) (hn : n ≤ 6) (hz : z < n) (hE3 : ∀ i j, E i j ≤ 3) (hav : av % n = v) (haw : aw % n = u) (hv : v < n) (hu : u < n) (hb1 : av ≤ 9000) (hb2 : aw ≤ 9000) (hk : kd = 8) (hc : cTop z fd f v = true) (hcl : cnL E z f v = true) (h8e : (tpF z fj 1 v (upd f v (f v + (-1) * fd v)) n) v = upd (tlF E v (upd f v (f v - nI (dg E v))) 6) z 0 v) : CM l D k yL_acts cL_acts 9 (some .boolean)  4 90 [.ref lo, .ref o, .int (nI kd), .int (nI av), .int (nI aw)] [(o, .inr (12, [.ref h, .ref pp, .ref x2, .ref x3, .ref x4, .ref o2, .ref o4, .ref o9, .ref o7, .ref o0, .ref o1])), (h, .inr (5, [.ref jj, .ref dd, .int (nI n), .int (nI z)])), (jj, aI k 36 fj), (dd, aI k 6 fd), (pp, .inr (8, [.ref h, .ref r1, .ref r2, .int tk])), (r1, .inr (10, [.ref a1])), (a1, aI k 6 f), (r2, .inr (10, [.ref a2])), (a2, aI k 6 ct), (lo, .inr (13, [.ref eo, .ref e1, .ref e2, .ref e3, .ref e4, .ref e5, .int (nI n), .int (nI z), .int tk])), (eo, aR k 3 6 (fun i9 => if i9 < 6 then some (er i9) else none)), ((er 0), aI k 6 (EN E 0)), ((er 1), aI k 6 (EN E 1)), ((er 2), aI k 6 (EN E 2)), ((er 3), aI k 6 (EN E 3)), ((er 4), aI k 6 (EN E 4)), ((er 5), aI k 6 (EN E 5)), (e1, aI k 6 f), (e2, aI k 6 ct)] (is1 (some (.int 1)) [(o, .inr (12, [.ref h, .ref pp, .ref x2, .ref x3, .ref x4, .ref o2, .ref o4, .ref o9, .ref o7, .ref o0, .ref o1])), (h, .inr (5, [.ref jj, .ref dd, .int (nI n), .int (nI z)])), (jj, aI k 36 fj), (dd, aI k 6 fd), (pp, .inr (8, [.ref h, .ref r1, .ref r2, .int (tpT z fj 1 v tk n)])), (r1, .inr (10, [.ref a1])), (a1, aI k 6 (tpF z fj 1 v (upd f v (f v + (-1) * fd v)) n)), (r2, .inr (10, [.ref a2])), (a2, aI k 6 (upd ct v (ct v + 1))), (lo, .inr (13, [.ref eo, .ref e1, .ref e2, .ref e3, .ref e4, .ref e5, .int (nI n), .int (nI z), .int (tk + (tlF E v (upd f v (f v - nI (dg E v))) 6) z)])), (eo, aR k 3 6 (fun i9 => if i9 < 6 then some (er i9) else none)), ((er 0), aI k 6 (EN E 0)), ((er 1), aI k 6 (EN E 1)), ((er 2), aI k 6 (EN E 2)), ((er 3), aI k 6 (EN E 3)), ((er 4), aI k 6 (EN E 4)), ((er 5), aI k 6 (EN E 5)), (e1, aI k 6 (upd (tlF E v (upd f v (f v - nI (dg E v))) 6) z 0)), (e2, aI k 6 (upd ct v (ct v + 1)))]) 0 0 0 := by
  refine CM.of (lv0 := [(0, .ref lo), (1, .ref o), (2, .int (nI kd)), (3, .int (nI av)), (4, .int (nI aw))]) (by decide +kernel) (Nat.le_of_ble_eq_true rfl) rfl ?_
  intro p9 e9 s9 m9 bl9 me9 co9 C hr hlk hin had
  refine g_iload_n (pc := 0) C 3 rfl rfl dL_acts_0 ?_
  refine g_aload_n (pc := 1) C 0 rfl rfl dL_acts_1 ?_
  refine g_get (pc := 2) C (T := TXL) inXL 9 rfl rfl 6 (by decide) q_564 rfl rfl dL_acts_2 ?_
  refine g_irem (pc := 5) C (nI_ne0 (by omega) (by omega)) dL_acts_5 ?_
  refine G.eqs (st' := [.int (nI v)]) (congrArg (β := List Value) (fun z9 => [.int z9]) (show (((nI av) - (nI av) / (nI n) * (nI n)) : Int32) = (nI v) from (by rw [← hav]; exact pk_rem (by omega) (by omega) (by omega)))) ?_
  refine g_istore (pc := 6) C [(5, .int (nI v)), (0, .ref lo), (1, .ref o), (2, .int (nI kd)), (3, .int (nI av)), (4, .int (nI aw))] dL_acts_6 (by decide) rfl ?_
  refine g_iload (pc := 8) C 5 rfl dL_acts_8 ?_
  refine g_aload_n (pc := 10) C 1 rfl rfl dL_acts_10 ?_
  refine g_get (pc := 11) C (T := TXL) inXL 9 rfl rfl 6 (by decide) q_564 rfl rfl dL_acts_11 ?_
  refine g_irem (pc := 14) C (nI_ne0 (by omega) (by omega)) dL_acts_14 ?_
  refine G.eqs (st' := [.int (nI u)]) (congrArg (β := List Value) (fun z9 => [.int z9]) (show (((nI aw) - (nI aw) / (nI n) * (nI n)) : Int32) = (nI u) from (by rw [← haw]; exact pk_rem (by omega) (by omega) (by omega)))) ?_
  refine g_istore (pc := 15) C [(6, .int (nI u)), (5, .int (nI v)), (0, .ref lo), (1, .ref o), (2, .int (nI kd)), (3, .int (nI av)), (4, .int (nI aw))] dL_acts_15 (by decide) rfl ?_
  refine g_iload_n (pc := 17) C 4 rfl rfl dL_acts_17 ?_
  refine g_if_ne (pc := 18) C 109 (by decide) dL_acts_18 (fun c_18 => ?_) (fun c_18 => ?_)
  · refine g_iload_n (pc := 109) C 4 rfl rfl dL_acts_109 ?_
    refine g_iconst (pc := 110) (v := 3) C (by decide) dL_acts_110 ?_
    refine g_icmp_ge (pc := 111) C 228 (by decide) dL_acts_111 (fun c_111 => ?_) (fun c_111 => ?_)
    · refine g_iload_n (pc := 228) C 4 rfl rfl dL_acts_228 ?_
      refine g_bipush (pc := 229) (v := 8) C (by decide) dL_acts_229 ?_
      refine g_icmp_ge (pc := 231) C 312 (by decide) dL_acts_231 (fun c_231 => ?_) (fun c_231 => ?_)
      · refine g_iload_n (pc := 312) C 4 rfl rfl dL_acts_312 ?_
        refine g_bipush (pc := 313) (v := 8) C (by decide) dL_acts_313 ?_
        refine g_icmp_ne (pc := 315) C 460 (by decide) dL_acts_315 (fun c_315 => ?_) (fun c_315 => ?_)
        · exact absurd (by rw [hk]; rfl) c_315
        · refine g_aload_n (pc := 318) C 3 rfl rfl dL_acts_318 ?_
          refine g_iload (pc := 319) C 1 rfl dL_acts_319 ?_
          refine g_callSW (pc := 321) (cells := 0) (slots := 0) (g := 0) (As := [.ref o, .int (nI v)]) (st := []) (b := 0) C (nA := 2) rfl (c_L_topple o h pp x2 x3 x4 o2 o4 o9 o7 o0 o1 jj dd n z fj fd r1 a1 r2 a2 f ct tk v (by first | assumption | decide | omega) (by first | assumption | decide | omega) (by first | assumption | decide | omega) (by first | assumption | decide | omega)) q_787 q_788 q_551 q_786 (by decide +kernel) dL_acts_321 ⟨Nat.le_of_ble_eq_true rfl, Nat.le_of_ble_eq_true rfl⟩ [0, 1, 2, 3, 4, 5, 6, 7, 8] [9, 10, 11, 12, 13, 14, 15, 16, 17, 18] rfl (wr := [(lo, .inr (13, [.ref eo, .ref e1, .ref e2, .ref e3, .ref e4, .ref e5, .int (nI n), .int (nI z), .int tk])), (eo, aR k 3 6 (fun i9 => if i9 < 6 then some (er i9) else none)), ((er 0), aI k 6 (EN E 0)), ((er 1), aI k 6 (EN E 1)), ((er 2), aI k 6 (EN E 2)), ((er 3), aI k 6 (EN E 3)), ((er 4), aI k 6 (EN E 4)), ((er 5), aI k 6 (EN E 5)), (e1, aI k 6 f), (e2, aI k 6 ct)]) rfl (by decide) (by decide) (by decide) (Nat.le_of_ble_eq_true rfl) ⟨Nat.le_of_ble_eq_true rfl, Nat.le_of_ble_eq_true rfl⟩ (fun rv w1 h1 => ?_)
          obtain ⟨rfl, rfl⟩ := h1
          refine G.aft [10, 11, 12, 13, 14, 15, 16, 17, 18, 0, 1, 2, 3, 4, 5, 6, 7, 8, 9] (ws' := [(o, .inr (12, [.ref h, .ref pp, .ref x2, .ref x3, .ref x4, .ref o2, .ref o4, .ref o9, .ref o7, .ref o0, .ref o1])), (h, .inr (5, [.ref jj, .ref dd, .int (nI n), .int (nI z)])), (jj, aI k 36 fj), (dd, aI k 6 fd), (pp, .inr (8, [.ref h, .ref r1, .ref r2, .int (tpT z fj 1 v tk n)])), (r1, .inr (10, [.ref a1])), (a1, aI k 6 (tpF z fj 1 v (upd f v (f v + (-1) * fd v)) n)), (r2, .inr (10, [.ref a2])), (a2, aI k 6 (upd ct v (ct v + 1))), (lo, .inr (13, [.ref eo, .ref e1, .ref e2, .ref e3, .ref e4, .ref e5, .int (nI n), .int (nI z), .int tk])), (eo, aR k 3 6 (fun i9 => if i9 < 6 then some (er i9) else none)), ((er 0), aI k 6 (EN E 0)), ((er 1), aI k 6 (EN E 1)), ((er 2), aI k 6 (EN E 2)), ((er 3), aI k 6 (EN E 3)), ((er 4), aI k 6 (EN E 4)), ((er 5), aI k 6 (EN E 5)), (e1, aI k 6 f), (e2, aI k 6 ct)]) (st' := [.int ((tpF z fj 1 v (upd f v (f v + (-1) * fd v)) n) v)]) (cells' := 0) (slots' := 0) (g' := 0) (by decide) rfl rfl rfl rfl rfl ?_
          refine g_istore (pc := 324) C [(7, .int ((tpF z fj 1 v (upd f v (f v + (-1) * fd v)) n) v)), (6, .int (nI u)), (5, .int (nI v)), (0, .ref lo), (1, .ref o), (2, .int (nI kd)), (3, .int (nI av)), (4, .int (nI aw))] dL_acts_324 (by decide) rfl ?_
          refine g_iload (pc := 326) C 2 rfl dL_acts_326 ?_
          refine g_aload_n (pc := 328) C 3 rfl rfl dL_acts_328 ?_
          refine g_get (pc := 329) C (T := TXL) inXL 9 rfl rfl 7 (by decide) q_563 rfl rfl dL_acts_329 ?_
          refine g_icmp_eq (pc := 332) C 360 (by decide) dL_acts_332 (fun c_332 => ?_) (fun c_332 => ?_)
          · exact absurd hcl (by rw [cnL_1 ((nI_eq (by omega) (by omega)).mp c_332)]; decide)
          · have c332 : ¬ v = z := fun q => c_332 (by rw [q])
            refine g_aload_n (pc := 335) C 3 rfl rfl dL_acts_335 ?_
            refine g_iload (pc := 336) C 2 rfl dL_acts_336 ?_
            refine g_callV (pc := 338) (cells := 0) (slots := 0) (g := 0) (As := [.int (nI v)]) (st := []) (T := TXL) (q0 := 9) C (nA := 1) rfl (c_L_degree_ lo eo e1 e2 e3 e4 e5 er E n z tk v (by omega)) q_569 q_570 q_568 q_551 q_567 (by decide +kernel) rfl rfl dL_acts_338 ⟨Nat.le_of_ble_eq_true rfl, Nat.le_of_ble_eq_true rfl⟩ [9, 10, 11, 12, 13, 14, 15, 16] [0, 1, 2, 3, 4, 5, 6, 7, 8, 17, 18] rfl (wr := [(o, .inr (12, [.ref h, .ref pp, .ref x2, .ref x3, .ref x4, .ref o2, .ref o4, .ref o9, .ref o7, .ref o0, .ref o1])), (h, .inr (5, [.ref jj, .ref dd, .int (nI n), .int (nI z)])), (jj, aI k 36 fj), (dd, aI k 6 fd), (pp, .inr (8, [.ref h, .ref r1, .ref r2, .int (tpT z fj 1 v tk n)])), (r1, .inr (10, [.ref a1])), (a1, aI k 6 (tpF z fj 1 v (upd f v (f v + (-1) * fd v)) n)), (r2, .inr (10, [.ref a2])), (a2, aI k 6 (upd ct v (ct v + 1))), (e1, aI k 6 f), (e2, aI k 6 ct)]) rfl (by decide) (by decide) (by decide) (Nat.le_of_ble_eq_true rfl) ⟨Nat.le_of_ble_eq_true rfl, Nat.le_of_ble_eq_true rfl⟩ (fun rv w1 h1 => ?_)
            obtain ⟨rfl, rfl⟩ := h1
            refine G.aft [0, 1, 2, 3, 4, 5, 6, 7, 8, 11, 12, 13, 14, 15, 16, 17, 18, 9, 10] (ws' := [(o, .inr (12, [.ref h, .ref pp, .ref x2, .ref x3, .ref x4, .ref o2, .ref o4, .ref o9, .ref o7, .ref o0, .ref o1])), (h, .inr (5, [.ref jj, .ref dd, .int (nI n), .int (nI z)])), (jj, aI k 36 fj), (dd, aI k 6 fd), (pp, .inr (8, [.ref h, .ref r1, .ref r2, .int (tpT z fj 1 v tk n)])), (r1, .inr (10, [.ref a1])), (a1, aI k 6 (tpF z fj 1 v (upd f v (f v + (-1) * fd v)) n)), (r2, .inr (10, [.ref a2])), (a2, aI k 6 (upd ct v (ct v + 1))), (lo, .inr (13, [.ref eo, .ref e1, .ref e2, .ref e3, .ref e4, .ref e5, .int (nI n), .int (nI z), .int tk])), (eo, aR k 3 6 (fun i9 => if i9 < 6 then some (er i9) else none)), ((er 0), aI k 6 (EN E 0)), ((er 1), aI k 6 (EN E 1)), ((er 2), aI k 6 (EN E 2)), ((er 3), aI k 6 (EN E 3)), ((er 4), aI k 6 (EN E 4)), ((er 5), aI k 6 (EN E 5)), (e1, aI k 6 f), (e2, aI k 6 ct)]) (st' := [.int (nI (dg E v))]) (cells' := 0) (slots' := 0) (g' := 0) (by decide) rfl rfl rfl rfl rfl ?_
            refine g_if_eq (pc := 341) C 360 (by decide) dL_acts_341 (fun c_341 => ?_) (fun c_341 => ?_)
            · exact absurd hcl (by rw [cnL_2 (by have := dg18 hE3 v; omega) c_341]; decide)
            · refine g_aload_n (pc := 344) C 3 rfl rfl dL_acts_344 ?_
              refine g_get (pc := 345) C (T := TXL) inXL 9 rfl rfl 1 (by decide) q_566 rfl rfl dL_acts_345 ?_
              refine g_iload (pc := 348) C 2 rfl dL_acts_348 ?_
              refine g_iald_n (pc := 350) C (j := v) 17 rfl (by omega) (by first | decide | omega) rfl dL_acts_350 ?_
              refine g_aload_n (pc := 351) C 3 rfl rfl dL_acts_351 ?_
              refine g_iload (pc := 352) C 2 rfl dL_acts_352 ?_
              refine g_callV (pc := 354) (cells := 0) (slots := 0) (g := 0) (As := [.int (nI v)]) (st := [.int (f v)]) (T := TXL) (q0 := 9) C (nA := 1) rfl (c_L_degree_ lo eo e1 e2 e3 e4 e5 er E n z tk v (by first | assumption | decide | omega)) q_569 q_570 q_568 q_551 q_567 (by decide +kernel) rfl rfl dL_acts_354 ⟨Nat.le_of_ble_eq_true rfl, Nat.le_of_ble_eq_true rfl⟩ [9, 10, 11, 12, 13, 14, 15, 16] [0, 1, 2, 3, 4, 5, 6, 7, 8, 17, 18] rfl (wr := [(o, .inr (12, [.ref h, .ref pp, .ref x2, .ref x3, .ref x4, .ref o2, .ref o4, .ref o9, .ref o7, .ref o0, .ref o1])), (h, .inr (5, [.ref jj, .ref dd, .int (nI n), .int (nI z)])), (jj, aI k 36 fj), (dd, aI k 6 fd), (pp, .inr (8, [.ref h, .ref r1, .ref r2, .int (tpT z fj 1 v tk n)])), (r1, .inr (10, [.ref a1])), (a1, aI k 6 (tpF z fj 1 v (upd f v (f v + (-1) * fd v)) n)), (r2, .inr (10, [.ref a2])), (a2, aI k 6 (upd ct v (ct v + 1))), (e1, aI k 6 f), (e2, aI k 6 ct)]) rfl (by decide) (by decide) (by decide) (Nat.le_of_ble_eq_true rfl) ⟨Nat.le_of_ble_eq_true rfl, Nat.le_of_ble_eq_true rfl⟩ (fun rv w1 h1 => ?_)
              obtain ⟨rfl, rfl⟩ := h1
              refine G.aft [0, 1, 2, 3, 4, 5, 6, 7, 8, 11, 12, 13, 14, 15, 16, 17, 18, 9, 10] (ws' := [(o, .inr (12, [.ref h, .ref pp, .ref x2, .ref x3, .ref x4, .ref o2, .ref o4, .ref o9, .ref o7, .ref o0, .ref o1])), (h, .inr (5, [.ref jj, .ref dd, .int (nI n), .int (nI z)])), (jj, aI k 36 fj), (dd, aI k 6 fd), (pp, .inr (8, [.ref h, .ref r1, .ref r2, .int (tpT z fj 1 v tk n)])), (r1, .inr (10, [.ref a1])), (a1, aI k 6 (tpF z fj 1 v (upd f v (f v + (-1) * fd v)) n)), (r2, .inr (10, [.ref a2])), (a2, aI k 6 (upd ct v (ct v + 1))), (lo, .inr (13, [.ref eo, .ref e1, .ref e2, .ref e3, .ref e4, .ref e5, .int (nI n), .int (nI z), .int tk])), (eo, aR k 3 6 (fun i9 => if i9 < 6 then some (er i9) else none)), ((er 0), aI k 6 (EN E 0)), ((er 1), aI k 6 (EN E 1)), ((er 2), aI k 6 (EN E 2)), ((er 3), aI k 6 (EN E 3)), ((er 4), aI k 6 (EN E 4)), ((er 5), aI k 6 (EN E 5)), (e1, aI k 6 f), (e2, aI k 6 ct)]) (st' := [.int (nI (dg E v)), .int (f v)]) (cells' := 0) (slots' := 0) (g' := 0) (by decide) rfl rfl rfl rfl rfl ?_
              refine g_icmp_ge (pc := 357) C 375 (by decide) dL_acts_357 (fun c_357 => ?_) (fun c_357 => ?_)
              · refine g_aload_n (pc := 375) C 3 rfl rfl dL_acts_375 ?_
                refine g_get (pc := 376) C (T := TXL) inXL 9 rfl rfl 1 (by decide) q_566 rfl rfl dL_acts_376 ?_
                refine g_iload (pc := 379) C 2 rfl dL_acts_379 ?_
                refine g_dup2 (pc := 381) C rfl rfl dL_acts_381 ?_
                refine g_iald_n (pc := 382) C (j := v) 17 rfl (by omega) (by first | decide | omega) rfl dL_acts_382 ?_
                refine g_aload_n (pc := 383) C 3 rfl rfl dL_acts_383 ?_
                refine g_iload (pc := 384) C 2 rfl dL_acts_384 ?_
                refine g_callV (pc := 386) (cells := 0) (slots := 0) (g := 0) (As := [.int (nI v)]) (st := [.int (f v), .int (nI v), .ref e1]) (T := TXL) (q0 := 9) C (nA := 1) rfl (c_L_degree_ lo eo e1 e2 e3 e4 e5 er E n z tk v (by first | assumption | decide | omega)) q_569 q_570 q_568 q_551 q_567 (by decide +kernel) rfl rfl dL_acts_386 ⟨Nat.le_of_ble_eq_true rfl, Nat.le_of_ble_eq_true rfl⟩ [9, 10, 11, 12, 13, 14, 15, 16] [0, 1, 2, 3, 4, 5, 6, 7, 8, 17, 18] rfl (wr := [(o, .inr (12, [.ref h, .ref pp, .ref x2, .ref x3, .ref x4, .ref o2, .ref o4, .ref o9, .ref o7, .ref o0, .ref o1])), (h, .inr (5, [.ref jj, .ref dd, .int (nI n), .int (nI z)])), (jj, aI k 36 fj), (dd, aI k 6 fd), (pp, .inr (8, [.ref h, .ref r1, .ref r2, .int (tpT z fj 1 v tk n)])), (r1, .inr (10, [.ref a1])), (a1, aI k 6 (tpF z fj 1 v (upd f v (f v + (-1) * fd v)) n)), (r2, .inr (10, [.ref a2])), (a2, aI k 6 (upd ct v (ct v + 1))), (e1, aI k 6 f), (e2, aI k 6 ct)]) rfl (by decide) (by decide) (by decide) (Nat.le_of_ble_eq_true rfl) ⟨Nat.le_of_ble_eq_true rfl, Nat.le_of_ble_eq_true rfl⟩ (fun rv w1 h1 => ?_)
                obtain ⟨rfl, rfl⟩ := h1
                refine G.aft [0, 1, 2, 3, 4, 5, 6, 7, 8, 11, 12, 13, 14, 15, 16, 17, 18, 9, 10] (ws' := [(o, .inr (12, [.ref h, .ref pp, .ref x2, .ref x3, .ref x4, .ref o2, .ref o4, .ref o9, .ref o7, .ref o0, .ref o1])), (h, .inr (5, [.ref jj, .ref dd, .int (nI n), .int (nI z)])), (jj, aI k 36 fj), (dd, aI k 6 fd), (pp, .inr (8, [.ref h, .ref r1, .ref r2, .int (tpT z fj 1 v tk n)])), (r1, .inr (10, [.ref a1])), (a1, aI k 6 (tpF z fj 1 v (upd f v (f v + (-1) * fd v)) n)), (r2, .inr (10, [.ref a2])), (a2, aI k 6 (upd ct v (ct v + 1))), (lo, .inr (13, [.ref eo, .ref e1, .ref e2, .ref e3, .ref e4, .ref e5, .int (nI n), .int (nI z), .int tk])), (eo, aR k 3 6 (fun i9 => if i9 < 6 then some (er i9) else none)), ((er 0), aI k 6 (EN E 0)), ((er 1), aI k 6 (EN E 1)), ((er 2), aI k 6 (EN E 2)), ((er 3), aI k 6 (EN E 3)), ((er 4), aI k 6 (EN E 4)), ((er 5), aI k 6 (EN E 5)), (e1, aI k 6 f), (e2, aI k 6 ct)]) (st' := [.int (nI (dg E v)), .int (f v), .int (nI v), .ref e1]) (cells' := 0) (slots' := 0) (g' := 0) (by decide) rfl rfl rfl rfl rfl ?_
                refine g_isub (pc := 389) C dL_acts_389 ?_
                refine g_iast_n (pc := 390) C (j := v) 17 [(o, .inr (12, [.ref h, .ref pp, .ref x2, .ref x3, .ref x4, .ref o2, .ref o4, .ref o9, .ref o7, .ref o0, .ref o1])), (h, .inr (5, [.ref jj, .ref dd, .int (nI n), .int (nI z)])), (jj, aI k 36 fj), (dd, aI k 6 fd), (pp, .inr (8, [.ref h, .ref r1, .ref r2, .int (tpT z fj 1 v tk n)])), (r1, .inr (10, [.ref a1])), (a1, aI k 6 (tpF z fj 1 v (upd f v (f v + (-1) * fd v)) n)), (r2, .inr (10, [.ref a2])), (a2, aI k 6 (upd ct v (ct v + 1))), (lo, .inr (13, [.ref eo, .ref e1, .ref e2, .ref e3, .ref e4, .ref e5, .int (nI n), .int (nI z), .int tk])), (eo, aR k 3 6 (fun i9 => if i9 < 6 then some (er i9) else none)), ((er 0), aI k 6 (EN E 0)), ((er 1), aI k 6 (EN E 1)), ((er 2), aI k 6 (EN E 2)), ((er 3), aI k 6 (EN E 3)), ((er 4), aI k 6 (EN E 4)), ((er 5), aI k 6 (EN E 5)), (e1, aI k 6 (upd f v ((f v) - (nI (dg E v))))), (e2, aI k 6 ct)] rfl (by omega) (by first | decide | omega) rfl rfl dL_acts_390 ?_
                refine g_iconst (pc := 391) (v := 0) C (by decide) dL_acts_391 ?_
                refine g_istore (pc := 392) C [(8, .int 0), (7, .int ((tpF z fj 1 v (upd f v (f v + (-1) * fd v)) n) v)), (6, .int (nI u)), (5, .int (nI v)), (0, .ref lo), (1, .ref o), (2, .int (nI kd)), (3, .int (nI av)), (4, .int (nI aw))] dL_acts_392 (by decide) rfl ?_
                have key_394 : ∀ (fuel : Nat) (w8 : Nat), w8 ≤ 6 → 6 - w8 < fuel → G p9 l e9 { frames := 4, cells := 0, slots := 0, locals := 90 } s9 m9 ([.ref lo, .ref o, .int (nI kd), .int (nI av), .int (nI aw)] : List Value).toArray bl9 me9 co9 D 9 (va_A [(o, .inr (12, [.ref h, .ref pp, .ref x2, .ref x3, .ref x4, .ref o2, .ref o4, .ref o9, .ref o7, .ref o0, .ref o1])), (h, .inr (5, [.ref jj, .ref dd, .int (nI n), .int (nI z)])), (jj, aI k 36 fj), (dd, aI k 6 fd), (pp, .inr (8, [.ref h, .ref r1, .ref r2, .int tk])), (r1, .inr (10, [.ref a1])), (a1, aI k 6 f), (r2, .inr (10, [.ref a2])), (a2, aI k 6 ct), (lo, .inr (13, [.ref eo, .ref e1, .ref e2, .ref e3, .ref e4, .ref e5, .int (nI n), .int (nI z), .int tk])), (eo, aR k 3 6 (fun i9 => if i9 < 6 then some (er i9) else none)), ((er 0), aI k 6 (EN E 0)), ((er 1), aI k 6 (EN E 1)), ((er 2), aI k 6 (EN E 2)), ((er 3), aI k 6 (EN E 3)), ((er 4), aI k 6 (EN E 4)), ((er 5), aI k 6 (EN E 5)), (e1, aI k 6 f), (e2, aI k 6 ct)] s9.heap.size) (QM bl9 D ([.ref lo, .ref o, .int (nI kd), .int (nI av), .int (nI aw)] : List Value).toArray s9 [(o, .inr (12, [.ref h, .ref pp, .ref x2, .ref x3, .ref x4, .ref o2, .ref o4, .ref o9, .ref o7, .ref o0, .ref o1])), (h, .inr (5, [.ref jj, .ref dd, .int (nI n), .int (nI z)])), (jj, aI k 36 fj), (dd, aI k 6 fd), (pp, .inr (8, [.ref h, .ref r1, .ref r2, .int tk])), (r1, .inr (10, [.ref a1])), (a1, aI k 6 f), (r2, .inr (10, [.ref a2])), (a2, aI k 6 ct), (lo, .inr (13, [.ref eo, .ref e1, .ref e2, .ref e3, .ref e4, .ref e5, .int (nI n), .int (nI z), .int tk])), (eo, aR k 3 6 (fun i9 => if i9 < 6 then some (er i9) else none)), ((er 0), aI k 6 (EN E 0)), ((er 1), aI k 6 (EN E 1)), ((er 2), aI k 6 (EN E 2)), ((er 3), aI k 6 (EN E 3)), ((er 4), aI k 6 (EN E 4)), ((er 5), aI k 6 (EN E 5)), (e1, aI k 6 f), (e2, aI k 6 ct)] (is1 (some (.int 1)) [(o, .inr (12, [.ref h, .ref pp, .ref x2, .ref x3, .ref x4, .ref o2, .ref o4, .ref o9, .ref o7, .ref o0, .ref o1])), (h, .inr (5, [.ref jj, .ref dd, .int (nI n), .int (nI z)])), (jj, aI k 36 fj), (dd, aI k 6 fd), (pp, .inr (8, [.ref h, .ref r1, .ref r2, .int (tpT z fj 1 v tk n)])), (r1, .inr (10, [.ref a1])), (a1, aI k 6 (tpF z fj 1 v (upd f v (f v + (-1) * fd v)) n)), (r2, .inr (10, [.ref a2])), (a2, aI k 6 (upd ct v (ct v + 1))), (lo, .inr (13, [.ref eo, .ref e1, .ref e2, .ref e3, .ref e4, .ref e5, .int (nI n), .int (nI z), .int (tk + (tlF E v (upd f v (f v - nI (dg E v))) 6) z)])), (eo, aR k 3 6 (fun i9 => if i9 < 6 then some (er i9) else none)), ((er 0), aI k 6 (EN E 0)), ((er 1), aI k 6 (EN E 1)), ((er 2), aI k 6 (EN E 2)), ((er 3), aI k 6 (EN E 3)), ((er 4), aI k 6 (EN E 4)), ((er 5), aI k 6 (EN E 5)), (e1, aI k 6 (upd (tlF E v (upd f v (f v - nI (dg E v))) 6) z 0)), (e2, aI k 6 (upd ct v (ct v + 1)))]) 0 0 0) [(o, .inr (12, [.ref h, .ref pp, .ref x2, .ref x3, .ref x4, .ref o2, .ref o4, .ref o9, .ref o7, .ref o0, .ref o1])), (h, .inr (5, [.ref jj, .ref dd, .int (nI n), .int (nI z)])), (jj, aI k 36 fj), (dd, aI k 6 fd), (pp, .inr (8, [.ref h, .ref r1, .ref r2, .int (tpT z fj 1 v tk n)])), (r1, .inr (10, [.ref a1])), (a1, aI k 6 (tpF z fj 1 v (upd f v (f v + (-1) * fd v)) n)), (r2, .inr (10, [.ref a2])), (a2, aI k 6 (upd ct v (ct v + 1))), (lo, .inr (13, [.ref eo, .ref e1, .ref e2, .ref e3, .ref e4, .ref e5, .int (nI n), .int (nI z), .int tk])), (eo, aR k 3 6 (fun i9 => if i9 < 6 then some (er i9) else none)), ((er 0), aI k 6 (EN E 0)), ((er 1), aI k 6 (EN E 1)), ((er 2), aI k 6 (EN E 2)), ((er 3), aI k 6 (EN E 3)), ((er 4), aI k 6 (EN E 4)), ((er 5), aI k 6 (EN E 5)), (e1, aI k 6 (tlF E v (upd f v (f v - nI (dg E v))) w8)), (e2, aI k 6 ct)] [(0, .ref lo), (1, .ref o), (5, .int (nI v)), (7, .int ((tpF z fj 1 v (upd f v (f v + (-1) * fd v)) n) v)), (8, .int (nI w8))] 0 0 0 394 [] := by
                  intro fuel
                  induction fuel with
                  | zero => intro w8 hw8 hm; exact absurd hm (Nat.not_lt_zero _)
                  | succ fuel ih =>
                    intro w8 hw8 hm
                    have ih_394 := ih
                    refine g_iload (pc := 394) C 4 rfl dL_acts_394 ?_
                    refine g_bipush (pc := 396) (v := 6) C (by decide) dL_acts_396 ?_
                    refine g_icmp_ge (pc := 398) C 427 (by decide) dL_acts_398 (fun c_398 => ?_) (fun c_398 => ?_)
                    · have h3 : w8 = 6 := by { have := nle_ge (b := 6) (a := w8) (by omega) c_398; omega }
                      refine G.fn (tlF E v (upd f v (f v - nI (dg E v))) 6) 17 [(o, .inr (12, [.ref h, .ref pp, .ref x2, .ref x3, .ref x4, .ref o2, .ref o4, .ref o9, .ref o7, .ref o0, .ref o1])), (h, .inr (5, [.ref jj, .ref dd, .int (nI n), .int (nI z)])), (jj, aI k 36 fj), (dd, aI k 6 fd), (pp, .inr (8, [.ref h, .ref r1, .ref r2, .int (tpT z fj 1 v tk n)])), (r1, .inr (10, [.ref a1])), (a1, aI k 6 (tpF z fj 1 v (upd f v (f v + (-1) * fd v)) n)), (r2, .inr (10, [.ref a2])), (a2, aI k 6 (upd ct v (ct v + 1))), (lo, .inr (13, [.ref eo, .ref e1, .ref e2, .ref e3, .ref e4, .ref e5, .int (nI n), .int (nI z), .int tk])), (eo, aR k 3 6 (fun i9 => if i9 < 6 then some (er i9) else none)), ((er 0), aI k 6 (EN E 0)), ((er 1), aI k 6 (EN E 1)), ((er 2), aI k 6 (EN E 2)), ((er 3), aI k 6 (EN E 3)), ((er 4), aI k 6 (EN E 4)), ((er 5), aI k 6 (EN E 5)), (e1, aI k 6 (tlF E v (upd f v (f v - nI (dg E v))) 6)), (e2, aI k 6 ct)] rfl (fun j hj => by rw [h3]) rfl ?_
                      refine g_aload_n (pc := 427) C 0 rfl rfl dL_acts_427 ?_
                      refine g_get (pc := 428) C (T := TXL) inXL 9 rfl rfl 2 (by decide) q_697 rfl rfl dL_acts_428 ?_
                      refine g_iload (pc := 431) C 2 rfl dL_acts_431 ?_
                      refine g_dup2 (pc := 433) C rfl rfl dL_acts_433 ?_
                      refine g_iald_n (pc := 434) C (j := v) 18 rfl (by omega) (by first | decide | omega) rfl dL_acts_434 ?_
                      refine g_iconst (pc := 435) (v := 1) C (by decide) dL_acts_435 ?_
                      refine g_iadd (pc := 436) C dL_acts_436 ?_
                      refine g_iast_n (pc := 437) C (j := v) 18 [(o, .inr (12, [.ref h, .ref pp, .ref x2, .ref x3, .ref x4, .ref o2, .ref o4, .ref o9, .ref o7, .ref o0, .ref o1])), (h, .inr (5, [.ref jj, .ref dd, .int (nI n), .int (nI z)])), (jj, aI k 36 fj), (dd, aI k 6 fd), (pp, .inr (8, [.ref h, .ref r1, .ref r2, .int (tpT z fj 1 v tk n)])), (r1, .inr (10, [.ref a1])), (a1, aI k 6 (tpF z fj 1 v (upd f v (f v + (-1) * fd v)) n)), (r2, .inr (10, [.ref a2])), (a2, aI k 6 (upd ct v (ct v + 1))), (lo, .inr (13, [.ref eo, .ref e1, .ref e2, .ref e3, .ref e4, .ref e5, .int (nI n), .int (nI z), .int tk])), (eo, aR k 3 6 (fun i9 => if i9 < 6 then some (er i9) else none)), ((er 0), aI k 6 (EN E 0)), ((er 1), aI k 6 (EN E 1)), ((er 2), aI k 6 (EN E 2)), ((er 3), aI k 6 (EN E 3)), ((er 4), aI k 6 (EN E 4)), ((er 5), aI k 6 (EN E 5)), (e1, aI k 6 (tlF E v (upd f v (f v - nI (dg E v))) 6)), (e2, aI k 6 (upd ct v ((ct v) + 1)))] rfl (by omega) (by first | decide | omega) rfl rfl dL_acts_437 ?_
                      refine g_aload_n (pc := 438) C 0 rfl rfl dL_acts_438 ?_
                      refine g_callV (pc := 439) (cells := 0) (slots := 0) (g := 0) (As := []) (st := []) (T := TXL) (q0 := 9) C (nA := 0) rfl (c_L_drain lo eo e1 e2 e3 e4 e5 n z tk (tlF E v (upd f v (f v - nI (dg E v))) 6) (by first | assumption | decide | omega)) q_768 q_769 q_767 q_551 q_766 (by decide +kernel) rfl rfl dL_acts_439 ⟨Nat.le_of_ble_eq_true rfl, Nat.le_of_ble_eq_true rfl⟩ [9, 17] [0, 1, 2, 3, 4, 5, 6, 7, 8, 10, 11, 12, 13, 14, 15, 16, 18] rfl (wr := [(o, .inr (12, [.ref h, .ref pp, .ref x2, .ref x3, .ref x4, .ref o2, .ref o4, .ref o9, .ref o7, .ref o0, .ref o1])), (h, .inr (5, [.ref jj, .ref dd, .int (nI n), .int (nI z)])), (jj, aI k 36 fj), (dd, aI k 6 fd), (pp, .inr (8, [.ref h, .ref r1, .ref r2, .int (tpT z fj 1 v tk n)])), (r1, .inr (10, [.ref a1])), (a1, aI k 6 (tpF z fj 1 v (upd f v (f v + (-1) * fd v)) n)), (r2, .inr (10, [.ref a2])), (a2, aI k 6 (upd ct v (ct v + 1))), (eo, aR k 3 6 (fun i9 => if i9 < 6 then some (er i9) else none)), ((er 0), aI k 6 (EN E 0)), ((er 1), aI k 6 (EN E 1)), ((er 2), aI k 6 (EN E 2)), ((er 3), aI k 6 (EN E 3)), ((er 4), aI k 6 (EN E 4)), ((er 5), aI k 6 (EN E 5)), (e2, aI k 6 (upd ct v ((ct v) + 1)))]) rfl (by decide) (by decide) (by decide) (Nat.le_of_ble_eq_true rfl) ⟨Nat.le_of_ble_eq_true rfl, Nat.le_of_ble_eq_true rfl⟩ (fun rv w1 h1 => ?_)
                      obtain ⟨rfl, rfl⟩ := h1
                      refine G.aft [0, 1, 2, 3, 4, 5, 6, 7, 8, 17, 9, 10, 11, 12, 13, 14, 15, 18, 16] (ws' := [(o, .inr (12, [.ref h, .ref pp, .ref x2, .ref x3, .ref x4, .ref o2, .ref o4, .ref o9, .ref o7, .ref o0, .ref o1])), (h, .inr (5, [.ref jj, .ref dd, .int (nI n), .int (nI z)])), (jj, aI k 36 fj), (dd, aI k 6 fd), (pp, .inr (8, [.ref h, .ref r1, .ref r2, .int (tpT z fj 1 v tk n)])), (r1, .inr (10, [.ref a1])), (a1, aI k 6 (tpF z fj 1 v (upd f v (f v + (-1) * fd v)) n)), (r2, .inr (10, [.ref a2])), (a2, aI k 6 (upd ct v (ct v + 1))), (lo, .inr (13, [.ref eo, .ref e1, .ref e2, .ref e3, .ref e4, .ref e5, .int (nI n), .int (nI z), .int (tk + (tlF E v (upd f v (f v - nI (dg E v))) 6) z)])), (eo, aR k 3 6 (fun i9 => if i9 < 6 then some (er i9) else none)), ((er 0), aI k 6 (EN E 0)), ((er 1), aI k 6 (EN E 1)), ((er 2), aI k 6 (EN E 2)), ((er 3), aI k 6 (EN E 3)), ((er 4), aI k 6 (EN E 4)), ((er 5), aI k 6 (EN E 5)), (e1, aI k 6 (upd (tlF E v (upd f v (f v - nI (dg E v))) 6) z 0)), (e2, aI k 6 (upd ct v ((ct v) + 1)))]) (st' := []) (cells' := 0) (slots' := 0) (g' := 0) (by decide) rfl rfl rfl rfl rfl ?_
                      refine g_iload (pc := 442) C 3 rfl dL_acts_442 ?_
                      refine g_aload_n (pc := 444) C 0 rfl rfl dL_acts_444 ?_
                      refine g_get (pc := 445) C (T := TXL) inXL 9 rfl rfl 1 (by decide) q_566 rfl rfl dL_acts_445 ?_
                      refine g_iload (pc := 448) C 2 rfl dL_acts_448 ?_
                      refine g_iald_n (pc := 450) C (j := v) 17 rfl (by omega) (by first | decide | omega) rfl dL_acts_450 ?_
                      refine g_icmp_ne (pc := 451) C 458 (by decide) dL_acts_451 (fun c_451 => ?_) (fun c_451 => ?_)
                      · exact absurd h8e c_451
                      · refine g_iconst (pc := 454) (v := 1) C (by decide) dL_acts_454 ?_
                        refine g_goto (pc := 455) C 459 (by decide) dL_acts_455 ?_
                        refine G.fn (upd ct v (ct v + 1)) 18 [(o, .inr (12, [.ref h, .ref pp, .ref x2, .ref x3, .ref x4, .ref o2, .ref o4, .ref o9, .ref o7, .ref o0, .ref o1])), (h, .inr (5, [.ref jj, .ref dd, .int (nI n), .int (nI z)])), (jj, aI k 36 fj), (dd, aI k 6 fd), (pp, .inr (8, [.ref h, .ref r1, .ref r2, .int (tpT z fj 1 v tk n)])), (r1, .inr (10, [.ref a1])), (a1, aI k 6 (tpF z fj 1 v (upd f v (f v + (-1) * fd v)) n)), (r2, .inr (10, [.ref a2])), (a2, aI k 6 (upd ct v (ct v + 1))), (lo, .inr (13, [.ref eo, .ref e1, .ref e2, .ref e3, .ref e4, .ref e5, .int (nI n), .int (nI z), .int (tk + (tlF E v (upd f v (f v - nI (dg E v))) 6) z)])), (eo, aR k 3 6 (fun i9 => if i9 < 6 then some (er i9) else none)), ((er 0), aI k 6 (EN E 0)), ((er 1), aI k 6 (EN E 1)), ((er 2), aI k 6 (EN E 2)), ((er 3), aI k 6 (EN E 3)), ((er 4), aI k 6 (EN E 4)), ((er 5), aI k 6 (EN E 5)), (e1, aI k 6 (upd (tlF E v (upd f v (f v - nI (dg E v))) 6) z 0)), (e2, aI k 6 (upd ct v (ct v + 1)))] rfl (fun j hj => by rfl) rfl ?_
                        exact g_zret (pc := 459) C hr (by first | rfl | exact bI_nar _) hlk (by first | decide | omega) (by first | decide | omega) (by first | decide | omega) dL_acts_459 ⟨rfl, rfl⟩
                    · have hl398 : w8 < 6 := nle_lt (by omega) c_398
                      refine g_aload_n (pc := 401) C 0 rfl rfl dL_acts_401 ?_
                      refine g_get (pc := 402) C (T := TXL) inXL 9 rfl rfl 1 (by decide) q_566 rfl rfl dL_acts_402 ?_
                      refine g_iload (pc := 405) C 4 rfl dL_acts_405 ?_
                      refine g_dup2 (pc := 407) C rfl rfl dL_acts_407 ?_
                      refine g_iald_n (pc := 408) C (j := w8) 17 rfl (by omega) (by first | decide | omega) rfl dL_acts_408 ?_
                      refine g_aload_n (pc := 409) C 0 rfl rfl dL_acts_409 ?_
                      refine g_get (pc := 410) C (T := TXL) inXL 9 rfl rfl 0 (by decide) q_561 rfl rfl dL_acts_410 ?_
                      refine g_iload (pc := 413) C 2 rfl dL_acts_413 ?_
                      refine g_aald (pc := 415) C (j := v) (b := er v) 10 rfl (by omega) (by decide) rfl (if_pos (by omega)) dL_acts_415 ?_
                      refine g_iload (pc := 416) C 4 rfl dL_acts_416 ?_
                      refine g_iald_n (pc := 418) (a := (er v)) (n := 6) (f := (EN E v)) C (j := w8) (11 + v) (by rcases (show v = 0 ∨ v = 1 ∨ v = 2 ∨ v = 3 ∨ v = 4 ∨ v = 5 by omega) with h9 | h9 | h9 | h9 | h9 | h9 <;> rw [h9] <;> rfl) (by omega) (by first | decide | omega) rfl dL_acts_418 ?_
                      refine g_iadd (pc := 419) C dL_acts_419 ?_
                      refine g_iast_n (pc := 420) C (j := w8) 17 [(o, .inr (12, [.ref h, .ref pp, .ref x2, .ref x3, .ref x4, .ref o2, .ref o4, .ref o9, .ref o7, .ref o0, .ref o1])), (h, .inr (5, [.ref jj, .ref dd, .int (nI n), .int (nI z)])), (jj, aI k 36 fj), (dd, aI k 6 fd), (pp, .inr (8, [.ref h, .ref r1, .ref r2, .int (tpT z fj 1 v tk n)])), (r1, .inr (10, [.ref a1])), (a1, aI k 6 (tpF z fj 1 v (upd f v (f v + (-1) * fd v)) n)), (r2, .inr (10, [.ref a2])), (a2, aI k 6 (upd ct v (ct v + 1))), (lo, .inr (13, [.ref eo, .ref e1, .ref e2, .ref e3, .ref e4, .ref e5, .int (nI n), .int (nI z), .int tk])), (eo, aR k 3 6 (fun i9 => if i9 < 6 then some (er i9) else none)), ((er 0), aI k 6 (EN E 0)), ((er 1), aI k 6 (EN E 1)), ((er 2), aI k 6 (EN E 2)), ((er 3), aI k 6 (EN E 3)), ((er 4), aI k 6 (EN E 4)), ((er 5), aI k 6 (EN E 5)), (e1, aI k 6 (upd (tlF E v (upd f v (f v - nI (dg E v))) w8) w8 (((tlF E v (upd f v (f v - nI (dg E v))) w8) w8) + ((EN E v) w8)))), (e2, aI k 6 ct)] rfl (by omega) (by first | decide | omega) rfl rfl dL_acts_420 ?_
                      refine g_iinc (pc := 421) (n := 1) (v := (nI (w8 + 1))) C 4 [(8, .int (nI (w8 + 1))), (0, .ref lo), (1, .ref o), (5, .int (nI v)), (7, .int ((tpF z fj 1 v (upd f v (f v + (-1) * fd v)) n) v))] rfl (nI_1 w8) dL_acts_421 (by decide) rfl ?_
                      refine g_goto (pc := 424) C 394 (by decide) dL_acts_424 ?_
                      refine G.loc [1, 2, 3, 4, 0] (lv' := [(0, .ref lo), (1, .ref o), (5, .int (nI v)), (7, .int ((tpF z fj 1 v (upd f v (f v + (-1) * fd v)) n) v)), (8, .int (nI (w8 + 1)))]) rfl ?_
                      refine G.fn (tlF E v (upd f v (f v - nI (dg E v))) (w8 + 1)) 17 [(o, .inr (12, [.ref h, .ref pp, .ref x2, .ref x3, .ref x4, .ref o2, .ref o4, .ref o9, .ref o7, .ref o0, .ref o1])), (h, .inr (5, [.ref jj, .ref dd, .int (nI n), .int (nI z)])), (jj, aI k 36 fj), (dd, aI k 6 fd), (pp, .inr (8, [.ref h, .ref r1, .ref r2, .int (tpT z fj 1 v tk n)])), (r1, .inr (10, [.ref a1])), (a1, aI k 6 (tpF z fj 1 v (upd f v (f v + (-1) * fd v)) n)), (r2, .inr (10, [.ref a2])), (a2, aI k 6 (upd ct v (ct v + 1))), (lo, .inr (13, [.ref eo, .ref e1, .ref e2, .ref e3, .ref e4, .ref e5, .int (nI n), .int (nI z), .int tk])), (eo, aR k 3 6 (fun i9 => if i9 < 6 then some (er i9) else none)), ((er 0), aI k 6 (EN E 0)), ((er 1), aI k 6 (EN E 1)), ((er 2), aI k 6 (EN E 2)), ((er 3), aI k 6 (EN E 3)), ((er 4), aI k 6 (EN E 4)), ((er 5), aI k 6 (EN E 5)), (e1, aI k 6 (tlF E v (upd f v (f v - nI (dg E v))) (w8 + 1))), (e2, aI k 6 ct)] rfl (fun j hj => by rfl) rfl ?_
                      exact ih_394 (w8 + 1) (by omega) (by omega)
                refine G.loc [4, 5, 3, 1, 0] (lv' := [(0, .ref lo), (1, .ref o), (5, .int (nI v)), (7, .int ((tpF z fj 1 v (upd f v (f v + (-1) * fd v)) n) v)), (8, .int 0)]) rfl ?_
                refine G.fn (tlF E v (upd f v (f v - nI (dg E v))) 0) 17 [(o, .inr (12, [.ref h, .ref pp, .ref x2, .ref x3, .ref x4, .ref o2, .ref o4, .ref o9, .ref o7, .ref o0, .ref o1])), (h, .inr (5, [.ref jj, .ref dd, .int (nI n), .int (nI z)])), (jj, aI k 36 fj), (dd, aI k 6 fd), (pp, .inr (8, [.ref h, .ref r1, .ref r2, .int (tpT z fj 1 v tk n)])), (r1, .inr (10, [.ref a1])), (a1, aI k 6 (tpF z fj 1 v (upd f v (f v + (-1) * fd v)) n)), (r2, .inr (10, [.ref a2])), (a2, aI k 6 (upd ct v (ct v + 1))), (lo, .inr (13, [.ref eo, .ref e1, .ref e2, .ref e3, .ref e4, .ref e5, .int (nI n), .int (nI z), .int tk])), (eo, aR k 3 6 (fun i9 => if i9 < 6 then some (er i9) else none)), ((er 0), aI k 6 (EN E 0)), ((er 1), aI k 6 (EN E 1)), ((er 2), aI k 6 (EN E 2)), ((er 3), aI k 6 (EN E 3)), ((er 4), aI k 6 (EN E 4)), ((er 5), aI k 6 (EN E 5)), (e1, aI k 6 (tlF E v (upd f v (f v - nI (dg E v))) 0)), (e2, aI k 6 ct)] rfl (fun j hj => by rfl) rfl ?_
                refine G.eql (lv' := [(0, .ref lo), (1, .ref o), (5, .int (nI v)), (7, .int ((tpF z fj 1 v (upd f v (f v + (-1) * fd v)) n) v)), (8, .int (nI 0))]) (congrArg (β := List (Nat × Value)) (fun z9 => [(0, .ref lo), (1, .ref o), (5, .int (nI v)), (7, .int ((tpF z fj 1 v (upd f v (f v + (-1) * fd v)) n) v)), (8, .int z9)]) (show (0 : Int32) = (nI 0) from by first | rfl | exact nI_0.symm)) ?_
                exact key_394 (6 - 0 + 1) 0 (by omega) (Nat.lt_succ_self _)
              · exact absurd hcl (by rw [cnL_3 (Int32.not_le.mp c_357)]; decide)
      · exact absurd (show nI 8 ≤ nI kd from nI_le (by omega) (by omega)) c_231
    · exact absurd (show nI 3 ≤ nI kd from nI_le (by omega) (by omega)) c_111
  · exact absurd c_18 (nI_ne0 (by omega) (by omega))
