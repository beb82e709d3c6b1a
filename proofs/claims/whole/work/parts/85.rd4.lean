/-! Model: readNumber -/
abbrev b_Mo_readNumber : ByteArray := prog_9_method_24_code
def y_Mo_readNumber : MethodName := ⟨"IntervalTextModel", "readNumber", "(IILIntervalTextModel$Num;)Z"⟩
theorem d_Mo_readNumber_0 : decode b_Mo_readNumber 0 = .ok (.iload_n 1, 1) := by decide +kernel
theorem d_Mo_readNumber_1 : decode b_Mo_readNumber 1 = .ok (.iload_n 2, 1) := by decide +kernel
theorem d_Mo_readNumber_2 : decode b_Mo_readNumber 2 = .ok (.if_icmp .ge 18, 3) := by decide +kernel
theorem d_Mo_readNumber_5 : decode b_Mo_readNumber 5 = .ok (.aload_n 0, 1) := by decide +kernel
theorem d_Mo_readNumber_6 : decode b_Mo_readNumber 6 = .ok (.getfield 107, 3) := by decide +kernel
theorem d_Mo_readNumber_9 : decode b_Mo_readNumber 9 = .ok (.iload_n 1, 1) := by decide +kernel
theorem d_Mo_readNumber_10 : decode b_Mo_readNumber 10 = .ok (.iaload, 1) := by decide +kernel
theorem d_Mo_readNumber_11 : decode b_Mo_readNumber 11 = .ok (.bipush 45, 2) := by decide +kernel
theorem d_Mo_readNumber_13 : decode b_Mo_readNumber 13 = .ok (.if_icmp .ne 7, 3) := by decide +kernel
theorem d_Mo_readNumber_16 : decode b_Mo_readNumber 16 = .ok (.iconst 1, 1) := by decide +kernel
theorem d_Mo_readNumber_17 : decode b_Mo_readNumber 17 = .ok (.goto 4, 3) := by decide +kernel
theorem d_Mo_readNumber_20 : decode b_Mo_readNumber 20 = .ok (.iconst 0, 1) := by decide +kernel
theorem d_Mo_readNumber_21 : decode b_Mo_readNumber 21 = .ok (.istore 4, 2) := by decide +kernel
theorem d_Mo_readNumber_23 : decode b_Mo_readNumber 23 = .ok (.iload_n 1, 1) := by decide +kernel
theorem d_Mo_readNumber_24 : decode b_Mo_readNumber 24 = .ok (.iload_n 2, 1) := by decide +kernel
theorem d_Mo_readNumber_25 : decode b_Mo_readNumber 25 = .ok (.if_icmp .ge 31, 3) := by decide +kernel
theorem d_Mo_readNumber_28 : decode b_Mo_readNumber 28 = .ok (.aload_n 0, 1) := by decide +kernel
theorem d_Mo_readNumber_29 : decode b_Mo_readNumber 29 = .ok (.getfield 107, 3) := by decide +kernel
theorem d_Mo_readNumber_32 : decode b_Mo_readNumber 32 = .ok (.iload_n 1, 1) := by decide +kernel
theorem d_Mo_readNumber_33 : decode b_Mo_readNumber 33 = .ok (.iaload, 1) := by decide +kernel
theorem d_Mo_readNumber_34 : decode b_Mo_readNumber 34 = .ok (.bipush 45, 2) := by decide +kernel
theorem d_Mo_readNumber_36 : decode b_Mo_readNumber 36 = .ok (.if_icmp .eq 14, 3) := by decide +kernel
theorem d_Mo_readNumber_39 : decode b_Mo_readNumber 39 = .ok (.aload_n 0, 1) := by decide +kernel
theorem d_Mo_readNumber_40 : decode b_Mo_readNumber 40 = .ok (.getfield 107, 3) := by decide +kernel
theorem d_Mo_readNumber_43 : decode b_Mo_readNumber 43 = .ok (.iload_n 1, 1) := by decide +kernel
theorem d_Mo_readNumber_44 : decode b_Mo_readNumber 44 = .ok (.iaload, 1) := by decide +kernel
theorem d_Mo_readNumber_45 : decode b_Mo_readNumber 45 = .ok (.bipush 43, 2) := by decide +kernel
theorem d_Mo_readNumber_47 : decode b_Mo_readNumber 47 = .ok (.if_icmp .ne 9, 3) := by decide +kernel
theorem d_Mo_readNumber_50 : decode b_Mo_readNumber 50 = .ok (.iload_n 1, 1) := by decide +kernel
theorem d_Mo_readNumber_51 : decode b_Mo_readNumber 51 = .ok (.iconst 1, 1) := by decide +kernel
theorem d_Mo_readNumber_52 : decode b_Mo_readNumber 52 = .ok (.iadd, 1) := by decide +kernel
theorem d_Mo_readNumber_53 : decode b_Mo_readNumber 53 = .ok (.goto 4, 3) := by decide +kernel
theorem d_Mo_readNumber_56 : decode b_Mo_readNumber 56 = .ok (.iload_n 1, 1) := by decide +kernel
theorem d_Mo_readNumber_57 : decode b_Mo_readNumber 57 = .ok (.istore 5, 2) := by decide +kernel
theorem d_Mo_readNumber_59 : decode b_Mo_readNumber 59 = .ok (.aload_n 0, 1) := by decide +kernel
theorem d_Mo_readNumber_60 : decode b_Mo_readNumber 60 = .ok (.iload 5, 2) := by decide +kernel
theorem d_Mo_readNumber_62 : decode b_Mo_readNumber 62 = .ok (.iload_n 2, 1) := by decide +kernel
theorem d_Mo_readNumber_63 : decode b_Mo_readNumber 63 = .ok (.bipush 47, 2) := by decide +kernel
theorem d_Mo_readNumber_65 : decode b_Mo_readNumber 65 = .ok (.invokevirtual 186, 3) := by decide +kernel
theorem d_Mo_readNumber_68 : decode b_Mo_readNumber 68 = .ok (.istore 7, 2) := by decide +kernel
theorem d_Mo_readNumber_70 : decode b_Mo_readNumber 70 = .ok (.iload_n 2, 1) := by decide +kernel
theorem d_Mo_readNumber_71 : decode b_Mo_readNumber 71 = .ok (.iload 5, 2) := by decide +kernel
theorem d_Mo_readNumber_73 : decode b_Mo_readNumber 73 = .ok (.isub, 1) := by decide +kernel
theorem d_Mo_readNumber_74 : decode b_Mo_readNumber 74 = .ok (.iconst 1, 1) := by decide +kernel
theorem d_Mo_readNumber_75 : decode b_Mo_readNumber 75 = .ok (.if_icmp .le 113, 3) := by decide +kernel
theorem d_Mo_readNumber_78 : decode b_Mo_readNumber 78 = .ok (.aload_n 0, 1) := by decide +kernel
theorem d_Mo_readNumber_79 : decode b_Mo_readNumber 79 = .ok (.getfield 107, 3) := by decide +kernel
theorem d_Mo_readNumber_82 : decode b_Mo_readNumber 82 = .ok (.iload 5, 2) := by decide +kernel
theorem d_Mo_readNumber_84 : decode b_Mo_readNumber 84 = .ok (.iaload, 1) := by decide +kernel
theorem d_Mo_readNumber_85 : decode b_Mo_readNumber 85 = .ok (.bipush 48, 2) := by decide +kernel
theorem d_Mo_readNumber_87 : decode b_Mo_readNumber 87 = .ok (.if_icmp .ne 101, 3) := by decide +kernel
theorem d_Mo_readNumber_90 : decode b_Mo_readNumber 90 = .ok (.aload_n 0, 1) := by decide +kernel
theorem d_Mo_readNumber_91 : decode b_Mo_readNumber 91 = .ok (.getfield 107, 3) := by decide +kernel
theorem d_Mo_readNumber_94 : decode b_Mo_readNumber 94 = .ok (.iload 5, 2) := by decide +kernel
theorem d_Mo_readNumber_96 : decode b_Mo_readNumber 96 = .ok (.iconst 1, 1) := by decide +kernel
theorem d_Mo_readNumber_97 : decode b_Mo_readNumber 97 = .ok (.iadd, 1) := by decide +kernel
theorem d_Mo_readNumber_98 : decode b_Mo_readNumber 98 = .ok (.iaload, 1) := by decide +kernel
theorem d_Mo_readNumber_99 : decode b_Mo_readNumber 99 = .ok (.bipush 120, 2) := by decide +kernel
theorem d_Mo_readNumber_101 : decode b_Mo_readNumber 101 = .ok (.if_icmp .ne 87, 3) := by decide +kernel
theorem d_Mo_readNumber_104 : decode b_Mo_readNumber 104 = .ok (.aload_n 0, 1) := by decide +kernel
theorem d_Mo_readNumber_105 : decode b_Mo_readNumber 105 = .ok (.iload 5, 2) := by decide +kernel
theorem d_Mo_readNumber_107 : decode b_Mo_readNumber 107 = .ok (.iconst 2, 1) := by decide +kernel
theorem d_Mo_readNumber_108 : decode b_Mo_readNumber 108 = .ok (.iadd, 1) := by decide +kernel
theorem d_Mo_readNumber_109 : decode b_Mo_readNumber 109 = .ok (.iload_n 2, 1) := by decide +kernel
theorem d_Mo_readNumber_110 : decode b_Mo_readNumber 110 = .ok (.bipush 16, 2) := by decide +kernel
theorem d_Mo_readNumber_112 : decode b_Mo_readNumber 112 = .ok (.aload_n 3, 1) := by decide +kernel
theorem d_Mo_readNumber_113 : decode b_Mo_readNumber 113 = .ok (.invokevirtual 190, 3) := by decide +kernel
theorem d_Mo_readNumber_116 : decode b_Mo_readNumber 116 = .ok (.istore 8, 2) := by decide +kernel
theorem d_Mo_readNumber_118 : decode b_Mo_readNumber 118 = .ok (.iload 8, 2) := by decide +kernel
theorem d_Mo_readNumber_120 : decode b_Mo_readNumber 120 = .ok (.ifCond .lt 38, 3) := by decide +kernel
theorem d_Mo_readNumber_123 : decode b_Mo_readNumber 123 = .ok (.iload 8, 2) := by decide +kernel
theorem d_Mo_readNumber_125 : decode b_Mo_readNumber 125 = .ok (.iload_n 2, 1) := by decide +kernel
theorem d_Mo_readNumber_126 : decode b_Mo_readNumber 126 = .ok (.if_icmp .ge 32, 3) := by decide +kernel
theorem d_Mo_readNumber_129 : decode b_Mo_readNumber 129 = .ok (.aload_n 0, 1) := by decide +kernel
theorem d_Mo_readNumber_130 : decode b_Mo_readNumber 130 = .ok (.getfield 107, 3) := by decide +kernel
theorem d_Mo_readNumber_133 : decode b_Mo_readNumber 133 = .ok (.iload 8, 2) := by decide +kernel
theorem d_Mo_readNumber_135 : decode b_Mo_readNumber 135 = .ok (.iaload, 1) := by decide +kernel
theorem d_Mo_readNumber_136 : decode b_Mo_readNumber 136 = .ok (.bipush 112, 2) := by decide +kernel
theorem d_Mo_readNumber_138 : decode b_Mo_readNumber 138 = .ok (.if_icmp .ne 20, 3) := by decide +kernel
theorem d_Mo_readNumber_141 : decode b_Mo_readNumber 141 = .ok (.aload_n 0, 1) := by decide +kernel
theorem d_Mo_readNumber_142 : decode b_Mo_readNumber 142 = .ok (.iload 8, 2) := by decide +kernel
theorem d_Mo_readNumber_144 : decode b_Mo_readNumber 144 = .ok (.iconst 1, 1) := by decide +kernel
theorem d_Mo_readNumber_145 : decode b_Mo_readNumber 145 = .ok (.iadd, 1) := by decide +kernel
theorem d_Mo_readNumber_146 : decode b_Mo_readNumber 146 = .ok (.iload_n 2, 1) := by decide +kernel
theorem d_Mo_readNumber_147 : decode b_Mo_readNumber 147 = .ok (.iconst 4, 1) := by decide +kernel
theorem d_Mo_readNumber_148 : decode b_Mo_readNumber 148 = .ok (.invokevirtual 194, 3) := by decide +kernel
theorem d_Mo_readNumber_151 : decode b_Mo_readNumber 151 = .ok (.ifCond .eq 7, 3) := by decide +kernel
theorem d_Mo_readNumber_154 : decode b_Mo_readNumber 154 = .ok (.iconst 1, 1) := by decide +kernel
theorem d_Mo_readNumber_155 : decode b_Mo_readNumber 155 = .ok (.goto 4, 3) := by decide +kernel
theorem d_Mo_readNumber_158 : decode b_Mo_readNumber 158 = .ok (.iconst 0, 1) := by decide +kernel
theorem d_Mo_readNumber_159 : decode b_Mo_readNumber 159 = .ok (.istore 6, 2) := by decide +kernel
theorem d_Mo_readNumber_161 : decode b_Mo_readNumber 161 = .ok (.aload_n 3, 1) := by decide +kernel
theorem d_Mo_readNumber_162 : decode b_Mo_readNumber 162 = .ok (.iload 6, 2) := by decide +kernel
theorem d_Mo_readNumber_164 : decode b_Mo_readNumber 164 = .ok (.ifCond .eq 17, 3) := by decide +kernel
theorem d_Mo_readNumber_167 : decode b_Mo_readNumber 167 = .ok (.aload_n 0, 1) := by decide +kernel
theorem d_Mo_readNumber_168 : decode b_Mo_readNumber 168 = .ok (.getfield 183, 3) := by decide +kernel
theorem d_Mo_readNumber_171 : decode b_Mo_readNumber 171 = .ok (.iconst 4, 1) := by decide +kernel
theorem d_Mo_readNumber_172 : decode b_Mo_readNumber 172 = .ok (.aload_n 0, 1) := by decide +kernel
theorem d_Mo_readNumber_173 : decode b_Mo_readNumber 173 = .ok (.getfield 172, 3) := by decide +kernel
theorem d_Mo_readNumber_176 : decode b_Mo_readNumber 176 = .ok (.imul, 1) := by decide +kernel
theorem d_Mo_readNumber_177 : decode b_Mo_readNumber 177 = .ok (.isub, 1) := by decide +kernel
theorem d_Mo_readNumber_178 : decode b_Mo_readNumber 178 = .ok (.goto 4, 3) := by decide +kernel
theorem d_Mo_readNumber_181 : decode b_Mo_readNumber 181 = .ok (.iconst 0, 1) := by decide +kernel
theorem d_Mo_readNumber_182 : decode b_Mo_readNumber 182 = .ok (.putfield 36, 3) := by decide +kernel
theorem d_Mo_readNumber_185 : decode b_Mo_readNumber 185 = .ok (.goto 101, 3) := by decide +kernel
theorem d_Mo_readNumber_188 : decode b_Mo_readNumber 188 = .ok (.iload 7, 2) := by decide +kernel
theorem d_Mo_readNumber_190 : decode b_Mo_readNumber 190 = .ok (.ifCond .lt 18, 3) := by decide +kernel
theorem d_Mo_readNumber_193 : decode b_Mo_readNumber 193 = .ok (.aload_n 0, 1) := by decide +kernel
theorem d_Mo_readNumber_194 : decode b_Mo_readNumber 194 = .ok (.iload 5, 2) := by decide +kernel
theorem d_Mo_readNumber_196 : decode b_Mo_readNumber 196 = .ok (.iload 7, 2) := by decide +kernel
theorem d_Mo_readNumber_198 : decode b_Mo_readNumber 198 = .ok (.iload_n 2, 1) := by decide +kernel
theorem d_Mo_readNumber_199 : decode b_Mo_readNumber 199 = .ok (.aload_n 3, 1) := by decide +kernel
theorem d_Mo_readNumber_200 : decode b_Mo_readNumber 200 = .ok (.invokevirtual 198, 3) := by decide +kernel
theorem d_Mo_readNumber_203 : decode b_Mo_readNumber 203 = .ok (.istore 6, 2) := by decide +kernel
theorem d_Mo_readNumber_205 : decode b_Mo_readNumber 205 = .ok (.goto 81, 3) := by decide +kernel
theorem d_Mo_readNumber_208 : decode b_Mo_readNumber 208 = .ok (.aload_n 0, 1) := by decide +kernel
theorem d_Mo_readNumber_209 : decode b_Mo_readNumber 209 = .ok (.iload 5, 2) := by decide +kernel
theorem d_Mo_readNumber_211 : decode b_Mo_readNumber 211 = .ok (.iload_n 2, 1) := by decide +kernel
theorem d_Mo_readNumber_212 : decode b_Mo_readNumber 212 = .ok (.bipush 10, 2) := by decide +kernel
theorem d_Mo_readNumber_214 : decode b_Mo_readNumber 214 = .ok (.aload_n 3, 1) := by decide +kernel
theorem d_Mo_readNumber_215 : decode b_Mo_readNumber 215 = .ok (.invokevirtual 190, 3) := by decide +kernel
theorem d_Mo_readNumber_218 : decode b_Mo_readNumber 218 = .ok (.istore 8, 2) := by decide +kernel
theorem d_Mo_readNumber_220 : decode b_Mo_readNumber 220 = .ok (.aload_n 0, 1) := by decide +kernel
theorem d_Mo_readNumber_221 : decode b_Mo_readNumber 221 = .ok (.iconst 0, 1) := by decide +kernel
theorem d_Mo_readNumber_222 : decode b_Mo_readNumber 222 = .ok (.putfield 183, 3) := by decide +kernel
theorem d_Mo_readNumber_225 : decode b_Mo_readNumber 225 = .ok (.iload 8, 2) := by decide +kernel
theorem d_Mo_readNumber_227 : decode b_Mo_readNumber 227 = .ok (.iload_n 2, 1) := by decide +kernel
theorem d_Mo_readNumber_228 : decode b_Mo_readNumber 228 = .ok (.if_icmp .eq 33, 3) := by decide +kernel
theorem d_Mo_readNumber_231 : decode b_Mo_readNumber 231 = .ok (.iload 8, 2) := by decide +kernel
theorem d_Mo_readNumber_233 : decode b_Mo_readNumber 233 = .ok (.ifCond .lt 32, 3) := by decide +kernel
theorem d_Mo_readNumber_236 : decode b_Mo_readNumber 236 = .ok (.aload_n 0, 1) := by decide +kernel
theorem d_Mo_readNumber_237 : decode b_Mo_readNumber 237 = .ok (.getfield 107, 3) := by decide +kernel
theorem d_Mo_readNumber_240 : decode b_Mo_readNumber 240 = .ok (.iload 8, 2) := by decide +kernel
theorem d_Mo_readNumber_242 : decode b_Mo_readNumber 242 = .ok (.iaload, 1) := by decide +kernel
theorem d_Mo_readNumber_243 : decode b_Mo_readNumber 243 = .ok (.bipush 101, 2) := by decide +kernel
theorem d_Mo_readNumber_245 : decode b_Mo_readNumber 245 = .ok (.if_icmp .ne 20, 3) := by decide +kernel
theorem d_Mo_readNumber_248 : decode b_Mo_readNumber 248 = .ok (.aload_n 0, 1) := by decide +kernel
theorem d_Mo_readNumber_249 : decode b_Mo_readNumber 249 = .ok (.iload 8, 2) := by decide +kernel
theorem d_Mo_readNumber_251 : decode b_Mo_readNumber 251 = .ok (.iconst 1, 1) := by decide +kernel
theorem d_Mo_readNumber_252 : decode b_Mo_readNumber 252 = .ok (.iadd, 1) := by decide +kernel
theorem d_Mo_readNumber_253 : decode b_Mo_readNumber 253 = .ok (.iload_n 2, 1) := by decide +kernel
theorem d_Mo_readNumber_254 : decode b_Mo_readNumber 254 = .ok (.iconst 3, 1) := by decide +kernel
theorem d_Mo_readNumber_255 : decode b_Mo_readNumber 255 = .ok (.invokevirtual 194, 3) := by decide +kernel
theorem d_Mo_readNumber_258 : decode b_Mo_readNumber 258 = .ok (.ifCond .eq 7, 3) := by decide +kernel
theorem d_Mo_readNumber_261 : decode b_Mo_readNumber 261 = .ok (.iconst 1, 1) := by decide +kernel
theorem d_Mo_readNumber_262 : decode b_Mo_readNumber 262 = .ok (.goto 4, 3) := by decide +kernel
theorem d_Mo_readNumber_265 : decode b_Mo_readNumber 265 = .ok (.iconst 0, 1) := by decide +kernel
theorem d_Mo_readNumber_266 : decode b_Mo_readNumber 266 = .ok (.istore 6, 2) := by decide +kernel
theorem d_Mo_readNumber_268 : decode b_Mo_readNumber 268 = .ok (.iload 6, 2) := by decide +kernel
theorem d_Mo_readNumber_270 : decode b_Mo_readNumber 270 = .ok (.ifCond .eq 16, 3) := by decide +kernel
theorem d_Mo_readNumber_273 : decode b_Mo_readNumber 273 = .ok (.aload_n 3, 1) := by decide +kernel
theorem d_Mo_readNumber_274 : decode b_Mo_readNumber 274 = .ok (.aload_n 0, 1) := by decide +kernel
theorem d_Mo_readNumber_275 : decode b_Mo_readNumber 275 = .ok (.getfield 183, 3) := by decide +kernel
theorem d_Mo_readNumber_278 : decode b_Mo_readNumber 278 = .ok (.aload_n 0, 1) := by decide +kernel
theorem d_Mo_readNumber_279 : decode b_Mo_readNumber 279 = .ok (.getfield 172, 3) := by decide +kernel
theorem d_Mo_readNumber_282 : decode b_Mo_readNumber 282 = .ok (.isub, 1) := by decide +kernel
theorem d_Mo_readNumber_283 : decode b_Mo_readNumber 283 = .ok (.invokestatic 202, 3) := by decide +kernel
theorem d_Mo_readNumber_286 : decode b_Mo_readNumber 286 = .ok (.aload_n 3, 1) := by decide +kernel
theorem d_Mo_readNumber_287 : decode b_Mo_readNumber 287 = .ok (.iload 4, 2) := by decide +kernel
theorem d_Mo_readNumber_289 : decode b_Mo_readNumber 289 = .ok (.putfield 88, 3) := by decide +kernel
theorem d_Mo_readNumber_292 : decode b_Mo_readNumber 292 = .ok (.iload 6, 2) := by decide +kernel
theorem d_Mo_readNumber_294 : decode b_Mo_readNumber 294 = .ok (.ireturn, 1) := by decide +kernel
theorem cl_Mo_186 : CLinkV TB "IntervalTextModel" 186 "IntervalTextModel" y_Mo_findByte b_Mo_findByte 5 (some .int) 3 := ⟨⟨tb_t (List.mem_append_right _ (List.mem_append_right _ (List.mem_append_left _ (List.mem_of_getElem? (l := tables_1_3) (i := 230) rfl)))) rfl, tb_t (List.mem_append_left _ (List.mem_of_getElem? (l := tables_1_1) (i := 8) rfl)) rfl, tb_t (List.mem_append_right _ (List.mem_append_right _ (List.mem_append_left _ (List.mem_of_getElem? (l := tables_1_3) (i := 233) rfl)))) rfl, by decide +kernel, by decide +kernel, by decide +kernel⟩, tb_t (List.mem_append_right _ (List.mem_append_right _ (List.mem_append_left _ (List.mem_of_getElem? (l := tables_1_3) (i := 232) rfl)))) rfl, tb_p 21 rfl⟩
theorem cl_Mo_190 : CLinkV TB "IntervalTextModel" 190 "IntervalTextModel" y_Mo_readDigits b_Mo_readDigits 8 (some .int) 4 := ⟨⟨tb_t (List.mem_append_right _ (List.mem_append_right _ (List.mem_append_right _ (List.mem_append_left _ (List.mem_of_getElem? (l := tables_1_4) (i := 20) rfl))))) rfl, tb_t (List.mem_append_left _ (List.mem_of_getElem? (l := tables_1_1) (i := 8) rfl)) rfl, tb_t (List.mem_append_right _ (List.mem_append_right _ (List.mem_append_right _ (List.mem_append_left _ (List.mem_of_getElem? (l := tables_1_4) (i := 23) rfl))))) rfl, by decide +kernel, by decide +kernel, by decide +kernel⟩, tb_t (List.mem_append_right _ (List.mem_append_right _ (List.mem_append_right _ (List.mem_append_left _ (List.mem_of_getElem? (l := tables_1_4) (i := 22) rfl))))) rfl, tb_p 26 rfl⟩
theorem cl_Mo_194 : CLinkV TB "IntervalTextModel" 194 "IntervalTextModel" y_Mo_readExponent b_Mo_readExponent 8 (some .boolean) 3 := ⟨⟨tb_t (List.mem_append_right _ (List.mem_append_right _ (List.mem_append_right _ (List.mem_append_left _ (List.mem_of_getElem? (l := tables_1_4) (i := 43) rfl))))) rfl, tb_t (List.mem_append_left _ (List.mem_of_getElem? (l := tables_1_1) (i := 8) rfl)) rfl, tb_t (List.mem_append_right _ (List.mem_append_right _ (List.mem_append_right _ (List.mem_append_left _ (List.mem_of_getElem? (l := tables_1_4) (i := 46) rfl))))) rfl, by decide +kernel, by decide +kernel, by decide +kernel⟩, tb_t (List.mem_append_right _ (List.mem_append_right _ (List.mem_append_right _ (List.mem_append_left _ (List.mem_of_getElem? (l := tables_1_4) (i := 45) rfl))))) rfl, tb_p 27 rfl⟩
theorem cl_Mo_198 : CLinkV TB "IntervalTextModel" 198 "IntervalTextModel" y_Mo_readRatio b_Mo_readRatio 7 (some .boolean) 4 := ⟨⟨tb_t (List.mem_append_right _ (List.mem_append_right _ (List.mem_append_right _ (List.mem_append_left _ (List.mem_of_getElem? (l := tables_1_4) (i := 47) rfl))))) rfl, tb_t (List.mem_append_left _ (List.mem_of_getElem? (l := tables_1_1) (i := 8) rfl)) rfl, tb_t (List.mem_append_right _ (List.mem_append_right _ (List.mem_append_right _ (List.mem_append_left _ (List.mem_of_getElem? (l := tables_1_4) (i := 50) rfl))))) rfl, by decide +kernel, by decide +kernel, by decide +kernel⟩, tb_t (List.mem_append_right _ (List.mem_append_right _ (List.mem_append_right _ (List.mem_append_left _ (List.mem_of_getElem? (l := tables_1_4) (i := 49) rfl))))) rfl, tb_p 28 rfl⟩
set_option maxHeartbeats 4000000 in
set_option maxRecDepth 100000 in
theorem c_Mo_readNumber (l : Launch) (D : va_G) (E : EVt) (h : Nat) (mlf : Nat) (mrt : Nat) (mpb : Nat) (mop : Nat) (mtz : Int) (mta : Nat) (moz : Int) (moa : Nat) (mrl : Int) (mrh : Int) (mno : Bool) (mlo : Int) (mhi : Int) (mo1 : Nat) (mo2 : Nat) (mo3 : Nat) (mo4 : Nat) (mms : Int) (mex : Int) (mgd : Bool) (mon : Bool) (t : Int → Int) (h4 : Nat) (pn9 : Nat) (pa9 : Nat) (qn9 : Nat) (qa9 : Nat) (pg9 : Int → Int) (qg9 : Int → Int) (pk9 : Int) (qk9 : Int) (ee9 : Int) (be9 : Bool) (fr : Int) (to : Int) (hrg : 0 ≤ fr ∧ fr ≤ to ∧ to ≤ 400) (hT : Tx t to) : CT l D classes (tyl E) (EVX E) y_Mo_readNumber (Cond.code y_Mo_readNumber b_Mo_readNumber 9 (some .boolean) :: TB) (rmK 3 0 0 73) 0 0 [.ref h, .int (iI fr), .int (iI to), .ref h4] [(h, .inr (9, [.ref mlf, .ref mrt, .ref mpb, .ref mop, .int (iI mtz), .ref mta, .int (iI moz), .ref moa, .long (lI mrl), .long (lI mrh), .int (bI mno), .long (lI mlo), .long (lI mhi), .ref mo1, .ref mo2, .ref mo3, .ref mo4, .int (iI mms), .int (iI mex), .int (bI mgd), .int (bI mon)])), (mta, .inl (E.1, 400, .inl (ia t))), (h4, .inr (8, [.int (bI be9), .ref pn9, .ref qn9, .int (iI ee9)])), (pn9, .inr (7, [.ref pa9, .int (iI pk9)])), (pa9, .inl (E.1, 640, .inl (ia pg9))), (qn9, .inr (7, [.ref qa9, .int (iI qk9)])), (qa9, .inl (E.1, 640, .inl (ia qg9)))] (S := Bool × Int × Int × Int × Int × (Int → Int) × (Int → Int) × Int × Int × Int × Bool) (fun u => [(h, .inr (9, [.ref mlf, .ref mrt, .ref mpb, .ref mop, .int (iI mtz), .ref mta, .int (iI moz), .ref moa, .long (lI mrl), .long (lI mrh), .int (bI mno), .long (lI mlo), .long (lI mhi), .ref mo1, .ref mo2, .ref mo3, .ref mo4, .int (iI u.2.1), .int (iI u.2.2.1), .int (bI mgd), .int (bI mon)])), (mta, .inl (E.1, 400, .inl (ia t))), (h4, .inr (8, [.int (bI u.2.2.2.2.2.2.2.2.2.2), .ref pn9, .ref qn9, .int (iI u.2.2.2.2.2.2.2.2.2.1)])), (pn9, .inr (7, [.ref pa9, .int (iI u.2.2.2.2.2.2.2.1)])), (pa9, .inl (E.1, 640, .inl (ia u.2.2.2.2.2.1))), (qn9, .inr (7, [.ref qa9, .int (iI u.2.2.2.2.2.2.2.2.1)])), (qa9, .inl (E.1, 640, .inl (ia u.2.2.2.2.2.2.1)))]) (fun u => some (.int (bI u.1))) (fun u => (u.1 = true ↔ NOK t fr to) ∧ (u.1 = true → ((BigOK u.2.2.2.2.2.1 u.2.2.2.2.2.2.2.1 u.2.2.2.1 ∧ BigOK u.2.2.2.2.2.2.1 u.2.2.2.2.2.2.2.2.1 u.2.2.2.2.1) ∧ 0 < u.2.2.2.2.1 ∧ NEQ u.2.2.2.2.2.2.2.2.2.2 u.2.2.2.1 u.2.2.2.2.1 u.2.2.2.2.2.2.2.2.2.1 (nqs t fr to) ∧ (u.2.2.2.2.2.2.2.1 ≤ 310 ∧ u.2.2.2.2.2.2.2.2.1 ≤ 310) ∧ (-12000 < u.2.2.2.2.2.2.2.2.2.1 ∧ u.2.2.2.2.2.2.2.2.2.1 < 12000)))) := by
  refine CT.ofz (fv := fun (u : Bool × Int × Int × Int × Int × (Int → Int) × (Int → Int) × Int × Int × Int × Bool) => u.1) (eok E) (by decide) rfl (Nat.le_of_ble_eq_true rfl) ?_
  intro p e s m args below meth c A Q ls B hmn hP hD hS hl ret
  have B : Bd l D classes (tyl E) (EVX E) p m c b_Mo_readNumber 9 s args (Cond.code y_Mo_readNumber b_Mo_readNumber 9 (some .boolean) :: TB) R_Mo A := B
  obtain ⟨⟨hx, hb, hml, hown, hts⟩, hX, hK, hE, hA⟩ := id B
  have hl : lv_has ls 9 [(0, .ref h), (1, .int (iI fr)), (2, .int (iI to)), (3, .ref h4)] := hl
  have hP : va_P D classes [(h, .inr (9, [.ref mlf, .ref mrt, .ref mpb, .ref mop, .int (iI mtz), .ref mta, .int (iI moz), .ref moa, .long (lI mrl), .long (lI mrh), .int (bI mno), .long (lI mlo), .long (lI mhi), .ref mo1, .ref mo2, .ref mo3, .ref mo4, .int (iI mms), .int (iI mex), .int (bI mgd), .int (bI mon)])), (mta, .inl (E.1, 400, .inl (ia t))), (h4, .inr (8, [.int (bI be9), .ref pn9, .ref qn9, .int (iI ee9)])), (pn9, .inr (7, [.ref pa9, .int (iI pk9)])), (pa9, .inl (E.1, 640, .inl (ia pg9))), (qn9, .inr (7, [.ref qa9, .int (iI qk9)])), (qa9, .inl (E.1, 640, .inl (ia qg9)))] s.heap := hP
  have hD : va_D A [(h, .inr (9, [.ref mlf, .ref mrt, .ref mpb, .ref mop, .int (iI mtz), .ref mta, .int (iI moz), .ref moa, .long (lI mrl), .long (lI mrh), .int (bI mno), .long (lI mlo), .long (lI mhi), .ref mo1, .ref mo2, .ref mo3, .ref mo4, .int (iI mms), .int (iI mex), .int (bI mgd), .int (bI mon)])), (mta, .inl (E.1, 400, .inl (ia t))), (h4, .inr (8, [.int (bI be9), .ref pn9, .ref qn9, .int (iI ee9)])), (pn9, .inr (7, [.ref pa9, .int (iI pk9)])), (pa9, .inl (E.1, 640, .inl (ia pg9))), (qn9, .inr (7, [.ref qa9, .int (iI qk9)])), (qa9, .inl (E.1, 640, .inl (ia qg9)))] := hD
  have hgp := sgP_rng (t := t) (n := to) (p := fr) (by omega)
  have K_59 : ∀ (ng9 : Bool) (p9 : Int) (hng : ng9 = sgN t to fr) (hp9 : p9 = sgP t to fr) (ls : Array Slot) (H : Heap) (locs : List Loc), lv_has ls 9 [(0, .ref h), (1, .int (iI fr)), (2, .int (iI to)), (3, .ref h4), (4, .int (bI ng9)), (5, .int (iI p9))] → va_P D classes [(h, .inr (9, [.ref mlf, .ref mrt, .ref mpb, .ref mop, .int (iI mtz), .ref mta, .int (iI moz), .ref moa, .long (lI mrl), .long (lI mrh), .int (bI mno), .long (lI mlo), .long (lI mhi), .ref mo1, .ref mo2, .ref mo3, .ref mo4, .int (iI mms), .int (iI mex), .int (bI mgd), .int (bI mon)])), (mta, .inl (E.1, 400, .inl (ia t))), (h4, .inr (8, [.int (bI be9), .ref pn9, .ref qn9, .int (iI ee9)])), (pn9, .inr (7, [.ref pa9, .int (iI pk9)])), (pa9, .inl (E.1, 640, .inl (ia pg9))), (qn9, .inr (7, [.ref qa9, .int (iI qk9)])), (qa9, .inl (E.1, 640, .inl (ia qg9)))] H → va_D A [(h, .inr (9, [.ref mlf, .ref mrt, .ref mpb, .ref mop, .int (iI mtz), .ref mta, .int (iI moz), .ref moa, .long (lI mrl), .long (lI mrh), .int (bI mno), .long (lI mlo), .long (lI mhi), .ref mo1, .ref mo2, .ref mo3, .ref mo4, .int (iI mms), .int (iI mex), .int (bI mgd), .int (bI mon)])), (mta, .inl (E.1, 400, .inl (ia t))), (h4, .inr (8, [.int (bI be9), .ref pn9, .ref qn9, .int (iI ee9)])), (pn9, .inr (7, [.ref pa9, .int (iI pk9)])), (pa9, .inl (E.1, 640, .inl (ia pg9))), (qn9, .inr (7, [.ref qa9, .int (iI qk9)])), (qa9, .inl (E.1, 640, .inl (ia qg9)))] → va_S A s.heap H locs → W p l e (rmK 3 0 0 73) s m args below meth c H locs 0 0 Q (F0 m 59 ls []) := by
    intro ng9 p9 hng hp9 ls H locs hl hP hD hS
    have K_286 : ∀ (gd6 : Bool) (ms6 : Int) (ex6 : Int) (v6 : Int) (b6 : Int) (pg6 : Int → Int) (qg6 : Int → Int) (pk6 : Int) (qk6 : Int) (ee6 : Int) (be6 : Bool) (hgd : gd6 = true ↔ NOK t fr to) (hok6 : gd6 = true → ((BigOK pg6 pk6 v6 ∧ BigOK qg6 qk6 b6) ∧ 0 < b6 ∧ NEQ ng9 v6 b6 ee6 (nqs t fr to) ∧ (pk6 ≤ 310 ∧ qk6 ≤ 310) ∧ (-12000 < ee6 ∧ ee6 < 12000))) (ls : Array Slot) (H : Heap) (locs : List Loc), lv_has ls 9 [(0, .ref h), (1, .int (iI fr)), (2, .int (iI to)), (3, .ref h4), (4, .int (bI ng9)), (6, .int (bI gd6))] → va_P D classes [(h, .inr (9, [.ref mlf, .ref mrt, .ref mpb, .ref mop, .int (iI mtz), .ref mta, .int (iI moz), .ref moa, .long (lI mrl), .long (lI mrh), .int (bI mno), .long (lI mlo), .long (lI mhi), .ref mo1, .ref mo2, .ref mo3, .ref mo4, .int (iI ms6), .int (iI ex6), .int (bI mgd), .int (bI mon)])), (mta, .inl (E.1, 400, .inl (ia t))), (h4, .inr (8, [.int (bI be6), .ref pn9, .ref qn9, .int (iI ee6)])), (pn9, .inr (7, [.ref pa9, .int (iI pk6)])), (pa9, .inl (E.1, 640, .inl (ia pg6))), (qn9, .inr (7, [.ref qa9, .int (iI qk6)])), (qa9, .inl (E.1, 640, .inl (ia qg6)))] H → va_D A [(h, .inr (9, [.ref mlf, .ref mrt, .ref mpb, .ref mop, .int (iI mtz), .ref mta, .int (iI moz), .ref moa, .long (lI mrl), .long (lI mrh), .int (bI mno), .long (lI mlo), .long (lI mhi), .ref mo1, .ref mo2, .ref mo3, .ref mo4, .int (iI ms6), .int (iI ex6), .int (bI mgd), .int (bI mon)])), (mta, .inl (E.1, 400, .inl (ia t))), (h4, .inr (8, [.int (bI be6), .ref pn9, .ref qn9, .int (iI ee6)])), (pn9, .inr (7, [.ref pa9, .int (iI pk6)])), (pa9, .inl (E.1, 640, .inl (ia pg6))), (qn9, .inr (7, [.ref qa9, .int (iI qk6)])), (qa9, .inl (E.1, 640, .inl (ia qg6)))] → va_S A s.heap H locs → W p l e (rmK 3 0 0 73) s m args below meth c H locs 0 0 Q (F0 m 286 ls []) := by
      intro gd6 ms6 ex6 v6 b6 pg6 qg6 pk6 qk6 ee6 be6 hgd hok6 ls H locs hl hP hD hS
      refine lv_aload_n hx hb d_Mo_readNumber_286 rfl (lv_at hl 3 rfl) ?_
      refine lv_iload hx hb d_Mo_readNumber_287 (lv_at hl 4 rfl) ?_
      refine wk_putN B hP hD hS 2 rfl fn_Num_0 (hE.1 _ (List.mem_of_getElem? (l := nestWs) (i := 7) rfl)) fp_Num_0 (v := .int (bI ng9)) (bI_nar _) (bI_fit _) (Nat.le_of_ble_eq_true rfl) d_Mo_readNumber_289 (fun H locs hP hD hS => ?_)
      have hP : va_P D classes [(h, .inr (9, [.ref mlf, .ref mrt, .ref mpb, .ref mop, .int (iI mtz), .ref mta, .int (iI moz), .ref moa, .long (lI mrl), .long (lI mrh), .int (bI mno), .long (lI mlo), .long (lI mhi), .ref mo1, .ref mo2, .ref mo3, .ref mo4, .int (iI ms6), .int (iI ex6), .int (bI mgd), .int (bI mon)])), (mta, .inl (E.1, 400, .inl (ia t))), (h4, .inr (8, [.int (bI ng9), .ref pn9, .ref qn9, .int (iI ee6)])), (pn9, .inr (7, [.ref pa9, .int (iI pk6)])), (pa9, .inl (E.1, 640, .inl (ia pg6))), (qn9, .inr (7, [.ref qa9, .int (iI qk6)])), (qa9, .inl (E.1, 640, .inl (ia qg6)))] H := hP
      have hD : va_D A [(h, .inr (9, [.ref mlf, .ref mrt, .ref mpb, .ref mop, .int (iI mtz), .ref mta, .int (iI moz), .ref moa, .long (lI mrl), .long (lI mrh), .int (bI mno), .long (lI mlo), .long (lI mhi), .ref mo1, .ref mo2, .ref mo3, .ref mo4, .int (iI ms6), .int (iI ex6), .int (bI mgd), .int (bI mon)])), (mta, .inl (E.1, 400, .inl (ia t))), (h4, .inr (8, [.int (bI ng9), .ref pn9, .ref qn9, .int (iI ee6)])), (pn9, .inr (7, [.ref pa9, .int (iI pk6)])), (pa9, .inl (E.1, 640, .inl (ia pg6))), (qn9, .inr (7, [.ref qa9, .int (iI qk6)])), (qa9, .inl (E.1, 640, .inl (ia qg6)))] := hD
      refine lv_iload hx hb d_Mo_readNumber_292 (lv_at hl 5 rfl) ?_
      exact ret (gd6, ms6, ex6, v6, b6, pg6, qg6, pk6, qk6, ee6, ng9) _ _ _ _ d_Mo_readNumber_294 (show (gd6 = true ↔ NOK t fr to) ∧ (gd6 = true → ((BigOK pg6 pk6 v6 ∧ BigOK qg6 qk6 b6) ∧ 0 < b6 ∧ NEQ ng9 v6 b6 ee6 (nqs t fr to) ∧ (pk6 ≤ 310 ∧ qk6 ≤ 310) ∧ (-12000 < ee6 ∧ ee6 < 12000))) from ⟨hgd, hok6⟩) (hP.sub [0, 1, 2, 3, 4, 5, 6] rfl) (hD.sub [0, 1, 2, 3, 4, 5, 6] (by decide) rfl) hS
    refine lv_aload_n hx hb d_Mo_readNumber_59 rfl (lv_at hl 0 rfl) ?_
    refine lv_iload hx hb d_Mo_readNumber_60 (lv_at hl 5 rfl) ?_
    refine lv_iload_n hx hb d_Mo_readNumber_62 rfl (lv_at hl 2 rfl) ?_
    refine wi_bipush hx hb d_Mo_readNumber_63 (by decide) ?_
    refine wk_callV (As := [.int (iI p9), .int (iI to), .int (iI 47)]) (rest := []) (wr := [(h4, .inr (8, [.int (bI be9), .ref pn9, .ref qn9, .int (iI ee9)])), (pn9, .inr (7, [.ref pa9, .int (iI pk9)])), (pa9, .inl (E.1, 640, .inl (ia pg9))), (qn9, .inr (7, [.ref qa9, .int (iI qk9)])), (qa9, .inl (E.1, 640, .inl (ia qg9)))]) B gTB cl_Mo_186 (c_Mo_findByte l D E h mlf mrt mpb mop mtz mta moz moa mrl mrh mno mlo mhi mo1 mo2 mo3 mo4 mms mex mgd mon t p9 to 47 (by omega) (hT) (by decide)) ⟨⟨rfl, rfl⟩, Nat.le_of_ble_eq_true rfl, Nat.le_of_ble_eq_true rfl⟩ hP hD hS [0, 1] [2, 3, 4, 5, 6] rfl rfl (by decide) 0 rfl rfl rfl ⟨hl.2.1, hl.1⟩ rfl (Nat.le_of_ble_eq_true rfl) d_Mo_readNumber_65 ⟨Nat.le_of_ble_eq_true rfl, Nat.le_of_ble_eq_true rfl⟩ rfl (fun sl9 H locs hw hP hD hS => ?_)
    have hP : va_P D classes [(h4, .inr (8, [.int (bI be9), .ref pn9, .ref qn9, .int (iI ee9)])), (pn9, .inr (7, [.ref pa9, .int (iI pk9)])), (pa9, .inl (E.1, 640, .inl (ia pg9))), (qn9, .inr (7, [.ref qa9, .int (iI qk9)])), (qa9, .inl (E.1, 640, .inl (ia qg9))), (h, .inr (9, [.ref mlf, .ref mrt, .ref mpb, .ref mop, .int (iI mtz), .ref mta, .int (iI moz), .ref moa, .long (lI mrl), .long (lI mrh), .int (bI mno), .long (lI mlo), .long (lI mhi), .ref mo1, .ref mo2, .ref mo3, .ref mo4, .int (iI mms), .int (iI mex), .int (bI mgd), .int (bI mon)])), (mta, .inl (E.1, 400, .inl (ia t)))] H := hP
    have hD : va_D A [(h4, .inr (8, [.int (bI be9), .ref pn9, .ref qn9, .int (iI ee9)])), (pn9, .inr (7, [.ref pa9, .int (iI pk9)])), (pa9, .inl (E.1, 640, .inl (ia pg9))), (qn9, .inr (7, [.ref qa9, .int (iI qk9)])), (qa9, .inl (E.1, 640, .inl (ia qg9))), (h, .inr (9, [.ref mlf, .ref mrt, .ref mpb, .ref mop, .int (iI mtz), .ref mta, .int (iI moz), .ref moa, .long (lI mrl), .long (lI mrh), .int (bI mno), .long (lI mlo), .long (lI mhi), .ref mo1, .ref mo2, .ref mo3, .ref mo4, .int (iI mms), .int (iI mex), .int (bI mgd), .int (bI mon)])), (mta, .inl (E.1, 400, .inl (ia t)))] := hD
    have hw : (FBR t p9 to 47 sl9) := hw
    have hfb := hw
    refine W.cs (g := F0 m 68 ls [.int (iI sl9)]) (cells' := 0) (slots' := 0) rfl rfl ?_
    have hslr : -1 ≤ sl9 ∧ sl9 ≤ 400 := by rcases hfb with z | z <;> omega
    refine lv_istore (lv' := [(7, .int (iI sl9)), (0, .ref h), (1, .int (iI fr)), (2, .int (iI to)), (3, .ref h4), (4, .int (bI ng9)), (5, .int (iI p9))]) hx hb d_Mo_readNumber_68 hl (by decide) rfl (fun ls hl => ?_)
    refine lv_iload_n hx hb d_Mo_readNumber_70 rfl (lv_at hl 3 rfl) ?_
    refine lv_iload hx hb d_Mo_readNumber_71 (lv_at hl 6 rfl) ?_
    refine wi_isub hx hb d_Mo_readNumber_73 ?_
    refine wi_iconst (n := 1) hx hb d_Mo_readNumber_74 ?_
    refine wi_icmp_le (tgt := 188) hx hb d_Mo_readNumber_75 (by decide) (by omega) (by omega) (fun c_1 => ?_) (fun c_1 => ?_)
    · skip
      have hw6 : wdB t to (sgP t to fr) 6 = false := by
        rw [← hp9]
        cases q9 : wdB t to p9 6 with
        | true => exfalso; have q8 := (sw_hex (by omega)).mp q9; omega
        | false => rfl
      refine lv_iload hx hb d_Mo_readNumber_188 (lv_at hl 0 rfl) ?_
      refine wi_if_lt (tgt := 208) hx hb d_Mo_readNumber_190 (by decide) (by omega) (fun c_2 => ?_) (fun c_2 => ?_)
      · skip
        have hnf : ∀ j : Int, sgP t to fr ≤ j → j < to → t j ≠ 47 := by
          rcases hfb with z | z
          · rw [← hp9]; exact z.2
          · omega
        refine lv_aload_n hx hb d_Mo_readNumber_208 rfl (lv_at hl 1 rfl) ?_
        refine lv_iload hx hb d_Mo_readNumber_209 (lv_at hl 6 rfl) ?_
        refine lv_iload_n hx hb d_Mo_readNumber_211 rfl (lv_at hl 3 rfl) ?_
        refine wi_bipush hx hb d_Mo_readNumber_212 (by decide) ?_
        refine lv_aload_n hx hb d_Mo_readNumber_214 rfl (lv_at hl 4 rfl) ?_
        refine wk_callV (As := [.int (iI p9), .int (iI to), .int (iI 10), .ref h4]) (rest := []) (wr := []) B gTB cl_Mo_190 (c_Mo_readDigits l D E h mlf mrt mpb mop mtz mta moz moa mrl mrh mno mlo mhi mo1 mo2 mo3 mo4 mms mex mgd mon t h4 pn9 pa9 qn9 qa9 pg9 qg9 pk9 qk9 ee9 be9 p9 to 10 (by omega) (hT) (Or.inl rfl)) ⟨⟨rfl, rfl⟩, Nat.le_of_ble_eq_true rfl, Nat.le_of_ble_eq_true rfl⟩ hP hD hS [5, 6, 0, 1, 2, 3, 4] [] rfl rfl (by decide) 5 rfl rfl rfl ⟨hl.2.1, hl.1⟩ rfl (Nat.le_of_ble_eq_true rfl) d_Mo_readNumber_215 ⟨Nat.le_of_ble_eq_true rfl, Nat.le_of_ble_eq_true rfl⟩ rfl (fun u H locs hw hP hD hS => ?_)
        obtain ⟨re9, ms9, q9, v9, cd9, hpd9, pg2_3, qg2_4, pk2_5, qk2_6⟩ := u
        have hP : va_P D classes [(h, .inr (9, [.ref mlf, .ref mrt, .ref mpb, .ref mop, .int (iI mtz), .ref mta, .int (iI moz), .ref moa, .long (lI mrl), .long (lI mrh), .int (bI mno), .long (lI mlo), .long (lI mhi), .ref mo1, .ref mo2, .ref mo3, .ref mo4, .int (iI ms9), .int (iI mex), .int (bI mgd), .int (bI mon)])), (mta, .inl (E.1, 400, .inl (ia t))), (h4, .inr (8, [.int (bI false), .ref pn9, .ref qn9, .int (iI 0)])), (pn9, .inr (7, [.ref pa9, .int (iI pk2_5)])), (pa9, .inl (E.1, 640, .inl (ia pg2_3))), (qn9, .inr (7, [.ref qa9, .int (iI qk2_6)])), (qa9, .inl (E.1, 640, .inl (ia qg2_4)))] H := hP
        have hD : va_D A [(h, .inr (9, [.ref mlf, .ref mrt, .ref mpb, .ref mop, .int (iI mtz), .ref mta, .int (iI moz), .ref moa, .long (lI mrl), .long (lI mrh), .int (bI mno), .long (lI mlo), .long (lI mhi), .ref mo1, .ref mo2, .ref mo3, .ref mo4, .int (iI ms9), .int (iI mex), .int (bI mgd), .int (bI mon)])), (mta, .inl (E.1, 400, .inl (ia t))), (h4, .inr (8, [.int (bI false), .ref pn9, .ref qn9, .int (iI 0)])), (pn9, .inr (7, [.ref pa9, .int (iI pk2_5)])), (pa9, .inl (E.1, 640, .inl (ia pg2_3))), (qn9, .inr (7, [.ref qa9, .int (iI qk2_6)])), (qa9, .inl (E.1, 640, .inl (ia qg2_4)))] := hD
        have hw : (DGs t to 10 true p9 (0, 0, 0, false) = (q9, v9, cd9, ms9, hpd9)) ∧ (re9 = if 0 < cd9 then q9 else -1) ∧ (BigOK pg2_3 pk2_5 v9) ∧ (BigOK qg2_4 qk2_6 1) ∧ (0 ≤ ms9 ∧ ms9 ≤ cd9 ∧ cd9 ≤ q9 - p9) ∧ (p9 ≤ q9 ∧ q9 ≤ to) ∧ (0 ≤ v9 ∧ v9 < P2 (4 * cd9)) := hw
        obtain ⟨hDD, hre, hPd, hQd, hbd, hqd, hvd⟩ := hw
        refine W.cs (g := F0 m 218 ls [.int (iI re9)]) (cells' := 0) (slots' := 0) rfl rfl ?_
        refine lv_istore (lv' := [(8, .int (iI re9)), (7, .int (iI sl9)), (0, .ref h), (1, .int (iI fr)), (2, .int (iI to)), (3, .ref h4), (4, .int (bI ng9)), (5, .int (iI p9))]) hx hb d_Mo_readNumber_218 hl (by decide) rfl (fun ls hl => ?_)
        have hDh : DGs t to 10 true (sgP t to fr) z0 = (q9, v9, cd9, ms9, hpd9) := by rw [← hp9]; exact hDD
        have hNK := NOK_d (t := t) (a := fr) (b := to) hw6 (by omega) hnf hDh (by omega)
        have hrer : -1 ≤ re9 ∧ re9 ≤ 400 := by rw [hre]; split <;> omega
        refine lv_aload_n hx hb d_Mo_readNumber_220 rfl (lv_at hl 2 rfl) ?_
        refine wi_iconst (n := 0) hx hb d_Mo_readNumber_221 ?_
        refine wk_put B hP hD hS 0 rfl fl_Mo_183 fp_Mo_18 (v := .int (iI 0)) rfl rfl (Nat.le_of_ble_eq_true rfl) d_Mo_readNumber_222 (fun H locs hP hD hS => ?_)
        have hP : va_P D classes [(h, .inr (9, [.ref mlf, .ref mrt, .ref mpb, .ref mop, .int (iI mtz), .ref mta, .int (iI moz), .ref moa, .long (lI mrl), .long (lI mrh), .int (bI mno), .long (lI mlo), .long (lI mhi), .ref mo1, .ref mo2, .ref mo3, .ref mo4, .int (iI ms9), .int (iI 0), .int (bI mgd), .int (bI mon)])), (mta, .inl (E.1, 400, .inl (ia t))), (h4, .inr (8, [.int (bI false), .ref pn9, .ref qn9, .int (iI 0)])), (pn9, .inr (7, [.ref pa9, .int (iI pk2_5)])), (pa9, .inl (E.1, 640, .inl (ia pg2_3))), (qn9, .inr (7, [.ref qa9, .int (iI qk2_6)])), (qa9, .inl (E.1, 640, .inl (ia qg2_4)))] H := hP
        have hD : va_D A [(h, .inr (9, [.ref mlf, .ref mrt, .ref mpb, .ref mop, .int (iI mtz), .ref mta, .int (iI moz), .ref moa, .long (lI mrl), .long (lI mrh), .int (bI mno), .long (lI mlo), .long (lI mhi), .ref mo1, .ref mo2, .ref mo3, .ref mo4, .int (iI ms9), .int (iI 0), .int (bI mgd), .int (bI mon)])), (mta, .inl (E.1, 400, .inl (ia t))), (h4, .inr (8, [.int (bI false), .ref pn9, .ref qn9, .int (iI 0)])), (pn9, .inr (7, [.ref pa9, .int (iI pk2_5)])), (pa9, .inl (E.1, 640, .inl (ia pg2_3))), (qn9, .inr (7, [.ref qa9, .int (iI qk2_6)])), (qa9, .inl (E.1, 640, .inl (ia qg2_4)))] := hD
        refine lv_iload hx hb d_Mo_readNumber_225 (lv_at hl 0 rfl) ?_
        refine lv_iload_n hx hb d_Mo_readNumber_227 rfl (lv_at hl 4 rfl) ?_
        refine wi_icmp_eq (tgt := 261) hx hb d_Mo_readNumber_228 (by decide) (by omega) (by omega) (fun c_7 => ?_) (fun c_7 => ?_)
        · skip
          refine wi_iconst (n := 1) hx hb d_Mo_readNumber_261 ?_
          refine lv_goto (tgt := 266) hx hb d_Mo_readNumber_262 (by decide) ?_
          refine w_as1 ?_
          refine lv_istore (lv' := [(6, .int (bI true)), (8, .int (iI re9)), (7, .int (iI sl9)), (0, .ref h), (1, .int (iI fr)), (2, .int (iI to)), (3, .ref h4), (4, .int (bI ng9)), (5, .int (iI p9))]) hx hb d_Mo_readNumber_266 hl (by decide) rfl (fun ls hl => ?_)
          refine lv_iload hx hb d_Mo_readNumber_268 (lv_at hl 0 rfl) ?_
          refine wb_if_eq (tgt := 286) hx hb d_Mo_readNumber_270 (by decide) (fun c_8 => by exfalso; exact absurd c_8 (by decide)) (fun c_8 => ?_)
          have hc0 : 0 < cd9 := Decidable.byContradiction (fun z => by rw [if_neg z] at hre; omega)
          rw [if_pos hc0] at hre
          refine lv_aload_n hx hb d_Mo_readNumber_273 rfl (lv_at hl 6 rfl) ?_
          refine lv_aload_n hx hb d_Mo_readNumber_274 rfl (lv_at hl 3 rfl) ?_
          refine wk_get B hP 0 rfl fl_Mo_183 (v := .int (iI 0)) rfl d_Mo_readNumber_275 ?_
          refine lv_aload_n hx hb d_Mo_readNumber_278 rfl (lv_at hl 3 rfl) ?_
          refine wk_get B hP 0 rfl fl_Mo_172 (v := .int (iI ms9)) rfl d_Mo_readNumber_279 ?_
          refine wi_isub hx hb d_Mo_readNumber_282 ?_
          refine wk_callS (As := [.ref h4, .int (iI (0 - ms9))]) (rest := []) (wr := [(h, .inr (9, [.ref mlf, .ref mrt, .ref mpb, .ref mop, .int (iI mtz), .ref mta, .int (iI moz), .ref moa, .long (lI mrl), .long (lI mrh), .int (bI mno), .long (lI mlo), .long (lI mhi), .ref mo1, .ref mo2, .ref mo3, .ref mo4, .int (iI ms9), .int (iI 0), .int (bI mgd), .int (bI mon)])), (mta, .inl (E.1, 400, .inl (ia t)))]) B gTB cl_Mo_202 (c_Mo_tens l D E h4 pn9 pa9 qn9 qa9 pg2_3 qg2_4 pk2_5 qk2_6 0 false (0 - ms9) v9 1 (hPd) (hQd) (by omega) (q4950 (rn_fit hvd (by omega) (by omega))) (q4950 (rb_fit (by omega)))) ⟨⟨rfl, rfl⟩, Nat.le_of_ble_eq_true rfl, Nat.le_of_ble_eq_true rfl⟩ hP hD hS [2, 3, 4, 5, 6] [0, 1] rfl rfl (by decide) ⟨hl.2.1, hl.1⟩ rfl (Nat.le_of_ble_eq_true rfl) d_Mo_readNumber_283 ⟨Nat.le_of_ble_eq_true rfl, Nat.le_of_ble_eq_true rfl⟩ rfl (fun u H locs hw hP hD hS => ?_)
          obtain ⟨pg2_9, qg2_10, pk2_11, qk2_12⟩ := u
          have hP : va_P D classes [(h, .inr (9, [.ref mlf, .ref mrt, .ref mpb, .ref mop, .int (iI mtz), .ref mta, .int (iI moz), .ref moa, .long (lI mrl), .long (lI mrh), .int (bI mno), .long (lI mlo), .long (lI mhi), .ref mo1, .ref mo2, .ref mo3, .ref mo4, .int (iI ms9), .int (iI 0), .int (bI mgd), .int (bI mon)])), (mta, .inl (E.1, 400, .inl (ia t))), (h4, .inr (8, [.int (bI false), .ref pn9, .ref qn9, .int (iI 0)])), (pn9, .inr (7, [.ref pa9, .int (iI pk2_11)])), (pa9, .inl (E.1, 640, .inl (ia pg2_9))), (qn9, .inr (7, [.ref qa9, .int (iI qk2_12)])), (qa9, .inl (E.1, 640, .inl (ia qg2_10)))] H := hP
          have hD : va_D A [(h, .inr (9, [.ref mlf, .ref mrt, .ref mpb, .ref mop, .int (iI mtz), .ref mta, .int (iI moz), .ref moa, .long (lI mrl), .long (lI mrh), .int (bI mno), .long (lI mlo), .long (lI mhi), .ref mo1, .ref mo2, .ref mo3, .ref mo4, .int (iI ms9), .int (iI 0), .int (bI mgd), .int (bI mon)])), (mta, .inl (E.1, 400, .inl (ia t))), (h4, .inr (8, [.int (bI false), .ref pn9, .ref qn9, .int (iI 0)])), (pn9, .inr (7, [.ref pa9, .int (iI pk2_11)])), (pa9, .inl (E.1, 640, .inl (ia pg2_9))), (qn9, .inr (7, [.ref qa9, .int (iI qk2_12)])), (qa9, .inl (E.1, 640, .inl (ia qg2_10)))] := hD
          have hw : (BigOK pg2_9 pk2_11 (v9 * T10 (0 - ms9))) ∧ (BigOK qg2_10 qk2_12 (1 * T10 (-(0 - ms9)))) := hw
          obtain ⟨hPt, hQt⟩ := hw
          refine W.cs (g := F0 m 286 ls []) (cells' := 0) (slots' := 0) rfl rfl ?_
          exact K_286 true ms9 0 (v9 * T10 (0 - ms9)) (1 * T10 (-(0 - ms9))) pg2_9 qg2_10 pk2_11 qk2_12 0 false (⟨fun _ => hNK.mpr ⟨hc0, Or.inl (by omega)⟩, fun _ => rfl⟩) (fun _ => ⟨⟨hPt, hQt⟩, by have := T10_pos (-(0 - ms9)); omega, by rw [nqs_d (ex := 0) hw6 (by omega) hnf hDh (by omega) hc0 (Or.inl ⟨by omega, rfl⟩), ← hng]; exact NEQ_d, ⟨big310 hPt (rn_fit hvd (by omega) (by omega)), big310 hQt (rb_fit (by omega))⟩, by omega⟩) _ _ _ (lv_sub hl [3, 4, 5, 6, 7, 0] rfl) (hP.sub [0, 1, 2, 3, 4, 5, 6] rfl) (hD.sub [0, 1, 2, 3, 4, 5, 6] (by decide) rfl) hS
        · skip
          refine lv_iload hx hb d_Mo_readNumber_231 (lv_at hl 0 rfl) ?_
          refine wi_if_lt (tgt := 265) hx hb d_Mo_readNumber_233 (by decide) (by omega) (fun c_13 => ?_) (fun c_13 => ?_)
          · skip
            refine wi_iconst (n := 0) hx hb d_Mo_readNumber_265 ?_
            refine w_as0 ?_
            refine lv_istore (lv' := [(6, .int (bI false)), (8, .int (iI re9)), (7, .int (iI sl9)), (0, .ref h), (1, .int (iI fr)), (2, .int (iI to)), (3, .ref h4), (4, .int (bI ng9)), (5, .int (iI p9))]) hx hb d_Mo_readNumber_266 hl (by decide) rfl (fun ls hl => ?_)
            refine lv_iload hx hb d_Mo_readNumber_268 (lv_at hl 0 rfl) ?_
            refine wb_if_eq (tgt := 286) hx hb d_Mo_readNumber_270 (by decide) (fun c_14 => ?_) (fun c_14 => by exfalso; exact absurd c_14 (by decide))
            exact K_286 false ms9 0 0 0 pg2_3 qg2_4 pk2_5 qk2_6 0 false (⟨fun z => (by cases z), fun z => by exfalso; obtain ⟨y1, y2⟩ := hNK.mp z; rw [if_pos y1] at hre; rcases y2 with y2 | ⟨y2, y3, y4⟩ <;> first | omega | (rw [← hre] at y3; exact absurd y3 c_69) | (rw [← hre] at y4; rw [hxk.mpr y4] at c_71; cases c_71)⟩) (fun z => (by cases z)) _ _ _ (lv_sub hl [3, 4, 5, 6, 7, 0] rfl) (hP.sub [0, 1, 2, 3, 4, 5, 6] rfl) (hD.sub [0, 1, 2, 3, 4, 5, 6] (by decide) rfl) hS
          · skip
            have hc0 : 0 < cd9 := Decidable.byContradiction (fun z => by rw [if_neg z] at hre; omega)
            have hre2 := hre
            rw [if_pos hc0] at hre2
            have htr := hT re9 (by omega) (by omega)
            refine lv_aload_n hx hb d_Mo_readNumber_236 rfl (lv_at hl 2 rfl) ?_
            refine wk_get B hP 0 rfl fl_Mo_107 (v := .ref mta) rfl d_Mo_readNumber_237 ?_
            refine lv_iload hx hb d_Mo_readNumber_240 (lv_at hl 0 rfl) ?_
            refine wi_iald hx hb hK hP 1 0 rfl rfl (by omega) (by omega) d_Mo_readNumber_242 ?_
            refine wi_bipush hx hb d_Mo_readNumber_243 (by decide) ?_
            refine wi_icmp_ne (tgt := 265) hx hb d_Mo_readNumber_245 (by decide) (by omega) (by omega) (fun c_15 => ?_) (fun c_15 => ?_)
            · skip
              refine wi_iconst (n := 0) hx hb d_Mo_readNumber_265 ?_
              refine w_as0 ?_
              refine lv_istore (lv' := [(6, .int (bI false)), (8, .int (iI re9)), (7, .int (iI sl9)), (0, .ref h), (1, .int (iI fr)), (2, .int (iI to)), (3, .ref h4), (4, .int (bI ng9)), (5, .int (iI p9))]) hx hb d_Mo_readNumber_266 hl (by decide) rfl (fun ls hl => ?_)
              refine lv_iload hx hb d_Mo_readNumber_268 (lv_at hl 0 rfl) ?_
              refine wb_if_eq (tgt := 286) hx hb d_Mo_readNumber_270 (by decide) (fun c_16 => ?_) (fun c_16 => by exfalso; exact absurd c_16 (by decide))
              exact K_286 false ms9 0 0 0 pg2_3 qg2_4 pk2_5 qk2_6 0 false (⟨fun z => (by cases z), fun z => by exfalso; obtain ⟨y1, y2⟩ := hNK.mp z; rw [if_pos y1] at hre; rcases y2 with y2 | ⟨y2, y3, y4⟩ <;> first | omega | (rw [← hre] at y3; exact absurd y3 c_15) | (rw [← hre] at y4; rw [hxk.mpr y4] at c_71; cases c_71)⟩) (fun z => (by cases z)) _ _ _ (lv_sub hl [3, 4, 5, 6, 7, 0] rfl) (hP.sub [0, 1, 2, 3, 4, 5, 6] rfl) (hD.sub [0, 1, 2, 3, 4, 5, 6] (by decide) rfl) hS
            · skip
              refine lv_aload_n hx hb d_Mo_readNumber_248 rfl (lv_at hl 2 rfl) ?_
              refine lv_iload hx hb d_Mo_readNumber_249 (lv_at hl 0 rfl) ?_
              refine wi_iconst (n := 1) hx hb d_Mo_readNumber_251 ?_
              refine wi_iadd hx hb d_Mo_readNumber_252 ?_
              refine lv_iload_n hx hb d_Mo_readNumber_253 rfl (lv_at hl 4 rfl) ?_
              refine wi_iconst (n := 3) hx hb d_Mo_readNumber_254 ?_
              refine wk_callV (As := [.int (iI (re9 + 1)), .int (iI to), .int (iI 3)]) (rest := []) (wr := [(h4, .inr (8, [.int (bI false), .ref pn9, .ref qn9, .int (iI 0)])), (pn9, .inr (7, [.ref pa9, .int (iI pk2_5)])), (pa9, .inl (E.1, 640, .inl (ia pg2_3))), (qn9, .inr (7, [.ref qa9, .int (iI qk2_6)])), (qa9, .inl (E.1, 640, .inl (ia qg2_4)))]) B gTB cl_Mo_194 (c_Mo_readExponent l D E h mlf mrt mpb mop mtz mta moz moa mrl mrh mno mlo mhi mo1 mo2 mo3 mo4 ms9 0 mgd mon t (re9 + 1) to 3 (by omega) (hT) (by omega)) ⟨⟨rfl, rfl⟩, Nat.le_of_ble_eq_true rfl, Nat.le_of_ble_eq_true rfl⟩ hP hD hS [0, 1] [2, 3, 4, 5, 6] rfl rfl (by decide) 0 rfl rfl rfl ⟨hl.2.1, hl.1⟩ rfl (Nat.le_of_ble_eq_true rfl) d_Mo_readNumber_255 ⟨Nat.le_of_ble_eq_true rfl, Nat.le_of_ble_eq_true rfl⟩ rfl (fun u H locs hw hP hD hS => ?_)
              obtain ⟨xr9, exd⟩ := u
              have hP : va_P D classes [(h4, .inr (8, [.int (bI false), .ref pn9, .ref qn9, .int (iI 0)])), (pn9, .inr (7, [.ref pa9, .int (iI pk2_5)])), (pa9, .inl (E.1, 640, .inl (ia pg2_3))), (qn9, .inr (7, [.ref qa9, .int (iI qk2_6)])), (qa9, .inl (E.1, 640, .inl (ia qg2_4))), (h, .inr (9, [.ref mlf, .ref mrt, .ref mpb, .ref mop, .int (iI mtz), .ref mta, .int (iI moz), .ref moa, .long (lI mrl), .long (lI mrh), .int (bI mno), .long (lI mlo), .long (lI mhi), .ref mo1, .ref mo2, .ref mo3, .ref mo4, .int (iI ms9), .int (iI exd), .int (bI mgd), .int (bI mon)])), (mta, .inl (E.1, 400, .inl (ia t)))] H := hP
              have hD : va_D A [(h4, .inr (8, [.int (bI false), .ref pn9, .ref qn9, .int (iI 0)])), (pn9, .inr (7, [.ref pa9, .int (iI pk2_5)])), (pa9, .inl (E.1, 640, .inl (ia pg2_3))), (qn9, .inr (7, [.ref qa9, .int (iI qk2_6)])), (qa9, .inl (E.1, 640, .inl (ia qg2_4))), (h, .inr (9, [.ref mlf, .ref mrt, .ref mpb, .ref mop, .int (iI mtz), .ref mta, .int (iI moz), .ref moa, .long (lI mrl), .long (lI mrh), .int (bI mno), .long (lI mlo), .long (lI mhi), .ref mo1, .ref mo2, .ref mo3, .ref mo4, .int (iI ms9), .int (iI exd), .int (bI mgd), .int (bI mon)])), (mta, .inl (E.1, 400, .inl (ia t)))] := hD
              have hw : (xr9 = true ↔ XEok t to (re9 + 1) (Int.toNat 3)) ∧ (xr9 = true → exd = if sgN t to (re9 + 1) then -(XE t to (re9 + 1) (Int.toNat 3)).2.1 else (XE t to (re9 + 1) (Int.toNat 3)).2.1) ∧ (-10000000 < exd ∧ exd < 10000000) := hw
              obtain ⟨hxk, hxx, hxb⟩ := hw
              refine W.cs (g := F0 m 258 ls [.int (bI xr9)]) (cells' := 0) (slots' := 0) rfl rfl ?_
              refine wb_if_eq (tgt := 265) hx hb d_Mo_readNumber_258 (by decide) (fun c_17 => ?_) (fun c_17 => ?_)
              · skip
                refine wi_iconst (n := 0) hx hb d_Mo_readNumber_265 ?_
                refine w_as0 ?_
                refine lv_istore (lv' := [(6, .int (bI false)), (8, .int (iI re9)), (7, .int (iI sl9)), (0, .ref h), (1, .int (iI fr)), (2, .int (iI to)), (3, .ref h4), (4, .int (bI ng9)), (5, .int (iI p9))]) hx hb d_Mo_readNumber_266 hl (by decide) rfl (fun ls hl => ?_)
                refine lv_iload hx hb d_Mo_readNumber_268 (lv_at hl 0 rfl) ?_
                refine wb_if_eq (tgt := 286) hx hb d_Mo_readNumber_270 (by decide) (fun c_18 => ?_) (fun c_18 => by exfalso; exact absurd c_18 (by decide))
                exact K_286 false ms9 exd 0 0 pg2_3 qg2_4 pk2_5 qk2_6 0 false (⟨fun z => (by cases z), fun z => by exfalso; obtain ⟨y1, y2⟩ := hNK.mp z; rw [if_pos y1] at hre; rcases y2 with y2 | ⟨y2, y3, y4⟩ <;> first | omega | (rw [← hre] at y3; exact absurd y3 c_15) | (rw [← hre] at y4; rw [hxk.mpr y4] at c_17; cases c_17)⟩) (fun z => (by cases z)) _ _ _ (lv_sub hl [3, 4, 5, 6, 7, 0] rfl) (hP.sub [5, 6, 0, 1, 2, 3, 4] rfl) (hD.sub [5, 6, 0, 1, 2, 3, 4] (by decide) rfl) hS
              · skip
                refine wi_iconst (n := 1) hx hb d_Mo_readNumber_261 ?_
                refine lv_goto (tgt := 266) hx hb d_Mo_readNumber_262 (by decide) ?_
                refine w_as1 ?_
                refine lv_istore (lv' := [(6, .int (bI true)), (8, .int (iI re9)), (7, .int (iI sl9)), (0, .ref h), (1, .int (iI fr)), (2, .int (iI to)), (3, .ref h4), (4, .int (bI ng9)), (5, .int (iI p9))]) hx hb d_Mo_readNumber_266 hl (by decide) rfl (fun ls hl => ?_)
                refine lv_iload hx hb d_Mo_readNumber_268 (lv_at hl 0 rfl) ?_
                refine wb_if_eq (tgt := 286) hx hb d_Mo_readNumber_270 (by decide) (fun c_19 => by exfalso; exact absurd c_19 (by decide)) (fun c_19 => ?_)
                have hc0 : 0 < cd9 := Decidable.byContradiction (fun z => by rw [if_neg z] at hre; omega)
                rw [if_pos hc0] at hre
                have hx9 : 0 ≤ (XE t to (re9 + 1) (Int.toNat 3)).2.1 ∧ (XE t to (re9 + 1) (Int.toNat 3)).2.1 < 1000 := XE_3
                have hxe := hxx c_17
                have hxr : -1000 < exd ∧ exd < 1000 := by rw [hxe]; split <;> omega
                refine lv_aload_n hx hb d_Mo_readNumber_273 rfl (lv_at hl 6 rfl) ?_
                refine lv_aload_n hx hb d_Mo_readNumber_274 rfl (lv_at hl 3 rfl) ?_
                refine wk_get B hP 5 rfl fl_Mo_183 (v := .int (iI exd)) rfl d_Mo_readNumber_275 ?_
                refine lv_aload_n hx hb d_Mo_readNumber_278 rfl (lv_at hl 3 rfl) ?_
                refine wk_get B hP 5 rfl fl_Mo_172 (v := .int (iI ms9)) rfl d_Mo_readNumber_279 ?_
                refine wi_isub hx hb d_Mo_readNumber_282 ?_
                refine wk_callS (As := [.ref h4, .int (iI (exd - ms9))]) (rest := []) (wr := [(h, .inr (9, [.ref mlf, .ref mrt, .ref mpb, .ref mop, .int (iI mtz), .ref mta, .int (iI moz), .ref moa, .long (lI mrl), .long (lI mrh), .int (bI mno), .long (lI mlo), .long (lI mhi), .ref mo1, .ref mo2, .ref mo3, .ref mo4, .int (iI ms9), .int (iI exd), .int (bI mgd), .int (bI mon)])), (mta, .inl (E.1, 400, .inl (ia t)))]) B gTB cl_Mo_202 (c_Mo_tens l D E h4 pn9 pa9 qn9 qa9 pg2_3 qg2_4 pk2_5 qk2_6 0 false (exd - ms9) v9 1 (hPd) (hQd) (by omega) (q4950 (rn_fit hvd (by omega) (by omega))) (q4950 (rb_fit (by omega)))) ⟨⟨rfl, rfl⟩, Nat.le_of_ble_eq_true rfl, Nat.le_of_ble_eq_true rfl⟩ hP hD hS [0, 1, 2, 3, 4] [5, 6] rfl rfl (by decide) ⟨hl.2.1, hl.1⟩ rfl (Nat.le_of_ble_eq_true rfl) d_Mo_readNumber_283 ⟨Nat.le_of_ble_eq_true rfl, Nat.le_of_ble_eq_true rfl⟩ rfl (fun u H locs hw hP hD hS => ?_)
                obtain ⟨pg2_20, qg2_21, pk2_22, qk2_23⟩ := u
                have hP : va_P D classes [(h, .inr (9, [.ref mlf, .ref mrt, .ref mpb, .ref mop, .int (iI mtz), .ref mta, .int (iI moz), .ref moa, .long (lI mrl), .long (lI mrh), .int (bI mno), .long (lI mlo), .long (lI mhi), .ref mo1, .ref mo2, .ref mo3, .ref mo4, .int (iI ms9), .int (iI exd), .int (bI mgd), .int (bI mon)])), (mta, .inl (E.1, 400, .inl (ia t))), (h4, .inr (8, [.int (bI false), .ref pn9, .ref qn9, .int (iI 0)])), (pn9, .inr (7, [.ref pa9, .int (iI pk2_22)])), (pa9, .inl (E.1, 640, .inl (ia pg2_20))), (qn9, .inr (7, [.ref qa9, .int (iI qk2_23)])), (qa9, .inl (E.1, 640, .inl (ia qg2_21)))] H := hP
                have hD : va_D A [(h, .inr (9, [.ref mlf, .ref mrt, .ref mpb, .ref mop, .int (iI mtz), .ref mta, .int (iI moz), .ref moa, .long (lI mrl), .long (lI mrh), .int (bI mno), .long (lI mlo), .long (lI mhi), .ref mo1, .ref mo2, .ref mo3, .ref mo4, .int (iI ms9), .int (iI exd), .int (bI mgd), .int (bI mon)])), (mta, .inl (E.1, 400, .inl (ia t))), (h4, .inr (8, [.int (bI false), .ref pn9, .ref qn9, .int (iI 0)])), (pn9, .inr (7, [.ref pa9, .int (iI pk2_22)])), (pa9, .inl (E.1, 640, .inl (ia pg2_20))), (qn9, .inr (7, [.ref qa9, .int (iI qk2_23)])), (qa9, .inl (E.1, 640, .inl (ia qg2_21)))] := hD
                have hw : (BigOK pg2_20 pk2_22 (v9 * T10 (exd - ms9))) ∧ (BigOK qg2_21 qk2_23 (1 * T10 (-(exd - ms9)))) := hw
                obtain ⟨hPt, hQt⟩ := hw
                refine W.cs (g := F0 m 286 ls []) (cells' := 0) (slots' := 0) rfl rfl ?_
                exact K_286 true ms9 exd (v9 * T10 (exd - ms9)) (1 * T10 (-(exd - ms9))) pg2_20 qg2_21 pk2_22 qk2_23 0 false (⟨fun _ => hNK.mpr ⟨hc0, Or.inr ⟨by omega, by rw [← hre]; exact c_15, by rw [← hre]; exact hxk.mp c_17⟩⟩, fun _ => rfl⟩) (fun _ => ⟨⟨hPt, hQt⟩, by have := T10_pos (-(exd - ms9)); omega, by rw [nqs_d (ex := exd) hw6 (by omega) hnf hDh (by omega) hc0 (Or.inr ⟨by omega, by rw [← hre]; exact c_15, by rw [← hre]; exact hxx c_17⟩), ← hng]; exact NEQ_d, ⟨big310 hPt (rn_fit hvd (by omega) (by omega)), big310 hQt (rb_fit (by omega))⟩, by omega⟩) _ _ _ (lv_sub hl [3, 4, 5, 6, 7, 0] rfl) (hP.sub [0, 1, 2, 3, 4, 5, 6] rfl) (hD.sub [0, 1, 2, 3, 4, 5, 6] (by decide) rfl) hS
      · skip
        have hfb9 := hfb.resolve_left (fun z => by omega)
        refine lv_aload_n hx hb d_Mo_readNumber_193 rfl (lv_at hl 1 rfl) ?_
        refine lv_iload hx hb d_Mo_readNumber_194 (lv_at hl 6 rfl) ?_
        refine lv_iload hx hb d_Mo_readNumber_196 (lv_at hl 0 rfl) ?_
        refine lv_iload_n hx hb d_Mo_readNumber_198 rfl (lv_at hl 3 rfl) ?_
        refine lv_aload_n hx hb d_Mo_readNumber_199 rfl (lv_at hl 4 rfl) ?_
        refine wk_callV (As := [.int (iI p9), .int (iI sl9), .int (iI to), .ref h4]) (rest := []) (wr := []) B gTB cl_Mo_198 (c_Mo_readRatio l D E h mlf mrt mpb mop mtz mta moz moa mrl mrh mno mlo mhi mo1 mo2 mo3 mo4 mms mex mgd mon t h4 pn9 pa9 qn9 qa9 pg9 qg9 pk9 qk9 ee9 be9 p9 sl9 to (by omega) (hT) (hfb9.2.1)) ⟨⟨rfl, rfl⟩, Nat.le_of_ble_eq_true rfl, Nat.le_of_ble_eq_true rfl⟩ hP hD hS [5, 6, 0, 1, 2, 3, 4] [] rfl rfl (by decide) 5 rfl rfl rfl ⟨hl.2.1, hl.1⟩ rfl (Nat.le_of_ble_eq_true rfl) d_Mo_readNumber_200 ⟨Nat.le_of_ble_eq_true rfl, Nat.le_of_ble_eq_true rfl⟩ rfl (fun u H locs hw hP hD hS => ?_)
        obtain ⟨rr9, v9, w9, pg2_24, qg2_25, pk2_26, qk2_27⟩ := u
        have hP : va_P D classes [(h, .inr (9, [.ref mlf, .ref mrt, .ref mpb, .ref mop, .int (iI mtz), .ref mta, .int (iI moz), .ref moa, .long (lI mrl), .long (lI mrh), .int (bI mno), .long (lI mlo), .long (lI mhi), .ref mo1, .ref mo2, .ref mo3, .ref mo4, .int (iI mms), .int (iI mex), .int (bI mgd), .int (bI mon)])), (mta, .inl (E.1, 400, .inl (ia t))), (h4, .inr (8, [.int (bI false), .ref pn9, .ref qn9, .int (iI 0)])), (pn9, .inr (7, [.ref pa9, .int (iI pk2_26)])), (pa9, .inl (E.1, 640, .inl (ia pg2_24))), (qn9, .inr (7, [.ref qa9, .int (iI qk2_27)])), (qa9, .inl (E.1, 640, .inl (ia qg2_25)))] H := hP
        have hD : va_D A [(h, .inr (9, [.ref mlf, .ref mrt, .ref mpb, .ref mop, .int (iI mtz), .ref mta, .int (iI moz), .ref moa, .long (lI mrl), .long (lI mrh), .int (bI mno), .long (lI mlo), .long (lI mhi), .ref mo1, .ref mo2, .ref mo3, .ref mo4, .int (iI mms), .int (iI mex), .int (bI mgd), .int (bI mon)])), (mta, .inl (E.1, 400, .inl (ia t))), (h4, .inr (8, [.int (bI false), .ref pn9, .ref qn9, .int (iI 0)])), (pn9, .inr (7, [.ref pa9, .int (iI pk2_26)])), (pa9, .inl (E.1, 640, .inl (ia pg2_24))), (qn9, .inr (7, [.ref qa9, .int (iI qk2_27)])), (qa9, .inl (E.1, 640, .inl (ia qg2_25)))] := hD
        have hw : (rr9 = true ↔ (RTOK t p9 sl9 to ∧ 0 < (DGs t to 10 false (sl9 + 1) (0, 0, 0, false)).2.1)) ∧ (rr9 = true → (DGs t to 10 true p9 (0, 0, 0, false)).2.1 = v9 ∧ (DGs t to 10 false (sl9 + 1) (0, 0, 0, false)).2.1 = w9) ∧ (BigOK pg2_24 pk2_26 v9) ∧ (BigOK qg2_25 qk2_27 w9) ∧ (0 ≤ v9 ∧ v9 < P2 4950 ∧ 0 ≤ w9 ∧ w9 < P2 4950) := hw
        obtain ⟨hrk, hro, hPd, hQd, hvd⟩ := hw
        refine W.cs (g := F0 m 203 ls [.int (bI rr9)]) (cells' := 0) (slots' := 0) rfl rfl ?_
        refine lv_istore (lv' := [(6, .int (bI rr9)), (7, .int (iI sl9)), (0, .ref h), (1, .int (iI fr)), (2, .int (iI to)), (3, .ref h4), (4, .int (bI ng9)), (5, .int (iI p9))]) hx hb d_Mo_readNumber_203 hl (by decide) rfl (fun ls hl => ?_)
        refine lv_goto (tgt := 286) hx hb d_Mo_readNumber_205 (by decide) ?_
        have hNR := NOK_r (t := t) (a := fr) (b := to) (sl := sl9) hw6 (by omega) hfb9.2.1 (by rw [← hp9]; exact hfb9.2.2)
        rw [← hp9] at hNR
        exact K_286 rr9 mms mex v9 w9 pg2_24 qg2_25 pk2_26 qk2_27 0 false (hrk.trans hNR.symm) (fun z => ⟨⟨hPd, hQd⟩, by have y := (hrk.mp z).2; rw [(hro z).2] at y; exact y, by rw [nqs_r (v := v9) (w := w9) hw6 (by omega) hfb9.2.1 (by rw [← hp9]; exact (hrk.mp z).1) (by rw [← hp9]; exact (hro z).1) (hro z).2, ← hng]; exact NEQ_id, ⟨big310 hPd hvd.2.1, big310 hQd hvd.2.2.2⟩, by omega⟩) _ _ _ (lv_sub hl [2, 3, 4, 5, 6, 0] rfl) (hP.sub [0, 1, 2, 3, 4, 5, 6] rfl) (hD.sub [0, 1, 2, 3, 4, 5, 6] (by decide) rfl) hS
    · skip
      have htp := hT p9 (by omega) (by omega)
      have htq := hT (p9 + 1) (by omega) (by omega)
      refine lv_aload_n hx hb d_Mo_readNumber_78 rfl (lv_at hl 1 rfl) ?_
      refine wk_get B hP 5 rfl fl_Mo_107 (v := .ref mta) rfl d_Mo_readNumber_79 ?_
      refine lv_iload hx hb d_Mo_readNumber_82 (lv_at hl 6 rfl) ?_
      refine wi_iald hx hb hK hP 6 0 rfl rfl (by omega) (by omega) d_Mo_readNumber_84 ?_
      refine wi_bipush hx hb d_Mo_readNumber_85 (by decide) ?_
      refine wi_icmp_ne (tgt := 188) hx hb d_Mo_readNumber_87 (by decide) (by omega) (by omega) (fun c_28 => ?_) (fun c_28 => ?_)
      · skip
        have hw6 : wdB t to (sgP t to fr) 6 = false := by
          rw [← hp9]
          cases q9 : wdB t to p9 6 with
          | true => exfalso; have q8 := (sw_hex (by omega)).mp q9; omega
          | false => rfl
        refine lv_iload hx hb d_Mo_readNumber_188 (lv_at hl 0 rfl) ?_
        refine wi_if_lt (tgt := 208) hx hb d_Mo_readNumber_190 (by decide) (by omega) (fun c_29 => ?_) (fun c_29 => ?_)
        · skip
          have hnf : ∀ j : Int, sgP t to fr ≤ j → j < to → t j ≠ 47 := by
            rcases hfb with z | z
            · rw [← hp9]; exact z.2
            · omega
          refine lv_aload_n hx hb d_Mo_readNumber_208 rfl (lv_at hl 1 rfl) ?_
          refine lv_iload hx hb d_Mo_readNumber_209 (lv_at hl 6 rfl) ?_
          refine lv_iload_n hx hb d_Mo_readNumber_211 rfl (lv_at hl 3 rfl) ?_
          refine wi_bipush hx hb d_Mo_readNumber_212 (by decide) ?_
          refine lv_aload_n hx hb d_Mo_readNumber_214 rfl (lv_at hl 4 rfl) ?_
          refine wk_callV (As := [.int (iI p9), .int (iI to), .int (iI 10), .ref h4]) (rest := []) (wr := []) B gTB cl_Mo_190 (c_Mo_readDigits l D E h mlf mrt mpb mop mtz mta moz moa mrl mrh mno mlo mhi mo1 mo2 mo3 mo4 mms mex mgd mon t h4 pn9 pa9 qn9 qa9 pg9 qg9 pk9 qk9 ee9 be9 p9 to 10 (by omega) (hT) (Or.inl rfl)) ⟨⟨rfl, rfl⟩, Nat.le_of_ble_eq_true rfl, Nat.le_of_ble_eq_true rfl⟩ hP hD hS [5, 6, 0, 1, 2, 3, 4] [] rfl rfl (by decide) 5 rfl rfl rfl ⟨hl.2.1, hl.1⟩ rfl (Nat.le_of_ble_eq_true rfl) d_Mo_readNumber_215 ⟨Nat.le_of_ble_eq_true rfl, Nat.le_of_ble_eq_true rfl⟩ rfl (fun u H locs hw hP hD hS => ?_)
          obtain ⟨re9, ms9, q9, v9, cd9, hpd9, pg2_30, qg2_31, pk2_32, qk2_33⟩ := u
          have hP : va_P D classes [(h, .inr (9, [.ref mlf, .ref mrt, .ref mpb, .ref mop, .int (iI mtz), .ref mta, .int (iI moz), .ref moa, .long (lI mrl), .long (lI mrh), .int (bI mno), .long (lI mlo), .long (lI mhi), .ref mo1, .ref mo2, .ref mo3, .ref mo4, .int (iI ms9), .int (iI mex), .int (bI mgd), .int (bI mon)])), (mta, .inl (E.1, 400, .inl (ia t))), (h4, .inr (8, [.int (bI false), .ref pn9, .ref qn9, .int (iI 0)])), (pn9, .inr (7, [.ref pa9, .int (iI pk2_32)])), (pa9, .inl (E.1, 640, .inl (ia pg2_30))), (qn9, .inr (7, [.ref qa9, .int (iI qk2_33)])), (qa9, .inl (E.1, 640, .inl (ia qg2_31)))] H := hP
          have hD : va_D A [(h, .inr (9, [.ref mlf, .ref mrt, .ref mpb, .ref mop, .int (iI mtz), .ref mta, .int (iI moz), .ref moa, .long (lI mrl), .long (lI mrh), .int (bI mno), .long (lI mlo), .long (lI mhi), .ref mo1, .ref mo2, .ref mo3, .ref mo4, .int (iI ms9), .int (iI mex), .int (bI mgd), .int (bI mon)])), (mta, .inl (E.1, 400, .inl (ia t))), (h4, .inr (8, [.int (bI false), .ref pn9, .ref qn9, .int (iI 0)])), (pn9, .inr (7, [.ref pa9, .int (iI pk2_32)])), (pa9, .inl (E.1, 640, .inl (ia pg2_30))), (qn9, .inr (7, [.ref qa9, .int (iI qk2_33)])), (qa9, .inl (E.1, 640, .inl (ia qg2_31)))] := hD
          have hw : (DGs t to 10 true p9 (0, 0, 0, false) = (q9, v9, cd9, ms9, hpd9)) ∧ (re9 = if 0 < cd9 then q9 else -1) ∧ (BigOK pg2_30 pk2_32 v9) ∧ (BigOK qg2_31 qk2_33 1) ∧ (0 ≤ ms9 ∧ ms9 ≤ cd9 ∧ cd9 ≤ q9 - p9) ∧ (p9 ≤ q9 ∧ q9 ≤ to) ∧ (0 ≤ v9 ∧ v9 < P2 (4 * cd9)) := hw
          obtain ⟨hDD, hre, hPd, hQd, hbd, hqd, hvd⟩ := hw
          refine W.cs (g := F0 m 218 ls [.int (iI re9)]) (cells' := 0) (slots' := 0) rfl rfl ?_
          refine lv_istore (lv' := [(8, .int (iI re9)), (7, .int (iI sl9)), (0, .ref h), (1, .int (iI fr)), (2, .int (iI to)), (3, .ref h4), (4, .int (bI ng9)), (5, .int (iI p9))]) hx hb d_Mo_readNumber_218 hl (by decide) rfl (fun ls hl => ?_)
          have hDh : DGs t to 10 true (sgP t to fr) z0 = (q9, v9, cd9, ms9, hpd9) := by rw [← hp9]; exact hDD
          have hNK := NOK_d (t := t) (a := fr) (b := to) hw6 (by omega) hnf hDh (by omega)
          have hrer : -1 ≤ re9 ∧ re9 ≤ 400 := by rw [hre]; split <;> omega
          refine lv_aload_n hx hb d_Mo_readNumber_220 rfl (lv_at hl 2 rfl) ?_
          refine wi_iconst (n := 0) hx hb d_Mo_readNumber_221 ?_
          refine wk_put B hP hD hS 0 rfl fl_Mo_183 fp_Mo_18 (v := .int (iI 0)) rfl rfl (Nat.le_of_ble_eq_true rfl) d_Mo_readNumber_222 (fun H locs hP hD hS => ?_)
          have hP : va_P D classes [(h, .inr (9, [.ref mlf, .ref mrt, .ref mpb, .ref mop, .int (iI mtz), .ref mta, .int (iI moz), .ref moa, .long (lI mrl), .long (lI mrh), .int (bI mno), .long (lI mlo), .long (lI mhi), .ref mo1, .ref mo2, .ref mo3, .ref mo4, .int (iI ms9), .int (iI 0), .int (bI mgd), .int (bI mon)])), (mta, .inl (E.1, 400, .inl (ia t))), (h4, .inr (8, [.int (bI false), .ref pn9, .ref qn9, .int (iI 0)])), (pn9, .inr (7, [.ref pa9, .int (iI pk2_32)])), (pa9, .inl (E.1, 640, .inl (ia pg2_30))), (qn9, .inr (7, [.ref qa9, .int (iI qk2_33)])), (qa9, .inl (E.1, 640, .inl (ia qg2_31)))] H := hP
          have hD : va_D A [(h, .inr (9, [.ref mlf, .ref mrt, .ref mpb, .ref mop, .int (iI mtz), .ref mta, .int (iI moz), .ref moa, .long (lI mrl), .long (lI mrh), .int (bI mno), .long (lI mlo), .long (lI mhi), .ref mo1, .ref mo2, .ref mo3, .ref mo4, .int (iI ms9), .int (iI 0), .int (bI mgd), .int (bI mon)])), (mta, .inl (E.1, 400, .inl (ia t))), (h4, .inr (8, [.int (bI false), .ref pn9, .ref qn9, .int (iI 0)])), (pn9, .inr (7, [.ref pa9, .int (iI pk2_32)])), (pa9, .inl (E.1, 640, .inl (ia pg2_30))), (qn9, .inr (7, [.ref qa9, .int (iI qk2_33)])), (qa9, .inl (E.1, 640, .inl (ia qg2_31)))] := hD
          refine lv_iload hx hb d_Mo_readNumber_225 (lv_at hl 0 rfl) ?_
          refine lv_iload_n hx hb d_Mo_readNumber_227 rfl (lv_at hl 4 rfl) ?_
          refine wi_icmp_eq (tgt := 261) hx hb d_Mo_readNumber_228 (by decide) (by omega) (by omega) (fun c_34 => ?_) (fun c_34 => ?_)
          · skip
            refine wi_iconst (n := 1) hx hb d_Mo_readNumber_261 ?_
            refine lv_goto (tgt := 266) hx hb d_Mo_readNumber_262 (by decide) ?_
            refine w_as1 ?_
            refine lv_istore (lv' := [(6, .int (bI true)), (8, .int (iI re9)), (7, .int (iI sl9)), (0, .ref h), (1, .int (iI fr)), (2, .int (iI to)), (3, .ref h4), (4, .int (bI ng9)), (5, .int (iI p9))]) hx hb d_Mo_readNumber_266 hl (by decide) rfl (fun ls hl => ?_)
            refine lv_iload hx hb d_Mo_readNumber_268 (lv_at hl 0 rfl) ?_
            refine wb_if_eq (tgt := 286) hx hb d_Mo_readNumber_270 (by decide) (fun c_35 => by exfalso; exact absurd c_35 (by decide)) (fun c_35 => ?_)
            have hc0 : 0 < cd9 := Decidable.byContradiction (fun z => by rw [if_neg z] at hre; omega)
            rw [if_pos hc0] at hre
            refine lv_aload_n hx hb d_Mo_readNumber_273 rfl (lv_at hl 6 rfl) ?_
            refine lv_aload_n hx hb d_Mo_readNumber_274 rfl (lv_at hl 3 rfl) ?_
            refine wk_get B hP 0 rfl fl_Mo_183 (v := .int (iI 0)) rfl d_Mo_readNumber_275 ?_
            refine lv_aload_n hx hb d_Mo_readNumber_278 rfl (lv_at hl 3 rfl) ?_
            refine wk_get B hP 0 rfl fl_Mo_172 (v := .int (iI ms9)) rfl d_Mo_readNumber_279 ?_
            refine wi_isub hx hb d_Mo_readNumber_282 ?_
            refine wk_callS (As := [.ref h4, .int (iI (0 - ms9))]) (rest := []) (wr := [(h, .inr (9, [.ref mlf, .ref mrt, .ref mpb, .ref mop, .int (iI mtz), .ref mta, .int (iI moz), .ref moa, .long (lI mrl), .long (lI mrh), .int (bI mno), .long (lI mlo), .long (lI mhi), .ref mo1, .ref mo2, .ref mo3, .ref mo4, .int (iI ms9), .int (iI 0), .int (bI mgd), .int (bI mon)])), (mta, .inl (E.1, 400, .inl (ia t)))]) B gTB cl_Mo_202 (c_Mo_tens l D E h4 pn9 pa9 qn9 qa9 pg2_30 qg2_31 pk2_32 qk2_33 0 false (0 - ms9) v9 1 (hPd) (hQd) (by omega) (q4950 (rn_fit hvd (by omega) (by omega))) (q4950 (rb_fit (by omega)))) ⟨⟨rfl, rfl⟩, Nat.le_of_ble_eq_true rfl, Nat.le_of_ble_eq_true rfl⟩ hP hD hS [2, 3, 4, 5, 6] [0, 1] rfl rfl (by decide) ⟨hl.2.1, hl.1⟩ rfl (Nat.le_of_ble_eq_true rfl) d_Mo_readNumber_283 ⟨Nat.le_of_ble_eq_true rfl, Nat.le_of_ble_eq_true rfl⟩ rfl (fun u H locs hw hP hD hS => ?_)
            obtain ⟨pg2_36, qg2_37, pk2_38, qk2_39⟩ := u
            have hP : va_P D classes [(h, .inr (9, [.ref mlf, .ref mrt, .ref mpb, .ref mop, .int (iI mtz), .ref mta, .int (iI moz), .ref moa, .long (lI mrl), .long (lI mrh), .int (bI mno), .long (lI mlo), .long (lI mhi), .ref mo1, .ref mo2, .ref mo3, .ref mo4, .int (iI ms9), .int (iI 0), .int (bI mgd), .int (bI mon)])), (mta, .inl (E.1, 400, .inl (ia t))), (h4, .inr (8, [.int (bI false), .ref pn9, .ref qn9, .int (iI 0)])), (pn9, .inr (7, [.ref pa9, .int (iI pk2_38)])), (pa9, .inl (E.1, 640, .inl (ia pg2_36))), (qn9, .inr (7, [.ref qa9, .int (iI qk2_39)])), (qa9, .inl (E.1, 640, .inl (ia qg2_37)))] H := hP
            have hD : va_D A [(h, .inr (9, [.ref mlf, .ref mrt, .ref mpb, .ref mop, .int (iI mtz), .ref mta, .int (iI moz), .ref moa, .long (lI mrl), .long (lI mrh), .int (bI mno), .long (lI mlo), .long (lI mhi), .ref mo1, .ref mo2, .ref mo3, .ref mo4, .int (iI ms9), .int (iI 0), .int (bI mgd), .int (bI mon)])), (mta, .inl (E.1, 400, .inl (ia t))), (h4, .inr (8, [.int (bI false), .ref pn9, .ref qn9, .int (iI 0)])), (pn9, .inr (7, [.ref pa9, .int (iI pk2_38)])), (pa9, .inl (E.1, 640, .inl (ia pg2_36))), (qn9, .inr (7, [.ref qa9, .int (iI qk2_39)])), (qa9, .inl (E.1, 640, .inl (ia qg2_37)))] := hD
            have hw : (BigOK pg2_36 pk2_38 (v9 * T10 (0 - ms9))) ∧ (BigOK qg2_37 qk2_39 (1 * T10 (-(0 - ms9)))) := hw
            obtain ⟨hPt, hQt⟩ := hw
            refine W.cs (g := F0 m 286 ls []) (cells' := 0) (slots' := 0) rfl rfl ?_
            exact K_286 true ms9 0 (v9 * T10 (0 - ms9)) (1 * T10 (-(0 - ms9))) pg2_36 qg2_37 pk2_38 qk2_39 0 false (⟨fun _ => hNK.mpr ⟨hc0, Or.inl (by omega)⟩, fun _ => rfl⟩) (fun _ => ⟨⟨hPt, hQt⟩, by have := T10_pos (-(0 - ms9)); omega, by rw [nqs_d (ex := 0) hw6 (by omega) hnf hDh (by omega) hc0 (Or.inl ⟨by omega, rfl⟩), ← hng]; exact NEQ_d, ⟨big310 hPt (rn_fit hvd (by omega) (by omega)), big310 hQt (rb_fit (by omega))⟩, by omega⟩) _ _ _ (lv_sub hl [3, 4, 5, 6, 7, 0] rfl) (hP.sub [0, 1, 2, 3, 4, 5, 6] rfl) (hD.sub [0, 1, 2, 3, 4, 5, 6] (by decide) rfl) hS
          · skip
            refine lv_iload hx hb d_Mo_readNumber_231 (lv_at hl 0 rfl) ?_
            refine wi_if_lt (tgt := 265) hx hb d_Mo_readNumber_233 (by decide) (by omega) (fun c_40 => ?_) (fun c_40 => ?_)
            · skip
              refine wi_iconst (n := 0) hx hb d_Mo_readNumber_265 ?_
              refine w_as0 ?_
              refine lv_istore (lv' := [(6, .int (bI false)), (8, .int (iI re9)), (7, .int (iI sl9)), (0, .ref h), (1, .int (iI fr)), (2, .int (iI to)), (3, .ref h4), (4, .int (bI ng9)), (5, .int (iI p9))]) hx hb d_Mo_readNumber_266 hl (by decide) rfl (fun ls hl => ?_)
              refine lv_iload hx hb d_Mo_readNumber_268 (lv_at hl 0 rfl) ?_
              refine wb_if_eq (tgt := 286) hx hb d_Mo_readNumber_270 (by decide) (fun c_41 => ?_) (fun c_41 => by exfalso; exact absurd c_41 (by decide))
              exact K_286 false ms9 0 0 0 pg2_30 qg2_31 pk2_32 qk2_33 0 false (⟨fun z => (by cases z), fun z => by exfalso; obtain ⟨y1, y2⟩ := hNK.mp z; rw [if_pos y1] at hre; rcases y2 with y2 | ⟨y2, y3, y4⟩ <;> first | omega | (rw [← hre] at y3; exact absurd y3 c_15) | (rw [← hre] at y4; rw [hxk.mpr y4] at c_17; cases c_17)⟩) (fun z => (by cases z)) _ _ _ (lv_sub hl [3, 4, 5, 6, 7, 0] rfl) (hP.sub [0, 1, 2, 3, 4, 5, 6] rfl) (hD.sub [0, 1, 2, 3, 4, 5, 6] (by decide) rfl) hS
            · skip
              have hc0 : 0 < cd9 := Decidable.byContradiction (fun z => by rw [if_neg z] at hre; omega)
              have hre2 := hre
              rw [if_pos hc0] at hre2
              have htr := hT re9 (by omega) (by omega)
              refine lv_aload_n hx hb d_Mo_readNumber_236 rfl (lv_at hl 2 rfl) ?_
              refine wk_get B hP 0 rfl fl_Mo_107 (v := .ref mta) rfl d_Mo_readNumber_237 ?_
              refine lv_iload hx hb d_Mo_readNumber_240 (lv_at hl 0 rfl) ?_
              refine wi_iald hx hb hK hP 1 0 rfl rfl (by omega) (by omega) d_Mo_readNumber_242 ?_
              refine wi_bipush hx hb d_Mo_readNumber_243 (by decide) ?_
              refine wi_icmp_ne (tgt := 265) hx hb d_Mo_readNumber_245 (by decide) (by omega) (by omega) (fun c_42 => ?_) (fun c_42 => ?_)
              · skip
                refine wi_iconst (n := 0) hx hb d_Mo_readNumber_265 ?_
                refine w_as0 ?_
                refine lv_istore (lv' := [(6, .int (bI false)), (8, .int (iI re9)), (7, .int (iI sl9)), (0, .ref h), (1, .int (iI fr)), (2, .int (iI to)), (3, .ref h4), (4, .int (bI ng9)), (5, .int (iI p9))]) hx hb d_Mo_readNumber_266 hl (by decide) rfl (fun ls hl => ?_)
                refine lv_iload hx hb d_Mo_readNumber_268 (lv_at hl 0 rfl) ?_
                refine wb_if_eq (tgt := 286) hx hb d_Mo_readNumber_270 (by decide) (fun c_43 => ?_) (fun c_43 => by exfalso; exact absurd c_43 (by decide))
                exact K_286 false ms9 0 0 0 pg2_30 qg2_31 pk2_32 qk2_33 0 false (⟨fun z => (by cases z), fun z => by exfalso; obtain ⟨y1, y2⟩ := hNK.mp z; rw [if_pos y1] at hre; rcases y2 with y2 | ⟨y2, y3, y4⟩ <;> first | omega | (rw [← hre] at y3; exact absurd y3 c_42) | (rw [← hre] at y4; rw [hxk.mpr y4] at c_17; cases c_17)⟩) (fun z => (by cases z)) _ _ _ (lv_sub hl [3, 4, 5, 6, 7, 0] rfl) (hP.sub [0, 1, 2, 3, 4, 5, 6] rfl) (hD.sub [0, 1, 2, 3, 4, 5, 6] (by decide) rfl) hS
              · skip
                refine lv_aload_n hx hb d_Mo_readNumber_248 rfl (lv_at hl 2 rfl) ?_
                refine lv_iload hx hb d_Mo_readNumber_249 (lv_at hl 0 rfl) ?_
                refine wi_iconst (n := 1) hx hb d_Mo_readNumber_251 ?_
                refine wi_iadd hx hb d_Mo_readNumber_252 ?_
                refine lv_iload_n hx hb d_Mo_readNumber_253 rfl (lv_at hl 4 rfl) ?_
                refine wi_iconst (n := 3) hx hb d_Mo_readNumber_254 ?_
                refine wk_callV (As := [.int (iI (re9 + 1)), .int (iI to), .int (iI 3)]) (rest := []) (wr := [(h4, .inr (8, [.int (bI false), .ref pn9, .ref qn9, .int (iI 0)])), (pn9, .inr (7, [.ref pa9, .int (iI pk2_32)])), (pa9, .inl (E.1, 640, .inl (ia pg2_30))), (qn9, .inr (7, [.ref qa9, .int (iI qk2_33)])), (qa9, .inl (E.1, 640, .inl (ia qg2_31)))]) B gTB cl_Mo_194 (c_Mo_readExponent l D E h mlf mrt mpb mop mtz mta moz moa mrl mrh mno mlo mhi mo1 mo2 mo3 mo4 ms9 0 mgd mon t (re9 + 1) to 3 (by omega) (hT) (by omega)) ⟨⟨rfl, rfl⟩, Nat.le_of_ble_eq_true rfl, Nat.le_of_ble_eq_true rfl⟩ hP hD hS [0, 1] [2, 3, 4, 5, 6] rfl rfl (by decide) 0 rfl rfl rfl ⟨hl.2.1, hl.1⟩ rfl (Nat.le_of_ble_eq_true rfl) d_Mo_readNumber_255 ⟨Nat.le_of_ble_eq_true rfl, Nat.le_of_ble_eq_true rfl⟩ rfl (fun u H locs hw hP hD hS => ?_)
                obtain ⟨xr9, exd⟩ := u
                have hP : va_P D classes [(h4, .inr (8, [.int (bI false), .ref pn9, .ref qn9, .int (iI 0)])), (pn9, .inr (7, [.ref pa9, .int (iI pk2_32)])), (pa9, .inl (E.1, 640, .inl (ia pg2_30))), (qn9, .inr (7, [.ref qa9, .int (iI qk2_33)])), (qa9, .inl (E.1, 640, .inl (ia qg2_31))), (h, .inr (9, [.ref mlf, .ref mrt, .ref mpb, .ref mop, .int (iI mtz), .ref mta, .int (iI moz), .ref moa, .long (lI mrl), .long (lI mrh), .int (bI mno), .long (lI mlo), .long (lI mhi), .ref mo1, .ref mo2, .ref mo3, .ref mo4, .int (iI ms9), .int (iI exd), .int (bI mgd), .int (bI mon)])), (mta, .inl (E.1, 400, .inl (ia t)))] H := hP
                have hD : va_D A [(h4, .inr (8, [.int (bI false), .ref pn9, .ref qn9, .int (iI 0)])), (pn9, .inr (7, [.ref pa9, .int (iI pk2_32)])), (pa9, .inl (E.1, 640, .inl (ia pg2_30))), (qn9, .inr (7, [.ref qa9, .int (iI qk2_33)])), (qa9, .inl (E.1, 640, .inl (ia qg2_31))), (h, .inr (9, [.ref mlf, .ref mrt, .ref mpb, .ref mop, .int (iI mtz), .ref mta, .int (iI moz), .ref moa, .long (lI mrl), .long (lI mrh), .int (bI mno), .long (lI mlo), .long (lI mhi), .ref mo1, .ref mo2, .ref mo3, .ref mo4, .int (iI ms9), .int (iI exd), .int (bI mgd), .int (bI mon)])), (mta, .inl (E.1, 400, .inl (ia t)))] := hD
                have hw : (xr9 = true ↔ XEok t to (re9 + 1) (Int.toNat 3)) ∧ (xr9 = true → exd = if sgN t to (re9 + 1) then -(XE t to (re9 + 1) (Int.toNat 3)).2.1 else (XE t to (re9 + 1) (Int.toNat 3)).2.1) ∧ (-10000000 < exd ∧ exd < 10000000) := hw
                obtain ⟨hxk, hxx, hxb⟩ := hw
                refine W.cs (g := F0 m 258 ls [.int (bI xr9)]) (cells' := 0) (slots' := 0) rfl rfl ?_
                refine wb_if_eq (tgt := 265) hx hb d_Mo_readNumber_258 (by decide) (fun c_44 => ?_) (fun c_44 => ?_)
                · skip
                  refine wi_iconst (n := 0) hx hb d_Mo_readNumber_265 ?_
                  refine w_as0 ?_
                  refine lv_istore (lv' := [(6, .int (bI false)), (8, .int (iI re9)), (7, .int (iI sl9)), (0, .ref h), (1, .int (iI fr)), (2, .int (iI to)), (3, .ref h4), (4, .int (bI ng9)), (5, .int (iI p9))]) hx hb d_Mo_readNumber_266 hl (by decide) rfl (fun ls hl => ?_)
                  refine lv_iload hx hb d_Mo_readNumber_268 (lv_at hl 0 rfl) ?_
                  refine wb_if_eq (tgt := 286) hx hb d_Mo_readNumber_270 (by decide) (fun c_45 => ?_) (fun c_45 => by exfalso; exact absurd c_45 (by decide))
                  exact K_286 false ms9 exd 0 0 pg2_30 qg2_31 pk2_32 qk2_33 0 false (⟨fun z => (by cases z), fun z => by exfalso; obtain ⟨y1, y2⟩ := hNK.mp z; rw [if_pos y1] at hre; rcases y2 with y2 | ⟨y2, y3, y4⟩ <;> first | omega | (rw [← hre] at y3; exact absurd y3 c_42) | (rw [← hre] at y4; rw [hxk.mpr y4] at c_44; cases c_44)⟩) (fun z => (by cases z)) _ _ _ (lv_sub hl [3, 4, 5, 6, 7, 0] rfl) (hP.sub [5, 6, 0, 1, 2, 3, 4] rfl) (hD.sub [5, 6, 0, 1, 2, 3, 4] (by decide) rfl) hS
                · skip
                  refine wi_iconst (n := 1) hx hb d_Mo_readNumber_261 ?_
                  refine lv_goto (tgt := 266) hx hb d_Mo_readNumber_262 (by decide) ?_
                  refine w_as1 ?_
                  refine lv_istore (lv' := [(6, .int (bI true)), (8, .int (iI re9)), (7, .int (iI sl9)), (0, .ref h), (1, .int (iI fr)), (2, .int (iI to)), (3, .ref h4), (4, .int (bI ng9)), (5, .int (iI p9))]) hx hb d_Mo_readNumber_266 hl (by decide) rfl (fun ls hl => ?_)
                  refine lv_iload hx hb d_Mo_readNumber_268 (lv_at hl 0 rfl) ?_
                  refine wb_if_eq (tgt := 286) hx hb d_Mo_readNumber_270 (by decide) (fun c_46 => by exfalso; exact absurd c_46 (by decide)) (fun c_46 => ?_)
                  have hc0 : 0 < cd9 := Decidable.byContradiction (fun z => by rw [if_neg z] at hre; omega)
                  rw [if_pos hc0] at hre
                  have hx9 : 0 ≤ (XE t to (re9 + 1) (Int.toNat 3)).2.1 ∧ (XE t to (re9 + 1) (Int.toNat 3)).2.1 < 1000 := XE_3
                  have hxe := hxx c_44
                  have hxr : -1000 < exd ∧ exd < 1000 := by rw [hxe]; split <;> omega
                  refine lv_aload_n hx hb d_Mo_readNumber_273 rfl (lv_at hl 6 rfl) ?_
                  refine lv_aload_n hx hb d_Mo_readNumber_274 rfl (lv_at hl 3 rfl) ?_
                  refine wk_get B hP 5 rfl fl_Mo_183 (v := .int (iI exd)) rfl d_Mo_readNumber_275 ?_
                  refine lv_aload_n hx hb d_Mo_readNumber_278 rfl (lv_at hl 3 rfl) ?_
                  refine wk_get B hP 5 rfl fl_Mo_172 (v := .int (iI ms9)) rfl d_Mo_readNumber_279 ?_
                  refine wi_isub hx hb d_Mo_readNumber_282 ?_
                  refine wk_callS (As := [.ref h4, .int (iI (exd - ms9))]) (rest := []) (wr := [(h, .inr (9, [.ref mlf, .ref mrt, .ref mpb, .ref mop, .int (iI mtz), .ref mta, .int (iI moz), .ref moa, .long (lI mrl), .long (lI mrh), .int (bI mno), .long (lI mlo), .long (lI mhi), .ref mo1, .ref mo2, .ref mo3, .ref mo4, .int (iI ms9), .int (iI exd), .int (bI mgd), .int (bI mon)])), (mta, .inl (E.1, 400, .inl (ia t)))]) B gTB cl_Mo_202 (c_Mo_tens l D E h4 pn9 pa9 qn9 qa9 pg2_30 qg2_31 pk2_32 qk2_33 0 false (exd - ms9) v9 1 (hPd) (hQd) (by omega) (q4950 (rn_fit hvd (by omega) (by omega))) (q4950 (rb_fit (by omega)))) ⟨⟨rfl, rfl⟩, Nat.le_of_ble_eq_true rfl, Nat.le_of_ble_eq_true rfl⟩ hP hD hS [0, 1, 2, 3, 4] [5, 6] rfl rfl (by decide) ⟨hl.2.1, hl.1⟩ rfl (Nat.le_of_ble_eq_true rfl) d_Mo_readNumber_283 ⟨Nat.le_of_ble_eq_true rfl, Nat.le_of_ble_eq_true rfl⟩ rfl (fun u H locs hw hP hD hS => ?_)
                  obtain ⟨pg2_47, qg2_48, pk2_49, qk2_50⟩ := u
                  have hP : va_P D classes [(h, .inr (9, [.ref mlf, .ref mrt, .ref mpb, .ref mop, .int (iI mtz), .ref mta, .int (iI moz), .ref moa, .long (lI mrl), .long (lI mrh), .int (bI mno), .long (lI mlo), .long (lI mhi), .ref mo1, .ref mo2, .ref mo3, .ref mo4, .int (iI ms9), .int (iI exd), .int (bI mgd), .int (bI mon)])), (mta, .inl (E.1, 400, .inl (ia t))), (h4, .inr (8, [.int (bI false), .ref pn9, .ref qn9, .int (iI 0)])), (pn9, .inr (7, [.ref pa9, .int (iI pk2_49)])), (pa9, .inl (E.1, 640, .inl (ia pg2_47))), (qn9, .inr (7, [.ref qa9, .int (iI qk2_50)])), (qa9, .inl (E.1, 640, .inl (ia qg2_48)))] H := hP
                  have hD : va_D A [(h, .inr (9, [.ref mlf, .ref mrt, .ref mpb, .ref mop, .int (iI mtz), .ref mta, .int (iI moz), .ref moa, .long (lI mrl), .long (lI mrh), .int (bI mno), .long (lI mlo), .long (lI mhi), .ref mo1, .ref mo2, .ref mo3, .ref mo4, .int (iI ms9), .int (iI exd), .int (bI mgd), .int (bI mon)])), (mta, .inl (E.1, 400, .inl (ia t))), (h4, .inr (8, [.int (bI false), .ref pn9, .ref qn9, .int (iI 0)])), (pn9, .inr (7, [.ref pa9, .int (iI pk2_49)])), (pa9, .inl (E.1, 640, .inl (ia pg2_47))), (qn9, .inr (7, [.ref qa9, .int (iI qk2_50)])), (qa9, .inl (E.1, 640, .inl (ia qg2_48)))] := hD
                  have hw : (BigOK pg2_47 pk2_49 (v9 * T10 (exd - ms9))) ∧ (BigOK qg2_48 qk2_50 (1 * T10 (-(exd - ms9)))) := hw
                  obtain ⟨hPt, hQt⟩ := hw
                  refine W.cs (g := F0 m 286 ls []) (cells' := 0) (slots' := 0) rfl rfl ?_
                  exact K_286 true ms9 exd (v9 * T10 (exd - ms9)) (1 * T10 (-(exd - ms9))) pg2_47 qg2_48 pk2_49 qk2_50 0 false (⟨fun _ => hNK.mpr ⟨hc0, Or.inr ⟨by omega, by rw [← hre]; exact c_42, by rw [← hre]; exact hxk.mp c_44⟩⟩, fun _ => rfl⟩) (fun _ => ⟨⟨hPt, hQt⟩, by have := T10_pos (-(exd - ms9)); omega, by rw [nqs_d (ex := exd) hw6 (by omega) hnf hDh (by omega) hc0 (Or.inr ⟨by omega, by rw [← hre]; exact c_42, by rw [← hre]; exact hxx c_44⟩), ← hng]; exact NEQ_d, ⟨big310 hPt (rn_fit hvd (by omega) (by omega)), big310 hQt (rb_fit (by omega))⟩, by omega⟩) _ _ _ (lv_sub hl [3, 4, 5, 6, 7, 0] rfl) (hP.sub [0, 1, 2, 3, 4, 5, 6] rfl) (hD.sub [0, 1, 2, 3, 4, 5, 6] (by decide) rfl) hS
        · skip
          have hfb9 := hfb.resolve_left (fun z => by omega)
          refine lv_aload_n hx hb d_Mo_readNumber_193 rfl (lv_at hl 1 rfl) ?_
          refine lv_iload hx hb d_Mo_readNumber_194 (lv_at hl 6 rfl) ?_
          refine lv_iload hx hb d_Mo_readNumber_196 (lv_at hl 0 rfl) ?_
          refine lv_iload_n hx hb d_Mo_readNumber_198 rfl (lv_at hl 3 rfl) ?_
          refine lv_aload_n hx hb d_Mo_readNumber_199 rfl (lv_at hl 4 rfl) ?_
          refine wk_callV (As := [.int (iI p9), .int (iI sl9), .int (iI to), .ref h4]) (rest := []) (wr := []) B gTB cl_Mo_198 (c_Mo_readRatio l D E h mlf mrt mpb mop mtz mta moz moa mrl mrh mno mlo mhi mo1 mo2 mo3 mo4 mms mex mgd mon t h4 pn9 pa9 qn9 qa9 pg9 qg9 pk9 qk9 ee9 be9 p9 sl9 to (by omega) (hT) (hfb9.2.1)) ⟨⟨rfl, rfl⟩, Nat.le_of_ble_eq_true rfl, Nat.le_of_ble_eq_true rfl⟩ hP hD hS [5, 6, 0, 1, 2, 3, 4] [] rfl rfl (by decide) 5 rfl rfl rfl ⟨hl.2.1, hl.1⟩ rfl (Nat.le_of_ble_eq_true rfl) d_Mo_readNumber_200 ⟨Nat.le_of_ble_eq_true rfl, Nat.le_of_ble_eq_true rfl⟩ rfl (fun u H locs hw hP hD hS => ?_)
          obtain ⟨rr9, v9, w9, pg2_51, qg2_52, pk2_53, qk2_54⟩ := u
          have hP : va_P D classes [(h, .inr (9, [.ref mlf, .ref mrt, .ref mpb, .ref mop, .int (iI mtz), .ref mta, .int (iI moz), .ref moa, .long (lI mrl), .long (lI mrh), .int (bI mno), .long (lI mlo), .long (lI mhi), .ref mo1, .ref mo2, .ref mo3, .ref mo4, .int (iI mms), .int (iI mex), .int (bI mgd), .int (bI mon)])), (mta, .inl (E.1, 400, .inl (ia t))), (h4, .inr (8, [.int (bI false), .ref pn9, .ref qn9, .int (iI 0)])), (pn9, .inr (7, [.ref pa9, .int (iI pk2_53)])), (pa9, .inl (E.1, 640, .inl (ia pg2_51))), (qn9, .inr (7, [.ref qa9, .int (iI qk2_54)])), (qa9, .inl (E.1, 640, .inl (ia qg2_52)))] H := hP
          have hD : va_D A [(h, .inr (9, [.ref mlf, .ref mrt, .ref mpb, .ref mop, .int (iI mtz), .ref mta, .int (iI moz), .ref moa, .long (lI mrl), .long (lI mrh), .int (bI mno), .long (lI mlo), .long (lI mhi), .ref mo1, .ref mo2, .ref mo3, .ref mo4, .int (iI mms), .int (iI mex), .int (bI mgd), .int (bI mon)])), (mta, .inl (E.1, 400, .inl (ia t))), (h4, .inr (8, [.int (bI false), .ref pn9, .ref qn9, .int (iI 0)])), (pn9, .inr (7, [.ref pa9, .int (iI pk2_53)])), (pa9, .inl (E.1, 640, .inl (ia pg2_51))), (qn9, .inr (7, [.ref qa9, .int (iI qk2_54)])), (qa9, .inl (E.1, 640, .inl (ia qg2_52)))] := hD
          have hw : (rr9 = true ↔ (RTOK t p9 sl9 to ∧ 0 < (DGs t to 10 false (sl9 + 1) (0, 0, 0, false)).2.1)) ∧ (rr9 = true → (DGs t to 10 true p9 (0, 0, 0, false)).2.1 = v9 ∧ (DGs t to 10 false (sl9 + 1) (0, 0, 0, false)).2.1 = w9) ∧ (BigOK pg2_51 pk2_53 v9) ∧ (BigOK qg2_52 qk2_54 w9) ∧ (0 ≤ v9 ∧ v9 < P2 4950 ∧ 0 ≤ w9 ∧ w9 < P2 4950) := hw
          obtain ⟨hrk, hro, hPd, hQd, hvd⟩ := hw
          refine W.cs (g := F0 m 203 ls [.int (bI rr9)]) (cells' := 0) (slots' := 0) rfl rfl ?_
          refine lv_istore (lv' := [(6, .int (bI rr9)), (7, .int (iI sl9)), (0, .ref h), (1, .int (iI fr)), (2, .int (iI to)), (3, .ref h4), (4, .int (bI ng9)), (5, .int (iI p9))]) hx hb d_Mo_readNumber_203 hl (by decide) rfl (fun ls hl => ?_)
          refine lv_goto (tgt := 286) hx hb d_Mo_readNumber_205 (by decide) ?_
          have hNR := NOK_r (t := t) (a := fr) (b := to) (sl := sl9) hw6 (by omega) hfb9.2.1 (by rw [← hp9]; exact hfb9.2.2)
          rw [← hp9] at hNR
          exact K_286 rr9 mms mex v9 w9 pg2_51 qg2_52 pk2_53 qk2_54 0 false (hrk.trans hNR.symm) (fun z => ⟨⟨hPd, hQd⟩, by have y := (hrk.mp z).2; rw [(hro z).2] at y; exact y, by rw [nqs_r (v := v9) (w := w9) hw6 (by omega) hfb9.2.1 (by rw [← hp9]; exact (hrk.mp z).1) (by rw [← hp9]; exact (hro z).1) (hro z).2, ← hng]; exact NEQ_id, ⟨big310 hPd hvd.2.1, big310 hQd hvd.2.2.2⟩, by omega⟩) _ _ _ (lv_sub hl [2, 3, 4, 5, 6, 0] rfl) (hP.sub [0, 1, 2, 3, 4, 5, 6] rfl) (hD.sub [0, 1, 2, 3, 4, 5, 6] (by decide) rfl) hS
      · skip
        refine lv_aload_n hx hb d_Mo_readNumber_90 rfl (lv_at hl 1 rfl) ?_
        refine wk_get B hP 5 rfl fl_Mo_107 (v := .ref mta) rfl d_Mo_readNumber_91 ?_
        refine lv_iload hx hb d_Mo_readNumber_94 (lv_at hl 6 rfl) ?_
        refine wi_iconst (n := 1) hx hb d_Mo_readNumber_96 ?_
        refine wi_iadd hx hb d_Mo_readNumber_97 ?_
        refine wi_iald hx hb hK hP 6 0 rfl rfl (by omega) (by omega) d_Mo_readNumber_98 ?_
        refine wi_bipush hx hb d_Mo_readNumber_99 (by decide) ?_
        refine wi_icmp_ne (tgt := 188) hx hb d_Mo_readNumber_101 (by decide) (by omega) (by omega) (fun c_55 => ?_) (fun c_55 => ?_)
        · skip
          have hw6 : wdB t to (sgP t to fr) 6 = false := by
            rw [← hp9]
            cases q9 : wdB t to p9 6 with
            | true => exfalso; have q8 := (sw_hex (by omega)).mp q9; omega
            | false => rfl
          refine lv_iload hx hb d_Mo_readNumber_188 (lv_at hl 0 rfl) ?_
          refine wi_if_lt (tgt := 208) hx hb d_Mo_readNumber_190 (by decide) (by omega) (fun c_56 => ?_) (fun c_56 => ?_)
          · skip
            have hnf : ∀ j : Int, sgP t to fr ≤ j → j < to → t j ≠ 47 := by
              rcases hfb with z | z
              · rw [← hp9]; exact z.2
              · omega
            refine lv_aload_n hx hb d_Mo_readNumber_208 rfl (lv_at hl 1 rfl) ?_
            refine lv_iload hx hb d_Mo_readNumber_209 (lv_at hl 6 rfl) ?_
            refine lv_iload_n hx hb d_Mo_readNumber_211 rfl (lv_at hl 3 rfl) ?_
            refine wi_bipush hx hb d_Mo_readNumber_212 (by decide) ?_
            refine lv_aload_n hx hb d_Mo_readNumber_214 rfl (lv_at hl 4 rfl) ?_
            refine wk_callV (As := [.int (iI p9), .int (iI to), .int (iI 10), .ref h4]) (rest := []) (wr := []) B gTB cl_Mo_190 (c_Mo_readDigits l D E h mlf mrt mpb mop mtz mta moz moa mrl mrh mno mlo mhi mo1 mo2 mo3 mo4 mms mex mgd mon t h4 pn9 pa9 qn9 qa9 pg9 qg9 pk9 qk9 ee9 be9 p9 to 10 (by omega) (hT) (Or.inl rfl)) ⟨⟨rfl, rfl⟩, Nat.le_of_ble_eq_true rfl, Nat.le_of_ble_eq_true rfl⟩ hP hD hS [5, 6, 0, 1, 2, 3, 4] [] rfl rfl (by decide) 5 rfl rfl rfl ⟨hl.2.1, hl.1⟩ rfl (Nat.le_of_ble_eq_true rfl) d_Mo_readNumber_215 ⟨Nat.le_of_ble_eq_true rfl, Nat.le_of_ble_eq_true rfl⟩ rfl (fun u H locs hw hP hD hS => ?_)
            obtain ⟨re9, ms9, q9, v9, cd9, hpd9, pg2_57, qg2_58, pk2_59, qk2_60⟩ := u
            have hP : va_P D classes [(h, .inr (9, [.ref mlf, .ref mrt, .ref mpb, .ref mop, .int (iI mtz), .ref mta, .int (iI moz), .ref moa, .long (lI mrl), .long (lI mrh), .int (bI mno), .long (lI mlo), .long (lI mhi), .ref mo1, .ref mo2, .ref mo3, .ref mo4, .int (iI ms9), .int (iI mex), .int (bI mgd), .int (bI mon)])), (mta, .inl (E.1, 400, .inl (ia t))), (h4, .inr (8, [.int (bI false), .ref pn9, .ref qn9, .int (iI 0)])), (pn9, .inr (7, [.ref pa9, .int (iI pk2_59)])), (pa9, .inl (E.1, 640, .inl (ia pg2_57))), (qn9, .inr (7, [.ref qa9, .int (iI qk2_60)])), (qa9, .inl (E.1, 640, .inl (ia qg2_58)))] H := hP
            have hD : va_D A [(h, .inr (9, [.ref mlf, .ref mrt, .ref mpb, .ref mop, .int (iI mtz), .ref mta, .int (iI moz), .ref moa, .long (lI mrl), .long (lI mrh), .int (bI mno), .long (lI mlo), .long (lI mhi), .ref mo1, .ref mo2, .ref mo3, .ref mo4, .int (iI ms9), .int (iI mex), .int (bI mgd), .int (bI mon)])), (mta, .inl (E.1, 400, .inl (ia t))), (h4, .inr (8, [.int (bI false), .ref pn9, .ref qn9, .int (iI 0)])), (pn9, .inr (7, [.ref pa9, .int (iI pk2_59)])), (pa9, .inl (E.1, 640, .inl (ia pg2_57))), (qn9, .inr (7, [.ref qa9, .int (iI qk2_60)])), (qa9, .inl (E.1, 640, .inl (ia qg2_58)))] := hD
            have hw : (DGs t to 10 true p9 (0, 0, 0, false) = (q9, v9, cd9, ms9, hpd9)) ∧ (re9 = if 0 < cd9 then q9 else -1) ∧ (BigOK pg2_57 pk2_59 v9) ∧ (BigOK qg2_58 qk2_60 1) ∧ (0 ≤ ms9 ∧ ms9 ≤ cd9 ∧ cd9 ≤ q9 - p9) ∧ (p9 ≤ q9 ∧ q9 ≤ to) ∧ (0 ≤ v9 ∧ v9 < P2 (4 * cd9)) := hw
            obtain ⟨hDD, hre, hPd, hQd, hbd, hqd, hvd⟩ := hw
            refine W.cs (g := F0 m 218 ls [.int (iI re9)]) (cells' := 0) (slots' := 0) rfl rfl ?_
            refine lv_istore (lv' := [(8, .int (iI re9)), (7, .int (iI sl9)), (0, .ref h), (1, .int (iI fr)), (2, .int (iI to)), (3, .ref h4), (4, .int (bI ng9)), (5, .int (iI p9))]) hx hb d_Mo_readNumber_218 hl (by decide) rfl (fun ls hl => ?_)
            have hDh : DGs t to 10 true (sgP t to fr) z0 = (q9, v9, cd9, ms9, hpd9) := by rw [← hp9]; exact hDD
            have hNK := NOK_d (t := t) (a := fr) (b := to) hw6 (by omega) hnf hDh (by omega)
            have hrer : -1 ≤ re9 ∧ re9 ≤ 400 := by rw [hre]; split <;> omega
            refine lv_aload_n hx hb d_Mo_readNumber_220 rfl (lv_at hl 2 rfl) ?_
            refine wi_iconst (n := 0) hx hb d_Mo_readNumber_221 ?_
            refine wk_put B hP hD hS 0 rfl fl_Mo_183 fp_Mo_18 (v := .int (iI 0)) rfl rfl (Nat.le_of_ble_eq_true rfl) d_Mo_readNumber_222 (fun H locs hP hD hS => ?_)
            have hP : va_P D classes [(h, .inr (9, [.ref mlf, .ref mrt, .ref mpb, .ref mop, .int (iI mtz), .ref mta, .int (iI moz), .ref moa, .long (lI mrl), .long (lI mrh), .int (bI mno), .long (lI mlo), .long (lI mhi), .ref mo1, .ref mo2, .ref mo3, .ref mo4, .int (iI ms9), .int (iI 0), .int (bI mgd), .int (bI mon)])), (mta, .inl (E.1, 400, .inl (ia t))), (h4, .inr (8, [.int (bI false), .ref pn9, .ref qn9, .int (iI 0)])), (pn9, .inr (7, [.ref pa9, .int (iI pk2_59)])), (pa9, .inl (E.1, 640, .inl (ia pg2_57))), (qn9, .inr (7, [.ref qa9, .int (iI qk2_60)])), (qa9, .inl (E.1, 640, .inl (ia qg2_58)))] H := hP
            have hD : va_D A [(h, .inr (9, [.ref mlf, .ref mrt, .ref mpb, .ref mop, .int (iI mtz), .ref mta, .int (iI moz), .ref moa, .long (lI mrl), .long (lI mrh), .int (bI mno), .long (lI mlo), .long (lI mhi), .ref mo1, .ref mo2, .ref mo3, .ref mo4, .int (iI ms9), .int (iI 0), .int (bI mgd), .int (bI mon)])), (mta, .inl (E.1, 400, .inl (ia t))), (h4, .inr (8, [.int (bI false), .ref pn9, .ref qn9, .int (iI 0)])), (pn9, .inr (7, [.ref pa9, .int (iI pk2_59)])), (pa9, .inl (E.1, 640, .inl (ia pg2_57))), (qn9, .inr (7, [.ref qa9, .int (iI qk2_60)])), (qa9, .inl (E.1, 640, .inl (ia qg2_58)))] := hD
            refine lv_iload hx hb d_Mo_readNumber_225 (lv_at hl 0 rfl) ?_
            refine lv_iload_n hx hb d_Mo_readNumber_227 rfl (lv_at hl 4 rfl) ?_
            refine wi_icmp_eq (tgt := 261) hx hb d_Mo_readNumber_228 (by decide) (by omega) (by omega) (fun c_61 => ?_) (fun c_61 => ?_)
            · skip
              refine wi_iconst (n := 1) hx hb d_Mo_readNumber_261 ?_
              refine lv_goto (tgt := 266) hx hb d_Mo_readNumber_262 (by decide) ?_
              refine w_as1 ?_
              refine lv_istore (lv' := [(6, .int (bI true)), (8, .int (iI re9)), (7, .int (iI sl9)), (0, .ref h), (1, .int (iI fr)), (2, .int (iI to)), (3, .ref h4), (4, .int (bI ng9)), (5, .int (iI p9))]) hx hb d_Mo_readNumber_266 hl (by decide) rfl (fun ls hl => ?_)
              refine lv_iload hx hb d_Mo_readNumber_268 (lv_at hl 0 rfl) ?_
              refine wb_if_eq (tgt := 286) hx hb d_Mo_readNumber_270 (by decide) (fun c_62 => by exfalso; exact absurd c_62 (by decide)) (fun c_62 => ?_)
              have hc0 : 0 < cd9 := Decidable.byContradiction (fun z => by rw [if_neg z] at hre; omega)
              rw [if_pos hc0] at hre
              refine lv_aload_n hx hb d_Mo_readNumber_273 rfl (lv_at hl 6 rfl) ?_
              refine lv_aload_n hx hb d_Mo_readNumber_274 rfl (lv_at hl 3 rfl) ?_
              refine wk_get B hP 0 rfl fl_Mo_183 (v := .int (iI 0)) rfl d_Mo_readNumber_275 ?_
              refine lv_aload_n hx hb d_Mo_readNumber_278 rfl (lv_at hl 3 rfl) ?_
              refine wk_get B hP 0 rfl fl_Mo_172 (v := .int (iI ms9)) rfl d_Mo_readNumber_279 ?_
              refine wi_isub hx hb d_Mo_readNumber_282 ?_
              refine wk_callS (As := [.ref h4, .int (iI (0 - ms9))]) (rest := []) (wr := [(h, .inr (9, [.ref mlf, .ref mrt, .ref mpb, .ref mop, .int (iI mtz), .ref mta, .int (iI moz), .ref moa, .long (lI mrl), .long (lI mrh), .int (bI mno), .long (lI mlo), .long (lI mhi), .ref mo1, .ref mo2, .ref mo3, .ref mo4, .int (iI ms9), .int (iI 0), .int (bI mgd), .int (bI mon)])), (mta, .inl (E.1, 400, .inl (ia t)))]) B gTB cl_Mo_202 (c_Mo_tens l D E h4 pn9 pa9 qn9 qa9 pg2_57 qg2_58 pk2_59 qk2_60 0 false (0 - ms9) v9 1 (hPd) (hQd) (by omega) (q4950 (rn_fit hvd (by omega) (by omega))) (q4950 (rb_fit (by omega)))) ⟨⟨rfl, rfl⟩, Nat.le_of_ble_eq_true rfl, Nat.le_of_ble_eq_true rfl⟩ hP hD hS [2, 3, 4, 5, 6] [0, 1] rfl rfl (by decide) ⟨hl.2.1, hl.1⟩ rfl (Nat.le_of_ble_eq_true rfl) d_Mo_readNumber_283 ⟨Nat.le_of_ble_eq_true rfl, Nat.le_of_ble_eq_true rfl⟩ rfl (fun u H locs hw hP hD hS => ?_)
              obtain ⟨pg2_63, qg2_64, pk2_65, qk2_66⟩ := u
              have hP : va_P D classes [(h, .inr (9, [.ref mlf, .ref mrt, .ref mpb, .ref mop, .int (iI mtz), .ref mta, .int (iI moz), .ref moa, .long (lI mrl), .long (lI mrh), .int (bI mno), .long (lI mlo), .long (lI mhi), .ref mo1, .ref mo2, .ref mo3, .ref mo4, .int (iI ms9), .int (iI 0), .int (bI mgd), .int (bI mon)])), (mta, .inl (E.1, 400, .inl (ia t))), (h4, .inr (8, [.int (bI false), .ref pn9, .ref qn9, .int (iI 0)])), (pn9, .inr (7, [.ref pa9, .int (iI pk2_65)])), (pa9, .inl (E.1, 640, .inl (ia pg2_63))), (qn9, .inr (7, [.ref qa9, .int (iI qk2_66)])), (qa9, .inl (E.1, 640, .inl (ia qg2_64)))] H := hP
              have hD : va_D A [(h, .inr (9, [.ref mlf, .ref mrt, .ref mpb, .ref mop, .int (iI mtz), .ref mta, .int (iI moz), .ref moa, .long (lI mrl), .long (lI mrh), .int (bI mno), .long (lI mlo), .long (lI mhi), .ref mo1, .ref mo2, .ref mo3, .ref mo4, .int (iI ms9), .int (iI 0), .int (bI mgd), .int (bI mon)])), (mta, .inl (E.1, 400, .inl (ia t))), (h4, .inr (8, [.int (bI false), .ref pn9, .ref qn9, .int (iI 0)])), (pn9, .inr (7, [.ref pa9, .int (iI pk2_65)])), (pa9, .inl (E.1, 640, .inl (ia pg2_63))), (qn9, .inr (7, [.ref qa9, .int (iI qk2_66)])), (qa9, .inl (E.1, 640, .inl (ia qg2_64)))] := hD
              have hw : (BigOK pg2_63 pk2_65 (v9 * T10 (0 - ms9))) ∧ (BigOK qg2_64 qk2_66 (1 * T10 (-(0 - ms9)))) := hw
              obtain ⟨hPt, hQt⟩ := hw
              refine W.cs (g := F0 m 286 ls []) (cells' := 0) (slots' := 0) rfl rfl ?_
              exact K_286 true ms9 0 (v9 * T10 (0 - ms9)) (1 * T10 (-(0 - ms9))) pg2_63 qg2_64 pk2_65 qk2_66 0 false (⟨fun _ => hNK.mpr ⟨hc0, Or.inl (by omega)⟩, fun _ => rfl⟩) (fun _ => ⟨⟨hPt, hQt⟩, by have := T10_pos (-(0 - ms9)); omega, by rw [nqs_d (ex := 0) hw6 (by omega) hnf hDh (by omega) hc0 (Or.inl ⟨by omega, rfl⟩), ← hng]; exact NEQ_d, ⟨big310 hPt (rn_fit hvd (by omega) (by omega)), big310 hQt (rb_fit (by omega))⟩, by omega⟩) _ _ _ (lv_sub hl [3, 4, 5, 6, 7, 0] rfl) (hP.sub [0, 1, 2, 3, 4, 5, 6] rfl) (hD.sub [0, 1, 2, 3, 4, 5, 6] (by decide) rfl) hS
            · skip
              refine lv_iload hx hb d_Mo_readNumber_231 (lv_at hl 0 rfl) ?_
              refine wi_if_lt (tgt := 265) hx hb d_Mo_readNumber_233 (by decide) (by omega) (fun c_67 => ?_) (fun c_67 => ?_)
              · skip
                refine wi_iconst (n := 0) hx hb d_Mo_readNumber_265 ?_
                refine w_as0 ?_
                refine lv_istore (lv' := [(6, .int (bI false)), (8, .int (iI re9)), (7, .int (iI sl9)), (0, .ref h), (1, .int (iI fr)), (2, .int (iI to)), (3, .ref h4), (4, .int (bI ng9)), (5, .int (iI p9))]) hx hb d_Mo_readNumber_266 hl (by decide) rfl (fun ls hl => ?_)
                refine lv_iload hx hb d_Mo_readNumber_268 (lv_at hl 0 rfl) ?_
                refine wb_if_eq (tgt := 286) hx hb d_Mo_readNumber_270 (by decide) (fun c_68 => ?_) (fun c_68 => by exfalso; exact absurd c_68 (by decide))
                exact K_286 false ms9 0 0 0 pg2_57 qg2_58 pk2_59 qk2_60 0 false (⟨fun z => (by cases z), fun z => by exfalso; obtain ⟨y1, y2⟩ := hNK.mp z; rw [if_pos y1] at hre; rcases y2 with y2 | ⟨y2, y3, y4⟩ <;> first | omega | (rw [← hre] at y3; exact absurd y3 c_42) | (rw [← hre] at y4; rw [hxk.mpr y4] at c_44; cases c_44)⟩) (fun z => (by cases z)) _ _ _ (lv_sub hl [3, 4, 5, 6, 7, 0] rfl) (hP.sub [0, 1, 2, 3, 4, 5, 6] rfl) (hD.sub [0, 1, 2, 3, 4, 5, 6] (by decide) rfl) hS
              · skip
                have hc0 : 0 < cd9 := Decidable.byContradiction (fun z => by rw [if_neg z] at hre; omega)
                have hre2 := hre
                rw [if_pos hc0] at hre2
                have htr := hT re9 (by omega) (by omega)
                refine lv_aload_n hx hb d_Mo_readNumber_236 rfl (lv_at hl 2 rfl) ?_
                refine wk_get B hP 0 rfl fl_Mo_107 (v := .ref mta) rfl d_Mo_readNumber_237 ?_
                refine lv_iload hx hb d_Mo_readNumber_240 (lv_at hl 0 rfl) ?_
                refine wi_iald hx hb hK hP 1 0 rfl rfl (by omega) (by omega) d_Mo_readNumber_242 ?_
                refine wi_bipush hx hb d_Mo_readNumber_243 (by decide) ?_
                refine wi_icmp_ne (tgt := 265) hx hb d_Mo_readNumber_245 (by decide) (by omega) (by omega) (fun c_69 => ?_) (fun c_69 => ?_)
                · skip
                  refine wi_iconst (n := 0) hx hb d_Mo_readNumber_265 ?_
                  refine w_as0 ?_
                  refine lv_istore (lv' := [(6, .int (bI false)), (8, .int (iI re9)), (7, .int (iI sl9)), (0, .ref h), (1, .int (iI fr)), (2, .int (iI to)), (3, .ref h4), (4, .int (bI ng9)), (5, .int (iI p9))]) hx hb d_Mo_readNumber_266 hl (by decide) rfl (fun ls hl => ?_)
                  refine lv_iload hx hb d_Mo_readNumber_268 (lv_at hl 0 rfl) ?_
                  refine wb_if_eq (tgt := 286) hx hb d_Mo_readNumber_270 (by decide) (fun c_70 => ?_) (fun c_70 => by exfalso; exact absurd c_70 (by decide))
                  exact K_286 false ms9 0 0 0 pg2_57 qg2_58 pk2_59 qk2_60 0 false (⟨fun z => (by cases z), fun z => by exfalso; obtain ⟨y1, y2⟩ := hNK.mp z; rw [if_pos y1] at hre; rcases y2 with y2 | ⟨y2, y3, y4⟩ <;> first | omega | (rw [← hre] at y3; exact absurd y3 c_69) | (rw [← hre] at y4; rw [hxk.mpr y4] at c_44; cases c_44)⟩) (fun z => (by cases z)) _ _ _ (lv_sub hl [3, 4, 5, 6, 7, 0] rfl) (hP.sub [0, 1, 2, 3, 4, 5, 6] rfl) (hD.sub [0, 1, 2, 3, 4, 5, 6] (by decide) rfl) hS
                · skip
                  refine lv_aload_n hx hb d_Mo_readNumber_248 rfl (lv_at hl 2 rfl) ?_
                  refine lv_iload hx hb d_Mo_readNumber_249 (lv_at hl 0 rfl) ?_
                  refine wi_iconst (n := 1) hx hb d_Mo_readNumber_251 ?_
                  refine wi_iadd hx hb d_Mo_readNumber_252 ?_
                  refine lv_iload_n hx hb d_Mo_readNumber_253 rfl (lv_at hl 4 rfl) ?_
                  refine wi_iconst (n := 3) hx hb d_Mo_readNumber_254 ?_
                  refine wk_callV (As := [.int (iI (re9 + 1)), .int (iI to), .int (iI 3)]) (rest := []) (wr := [(h4, .inr (8, [.int (bI false), .ref pn9, .ref qn9, .int (iI 0)])), (pn9, .inr (7, [.ref pa9, .int (iI pk2_59)])), (pa9, .inl (E.1, 640, .inl (ia pg2_57))), (qn9, .inr (7, [.ref qa9, .int (iI qk2_60)])), (qa9, .inl (E.1, 640, .inl (ia qg2_58)))]) B gTB cl_Mo_194 (c_Mo_readExponent l D E h mlf mrt mpb mop mtz mta moz moa mrl mrh mno mlo mhi mo1 mo2 mo3 mo4 ms9 0 mgd mon t (re9 + 1) to 3 (by omega) (hT) (by omega)) ⟨⟨rfl, rfl⟩, Nat.le_of_ble_eq_true rfl, Nat.le_of_ble_eq_true rfl⟩ hP hD hS [0, 1] [2, 3, 4, 5, 6] rfl rfl (by decide) 0 rfl rfl rfl ⟨hl.2.1, hl.1⟩ rfl (Nat.le_of_ble_eq_true rfl) d_Mo_readNumber_255 ⟨Nat.le_of_ble_eq_true rfl, Nat.le_of_ble_eq_true rfl⟩ rfl (fun u H locs hw hP hD hS => ?_)
                  obtain ⟨xr9, exd⟩ := u
                  have hP : va_P D classes [(h4, .inr (8, [.int (bI false), .ref pn9, .ref qn9, .int (iI 0)])), (pn9, .inr (7, [.ref pa9, .int (iI pk2_59)])), (pa9, .inl (E.1, 640, .inl (ia pg2_57))), (qn9, .inr (7, [.ref qa9, .int (iI qk2_60)])), (qa9, .inl (E.1, 640, .inl (ia qg2_58))), (h, .inr (9, [.ref mlf, .ref mrt, .ref mpb, .ref mop, .int (iI mtz), .ref mta, .int (iI moz), .ref moa, .long (lI mrl), .long (lI mrh), .int (bI mno), .long (lI mlo), .long (lI mhi), .ref mo1, .ref mo2, .ref mo3, .ref mo4, .int (iI ms9), .int (iI exd), .int (bI mgd), .int (bI mon)])), (mta, .inl (E.1, 400, .inl (ia t)))] H := hP
                  have hD : va_D A [(h4, .inr (8, [.int (bI false), .ref pn9, .ref qn9, .int (iI 0)])), (pn9, .inr (7, [.ref pa9, .int (iI pk2_59)])), (pa9, .inl (E.1, 640, .inl (ia pg2_57))), (qn9, .inr (7, [.ref qa9, .int (iI qk2_60)])), (qa9, .inl (E.1, 640, .inl (ia qg2_58))), (h, .inr (9, [.ref mlf, .ref mrt, .ref mpb, .ref mop, .int (iI mtz), .ref mta, .int (iI moz), .ref moa, .long (lI mrl), .long (lI mrh), .int (bI mno), .long (lI mlo), .long (lI mhi), .ref mo1, .ref mo2, .ref mo3, .ref mo4, .int (iI ms9), .int (iI exd), .int (bI mgd), .int (bI mon)])), (mta, .inl (E.1, 400, .inl (ia t)))] := hD
                  have hw : (xr9 = true ↔ XEok t to (re9 + 1) (Int.toNat 3)) ∧ (xr9 = true → exd = if sgN t to (re9 + 1) then -(XE t to (re9 + 1) (Int.toNat 3)).2.1 else (XE t to (re9 + 1) (Int.toNat 3)).2.1) ∧ (-10000000 < exd ∧ exd < 10000000) := hw
                  obtain ⟨hxk, hxx, hxb⟩ := hw
                  refine W.cs (g := F0 m 258 ls [.int (bI xr9)]) (cells' := 0) (slots' := 0) rfl rfl ?_
                  refine wb_if_eq (tgt := 265) hx hb d_Mo_readNumber_258 (by decide) (fun c_71 => ?_) (fun c_71 => ?_)
                  · skip
                    refine wi_iconst (n := 0) hx hb d_Mo_readNumber_265 ?_
                    refine w_as0 ?_
                    refine lv_istore (lv' := [(6, .int (bI false)), (8, .int (iI re9)), (7, .int (iI sl9)), (0, .ref h), (1, .int (iI fr)), (2, .int (iI to)), (3, .ref h4), (4, .int (bI ng9)), (5, .int (iI p9))]) hx hb d_Mo_readNumber_266 hl (by decide) rfl (fun ls hl => ?_)
                    refine lv_iload hx hb d_Mo_readNumber_268 (lv_at hl 0 rfl) ?_
                    refine wb_if_eq (tgt := 286) hx hb d_Mo_readNumber_270 (by decide) (fun c_72 => ?_) (fun c_72 => by exfalso; exact absurd c_72 (by decide))
                    exact K_286 false ms9 exd 0 0 pg2_57 qg2_58 pk2_59 qk2_60 0 false (⟨fun z => (by cases z), fun z => by exfalso; obtain ⟨y1, y2⟩ := hNK.mp z; rw [if_pos y1] at hre; rcases y2 with y2 | ⟨y2, y3, y4⟩ <;> first | omega | (rw [← hre] at y3; exact absurd y3 c_69) | (rw [← hre] at y4; rw [hxk.mpr y4] at c_71; cases c_71)⟩) (fun z => (by cases z)) _ _ _ (lv_sub hl [3, 4, 5, 6, 7, 0] rfl) (hP.sub [5, 6, 0, 1, 2, 3, 4] rfl) (hD.sub [5, 6, 0, 1, 2, 3, 4] (by decide) rfl) hS
                  · skip
                    refine wi_iconst (n := 1) hx hb d_Mo_readNumber_261 ?_
                    refine lv_goto (tgt := 266) hx hb d_Mo_readNumber_262 (by decide) ?_
                    refine w_as1 ?_
                    refine lv_istore (lv' := [(6, .int (bI true)), (8, .int (iI re9)), (7, .int (iI sl9)), (0, .ref h), (1, .int (iI fr)), (2, .int (iI to)), (3, .ref h4), (4, .int (bI ng9)), (5, .int (iI p9))]) hx hb d_Mo_readNumber_266 hl (by decide) rfl (fun ls hl => ?_)
                    refine lv_iload hx hb d_Mo_readNumber_268 (lv_at hl 0 rfl) ?_
                    refine wb_if_eq (tgt := 286) hx hb d_Mo_readNumber_270 (by decide) (fun c_73 => by exfalso; exact absurd c_73 (by decide)) (fun c_73 => ?_)
                    have hc0 : 0 < cd9 := Decidable.byContradiction (fun z => by rw [if_neg z] at hre; omega)
                    rw [if_pos hc0] at hre
                    have hx9 : 0 ≤ (XE t to (re9 + 1) (Int.toNat 3)).2.1 ∧ (XE t to (re9 + 1) (Int.toNat 3)).2.1 < 1000 := XE_3
                    have hxe := hxx c_71
                    have hxr : -1000 < exd ∧ exd < 1000 := by rw [hxe]; split <;> omega
                    refine lv_aload_n hx hb d_Mo_readNumber_273 rfl (lv_at hl 6 rfl) ?_
                    refine lv_aload_n hx hb d_Mo_readNumber_274 rfl (lv_at hl 3 rfl) ?_
                    refine wk_get B hP 5 rfl fl_Mo_183 (v := .int (iI exd)) rfl d_Mo_readNumber_275 ?_
                    refine lv_aload_n hx hb d_Mo_readNumber_278 rfl (lv_at hl 3 rfl) ?_
                    refine wk_get B hP 5 rfl fl_Mo_172 (v := .int (iI ms9)) rfl d_Mo_readNumber_279 ?_
                    refine wi_isub hx hb d_Mo_readNumber_282 ?_
                    refine wk_callS (As := [.ref h4, .int (iI (exd - ms9))]) (rest := []) (wr := [(h, .inr (9, [.ref mlf, .ref mrt, .ref mpb, .ref mop, .int (iI mtz), .ref mta, .int (iI moz), .ref moa, .long (lI mrl), .long (lI mrh), .int (bI mno), .long (lI mlo), .long (lI mhi), .ref mo1, .ref mo2, .ref mo3, .ref mo4, .int (iI ms9), .int (iI exd), .int (bI mgd), .int (bI mon)])), (mta, .inl (E.1, 400, .inl (ia t)))]) B gTB cl_Mo_202 (c_Mo_tens l D E h4 pn9 pa9 qn9 qa9 pg2_57 qg2_58 pk2_59 qk2_60 0 false (exd - ms9) v9 1 (hPd) (hQd) (by omega) (q4950 (rn_fit hvd (by omega) (by omega))) (q4950 (rb_fit (by omega)))) ⟨⟨rfl, rfl⟩, Nat.le_of_ble_eq_true rfl, Nat.le_of_ble_eq_true rfl⟩ hP hD hS [0, 1, 2, 3, 4] [5, 6] rfl rfl (by decide) ⟨hl.2.1, hl.1⟩ rfl (Nat.le_of_ble_eq_true rfl) d_Mo_readNumber_283 ⟨Nat.le_of_ble_eq_true rfl, Nat.le_of_ble_eq_true rfl⟩ rfl (fun u H locs hw hP hD hS => ?_)
                    obtain ⟨pg2_74, qg2_75, pk2_76, qk2_77⟩ := u
                    have hP : va_P D classes [(h, .inr (9, [.ref mlf, .ref mrt, .ref mpb, .ref mop, .int (iI mtz), .ref mta, .int (iI moz), .ref moa, .long (lI mrl), .long (lI mrh), .int (bI mno), .long (lI mlo), .long (lI mhi), .ref mo1, .ref mo2, .ref mo3, .ref mo4, .int (iI ms9), .int (iI exd), .int (bI mgd), .int (bI mon)])), (mta, .inl (E.1, 400, .inl (ia t))), (h4, .inr (8, [.int (bI false), .ref pn9, .ref qn9, .int (iI 0)])), (pn9, .inr (7, [.ref pa9, .int (iI pk2_76)])), (pa9, .inl (E.1, 640, .inl (ia pg2_74))), (qn9, .inr (7, [.ref qa9, .int (iI qk2_77)])), (qa9, .inl (E.1, 640, .inl (ia qg2_75)))] H := hP
                    have hD : va_D A [(h, .inr (9, [.ref mlf, .ref mrt, .ref mpb, .ref mop, .int (iI mtz), .ref mta, .int (iI moz), .ref moa, .long (lI mrl), .long (lI mrh), .int (bI mno), .long (lI mlo), .long (lI mhi), .ref mo1, .ref mo2, .ref mo3, .ref mo4, .int (iI ms9), .int (iI exd), .int (bI mgd), .int (bI mon)])), (mta, .inl (E.1, 400, .inl (ia t))), (h4, .inr (8, [.int (bI false), .ref pn9, .ref qn9, .int (iI 0)])), (pn9, .inr (7, [.ref pa9, .int (iI pk2_76)])), (pa9, .inl (E.1, 640, .inl (ia pg2_74))), (qn9, .inr (7, [.ref qa9, .int (iI qk2_77)])), (qa9, .inl (E.1, 640, .inl (ia qg2_75)))] := hD
                    have hw : (BigOK pg2_74 pk2_76 (v9 * T10 (exd - ms9))) ∧ (BigOK qg2_75 qk2_77 (1 * T10 (-(exd - ms9)))) := hw
                    obtain ⟨hPt, hQt⟩ := hw
                    refine W.cs (g := F0 m 286 ls []) (cells' := 0) (slots' := 0) rfl rfl ?_
                    exact K_286 true ms9 exd (v9 * T10 (exd - ms9)) (1 * T10 (-(exd - ms9))) pg2_74 qg2_75 pk2_76 qk2_77 0 false (⟨fun _ => hNK.mpr ⟨hc0, Or.inr ⟨by omega, by rw [← hre]; exact c_69, by rw [← hre]; exact hxk.mp c_71⟩⟩, fun _ => rfl⟩) (fun _ => ⟨⟨hPt, hQt⟩, by have := T10_pos (-(exd - ms9)); omega, by rw [nqs_d (ex := exd) hw6 (by omega) hnf hDh (by omega) hc0 (Or.inr ⟨by omega, by rw [← hre]; exact c_69, by rw [← hre]; exact hxx c_71⟩), ← hng]; exact NEQ_d, ⟨big310 hPt (rn_fit hvd (by omega) (by omega)), big310 hQt (rb_fit (by omega))⟩, by omega⟩) _ _ _ (lv_sub hl [3, 4, 5, 6, 7, 0] rfl) (hP.sub [0, 1, 2, 3, 4, 5, 6] rfl) (hD.sub [0, 1, 2, 3, 4, 5, 6] (by decide) rfl) hS
          · skip
            have hfb9 := hfb.resolve_left (fun z => by omega)
            refine lv_aload_n hx hb d_Mo_readNumber_193 rfl (lv_at hl 1 rfl) ?_
            refine lv_iload hx hb d_Mo_readNumber_194 (lv_at hl 6 rfl) ?_
            refine lv_iload hx hb d_Mo_readNumber_196 (lv_at hl 0 rfl) ?_
            refine lv_iload_n hx hb d_Mo_readNumber_198 rfl (lv_at hl 3 rfl) ?_
            refine lv_aload_n hx hb d_Mo_readNumber_199 rfl (lv_at hl 4 rfl) ?_
            refine wk_callV (As := [.int (iI p9), .int (iI sl9), .int (iI to), .ref h4]) (rest := []) (wr := []) B gTB cl_Mo_198 (c_Mo_readRatio l D E h mlf mrt mpb mop mtz mta moz moa mrl mrh mno mlo mhi mo1 mo2 mo3 mo4 mms mex mgd mon t h4 pn9 pa9 qn9 qa9 pg9 qg9 pk9 qk9 ee9 be9 p9 sl9 to (by omega) (hT) (hfb9.2.1)) ⟨⟨rfl, rfl⟩, Nat.le_of_ble_eq_true rfl, Nat.le_of_ble_eq_true rfl⟩ hP hD hS [5, 6, 0, 1, 2, 3, 4] [] rfl rfl (by decide) 5 rfl rfl rfl ⟨hl.2.1, hl.1⟩ rfl (Nat.le_of_ble_eq_true rfl) d_Mo_readNumber_200 ⟨Nat.le_of_ble_eq_true rfl, Nat.le_of_ble_eq_true rfl⟩ rfl (fun u H locs hw hP hD hS => ?_)
            obtain ⟨rr9, v9, w9, pg2_78, qg2_79, pk2_80, qk2_81⟩ := u
            have hP : va_P D classes [(h, .inr (9, [.ref mlf, .ref mrt, .ref mpb, .ref mop, .int (iI mtz), .ref mta, .int (iI moz), .ref moa, .long (lI mrl), .long (lI mrh), .int (bI mno), .long (lI mlo), .long (lI mhi), .ref mo1, .ref mo2, .ref mo3, .ref mo4, .int (iI mms), .int (iI mex), .int (bI mgd), .int (bI mon)])), (mta, .inl (E.1, 400, .inl (ia t))), (h4, .inr (8, [.int (bI false), .ref pn9, .ref qn9, .int (iI 0)])), (pn9, .inr (7, [.ref pa9, .int (iI pk2_80)])), (pa9, .inl (E.1, 640, .inl (ia pg2_78))), (qn9, .inr (7, [.ref qa9, .int (iI qk2_81)])), (qa9, .inl (E.1, 640, .inl (ia qg2_79)))] H := hP
            have hD : va_D A [(h, .inr (9, [.ref mlf, .ref mrt, .ref mpb, .ref mop, .int (iI mtz), .ref mta, .int (iI moz), .ref moa, .long (lI mrl), .long (lI mrh), .int (bI mno), .long (lI mlo), .long (lI mhi), .ref mo1, .ref mo2, .ref mo3, .ref mo4, .int (iI mms), .int (iI mex), .int (bI mgd), .int (bI mon)])), (mta, .inl (E.1, 400, .inl (ia t))), (h4, .inr (8, [.int (bI false), .ref pn9, .ref qn9, .int (iI 0)])), (pn9, .inr (7, [.ref pa9, .int (iI pk2_80)])), (pa9, .inl (E.1, 640, .inl (ia pg2_78))), (qn9, .inr (7, [.ref qa9, .int (iI qk2_81)])), (qa9, .inl (E.1, 640, .inl (ia qg2_79)))] := hD
            have hw : (rr9 = true ↔ (RTOK t p9 sl9 to ∧ 0 < (DGs t to 10 false (sl9 + 1) (0, 0, 0, false)).2.1)) ∧ (rr9 = true → (DGs t to 10 true p9 (0, 0, 0, false)).2.1 = v9 ∧ (DGs t to 10 false (sl9 + 1) (0, 0, 0, false)).2.1 = w9) ∧ (BigOK pg2_78 pk2_80 v9) ∧ (BigOK qg2_79 qk2_81 w9) ∧ (0 ≤ v9 ∧ v9 < P2 4950 ∧ 0 ≤ w9 ∧ w9 < P2 4950) := hw
            obtain ⟨hrk, hro, hPd, hQd, hvd⟩ := hw
            refine W.cs (g := F0 m 203 ls [.int (bI rr9)]) (cells' := 0) (slots' := 0) rfl rfl ?_
            refine lv_istore (lv' := [(6, .int (bI rr9)), (7, .int (iI sl9)), (0, .ref h), (1, .int (iI fr)), (2, .int (iI to)), (3, .ref h4), (4, .int (bI ng9)), (5, .int (iI p9))]) hx hb d_Mo_readNumber_203 hl (by decide) rfl (fun ls hl => ?_)
            refine lv_goto (tgt := 286) hx hb d_Mo_readNumber_205 (by decide) ?_
            have hNR := NOK_r (t := t) (a := fr) (b := to) (sl := sl9) hw6 (by omega) hfb9.2.1 (by rw [← hp9]; exact hfb9.2.2)
            rw [← hp9] at hNR
            exact K_286 rr9 mms mex v9 w9 pg2_78 qg2_79 pk2_80 qk2_81 0 false (hrk.trans hNR.symm) (fun z => ⟨⟨hPd, hQd⟩, by have y := (hrk.mp z).2; rw [(hro z).2] at y; exact y, by rw [nqs_r (v := v9) (w := w9) hw6 (by omega) hfb9.2.1 (by rw [← hp9]; exact (hrk.mp z).1) (by rw [← hp9]; exact (hro z).1) (hro z).2, ← hng]; exact NEQ_id, ⟨big310 hPd hvd.2.1, big310 hQd hvd.2.2.2⟩, by omega⟩) _ _ _ (lv_sub hl [2, 3, 4, 5, 6, 0] rfl) (hP.sub [0, 1, 2, 3, 4, 5, 6] rfl) (hD.sub [0, 1, 2, 3, 4, 5, 6] (by decide) rfl) hS
        · skip
          have hw6 : wdB t to (sgP t to fr) 6 = true := by rw [← hp9]; exact (sw_hex (by omega)).mpr ⟨by omega, c_28, c_55⟩
          refine lv_aload_n hx hb d_Mo_readNumber_104 rfl (lv_at hl 1 rfl) ?_
          refine lv_iload hx hb d_Mo_readNumber_105 (lv_at hl 6 rfl) ?_
          refine wi_iconst (n := 2) hx hb d_Mo_readNumber_107 ?_
          refine wi_iadd hx hb d_Mo_readNumber_108 ?_
          refine lv_iload_n hx hb d_Mo_readNumber_109 rfl (lv_at hl 3 rfl) ?_
          refine wi_bipush hx hb d_Mo_readNumber_110 (by decide) ?_
          refine lv_aload_n hx hb d_Mo_readNumber_112 rfl (lv_at hl 4 rfl) ?_
          refine wk_callV (As := [.int (iI (p9 + 2)), .int (iI to), .int (iI 16), .ref h4]) (rest := []) (wr := []) B gTB cl_Mo_190 (c_Mo_readDigits l D E h mlf mrt mpb mop mtz mta moz moa mrl mrh mno mlo mhi mo1 mo2 mo3 mo4 mms mex mgd mon t h4 pn9 pa9 qn9 qa9 pg9 qg9 pk9 qk9 ee9 be9 (p9 + 2) to 16 (by omega) (hT) (Or.inr rfl)) ⟨⟨rfl, rfl⟩, Nat.le_of_ble_eq_true rfl, Nat.le_of_ble_eq_true rfl⟩ hP hD hS [5, 6, 0, 1, 2, 3, 4] [] rfl rfl (by decide) 5 rfl rfl rfl ⟨hl.2.1, hl.1⟩ rfl (Nat.le_of_ble_eq_true rfl) d_Mo_readNumber_113 ⟨Nat.le_of_ble_eq_true rfl, Nat.le_of_ble_eq_true rfl⟩ rfl (fun u H locs hw hP hD hS => ?_)
          obtain ⟨re9, ms9, q9, v9, cd9, hpd9, pg2_82, qg2_83, pk2_84, qk2_85⟩ := u
          have hP : va_P D classes [(h, .inr (9, [.ref mlf, .ref mrt, .ref mpb, .ref mop, .int (iI mtz), .ref mta, .int (iI moz), .ref moa, .long (lI mrl), .long (lI mrh), .int (bI mno), .long (lI mlo), .long (lI mhi), .ref mo1, .ref mo2, .ref mo3, .ref mo4, .int (iI ms9), .int (iI mex), .int (bI mgd), .int (bI mon)])), (mta, .inl (E.1, 400, .inl (ia t))), (h4, .inr (8, [.int (bI false), .ref pn9, .ref qn9, .int (iI 0)])), (pn9, .inr (7, [.ref pa9, .int (iI pk2_84)])), (pa9, .inl (E.1, 640, .inl (ia pg2_82))), (qn9, .inr (7, [.ref qa9, .int (iI qk2_85)])), (qa9, .inl (E.1, 640, .inl (ia qg2_83)))] H := hP
          have hD : va_D A [(h, .inr (9, [.ref mlf, .ref mrt, .ref mpb, .ref mop, .int (iI mtz), .ref mta, .int (iI moz), .ref moa, .long (lI mrl), .long (lI mrh), .int (bI mno), .long (lI mlo), .long (lI mhi), .ref mo1, .ref mo2, .ref mo3, .ref mo4, .int (iI ms9), .int (iI mex), .int (bI mgd), .int (bI mon)])), (mta, .inl (E.1, 400, .inl (ia t))), (h4, .inr (8, [.int (bI false), .ref pn9, .ref qn9, .int (iI 0)])), (pn9, .inr (7, [.ref pa9, .int (iI pk2_84)])), (pa9, .inl (E.1, 640, .inl (ia pg2_82))), (qn9, .inr (7, [.ref qa9, .int (iI qk2_85)])), (qa9, .inl (E.1, 640, .inl (ia qg2_83)))] := hD
          have hw : (DGs t to 16 true (p9 + 2) (0, 0, 0, false) = (q9, v9, cd9, ms9, hpd9)) ∧ (re9 = if 0 < cd9 then q9 else -1) ∧ (BigOK pg2_82 pk2_84 v9) ∧ (BigOK qg2_83 qk2_85 1) ∧ (0 ≤ ms9 ∧ ms9 ≤ cd9 ∧ cd9 ≤ q9 - (p9 + 2)) ∧ ((p9 + 2) ≤ q9 ∧ q9 ≤ to) ∧ (0 ≤ v9 ∧ v9 < P2 (4 * cd9)) := hw
          obtain ⟨hDD, hre, hPd, hQd, hbd, hqd, hvd⟩ := hw
          refine W.cs (g := F0 m 116 ls [.int (iI re9)]) (cells' := 0) (slots' := 0) rfl rfl ?_
          refine lv_istore (lv' := [(8, .int (iI re9)), (7, .int (iI sl9)), (0, .ref h), (1, .int (iI fr)), (2, .int (iI to)), (3, .ref h4), (4, .int (bI ng9)), (5, .int (iI p9))]) hx hb d_Mo_readNumber_116 hl (by decide) rfl (fun ls hl => ?_)
          have hDh : DGs t to 16 true (sgP t to fr + 2) z0 = (q9, v9, cd9, ms9, hpd9) := by rw [← hp9]; exact hDD
          have hNK := NOK_h (t := t) (a := fr) (b := to) hw6 hDh (fun z => (rat_neg z).2)
          have hrer : -1 ≤ re9 ∧ re9 ≤ 400 := by rw [hre]; split <;> omega
          refine lv_iload hx hb d_Mo_readNumber_118 (lv_at hl 0 rfl) ?_
          refine wi_if_lt (tgt := 158) hx hb d_Mo_readNumber_120 (by decide) (by omega) (fun c_86 => ?_) (fun c_86 => ?_)
          · skip
            refine wi_iconst (n := 0) hx hb d_Mo_readNumber_158 ?_
            refine w_as0 ?_
            refine lv_istore (lv' := [(6, .int (bI false)), (8, .int (iI re9)), (7, .int (iI sl9)), (0, .ref h), (1, .int (iI fr)), (2, .int (iI to)), (3, .ref h4), (4, .int (bI ng9)), (5, .int (iI p9))]) hx hb d_Mo_readNumber_159 hl (by decide) rfl (fun ls hl => ?_)
            refine lv_aload_n hx hb d_Mo_readNumber_161 rfl (lv_at hl 6 rfl) ?_
            refine lv_iload hx hb d_Mo_readNumber_162 (lv_at hl 0 rfl) ?_
            refine wb_if_eq (tgt := 181) hx hb d_Mo_readNumber_164 (by decide) (fun c_87 => ?_) (fun c_87 => by exfalso; exact absurd c_87 (by decide))
            refine wi_iconst (n := 0) hx hb d_Mo_readNumber_181 ?_
            refine wk_putN B hP hD hS 2 rfl fn_Num_3 (hE.1 _ (List.mem_of_getElem? (l := nestWs) (i := 10) rfl)) fp_Num_3 (v := .int (iI 0)) rfl rfl (Nat.le_of_ble_eq_true rfl) d_Mo_readNumber_182 (fun H locs hP hD hS => ?_)
            have hP : va_P D classes [(h, .inr (9, [.ref mlf, .ref mrt, .ref mpb, .ref mop, .int (iI mtz), .ref mta, .int (iI moz), .ref moa, .long (lI mrl), .long (lI mrh), .int (bI mno), .long (lI mlo), .long (lI mhi), .ref mo1, .ref mo2, .ref mo3, .ref mo4, .int (iI ms9), .int (iI mex), .int (bI mgd), .int (bI mon)])), (mta, .inl (E.1, 400, .inl (ia t))), (h4, .inr (8, [.int (bI false), .ref pn9, .ref qn9, .int (iI 0)])), (pn9, .inr (7, [.ref pa9, .int (iI pk2_84)])), (pa9, .inl (E.1, 640, .inl (ia pg2_82))), (qn9, .inr (7, [.ref qa9, .int (iI qk2_85)])), (qa9, .inl (E.1, 640, .inl (ia qg2_83)))] H := hP
            have hD : va_D A [(h, .inr (9, [.ref mlf, .ref mrt, .ref mpb, .ref mop, .int (iI mtz), .ref mta, .int (iI moz), .ref moa, .long (lI mrl), .long (lI mrh), .int (bI mno), .long (lI mlo), .long (lI mhi), .ref mo1, .ref mo2, .ref mo3, .ref mo4, .int (iI ms9), .int (iI mex), .int (bI mgd), .int (bI mon)])), (mta, .inl (E.1, 400, .inl (ia t))), (h4, .inr (8, [.int (bI false), .ref pn9, .ref qn9, .int (iI 0)])), (pn9, .inr (7, [.ref pa9, .int (iI pk2_84)])), (pa9, .inl (E.1, 640, .inl (ia pg2_82))), (qn9, .inr (7, [.ref qa9, .int (iI qk2_85)])), (qa9, .inl (E.1, 640, .inl (ia qg2_83)))] := hD
            refine lv_goto (tgt := 286) hx hb d_Mo_readNumber_185 (by decide) ?_
            exact K_286 false ms9 mex 0 0 pg2_82 qg2_83 pk2_84 qk2_85 0 false (⟨fun z => (by cases z), fun z => by exfalso; obtain ⟨y1, y2, y3⟩ := hNK.mp z; rw [if_pos y1] at hre; have y4 := rat_neg (t := t) (n := to) (i := q9) (by rw [y2]; decide); rw [rat_in y4] at y2; first | (omega) | (rw [← hre] at y2; exact absurd y2 c_90) | (rw [← hre] at y3; rw [hxk.mpr y3] at c_92; cases c_92)⟩) (fun z => (by cases z)) _ _ _ (lv_sub hl [3, 4, 5, 6, 7, 0] rfl) (hP.sub [0, 1, 2, 3, 4, 5, 6] rfl) (hD.sub [0, 1, 2, 3, 4, 5, 6] (by decide) rfl) hS
          · skip
            refine lv_iload hx hb d_Mo_readNumber_123 (lv_at hl 0 rfl) ?_
            refine lv_iload_n hx hb d_Mo_readNumber_125 rfl (lv_at hl 4 rfl) ?_
            refine wi_icmp_ge (tgt := 158) hx hb d_Mo_readNumber_126 (by decide) (by omega) (by omega) (fun c_88 => ?_) (fun c_88 => ?_)
            · skip
              refine wi_iconst (n := 0) hx hb d_Mo_readNumber_158 ?_
              refine w_as0 ?_
              refine lv_istore (lv' := [(6, .int (bI false)), (8, .int (iI re9)), (7, .int (iI sl9)), (0, .ref h), (1, .int (iI fr)), (2, .int (iI to)), (3, .ref h4), (4, .int (bI ng9)), (5, .int (iI p9))]) hx hb d_Mo_readNumber_159 hl (by decide) rfl (fun ls hl => ?_)
              refine lv_aload_n hx hb d_Mo_readNumber_161 rfl (lv_at hl 6 rfl) ?_
              refine lv_iload hx hb d_Mo_readNumber_162 (lv_at hl 0 rfl) ?_
              refine wb_if_eq (tgt := 181) hx hb d_Mo_readNumber_164 (by decide) (fun c_89 => ?_) (fun c_89 => by exfalso; exact absurd c_89 (by decide))
              refine wi_iconst (n := 0) hx hb d_Mo_readNumber_181 ?_
              refine wk_putN B hP hD hS 2 rfl fn_Num_3 (hE.1 _ (List.mem_of_getElem? (l := nestWs) (i := 10) rfl)) fp_Num_3 (v := .int (iI 0)) rfl rfl (Nat.le_of_ble_eq_true rfl) d_Mo_readNumber_182 (fun H locs hP hD hS => ?_)
              have hP : va_P D classes [(h, .inr (9, [.ref mlf, .ref mrt, .ref mpb, .ref mop, .int (iI mtz), .ref mta, .int (iI moz), .ref moa, .long (lI mrl), .long (lI mrh), .int (bI mno), .long (lI mlo), .long (lI mhi), .ref mo1, .ref mo2, .ref mo3, .ref mo4, .int (iI ms9), .int (iI mex), .int (bI mgd), .int (bI mon)])), (mta, .inl (E.1, 400, .inl (ia t))), (h4, .inr (8, [.int (bI false), .ref pn9, .ref qn9, .int (iI 0)])), (pn9, .inr (7, [.ref pa9, .int (iI pk2_84)])), (pa9, .inl (E.1, 640, .inl (ia pg2_82))), (qn9, .inr (7, [.ref qa9, .int (iI qk2_85)])), (qa9, .inl (E.1, 640, .inl (ia qg2_83)))] H := hP
              have hD : va_D A [(h, .inr (9, [.ref mlf, .ref mrt, .ref mpb, .ref mop, .int (iI mtz), .ref mta, .int (iI moz), .ref moa, .long (lI mrl), .long (lI mrh), .int (bI mno), .long (lI mlo), .long (lI mhi), .ref mo1, .ref mo2, .ref mo3, .ref mo4, .int (iI ms9), .int (iI mex), .int (bI mgd), .int (bI mon)])), (mta, .inl (E.1, 400, .inl (ia t))), (h4, .inr (8, [.int (bI false), .ref pn9, .ref qn9, .int (iI 0)])), (pn9, .inr (7, [.ref pa9, .int (iI pk2_84)])), (pa9, .inl (E.1, 640, .inl (ia pg2_82))), (qn9, .inr (7, [.ref qa9, .int (iI qk2_85)])), (qa9, .inl (E.1, 640, .inl (ia qg2_83)))] := hD
              refine lv_goto (tgt := 286) hx hb d_Mo_readNumber_185 (by decide) ?_
              exact K_286 false ms9 mex 0 0 pg2_82 qg2_83 pk2_84 qk2_85 0 false (⟨fun z => (by cases z), fun z => by exfalso; obtain ⟨y1, y2, y3⟩ := hNK.mp z; rw [if_pos y1] at hre; have y4 := rat_neg (t := t) (n := to) (i := q9) (by rw [y2]; decide); rw [rat_in y4] at y2; first | (omega) | (rw [← hre] at y2; exact absurd y2 c_90) | (rw [← hre] at y3; rw [hxk.mpr y3] at c_92; cases c_92)⟩) (fun z => (by cases z)) _ _ _ (lv_sub hl [3, 4, 5, 6, 7, 0] rfl) (hP.sub [0, 1, 2, 3, 4, 5, 6] rfl) (hD.sub [0, 1, 2, 3, 4, 5, 6] (by decide) rfl) hS
            · skip
              have hc0 : 0 < cd9 := Decidable.byContradiction (fun z => by rw [if_neg z] at hre; omega)
              have hre2 := hre
              rw [if_pos hc0] at hre2
              have htr := hT re9 (by omega) (by omega)
              refine lv_aload_n hx hb d_Mo_readNumber_129 rfl (lv_at hl 2 rfl) ?_
              refine wk_get B hP 0 rfl fl_Mo_107 (v := .ref mta) rfl d_Mo_readNumber_130 ?_
              refine lv_iload hx hb d_Mo_readNumber_133 (lv_at hl 0 rfl) ?_
              refine wi_iald hx hb hK hP 1 0 rfl rfl (by omega) (by omega) d_Mo_readNumber_135 ?_
              refine wi_bipush hx hb d_Mo_readNumber_136 (by decide) ?_
              refine wi_icmp_ne (tgt := 158) hx hb d_Mo_readNumber_138 (by decide) (by omega) (by omega) (fun c_90 => ?_) (fun c_90 => ?_)
              · skip
                refine wi_iconst (n := 0) hx hb d_Mo_readNumber_158 ?_
                refine w_as0 ?_
                refine lv_istore (lv' := [(6, .int (bI false)), (8, .int (iI re9)), (7, .int (iI sl9)), (0, .ref h), (1, .int (iI fr)), (2, .int (iI to)), (3, .ref h4), (4, .int (bI ng9)), (5, .int (iI p9))]) hx hb d_Mo_readNumber_159 hl (by decide) rfl (fun ls hl => ?_)
                refine lv_aload_n hx hb d_Mo_readNumber_161 rfl (lv_at hl 6 rfl) ?_
                refine lv_iload hx hb d_Mo_readNumber_162 (lv_at hl 0 rfl) ?_
                refine wb_if_eq (tgt := 181) hx hb d_Mo_readNumber_164 (by decide) (fun c_91 => ?_) (fun c_91 => by exfalso; exact absurd c_91 (by decide))
                refine wi_iconst (n := 0) hx hb d_Mo_readNumber_181 ?_
                refine wk_putN B hP hD hS 2 rfl fn_Num_3 (hE.1 _ (List.mem_of_getElem? (l := nestWs) (i := 10) rfl)) fp_Num_3 (v := .int (iI 0)) rfl rfl (Nat.le_of_ble_eq_true rfl) d_Mo_readNumber_182 (fun H locs hP hD hS => ?_)
                have hP : va_P D classes [(h, .inr (9, [.ref mlf, .ref mrt, .ref mpb, .ref mop, .int (iI mtz), .ref mta, .int (iI moz), .ref moa, .long (lI mrl), .long (lI mrh), .int (bI mno), .long (lI mlo), .long (lI mhi), .ref mo1, .ref mo2, .ref mo3, .ref mo4, .int (iI ms9), .int (iI mex), .int (bI mgd), .int (bI mon)])), (mta, .inl (E.1, 400, .inl (ia t))), (h4, .inr (8, [.int (bI false), .ref pn9, .ref qn9, .int (iI 0)])), (pn9, .inr (7, [.ref pa9, .int (iI pk2_84)])), (pa9, .inl (E.1, 640, .inl (ia pg2_82))), (qn9, .inr (7, [.ref qa9, .int (iI qk2_85)])), (qa9, .inl (E.1, 640, .inl (ia qg2_83)))] H := hP
                have hD : va_D A [(h, .inr (9, [.ref mlf, .ref mrt, .ref mpb, .ref mop, .int (iI mtz), .ref mta, .int (iI moz), .ref moa, .long (lI mrl), .long (lI mrh), .int (bI mno), .long (lI mlo), .long (lI mhi), .ref mo1, .ref mo2, .ref mo3, .ref mo4, .int (iI ms9), .int (iI mex), .int (bI mgd), .int (bI mon)])), (mta, .inl (E.1, 400, .inl (ia t))), (h4, .inr (8, [.int (bI false), .ref pn9, .ref qn9, .int (iI 0)])), (pn9, .inr (7, [.ref pa9, .int (iI pk2_84)])), (pa9, .inl (E.1, 640, .inl (ia pg2_82))), (qn9, .inr (7, [.ref qa9, .int (iI qk2_85)])), (qa9, .inl (E.1, 640, .inl (ia qg2_83)))] := hD
                refine lv_goto (tgt := 286) hx hb d_Mo_readNumber_185 (by decide) ?_
                exact K_286 false ms9 mex 0 0 pg2_82 qg2_83 pk2_84 qk2_85 0 false (⟨fun z => (by cases z), fun z => by exfalso; obtain ⟨y1, y2, y3⟩ := hNK.mp z; rw [if_pos y1] at hre; have y4 := rat_neg (t := t) (n := to) (i := q9) (by rw [y2]; decide); rw [rat_in y4] at y2; first | (omega) | (rw [← hre] at y2; exact absurd y2 c_90) | (rw [← hre] at y3; rw [hxk.mpr y3] at c_92; cases c_92)⟩) (fun z => (by cases z)) _ _ _ (lv_sub hl [3, 4, 5, 6, 7, 0] rfl) (hP.sub [0, 1, 2, 3, 4, 5, 6] rfl) (hD.sub [0, 1, 2, 3, 4, 5, 6] (by decide) rfl) hS
              · skip
                refine lv_aload_n hx hb d_Mo_readNumber_141 rfl (lv_at hl 2 rfl) ?_
                refine lv_iload hx hb d_Mo_readNumber_142 (lv_at hl 0 rfl) ?_
                refine wi_iconst (n := 1) hx hb d_Mo_readNumber_144 ?_
                refine wi_iadd hx hb d_Mo_readNumber_145 ?_
                refine lv_iload_n hx hb d_Mo_readNumber_146 rfl (lv_at hl 4 rfl) ?_
                refine wi_iconst (n := 4) hx hb d_Mo_readNumber_147 ?_
                refine wk_callV (As := [.int (iI (re9 + 1)), .int (iI to), .int (iI 4)]) (rest := []) (wr := [(h4, .inr (8, [.int (bI false), .ref pn9, .ref qn9, .int (iI 0)])), (pn9, .inr (7, [.ref pa9, .int (iI pk2_84)])), (pa9, .inl (E.1, 640, .inl (ia pg2_82))), (qn9, .inr (7, [.ref qa9, .int (iI qk2_85)])), (qa9, .inl (E.1, 640, .inl (ia qg2_83)))]) B gTB cl_Mo_194 (c_Mo_readExponent l D E h mlf mrt mpb mop mtz mta moz moa mrl mrh mno mlo mhi mo1 mo2 mo3 mo4 ms9 mex mgd mon t (re9 + 1) to 4 (by omega) (hT) (by omega)) ⟨⟨rfl, rfl⟩, Nat.le_of_ble_eq_true rfl, Nat.le_of_ble_eq_true rfl⟩ hP hD hS [0, 1] [2, 3, 4, 5, 6] rfl rfl (by decide) 0 rfl rfl rfl ⟨hl.2.1, hl.1⟩ rfl (Nat.le_of_ble_eq_true rfl) d_Mo_readNumber_148 ⟨Nat.le_of_ble_eq_true rfl, Nat.le_of_ble_eq_true rfl⟩ rfl (fun u H locs hw hP hD hS => ?_)
                obtain ⟨xr9, exh⟩ := u
                have hP : va_P D classes [(h4, .inr (8, [.int (bI false), .ref pn9, .ref qn9, .int (iI 0)])), (pn9, .inr (7, [.ref pa9, .int (iI pk2_84)])), (pa9, .inl (E.1, 640, .inl (ia pg2_82))), (qn9, .inr (7, [.ref qa9, .int (iI qk2_85)])), (qa9, .inl (E.1, 640, .inl (ia qg2_83))), (h, .inr (9, [.ref mlf, .ref mrt, .ref mpb, .ref mop, .int (iI mtz), .ref mta, .int (iI moz), .ref moa, .long (lI mrl), .long (lI mrh), .int (bI mno), .long (lI mlo), .long (lI mhi), .ref mo1, .ref mo2, .ref mo3, .ref mo4, .int (iI ms9), .int (iI exh), .int (bI mgd), .int (bI mon)])), (mta, .inl (E.1, 400, .inl (ia t)))] H := hP
                have hD : va_D A [(h4, .inr (8, [.int (bI false), .ref pn9, .ref qn9, .int (iI 0)])), (pn9, .inr (7, [.ref pa9, .int (iI pk2_84)])), (pa9, .inl (E.1, 640, .inl (ia pg2_82))), (qn9, .inr (7, [.ref qa9, .int (iI qk2_85)])), (qa9, .inl (E.1, 640, .inl (ia qg2_83))), (h, .inr (9, [.ref mlf, .ref mrt, .ref mpb, .ref mop, .int (iI mtz), .ref mta, .int (iI moz), .ref moa, .long (lI mrl), .long (lI mrh), .int (bI mno), .long (lI mlo), .long (lI mhi), .ref mo1, .ref mo2, .ref mo3, .ref mo4, .int (iI ms9), .int (iI exh), .int (bI mgd), .int (bI mon)])), (mta, .inl (E.1, 400, .inl (ia t)))] := hD
                have hw : (xr9 = true ↔ XEok t to (re9 + 1) (Int.toNat 4)) ∧ (xr9 = true → exh = if sgN t to (re9 + 1) then -(XE t to (re9 + 1) (Int.toNat 4)).2.1 else (XE t to (re9 + 1) (Int.toNat 4)).2.1) ∧ (-10000000 < exh ∧ exh < 10000000) := hw
                obtain ⟨hxk, hxx, hxb⟩ := hw
                refine W.cs (g := F0 m 151 ls [.int (bI xr9)]) (cells' := 0) (slots' := 0) rfl rfl ?_
                refine wb_if_eq (tgt := 158) hx hb d_Mo_readNumber_151 (by decide) (fun c_92 => ?_) (fun c_92 => ?_)
                · skip
                  refine wi_iconst (n := 0) hx hb d_Mo_readNumber_158 ?_
                  refine w_as0 ?_
                  refine lv_istore (lv' := [(6, .int (bI false)), (8, .int (iI re9)), (7, .int (iI sl9)), (0, .ref h), (1, .int (iI fr)), (2, .int (iI to)), (3, .ref h4), (4, .int (bI ng9)), (5, .int (iI p9))]) hx hb d_Mo_readNumber_159 hl (by decide) rfl (fun ls hl => ?_)
                  refine lv_aload_n hx hb d_Mo_readNumber_161 rfl (lv_at hl 6 rfl) ?_
                  refine lv_iload hx hb d_Mo_readNumber_162 (lv_at hl 0 rfl) ?_
                  refine wb_if_eq (tgt := 181) hx hb d_Mo_readNumber_164 (by decide) (fun c_93 => ?_) (fun c_93 => by exfalso; exact absurd c_93 (by decide))
                  refine wi_iconst (n := 0) hx hb d_Mo_readNumber_181 ?_
                  refine wk_putN B hP hD hS 0 rfl fn_Num_3 (hE.1 _ (List.mem_of_getElem? (l := nestWs) (i := 10) rfl)) fp_Num_3 (v := .int (iI 0)) rfl rfl (Nat.le_of_ble_eq_true rfl) d_Mo_readNumber_182 (fun H locs hP hD hS => ?_)
                  have hP : va_P D classes [(h4, .inr (8, [.int (bI false), .ref pn9, .ref qn9, .int (iI 0)])), (pn9, .inr (7, [.ref pa9, .int (iI pk2_84)])), (pa9, .inl (E.1, 640, .inl (ia pg2_82))), (qn9, .inr (7, [.ref qa9, .int (iI qk2_85)])), (qa9, .inl (E.1, 640, .inl (ia qg2_83))), (h, .inr (9, [.ref mlf, .ref mrt, .ref mpb, .ref mop, .int (iI mtz), .ref mta, .int (iI moz), .ref moa, .long (lI mrl), .long (lI mrh), .int (bI mno), .long (lI mlo), .long (lI mhi), .ref mo1, .ref mo2, .ref mo3, .ref mo4, .int (iI ms9), .int (iI exh), .int (bI mgd), .int (bI mon)])), (mta, .inl (E.1, 400, .inl (ia t)))] H := hP
                  have hD : va_D A [(h4, .inr (8, [.int (bI false), .ref pn9, .ref qn9, .int (iI 0)])), (pn9, .inr (7, [.ref pa9, .int (iI pk2_84)])), (pa9, .inl (E.1, 640, .inl (ia pg2_82))), (qn9, .inr (7, [.ref qa9, .int (iI qk2_85)])), (qa9, .inl (E.1, 640, .inl (ia qg2_83))), (h, .inr (9, [.ref mlf, .ref mrt, .ref mpb, .ref mop, .int (iI mtz), .ref mta, .int (iI moz), .ref moa, .long (lI mrl), .long (lI mrh), .int (bI mno), .long (lI mlo), .long (lI mhi), .ref mo1, .ref mo2, .ref mo3, .ref mo4, .int (iI ms9), .int (iI exh), .int (bI mgd), .int (bI mon)])), (mta, .inl (E.1, 400, .inl (ia t)))] := hD
                  refine lv_goto (tgt := 286) hx hb d_Mo_readNumber_185 (by decide) ?_
                  exact K_286 false ms9 exh 0 0 pg2_82 qg2_83 pk2_84 qk2_85 0 false (⟨fun z => (by cases z), fun z => by exfalso; obtain ⟨y1, y2, y3⟩ := hNK.mp z; rw [if_pos y1] at hre; have y4 := rat_neg (t := t) (n := to) (i := q9) (by rw [y2]; decide); rw [rat_in y4] at y2; first | (omega) | (rw [← hre] at y2; exact absurd y2 c_90) | (rw [← hre] at y3; rw [hxk.mpr y3] at c_92; cases c_92)⟩) (fun z => (by cases z)) _ _ _ (lv_sub hl [3, 4, 5, 6, 7, 0] rfl) (hP.sub [5, 6, 0, 1, 2, 3, 4] rfl) (hD.sub [5, 6, 0, 1, 2, 3, 4] (by decide) rfl) hS
                · skip
                  refine wi_iconst (n := 1) hx hb d_Mo_readNumber_154 ?_
                  refine lv_goto (tgt := 159) hx hb d_Mo_readNumber_155 (by decide) ?_
                  refine w_as1 ?_
                  refine lv_istore (lv' := [(6, .int (bI true)), (8, .int (iI re9)), (7, .int (iI sl9)), (0, .ref h), (1, .int (iI fr)), (2, .int (iI to)), (3, .ref h4), (4, .int (bI ng9)), (5, .int (iI p9))]) hx hb d_Mo_readNumber_159 hl (by decide) rfl (fun ls hl => ?_)
                  refine lv_aload_n hx hb d_Mo_readNumber_161 rfl (lv_at hl 6 rfl) ?_
                  refine lv_iload hx hb d_Mo_readNumber_162 (lv_at hl 0 rfl) ?_
                  refine wb_if_eq (tgt := 181) hx hb d_Mo_readNumber_164 (by decide) (fun c_94 => by exfalso; exact absurd c_94 (by decide)) (fun c_94 => ?_)
                  refine lv_aload_n hx hb d_Mo_readNumber_167 rfl (lv_at hl 3 rfl) ?_
                  refine wk_get B hP 5 rfl fl_Mo_183 (v := .int (iI exh)) rfl d_Mo_readNumber_168 ?_
                  refine wi_iconst (n := 4) hx hb d_Mo_readNumber_171 ?_
                  refine lv_aload_n hx hb d_Mo_readNumber_172 rfl (lv_at hl 3 rfl) ?_
                  refine wk_get B hP 5 rfl fl_Mo_172 (v := .int (iI ms9)) rfl d_Mo_readNumber_173 ?_
                  refine wi_imul hx hb d_Mo_readNumber_176 ?_
                  refine wi_isub hx hb d_Mo_readNumber_177 ?_
                  refine lv_goto (tgt := 182) hx hb d_Mo_readNumber_178 (by decide) ?_
                  refine wk_putN B hP hD hS 0 rfl fn_Num_3 (hE.1 _ (List.mem_of_getElem? (l := nestWs) (i := 10) rfl)) fp_Num_3 (v := .int (iI (exh - (4 * ms9)))) rfl rfl (Nat.le_of_ble_eq_true rfl) d_Mo_readNumber_182 (fun H locs hP hD hS => ?_)
                  have hP : va_P D classes [(h4, .inr (8, [.int (bI false), .ref pn9, .ref qn9, .int (iI (exh - (4 * ms9)))])), (pn9, .inr (7, [.ref pa9, .int (iI pk2_84)])), (pa9, .inl (E.1, 640, .inl (ia pg2_82))), (qn9, .inr (7, [.ref qa9, .int (iI qk2_85)])), (qa9, .inl (E.1, 640, .inl (ia qg2_83))), (h, .inr (9, [.ref mlf, .ref mrt, .ref mpb, .ref mop, .int (iI mtz), .ref mta, .int (iI moz), .ref moa, .long (lI mrl), .long (lI mrh), .int (bI mno), .long (lI mlo), .long (lI mhi), .ref mo1, .ref mo2, .ref mo3, .ref mo4, .int (iI ms9), .int (iI exh), .int (bI mgd), .int (bI mon)])), (mta, .inl (E.1, 400, .inl (ia t)))] H := hP
                  have hD : va_D A [(h4, .inr (8, [.int (bI false), .ref pn9, .ref qn9, .int (iI (exh - (4 * ms9)))])), (pn9, .inr (7, [.ref pa9, .int (iI pk2_84)])), (pa9, .inl (E.1, 640, .inl (ia pg2_82))), (qn9, .inr (7, [.ref qa9, .int (iI qk2_85)])), (qa9, .inl (E.1, 640, .inl (ia qg2_83))), (h, .inr (9, [.ref mlf, .ref mrt, .ref mpb, .ref mop, .int (iI mtz), .ref mta, .int (iI moz), .ref moa, .long (lI mrl), .long (lI mrh), .int (bI mno), .long (lI mlo), .long (lI mhi), .ref mo1, .ref mo2, .ref mo3, .ref mo4, .int (iI ms9), .int (iI exh), .int (bI mgd), .int (bI mon)])), (mta, .inl (E.1, 400, .inl (ia t)))] := hD
                  refine lv_goto (tgt := 286) hx hb d_Mo_readNumber_185 (by decide) ?_
                  have hx9 : 0 ≤ (XE t to (re9 + 1) (Int.toNat 4)).2.1 ∧ (XE t to (re9 + 1) (Int.toNat 4)).2.1 < 10000 := XE_4
                  have hxr : -10000 < exh ∧ exh < 10000 := by rw [hxx c_92]; split <;> omega
                  exact K_286 true ms9 exh v9 1 pg2_82 qg2_83 pk2_84 qk2_85 (exh - (4 * ms9)) false (⟨fun _ => hNK.mpr ⟨hc0, by rw [← hre2, rat_in (by omega)]; exact c_90, by rw [← hre2]; exact hxk.mp c_92⟩, fun _ => rfl⟩) (fun _ => ⟨⟨hPd, hQd⟩, by decide, by rw [nqs_h (ex := exh) hw6 hDh hc0 (by rw [← hre2, rat_in (by omega)]; exact c_90) (by rw [← hre2]; exact hxx c_92), ← hng]; exact NEQ_id, ⟨big310 hPd (p4950 hvd.2 (by omega)), big310 hQd one4950⟩, by omega⟩) _ _ _ (lv_sub hl [3, 4, 5, 6, 7, 0] rfl) (hP.sub [5, 6, 0, 1, 2, 3, 4] rfl) (hD.sub [5, 6, 0, 1, 2, 3, 4] (by decide) rfl) hS
  refine lv_iload_n hx hb d_Mo_readNumber_0 rfl (lv_at hl 1 rfl) ?_
  refine lv_iload_n hx hb d_Mo_readNumber_1 rfl (lv_at hl 2 rfl) ?_
  refine wi_icmp_ge (tgt := 20) hx hb d_Mo_readNumber_2 (by decide) (by omega) (by omega) (fun c_95 => ?_) (fun c_95 => ?_)
  · skip
    refine wi_iconst (n := 0) hx hb d_Mo_readNumber_20 ?_
    refine w_as0 ?_
    refine lv_istore (lv' := [(4, .int (bI false)), (0, .ref h), (1, .int (iI fr)), (2, .int (iI to)), (3, .ref h4)]) hx hb d_Mo_readNumber_21 hl (by decide) rfl (fun ls hl => ?_)
    refine lv_iload_n hx hb d_Mo_readNumber_23 rfl (lv_at hl 2 rfl) ?_
    refine lv_iload_n hx hb d_Mo_readNumber_24 rfl (lv_at hl 3 rfl) ?_
    refine wi_icmp_ge (tgt := 56) hx hb d_Mo_readNumber_25 (by decide) (by omega) (by omega) (fun c_96 => ?_) (fun c_96 => ?_)
    · skip
      refine lv_iload_n hx hb d_Mo_readNumber_56 rfl (lv_at hl 2 rfl) ?_
      refine lv_istore (lv' := [(5, .int (iI fr)), (4, .int (bI false)), (0, .ref h), (1, .int (iI fr)), (2, .int (iI to)), (3, .ref h4)]) hx hb d_Mo_readNumber_57 hl (by decide) rfl (fun ls hl => ?_)
      exact K_59 false fr (by unfold sgN; rw [decide_eq_false (by first | (rw [hrf]; omega) | (rw [rat_out (by omega)]; omega))]) (by unfold sgP; rw [if_neg (by first | (rw [hrf]; omega) | (rw [rat_out (by omega)]; omega))]) _ _ _ (lv_sub hl [2, 3, 4, 5, 1, 0] rfl) (hP.sub [0, 1, 2, 3, 4, 5, 6] rfl) (hD.sub [0, 1, 2, 3, 4, 5, 6] (by decide) rfl) hS
    · skip
      have htf := hT fr (by omega) (by omega)
      have hrf := rat_in (t := t) (n := to) (i := fr) (by omega)
      refine lv_aload_n hx hb d_Mo_readNumber_28 rfl (lv_at hl 1 rfl) ?_
      refine wk_get B hP 0 rfl fl_Mo_107 (v := .ref mta) rfl d_Mo_readNumber_29 ?_
      refine lv_iload_n hx hb d_Mo_readNumber_32 rfl (lv_at hl 2 rfl) ?_
      refine wi_iald hx hb hK hP 1 0 rfl rfl (by omega) (by omega) d_Mo_readNumber_33 ?_
      refine wi_bipush hx hb d_Mo_readNumber_34 (by decide) ?_
      refine wi_icmp_eq (tgt := 50) hx hb d_Mo_readNumber_36 (by decide) (by omega) (by omega) (fun c_97 => ?_) (fun c_97 => ?_)
      · skip
        refine lv_iload_n hx hb d_Mo_readNumber_50 rfl (lv_at hl 2 rfl) ?_
        refine wi_iconst (n := 1) hx hb d_Mo_readNumber_51 ?_
        refine wi_iadd hx hb d_Mo_readNumber_52 ?_
        refine lv_goto (tgt := 57) hx hb d_Mo_readNumber_53 (by decide) ?_
        refine lv_istore (lv' := [(5, .int (iI (fr + 1))), (4, .int (bI false)), (0, .ref h), (1, .int (iI fr)), (2, .int (iI to)), (3, .ref h4)]) hx hb d_Mo_readNumber_57 hl (by decide) rfl (fun ls hl => ?_)
        exact K_59 false (fr + 1) (by unfold sgN; rw [decide_eq_false (by first | (rw [hrf]; omega) | (rw [rat_out (by omega)]; omega))]) (by unfold sgP; rw [if_pos (by rw [hrf]; omega)]) _ _ _ (lv_sub hl [2, 3, 4, 5, 1, 0] rfl) (hP.sub [0, 1, 2, 3, 4, 5, 6] rfl) (hD.sub [0, 1, 2, 3, 4, 5, 6] (by decide) rfl) hS
      · skip
        refine lv_aload_n hx hb d_Mo_readNumber_39 rfl (lv_at hl 1 rfl) ?_
        refine wk_get B hP 0 rfl fl_Mo_107 (v := .ref mta) rfl d_Mo_readNumber_40 ?_
        refine lv_iload_n hx hb d_Mo_readNumber_43 rfl (lv_at hl 2 rfl) ?_
        refine wi_iald hx hb hK hP 1 0 rfl rfl (by omega) (by omega) d_Mo_readNumber_44 ?_
        refine wi_bipush hx hb d_Mo_readNumber_45 (by decide) ?_
        refine wi_icmp_ne (tgt := 56) hx hb d_Mo_readNumber_47 (by decide) (by omega) (by omega) (fun c_98 => ?_) (fun c_98 => ?_)
        · skip
          refine lv_iload_n hx hb d_Mo_readNumber_56 rfl (lv_at hl 2 rfl) ?_
          refine lv_istore (lv' := [(5, .int (iI fr)), (4, .int (bI false)), (0, .ref h), (1, .int (iI fr)), (2, .int (iI to)), (3, .ref h4)]) hx hb d_Mo_readNumber_57 hl (by decide) rfl (fun ls hl => ?_)
          exact K_59 false fr (by unfold sgN; rw [decide_eq_false (by first | (rw [hrf]; omega) | (rw [rat_out (by omega)]; omega))]) (by unfold sgP; rw [if_neg (by first | (rw [hrf]; omega) | (rw [rat_out (by omega)]; omega))]) _ _ _ (lv_sub hl [2, 3, 4, 5, 1, 0] rfl) (hP.sub [0, 1, 2, 3, 4, 5, 6] rfl) (hD.sub [0, 1, 2, 3, 4, 5, 6] (by decide) rfl) hS
        · skip
          refine lv_iload_n hx hb d_Mo_readNumber_50 rfl (lv_at hl 2 rfl) ?_
          refine wi_iconst (n := 1) hx hb d_Mo_readNumber_51 ?_
          refine wi_iadd hx hb d_Mo_readNumber_52 ?_
          refine lv_goto (tgt := 57) hx hb d_Mo_readNumber_53 (by decide) ?_
          refine lv_istore (lv' := [(5, .int (iI (fr + 1))), (4, .int (bI false)), (0, .ref h), (1, .int (iI fr)), (2, .int (iI to)), (3, .ref h4)]) hx hb d_Mo_readNumber_57 hl (by decide) rfl (fun ls hl => ?_)
          exact K_59 false (fr + 1) (by unfold sgN; rw [decide_eq_false (by first | (rw [hrf]; omega) | (rw [rat_out (by omega)]; omega))]) (by unfold sgP; rw [if_pos (by rw [hrf]; omega)]) _ _ _ (lv_sub hl [2, 3, 4, 5, 1, 0] rfl) (hP.sub [0, 1, 2, 3, 4, 5, 6] rfl) (hD.sub [0, 1, 2, 3, 4, 5, 6] (by decide) rfl) hS
  · skip
    have htf := hT fr (by omega) (by omega)
    have hrf := rat_in (t := t) (n := to) (i := fr) (by omega)
    refine lv_aload_n hx hb d_Mo_readNumber_5 rfl (lv_at hl 0 rfl) ?_
    refine wk_get B hP 0 rfl fl_Mo_107 (v := .ref mta) rfl d_Mo_readNumber_6 ?_
    refine lv_iload_n hx hb d_Mo_readNumber_9 rfl (lv_at hl 1 rfl) ?_
    refine wi_iald hx hb hK hP 1 0 rfl rfl (by omega) (by omega) d_Mo_readNumber_10 ?_
    refine wi_bipush hx hb d_Mo_readNumber_11 (by decide) ?_
    refine wi_icmp_ne (tgt := 20) hx hb d_Mo_readNumber_13 (by decide) (by omega) (by omega) (fun c_99 => ?_) (fun c_99 => ?_)
    · skip
      refine wi_iconst (n := 0) hx hb d_Mo_readNumber_20 ?_
      refine w_as0 ?_
      refine lv_istore (lv' := [(4, .int (bI false)), (0, .ref h), (1, .int (iI fr)), (2, .int (iI to)), (3, .ref h4)]) hx hb d_Mo_readNumber_21 hl (by decide) rfl (fun ls hl => ?_)
      refine lv_iload_n hx hb d_Mo_readNumber_23 rfl (lv_at hl 2 rfl) ?_
      refine lv_iload_n hx hb d_Mo_readNumber_24 rfl (lv_at hl 3 rfl) ?_
      refine wi_icmp_ge (tgt := 56) hx hb d_Mo_readNumber_25 (by decide) (by omega) (by omega) (fun c_100 => ?_) (fun c_100 => ?_)
      · skip
        refine lv_iload_n hx hb d_Mo_readNumber_56 rfl (lv_at hl 2 rfl) ?_
        refine lv_istore (lv' := [(5, .int (iI fr)), (4, .int (bI false)), (0, .ref h), (1, .int (iI fr)), (2, .int (iI to)), (3, .ref h4)]) hx hb d_Mo_readNumber_57 hl (by decide) rfl (fun ls hl => ?_)
        exact K_59 false fr (by unfold sgN; rw [decide_eq_false (by first | (rw [hrf]; omega) | (rw [rat_out (by omega)]; omega))]) (by unfold sgP; rw [if_neg (by first | (rw [hrf]; omega) | (rw [rat_out (by omega)]; omega))]) _ _ _ (lv_sub hl [2, 3, 4, 5, 1, 0] rfl) (hP.sub [0, 1, 2, 3, 4, 5, 6] rfl) (hD.sub [0, 1, 2, 3, 4, 5, 6] (by decide) rfl) hS
      · skip
        have htf := hT fr (by omega) (by omega)
        have hrf := rat_in (t := t) (n := to) (i := fr) (by omega)
        refine lv_aload_n hx hb d_Mo_readNumber_28 rfl (lv_at hl 1 rfl) ?_
        refine wk_get B hP 0 rfl fl_Mo_107 (v := .ref mta) rfl d_Mo_readNumber_29 ?_
        refine lv_iload_n hx hb d_Mo_readNumber_32 rfl (lv_at hl 2 rfl) ?_
        refine wi_iald hx hb hK hP 1 0 rfl rfl (by omega) (by omega) d_Mo_readNumber_33 ?_
        refine wi_bipush hx hb d_Mo_readNumber_34 (by decide) ?_
        refine wi_icmp_eq (tgt := 50) hx hb d_Mo_readNumber_36 (by decide) (by omega) (by omega) (fun c_101 => ?_) (fun c_101 => ?_)
        · skip
          refine lv_iload_n hx hb d_Mo_readNumber_50 rfl (lv_at hl 2 rfl) ?_
          refine wi_iconst (n := 1) hx hb d_Mo_readNumber_51 ?_
          refine wi_iadd hx hb d_Mo_readNumber_52 ?_
          refine lv_goto (tgt := 57) hx hb d_Mo_readNumber_53 (by decide) ?_
          refine lv_istore (lv' := [(5, .int (iI (fr + 1))), (4, .int (bI false)), (0, .ref h), (1, .int (iI fr)), (2, .int (iI to)), (3, .ref h4)]) hx hb d_Mo_readNumber_57 hl (by decide) rfl (fun ls hl => ?_)
          exact K_59 false (fr + 1) (by unfold sgN; rw [decide_eq_false (by first | (rw [hrf]; omega) | (rw [rat_out (by omega)]; omega))]) (by unfold sgP; rw [if_pos (by rw [hrf]; omega)]) _ _ _ (lv_sub hl [2, 3, 4, 5, 1, 0] rfl) (hP.sub [0, 1, 2, 3, 4, 5, 6] rfl) (hD.sub [0, 1, 2, 3, 4, 5, 6] (by decide) rfl) hS
        · skip
          refine lv_aload_n hx hb d_Mo_readNumber_39 rfl (lv_at hl 1 rfl) ?_
          refine wk_get B hP 0 rfl fl_Mo_107 (v := .ref mta) rfl d_Mo_readNumber_40 ?_
          refine lv_iload_n hx hb d_Mo_readNumber_43 rfl (lv_at hl 2 rfl) ?_
          refine wi_iald hx hb hK hP 1 0 rfl rfl (by omega) (by omega) d_Mo_readNumber_44 ?_
          refine wi_bipush hx hb d_Mo_readNumber_45 (by decide) ?_
          refine wi_icmp_ne (tgt := 56) hx hb d_Mo_readNumber_47 (by decide) (by omega) (by omega) (fun c_102 => ?_) (fun c_102 => ?_)
          · skip
            refine lv_iload_n hx hb d_Mo_readNumber_56 rfl (lv_at hl 2 rfl) ?_
            refine lv_istore (lv' := [(5, .int (iI fr)), (4, .int (bI false)), (0, .ref h), (1, .int (iI fr)), (2, .int (iI to)), (3, .ref h4)]) hx hb d_Mo_readNumber_57 hl (by decide) rfl (fun ls hl => ?_)
            exact K_59 false fr (by unfold sgN; rw [decide_eq_false (by first | (rw [hrf]; omega) | (rw [rat_out (by omega)]; omega))]) (by unfold sgP; rw [if_neg (by first | (rw [hrf]; omega) | (rw [rat_out (by omega)]; omega))]) _ _ _ (lv_sub hl [2, 3, 4, 5, 1, 0] rfl) (hP.sub [0, 1, 2, 3, 4, 5, 6] rfl) (hD.sub [0, 1, 2, 3, 4, 5, 6] (by decide) rfl) hS
          · skip
            refine lv_iload_n hx hb d_Mo_readNumber_50 rfl (lv_at hl 2 rfl) ?_
            refine wi_iconst (n := 1) hx hb d_Mo_readNumber_51 ?_
            refine wi_iadd hx hb d_Mo_readNumber_52 ?_
            refine lv_goto (tgt := 57) hx hb d_Mo_readNumber_53 (by decide) ?_
            refine lv_istore (lv' := [(5, .int (iI (fr + 1))), (4, .int (bI false)), (0, .ref h), (1, .int (iI fr)), (2, .int (iI to)), (3, .ref h4)]) hx hb d_Mo_readNumber_57 hl (by decide) rfl (fun ls hl => ?_)
            exact K_59 false (fr + 1) (by unfold sgN; rw [decide_eq_false (by first | (rw [hrf]; omega) | (rw [rat_out (by omega)]; omega))]) (by unfold sgP; rw [if_pos (by rw [hrf]; omega)]) _ _ _ (lv_sub hl [2, 3, 4, 5, 1, 0] rfl) (hP.sub [0, 1, 2, 3, 4, 5, 6] rfl) (hD.sub [0, 1, 2, 3, 4, 5, 6] (by decide) rfl) hS
    · skip
      refine wi_iconst (n := 1) hx hb d_Mo_readNumber_16 ?_
      refine lv_goto (tgt := 21) hx hb d_Mo_readNumber_17 (by decide) ?_
      refine w_as1 ?_
      refine lv_istore (lv' := [(4, .int (bI true)), (0, .ref h), (1, .int (iI fr)), (2, .int (iI to)), (3, .ref h4)]) hx hb d_Mo_readNumber_21 hl (by decide) rfl (fun ls hl => ?_)
      refine lv_iload_n hx hb d_Mo_readNumber_23 rfl (lv_at hl 2 rfl) ?_
      refine lv_iload_n hx hb d_Mo_readNumber_24 rfl (lv_at hl 3 rfl) ?_
      refine wi_icmp_ge (tgt := 56) hx hb d_Mo_readNumber_25 (by decide) (by omega) (by omega) (fun c_103 => ?_) (fun c_103 => ?_)
      · skip
        refine lv_iload_n hx hb d_Mo_readNumber_56 rfl (lv_at hl 2 rfl) ?_
        refine lv_istore (lv' := [(5, .int (iI fr)), (4, .int (bI true)), (0, .ref h), (1, .int (iI fr)), (2, .int (iI to)), (3, .ref h4)]) hx hb d_Mo_readNumber_57 hl (by decide) rfl (fun ls hl => ?_)
        exact K_59 true fr (by unfold sgN; rw [hrf, decide_eq_true (by omega)]) (by unfold sgP; rw [if_neg (by first | (rw [hrf]; omega) | (rw [rat_out (by omega)]; omega))]) _ _ _ (lv_sub hl [2, 3, 4, 5, 1, 0] rfl) (hP.sub [0, 1, 2, 3, 4, 5, 6] rfl) (hD.sub [0, 1, 2, 3, 4, 5, 6] (by decide) rfl) hS
      · skip
        have htf := hT fr (by omega) (by omega)
        have hrf := rat_in (t := t) (n := to) (i := fr) (by omega)
        refine lv_aload_n hx hb d_Mo_readNumber_28 rfl (lv_at hl 1 rfl) ?_
        refine wk_get B hP 0 rfl fl_Mo_107 (v := .ref mta) rfl d_Mo_readNumber_29 ?_
        refine lv_iload_n hx hb d_Mo_readNumber_32 rfl (lv_at hl 2 rfl) ?_
        refine wi_iald hx hb hK hP 1 0 rfl rfl (by omega) (by omega) d_Mo_readNumber_33 ?_
        refine wi_bipush hx hb d_Mo_readNumber_34 (by decide) ?_
        refine wi_icmp_eq (tgt := 50) hx hb d_Mo_readNumber_36 (by decide) (by omega) (by omega) (fun c_104 => ?_) (fun c_104 => ?_)
        · skip
          refine lv_iload_n hx hb d_Mo_readNumber_50 rfl (lv_at hl 2 rfl) ?_
          refine wi_iconst (n := 1) hx hb d_Mo_readNumber_51 ?_
          refine wi_iadd hx hb d_Mo_readNumber_52 ?_
          refine lv_goto (tgt := 57) hx hb d_Mo_readNumber_53 (by decide) ?_
          refine lv_istore (lv' := [(5, .int (iI (fr + 1))), (4, .int (bI true)), (0, .ref h), (1, .int (iI fr)), (2, .int (iI to)), (3, .ref h4)]) hx hb d_Mo_readNumber_57 hl (by decide) rfl (fun ls hl => ?_)
          exact K_59 true (fr + 1) (by unfold sgN; rw [hrf, decide_eq_true (by omega)]) (by unfold sgP; rw [if_pos (by rw [hrf]; omega)]) _ _ _ (lv_sub hl [2, 3, 4, 5, 1, 0] rfl) (hP.sub [0, 1, 2, 3, 4, 5, 6] rfl) (hD.sub [0, 1, 2, 3, 4, 5, 6] (by decide) rfl) hS
        · skip
          refine lv_aload_n hx hb d_Mo_readNumber_39 rfl (lv_at hl 1 rfl) ?_
          refine wk_get B hP 0 rfl fl_Mo_107 (v := .ref mta) rfl d_Mo_readNumber_40 ?_
          refine lv_iload_n hx hb d_Mo_readNumber_43 rfl (lv_at hl 2 rfl) ?_
          refine wi_iald hx hb hK hP 1 0 rfl rfl (by omega) (by omega) d_Mo_readNumber_44 ?_
          refine wi_bipush hx hb d_Mo_readNumber_45 (by decide) ?_
          refine wi_icmp_ne (tgt := 56) hx hb d_Mo_readNumber_47 (by decide) (by omega) (by omega) (fun c_105 => ?_) (fun c_105 => ?_)
          · skip
            refine lv_iload_n hx hb d_Mo_readNumber_56 rfl (lv_at hl 2 rfl) ?_
            refine lv_istore (lv' := [(5, .int (iI fr)), (4, .int (bI true)), (0, .ref h), (1, .int (iI fr)), (2, .int (iI to)), (3, .ref h4)]) hx hb d_Mo_readNumber_57 hl (by decide) rfl (fun ls hl => ?_)
            exact K_59 true fr (by unfold sgN; rw [hrf, decide_eq_true (by omega)]) (by unfold sgP; rw [if_neg (by first | (rw [hrf]; omega) | (rw [rat_out (by omega)]; omega))]) _ _ _ (lv_sub hl [2, 3, 4, 5, 1, 0] rfl) (hP.sub [0, 1, 2, 3, 4, 5, 6] rfl) (hD.sub [0, 1, 2, 3, 4, 5, 6] (by decide) rfl) hS
          · skip
            refine lv_iload_n hx hb d_Mo_readNumber_50 rfl (lv_at hl 2 rfl) ?_
            refine wi_iconst (n := 1) hx hb d_Mo_readNumber_51 ?_
            refine wi_iadd hx hb d_Mo_readNumber_52 ?_
            refine lv_goto (tgt := 57) hx hb d_Mo_readNumber_53 (by decide) ?_
            refine lv_istore (lv' := [(5, .int (iI (fr + 1))), (4, .int (bI true)), (0, .ref h), (1, .int (iI fr)), (2, .int (iI to)), (3, .ref h4)]) hx hb d_Mo_readNumber_57 hl (by decide) rfl (fun ls hl => ?_)
            exact K_59 true (fr + 1) (by unfold sgN; rw [hrf, decide_eq_true (by omega)]) (by unfold sgP; rw [if_pos (by rw [hrf]; omega)]) _ _ _ (lv_sub hl [2, 3, 4, 5, 1, 0] rfl) (hP.sub [0, 1, 2, 3, 4, 5, 6] rfl) (hD.sub [0, 1, 2, 3, 4, 5, 6] (by decide) rfl) hS
