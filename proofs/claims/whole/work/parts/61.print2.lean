/-! Printer: addDecimal -/
abbrev b_Printer_addDecimal : ByteArray := prog_4_method_6_code
def y_Printer_addDecimal : MethodName := ⟨"IntervalText$Printer", "addDecimal", "(JIZ)V"⟩
theorem d_Printer_addDecimal_0 : decode b_Printer_addDecimal 0 = .ok (.lload_n 1, 1) := by decide +kernel
theorem d_Printer_addDecimal_1 : decode b_Printer_addDecimal 1 = .ok (.bipush 52, 2) := by decide +kernel
theorem d_Printer_addDecimal_3 : decode b_Printer_addDecimal 3 = .ok (.lshr, 1) := by decide +kernel
theorem d_Printer_addDecimal_4 : decode b_Printer_addDecimal 4 = .ok (.l2i, 1) := by decide +kernel
theorem d_Printer_addDecimal_5 : decode b_Printer_addDecimal 5 = .ok (.istore 5, 2) := by decide +kernel
theorem d_Printer_addDecimal_7 : decode b_Printer_addDecimal 7 = .ok (.aload_n 0, 1) := by decide +kernel
theorem d_Printer_addDecimal_8 : decode b_Printer_addDecimal 8 = .ok (.getfield 22, 3) := by decide +kernel
theorem d_Printer_addDecimal_11 : decode b_Printer_addDecimal 11 = .ok (.iconst 0, 1) := by decide +kernel
theorem d_Printer_addDecimal_12 : decode b_Printer_addDecimal 12 = .ok (.invokevirtual 82, 3) := by decide +kernel
theorem d_Printer_addDecimal_15 : decode b_Printer_addDecimal 15 = .ok (.aload_n 0, 1) := by decide +kernel
theorem d_Printer_addDecimal_16 : decode b_Printer_addDecimal 16 = .ok (.getfield 22, 3) := by decide +kernel
theorem d_Printer_addDecimal_19 : decode b_Printer_addDecimal 19 = .ok (.getfield 86, 3) := by decide +kernel
theorem d_Printer_addDecimal_22 : decode b_Printer_addDecimal 22 = .ok (.iload 5, 2) := by decide +kernel
theorem d_Printer_addDecimal_24 : decode b_Printer_addDecimal 24 = .ok (.ifCond .ne 7, 3) := by decide +kernel
theorem d_Printer_addDecimal_27 : decode b_Printer_addDecimal 27 = .ok (.lload_n 1, 1) := by decide +kernel
theorem d_Printer_addDecimal_28 : decode b_Printer_addDecimal 28 = .ok (.goto 12, 3) := by decide +kernel
theorem d_Printer_addDecimal_31 : decode b_Printer_addDecimal 31 = .ok (.lload_n 1, 1) := by decide +kernel
theorem d_Printer_addDecimal_32 : decode b_Printer_addDecimal 32 = .ok (.ldc2_w 90, 3) := by decide +kernel
theorem d_Printer_addDecimal_35 : decode b_Printer_addDecimal 35 = .ok (.land, 1) := by decide +kernel
theorem d_Printer_addDecimal_36 : decode b_Printer_addDecimal 36 = .ok (.ldc2_w 92, 3) := by decide +kernel
theorem d_Printer_addDecimal_39 : decode b_Printer_addDecimal 39 = .ok (.lor, 1) := by decide +kernel
theorem d_Printer_addDecimal_40 : decode b_Printer_addDecimal 40 = .ok (.invokevirtual 94, 3) := by decide +kernel
theorem d_Printer_addDecimal_43 : decode b_Printer_addDecimal 43 = .ok (.aload_n 0, 1) := by decide +kernel
theorem d_Printer_addDecimal_44 : decode b_Printer_addDecimal 44 = .ok (.getfield 22, 3) := by decide +kernel
theorem d_Printer_addDecimal_47 : decode b_Printer_addDecimal 47 = .ok (.iload 5, 2) := by decide +kernel
theorem d_Printer_addDecimal_49 : decode b_Printer_addDecimal 49 = .ok (.iconst 1, 1) := by decide +kernel
theorem d_Printer_addDecimal_50 : decode b_Printer_addDecimal 50 = .ok (.invokestatic 73, 3) := by decide +kernel
theorem d_Printer_addDecimal_53 : decode b_Printer_addDecimal 53 = .ok (.iconst 1, 1) := by decide +kernel
theorem d_Printer_addDecimal_54 : decode b_Printer_addDecimal 54 = .ok (.isub, 1) := by decide +kernel
theorem d_Printer_addDecimal_55 : decode b_Printer_addDecimal 55 = .ok (.sipush (-1074), 3) := by decide +kernel
theorem d_Printer_addDecimal_58 : decode b_Printer_addDecimal 58 = .ok (.iadd, 1) := by decide +kernel
theorem d_Printer_addDecimal_59 : decode b_Printer_addDecimal 59 = .ok (.putfield 99, 3) := by decide +kernel
theorem d_Printer_addDecimal_62 : decode b_Printer_addDecimal 62 = .ok (.iload_n 3, 1) := by decide +kernel
theorem d_Printer_addDecimal_63 : decode b_Printer_addDecimal 63 = .ok (.iconst 1, 1) := by decide +kernel
theorem d_Printer_addDecimal_64 : decode b_Printer_addDecimal 64 = .ok (.isub, 1) := by decide +kernel
theorem d_Printer_addDecimal_65 : decode b_Printer_addDecimal 65 = .ok (.invokestatic 102, 3) := by decide +kernel
theorem d_Printer_addDecimal_68 : decode b_Printer_addDecimal 68 = .ok (.lstore 6, 2) := by decide +kernel
theorem d_Printer_addDecimal_70 : decode b_Printer_addDecimal 70 = .ok (.aload_n 0, 1) := by decide +kernel
theorem d_Printer_addDecimal_71 : decode b_Printer_addDecimal 71 = .ok (.getfield 22, 3) := by decide +kernel
theorem d_Printer_addDecimal_74 : decode b_Printer_addDecimal 74 = .ok (.getfield 86, 3) := by decide +kernel
theorem d_Printer_addDecimal_77 : decode b_Printer_addDecimal 77 = .ok (.invokevirtual 106, 3) := by decide +kernel
theorem d_Printer_addDecimal_80 : decode b_Printer_addDecimal 80 = .ok (.aload_n 0, 1) := by decide +kernel
theorem d_Printer_addDecimal_81 : decode b_Printer_addDecimal 81 = .ok (.getfield 22, 3) := by decide +kernel
theorem d_Printer_addDecimal_84 : decode b_Printer_addDecimal 84 = .ok (.getfield 99, 3) := by decide +kernel
theorem d_Printer_addDecimal_87 : decode b_Printer_addDecimal 87 = .ok (.iadd, 1) := by decide +kernel
theorem d_Printer_addDecimal_88 : decode b_Printer_addDecimal 88 = .ok (.iconst 1, 1) := by decide +kernel
theorem d_Printer_addDecimal_89 : decode b_Printer_addDecimal 89 = .ok (.isub, 1) := by decide +kernel
theorem d_Printer_addDecimal_90 : decode b_Printer_addDecimal 90 = .ok (.ldc 110, 2) := by decide +kernel
theorem d_Printer_addDecimal_92 : decode b_Printer_addDecimal 92 = .ok (.imul, 1) := by decide +kernel
theorem d_Printer_addDecimal_93 : decode b_Printer_addDecimal 93 = .ok (.bipush 18, 2) := by decide +kernel
theorem d_Printer_addDecimal_95 : decode b_Printer_addDecimal 95 = .ok (.ishr, 1) := by decide +kernel
theorem d_Printer_addDecimal_96 : decode b_Printer_addDecimal 96 = .ok (.istore 8, 2) := by decide +kernel
theorem d_Printer_addDecimal_98 : decode b_Printer_addDecimal 98 = .ok (.aload_n 0, 1) := by decide +kernel
theorem d_Printer_addDecimal_99 : decode b_Printer_addDecimal 99 = .ok (.getfield 22, 3) := by decide +kernel
theorem d_Printer_addDecimal_102 : decode b_Printer_addDecimal 102 = .ok (.iload_n 3, 1) := by decide +kernel
theorem d_Printer_addDecimal_103 : decode b_Printer_addDecimal 103 = .ok (.iconst 1, 1) := by decide +kernel
theorem d_Printer_addDecimal_104 : decode b_Printer_addDecimal 104 = .ok (.isub, 1) := by decide +kernel
theorem d_Printer_addDecimal_105 : decode b_Printer_addDecimal 105 = .ok (.iload 8, 2) := by decide +kernel
theorem d_Printer_addDecimal_107 : decode b_Printer_addDecimal 107 = .ok (.isub, 1) := by decide +kernel
theorem d_Printer_addDecimal_108 : decode b_Printer_addDecimal 108 = .ok (.invokevirtual 111, 3) := by decide +kernel
theorem d_Printer_addDecimal_111 : decode b_Printer_addDecimal 111 = .ok (.aload_n 0, 1) := by decide +kernel
theorem d_Printer_addDecimal_112 : decode b_Printer_addDecimal 112 = .ok (.getfield 15, 3) := by decide +kernel
theorem d_Printer_addDecimal_115 : decode b_Printer_addDecimal 115 = .ok (.aload_n 0, 1) := by decide +kernel
theorem d_Printer_addDecimal_116 : decode b_Printer_addDecimal 116 = .ok (.getfield 22, 3) := by decide +kernel
theorem d_Printer_addDecimal_119 : decode b_Printer_addDecimal 119 = .ok (.iconst 0, 1) := by decide +kernel
theorem d_Printer_addDecimal_120 : decode b_Printer_addDecimal 120 = .ok (.invokevirtual 114, 3) := by decide +kernel
theorem d_Printer_addDecimal_123 : decode b_Printer_addDecimal 123 = .ok (.aload_n 0, 1) := by decide +kernel
theorem d_Printer_addDecimal_124 : decode b_Printer_addDecimal 124 = .ok (.getfield 15, 3) := by decide +kernel
theorem d_Printer_addDecimal_127 : decode b_Printer_addDecimal 127 = .ok (.getfield 120, 3) := by decide +kernel
theorem d_Printer_addDecimal_130 : decode b_Printer_addDecimal 130 = .ok (.lstore 9, 2) := by decide +kernel
theorem d_Printer_addDecimal_132 : decode b_Printer_addDecimal 132 = .ok (.aload_n 0, 1) := by decide +kernel
theorem d_Printer_addDecimal_133 : decode b_Printer_addDecimal 133 = .ok (.getfield 15, 3) := by decide +kernel
theorem d_Printer_addDecimal_136 : decode b_Printer_addDecimal 136 = .ok (.getfield 124, 3) := by decide +kernel
theorem d_Printer_addDecimal_139 : decode b_Printer_addDecimal 139 = .ok (.istore 11, 2) := by decide +kernel
theorem d_Printer_addDecimal_141 : decode b_Printer_addDecimal 141 = .ok (.lload 9, 2) := by decide +kernel
theorem d_Printer_addDecimal_143 : decode b_Printer_addDecimal 143 = .ok (.ldc2_w 128, 3) := by decide +kernel
theorem d_Printer_addDecimal_146 : decode b_Printer_addDecimal 146 = .ok (.ldiv, 1) := by decide +kernel
theorem d_Printer_addDecimal_147 : decode b_Printer_addDecimal 147 = .ok (.lload 6, 2) := by decide +kernel
theorem d_Printer_addDecimal_149 : decode b_Printer_addDecimal 149 = .ok (.lcmp, 1) := by decide +kernel
theorem d_Printer_addDecimal_150 : decode b_Printer_addDecimal 150 = .ok (.ifCond .lt 37, 3) := by decide +kernel
theorem d_Printer_addDecimal_153 : decode b_Printer_addDecimal 153 = .ok (.iload 11, 2) := by decide +kernel
theorem d_Printer_addDecimal_155 : decode b_Printer_addDecimal 155 = .ok (.ifCond .ne 14, 3) := by decide +kernel
theorem d_Printer_addDecimal_158 : decode b_Printer_addDecimal 158 = .ok (.lload 9, 2) := by decide +kernel
theorem d_Printer_addDecimal_160 : decode b_Printer_addDecimal 160 = .ok (.ldc2_w 128, 3) := by decide +kernel
theorem d_Printer_addDecimal_163 : decode b_Printer_addDecimal 163 = .ok (.lrem, 1) := by decide +kernel
theorem d_Printer_addDecimal_164 : decode b_Printer_addDecimal 164 = .ok (.lconst 0, 1) := by decide +kernel
theorem d_Printer_addDecimal_165 : decode b_Printer_addDecimal 165 = .ok (.lcmp, 1) := by decide +kernel
theorem d_Printer_addDecimal_166 : decode b_Printer_addDecimal 166 = .ok (.ifCond .eq 7, 3) := by decide +kernel
theorem d_Printer_addDecimal_169 : decode b_Printer_addDecimal 169 = .ok (.iconst 1, 1) := by decide +kernel
theorem d_Printer_addDecimal_170 : decode b_Printer_addDecimal 170 = .ok (.goto 4, 3) := by decide +kernel
theorem d_Printer_addDecimal_173 : decode b_Printer_addDecimal 173 = .ok (.iconst 0, 1) := by decide +kernel
theorem d_Printer_addDecimal_174 : decode b_Printer_addDecimal 174 = .ok (.istore 11, 2) := by decide +kernel
theorem d_Printer_addDecimal_176 : decode b_Printer_addDecimal 176 = .ok (.lload 9, 2) := by decide +kernel
theorem d_Printer_addDecimal_178 : decode b_Printer_addDecimal 178 = .ok (.ldc2_w 128, 3) := by decide +kernel
theorem d_Printer_addDecimal_181 : decode b_Printer_addDecimal 181 = .ok (.ldiv, 1) := by decide +kernel
theorem d_Printer_addDecimal_182 : decode b_Printer_addDecimal 182 = .ok (.lstore 9, 2) := by decide +kernel
theorem d_Printer_addDecimal_184 : decode b_Printer_addDecimal 184 = .ok (.iinc 8 1, 3) := by decide +kernel
theorem d_Printer_addDecimal_187 : decode b_Printer_addDecimal 187 = .ok (.iload 11, 2) := by decide +kernel
theorem d_Printer_addDecimal_189 : decode b_Printer_addDecimal 189 = .ok (.ifCond .eq 14, 3) := by decide +kernel
theorem d_Printer_addDecimal_192 : decode b_Printer_addDecimal 192 = .ok (.iload 4, 2) := by decide +kernel
theorem d_Printer_addDecimal_194 : decode b_Printer_addDecimal 194 = .ok (.ifCond .eq 9, 3) := by decide +kernel
theorem d_Printer_addDecimal_197 : decode b_Printer_addDecimal 197 = .ok (.lload 9, 2) := by decide +kernel
theorem d_Printer_addDecimal_199 : decode b_Printer_addDecimal 199 = .ok (.lconst 1, 1) := by decide +kernel
theorem d_Printer_addDecimal_200 : decode b_Printer_addDecimal 200 = .ok (.ladd, 1) := by decide +kernel
theorem d_Printer_addDecimal_201 : decode b_Printer_addDecimal 201 = .ok (.lstore 9, 2) := by decide +kernel
theorem d_Printer_addDecimal_203 : decode b_Printer_addDecimal 203 = .ok (.lload 9, 2) := by decide +kernel
theorem d_Printer_addDecimal_205 : decode b_Printer_addDecimal 205 = .ok (.ldc2_w 128, 3) := by decide +kernel
theorem d_Printer_addDecimal_208 : decode b_Printer_addDecimal 208 = .ok (.ldiv, 1) := by decide +kernel
theorem d_Printer_addDecimal_209 : decode b_Printer_addDecimal 209 = .ok (.lload 6, 2) := by decide +kernel
theorem d_Printer_addDecimal_211 : decode b_Printer_addDecimal 211 = .ok (.lcmp, 1) := by decide +kernel
theorem d_Printer_addDecimal_212 : decode b_Printer_addDecimal 212 = .ok (.ifCond .lt 14, 3) := by decide +kernel
theorem d_Printer_addDecimal_215 : decode b_Printer_addDecimal 215 = .ok (.lload 9, 2) := by decide +kernel
theorem d_Printer_addDecimal_217 : decode b_Printer_addDecimal 217 = .ok (.ldc2_w 128, 3) := by decide +kernel
theorem d_Printer_addDecimal_220 : decode b_Printer_addDecimal 220 = .ok (.ldiv, 1) := by decide +kernel
theorem d_Printer_addDecimal_221 : decode b_Printer_addDecimal 221 = .ok (.lstore 9, 2) := by decide +kernel
theorem d_Printer_addDecimal_223 : decode b_Printer_addDecimal 223 = .ok (.iinc 8 1, 3) := by decide +kernel
theorem d_Printer_addDecimal_226 : decode b_Printer_addDecimal 226 = .ok (.aload_n 0, 1) := by decide +kernel
theorem d_Printer_addDecimal_227 : decode b_Printer_addDecimal 227 = .ok (.lload 9, 2) := by decide +kernel
theorem d_Printer_addDecimal_229 : decode b_Printer_addDecimal 229 = .ok (.iload_n 3, 1) := by decide +kernel
theorem d_Printer_addDecimal_230 : decode b_Printer_addDecimal 230 = .ok (.invokevirtual 130, 3) := by decide +kernel
theorem d_Printer_addDecimal_233 : decode b_Printer_addDecimal 233 = .ok (.aload_n 0, 1) := by decide +kernel
theorem d_Printer_addDecimal_234 : decode b_Printer_addDecimal 234 = .ok (.getfield 9, 3) := by decide +kernel
theorem d_Printer_addDecimal_237 : decode b_Printer_addDecimal 237 = .ok (.bipush 101, 2) := by decide +kernel
theorem d_Printer_addDecimal_239 : decode b_Printer_addDecimal 239 = .ok (.invokevirtual 38, 3) := by decide +kernel
theorem d_Printer_addDecimal_242 : decode b_Printer_addDecimal 242 = .ok (.aload_n 0, 1) := by decide +kernel
theorem d_Printer_addDecimal_243 : decode b_Printer_addDecimal 243 = .ok (.iload 8, 2) := by decide +kernel
theorem d_Printer_addDecimal_245 : decode b_Printer_addDecimal 245 = .ok (.invokevirtual 79, 3) := by decide +kernel
theorem d_Printer_addDecimal_248 : decode b_Printer_addDecimal 248 = .ok (.return_, 1) := by decide +kernel
theorem fl_Printer_15 : FLink TB classes "IntervalText$Printer" 15 R_Printer F_Printer 3 5 1 := ⟨rfl, by decide, i_Printer, tb_t (List.mem_append_left _ (List.mem_of_getElem? (l := tables_1_1) (i := 173) rfl)) rfl⟩
theorem fl_Printer_22 : FLink TB classes "IntervalText$Printer" 22 R_Printer F_Printer 3 5 2 := ⟨rfl, by decide, i_Printer, tb_t (List.mem_append_left _ (List.mem_of_getElem? (l := tables_1_1) (i := 174) rfl)) rfl⟩
theorem fl_Printer_86 : FLink TB classes "IntervalText$Printer" 86 R_Ratio F_Ratio 4 1 0 := ⟨rfl, by decide, i_Ratio, tb_t (List.mem_append_left _ (List.mem_of_getElem? (l := tables_1_1) (i := 100) rfl)) rfl⟩
theorem fl_Printer_99 : FLink TB classes "IntervalText$Printer" 99 R_Ratio F_Ratio 4 1 3 := ⟨rfl, by decide, i_Ratio, tb_t (List.mem_append_left _ (List.mem_of_getElem? (l := tables_1_1) (i := 109) rfl)) rfl⟩
theorem fl_Printer_120 : FLink TB classes "IntervalText$Printer" 120 R_Arithmetic F_Arithmetic 4 2 2 := ⟨rfl, by decide, i_Arithmetic, tb_t (List.mem_append_left _ (List.mem_of_getElem? (l := tables_1_1) (i := 67) rfl)) rfl⟩
theorem fl_Printer_124 : FLink TB classes "IntervalText$Printer" 124 R_Arithmetic F_Arithmetic 4 2 3 := ⟨rfl, by decide, i_Arithmetic, tb_t (List.mem_append_left _ (List.mem_of_getElem? (l := tables_1_1) (i := 69) rfl)) rfl⟩
theorem tw_Printer_constant_110 : Cond.constant "IntervalText$Printer" 110 (78913 : Int32) ∈ TB := tb_t (List.mem_append_right _ (List.mem_append_right _ (List.mem_append_left _ (List.mem_of_getElem? (l := tables_1_3) (i := 81) rfl)))) rfl
theorem tw_Printer_constantLong_90 : Cond.constantLong "IntervalText$Printer" 90 (4503599627370495 : Int64) ∈ TB := tb_t (List.mem_append_right _ (List.mem_append_right _ (List.mem_append_left _ (List.mem_of_getElem? (l := tables_1_3) (i := 73) rfl)))) rfl
theorem tw_Printer_constantLong_92 : Cond.constantLong "IntervalText$Printer" 92 (4503599627370496 : Int64) ∈ TB := tb_t (List.mem_append_right _ (List.mem_append_right _ (List.mem_append_left _ (List.mem_of_getElem? (l := tables_1_3) (i := 74) rfl)))) rfl
theorem cl_Printer_82 : CLinkV TB "IntervalText$Printer" 82 "IntervalText$Ratio" y_Ratio_startWhole b_Ratio_startWhole 2 none 1 := ⟨⟨tb_t (List.mem_append_right _ (List.mem_append_right _ (List.mem_append_left _ (List.mem_of_getElem? (l := tables_1_3) (i := 72) rfl)))) rfl, tb_t (List.mem_append_left _ (List.mem_of_getElem? (l := tables_1_1) (i := 6) rfl)) rfl, tb_t (List.mem_append_right _ (List.mem_append_left _ (List.mem_of_getElem? (l := tables_1_2) (i := 89) rfl))) rfl, by decide +kernel, by decide +kernel, by decide +kernel⟩, tb_t (List.mem_append_right _ (List.mem_append_left _ (List.mem_of_getElem? (l := tables_1_2) (i := 87) rfl))) rfl, tb_t (List.mem_append_right _ (List.mem_append_left _ (List.mem_of_getElem? (l := tables_1_2) (i := 88) rfl))) rfl⟩
theorem cl_Printer_94 : CLinkV TB "IntervalText$Printer" 94 "IntervalText$Natural" y_Natural_set b_Natural_set 5 none 1 := ⟨⟨tb_t (List.mem_append_right _ (List.mem_append_right _ (List.mem_append_left _ (List.mem_of_getElem? (l := tables_1_3) (i := 75) rfl)))) rfl, tb_t (List.mem_append_left _ (List.mem_of_getElem? (l := tables_1_1) (i := 4) rfl)) rfl, tb_t (List.mem_append_left _ (List.mem_of_getElem? (l := tables_1_1) (i := 96) rfl)) rfl, by decide +kernel, by decide +kernel, by decide +kernel⟩, tb_t (List.mem_append_left _ (List.mem_of_getElem? (l := tables_1_1) (i := 94) rfl)) rfl, tb_t (List.mem_append_left _ (List.mem_of_getElem? (l := tables_1_1) (i := 95) rfl)) rfl⟩
theorem cl_Printer_106 : CLinkV TB "IntervalText$Printer" 106 "IntervalText$Natural" y_Natural_bits b_Natural_bits 3 (some .int) 0 := ⟨⟨tb_t (List.mem_append_right _ (List.mem_append_right _ (List.mem_append_left _ (List.mem_of_getElem? (l := tables_1_3) (i := 80) rfl)))) rfl, tb_t (List.mem_append_left _ (List.mem_of_getElem? (l := tables_1_1) (i := 4) rfl)) rfl, tb_t (List.mem_append_right _ (List.mem_append_left _ (List.mem_of_getElem? (l := tables_1_2) (i := 161) rfl))) rfl, by decide +kernel, by decide +kernel, by decide +kernel⟩, tb_t (List.mem_append_right _ (List.mem_append_left _ (List.mem_of_getElem? (l := tables_1_2) (i := 159) rfl))) rfl, tb_t (List.mem_append_right _ (List.mem_append_left _ (List.mem_of_getElem? (l := tables_1_2) (i := 160) rfl))) rfl⟩
theorem cl_Printer_111 : CLinkV TB "IntervalText$Printer" 111 "IntervalText$Ratio" y_Ratio_timesPowerOfTen b_Ratio_timesPowerOfTen 2 none 1 := ⟨⟨tb_t (List.mem_append_right _ (List.mem_append_right _ (List.mem_append_left _ (List.mem_of_getElem? (l := tables_1_3) (i := 82) rfl)))) rfl, tb_t (List.mem_append_left _ (List.mem_of_getElem? (l := tables_1_1) (i := 6) rfl)) rfl, tb_t (List.mem_append_right _ (List.mem_append_left _ (List.mem_of_getElem? (l := tables_1_2) (i := 112) rfl))) rfl, by decide +kernel, by decide +kernel, by decide +kernel⟩, tb_t (List.mem_append_right _ (List.mem_append_left _ (List.mem_of_getElem? (l := tables_1_2) (i := 110) rfl))) rfl, tb_t (List.mem_append_right _ (List.mem_append_left _ (List.mem_of_getElem? (l := tables_1_2) (i := 111) rfl))) rfl⟩
theorem cl_Printer_114 : CLinkV TB "IntervalText$Printer" 114 "IntervalText$Arithmetic" y_Arithmetic_divide b_Arithmetic_divide 12 none 2 := ⟨⟨tb_t (List.mem_append_right _ (List.mem_append_right _ (List.mem_append_left _ (List.mem_of_getElem? (l := tables_1_3) (i := 83) rfl)))) rfl, tb_t (List.mem_append_left _ (List.mem_of_getElem? (l := tables_1_1) (i := 3) rfl)) rfl, tb_t (List.mem_append_right _ (List.mem_append_left _ (List.mem_of_getElem? (l := tables_1_2) (i := 228) rfl))) rfl, by decide +kernel, by decide +kernel, by decide +kernel⟩, tb_t (List.mem_append_right _ (List.mem_append_left _ (List.mem_of_getElem? (l := tables_1_2) (i := 226) rfl))) rfl, tb_t (List.mem_append_right _ (List.mem_append_left _ (List.mem_of_getElem? (l := tables_1_2) (i := 227) rfl))) rfl⟩
theorem cl_Printer_130 : CLinkV TB "IntervalText$Printer" 130 "IntervalText$Printer" y_Printer_addDigits b_Printer_addDigits 7 none 2 := ⟨⟨tb_t (List.mem_append_right _ (List.mem_append_right _ (List.mem_append_left _ (List.mem_of_getElem? (l := tables_1_3) (i := 84) rfl)))) rfl, tb_t (List.mem_append_left _ (List.mem_of_getElem? (l := tables_1_1) (i := 7) rfl)) rfl, tb_t (List.mem_append_right _ (List.mem_append_right _ (List.mem_append_left _ (List.mem_of_getElem? (l := tables_1_3) (i := 87) rfl)))) rfl, by decide +kernel, by decide +kernel, by decide +kernel⟩, tb_t (List.mem_append_right _ (List.mem_append_right _ (List.mem_append_left _ (List.mem_of_getElem? (l := tables_1_3) (i := 86) rfl)))) rfl, tb_p 19 rfl⟩
set_option maxHeartbeats 4000000 in
set_option maxRecDepth 100000 in
theorem c_Printer_addDecimal (l : Launch) (D : va_G) (E : EVt) (h : Nat) (ou : Nat) (ar : Nat) (rr : Nat) (oc : Nat) (t : Int → Int) (L : List Int) (tn1 : Nat) (tb1 : Nat) (bn1 : Nat) (ba1 : Nat) (tg1 : Int → Int) (bg1 : Int → Int) (tk1 : Int) (bk1 : Int) (pw1 : Int) (neg1 : Bool) (ln : Nat) (la : Nat) (rn : Nat) (ra : Nat) (lg : Int → Int) (rg : Int → Int) (lk : Int) (rk : Int) (quo : Int) (inx : Bool) (sz : Int) (dg : Int) (aw : Bool) (hL : (L.length : Int) + 26 ≤ 64) (hsz : 0 < sz ∧ sz < 9218868437227405312) (hdg : 1 ≤ dg ∧ dg ≤ 18) : CT l D classes (tyl E) (EVX E) y_Printer_addDecimal (Cond.code y_Printer_addDecimal b_Printer_addDecimal 12 none :: TB) (rmK 4 0 0 110) 0 0 [.ref h, .long (lI sz), .int (iI dg), .int (bI aw)] [(h, .inr (5, [.ref ou, .ref ar, .ref rr])), (oc, .inl (E.2.1, 64, .inl (ia (Wr t 0 L)))), (ou, .inr (3, [.ref oc, .int (iI (L.length : Int))])), (rr, .inr (1, [.ref tn1, .ref bn1, .int (bI neg1), .int (iI pw1)])), (tn1, .inr (0, [.ref tb1, .int (iI tk1)])), (tb1, .inl (E.1, 224, .inl (ia tg1))), (bn1, .inr (0, [.ref ba1, .int (iI bk1)])), (ba1, .inl (E.1, 224, .inl (ia bg1))), (ar, .inr (2, [.ref ln, .ref rn, .long (lI quo), .int (bI inx)])), (ln, .inr (0, [.ref la, .int (iI lk)])), (la, .inl (E.1, 224, .inl (ia lg))), (rn, .inr (0, [.ref ra, .int (iI rk)])), (ra, .inl (E.1, 224, .inl (ia rg)))] (S := List Int × Int × Int × (Int → Int) × (Int → Int) × Int × Int × Int × Bool × (Int → Int) × (Int → Int) × Int × Int × Int × Bool) (fun u => [(h, .inr (5, [.ref ou, .ref ar, .ref rr])), (oc, .inl (E.2.1, 64, .inl (ia (Wr t 0 u.1)))), (ou, .inr (3, [.ref oc, .int (iI (u.1.length : Int))])), (rr, .inr (1, [.ref tn1, .ref bn1, .int (bI u.2.2.2.2.2.2.2.2.1), .int (iI u.2.2.2.2.2.2.2.1)])), (tn1, .inr (0, [.ref tb1, .int (iI u.2.2.2.2.2.1)])), (tb1, .inl (E.1, 224, .inl (ia u.2.2.2.1))), (bn1, .inr (0, [.ref ba1, .int (iI u.2.2.2.2.2.2.1)])), (ba1, .inl (E.1, 224, .inl (ia u.2.2.2.2.1))), (ar, .inr (2, [.ref ln, .ref rn, .long (lI u.2.2.2.2.2.2.2.2.2.2.2.2.2.1), .int (bI u.2.2.2.2.2.2.2.2.2.2.2.2.2.2)])), (ln, .inr (0, [.ref la, .int (iI u.2.2.2.2.2.2.2.2.2.2.2.1)])), (la, .inl (E.1, 224, .inl (ia u.2.2.2.2.2.2.2.2.2.1))), (rn, .inr (0, [.ref ra, .int (iI u.2.2.2.2.2.2.2.2.2.2.2.2.1)])), (ra, .inl (E.1, 224, .inl (ia u.2.2.2.2.2.2.2.2.2.2.1)))]) (fun _ => none) (fun u => (u.1 = L ++ (DIG u.2.1 (Int.toNat dg) ++ [101] ++ EXT u.2.2.1)) ∧ (DCR (FM sz) (FE sz) (Int.toNat dg) aw u.2.1 u.2.2.1)) := by
  refine CT.ofv (eok E) (by decide) rfl (Nat.le_of_ble_eq_true rfl) ?_
  intro p e s m args below meth c A Q ls B hmn hP hD hS hl ret
  have B : Bd l D classes (tyl E) (EVX E) p m c b_Printer_addDecimal 12 s args (Cond.code y_Printer_addDecimal b_Printer_addDecimal 12 none :: TB) R_Printer A := B
  obtain ⟨⟨hx, hb, hml, hown, hts⟩, hX, hK, hE, hA⟩ := id B
  have hl : lv_has ls 12 [(0, .ref h), (1, .long (lI sz)), (3, .int (iI dg)), (4, .int (bI aw))] := hl
  have hP : va_P D classes [(h, .inr (5, [.ref ou, .ref ar, .ref rr])), (oc, .inl (E.2.1, 64, .inl (ia (Wr t 0 L)))), (ou, .inr (3, [.ref oc, .int (iI (L.length : Int))])), (rr, .inr (1, [.ref tn1, .ref bn1, .int (bI neg1), .int (iI pw1)])), (tn1, .inr (0, [.ref tb1, .int (iI tk1)])), (tb1, .inl (E.1, 224, .inl (ia tg1))), (bn1, .inr (0, [.ref ba1, .int (iI bk1)])), (ba1, .inl (E.1, 224, .inl (ia bg1))), (ar, .inr (2, [.ref ln, .ref rn, .long (lI quo), .int (bI inx)])), (ln, .inr (0, [.ref la, .int (iI lk)])), (la, .inl (E.1, 224, .inl (ia lg))), (rn, .inr (0, [.ref ra, .int (iI rk)])), (ra, .inl (E.1, 224, .inl (ia rg)))] s.heap := hP
  have hD : va_D A [(h, .inr (5, [.ref ou, .ref ar, .ref rr])), (oc, .inl (E.2.1, 64, .inl (ia (Wr t 0 L)))), (ou, .inr (3, [.ref oc, .int (iI (L.length : Int))])), (rr, .inr (1, [.ref tn1, .ref bn1, .int (bI neg1), .int (iI pw1)])), (tn1, .inr (0, [.ref tb1, .int (iI tk1)])), (tb1, .inl (E.1, 224, .inl (ia tg1))), (bn1, .inr (0, [.ref ba1, .int (iI bk1)])), (ba1, .inl (E.1, 224, .inl (ia bg1))), (ar, .inr (2, [.ref ln, .ref rn, .long (lI quo), .int (bI inx)])), (ln, .inr (0, [.ref la, .int (iI lk)])), (la, .inl (E.1, 224, .inl (ia lg))), (rn, .inr (0, [.ref ra, .int (iI rk)])), (ra, .inl (E.1, 224, .inl (ia rg)))] := hD
  have hpos := PT10_pos ((Int.toNat dg) - 1)
  have hps : PT10 (Int.toNat dg) = 10 * PT10 ((Int.toNat dg) - 1) := by rw [← PT10_s]; congr 1; omega
  have hp18 : PT10 (Int.toNat dg) ≤ 1000000000000000000 := by have := PT10_mono (show (Int.toNat dg) ≤ 18 by omega); rw [PT10_18] at this; exact this
  have K_187 : ∀ (N5 : Int) (E5 : Int) (ix5 : Bool) (tg6 : Int → Int) (bg6 : Int → Int) (tk6 : Int) (bk6 : Int) (pw6 : Int) (neg6 : Bool) (lg6 : Int → Int) (rg6 : Int → Int) (lk6 : Int) (rk6 : Int) (q6 : Int) (in6 : Bool) (hD1 : DC1 (FM sz) (FE sz) (Int.toNat dg) N5 E5 ix5) (hE5 : -400 < E5 ∧ E5 < 400) (ls : Array Slot) (H : Heap) (locs : List Loc), lv_has ls 12 [(0, .ref h), (1, .long (lI sz)), (3, .int (iI dg)), (4, .int (bI aw)), (6, .long (lI (PT10 ((Int.toNat dg) - 1)))), (8, .int (iI E5)), (9, .long (lI N5)), (11, .int (bI ix5))] → va_P D classes [(h, .inr (5, [.ref ou, .ref ar, .ref rr])), (oc, .inl (E.2.1, 64, .inl (ia (Wr t 0 L)))), (ou, .inr (3, [.ref oc, .int (iI (L.length : Int))])), (rr, .inr (1, [.ref tn1, .ref bn1, .int (bI neg6), .int (iI pw6)])), (tn1, .inr (0, [.ref tb1, .int (iI tk6)])), (tb1, .inl (E.1, 224, .inl (ia tg6))), (bn1, .inr (0, [.ref ba1, .int (iI bk6)])), (ba1, .inl (E.1, 224, .inl (ia bg6))), (ar, .inr (2, [.ref ln, .ref rn, .long (lI q6), .int (bI in6)])), (ln, .inr (0, [.ref la, .int (iI lk6)])), (la, .inl (E.1, 224, .inl (ia lg6))), (rn, .inr (0, [.ref ra, .int (iI rk6)])), (ra, .inl (E.1, 224, .inl (ia rg6)))] H → va_D A [(h, .inr (5, [.ref ou, .ref ar, .ref rr])), (oc, .inl (E.2.1, 64, .inl (ia (Wr t 0 L)))), (ou, .inr (3, [.ref oc, .int (iI (L.length : Int))])), (rr, .inr (1, [.ref tn1, .ref bn1, .int (bI neg6), .int (iI pw6)])), (tn1, .inr (0, [.ref tb1, .int (iI tk6)])), (tb1, .inl (E.1, 224, .inl (ia tg6))), (bn1, .inr (0, [.ref ba1, .int (iI bk6)])), (ba1, .inl (E.1, 224, .inl (ia bg6))), (ar, .inr (2, [.ref ln, .ref rn, .long (lI q6), .int (bI in6)])), (ln, .inr (0, [.ref la, .int (iI lk6)])), (la, .inl (E.1, 224, .inl (ia lg6))), (rn, .inr (0, [.ref ra, .int (iI rk6)])), (ra, .inl (E.1, 224, .inl (ia rg6)))] → va_S A s.heap H locs → W p l e (rmK 4 0 0 110) s m args below meth c H locs 0 0 Q (F0 m 187 ls []) := by
    intro N5 E5 ix5 tg6 bg6 tk6 bk6 pw6 neg6 lg6 rg6 lk6 rk6 q6 in6 hD1 hE5 ls H locs hl hP hD hS
    have K_203 : ∀ (N6 : Int) (hN6 : N6 = N5 + (if (ix5 && aw) = true then 1 else 0)) (ls : Array Slot) (H : Heap) (locs : List Loc), lv_has ls 12 [(0, .ref h), (1, .long (lI sz)), (3, .int (iI dg)), (4, .int (bI aw)), (6, .long (lI (PT10 ((Int.toNat dg) - 1)))), (8, .int (iI E5)), (9, .long (lI N6))] → va_P D classes [(h, .inr (5, [.ref ou, .ref ar, .ref rr])), (oc, .inl (E.2.1, 64, .inl (ia (Wr t 0 L)))), (ou, .inr (3, [.ref oc, .int (iI (L.length : Int))])), (rr, .inr (1, [.ref tn1, .ref bn1, .int (bI neg6), .int (iI pw6)])), (tn1, .inr (0, [.ref tb1, .int (iI tk6)])), (tb1, .inl (E.1, 224, .inl (ia tg6))), (bn1, .inr (0, [.ref ba1, .int (iI bk6)])), (ba1, .inl (E.1, 224, .inl (ia bg6))), (ar, .inr (2, [.ref ln, .ref rn, .long (lI q6), .int (bI in6)])), (ln, .inr (0, [.ref la, .int (iI lk6)])), (la, .inl (E.1, 224, .inl (ia lg6))), (rn, .inr (0, [.ref ra, .int (iI rk6)])), (ra, .inl (E.1, 224, .inl (ia rg6)))] H → va_D A [(h, .inr (5, [.ref ou, .ref ar, .ref rr])), (oc, .inl (E.2.1, 64, .inl (ia (Wr t 0 L)))), (ou, .inr (3, [.ref oc, .int (iI (L.length : Int))])), (rr, .inr (1, [.ref tn1, .ref bn1, .int (bI neg6), .int (iI pw6)])), (tn1, .inr (0, [.ref tb1, .int (iI tk6)])), (tb1, .inl (E.1, 224, .inl (ia tg6))), (bn1, .inr (0, [.ref ba1, .int (iI bk6)])), (ba1, .inl (E.1, 224, .inl (ia bg6))), (ar, .inr (2, [.ref ln, .ref rn, .long (lI q6), .int (bI in6)])), (ln, .inr (0, [.ref la, .int (iI lk6)])), (la, .inl (E.1, 224, .inl (ia lg6))), (rn, .inr (0, [.ref ra, .int (iI rk6)])), (ra, .inl (E.1, 224, .inl (ia rg6)))] → va_S A s.heap H locs → W p l e (rmK 4 0 0 110) s m args below meth c H locs 0 0 Q (F0 m 203 ls []) := by
      intro N6 hN6 ls H locs hl hP hD hS
      have K_226 : ∀ (nu7 : Int) (ex7 : Int) (hdc7 : DCR (FM sz) (FE sz) (Int.toNat dg) aw nu7 ex7) (hn7 : 0 ≤ nu7 ∧ nu7 ≤ 1000000000000000000) (he7 : -401 < ex7 ∧ ex7 < 402) (ls : Array Slot) (H : Heap) (locs : List Loc), lv_has ls 12 [(0, .ref h), (1, .long (lI sz)), (3, .int (iI dg)), (4, .int (bI aw)), (8, .int (iI ex7)), (9, .long (lI nu7))] → va_P D classes [(h, .inr (5, [.ref ou, .ref ar, .ref rr])), (oc, .inl (E.2.1, 64, .inl (ia (Wr t 0 L)))), (ou, .inr (3, [.ref oc, .int (iI (L.length : Int))])), (rr, .inr (1, [.ref tn1, .ref bn1, .int (bI neg6), .int (iI pw6)])), (tn1, .inr (0, [.ref tb1, .int (iI tk6)])), (tb1, .inl (E.1, 224, .inl (ia tg6))), (bn1, .inr (0, [.ref ba1, .int (iI bk6)])), (ba1, .inl (E.1, 224, .inl (ia bg6))), (ar, .inr (2, [.ref ln, .ref rn, .long (lI q6), .int (bI in6)])), (ln, .inr (0, [.ref la, .int (iI lk6)])), (la, .inl (E.1, 224, .inl (ia lg6))), (rn, .inr (0, [.ref ra, .int (iI rk6)])), (ra, .inl (E.1, 224, .inl (ia rg6)))] H → va_D A [(h, .inr (5, [.ref ou, .ref ar, .ref rr])), (oc, .inl (E.2.1, 64, .inl (ia (Wr t 0 L)))), (ou, .inr (3, [.ref oc, .int (iI (L.length : Int))])), (rr, .inr (1, [.ref tn1, .ref bn1, .int (bI neg6), .int (iI pw6)])), (tn1, .inr (0, [.ref tb1, .int (iI tk6)])), (tb1, .inl (E.1, 224, .inl (ia tg6))), (bn1, .inr (0, [.ref ba1, .int (iI bk6)])), (ba1, .inl (E.1, 224, .inl (ia bg6))), (ar, .inr (2, [.ref ln, .ref rn, .long (lI q6), .int (bI in6)])), (ln, .inr (0, [.ref la, .int (iI lk6)])), (la, .inl (E.1, 224, .inl (ia lg6))), (rn, .inr (0, [.ref ra, .int (iI rk6)])), (ra, .inl (E.1, 224, .inl (ia rg6)))] → va_S A s.heap H locs → W p l e (rmK 4 0 0 110) s m args below meth c H locs 0 0 Q (F0 m 226 ls []) := by
        intro nu7 ex7 hdc7 hn7 he7 ls H locs hl hP hD hS
        refine lv_aload_n hx hb d_Printer_addDecimal_226 rfl (lv_at hl 0 rfl) ?_
        refine lv_lload hx hb d_Printer_addDecimal_227 (lv_at hl 5 rfl) ?_
        refine lv_iload_n hx hb d_Printer_addDecimal_229 rfl (lv_at hl 2 rfl) ?_
        refine wk_callV (As := [.long (lI nu7), .int (iI dg)]) (rest := []) (wr := [(rr, .inr (1, [.ref tn1, .ref bn1, .int (bI neg6), .int (iI pw6)])), (tn1, .inr (0, [.ref tb1, .int (iI tk6)])), (tb1, .inl (E.1, 224, .inl (ia tg6))), (bn1, .inr (0, [.ref ba1, .int (iI bk6)])), (ba1, .inl (E.1, 224, .inl (ia bg6))), (ar, .inr (2, [.ref ln, .ref rn, .long (lI q6), .int (bI in6)])), (ln, .inr (0, [.ref la, .int (iI lk6)])), (la, .inl (E.1, 224, .inl (ia lg6))), (rn, .inr (0, [.ref ra, .int (iI rk6)])), (ra, .inl (E.1, 224, .inl (ia rg6)))]) B gTB cl_Printer_130 (c_Printer_addDigits l D E h ou ar rr oc t L nu7 dg (by (try simp only [List.length_append, List.length_cons, List.length_nil]); omega) (by omega) (by omega)) ⟨⟨rfl, rfl⟩, Nat.le_of_ble_eq_true rfl, Nat.le_of_ble_eq_true rfl⟩ hP hD hS [0, 1, 2] [3, 4, 5, 6, 7, 8, 9, 10, 11, 12] rfl rfl (by decide) 0 rfl rfl rfl ⟨hl.2.1, hl.1⟩ rfl (Nat.le_of_ble_eq_true rfl) d_Printer_addDecimal_230 ⟨Nat.le_of_ble_eq_true rfl, Nat.le_of_ble_eq_true rfl⟩ rfl (fun L2_1 H locs hw hP hD hS => ?_)
        have hP : va_P D classes [(rr, .inr (1, [.ref tn1, .ref bn1, .int (bI neg6), .int (iI pw6)])), (tn1, .inr (0, [.ref tb1, .int (iI tk6)])), (tb1, .inl (E.1, 224, .inl (ia tg6))), (bn1, .inr (0, [.ref ba1, .int (iI bk6)])), (ba1, .inl (E.1, 224, .inl (ia bg6))), (ar, .inr (2, [.ref ln, .ref rn, .long (lI q6), .int (bI in6)])), (ln, .inr (0, [.ref la, .int (iI lk6)])), (la, .inl (E.1, 224, .inl (ia lg6))), (rn, .inr (0, [.ref ra, .int (iI rk6)])), (ra, .inl (E.1, 224, .inl (ia rg6))), (h, .inr (5, [.ref ou, .ref ar, .ref rr])), (oc, .inl (E.2.1, 64, .inl (ia (Wr t 0 L2_1)))), (ou, .inr (3, [.ref oc, .int (iI (L2_1.length : Int))]))] H := hP
        have hD : va_D A [(rr, .inr (1, [.ref tn1, .ref bn1, .int (bI neg6), .int (iI pw6)])), (tn1, .inr (0, [.ref tb1, .int (iI tk6)])), (tb1, .inl (E.1, 224, .inl (ia tg6))), (bn1, .inr (0, [.ref ba1, .int (iI bk6)])), (ba1, .inl (E.1, 224, .inl (ia bg6))), (ar, .inr (2, [.ref ln, .ref rn, .long (lI q6), .int (bI in6)])), (ln, .inr (0, [.ref la, .int (iI lk6)])), (la, .inl (E.1, 224, .inl (ia lg6))), (rn, .inr (0, [.ref ra, .int (iI rk6)])), (ra, .inl (E.1, 224, .inl (ia rg6))), (h, .inr (5, [.ref ou, .ref ar, .ref rr])), (oc, .inl (E.2.1, 64, .inl (ia (Wr t 0 L2_1)))), (ou, .inr (3, [.ref oc, .int (iI (L2_1.length : Int))]))] := hD
        have hw : (L2_1 = L ++ DIG nu7 (Int.toNat dg)) := hw
        have hLa := hw
        refine W.cs (g := F0 m 233 ls []) (cells' := 0) (slots' := 0) rfl rfl ?_
        subst hLa
        have hdl := DIG_len nu7 (d := (Int.toNat dg))
        refine W.eq (g2 := F0 m 233 ls []) rfl ?_
        refine lv_aload_n hx hb d_Printer_addDecimal_233 rfl (lv_at hl 0 rfl) ?_
        refine wk_get B hP 10 rfl fl_Printer_9 (v := .ref ou) rfl d_Printer_addDecimal_234 ?_
        refine wi_bipush hx hb d_Printer_addDecimal_237 (by decide) ?_
        refine wk_callV (As := [.int (iI 101)]) (rest := []) (wr := [(rr, .inr (1, [.ref tn1, .ref bn1, .int (bI neg6), .int (iI pw6)])), (tn1, .inr (0, [.ref tb1, .int (iI tk6)])), (tb1, .inl (E.1, 224, .inl (ia tg6))), (bn1, .inr (0, [.ref ba1, .int (iI bk6)])), (ba1, .inl (E.1, 224, .inl (ia bg6))), (ar, .inr (2, [.ref ln, .ref rn, .long (lI q6), .int (bI in6)])), (ln, .inr (0, [.ref la, .int (iI lk6)])), (la, .inl (E.1, 224, .inl (ia lg6))), (rn, .inr (0, [.ref ra, .int (iI rk6)])), (ra, .inl (E.1, 224, .inl (ia rg6))), (h, .inr (5, [.ref ou, .ref ar, .ref rr]))]) B gTB cl_Printer_38 (c_Row_add l D E ou oc 64 (Wr t 0 (L ++ DIG nu7 (Int.toNat dg))) ((L ++ DIG nu7 (Int.toNat dg)).length : Int) 101 (by (try simp only [List.length_append, List.length_cons, List.length_nil]); omega) (by decide) (by omega)) ⟨⟨rfl, rfl⟩, Nat.le_of_ble_eq_true rfl, Nat.le_of_ble_eq_true rfl⟩ hP hD hS [12, 11] [0, 1, 2, 3, 4, 5, 6, 7, 8, 9, 10] rfl rfl (by decide) 12 rfl rfl rfl ⟨hl.2.1, hl.1⟩ rfl (Nat.le_of_ble_eq_true rfl) d_Printer_addDecimal_239 ⟨Nat.le_of_ble_eq_true rfl, Nat.le_of_ble_eq_true rfl⟩ rfl (fun u H locs hw hP hD hS => ?_)
        have hP : va_P D classes [(rr, .inr (1, [.ref tn1, .ref bn1, .int (bI neg6), .int (iI pw6)])), (tn1, .inr (0, [.ref tb1, .int (iI tk6)])), (tb1, .inl (E.1, 224, .inl (ia tg6))), (bn1, .inr (0, [.ref ba1, .int (iI bk6)])), (ba1, .inl (E.1, 224, .inl (ia bg6))), (ar, .inr (2, [.ref ln, .ref rn, .long (lI q6), .int (bI in6)])), (ln, .inr (0, [.ref la, .int (iI lk6)])), (la, .inl (E.1, 224, .inl (ia lg6))), (rn, .inr (0, [.ref ra, .int (iI rk6)])), (ra, .inl (E.1, 224, .inl (ia rg6))), (h, .inr (5, [.ref ou, .ref ar, .ref rr])), (ou, .inr (3, [.ref oc, .int (iI (((L ++ DIG nu7 (Int.toNat dg)).length : Int) + 1))])), (oc, .inl (E.2.1, 64, .inl (ia (upZ (Wr t 0 (L ++ DIG nu7 (Int.toNat dg))) ((L ++ DIG nu7 (Int.toNat dg)).length : Int) 101))))] H := hP
        have hD : va_D A [(rr, .inr (1, [.ref tn1, .ref bn1, .int (bI neg6), .int (iI pw6)])), (tn1, .inr (0, [.ref tb1, .int (iI tk6)])), (tb1, .inl (E.1, 224, .inl (ia tg6))), (bn1, .inr (0, [.ref ba1, .int (iI bk6)])), (ba1, .inl (E.1, 224, .inl (ia bg6))), (ar, .inr (2, [.ref ln, .ref rn, .long (lI q6), .int (bI in6)])), (ln, .inr (0, [.ref la, .int (iI lk6)])), (la, .inl (E.1, 224, .inl (ia lg6))), (rn, .inr (0, [.ref ra, .int (iI rk6)])), (ra, .inl (E.1, 224, .inl (ia rg6))), (h, .inr (5, [.ref ou, .ref ar, .ref rr])), (ou, .inr (3, [.ref oc, .int (iI (((L ++ DIG nu7 (Int.toNat dg)).length : Int) + 1))])), (oc, .inl (E.2.1, 64, .inl (ia (upZ (Wr t 0 (L ++ DIG nu7 (Int.toNat dg))) ((L ++ DIG nu7 (Int.toNat dg)).length : Int) 101))))] := hD
        refine W.cs (g := F0 m 242 ls []) (cells' := 0) (slots' := 0) rfl rfl ?_
        rw [Wr_sn0 t (L ++ DIG nu7 (Int.toNat dg)) 101, Wr_ln (L ++ DIG nu7 (Int.toNat dg)) 101] at hP hD
        have hP : va_P D classes [(rr, .inr (1, [.ref tn1, .ref bn1, .int (bI neg6), .int (iI pw6)])), (tn1, .inr (0, [.ref tb1, .int (iI tk6)])), (tb1, .inl (E.1, 224, .inl (ia tg6))), (bn1, .inr (0, [.ref ba1, .int (iI bk6)])), (ba1, .inl (E.1, 224, .inl (ia bg6))), (ar, .inr (2, [.ref ln, .ref rn, .long (lI q6), .int (bI in6)])), (ln, .inr (0, [.ref la, .int (iI lk6)])), (la, .inl (E.1, 224, .inl (ia lg6))), (rn, .inr (0, [.ref ra, .int (iI rk6)])), (ra, .inl (E.1, 224, .inl (ia rg6))), (h, .inr (5, [.ref ou, .ref ar, .ref rr])), (ou, .inr (3, [.ref oc, .int (iI ((L ++ DIG nu7 (Int.toNat dg) ++ [101]).length : Int))])), (oc, .inl (E.2.1, 64, .inl (ia (Wr t 0 (L ++ DIG nu7 (Int.toNat dg) ++ [101])))))] H := hP
        have hD : va_D A [(rr, .inr (1, [.ref tn1, .ref bn1, .int (bI neg6), .int (iI pw6)])), (tn1, .inr (0, [.ref tb1, .int (iI tk6)])), (tb1, .inl (E.1, 224, .inl (ia tg6))), (bn1, .inr (0, [.ref ba1, .int (iI bk6)])), (ba1, .inl (E.1, 224, .inl (ia bg6))), (ar, .inr (2, [.ref ln, .ref rn, .long (lI q6), .int (bI in6)])), (ln, .inr (0, [.ref la, .int (iI lk6)])), (la, .inl (E.1, 224, .inl (ia lg6))), (rn, .inr (0, [.ref ra, .int (iI rk6)])), (ra, .inl (E.1, 224, .inl (ia rg6))), (h, .inr (5, [.ref ou, .ref ar, .ref rr])), (ou, .inr (3, [.ref oc, .int (iI ((L ++ DIG nu7 (Int.toNat dg) ++ [101]).length : Int))])), (oc, .inl (E.2.1, 64, .inl (ia (Wr t 0 (L ++ DIG nu7 (Int.toNat dg) ++ [101])))))] := hD
        refine W.eq (g2 := F0 m 242 ls []) rfl ?_
        refine lv_aload_n hx hb d_Printer_addDecimal_242 rfl (lv_at hl 0 rfl) ?_
        refine lv_iload hx hb d_Printer_addDecimal_243 (lv_at hl 4 rfl) ?_
        refine wk_callV (As := [.int (iI ex7)]) (rest := []) (wr := [(rr, .inr (1, [.ref tn1, .ref bn1, .int (bI neg6), .int (iI pw6)])), (tn1, .inr (0, [.ref tb1, .int (iI tk6)])), (tb1, .inl (E.1, 224, .inl (ia tg6))), (bn1, .inr (0, [.ref ba1, .int (iI bk6)])), (ba1, .inl (E.1, 224, .inl (ia bg6))), (ar, .inr (2, [.ref ln, .ref rn, .long (lI q6), .int (bI in6)])), (ln, .inr (0, [.ref la, .int (iI lk6)])), (la, .inl (E.1, 224, .inl (ia lg6))), (rn, .inr (0, [.ref ra, .int (iI rk6)])), (ra, .inl (E.1, 224, .inl (ia rg6)))]) B gTB cl_Printer_79 (c_Printer_addExponent l D E h ou ar rr oc t (L ++ DIG nu7 (Int.toNat dg) ++ [101]) ex7 (by (try simp only [List.length_append, List.length_cons, List.length_nil]); omega) (by omega)) ⟨⟨rfl, rfl⟩, Nat.le_of_ble_eq_true rfl, Nat.le_of_ble_eq_true rfl⟩ hP hD hS [10, 12, 11] [0, 1, 2, 3, 4, 5, 6, 7, 8, 9] rfl rfl (by decide) 10 rfl rfl rfl ⟨hl.2.1, hl.1⟩ rfl (Nat.le_of_ble_eq_true rfl) d_Printer_addDecimal_245 ⟨Nat.le_of_ble_eq_true rfl, Nat.le_of_ble_eq_true rfl⟩ rfl (fun L2_2 H locs hw hP hD hS => ?_)
        have hP : va_P D classes [(rr, .inr (1, [.ref tn1, .ref bn1, .int (bI neg6), .int (iI pw6)])), (tn1, .inr (0, [.ref tb1, .int (iI tk6)])), (tb1, .inl (E.1, 224, .inl (ia tg6))), (bn1, .inr (0, [.ref ba1, .int (iI bk6)])), (ba1, .inl (E.1, 224, .inl (ia bg6))), (ar, .inr (2, [.ref ln, .ref rn, .long (lI q6), .int (bI in6)])), (ln, .inr (0, [.ref la, .int (iI lk6)])), (la, .inl (E.1, 224, .inl (ia lg6))), (rn, .inr (0, [.ref ra, .int (iI rk6)])), (ra, .inl (E.1, 224, .inl (ia rg6))), (h, .inr (5, [.ref ou, .ref ar, .ref rr])), (oc, .inl (E.2.1, 64, .inl (ia (Wr t 0 L2_2)))), (ou, .inr (3, [.ref oc, .int (iI (L2_2.length : Int))]))] H := hP
        have hD : va_D A [(rr, .inr (1, [.ref tn1, .ref bn1, .int (bI neg6), .int (iI pw6)])), (tn1, .inr (0, [.ref tb1, .int (iI tk6)])), (tb1, .inl (E.1, 224, .inl (ia tg6))), (bn1, .inr (0, [.ref ba1, .int (iI bk6)])), (ba1, .inl (E.1, 224, .inl (ia bg6))), (ar, .inr (2, [.ref ln, .ref rn, .long (lI q6), .int (bI in6)])), (ln, .inr (0, [.ref la, .int (iI lk6)])), (la, .inl (E.1, 224, .inl (ia lg6))), (rn, .inr (0, [.ref ra, .int (iI rk6)])), (ra, .inl (E.1, 224, .inl (ia rg6))), (h, .inr (5, [.ref ou, .ref ar, .ref rr])), (oc, .inl (E.2.1, 64, .inl (ia (Wr t 0 L2_2)))), (ou, .inr (3, [.ref oc, .int (iI (L2_2.length : Int))]))] := hD
        have hw : (L2_2 = (L ++ DIG nu7 (Int.toNat dg) ++ [101]) ++ EXT ex7) := hw
        have hLb := hw
        refine W.cs (g := F0 m 248 ls []) (cells' := 0) (slots' := 0) rfl rfl ?_
        subst hLb
        refine W.eq (g2 := F0 m 248 ls []) rfl ?_
        exact ret ((L ++ DIG nu7 (Int.toNat dg) ++ [101]) ++ EXT ex7, nu7, ex7, tg6, bg6, tk6, bk6, pw6, neg6, lg6, rg6, lk6, rk6, q6, in6) _ _ _ _ d_Printer_addDecimal_248 (show (((L ++ DIG nu7 (Int.toNat dg) ++ [101]) ++ EXT ex7) = L ++ (DIG nu7 (Int.toNat dg) ++ [101] ++ EXT ex7)) ∧ (DCR (FM sz) (FE sz) (Int.toNat dg) aw nu7 ex7) from ⟨by simp only [List.append_assoc], hdc7⟩) (hP.sub [10, 11, 12, 0, 1, 2, 3, 4, 5, 6, 7, 8, 9] rfl) (hD.sub [10, 11, 12, 0, 1, 2, 3, 4, 5, 6, 7, 8, 9] (by decide) rfl) hS
      have hfi := DC1_fin (aw := aw) (by omega) hD1 hN6
      have hfr := hfi.2.2
      refine lv_lload hx hb d_Printer_addDecimal_203 (lv_at hl 6 rfl) ?_
      refine wi_ldc2 hx hb 10 hown (tb_h hts tw_Printer_constantLong_128) (by decide) d_Printer_addDecimal_205 ?_
      refine wi_ldiv hx hb d_Printer_addDecimal_208 (by omega) (by omega) ?_
      refine lv_lload hx hb d_Printer_addDecimal_209 (lv_at hl 4 rfl) ?_
      refine wi_lcmp hx hb (by omega) (by omega) d_Printer_addDecimal_211 ?_
      refine wi_if_lt (tgt := 226) hx hb d_Printer_addDecimal_212 (by decide) (by have := cmpZ_rng (N6 / 10) (PT10 ((Int.toNat dg) - 1)); omega) (fun c_3 => ?_) (fun c_3 => ?_)
      · skip
        have c_3 := cmpZ_lt.mp c_3
        exact K_226 N6 E5 (hfi.1 (by omega)) (by omega) (by omega) _ _ _ (lv_sub hl [0, 1, 2, 3, 5, 6] rfl) (hP.sub [0, 1, 2, 3, 4, 5, 6, 7, 8, 9, 10, 11, 12] rfl) (hD.sub [0, 1, 2, 3, 4, 5, 6, 7, 8, 9, 10, 11, 12] (by decide) rfl) hS
      · skip
        have c_3 := cmpZ_ge.mp c_3
        refine lv_lload hx hb d_Printer_addDecimal_215 (lv_at hl 6 rfl) ?_
        refine wi_ldc2 hx hb 10 hown (tb_h hts tw_Printer_constantLong_128) (by decide) d_Printer_addDecimal_217 ?_
        refine wi_ldiv hx hb d_Printer_addDecimal_220 (by omega) (by omega) ?_
        refine lv_lstore (lv' := [(9, .long (lI (N6 / 10))), (0, .ref h), (1, .long (lI sz)), (3, .int (iI dg)), (4, .int (bI aw)), (6, .long (lI (PT10 ((Int.toNat dg) - 1)))), (8, .int (iI E5))]) hx hb d_Printer_addDecimal_221 hl (by decide) rfl (fun ls hl => ?_)
        refine wi_iinc (v := E5 + 1) (lv' := [(8, .int (iI (E5 + 1))), (9, .long (lI (N6 / 10))), (0, .ref h), (1, .long (lI sz)), (3, .int (iI dg)), (4, .int (bI aw)), (6, .long (lI (PT10 ((Int.toNat dg) - 1))))]) hx hb d_Printer_addDecimal_223 hl (k := 6) rfl rfl (by decide) rfl (fun ls hl => ?_)
        exact K_226 (N6 / 10) (E5 + 1) (hfi.2.1 (by omega)) (by omega) (by omega) _ _ _ (lv_sub hl [2, 3, 4, 5, 0, 1] rfl) (hP.sub [0, 1, 2, 3, 4, 5, 6, 7, 8, 9, 10, 11, 12] rfl) (hD.sub [0, 1, 2, 3, 4, 5, 6, 7, 8, 9, 10, 11, 12] (by decide) rfl) hS
    have hfn := DC1_fin (aw := aw) (by omega) hD1 rfl
    have hdr := hD1.2.1
    refine lv_iload hx hb d_Printer_addDecimal_187 (lv_at hl 7 rfl) ?_
    refine wb_if_eq (tgt := 203) hx hb d_Printer_addDecimal_189 (by decide) (fun c_4 => ?_) (fun c_4 => ?_)
    · skip
      exact K_203 N5 (by rw [c_4]; simp) _ _ _ (lv_sub hl [0, 1, 2, 3, 4, 5, 6] rfl) (hP.sub [0, 1, 2, 3, 4, 5, 6, 7, 8, 9, 10, 11, 12] rfl) (hD.sub [0, 1, 2, 3, 4, 5, 6, 7, 8, 9, 10, 11, 12] (by decide) rfl) hS
    · skip
      refine lv_iload hx hb d_Printer_addDecimal_192 (lv_at hl 3 rfl) ?_
      refine wb_if_eq (tgt := 203) hx hb d_Printer_addDecimal_194 (by decide) (fun c_5 => ?_) (fun c_5 => ?_)
      · skip
        exact K_203 N5 (by rw [c_5]; simp) _ _ _ (lv_sub hl [0, 1, 2, 3, 4, 5, 6] rfl) (hP.sub [0, 1, 2, 3, 4, 5, 6, 7, 8, 9, 10, 11, 12] rfl) (hD.sub [0, 1, 2, 3, 4, 5, 6, 7, 8, 9, 10, 11, 12] (by decide) rfl) hS
      · skip
        refine lv_lload hx hb d_Printer_addDecimal_197 (lv_at hl 6 rfl) ?_
        refine wi_lconst (z := 1) hx hb d_Printer_addDecimal_199 (by decide) ?_
        refine wi_ladd hx hb d_Printer_addDecimal_200 ?_
        refine lv_lstore (lv' := [(9, .long (lI (N5 + 1))), (0, .ref h), (1, .long (lI sz)), (3, .int (iI dg)), (4, .int (bI aw)), (6, .long (lI (PT10 ((Int.toNat dg) - 1)))), (8, .int (iI E5)), (11, .int (bI ix5))]) hx hb d_Printer_addDecimal_201 hl (by decide) rfl (fun ls hl => ?_)
        exact K_203 (N5 + 1) (by rw [c_4, c_5]; rfl) _ _ _ (lv_sub hl [1, 2, 3, 4, 5, 6, 0] rfl) (hP.sub [0, 1, 2, 3, 4, 5, 6, 7, 8, 9, 10, 11, 12] rfl) (hD.sub [0, 1, 2, 3, 4, 5, 6, 7, 8, 9, 10, 11, 12] (by decide) rfl) hS
  have K_43 : ∀ (tg5 : Int → Int) (bg5 : Int → Int) (tk5 : Int) (bk5 : Int) (hT5 : NatOK tg5 tk5 (FM sz)) (hB5 : NatOK bg5 bk5 1) (ls : Array Slot) (H : Heap) (locs : List Loc), lv_has ls 12 [(0, .ref h), (1, .long (lI sz)), (3, .int (iI dg)), (4, .int (bI aw)), (5, .int (iI (sz / 4503599627370496)))] → va_P D classes [(h, .inr (5, [.ref ou, .ref ar, .ref rr])), (oc, .inl (E.2.1, 64, .inl (ia (Wr t 0 L)))), (ou, .inr (3, [.ref oc, .int (iI (L.length : Int))])), (rr, .inr (1, [.ref tn1, .ref bn1, .int (bI false), .int (iI 0)])), (tn1, .inr (0, [.ref tb1, .int (iI tk5)])), (tb1, .inl (E.1, 224, .inl (ia tg5))), (bn1, .inr (0, [.ref ba1, .int (iI bk5)])), (ba1, .inl (E.1, 224, .inl (ia bg5))), (ar, .inr (2, [.ref ln, .ref rn, .long (lI quo), .int (bI inx)])), (ln, .inr (0, [.ref la, .int (iI lk)])), (la, .inl (E.1, 224, .inl (ia lg))), (rn, .inr (0, [.ref ra, .int (iI rk)])), (ra, .inl (E.1, 224, .inl (ia rg)))] H → va_D A [(h, .inr (5, [.ref ou, .ref ar, .ref rr])), (oc, .inl (E.2.1, 64, .inl (ia (Wr t 0 L)))), (ou, .inr (3, [.ref oc, .int (iI (L.length : Int))])), (rr, .inr (1, [.ref tn1, .ref bn1, .int (bI false), .int (iI 0)])), (tn1, .inr (0, [.ref tb1, .int (iI tk5)])), (tb1, .inl (E.1, 224, .inl (ia tg5))), (bn1, .inr (0, [.ref ba1, .int (iI bk5)])), (ba1, .inl (E.1, 224, .inl (ia bg5))), (ar, .inr (2, [.ref ln, .ref rn, .long (lI quo), .int (bI inx)])), (ln, .inr (0, [.ref la, .int (iI lk)])), (la, .inl (E.1, 224, .inl (ia lg))), (rn, .inr (0, [.ref ra, .int (iI rk)])), (ra, .inl (E.1, 224, .inl (ia rg)))] → va_S A s.heap H locs → W p l e (rmK 4 0 0 110) s m args below meth c H locs 0 0 Q (F0 m 43 ls []) := by
    intro tg5 bg5 tk5 bk5 hT5 hB5 ls H locs hl hP hD hS
    refine lv_aload_n hx hb d_Printer_addDecimal_43 rfl (lv_at hl 0 rfl) ?_
    refine wk_get B hP 0 rfl fl_Printer_22 (v := .ref rr) rfl d_Printer_addDecimal_44 ?_
    refine lv_iload hx hb d_Printer_addDecimal_47 (lv_at hl 4 rfl) ?_
    refine wi_iconst (n := 1) hx hb d_Printer_addDecimal_49 ?_
    refine wi_mmax hx hb hown (hml.trans hl.1.symm) (tb_h hts tm_Printer_73.1) (tb_h hts tm_Printer_73.2.1) (tb_h hts tm_Printer_73.2.2.1) (tb_h hts tm_Printer_73.2.2.2) (Nat.le_of_ble_eq_true rfl) (Nat.le_of_ble_eq_true rfl) ⟨Nat.le_of_ble_eq_true rfl, Nat.le_of_ble_eq_true rfl⟩ (by omega) (by omega) d_Printer_addDecimal_50 ?_
    refine wi_iconst (n := 1) hx hb d_Printer_addDecimal_53 ?_
    refine wi_isub hx hb d_Printer_addDecimal_54 ?_
    refine wi_sipush hx hb d_Printer_addDecimal_55 (by decide) ?_
    refine wi_iadd hx hb d_Printer_addDecimal_58 ?_
    refine w_eqi (y := FE sz) (by unfold FE; split <;> omega) ?_
    refine W.eq (g2 := F0 m 59 ls [.int (iI (FE sz)), .ref rr]) rfl ?_
    refine wk_put B hP hD hS 3 rfl fl_Printer_99 fp_Ratio_3 (v := .int (iI (FE sz))) rfl rfl (Nat.le_of_ble_eq_true rfl) d_Printer_addDecimal_59 (fun H locs hP hD hS => ?_)
    have hP : va_P D classes [(h, .inr (5, [.ref ou, .ref ar, .ref rr])), (oc, .inl (E.2.1, 64, .inl (ia (Wr t 0 L)))), (ou, .inr (3, [.ref oc, .int (iI (L.length : Int))])), (rr, .inr (1, [.ref tn1, .ref bn1, .int (bI false), .int (iI (FE sz))])), (tn1, .inr (0, [.ref tb1, .int (iI tk5)])), (tb1, .inl (E.1, 224, .inl (ia tg5))), (bn1, .inr (0, [.ref ba1, .int (iI bk5)])), (ba1, .inl (E.1, 224, .inl (ia bg5))), (ar, .inr (2, [.ref ln, .ref rn, .long (lI quo), .int (bI inx)])), (ln, .inr (0, [.ref la, .int (iI lk)])), (la, .inl (E.1, 224, .inl (ia lg))), (rn, .inr (0, [.ref ra, .int (iI rk)])), (ra, .inl (E.1, 224, .inl (ia rg)))] H := hP
    have hD : va_D A [(h, .inr (5, [.ref ou, .ref ar, .ref rr])), (oc, .inl (E.2.1, 64, .inl (ia (Wr t 0 L)))), (ou, .inr (3, [.ref oc, .int (iI (L.length : Int))])), (rr, .inr (1, [.ref tn1, .ref bn1, .int (bI false), .int (iI (FE sz))])), (tn1, .inr (0, [.ref tb1, .int (iI tk5)])), (tb1, .inl (E.1, 224, .inl (ia tg5))), (bn1, .inr (0, [.ref ba1, .int (iI bk5)])), (ba1, .inl (E.1, 224, .inl (ia bg5))), (ar, .inr (2, [.ref ln, .ref rn, .long (lI quo), .int (bI inx)])), (ln, .inr (0, [.ref la, .int (iI lk)])), (la, .inl (E.1, 224, .inl (ia lg))), (rn, .inr (0, [.ref ra, .int (iI rk)])), (ra, .inl (E.1, 224, .inl (ia rg)))] := hD
    refine lv_iload_n hx hb d_Printer_addDecimal_62 rfl (lv_at hl 2 rfl) ?_
    refine wi_iconst (n := 1) hx hb d_Printer_addDecimal_63 ?_
    refine wi_isub hx hb d_Printer_addDecimal_64 ?_
    refine wk_callS (As := [.int (iI (dg - 1))]) (rest := []) (wr := [(h, .inr (5, [.ref ou, .ref ar, .ref rr])), (oc, .inl (E.2.1, 64, .inl (ia (Wr t 0 L)))), (ou, .inr (3, [.ref oc, .int (iI (L.length : Int))])), (rr, .inr (1, [.ref tn1, .ref bn1, .int (bI false), .int (iI (FE sz))])), (tn1, .inr (0, [.ref tb1, .int (iI tk5)])), (tb1, .inl (E.1, 224, .inl (ia tg5))), (bn1, .inr (0, [.ref ba1, .int (iI bk5)])), (ba1, .inl (E.1, 224, .inl (ia bg5))), (ar, .inr (2, [.ref ln, .ref rn, .long (lI quo), .int (bI inx)])), (ln, .inr (0, [.ref la, .int (iI lk)])), (la, .inl (E.1, 224, .inl (ia lg))), (rn, .inr (0, [.ref ra, .int (iI rk)])), (ra, .inl (E.1, 224, .inl (ia rg)))]) B gTB cl_Printer_102 (c_Printer_powerOfTen l D E (dg - 1) (by omega)) ⟨⟨rfl, rfl⟩, Nat.le_of_ble_eq_true rfl, Nat.le_of_ble_eq_true rfl⟩ hP hD hS [] [0, 1, 2, 3, 4, 5, 6, 7, 8, 9, 10, 11, 12] rfl rfl (by decide) ⟨hl.2.1, hl.1⟩ rfl (Nat.le_of_ble_eq_true rfl) d_Printer_addDecimal_65 ⟨Nat.le_of_ble_eq_true rfl, Nat.le_of_ble_eq_true rfl⟩ rfl (fun r_6 H locs hw hP hD hS => ?_)
    have hP : va_P D classes [(h, .inr (5, [.ref ou, .ref ar, .ref rr])), (oc, .inl (E.2.1, 64, .inl (ia (Wr t 0 L)))), (ou, .inr (3, [.ref oc, .int (iI (L.length : Int))])), (rr, .inr (1, [.ref tn1, .ref bn1, .int (bI false), .int (iI (FE sz))])), (tn1, .inr (0, [.ref tb1, .int (iI tk5)])), (tb1, .inl (E.1, 224, .inl (ia tg5))), (bn1, .inr (0, [.ref ba1, .int (iI bk5)])), (ba1, .inl (E.1, 224, .inl (ia bg5))), (ar, .inr (2, [.ref ln, .ref rn, .long (lI quo), .int (bI inx)])), (ln, .inr (0, [.ref la, .int (iI lk)])), (la, .inl (E.1, 224, .inl (ia lg))), (rn, .inr (0, [.ref ra, .int (iI rk)])), (ra, .inl (E.1, 224, .inl (ia rg)))] H := hP
    have hD : va_D A [(h, .inr (5, [.ref ou, .ref ar, .ref rr])), (oc, .inl (E.2.1, 64, .inl (ia (Wr t 0 L)))), (ou, .inr (3, [.ref oc, .int (iI (L.length : Int))])), (rr, .inr (1, [.ref tn1, .ref bn1, .int (bI false), .int (iI (FE sz))])), (tn1, .inr (0, [.ref tb1, .int (iI tk5)])), (tb1, .inl (E.1, 224, .inl (ia tg5))), (bn1, .inr (0, [.ref ba1, .int (iI bk5)])), (ba1, .inl (E.1, 224, .inl (ia bg5))), (ar, .inr (2, [.ref ln, .ref rn, .long (lI quo), .int (bI inx)])), (ln, .inr (0, [.ref la, .int (iI lk)])), (la, .inl (E.1, 224, .inl (ia lg))), (rn, .inr (0, [.ref ra, .int (iI rk)])), (ra, .inl (E.1, 224, .inl (ia rg)))] := hD
    have hw : (r_6 = PT10 (Int.toNat (dg - 1))) := hw
    have hr_7 := hw
    refine W.cs (g := F0 m 68 ls [.long (lI r_6)]) (cells' := 0) (slots' := 0) rfl rfl ?_
    subst hr_7
    refine w_eql (y := PT10 ((Int.toNat dg) - 1)) (by congr 1; omega) ?_
    refine W.eq (g2 := F0 m 68 ls [.long (lI (PT10 ((Int.toNat dg) - 1)))]) rfl ?_
    refine lv_lstore (lv' := [(6, .long (lI (PT10 ((Int.toNat dg) - 1)))), (0, .ref h), (1, .long (lI sz)), (3, .int (iI dg)), (4, .int (bI aw)), (5, .int (iI (sz / 4503599627370496)))]) hx hb d_Printer_addDecimal_68 hl (by decide) rfl (fun ls hl => ?_)
    refine lv_aload_n hx hb d_Printer_addDecimal_70 rfl (lv_at hl 1 rfl) ?_
    refine wk_get B hP 0 rfl fl_Printer_22 (v := .ref rr) rfl d_Printer_addDecimal_71 ?_
    refine wk_get B hP 3 rfl fl_Printer_86 (v := .ref tn1) rfl d_Printer_addDecimal_74 ?_
    refine wk_callV (As := []) (rest := []) (wr := [(h, .inr (5, [.ref ou, .ref ar, .ref rr])), (oc, .inl (E.2.1, 64, .inl (ia (Wr t 0 L)))), (ou, .inr (3, [.ref oc, .int (iI (L.length : Int))])), (rr, .inr (1, [.ref tn1, .ref bn1, .int (bI false), .int (iI (FE sz))])), (bn1, .inr (0, [.ref ba1, .int (iI bk5)])), (ba1, .inl (E.1, 224, .inl (ia bg5))), (ar, .inr (2, [.ref ln, .ref rn, .long (lI quo), .int (bI inx)])), (ln, .inr (0, [.ref la, .int (iI lk)])), (la, .inl (E.1, 224, .inl (ia lg))), (rn, .inr (0, [.ref ra, .int (iI rk)])), (ra, .inl (E.1, 224, .inl (ia rg)))]) B gTB cl_Printer_106 (c_Natural_bits l D E tn1 tb1 tg5 tk5 (FM sz) (hT5)) ⟨⟨rfl, rfl⟩, Nat.le_of_ble_eq_true rfl, Nat.le_of_ble_eq_true rfl⟩ hP hD hS [4, 5] [0, 1, 2, 3, 6, 7, 8, 9, 10, 11, 12] rfl rfl (by decide) 4 rfl rfl rfl ⟨hl.2.1, hl.1⟩ rfl (Nat.le_of_ble_eq_true rfl) d_Printer_addDecimal_77 ⟨Nat.le_of_ble_eq_true rfl, Nat.le_of_ble_eq_true rfl⟩ rfl (fun r1 H locs hw hP hD hS => ?_)
    have hP : va_P D classes [(h, .inr (5, [.ref ou, .ref ar, .ref rr])), (oc, .inl (E.2.1, 64, .inl (ia (Wr t 0 L)))), (ou, .inr (3, [.ref oc, .int (iI (L.length : Int))])), (rr, .inr (1, [.ref tn1, .ref bn1, .int (bI false), .int (iI (FE sz))])), (bn1, .inr (0, [.ref ba1, .int (iI bk5)])), (ba1, .inl (E.1, 224, .inl (ia bg5))), (ar, .inr (2, [.ref ln, .ref rn, .long (lI quo), .int (bI inx)])), (ln, .inr (0, [.ref la, .int (iI lk)])), (la, .inl (E.1, 224, .inl (ia lg))), (rn, .inr (0, [.ref ra, .int (iI rk)])), (ra, .inl (E.1, 224, .inl (ia rg))), (tn1, .inr (0, [.ref tb1, .int (iI tk5)])), (tb1, .inl (E.1, 224, .inl (ia tg5)))] H := hP
    have hD : va_D A [(h, .inr (5, [.ref ou, .ref ar, .ref rr])), (oc, .inl (E.2.1, 64, .inl (ia (Wr t 0 L)))), (ou, .inr (3, [.ref oc, .int (iI (L.length : Int))])), (rr, .inr (1, [.ref tn1, .ref bn1, .int (bI false), .int (iI (FE sz))])), (bn1, .inr (0, [.ref ba1, .int (iI bk5)])), (ba1, .inl (E.1, 224, .inl (ia bg5))), (ar, .inr (2, [.ref ln, .ref rn, .long (lI quo), .int (bI inx)])), (ln, .inr (0, [.ref la, .int (iI lk)])), (la, .inl (E.1, 224, .inl (ia lg))), (rn, .inr (0, [.ref ra, .int (iI rk)])), (ra, .inl (E.1, 224, .inl (ia rg))), (tn1, .inr (0, [.ref tb1, .int (iI tk5)])), (tb1, .inl (E.1, 224, .inl (ia tg5)))] := hD
    have hw : (BL (FM sz) r1) ∧ (0 ≤ r1 ∧ r1 ≤ 6720) := hw
    obtain ⟨hbl, hbr⟩ := hw
    refine W.cs (g := F0 m 80 ls [.int (iI r1)]) (cells' := 0) (slots' := 0) rfl rfl ?_
    have hfl := fl_L hsz hbl
    have hxr := ex_rng (L := r1 + FE sz - 1) hfl.2.2.2
    have hft := dec_fit (m := FM sz) (p := FE sz) (e := dg - 1 - ex10 (r1 + FE sz - 1)) (by omega) hfl.2.2.1 (by omega)
    have hqq := dec_q (d := (Int.toNat dg)) (e := dg - 1 - ex10 (r1 + FE sz - 1)) (by omega) hfl.1 hbl rfl hfl.2.2.2 (by omega)
    refine lv_aload_n hx hb d_Printer_addDecimal_80 rfl (lv_at hl 1 rfl) ?_
    refine wk_get B hP 0 rfl fl_Printer_22 (v := .ref rr) rfl d_Printer_addDecimal_81 ?_
    refine wk_get B hP 3 rfl fl_Printer_99 (v := .int (iI (FE sz))) rfl d_Printer_addDecimal_84 ?_
    refine wi_iadd hx hb d_Printer_addDecimal_87 ?_
    refine wi_iconst (n := 1) hx hb d_Printer_addDecimal_88 ?_
    refine wi_isub hx hb d_Printer_addDecimal_89 ?_
    refine wi_ldc hx hb 78913 hown (tb_h hts tw_Printer_constant_110) (by decide) d_Printer_addDecimal_90 ?_
    refine wi_imul hx hb d_Printer_addDecimal_92 ?_
    refine wi_bipush hx hb d_Printer_addDecimal_93 (by decide) ?_
    refine wi_ishr hx hb 18 262144 (by decide +kernel) rfl (by decide) (by omega) d_Printer_addDecimal_95 ?_
    refine w_eqi (y := ex10 (r1 + FE sz - 1)) (rfl) ?_
    refine W.eq (g2 := F0 m 96 ls [.int (iI (ex10 (r1 + FE sz - 1)))]) rfl ?_
    refine lv_istore (lv' := [(8, .int (iI (ex10 (r1 + FE sz - 1)))), (6, .long (lI (PT10 ((Int.toNat dg) - 1)))), (0, .ref h), (1, .long (lI sz)), (3, .int (iI dg)), (4, .int (bI aw)), (5, .int (iI (sz / 4503599627370496)))]) hx hb d_Printer_addDecimal_96 hl (by decide) rfl (fun ls hl => ?_)
    refine lv_aload_n hx hb d_Printer_addDecimal_98 rfl (lv_at hl 2 rfl) ?_
    refine wk_get B hP 0 rfl fl_Printer_22 (v := .ref rr) rfl d_Printer_addDecimal_99 ?_
    refine lv_iload_n hx hb d_Printer_addDecimal_102 rfl (lv_at hl 4 rfl) ?_
    refine wi_iconst (n := 1) hx hb d_Printer_addDecimal_103 ?_
    refine wi_isub hx hb d_Printer_addDecimal_104 ?_
    refine lv_iload hx hb d_Printer_addDecimal_105 (lv_at hl 0 rfl) ?_
    refine wi_isub hx hb d_Printer_addDecimal_107 ?_
    refine wk_callV (As := [.int (iI (dg - 1 - (ex10 (r1 + FE sz - 1))))]) (rest := []) (wr := [(h, .inr (5, [.ref ou, .ref ar, .ref rr])), (oc, .inl (E.2.1, 64, .inl (ia (Wr t 0 L)))), (ou, .inr (3, [.ref oc, .int (iI (L.length : Int))])), (ar, .inr (2, [.ref ln, .ref rn, .long (lI quo), .int (bI inx)])), (ln, .inr (0, [.ref la, .int (iI lk)])), (la, .inl (E.1, 224, .inl (ia lg))), (rn, .inr (0, [.ref ra, .int (iI rk)])), (ra, .inl (E.1, 224, .inl (ia rg)))]) B gTB cl_Printer_111 (c_Ratio_timesPowerOfTen l D E rr tn1 tb1 bn1 ba1 tg5 bg5 tk5 bk5 (FE sz) false (dg - 1 - (ex10 (r1 + FE sz - 1))) (FM sz) 1 (hT5) (hB5) (by omega) (by omega) (hft.1) (by rw [Int.one_mul]; exact hft.2.1)) ⟨⟨rfl, rfl⟩, Nat.le_of_ble_eq_true rfl, Nat.le_of_ble_eq_true rfl⟩ hP hD hS [3, 11, 12, 4, 5] [0, 1, 2, 6, 7, 8, 9, 10] rfl rfl (by decide) 3 rfl rfl rfl ⟨hl.2.1, hl.1⟩ rfl (Nat.le_of_ble_eq_true rfl) d_Printer_addDecimal_108 ⟨Nat.le_of_ble_eq_true rfl, Nat.le_of_ble_eq_true rfl⟩ rfl (fun u H locs hw hP hD hS => ?_)
    obtain ⟨tg3_8, bg3_9, tk3_10, bk3_11⟩ := u
    have hP : va_P D classes [(h, .inr (5, [.ref ou, .ref ar, .ref rr])), (oc, .inl (E.2.1, 64, .inl (ia (Wr t 0 L)))), (ou, .inr (3, [.ref oc, .int (iI (L.length : Int))])), (ar, .inr (2, [.ref ln, .ref rn, .long (lI quo), .int (bI inx)])), (ln, .inr (0, [.ref la, .int (iI lk)])), (la, .inl (E.1, 224, .inl (ia lg))), (rn, .inr (0, [.ref ra, .int (iI rk)])), (ra, .inl (E.1, 224, .inl (ia rg))), (rr, .inr (1, [.ref tn1, .ref bn1, .int (bI false), .int (iI ((FE sz) + (dg - 1 - (ex10 (r1 + FE sz - 1)))))])), (tn1, .inr (0, [.ref tb1, .int (iI tk3_10)])), (tb1, .inl (E.1, 224, .inl (ia tg3_8))), (bn1, .inr (0, [.ref ba1, .int (iI bk3_11)])), (ba1, .inl (E.1, 224, .inl (ia bg3_9)))] H := hP
    have hD : va_D A [(h, .inr (5, [.ref ou, .ref ar, .ref rr])), (oc, .inl (E.2.1, 64, .inl (ia (Wr t 0 L)))), (ou, .inr (3, [.ref oc, .int (iI (L.length : Int))])), (ar, .inr (2, [.ref ln, .ref rn, .long (lI quo), .int (bI inx)])), (ln, .inr (0, [.ref la, .int (iI lk)])), (la, .inl (E.1, 224, .inl (ia lg))), (rn, .inr (0, [.ref ra, .int (iI rk)])), (ra, .inl (E.1, 224, .inl (ia rg))), (rr, .inr (1, [.ref tn1, .ref bn1, .int (bI false), .int (iI ((FE sz) + (dg - 1 - (ex10 (r1 + FE sz - 1)))))])), (tn1, .inr (0, [.ref tb1, .int (iI tk3_10)])), (tb1, .inl (E.1, 224, .inl (ia tg3_8))), (bn1, .inr (0, [.ref ba1, .int (iI bk3_11)])), (ba1, .inl (E.1, 224, .inl (ia bg3_9)))] := hD
    have hw : (NatOK tg3_8 tk3_10 ((FM sz) * P5 (dg - 1 - (ex10 (r1 + FE sz - 1))))) ∧ (NatOK bg3_9 bk3_11 (1 * P5 (-(dg - 1 - (ex10 (r1 + FE sz - 1)))))) := hw
    obtain ⟨hTd, hBd⟩ := hw
    refine W.cs (g := F0 m 111 ls []) (cells' := 0) (slots' := 0) rfl rfl ?_
    refine lv_aload_n hx hb d_Printer_addDecimal_111 rfl (lv_at hl 2 rfl) ?_
    refine wk_get B hP 0 rfl fl_Printer_15 (v := .ref ar) rfl d_Printer_addDecimal_112 ?_
    refine lv_aload_n hx hb d_Printer_addDecimal_115 rfl (lv_at hl 2 rfl) ?_
    refine wk_get B hP 0 rfl fl_Printer_22 (v := .ref rr) rfl d_Printer_addDecimal_116 ?_
    refine wi_iconst (n := 0) hx hb d_Printer_addDecimal_119 ?_
    refine wk_callV (As := [.ref rr, .int (iI 0)]) (rest := []) (wr := [(h, .inr (5, [.ref ou, .ref ar, .ref rr])), (oc, .inl (E.2.1, 64, .inl (ia (Wr t 0 L)))), (ou, .inr (3, [.ref oc, .int (iI (L.length : Int))]))]) B gTB cl_Printer_114 (c_Arithmetic_divide l D E ar ln la rn ra lg rg lk rk quo inx rr tn1 tb1 bn1 ba1 tg3_8 bg3_9 tk3_10 bk3_11 ((FE sz) + (dg - 1 - (ex10 (r1 + FE sz - 1)))) false 0 (FM sz * P5 (dg - 1 - ex10 (r1 + FE sz - 1))) (P5 (-(dg - 1 - ex10 (r1 + FE sz - 1)))) (hTd) (by rw [Int.one_mul] at hBd; exact hBd) (P5_pos _) (by omega) (by omega) (hft.2.2.1) (hft.2.2.2) (hqq)) ⟨⟨rfl, rfl⟩, Nat.le_of_ble_eq_true rfl, Nat.le_of_ble_eq_true rfl⟩ hP hD hS [3, 4, 5, 6, 7, 8, 9, 10, 11, 12] [0, 1, 2] rfl rfl (by decide) 3 rfl rfl rfl ⟨hl.2.1, hl.1⟩ rfl (Nat.le_of_ble_eq_true rfl) d_Printer_addDecimal_120 ⟨Nat.le_of_ble_eq_true rfl, Nat.le_of_ble_eq_true rfl⟩ rfl (fun u H locs hw hP hD hS => ?_)
    obtain ⟨lg3_12, rg3_13, lk3_14, rk3_15, qd3, ind3⟩ := u
    have hP : va_P D classes [(h, .inr (5, [.ref ou, .ref ar, .ref rr])), (oc, .inl (E.2.1, 64, .inl (ia (Wr t 0 L)))), (ou, .inr (3, [.ref oc, .int (iI (L.length : Int))])), (ar, .inr (2, [.ref ln, .ref rn, .long (lI qd3), .int (bI ind3)])), (ln, .inr (0, [.ref la, .int (iI lk3_14)])), (la, .inl (E.1, 224, .inl (ia lg3_12))), (rn, .inr (0, [.ref ra, .int (iI rk3_15)])), (ra, .inl (E.1, 224, .inl (ia rg3_13))), (rr, .inr (1, [.ref tn1, .ref bn1, .int (bI false), .int (iI ((FE sz) + (dg - 1 - (ex10 (r1 + FE sz - 1)))))])), (tn1, .inr (0, [.ref tb1, .int (iI tk3_10)])), (tb1, .inl (E.1, 224, .inl (ia tg3_8))), (bn1, .inr (0, [.ref ba1, .int (iI bk3_11)])), (ba1, .inl (E.1, 224, .inl (ia bg3_9)))] H := hP
    have hD : va_D A [(h, .inr (5, [.ref ou, .ref ar, .ref rr])), (oc, .inl (E.2.1, 64, .inl (ia (Wr t 0 L)))), (ou, .inr (3, [.ref oc, .int (iI (L.length : Int))])), (ar, .inr (2, [.ref ln, .ref rn, .long (lI qd3), .int (bI ind3)])), (ln, .inr (0, [.ref la, .int (iI lk3_14)])), (la, .inl (E.1, 224, .inl (ia lg3_12))), (rn, .inr (0, [.ref ra, .int (iI rk3_15)])), (ra, .inl (E.1, 224, .inl (ia rg3_13))), (rr, .inr (1, [.ref tn1, .ref bn1, .int (bI false), .int (iI ((FE sz) + (dg - 1 - (ex10 (r1 + FE sz - 1)))))])), (tn1, .inr (0, [.ref tb1, .int (iI tk3_10)])), (tb1, .inl (E.1, 224, .inl (ia tg3_8))), (bn1, .inr (0, [.ref ba1, .int (iI bk3_11)])), (ba1, .inl (E.1, 224, .inl (ia bg3_9)))] := hD
    have hw : (qd3 = (FM sz * P5 (dg - 1 - ex10 (r1 + FE sz - 1))) * P2 (((FE sz) + (dg - 1 - (ex10 (r1 + FE sz - 1)))) - 0) / ((P5 (-(dg - 1 - ex10 (r1 + FE sz - 1)))) * P2 (0 - ((FE sz) + (dg - 1 - (ex10 (r1 + FE sz - 1))))))) ∧ (ind3 = true ↔ (FM sz * P5 (dg - 1 - ex10 (r1 + FE sz - 1))) * P2 (((FE sz) + (dg - 1 - (ex10 (r1 + FE sz - 1)))) - 0) % ((P5 (-(dg - 1 - ex10 (r1 + FE sz - 1)))) * P2 (0 - ((FE sz) + (dg - 1 - (ex10 (r1 + FE sz - 1)))))) ≠ 0) := hw
    obtain ⟨hqd, hid⟩ := hw
    refine W.cs (g := F0 m 123 ls []) (cells' := 0) (slots' := 0) rfl rfl ?_
    have hdc := dc_div (d := (Int.toNat dg)) (by omega) hfl.1 hbl rfl hfl.2.2.2 (by omega) hqd hid
    refine lv_aload_n hx hb d_Printer_addDecimal_123 rfl (lv_at hl 2 rfl) ?_
    refine wk_get B hP 0 rfl fl_Printer_15 (v := .ref ar) rfl d_Printer_addDecimal_124 ?_
    refine wk_get B hP 3 rfl fl_Printer_120 (v := .long (lI qd3)) rfl d_Printer_addDecimal_127 ?_
    refine lv_lstore (lv' := [(9, .long (lI qd3)), (8, .int (iI (ex10 (r1 + FE sz - 1)))), (6, .long (lI (PT10 ((Int.toNat dg) - 1)))), (0, .ref h), (1, .long (lI sz)), (3, .int (iI dg)), (4, .int (bI aw)), (5, .int (iI (sz / 4503599627370496)))]) hx hb d_Printer_addDecimal_130 hl (by decide) rfl (fun ls hl => ?_)
    refine lv_aload_n hx hb d_Printer_addDecimal_132 rfl (lv_at hl 3 rfl) ?_
    refine wk_get B hP 0 rfl fl_Printer_15 (v := .ref ar) rfl d_Printer_addDecimal_133 ?_
    refine wk_get B hP 3 rfl fl_Printer_124 (v := .int (bI ind3)) rfl d_Printer_addDecimal_136 ?_
    refine lv_istore (lv' := [(11, .int (bI ind3)), (9, .long (lI qd3)), (8, .int (iI (ex10 (r1 + FE sz - 1)))), (6, .long (lI (PT10 ((Int.toNat dg) - 1)))), (0, .ref h), (1, .long (lI sz)), (3, .int (iI dg)), (4, .int (bI aw)), (5, .int (iI (sz / 4503599627370496)))]) hx hb d_Printer_addDecimal_139 hl (by decide) rfl (fun ls hl => ?_)
    refine lv_lload hx hb d_Printer_addDecimal_141 (lv_at hl 1 rfl) ?_
    refine wi_ldc2 hx hb 10 hown (tb_h hts tw_Printer_constantLong_128) (by decide) d_Printer_addDecimal_143 ?_
    refine wi_ldiv hx hb d_Printer_addDecimal_146 (by omega) (by omega) ?_
    refine lv_lload hx hb d_Printer_addDecimal_147 (lv_at hl 3 rfl) ?_
    refine wi_lcmp hx hb (by omega) (by omega) d_Printer_addDecimal_149 ?_
    refine wi_if_lt (tgt := 187) hx hb d_Printer_addDecimal_150 (by decide) (by have := cmpZ_rng (qd3 / 10) (PT10 ((Int.toNat dg) - 1)); omega) (fun c_16 => ?_) (fun c_16 => ?_)
    · skip
      have c_16 := cmpZ_lt.mp c_16
      exact K_187 qd3 (ex10 (r1 + FE sz - 1)) ind3 tg3_8 bg3_9 tk3_10 bk3_11 ((FE sz) + (dg - 1 - (ex10 (r1 + FE sz - 1)))) false lg3_12 rg3_13 lk3_14 rk3_15 qd3 ind3 (DC1_lo hdc.1 hdc.2.1 hdc.2.2.1 (by omega)) (by omega) _ _ _ (lv_sub hl [4, 5, 6, 7, 3, 2, 1, 0] rfl) (hP.sub [0, 1, 2, 8, 9, 10, 11, 12, 3, 4, 5, 6, 7] rfl) (hD.sub [0, 1, 2, 8, 9, 10, 11, 12, 3, 4, 5, 6, 7] (by decide) rfl) hS
    · skip
      have c_16 := cmpZ_ge.mp c_16
      refine lv_iload hx hb d_Printer_addDecimal_153 (lv_at hl 0 rfl) ?_
      refine wb_if_ne (tgt := 169) hx hb d_Printer_addDecimal_155 (by decide) (fun c_17 => ?_) (fun c_17 => ?_)
      · skip
        refine wi_iconst (n := 1) hx hb d_Printer_addDecimal_169 ?_
        refine lv_goto (tgt := 174) hx hb d_Printer_addDecimal_170 (by decide) ?_
        refine w_as1 ?_
        refine lv_istore (lv' := [(11, .int (bI true)), (9, .long (lI qd3)), (8, .int (iI (ex10 (r1 + FE sz - 1)))), (6, .long (lI (PT10 ((Int.toNat dg) - 1)))), (0, .ref h), (1, .long (lI sz)), (3, .int (iI dg)), (4, .int (bI aw)), (5, .int (iI (sz / 4503599627370496)))]) hx hb d_Printer_addDecimal_174 hl (by decide) rfl (fun ls hl => ?_)
        refine lv_lload hx hb d_Printer_addDecimal_176 (lv_at hl 1 rfl) ?_
        refine wi_ldc2 hx hb 10 hown (tb_h hts tw_Printer_constantLong_128) (by decide) d_Printer_addDecimal_178 ?_
        refine wi_ldiv hx hb d_Printer_addDecimal_181 (by omega) (by omega) ?_
        refine lv_lstore (lv' := [(9, .long (lI (qd3 / 10))), (11, .int (bI true)), (8, .int (iI (ex10 (r1 + FE sz - 1)))), (6, .long (lI (PT10 ((Int.toNat dg) - 1)))), (0, .ref h), (1, .long (lI sz)), (3, .int (iI dg)), (4, .int (bI aw)), (5, .int (iI (sz / 4503599627370496)))]) hx hb d_Printer_addDecimal_182 hl (by decide) rfl (fun ls hl => ?_)
        refine wi_iinc (v := ex10 (r1 + FE sz - 1) + 1) (lv' := [(8, .int (iI (ex10 (r1 + FE sz - 1) + 1))), (9, .long (lI (qd3 / 10))), (11, .int (bI true)), (6, .long (lI (PT10 ((Int.toNat dg) - 1)))), (0, .ref h), (1, .long (lI sz)), (3, .int (iI dg)), (4, .int (bI aw)), (5, .int (iI (sz / 4503599627370496)))]) hx hb d_Printer_addDecimal_184 hl (k := 2) rfl rfl (by decide) rfl (fun ls hl => ?_)
        exact K_187 (qd3 / 10) (ex10 (r1 + FE sz - 1) + 1) true tg3_8 bg3_9 tk3_10 bk3_11 ((FE sz) + (dg - 1 - (ex10 (r1 + FE sz - 1)))) false lg3_12 rg3_13 lk3_14 rk3_15 qd3 ind3 (DC1_hi (by omega) hdc.1 hdc.2.1 (by omega) hdc.2.2.2 (by first | exact ⟨fun _ => Or.inl c_17, fun _ => rfl⟩ | exact ⟨fun _ => Or.inr c_18, fun _ => rfl⟩ | exact ⟨fun z => (by cases z), fun z => z.elim (fun y => by rw [c_17] at y; cases y) (fun y => absurd c_18 y)⟩)) (by omega) _ _ _ (lv_sub hl [4, 5, 6, 7, 3, 0, 1, 2] rfl) (hP.sub [0, 1, 2, 8, 9, 10, 11, 12, 3, 4, 5, 6, 7] rfl) (hD.sub [0, 1, 2, 8, 9, 10, 11, 12, 3, 4, 5, 6, 7] (by decide) rfl) hS
      · skip
        refine lv_lload hx hb d_Printer_addDecimal_158 (lv_at hl 1 rfl) ?_
        refine wi_ldc2 hx hb 10 hown (tb_h hts tw_Printer_constantLong_128) (by decide) d_Printer_addDecimal_160 ?_
        refine wi_lrem hx hb d_Printer_addDecimal_163 (by omega) (by omega) ?_
        refine wi_lconst (z := 0) hx hb d_Printer_addDecimal_164 (by decide) ?_
        refine wi_lcmp hx hb (by omega) (by omega) d_Printer_addDecimal_165 ?_
        refine wi_if_eq (tgt := 173) hx hb d_Printer_addDecimal_166 (by decide) (by have := cmpZ_rng (qd3 % 10) 0; omega) (fun c_18 => ?_) (fun c_18 => ?_)
        · skip
          have c_18 := cmpZ_eq.mp c_18
          refine wi_iconst (n := 0) hx hb d_Printer_addDecimal_173 ?_
          refine w_as0 ?_
          refine lv_istore (lv' := [(11, .int (bI false)), (9, .long (lI qd3)), (8, .int (iI (ex10 (r1 + FE sz - 1)))), (6, .long (lI (PT10 ((Int.toNat dg) - 1)))), (0, .ref h), (1, .long (lI sz)), (3, .int (iI dg)), (4, .int (bI aw)), (5, .int (iI (sz / 4503599627370496)))]) hx hb d_Printer_addDecimal_174 hl (by decide) rfl (fun ls hl => ?_)
          refine lv_lload hx hb d_Printer_addDecimal_176 (lv_at hl 1 rfl) ?_
          refine wi_ldc2 hx hb 10 hown (tb_h hts tw_Printer_constantLong_128) (by decide) d_Printer_addDecimal_178 ?_
          refine wi_ldiv hx hb d_Printer_addDecimal_181 (by omega) (by omega) ?_
          refine lv_lstore (lv' := [(9, .long (lI (qd3 / 10))), (11, .int (bI false)), (8, .int (iI (ex10 (r1 + FE sz - 1)))), (6, .long (lI (PT10 ((Int.toNat dg) - 1)))), (0, .ref h), (1, .long (lI sz)), (3, .int (iI dg)), (4, .int (bI aw)), (5, .int (iI (sz / 4503599627370496)))]) hx hb d_Printer_addDecimal_182 hl (by decide) rfl (fun ls hl => ?_)
          refine wi_iinc (v := ex10 (r1 + FE sz - 1) + 1) (lv' := [(8, .int (iI (ex10 (r1 + FE sz - 1) + 1))), (9, .long (lI (qd3 / 10))), (11, .int (bI false)), (6, .long (lI (PT10 ((Int.toNat dg) - 1)))), (0, .ref h), (1, .long (lI sz)), (3, .int (iI dg)), (4, .int (bI aw)), (5, .int (iI (sz / 4503599627370496)))]) hx hb d_Printer_addDecimal_184 hl (k := 2) rfl rfl (by decide) rfl (fun ls hl => ?_)
          exact K_187 (qd3 / 10) (ex10 (r1 + FE sz - 1) + 1) false tg3_8 bg3_9 tk3_10 bk3_11 ((FE sz) + (dg - 1 - (ex10 (r1 + FE sz - 1)))) false lg3_12 rg3_13 lk3_14 rk3_15 qd3 ind3 (DC1_hi (by omega) hdc.1 hdc.2.1 (by omega) hdc.2.2.2 (by first | exact ⟨fun _ => Or.inl c_17, fun _ => rfl⟩ | exact ⟨fun _ => Or.inr c_18, fun _ => rfl⟩ | exact ⟨fun z => (by cases z), fun z => z.elim (fun y => by rw [c_17] at y; cases y) (fun y => absurd c_18 y)⟩)) (by omega) _ _ _ (lv_sub hl [4, 5, 6, 7, 3, 0, 1, 2] rfl) (hP.sub [0, 1, 2, 8, 9, 10, 11, 12, 3, 4, 5, 6, 7] rfl) (hD.sub [0, 1, 2, 8, 9, 10, 11, 12, 3, 4, 5, 6, 7] (by decide) rfl) hS
        · skip
          have c_18 := cmpZ_ne.mp c_18
          refine wi_iconst (n := 1) hx hb d_Printer_addDecimal_169 ?_
          refine lv_goto (tgt := 174) hx hb d_Printer_addDecimal_170 (by decide) ?_
          refine w_as1 ?_
          refine lv_istore (lv' := [(11, .int (bI true)), (9, .long (lI qd3)), (8, .int (iI (ex10 (r1 + FE sz - 1)))), (6, .long (lI (PT10 ((Int.toNat dg) - 1)))), (0, .ref h), (1, .long (lI sz)), (3, .int (iI dg)), (4, .int (bI aw)), (5, .int (iI (sz / 4503599627370496)))]) hx hb d_Printer_addDecimal_174 hl (by decide) rfl (fun ls hl => ?_)
          refine lv_lload hx hb d_Printer_addDecimal_176 (lv_at hl 1 rfl) ?_
          refine wi_ldc2 hx hb 10 hown (tb_h hts tw_Printer_constantLong_128) (by decide) d_Printer_addDecimal_178 ?_
          refine wi_ldiv hx hb d_Printer_addDecimal_181 (by omega) (by omega) ?_
          refine lv_lstore (lv' := [(9, .long (lI (qd3 / 10))), (11, .int (bI true)), (8, .int (iI (ex10 (r1 + FE sz - 1)))), (6, .long (lI (PT10 ((Int.toNat dg) - 1)))), (0, .ref h), (1, .long (lI sz)), (3, .int (iI dg)), (4, .int (bI aw)), (5, .int (iI (sz / 4503599627370496)))]) hx hb d_Printer_addDecimal_182 hl (by decide) rfl (fun ls hl => ?_)
          refine wi_iinc (v := ex10 (r1 + FE sz - 1) + 1) (lv' := [(8, .int (iI (ex10 (r1 + FE sz - 1) + 1))), (9, .long (lI (qd3 / 10))), (11, .int (bI true)), (6, .long (lI (PT10 ((Int.toNat dg) - 1)))), (0, .ref h), (1, .long (lI sz)), (3, .int (iI dg)), (4, .int (bI aw)), (5, .int (iI (sz / 4503599627370496)))]) hx hb d_Printer_addDecimal_184 hl (k := 2) rfl rfl (by decide) rfl (fun ls hl => ?_)
          exact K_187 (qd3 / 10) (ex10 (r1 + FE sz - 1) + 1) true tg3_8 bg3_9 tk3_10 bk3_11 ((FE sz) + (dg - 1 - (ex10 (r1 + FE sz - 1)))) false lg3_12 rg3_13 lk3_14 rk3_15 qd3 ind3 (DC1_hi (by omega) hdc.1 hdc.2.1 (by omega) hdc.2.2.2 (by first | exact ⟨fun _ => Or.inl c_17, fun _ => rfl⟩ | exact ⟨fun _ => Or.inr c_18, fun _ => rfl⟩ | exact ⟨fun z => (by cases z), fun z => z.elim (fun y => by rw [c_17] at y; cases y) (fun y => absurd c_18 y)⟩)) (by omega) _ _ _ (lv_sub hl [4, 5, 6, 7, 3, 0, 1, 2] rfl) (hP.sub [0, 1, 2, 8, 9, 10, 11, 12, 3, 4, 5, 6, 7] rfl) (hD.sub [0, 1, 2, 8, 9, 10, 11, 12, 3, 4, 5, 6, 7] (by decide) rfl) hS
  refine lv_lload_n hx hb d_Printer_addDecimal_0 rfl (lv_at hl 1 rfl) ?_
  refine wi_bipush hx hb d_Printer_addDecimal_1 (by decide) ?_
  refine wi_lshr hx hb 52 4503599627370496 (by decide +kernel) rfl (by decide) (by omega) d_Printer_addDecimal_3 ?_
  refine wi_l2i hx hb d_Printer_addDecimal_4 ?_
  refine lv_istore (lv' := [(5, .int (iI (sz / 4503599627370496))), (0, .ref h), (1, .long (lI sz)), (3, .int (iI dg)), (4, .int (bI aw))]) hx hb d_Printer_addDecimal_5 hl (by decide) rfl (fun ls hl => ?_)
  refine lv_aload_n hx hb d_Printer_addDecimal_7 rfl (lv_at hl 1 rfl) ?_
  refine wk_get B hP 0 rfl fl_Printer_22 (v := .ref rr) rfl d_Printer_addDecimal_8 ?_
  refine wi_iconst (n := 0) hx hb d_Printer_addDecimal_11 ?_
  refine w_as0 ?_
  refine wk_callV (As := [.int (bI false)]) (rest := []) (wr := [(h, .inr (5, [.ref ou, .ref ar, .ref rr])), (oc, .inl (E.2.1, 64, .inl (ia (Wr t 0 L)))), (ou, .inr (3, [.ref oc, .int (iI (L.length : Int))])), (tn1, .inr (0, [.ref tb1, .int (iI tk1)])), (tb1, .inl (E.1, 224, .inl (ia tg1))), (ar, .inr (2, [.ref ln, .ref rn, .long (lI quo), .int (bI inx)])), (ln, .inr (0, [.ref la, .int (iI lk)])), (la, .inl (E.1, 224, .inl (ia lg))), (rn, .inr (0, [.ref ra, .int (iI rk)])), (ra, .inl (E.1, 224, .inl (ia rg)))]) B gTB cl_Printer_82 (c_Ratio_startWhole l D E rr tn1 bn1 ba1 bg1 bk1 pw1 neg1 false ) ⟨⟨rfl, rfl⟩, Nat.le_of_ble_eq_true rfl, Nat.le_of_ble_eq_true rfl⟩ hP hD hS [3, 6, 7] [0, 1, 2, 4, 5, 8, 9, 10, 11, 12] rfl rfl (by decide) 3 rfl rfl rfl ⟨hl.2.1, hl.1⟩ rfl (Nat.le_of_ble_eq_true rfl) d_Printer_addDecimal_12 ⟨Nat.le_of_ble_eq_true rfl, Nat.le_of_ble_eq_true rfl⟩ rfl (fun u H locs hw hP hD hS => ?_)
  obtain ⟨bg2_19, bk2_20⟩ := u
  have hP : va_P D classes [(h, .inr (5, [.ref ou, .ref ar, .ref rr])), (oc, .inl (E.2.1, 64, .inl (ia (Wr t 0 L)))), (ou, .inr (3, [.ref oc, .int (iI (L.length : Int))])), (tn1, .inr (0, [.ref tb1, .int (iI tk1)])), (tb1, .inl (E.1, 224, .inl (ia tg1))), (ar, .inr (2, [.ref ln, .ref rn, .long (lI quo), .int (bI inx)])), (ln, .inr (0, [.ref la, .int (iI lk)])), (la, .inl (E.1, 224, .inl (ia lg))), (rn, .inr (0, [.ref ra, .int (iI rk)])), (ra, .inl (E.1, 224, .inl (ia rg))), (rr, .inr (1, [.ref tn1, .ref bn1, .int (bI false), .int (iI 0)])), (bn1, .inr (0, [.ref ba1, .int (iI bk2_20)])), (ba1, .inl (E.1, 224, .inl (ia bg2_19)))] H := hP
  have hD : va_D A [(h, .inr (5, [.ref ou, .ref ar, .ref rr])), (oc, .inl (E.2.1, 64, .inl (ia (Wr t 0 L)))), (ou, .inr (3, [.ref oc, .int (iI (L.length : Int))])), (tn1, .inr (0, [.ref tb1, .int (iI tk1)])), (tb1, .inl (E.1, 224, .inl (ia tg1))), (ar, .inr (2, [.ref ln, .ref rn, .long (lI quo), .int (bI inx)])), (ln, .inr (0, [.ref la, .int (iI lk)])), (la, .inl (E.1, 224, .inl (ia lg))), (rn, .inr (0, [.ref ra, .int (iI rk)])), (ra, .inl (E.1, 224, .inl (ia rg))), (rr, .inr (1, [.ref tn1, .ref bn1, .int (bI false), .int (iI 0)])), (bn1, .inr (0, [.ref ba1, .int (iI bk2_20)])), (ba1, .inl (E.1, 224, .inl (ia bg2_19)))] := hD
  have hw : (NatOK bg2_19 bk2_20 1) := hw
  have hBs := hw
  refine W.cs (g := F0 m 15 ls []) (cells' := 0) (slots' := 0) rfl rfl ?_
  refine lv_aload_n hx hb d_Printer_addDecimal_15 rfl (lv_at hl 1 rfl) ?_
  refine wk_get B hP 0 rfl fl_Printer_22 (v := .ref rr) rfl d_Printer_addDecimal_16 ?_
  refine wk_get B hP 10 rfl fl_Printer_86 (v := .ref tn1) rfl d_Printer_addDecimal_19 ?_
  refine lv_iload hx hb d_Printer_addDecimal_22 (lv_at hl 0 rfl) ?_
  refine wi_if_ne (tgt := 31) hx hb d_Printer_addDecimal_24 (by decide) (by omega) (fun c_21 => ?_) (fun c_21 => ?_)
  · skip
    refine lv_lload_n hx hb d_Printer_addDecimal_31 rfl (lv_at hl 2 rfl) ?_
    refine wi_ldc2 hx hb 4503599627370495 hown (tb_h hts tw_Printer_constantLong_90) (by decide) d_Printer_addDecimal_32 ?_
    refine wi_lmask hx hb 52 4503599627370496 (by decide +kernel) (by decide) (by decide) d_Printer_addDecimal_35 ?_
    refine wi_ldc2 hx hb 4503599627370496 hown (tb_h hts tw_Printer_constantLong_92) (by decide) d_Printer_addDecimal_36 ?_
    refine wi_lor2 hx hb 52 1 (by decide) (by omega) d_Printer_addDecimal_39 ?_
    refine wk_callV (As := [.long (lI (sz % 4503599627370496 + 4503599627370496))]) (rest := []) (wr := [(h, .inr (5, [.ref ou, .ref ar, .ref rr])), (oc, .inl (E.2.1, 64, .inl (ia (Wr t 0 L)))), (ou, .inr (3, [.ref oc, .int (iI (L.length : Int))])), (ar, .inr (2, [.ref ln, .ref rn, .long (lI quo), .int (bI inx)])), (ln, .inr (0, [.ref la, .int (iI lk)])), (la, .inl (E.1, 224, .inl (ia lg))), (rn, .inr (0, [.ref ra, .int (iI rk)])), (ra, .inl (E.1, 224, .inl (ia rg))), (rr, .inr (1, [.ref tn1, .ref bn1, .int (bI false), .int (iI 0)])), (bn1, .inr (0, [.ref ba1, .int (iI bk2_20)])), (ba1, .inl (E.1, 224, .inl (ia bg2_19)))]) B gTB cl_Printer_94 (c_Natural_set l D E tn1 tb1 tg1 tk1 (sz % 4503599627370496 + 4503599627370496) (by omega)) ⟨⟨rfl, rfl⟩, Nat.le_of_ble_eq_true rfl, Nat.le_of_ble_eq_true rfl⟩ hP hD hS [3, 4] [0, 1, 2, 5, 6, 7, 8, 9, 10, 11, 12] rfl rfl (by decide) 3 rfl rfl rfl ⟨hl.2.1, hl.1⟩ rfl (Nat.le_of_ble_eq_true rfl) d_Printer_addDecimal_40 ⟨Nat.le_of_ble_eq_true rfl, Nat.le_of_ble_eq_true rfl⟩ rfl (fun u H locs hw hP hD hS => ?_)
    obtain ⟨g2_22, k2_23⟩ := u
    have hP : va_P D classes [(h, .inr (5, [.ref ou, .ref ar, .ref rr])), (oc, .inl (E.2.1, 64, .inl (ia (Wr t 0 L)))), (ou, .inr (3, [.ref oc, .int (iI (L.length : Int))])), (ar, .inr (2, [.ref ln, .ref rn, .long (lI quo), .int (bI inx)])), (ln, .inr (0, [.ref la, .int (iI lk)])), (la, .inl (E.1, 224, .inl (ia lg))), (rn, .inr (0, [.ref ra, .int (iI rk)])), (ra, .inl (E.1, 224, .inl (ia rg))), (rr, .inr (1, [.ref tn1, .ref bn1, .int (bI false), .int (iI 0)])), (bn1, .inr (0, [.ref ba1, .int (iI bk2_20)])), (ba1, .inl (E.1, 224, .inl (ia bg2_19))), (tn1, .inr (0, [.ref tb1, .int (iI k2_23)])), (tb1, .inl (E.1, 224, .inl (ia g2_22)))] H := hP
    have hD : va_D A [(h, .inr (5, [.ref ou, .ref ar, .ref rr])), (oc, .inl (E.2.1, 64, .inl (ia (Wr t 0 L)))), (ou, .inr (3, [.ref oc, .int (iI (L.length : Int))])), (ar, .inr (2, [.ref ln, .ref rn, .long (lI quo), .int (bI inx)])), (ln, .inr (0, [.ref la, .int (iI lk)])), (la, .inl (E.1, 224, .inl (ia lg))), (rn, .inr (0, [.ref ra, .int (iI rk)])), (ra, .inl (E.1, 224, .inl (ia rg))), (rr, .inr (1, [.ref tn1, .ref bn1, .int (bI false), .int (iI 0)])), (bn1, .inr (0, [.ref ba1, .int (iI bk2_20)])), (ba1, .inl (E.1, 224, .inl (ia bg2_19))), (tn1, .inr (0, [.ref tb1, .int (iI k2_23)])), (tb1, .inl (E.1, 224, .inl (ia g2_22)))] := hD
    have hw : (NatOK g2_22 k2_23 (sz % 4503599627370496 + 4503599627370496)) := hw
    have hN_24 := hw
    refine W.cs (g := F0 m 43 ls []) (cells' := 0) (slots' := 0) rfl rfl ?_
    exact K_43 g2_22 bg2_19 k2_23 bk2_20 (by unfold FM; rw [if_neg (by omega), Int.add_comm]; exact hN_24) (hBs) _ _ _ (lv_sub hl [1, 2, 3, 4, 0] rfl) (hP.sub [0, 1, 2, 8, 11, 12, 9, 10, 3, 4, 5, 6, 7] rfl) (hD.sub [0, 1, 2, 8, 11, 12, 9, 10, 3, 4, 5, 6, 7] (by decide) rfl) hS
  · skip
    refine lv_lload_n hx hb d_Printer_addDecimal_27 rfl (lv_at hl 2 rfl) ?_
    refine lv_goto (tgt := 40) hx hb d_Printer_addDecimal_28 (by decide) ?_
    refine wk_callV (As := [.long (lI sz)]) (rest := []) (wr := [(h, .inr (5, [.ref ou, .ref ar, .ref rr])), (oc, .inl (E.2.1, 64, .inl (ia (Wr t 0 L)))), (ou, .inr (3, [.ref oc, .int (iI (L.length : Int))])), (ar, .inr (2, [.ref ln, .ref rn, .long (lI quo), .int (bI inx)])), (ln, .inr (0, [.ref la, .int (iI lk)])), (la, .inl (E.1, 224, .inl (ia lg))), (rn, .inr (0, [.ref ra, .int (iI rk)])), (ra, .inl (E.1, 224, .inl (ia rg))), (rr, .inr (1, [.ref tn1, .ref bn1, .int (bI false), .int (iI 0)])), (bn1, .inr (0, [.ref ba1, .int (iI bk2_20)])), (ba1, .inl (E.1, 224, .inl (ia bg2_19)))]) B gTB cl_Printer_94 (c_Natural_set l D E tn1 tb1 tg1 tk1 sz (by omega)) ⟨⟨rfl, rfl⟩, Nat.le_of_ble_eq_true rfl, Nat.le_of_ble_eq_true rfl⟩ hP hD hS [3, 4] [0, 1, 2, 5, 6, 7, 8, 9, 10, 11, 12] rfl rfl (by decide) 3 rfl rfl rfl ⟨hl.2.1, hl.1⟩ rfl (Nat.le_of_ble_eq_true rfl) d_Printer_addDecimal_40 ⟨Nat.le_of_ble_eq_true rfl, Nat.le_of_ble_eq_true rfl⟩ rfl (fun u H locs hw hP hD hS => ?_)
    obtain ⟨g2_25, k2_26⟩ := u
    have hP : va_P D classes [(h, .inr (5, [.ref ou, .ref ar, .ref rr])), (oc, .inl (E.2.1, 64, .inl (ia (Wr t 0 L)))), (ou, .inr (3, [.ref oc, .int (iI (L.length : Int))])), (ar, .inr (2, [.ref ln, .ref rn, .long (lI quo), .int (bI inx)])), (ln, .inr (0, [.ref la, .int (iI lk)])), (la, .inl (E.1, 224, .inl (ia lg))), (rn, .inr (0, [.ref ra, .int (iI rk)])), (ra, .inl (E.1, 224, .inl (ia rg))), (rr, .inr (1, [.ref tn1, .ref bn1, .int (bI false), .int (iI 0)])), (bn1, .inr (0, [.ref ba1, .int (iI bk2_20)])), (ba1, .inl (E.1, 224, .inl (ia bg2_19))), (tn1, .inr (0, [.ref tb1, .int (iI k2_26)])), (tb1, .inl (E.1, 224, .inl (ia g2_25)))] H := hP
    have hD : va_D A [(h, .inr (5, [.ref ou, .ref ar, .ref rr])), (oc, .inl (E.2.1, 64, .inl (ia (Wr t 0 L)))), (ou, .inr (3, [.ref oc, .int (iI (L.length : Int))])), (ar, .inr (2, [.ref ln, .ref rn, .long (lI quo), .int (bI inx)])), (ln, .inr (0, [.ref la, .int (iI lk)])), (la, .inl (E.1, 224, .inl (ia lg))), (rn, .inr (0, [.ref ra, .int (iI rk)])), (ra, .inl (E.1, 224, .inl (ia rg))), (rr, .inr (1, [.ref tn1, .ref bn1, .int (bI false), .int (iI 0)])), (bn1, .inr (0, [.ref ba1, .int (iI bk2_20)])), (ba1, .inl (E.1, 224, .inl (ia bg2_19))), (tn1, .inr (0, [.ref tb1, .int (iI k2_26)])), (tb1, .inl (E.1, 224, .inl (ia g2_25)))] := hD
    have hw : (NatOK g2_25 k2_26 sz) := hw
    have hN_27 := hw
    refine W.cs (g := F0 m 43 ls []) (cells' := 0) (slots' := 0) rfl rfl ?_
    exact K_43 g2_25 bg2_19 k2_26 bk2_20 (by unfold FM; rw [if_pos (by omega)]; exact hN_27) (hBs) _ _ _ (lv_sub hl [1, 2, 3, 4, 0] rfl) (hP.sub [0, 1, 2, 8, 11, 12, 9, 10, 3, 4, 5, 6, 7] rfl) (hD.sub [0, 1, 2, 8, 11, 12, 9, 10, 3, 4, 5, 6, 7] (by decide) rfl) hS
