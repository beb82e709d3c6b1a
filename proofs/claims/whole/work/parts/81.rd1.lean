/-! Model: lower, isBlank, isDigit, hexDigit, isWord, findByte, readDigits -/
abbrev b_Mo_lower : ByteArray := prog_9_method_15_code
def y_Mo_lower : MethodName := ⟨"IntervalTextModel", "lower", "(I)I"⟩
abbrev b_Mo_isBlank : ByteArray := prog_9_method_16_code
def y_Mo_isBlank : MethodName := ⟨"IntervalTextModel", "isBlank", "(I)Z"⟩
abbrev b_Mo_isDigit : ByteArray := prog_9_method_17_code
def y_Mo_isDigit : MethodName := ⟨"IntervalTextModel", "isDigit", "(I)Z"⟩
abbrev b_Mo_hexDigit : ByteArray := prog_9_method_18_code
def y_Mo_hexDigit : MethodName := ⟨"IntervalTextModel", "hexDigit", "(I)I"⟩
abbrev b_Mo_isWord : ByteArray := prog_9_method_19_code
def y_Mo_isWord : MethodName := ⟨"IntervalTextModel", "isWord", "(IILjava/lang/String;)Z"⟩
abbrev b_Mo_findByte : ByteArray := prog_9_method_20_code
def y_Mo_findByte : MethodName := ⟨"IntervalTextModel", "findByte", "(III)I"⟩
abbrev b_Mo_readDigits : ByteArray := prog_9_method_21_code
def y_Mo_readDigits : MethodName := ⟨"IntervalTextModel", "readDigits", "(IIILIntervalTextModel$Num;)I"⟩
theorem d_Mo_lower_0 : decode b_Mo_lower 0 = .ok (.iload_n 0, 1) := by decide +kernel
theorem d_Mo_lower_1 : decode b_Mo_lower 1 = .ok (.bipush 65, 2) := by decide +kernel
theorem d_Mo_lower_3 : decode b_Mo_lower 3 = .ok (.if_icmp .lt 16, 3) := by decide +kernel
theorem d_Mo_lower_6 : decode b_Mo_lower 6 = .ok (.iload_n 0, 1) := by decide +kernel
theorem d_Mo_lower_7 : decode b_Mo_lower 7 = .ok (.bipush 90, 2) := by decide +kernel
theorem d_Mo_lower_9 : decode b_Mo_lower 9 = .ok (.if_icmp .gt 10, 3) := by decide +kernel
theorem d_Mo_lower_12 : decode b_Mo_lower 12 = .ok (.iload_n 0, 1) := by decide +kernel
theorem d_Mo_lower_13 : decode b_Mo_lower 13 = .ok (.bipush 32, 2) := by decide +kernel
theorem d_Mo_lower_15 : decode b_Mo_lower 15 = .ok (.iadd, 1) := by decide +kernel
theorem d_Mo_lower_16 : decode b_Mo_lower 16 = .ok (.goto 4, 3) := by decide +kernel
theorem d_Mo_lower_19 : decode b_Mo_lower 19 = .ok (.iload_n 0, 1) := by decide +kernel
theorem d_Mo_lower_20 : decode b_Mo_lower 20 = .ok (.ireturn, 1) := by decide +kernel
theorem d_Mo_isBlank_0 : decode b_Mo_isBlank 0 = .ok (.iload_n 0, 1) := by decide +kernel
theorem d_Mo_isBlank_1 : decode b_Mo_isBlank 1 = .ok (.bipush 32, 2) := by decide +kernel
theorem d_Mo_isBlank_3 : decode b_Mo_isBlank 3 = .ok (.if_icmp .eq 9, 3) := by decide +kernel
theorem d_Mo_isBlank_6 : decode b_Mo_isBlank 6 = .ok (.iload_n 0, 1) := by decide +kernel
theorem d_Mo_isBlank_7 : decode b_Mo_isBlank 7 = .ok (.bipush 9, 2) := by decide +kernel
theorem d_Mo_isBlank_9 : decode b_Mo_isBlank 9 = .ok (.if_icmp .ne 7, 3) := by decide +kernel
theorem d_Mo_isBlank_12 : decode b_Mo_isBlank 12 = .ok (.iconst 1, 1) := by decide +kernel
theorem d_Mo_isBlank_13 : decode b_Mo_isBlank 13 = .ok (.goto 4, 3) := by decide +kernel
theorem d_Mo_isBlank_16 : decode b_Mo_isBlank 16 = .ok (.iconst 0, 1) := by decide +kernel
theorem d_Mo_isBlank_17 : decode b_Mo_isBlank 17 = .ok (.ireturn, 1) := by decide +kernel
theorem d_Mo_isDigit_0 : decode b_Mo_isDigit 0 = .ok (.iload_n 0, 1) := by decide +kernel
theorem d_Mo_isDigit_1 : decode b_Mo_isDigit 1 = .ok (.bipush 48, 2) := by decide +kernel
theorem d_Mo_isDigit_3 : decode b_Mo_isDigit 3 = .ok (.if_icmp .lt 13, 3) := by decide +kernel
theorem d_Mo_isDigit_6 : decode b_Mo_isDigit 6 = .ok (.iload_n 0, 1) := by decide +kernel
theorem d_Mo_isDigit_7 : decode b_Mo_isDigit 7 = .ok (.bipush 57, 2) := by decide +kernel
theorem d_Mo_isDigit_9 : decode b_Mo_isDigit 9 = .ok (.if_icmp .gt 7, 3) := by decide +kernel
theorem d_Mo_isDigit_12 : decode b_Mo_isDigit 12 = .ok (.iconst 1, 1) := by decide +kernel
theorem d_Mo_isDigit_13 : decode b_Mo_isDigit 13 = .ok (.goto 4, 3) := by decide +kernel
theorem d_Mo_isDigit_16 : decode b_Mo_isDigit 16 = .ok (.iconst 0, 1) := by decide +kernel
theorem d_Mo_isDigit_17 : decode b_Mo_isDigit 17 = .ok (.ireturn, 1) := by decide +kernel
theorem d_Mo_hexDigit_0 : decode b_Mo_hexDigit 0 = .ok (.iload_n 0, 1) := by decide +kernel
theorem d_Mo_hexDigit_1 : decode b_Mo_hexDigit 1 = .ok (.invokestatic 156, 3) := by decide +kernel
theorem d_Mo_hexDigit_4 : decode b_Mo_hexDigit 4 = .ok (.ifCond .eq 10, 3) := by decide +kernel
theorem d_Mo_hexDigit_7 : decode b_Mo_hexDigit 7 = .ok (.iload_n 0, 1) := by decide +kernel
theorem d_Mo_hexDigit_8 : decode b_Mo_hexDigit 8 = .ok (.bipush 48, 2) := by decide +kernel
theorem d_Mo_hexDigit_10 : decode b_Mo_hexDigit 10 = .ok (.isub, 1) := by decide +kernel
theorem d_Mo_hexDigit_11 : decode b_Mo_hexDigit 11 = .ok (.goto 24, 3) := by decide +kernel
theorem d_Mo_hexDigit_14 : decode b_Mo_hexDigit 14 = .ok (.iload_n 0, 1) := by decide +kernel
theorem d_Mo_hexDigit_15 : decode b_Mo_hexDigit 15 = .ok (.bipush 97, 2) := by decide +kernel
theorem d_Mo_hexDigit_17 : decode b_Mo_hexDigit 17 = .ok (.if_icmp .lt 16, 3) := by decide +kernel
theorem d_Mo_hexDigit_20 : decode b_Mo_hexDigit 20 = .ok (.iload_n 0, 1) := by decide +kernel
theorem d_Mo_hexDigit_21 : decode b_Mo_hexDigit 21 = .ok (.bipush 102, 2) := by decide +kernel
theorem d_Mo_hexDigit_23 : decode b_Mo_hexDigit 23 = .ok (.if_icmp .gt 10, 3) := by decide +kernel
theorem d_Mo_hexDigit_26 : decode b_Mo_hexDigit 26 = .ok (.iload_n 0, 1) := by decide +kernel
theorem d_Mo_hexDigit_27 : decode b_Mo_hexDigit 27 = .ok (.bipush 87, 2) := by decide +kernel
theorem d_Mo_hexDigit_29 : decode b_Mo_hexDigit 29 = .ok (.isub, 1) := by decide +kernel
theorem d_Mo_hexDigit_30 : decode b_Mo_hexDigit 30 = .ok (.goto 5, 3) := by decide +kernel
theorem d_Mo_hexDigit_33 : decode b_Mo_hexDigit 33 = .ok (.bipush 99, 2) := by decide +kernel
theorem d_Mo_hexDigit_35 : decode b_Mo_hexDigit 35 = .ok (.ireturn, 1) := by decide +kernel
theorem d_Mo_isWord_0 : decode b_Mo_isWord 0 = .ok (.iload_n 2, 1) := by decide +kernel
theorem d_Mo_isWord_1 : decode b_Mo_isWord 1 = .ok (.iload_n 1, 1) := by decide +kernel
theorem d_Mo_isWord_2 : decode b_Mo_isWord 2 = .ok (.isub, 1) := by decide +kernel
theorem d_Mo_isWord_3 : decode b_Mo_isWord 3 = .ok (.aload_n 3, 1) := by decide +kernel
theorem d_Mo_isWord_4 : decode b_Mo_isWord 4 = .ok (.invokevirtual 160, 3) := by decide +kernel
theorem d_Mo_isWord_7 : decode b_Mo_isWord 7 = .ok (.if_icmp .ne 7, 3) := by decide +kernel
theorem d_Mo_isWord_10 : decode b_Mo_isWord 10 = .ok (.iconst 1, 1) := by decide +kernel
theorem d_Mo_isWord_11 : decode b_Mo_isWord 11 = .ok (.goto 4, 3) := by decide +kernel
theorem d_Mo_isWord_14 : decode b_Mo_isWord 14 = .ok (.iconst 0, 1) := by decide +kernel
theorem d_Mo_isWord_15 : decode b_Mo_isWord 15 = .ok (.istore 4, 2) := by decide +kernel
theorem d_Mo_isWord_17 : decode b_Mo_isWord 17 = .ok (.iconst 0, 1) := by decide +kernel
theorem d_Mo_isWord_18 : decode b_Mo_isWord 18 = .ok (.istore 5, 2) := by decide +kernel
theorem d_Mo_isWord_20 : decode b_Mo_isWord 20 = .ok (.iload 4, 2) := by decide +kernel
theorem d_Mo_isWord_22 : decode b_Mo_isWord 22 = .ok (.ifCond .eq 43, 3) := by decide +kernel
theorem d_Mo_isWord_25 : decode b_Mo_isWord 25 = .ok (.iload 5, 2) := by decide +kernel
theorem d_Mo_isWord_27 : decode b_Mo_isWord 27 = .ok (.aload_n 3, 1) := by decide +kernel
theorem d_Mo_isWord_28 : decode b_Mo_isWord 28 = .ok (.invokevirtual 160, 3) := by decide +kernel
theorem d_Mo_isWord_31 : decode b_Mo_isWord 31 = .ok (.if_icmp .ge 34, 3) := by decide +kernel
theorem d_Mo_isWord_34 : decode b_Mo_isWord 34 = .ok (.aload_n 0, 1) := by decide +kernel
theorem d_Mo_isWord_35 : decode b_Mo_isWord 35 = .ok (.getfield 107, 3) := by decide +kernel
theorem d_Mo_isWord_38 : decode b_Mo_isWord 38 = .ok (.iload_n 1, 1) := by decide +kernel
theorem d_Mo_isWord_39 : decode b_Mo_isWord 39 = .ok (.iload 5, 2) := by decide +kernel
theorem d_Mo_isWord_41 : decode b_Mo_isWord 41 = .ok (.iadd, 1) := by decide +kernel
theorem d_Mo_isWord_42 : decode b_Mo_isWord 42 = .ok (.iaload, 1) := by decide +kernel
theorem d_Mo_isWord_43 : decode b_Mo_isWord 43 = .ok (.aload_n 3, 1) := by decide +kernel
theorem d_Mo_isWord_44 : decode b_Mo_isWord 44 = .ok (.iload 5, 2) := by decide +kernel
theorem d_Mo_isWord_46 : decode b_Mo_isWord 46 = .ok (.invokevirtual 165, 3) := by decide +kernel
theorem d_Mo_isWord_49 : decode b_Mo_isWord 49 = .ok (.if_icmp .ne 7, 3) := by decide +kernel
theorem d_Mo_isWord_52 : decode b_Mo_isWord 52 = .ok (.iconst 1, 1) := by decide +kernel
theorem d_Mo_isWord_53 : decode b_Mo_isWord 53 = .ok (.goto 4, 3) := by decide +kernel
theorem d_Mo_isWord_56 : decode b_Mo_isWord 56 = .ok (.iconst 0, 1) := by decide +kernel
theorem d_Mo_isWord_57 : decode b_Mo_isWord 57 = .ok (.istore 4, 2) := by decide +kernel
theorem d_Mo_isWord_59 : decode b_Mo_isWord 59 = .ok (.iinc 5 1, 3) := by decide +kernel
theorem d_Mo_isWord_62 : decode b_Mo_isWord 62 = .ok (.goto (-42), 3) := by decide +kernel
theorem d_Mo_isWord_65 : decode b_Mo_isWord 65 = .ok (.iload 4, 2) := by decide +kernel
theorem d_Mo_isWord_67 : decode b_Mo_isWord 67 = .ok (.ireturn, 1) := by decide +kernel
theorem d_Mo_findByte_0 : decode b_Mo_findByte 0 = .ok (.iload_n 1, 1) := by decide +kernel
theorem d_Mo_findByte_1 : decode b_Mo_findByte 1 = .ok (.istore 4, 2) := by decide +kernel
theorem d_Mo_findByte_3 : decode b_Mo_findByte 3 = .ok (.iload 4, 2) := by decide +kernel
theorem d_Mo_findByte_5 : decode b_Mo_findByte 5 = .ok (.iload_n 2, 1) := by decide +kernel
theorem d_Mo_findByte_6 : decode b_Mo_findByte 6 = .ok (.if_icmp .ge 23, 3) := by decide +kernel
theorem d_Mo_findByte_9 : decode b_Mo_findByte 9 = .ok (.aload_n 0, 1) := by decide +kernel
theorem d_Mo_findByte_10 : decode b_Mo_findByte 10 = .ok (.getfield 107, 3) := by decide +kernel
theorem d_Mo_findByte_13 : decode b_Mo_findByte 13 = .ok (.iload 4, 2) := by decide +kernel
theorem d_Mo_findByte_15 : decode b_Mo_findByte 15 = .ok (.iaload, 1) := by decide +kernel
theorem d_Mo_findByte_16 : decode b_Mo_findByte 16 = .ok (.iload_n 3, 1) := by decide +kernel
theorem d_Mo_findByte_17 : decode b_Mo_findByte 17 = .ok (.if_icmp .ne 6, 3) := by decide +kernel
theorem d_Mo_findByte_20 : decode b_Mo_findByte 20 = .ok (.iload 4, 2) := by decide +kernel
theorem d_Mo_findByte_22 : decode b_Mo_findByte 22 = .ok (.ireturn, 1) := by decide +kernel
theorem d_Mo_findByte_23 : decode b_Mo_findByte 23 = .ok (.iinc 4 1, 3) := by decide +kernel
theorem d_Mo_findByte_26 : decode b_Mo_findByte 26 = .ok (.goto (-23), 3) := by decide +kernel
theorem d_Mo_findByte_29 : decode b_Mo_findByte 29 = .ok (.iconst (-1), 1) := by decide +kernel
theorem d_Mo_findByte_30 : decode b_Mo_findByte 30 = .ok (.ireturn, 1) := by decide +kernel
theorem d_Mo_readDigits_0 : decode b_Mo_readDigits 0 = .ok (.iload_n 1, 1) := by decide +kernel
theorem d_Mo_readDigits_1 : decode b_Mo_readDigits 1 = .ok (.istore 5, 2) := by decide +kernel
theorem d_Mo_readDigits_3 : decode b_Mo_readDigits 3 = .ok (.iconst 0, 1) := by decide +kernel
theorem d_Mo_readDigits_4 : decode b_Mo_readDigits 4 = .ok (.istore 6, 2) := by decide +kernel
theorem d_Mo_readDigits_6 : decode b_Mo_readDigits 6 = .ok (.iconst 0, 1) := by decide +kernel
theorem d_Mo_readDigits_7 : decode b_Mo_readDigits 7 = .ok (.istore 7, 2) := by decide +kernel
theorem d_Mo_readDigits_9 : decode b_Mo_readDigits 9 = .ok (.aload 4, 2) := by decide +kernel
theorem d_Mo_readDigits_11 : decode b_Mo_readDigits 11 = .ok (.lconst 0, 1) := by decide +kernel
theorem d_Mo_readDigits_12 : decode b_Mo_readDigits 12 = .ok (.invokevirtual 169, 3) := by decide +kernel
theorem d_Mo_readDigits_15 : decode b_Mo_readDigits 15 = .ok (.aload_n 0, 1) := by decide +kernel
theorem d_Mo_readDigits_16 : decode b_Mo_readDigits 16 = .ok (.iconst 0, 1) := by decide +kernel
theorem d_Mo_readDigits_17 : decode b_Mo_readDigits 17 = .ok (.putfield 172, 3) := by decide +kernel
theorem d_Mo_readDigits_20 : decode b_Mo_readDigits 20 = .ok (.iload 5, 2) := by decide +kernel
theorem d_Mo_readDigits_22 : decode b_Mo_readDigits 22 = .ok (.iload_n 2, 1) := by decide +kernel
theorem d_Mo_readDigits_23 : decode b_Mo_readDigits 23 = .ok (.if_icmp .ge 102, 3) := by decide +kernel
theorem d_Mo_readDigits_26 : decode b_Mo_readDigits 26 = .ok (.aload_n 0, 1) := by decide +kernel
theorem d_Mo_readDigits_27 : decode b_Mo_readDigits 27 = .ok (.getfield 107, 3) := by decide +kernel
theorem d_Mo_readDigits_30 : decode b_Mo_readDigits 30 = .ok (.iload 5, 2) := by decide +kernel
theorem d_Mo_readDigits_32 : decode b_Mo_readDigits 32 = .ok (.iaload, 1) := by decide +kernel
theorem d_Mo_readDigits_33 : decode b_Mo_readDigits 33 = .ok (.invokestatic 175, 3) := by decide +kernel
theorem d_Mo_readDigits_36 : decode b_Mo_readDigits 36 = .ok (.iload_n 3, 1) := by decide +kernel
theorem d_Mo_readDigits_37 : decode b_Mo_readDigits 37 = .ok (.if_icmp .lt 20, 3) := by decide +kernel
theorem d_Mo_readDigits_40 : decode b_Mo_readDigits 40 = .ok (.aload_n 0, 1) := by decide +kernel
theorem d_Mo_readDigits_41 : decode b_Mo_readDigits 41 = .ok (.getfield 107, 3) := by decide +kernel
theorem d_Mo_readDigits_44 : decode b_Mo_readDigits 44 = .ok (.iload 5, 2) := by decide +kernel
theorem d_Mo_readDigits_46 : decode b_Mo_readDigits 46 = .ok (.iaload, 1) := by decide +kernel
theorem d_Mo_readDigits_47 : decode b_Mo_readDigits 47 = .ok (.bipush 46, 2) := by decide +kernel
theorem d_Mo_readDigits_49 : decode b_Mo_readDigits 49 = .ok (.if_icmp .ne 76, 3) := by decide +kernel
theorem d_Mo_readDigits_52 : decode b_Mo_readDigits 52 = .ok (.iload 6, 2) := by decide +kernel
theorem d_Mo_readDigits_54 : decode b_Mo_readDigits 54 = .ok (.ifCond .ne 71, 3) := by decide +kernel
theorem d_Mo_readDigits_57 : decode b_Mo_readDigits 57 = .ok (.aload_n 0, 1) := by decide +kernel
theorem d_Mo_readDigits_58 : decode b_Mo_readDigits 58 = .ok (.getfield 107, 3) := by decide +kernel
theorem d_Mo_readDigits_61 : decode b_Mo_readDigits 61 = .ok (.iload 5, 2) := by decide +kernel
theorem d_Mo_readDigits_63 : decode b_Mo_readDigits 63 = .ok (.iaload, 1) := by decide +kernel
theorem d_Mo_readDigits_64 : decode b_Mo_readDigits 64 = .ok (.bipush 46, 2) := by decide +kernel
theorem d_Mo_readDigits_66 : decode b_Mo_readDigits 66 = .ok (.if_icmp .ne 9, 3) := by decide +kernel
theorem d_Mo_readDigits_69 : decode b_Mo_readDigits 69 = .ok (.iconst 1, 1) := by decide +kernel
theorem d_Mo_readDigits_70 : decode b_Mo_readDigits 70 = .ok (.istore 6, 2) := by decide +kernel
theorem d_Mo_readDigits_72 : decode b_Mo_readDigits 72 = .ok (.goto 47, 3) := by decide +kernel
theorem d_Mo_readDigits_75 : decode b_Mo_readDigits 75 = .ok (.aload 4, 2) := by decide +kernel
theorem d_Mo_readDigits_77 : decode b_Mo_readDigits 77 = .ok (.getfield 18, 3) := by decide +kernel
theorem d_Mo_readDigits_80 : decode b_Mo_readDigits 80 = .ok (.iload_n 3, 1) := by decide +kernel
theorem d_Mo_readDigits_81 : decode b_Mo_readDigits 81 = .ok (.aload_n 0, 1) := by decide +kernel
theorem d_Mo_readDigits_82 : decode b_Mo_readDigits 82 = .ok (.getfield 107, 3) := by decide +kernel
theorem d_Mo_readDigits_85 : decode b_Mo_readDigits 85 = .ok (.iload 5, 2) := by decide +kernel
theorem d_Mo_readDigits_87 : decode b_Mo_readDigits 87 = .ok (.iaload, 1) := by decide +kernel
theorem d_Mo_readDigits_88 : decode b_Mo_readDigits 88 = .ok (.invokestatic 175, 3) := by decide +kernel
theorem d_Mo_readDigits_91 : decode b_Mo_readDigits 91 = .ok (.invokevirtual 179, 3) := by decide +kernel
theorem d_Mo_readDigits_94 : decode b_Mo_readDigits 94 = .ok (.iinc 7 1, 3) := by decide +kernel
theorem d_Mo_readDigits_97 : decode b_Mo_readDigits 97 = .ok (.aload_n 0, 1) := by decide +kernel
theorem d_Mo_readDigits_98 : decode b_Mo_readDigits 98 = .ok (.iload 6, 2) := by decide +kernel
theorem d_Mo_readDigits_100 : decode b_Mo_readDigits 100 = .ok (.ifCond .eq 12, 3) := by decide +kernel
theorem d_Mo_readDigits_103 : decode b_Mo_readDigits 103 = .ok (.aload_n 0, 1) := by decide +kernel
theorem d_Mo_readDigits_104 : decode b_Mo_readDigits 104 = .ok (.getfield 172, 3) := by decide +kernel
theorem d_Mo_readDigits_107 : decode b_Mo_readDigits 107 = .ok (.iconst 1, 1) := by decide +kernel
theorem d_Mo_readDigits_108 : decode b_Mo_readDigits 108 = .ok (.iadd, 1) := by decide +kernel
theorem d_Mo_readDigits_109 : decode b_Mo_readDigits 109 = .ok (.goto 7, 3) := by decide +kernel
theorem d_Mo_readDigits_112 : decode b_Mo_readDigits 112 = .ok (.aload_n 0, 1) := by decide +kernel
theorem d_Mo_readDigits_113 : decode b_Mo_readDigits 113 = .ok (.getfield 172, 3) := by decide +kernel
theorem d_Mo_readDigits_116 : decode b_Mo_readDigits 116 = .ok (.putfield 172, 3) := by decide +kernel
theorem d_Mo_readDigits_119 : decode b_Mo_readDigits 119 = .ok (.iinc 5 1, 3) := by decide +kernel
theorem d_Mo_readDigits_122 : decode b_Mo_readDigits 122 = .ok (.goto (-102), 3) := by decide +kernel
theorem d_Mo_readDigits_125 : decode b_Mo_readDigits 125 = .ok (.iload 7, 2) := by decide +kernel
theorem d_Mo_readDigits_127 : decode b_Mo_readDigits 127 = .ok (.ifCond .le 8, 3) := by decide +kernel
theorem d_Mo_readDigits_130 : decode b_Mo_readDigits 130 = .ok (.iload 5, 2) := by decide +kernel
theorem d_Mo_readDigits_132 : decode b_Mo_readDigits 132 = .ok (.goto 4, 3) := by decide +kernel
theorem d_Mo_readDigits_135 : decode b_Mo_readDigits 135 = .ok (.iconst (-1), 1) := by decide +kernel
theorem d_Mo_readDigits_136 : decode b_Mo_readDigits 136 = .ok (.ireturn, 1) := by decide +kernel
theorem fl_Mo_172 : FLink TB classes "IntervalTextModel" 172 R_Mo F_Mo 21 9 17 := ⟨rfl, by decide, i_Mo, tb_t (List.mem_append_right _ (List.mem_append_right _ (List.mem_append_left _ (List.mem_of_getElem? (l := tables_1_3) (i := 166) rfl)))) rfl⟩
theorem fp_Mo_17 : FPut R_Mo F_Mo 21 17 .int false := ⟨e_Mo, n_Mo, rfl, by decide +kernel⟩
theorem cl_Mo_156 : CLinkS TB "IntervalTextModel" 156 y_Mo_isDigit b_Mo_isDigit 1 (some .boolean) 1 := ⟨⟨tb_t (List.mem_append_right _ (List.mem_append_right _ (List.mem_append_right _ (List.mem_append_left _ (List.mem_of_getElem? (l := tables_1_4) (i := 36) rfl))))) rfl, tb_t (List.mem_append_left _ (List.mem_of_getElem? (l := tables_1_1) (i := 8) rfl)) rfl, tb_t (List.mem_append_right _ (List.mem_append_right _ (List.mem_append_right _ (List.mem_append_left _ (List.mem_of_getElem? (l := tables_1_4) (i := 38) rfl))))) rfl, by decide +kernel, by decide +kernel, by decide +kernel⟩, tb_t (List.mem_append_right _ (List.mem_append_right _ (List.mem_append_right _ (List.mem_append_left _ (List.mem_of_getElem? (l := tables_1_4) (i := 37) rfl))))) rfl⟩
theorem cl_Mo_175 : CLinkS TB "IntervalTextModel" 175 y_Mo_hexDigit b_Mo_hexDigit 1 (some .int) 1 := ⟨⟨tb_t (List.mem_append_right _ (List.mem_append_right _ (List.mem_append_right _ (List.mem_append_left _ (List.mem_of_getElem? (l := tables_1_4) (i := 33) rfl))))) rfl, tb_t (List.mem_append_left _ (List.mem_of_getElem? (l := tables_1_1) (i := 8) rfl)) rfl, tb_t (List.mem_append_right _ (List.mem_append_right _ (List.mem_append_right _ (List.mem_append_left _ (List.mem_of_getElem? (l := tables_1_4) (i := 35) rfl))))) rfl, by decide +kernel, by decide +kernel, by decide +kernel⟩, tb_t (List.mem_append_right _ (List.mem_append_right _ (List.mem_append_right _ (List.mem_append_left _ (List.mem_of_getElem? (l := tables_1_4) (i := 34) rfl))))) rfl⟩
set_option maxHeartbeats 4000000 in
set_option maxRecDepth 100000 in
theorem c_Mo_lower (l : Launch) (D : va_G) (E : EVt) (x : Int) (hx1 : -1 ≤ x ∧ x < 65536) : CT l D classes (tyl E) (EVX E) y_Mo_lower (Cond.code y_Mo_lower b_Mo_lower 1 (some .int) :: TB) (rmK 0 0 0 0) 0 0 [.int (iI x)] [] (S := Int) (fun _ => []) (fun u => some (.int (iI u))) (fun u => (u = low1 x)) := by
  refine CT.ofi (fv := fun (u : Int) => u) (eok E) (by decide) rfl (Nat.le_of_ble_eq_true rfl) ?_
  intro p e s m args below meth c A Q ls B hmn hP hD hS hl ret
  have B : Bd l D classes (tyl E) (EVX E) p m c b_Mo_lower 1 s args (Cond.code y_Mo_lower b_Mo_lower 1 (some .int) :: TB) R_Mo A := B
  obtain ⟨⟨hx, hb, hml, hown, hts⟩, hX, hK, hE, hA⟩ := id B
  have hl : lv_has ls 1 [(0, .int (iI x))] := hl
  have hP : va_P D classes [] s.heap := hP
  have hD : va_D A [] := hD
  refine lv_iload_n hx hb d_Mo_lower_0 rfl (lv_at hl 0 rfl) ?_
  refine wi_bipush hx hb d_Mo_lower_1 (by decide) ?_
  refine wi_icmp_lt (tgt := 19) hx hb d_Mo_lower_3 (by decide) (by omega) (by omega) (fun c_1 => ?_) (fun c_1 => ?_)
  · skip
    refine lv_iload_n hx hb d_Mo_lower_19 rfl (lv_at hl 0 rfl) ?_
    exact ret x _ _ _ _ d_Mo_lower_20 (show (x = low1 x) from (by unfold low1; rw [if_neg (by omega)])) (hP.sub [] rfl) (hD.sub [] (by decide) rfl) hS
  · skip
    refine lv_iload_n hx hb d_Mo_lower_6 rfl (lv_at hl 0 rfl) ?_
    refine wi_bipush hx hb d_Mo_lower_7 (by decide) ?_
    refine wi_icmp_gt (tgt := 19) hx hb d_Mo_lower_9 (by decide) (by omega) (by omega) (fun c_2 => ?_) (fun c_2 => ?_)
    · skip
      refine lv_iload_n hx hb d_Mo_lower_19 rfl (lv_at hl 0 rfl) ?_
      exact ret x _ _ _ _ d_Mo_lower_20 (show (x = low1 x) from (by unfold low1; rw [if_neg (by omega)])) (hP.sub [] rfl) (hD.sub [] (by decide) rfl) hS
    · skip
      refine lv_iload_n hx hb d_Mo_lower_12 rfl (lv_at hl 0 rfl) ?_
      refine wi_bipush hx hb d_Mo_lower_13 (by decide) ?_
      refine wi_iadd hx hb d_Mo_lower_15 ?_
      refine lv_goto (tgt := 20) hx hb d_Mo_lower_16 (by decide) ?_
      exact ret (x + 32) _ _ _ _ d_Mo_lower_20 (show ((x + 32) = low1 x) from (by unfold low1; rw [if_pos (by omega)])) (hP.sub [] rfl) (hD.sub [] (by decide) rfl) hS
set_option maxHeartbeats 4000000 in
set_option maxRecDepth 100000 in
theorem c_Mo_isBlank (l : Launch) (D : va_G) (E : EVt) (x : Int) (hx1 : -1 ≤ x ∧ x < 65536) : CT l D classes (tyl E) (EVX E) y_Mo_isBlank (Cond.code y_Mo_isBlank b_Mo_isBlank 1 (some .boolean) :: TB) (rmK 0 0 0 0) 0 0 [.int (iI x)] [] (S := Bool) (fun _ => []) (fun u => some (.int (bI u))) (fun u => (u = blk x)) := by
  refine CT.ofz (fv := fun (u : Bool) => u) (eok E) (by decide) rfl (Nat.le_of_ble_eq_true rfl) ?_
  intro p e s m args below meth c A Q ls B hmn hP hD hS hl ret
  have B : Bd l D classes (tyl E) (EVX E) p m c b_Mo_isBlank 1 s args (Cond.code y_Mo_isBlank b_Mo_isBlank 1 (some .boolean) :: TB) R_Mo A := B
  obtain ⟨⟨hx, hb, hml, hown, hts⟩, hX, hK, hE, hA⟩ := id B
  have hl : lv_has ls 1 [(0, .int (iI x))] := hl
  have hP : va_P D classes [] s.heap := hP
  have hD : va_D A [] := hD
  refine lv_iload_n hx hb d_Mo_isBlank_0 rfl (lv_at hl 0 rfl) ?_
  refine wi_bipush hx hb d_Mo_isBlank_1 (by decide) ?_
  refine wi_icmp_eq (tgt := 12) hx hb d_Mo_isBlank_3 (by decide) (by omega) (by omega) (fun c_1 => ?_) (fun c_1 => ?_)
  · skip
    refine wi_iconst (n := 1) hx hb d_Mo_isBlank_12 ?_
    refine lv_goto (tgt := 17) hx hb d_Mo_isBlank_13 (by decide) ?_
    refine w_as1 ?_
    exact ret true _ _ _ _ d_Mo_isBlank_17 (show (true = blk x) from (by unfold blk; rw [decide_eq_true (by omega)])) (hP.sub [] rfl) (hD.sub [] (by decide) rfl) hS
  · skip
    refine lv_iload_n hx hb d_Mo_isBlank_6 rfl (lv_at hl 0 rfl) ?_
    refine wi_bipush hx hb d_Mo_isBlank_7 (by decide) ?_
    refine wi_icmp_ne (tgt := 16) hx hb d_Mo_isBlank_9 (by decide) (by omega) (by omega) (fun c_2 => ?_) (fun c_2 => ?_)
    · skip
      refine wi_iconst (n := 0) hx hb d_Mo_isBlank_16 ?_
      refine w_as0 ?_
      exact ret false _ _ _ _ d_Mo_isBlank_17 (show (false = blk x) from (by unfold blk; rw [decide_eq_false (by omega)])) (hP.sub [] rfl) (hD.sub [] (by decide) rfl) hS
    · skip
      refine wi_iconst (n := 1) hx hb d_Mo_isBlank_12 ?_
      refine lv_goto (tgt := 17) hx hb d_Mo_isBlank_13 (by decide) ?_
      refine w_as1 ?_
      exact ret true _ _ _ _ d_Mo_isBlank_17 (show (true = blk x) from (by unfold blk; rw [decide_eq_true (by omega)])) (hP.sub [] rfl) (hD.sub [] (by decide) rfl) hS
set_option maxHeartbeats 4000000 in
set_option maxRecDepth 100000 in
theorem c_Mo_isDigit (l : Launch) (D : va_G) (E : EVt) (x : Int) (hx1 : -1 ≤ x ∧ x < 65536) : CT l D classes (tyl E) (EVX E) y_Mo_isDigit (Cond.code y_Mo_isDigit b_Mo_isDigit 1 (some .boolean) :: TB) (rmK 0 0 0 0) 0 0 [.int (iI x)] [] (S := Bool) (fun _ => []) (fun u => some (.int (bI u))) (fun u => (u = decide (48 ≤ x ∧ x ≤ 57))) := by
  refine CT.ofz (fv := fun (u : Bool) => u) (eok E) (by decide) rfl (Nat.le_of_ble_eq_true rfl) ?_
  intro p e s m args below meth c A Q ls B hmn hP hD hS hl ret
  have B : Bd l D classes (tyl E) (EVX E) p m c b_Mo_isDigit 1 s args (Cond.code y_Mo_isDigit b_Mo_isDigit 1 (some .boolean) :: TB) R_Mo A := B
  obtain ⟨⟨hx, hb, hml, hown, hts⟩, hX, hK, hE, hA⟩ := id B
  have hl : lv_has ls 1 [(0, .int (iI x))] := hl
  have hP : va_P D classes [] s.heap := hP
  have hD : va_D A [] := hD
  refine lv_iload_n hx hb d_Mo_isDigit_0 rfl (lv_at hl 0 rfl) ?_
  refine wi_bipush hx hb d_Mo_isDigit_1 (by decide) ?_
  refine wi_icmp_lt (tgt := 16) hx hb d_Mo_isDigit_3 (by decide) (by omega) (by omega) (fun c_1 => ?_) (fun c_1 => ?_)
  · skip
    refine wi_iconst (n := 0) hx hb d_Mo_isDigit_16 ?_
    refine w_as0 ?_
    exact ret false _ _ _ _ d_Mo_isDigit_17 (show (false = decide (48 ≤ x ∧ x ≤ 57)) from (by rw [decide_eq_false (by omega)])) (hP.sub [] rfl) (hD.sub [] (by decide) rfl) hS
  · skip
    refine lv_iload_n hx hb d_Mo_isDigit_6 rfl (lv_at hl 0 rfl) ?_
    refine wi_bipush hx hb d_Mo_isDigit_7 (by decide) ?_
    refine wi_icmp_gt (tgt := 16) hx hb d_Mo_isDigit_9 (by decide) (by omega) (by omega) (fun c_2 => ?_) (fun c_2 => ?_)
    · skip
      refine wi_iconst (n := 0) hx hb d_Mo_isDigit_16 ?_
      refine w_as0 ?_
      exact ret false _ _ _ _ d_Mo_isDigit_17 (show (false = decide (48 ≤ x ∧ x ≤ 57)) from (by rw [decide_eq_false (by omega)])) (hP.sub [] rfl) (hD.sub [] (by decide) rfl) hS
    · skip
      refine wi_iconst (n := 1) hx hb d_Mo_isDigit_12 ?_
      refine lv_goto (tgt := 17) hx hb d_Mo_isDigit_13 (by decide) ?_
      refine w_as1 ?_
      exact ret true _ _ _ _ d_Mo_isDigit_17 (show (true = decide (48 ≤ x ∧ x ≤ 57)) from (by rw [decide_eq_true (by omega)])) (hP.sub [] rfl) (hD.sub [] (by decide) rfl) hS
set_option maxHeartbeats 4000000 in
set_option maxRecDepth 100000 in
theorem c_Mo_hexDigit (l : Launch) (D : va_G) (E : EVt) (x : Int) (hx1 : -1 ≤ x ∧ x < 65536) : CT l D classes (tyl E) (EVX E) y_Mo_hexDigit (Cond.code y_Mo_hexDigit b_Mo_hexDigit 1 (some .int) :: TB) (rmK 1 0 0 20) 0 0 [.int (iI x)] [] (S := Int) (fun _ => []) (fun u => some (.int (iI u))) (fun u => (u = hd x)) := by
  refine CT.ofi (fv := fun (u : Int) => u) (eok E) (by decide) rfl (Nat.le_of_ble_eq_true rfl) ?_
  intro p e s m args below meth c A Q ls B hmn hP hD hS hl ret
  have B : Bd l D classes (tyl E) (EVX E) p m c b_Mo_hexDigit 1 s args (Cond.code y_Mo_hexDigit b_Mo_hexDigit 1 (some .int) :: TB) R_Mo A := B
  obtain ⟨⟨hx, hb, hml, hown, hts⟩, hX, hK, hE, hA⟩ := id B
  have hl : lv_has ls 1 [(0, .int (iI x))] := hl
  have hP : va_P D classes [] s.heap := hP
  have hD : va_D A [] := hD
  refine lv_iload_n hx hb d_Mo_hexDigit_0 rfl (lv_at hl 0 rfl) ?_
  refine wk_callS (As := [.int (iI x)]) (rest := []) (wr := []) B gTB cl_Mo_156 (c_Mo_isDigit l D E x (by omega)) ⟨⟨rfl, rfl⟩, Nat.le_of_ble_eq_true rfl, Nat.le_of_ble_eq_true rfl⟩ hP hD hS [] [] rfl rfl (by decide) ⟨hl.2.1, hl.1⟩ rfl (Nat.le_of_ble_eq_true rfl) d_Mo_hexDigit_1 ⟨Nat.le_of_ble_eq_true rfl, Nat.le_of_ble_eq_true rfl⟩ rfl (fun r_1 H locs hw hP hD hS => ?_)
  have hP : va_P D classes [] H := hP
  have hD : va_D A [] := hD
  have hw : (r_1 = decide (48 ≤ x ∧ x ≤ 57)) := hw
  have hr_2 := hw
  refine W.cs (g := F0 m 4 ls [.int (bI r_1)]) (cells' := 0) (slots' := 0) rfl rfl ?_
  subst hr_2
  refine wb_if_eq (tgt := 14) hx hb d_Mo_hexDigit_4 (by decide) (fun c_3 => ?_) (fun c_3 => ?_)
  · skip
    refine lv_iload_n hx hb d_Mo_hexDigit_14 rfl (lv_at hl 0 rfl) ?_
    refine wi_bipush hx hb d_Mo_hexDigit_15 (by decide) ?_
    refine wi_icmp_lt (tgt := 33) hx hb d_Mo_hexDigit_17 (by decide) (by omega) (by omega) (fun c_4 => ?_) (fun c_4 => ?_)
    · skip
      refine wi_bipush hx hb d_Mo_hexDigit_33 (by decide) ?_
      exact ret 99 _ _ _ _ d_Mo_hexDigit_35 (show (99 = hd x) from (by have q := of_decide_eq_false c_3; unfold hd dig; rw [if_neg q, if_neg (by omega)])) (hP.sub [] rfl) (hD.sub [] (by decide) rfl) hS
    · skip
      refine lv_iload_n hx hb d_Mo_hexDigit_20 rfl (lv_at hl 0 rfl) ?_
      refine wi_bipush hx hb d_Mo_hexDigit_21 (by decide) ?_
      refine wi_icmp_gt (tgt := 33) hx hb d_Mo_hexDigit_23 (by decide) (by omega) (by omega) (fun c_5 => ?_) (fun c_5 => ?_)
      · skip
        refine wi_bipush hx hb d_Mo_hexDigit_33 (by decide) ?_
        exact ret 99 _ _ _ _ d_Mo_hexDigit_35 (show (99 = hd x) from (by have q := of_decide_eq_false c_3; unfold hd dig; rw [if_neg q, if_neg (by omega)])) (hP.sub [] rfl) (hD.sub [] (by decide) rfl) hS
      · skip
        refine lv_iload_n hx hb d_Mo_hexDigit_26 rfl (lv_at hl 0 rfl) ?_
        refine wi_bipush hx hb d_Mo_hexDigit_27 (by decide) ?_
        refine wi_isub hx hb d_Mo_hexDigit_29 ?_
        refine lv_goto (tgt := 35) hx hb d_Mo_hexDigit_30 (by decide) ?_
        exact ret (x - 87) _ _ _ _ d_Mo_hexDigit_35 (show ((x - 87) = hd x) from (by have q := of_decide_eq_false c_3; unfold hd dig; rw [if_neg q, if_pos (by omega), if_pos (by omega)]; omega)) (hP.sub [] rfl) (hD.sub [] (by decide) rfl) hS
  · skip
    refine lv_iload_n hx hb d_Mo_hexDigit_7 rfl (lv_at hl 0 rfl) ?_
    refine wi_bipush hx hb d_Mo_hexDigit_8 (by decide) ?_
    refine wi_isub hx hb d_Mo_hexDigit_10 ?_
    refine lv_goto (tgt := 35) hx hb d_Mo_hexDigit_11 (by decide) ?_
    exact ret (x - 48) _ _ _ _ d_Mo_hexDigit_35 (show ((x - 48) = hd x) from (by have q := of_decide_eq_true c_3; unfold hd dig; rw [if_pos q, if_pos (by omega)])) (hP.sub [] rfl) (hD.sub [] (by decide) rfl) hS
set_option maxHeartbeats 4000000 in
set_option maxRecDepth 100000 in
theorem c_Mo_isWord (l : Launch) (D : va_G) (E : EVt) (h : Nat) (mlf : Nat) (mrt : Nat) (mpb : Nat) (mop : Nat) (mtz : Int) (mta : Nat) (moz : Int) (moa : Nat) (mrl : Int) (mrh : Int) (mno : Bool) (mlo : Int) (mhi : Int) (mo1 : Nat) (mo2 : Nat) (mo3 : Nat) (mo4 : Nat) (mms : Int) (mex : Int) (mgd : Bool) (mon : Bool) (t : Int → Int) (fr : Int) (to : Int) (i : Nat) (hrg : 0 ≤ fr ∧ fr ≤ to ∧ to ≤ 400) (hT : Tx t to) (hi : i < 43) : CT l D classes (tyl E) (EVX E) y_Mo_isWord (Cond.code y_Mo_isWord b_Mo_isWord 6 (some .boolean) :: TB) (rmK 4 0 0 85) 0 0 [.ref h, .int (iI fr), .int (iI to), .ref (E.2.2.1 i)] [(h, .inr (9, [.ref mlf, .ref mrt, .ref mpb, .ref mop, .int (iI mtz), .ref mta, .int (iI moz), .ref moa, .long (lI mrl), .long (lI mrh), .int (bI mno), .long (lI mlo), .long (lI mhi), .ref mo1, .ref mo2, .ref mo3, .ref mo4, .int (iI mms), .int (iI mex), .int (bI mgd), .int (bI mon)])), (mta, .inl (E.1, 400, .inl (ia t)))] (S := Bool) (fun _ => [(h, .inr (9, [.ref mlf, .ref mrt, .ref mpb, .ref mop, .int (iI mtz), .ref mta, .int (iI moz), .ref moa, .long (lI mrl), .long (lI mrh), .int (bI mno), .long (lI mlo), .long (lI mhi), .ref mo1, .ref mo2, .ref mo3, .ref mo4, .int (iI mms), .int (iI mex), .int (bI mgd), .int (bI mon)])), (mta, .inl (E.1, 400, .inl (ia t)))]) (fun u => some (.int (bI u))) (fun u => (u = true ↔ SLW t fr to i)) := by
  refine CT.ofz (fv := fun (u : Bool) => u) (eok E) (by decide) rfl (Nat.le_of_ble_eq_true rfl) ?_
  intro p e s m args below meth c A Q ls B hmn hP hD hS hl ret
  have B : Bd l D classes (tyl E) (EVX E) p m c b_Mo_isWord 6 s args (Cond.code y_Mo_isWord b_Mo_isWord 6 (some .boolean) :: TB) R_Mo A := B
  obtain ⟨⟨hx, hb, hml, hown, hts⟩, hX, hK, hE, hA⟩ := id B
  have hl : lv_has ls 6 [(0, .ref h), (1, .int (iI fr)), (2, .int (iI to)), (3, .ref (E.2.2.1 i))] := hl
  have hP : va_P D classes [(h, .inr (9, [.ref mlf, .ref mrt, .ref mpb, .ref mop, .int (iI mtz), .ref mta, .int (iI moz), .ref moa, .long (lI mrl), .long (lI mrh), .int (bI mno), .long (lI mlo), .long (lI mhi), .ref mo1, .ref mo2, .ref mo3, .ref mo4, .int (iI mms), .int (iI mex), .int (bI mgd), .int (bI mon)])), (mta, .inl (E.1, 400, .inl (ia t)))] s.heap := hP
  have hD : va_D A [(h, .inr (9, [.ref mlf, .ref mrt, .ref mpb, .ref mop, .int (iI mtz), .ref mta, .int (iI moz), .ref moa, .long (lI mrl), .long (lI mrh), .int (bI mno), .long (lI mlo), .long (lI mhi), .ref mo1, .ref mo2, .ref mo3, .ref mo4, .int (iI mms), .int (iI mex), .int (bI mgd), .int (bI mon)])), (mta, .inl (E.1, 400, .inl (ia t)))] := hD
  have hsl := strLen_all i hi
  have K_20 : ∀ (fuel20 : Nat) (k : Int) (is9 : Bool) (hk : 0 ≤ k ∧ k ≤ (strLen i : Int)) (his : (is9 = true → to - fr = (strLen i : Int) ∧ wdB t to fr i = wdL t to (fr + k) ((strByt.getD i []).drop k.toNat)) ∧ (is9 = false → ¬ SLW t fr to i)) (hf20 : (strLen i : Int) - k < (fuel20 : Int)) (ls : Array Slot) (H : Heap) (locs : List Loc), lv_has ls 6 [(0, .ref h), (1, .int (iI fr)), (2, .int (iI to)), (3, .ref (E.2.2.1 i)), (4, .int (bI is9)), (5, .int (iI k))] → va_P D classes [(h, .inr (9, [.ref mlf, .ref mrt, .ref mpb, .ref mop, .int (iI mtz), .ref mta, .int (iI moz), .ref moa, .long (lI mrl), .long (lI mrh), .int (bI mno), .long (lI mlo), .long (lI mhi), .ref mo1, .ref mo2, .ref mo3, .ref mo4, .int (iI mms), .int (iI mex), .int (bI mgd), .int (bI mon)])), (mta, .inl (E.1, 400, .inl (ia t)))] H → va_D A [(h, .inr (9, [.ref mlf, .ref mrt, .ref mpb, .ref mop, .int (iI mtz), .ref mta, .int (iI moz), .ref moa, .long (lI mrl), .long (lI mrh), .int (bI mno), .long (lI mlo), .long (lI mhi), .ref mo1, .ref mo2, .ref mo3, .ref mo4, .int (iI mms), .int (iI mex), .int (bI mgd), .int (bI mon)])), (mta, .inl (E.1, 400, .inl (ia t)))] → va_S A s.heap H locs → W p l e (rmK 4 0 0 85) s m args below meth c H locs 0 0 Q (F0 m 20 ls []) := by
    intro fuel20
    induction fuel20 with
    | zero =>
      intro k is9 hk his hf20 ls H locs hl hP hD hS
      exfalso; omega
    | succ fuel20 ih20 =>
      intro k is9 hk his hf20 ls H locs hl hP hD hS
      have hsc := strCh_rng i k
      refine lv_iload hx hb d_Mo_isWord_20 (lv_at hl 4 rfl) ?_
      refine wb_if_eq (tgt := 65) hx hb d_Mo_isWord_22 (by decide) (fun c_1 => ?_) (fun c_1 => ?_)
      · skip
        refine lv_iload hx hb d_Mo_isWord_65 (lv_at hl 4 rfl) ?_
        exact ret is9 _ _ _ _ d_Mo_isWord_67 (show (is9 = true ↔ SLW t fr to i) from (by first | exact ⟨(fun z => by rw [c_1] at z; cases z), fun z => absurd z (his.2 c_1)⟩ | exact ⟨(fun _ => ⟨(his.1 c_1).1, by rw [(his.1 c_1).2, List.drop_eq_nil_of_le (by unfold strLen at *; omega)]; rfl⟩), fun _ => c_1⟩)) (hP.sub [0, 1] rfl) (hD.sub [0, 1] (by decide) rfl) hS
      · skip
        refine lv_iload hx hb d_Mo_isWord_25 (lv_at hl 5 rfl) ?_
        refine lv_aload_n hx hb d_Mo_isWord_27 rfl (lv_at hl 3 rfl) ?_
        refine wk_callO (As := []) (rest := [.int (iI k)]) (wr := [(h, .inr (9, [.ref mlf, .ref mrt, .ref mpb, .ref mop, .int (iI mtz), .ref mta, .int (iI moz), .ref moa, .long (lI mrl), .long (lI mrh), .int (bI mno), .long (lI mlo), .long (lI mhi), .ref mo1, .ref mo2, .ref mo3, .ref mo4, .int (iI mms), .int (iI mex), .int (bI mgd), .int (bI mon)])), (mta, .inl (E.1, 400, .inl (ia t)))]) B gTB cl_Mo_160 (c_JStr_length l D E i (by omega)) ⟨⟨rfl, rfl⟩, Nat.le_of_ble_eq_true rfl, Nat.le_of_ble_eq_true rfl⟩ hP hD hS [] [0, 1] rfl rfl (by decide) (va_O_at (hE.2.2.1 i hi).1 hS) ⟨hl.2.1, hl.1⟩ rfl (Nat.le_of_ble_eq_true rfl) d_Mo_isWord_28 ⟨Nat.le_of_ble_eq_true rfl, Nat.le_of_ble_eq_true rfl⟩ rfl (fun r_2 H locs hw hP hD hS => ?_)
        have hP : va_P D classes [(h, .inr (9, [.ref mlf, .ref mrt, .ref mpb, .ref mop, .int (iI mtz), .ref mta, .int (iI moz), .ref moa, .long (lI mrl), .long (lI mrh), .int (bI mno), .long (lI mlo), .long (lI mhi), .ref mo1, .ref mo2, .ref mo3, .ref mo4, .int (iI mms), .int (iI mex), .int (bI mgd), .int (bI mon)])), (mta, .inl (E.1, 400, .inl (ia t)))] H := hP
        have hD : va_D A [(h, .inr (9, [.ref mlf, .ref mrt, .ref mpb, .ref mop, .int (iI mtz), .ref mta, .int (iI moz), .ref moa, .long (lI mrl), .long (lI mrh), .int (bI mno), .long (lI mlo), .long (lI mhi), .ref mo1, .ref mo2, .ref mo3, .ref mo4, .int (iI mms), .int (iI mex), .int (bI mgd), .int (bI mon)])), (mta, .inl (E.1, 400, .inl (ia t)))] := hD
        have hw : (r_2 = (strLen i : Int)) := hw
        have hr_3 := hw
        refine W.cs (g := F0 m 31 ls [.int (iI r_2), .int (iI k)]) (cells' := 0) (slots' := 0) rfl rfl ?_
        subst hr_3
        refine wi_icmp_ge (tgt := 65) hx hb d_Mo_isWord_31 (by decide) (by omega) (by omega) (fun c_4 => ?_) (fun c_4 => ?_)
        · skip
          refine lv_iload hx hb d_Mo_isWord_65 (lv_at hl 4 rfl) ?_
          exact ret is9 _ _ _ _ d_Mo_isWord_67 (show (is9 = true ↔ SLW t fr to i) from (by first | exact ⟨(fun z => by rw [c_1] at z; cases z), fun z => absurd z (his.2 c_1)⟩ | exact ⟨(fun _ => ⟨(his.1 c_1).1, by rw [(his.1 c_1).2, List.drop_eq_nil_of_le (by unfold strLen at *; omega)]; rfl⟩), fun _ => c_1⟩)) (hP.sub [0, 1] rfl) (hD.sub [0, 1] (by decide) rfl) hS
        · skip
          have hln := (his.1 c_1).1
          have hwl := wdL_s (t := t) (n := to) (p := fr) (i := i) (k := k) (by omega) (by omega)
          have htk := hT (fr + k) (by omega) (by omega)
          refine lv_aload_n hx hb d_Mo_isWord_34 rfl (lv_at hl 0 rfl) ?_
          refine wk_get B hP 0 rfl fl_Mo_107 (v := .ref mta) rfl d_Mo_isWord_35 ?_
          refine lv_iload_n hx hb d_Mo_isWord_38 rfl (lv_at hl 1 rfl) ?_
          refine lv_iload hx hb d_Mo_isWord_39 (lv_at hl 5 rfl) ?_
          refine wi_iadd hx hb d_Mo_isWord_41 ?_
          refine wi_iald hx hb hK hP 1 0 rfl rfl (by omega) (by omega) d_Mo_isWord_42 ?_
          refine lv_aload_n hx hb d_Mo_isWord_43 rfl (lv_at hl 3 rfl) ?_
          refine lv_iload hx hb d_Mo_isWord_44 (lv_at hl 5 rfl) ?_
          refine wk_callO (As := [.int (iI k)]) (rest := [.int (iI (t (fr + k)))]) (wr := [(h, .inr (9, [.ref mlf, .ref mrt, .ref mpb, .ref mop, .int (iI mtz), .ref mta, .int (iI moz), .ref moa, .long (lI mrl), .long (lI mrh), .int (bI mno), .long (lI mlo), .long (lI mhi), .ref mo1, .ref mo2, .ref mo3, .ref mo4, .int (iI mms), .int (iI mex), .int (bI mgd), .int (bI mon)])), (mta, .inl (E.1, 400, .inl (ia t)))]) B gTB cl_Mo_165 (c_JStr_charAt l D E i k (by omega) (by omega)) ⟨⟨rfl, rfl⟩, Nat.le_of_ble_eq_true rfl, Nat.le_of_ble_eq_true rfl⟩ hP hD hS [] [0, 1] rfl rfl (by decide) (va_O_at (hE.2.2.1 i hi).1 hS) ⟨hl.2.1, hl.1⟩ rfl (Nat.le_of_ble_eq_true rfl) d_Mo_isWord_46 ⟨Nat.le_of_ble_eq_true rfl, Nat.le_of_ble_eq_true rfl⟩ rfl (fun r_5 H locs hw hP hD hS => ?_)
          have hP : va_P D classes [(h, .inr (9, [.ref mlf, .ref mrt, .ref mpb, .ref mop, .int (iI mtz), .ref mta, .int (iI moz), .ref moa, .long (lI mrl), .long (lI mrh), .int (bI mno), .long (lI mlo), .long (lI mhi), .ref mo1, .ref mo2, .ref mo3, .ref mo4, .int (iI mms), .int (iI mex), .int (bI mgd), .int (bI mon)])), (mta, .inl (E.1, 400, .inl (ia t)))] H := hP
          have hD : va_D A [(h, .inr (9, [.ref mlf, .ref mrt, .ref mpb, .ref mop, .int (iI mtz), .ref mta, .int (iI moz), .ref moa, .long (lI mrl), .long (lI mrh), .int (bI mno), .long (lI mlo), .long (lI mhi), .ref mo1, .ref mo2, .ref mo3, .ref mo4, .int (iI mms), .int (iI mex), .int (bI mgd), .int (bI mon)])), (mta, .inl (E.1, 400, .inl (ia t)))] := hD
          have hw : (r_5 = strCh i k) := hw
          have hr_6 := hw
          refine W.cs (g := F0 m 49 ls [.int (iI r_5), .int (iI (t (fr + k)))]) (cells' := 0) (slots' := 0) rfl rfl ?_
          subst hr_6
          refine wi_icmp_ne (tgt := 56) hx hb d_Mo_isWord_49 (by decide) (by omega) (by omega) (fun c_7 => ?_) (fun c_7 => ?_)
          · skip
            refine wi_iconst (n := 0) hx hb d_Mo_isWord_56 ?_
            refine w_as0 ?_
            refine lv_istore (lv' := [(4, .int (bI false)), (0, .ref h), (1, .int (iI fr)), (2, .int (iI to)), (3, .ref (E.2.2.1 i)), (5, .int (iI k))]) hx hb d_Mo_isWord_57 hl (by decide) rfl (fun ls hl => ?_)
            refine wi_iinc (v := k + 1) (lv' := [(5, .int (iI (k + 1))), (4, .int (bI false)), (0, .ref h), (1, .int (iI fr)), (2, .int (iI to)), (3, .ref (E.2.2.1 i))]) hx hb d_Mo_isWord_59 hl (k := 5) rfl rfl (by decide) rfl (fun ls hl => ?_)
            refine lv_goto (tgt := 20) hx hb d_Mo_isWord_62 (by decide) ?_
            exact ih20 (k + 1) false (by omega) (⟨fun z => (by cases z), fun _ z => by have y := z.2; rw [(his.1 c_1).2, hwl, decide_eq_false c_7] at y; cases y⟩) (by omega) _ _ _ (lv_sub hl [2, 3, 4, 5, 1, 0] rfl) (hP.sub [0, 1] rfl) (hD.sub [0, 1] (by decide) rfl) hS
          · skip
            refine wi_iconst (n := 1) hx hb d_Mo_isWord_52 ?_
            refine lv_goto (tgt := 57) hx hb d_Mo_isWord_53 (by decide) ?_
            refine w_as1 ?_
            refine lv_istore (lv' := [(4, .int (bI true)), (0, .ref h), (1, .int (iI fr)), (2, .int (iI to)), (3, .ref (E.2.2.1 i)), (5, .int (iI k))]) hx hb d_Mo_isWord_57 hl (by decide) rfl (fun ls hl => ?_)
            refine wi_iinc (v := k + 1) (lv' := [(5, .int (iI (k + 1))), (4, .int (bI true)), (0, .ref h), (1, .int (iI fr)), (2, .int (iI to)), (3, .ref (E.2.2.1 i))]) hx hb d_Mo_isWord_59 hl (k := 5) rfl rfl (by decide) rfl (fun ls hl => ?_)
            refine lv_goto (tgt := 20) hx hb d_Mo_isWord_62 (by decide) ?_
            exact ih20 (k + 1) true (by omega) (⟨fun _ => ⟨hln, by rw [(his.1 c_1).2, hwl, decide_eq_true c_7]; rfl⟩, fun z => (by cases z)⟩) (by omega) _ _ _ (lv_sub hl [2, 3, 4, 5, 1, 0] rfl) (hP.sub [0, 1] rfl) (hD.sub [0, 1] (by decide) rfl) hS
  refine lv_iload_n hx hb d_Mo_isWord_0 rfl (lv_at hl 2 rfl) ?_
  refine lv_iload_n hx hb d_Mo_isWord_1 rfl (lv_at hl 1 rfl) ?_
  refine wi_isub hx hb d_Mo_isWord_2 ?_
  refine lv_aload_n hx hb d_Mo_isWord_3 rfl (lv_at hl 3 rfl) ?_
  refine wk_callO (As := []) (rest := [.int (iI (to - fr))]) (wr := [(h, .inr (9, [.ref mlf, .ref mrt, .ref mpb, .ref mop, .int (iI mtz), .ref mta, .int (iI moz), .ref moa, .long (lI mrl), .long (lI mrh), .int (bI mno), .long (lI mlo), .long (lI mhi), .ref mo1, .ref mo2, .ref mo3, .ref mo4, .int (iI mms), .int (iI mex), .int (bI mgd), .int (bI mon)])), (mta, .inl (E.1, 400, .inl (ia t)))]) B gTB cl_Mo_160 (c_JStr_length l D E i (by omega)) ⟨⟨rfl, rfl⟩, Nat.le_of_ble_eq_true rfl, Nat.le_of_ble_eq_true rfl⟩ hP hD hS [] [0, 1] rfl rfl (by decide) (va_O_at (hE.2.2.1 i hi).1 hS) ⟨hl.2.1, hl.1⟩ rfl (Nat.le_of_ble_eq_true rfl) d_Mo_isWord_4 ⟨Nat.le_of_ble_eq_true rfl, Nat.le_of_ble_eq_true rfl⟩ rfl (fun r_8 H locs hw hP hD hS => ?_)
  have hP : va_P D classes [(h, .inr (9, [.ref mlf, .ref mrt, .ref mpb, .ref mop, .int (iI mtz), .ref mta, .int (iI moz), .ref moa, .long (lI mrl), .long (lI mrh), .int (bI mno), .long (lI mlo), .long (lI mhi), .ref mo1, .ref mo2, .ref mo3, .ref mo4, .int (iI mms), .int (iI mex), .int (bI mgd), .int (bI mon)])), (mta, .inl (E.1, 400, .inl (ia t)))] H := hP
  have hD : va_D A [(h, .inr (9, [.ref mlf, .ref mrt, .ref mpb, .ref mop, .int (iI mtz), .ref mta, .int (iI moz), .ref moa, .long (lI mrl), .long (lI mrh), .int (bI mno), .long (lI mlo), .long (lI mhi), .ref mo1, .ref mo2, .ref mo3, .ref mo4, .int (iI mms), .int (iI mex), .int (bI mgd), .int (bI mon)])), (mta, .inl (E.1, 400, .inl (ia t)))] := hD
  have hw : (r_8 = (strLen i : Int)) := hw
  have hr_9 := hw
  refine W.cs (g := F0 m 7 ls [.int (iI r_8), .int (iI (to - fr))]) (cells' := 0) (slots' := 0) rfl rfl ?_
  subst hr_9
  refine wi_icmp_ne (tgt := 14) hx hb d_Mo_isWord_7 (by decide) (by omega) (by omega) (fun c_10 => ?_) (fun c_10 => ?_)
  · skip
    refine wi_iconst (n := 0) hx hb d_Mo_isWord_14 ?_
    refine w_as0 ?_
    refine lv_istore (lv' := [(4, .int (bI false)), (0, .ref h), (1, .int (iI fr)), (2, .int (iI to)), (3, .ref (E.2.2.1 i))]) hx hb d_Mo_isWord_15 hl (by decide) rfl (fun ls hl => ?_)
    refine wi_iconst (n := 0) hx hb d_Mo_isWord_17 ?_
    refine lv_istore (lv' := [(5, .int (iI 0)), (4, .int (bI false)), (0, .ref h), (1, .int (iI fr)), (2, .int (iI to)), (3, .ref (E.2.2.1 i))]) hx hb d_Mo_isWord_18 hl (by decide) rfl (fun ls hl => ?_)
    exact K_20 (((strLen i : Int) - 0 : Int).toNat + 1) 0 false (by omega) (⟨fun z => (by cases z), fun _ z => c_10 z.1⟩) (by omega) _ _ _ (lv_sub hl [2, 3, 4, 5, 1, 0] rfl) (hP.sub [0, 1] rfl) (hD.sub [0, 1] (by decide) rfl) hS
  · skip
    refine wi_iconst (n := 1) hx hb d_Mo_isWord_10 ?_
    refine lv_goto (tgt := 15) hx hb d_Mo_isWord_11 (by decide) ?_
    refine w_as1 ?_
    refine lv_istore (lv' := [(4, .int (bI true)), (0, .ref h), (1, .int (iI fr)), (2, .int (iI to)), (3, .ref (E.2.2.1 i))]) hx hb d_Mo_isWord_15 hl (by decide) rfl (fun ls hl => ?_)
    refine wi_iconst (n := 0) hx hb d_Mo_isWord_17 ?_
    refine lv_istore (lv' := [(5, .int (iI 0)), (4, .int (bI true)), (0, .ref h), (1, .int (iI fr)), (2, .int (iI to)), (3, .ref (E.2.2.1 i))]) hx hb d_Mo_isWord_18 hl (by decide) rfl (fun ls hl => ?_)
    exact K_20 (((strLen i : Int) - 0 : Int).toNat + 1) 0 true (by omega) (⟨fun _ => ⟨c_10, by rw [Int.add_zero]; rfl⟩, fun z => (by cases z)⟩) (by omega) _ _ _ (lv_sub hl [2, 3, 4, 5, 1, 0] rfl) (hP.sub [0, 1] rfl) (hD.sub [0, 1] (by decide) rfl) hS
set_option maxHeartbeats 4000000 in
set_option maxRecDepth 100000 in
theorem c_Mo_findByte (l : Launch) (D : va_G) (E : EVt) (h : Nat) (mlf : Nat) (mrt : Nat) (mpb : Nat) (mop : Nat) (mtz : Int) (mta : Nat) (moz : Int) (moa : Nat) (mrl : Int) (mrh : Int) (mno : Bool) (mlo : Int) (mhi : Int) (mo1 : Nat) (mo2 : Nat) (mo3 : Nat) (mo4 : Nat) (mms : Int) (mex : Int) (mgd : Bool) (mon : Bool) (t : Int → Int) (fr : Int) (to : Int) (b9 : Int) (hrg : 0 ≤ fr ∧ fr ≤ 500 ∧ to ≤ 400 ∧ -1 ≤ to) (hT : Tx t to) (hb9 : 0 ≤ b9 ∧ b9 < 256) : CT l D classes (tyl E) (EVX E) y_Mo_findByte (Cond.code y_Mo_findByte b_Mo_findByte 5 (some .int) :: TB) (rmK 0 0 0 0) 0 0 [.ref h, .int (iI fr), .int (iI to), .int (iI b9)] [(h, .inr (9, [.ref mlf, .ref mrt, .ref mpb, .ref mop, .int (iI mtz), .ref mta, .int (iI moz), .ref moa, .long (lI mrl), .long (lI mrh), .int (bI mno), .long (lI mlo), .long (lI mhi), .ref mo1, .ref mo2, .ref mo3, .ref mo4, .int (iI mms), .int (iI mex), .int (bI mgd), .int (bI mon)])), (mta, .inl (E.1, 400, .inl (ia t)))] (S := Int) (fun _ => [(h, .inr (9, [.ref mlf, .ref mrt, .ref mpb, .ref mop, .int (iI mtz), .ref mta, .int (iI moz), .ref moa, .long (lI mrl), .long (lI mrh), .int (bI mno), .long (lI mlo), .long (lI mhi), .ref mo1, .ref mo2, .ref mo3, .ref mo4, .int (iI mms), .int (iI mex), .int (bI mgd), .int (bI mon)])), (mta, .inl (E.1, 400, .inl (ia t)))]) (fun u => some (.int (iI u))) (fun u => (FBR t fr to b9 u)) := by
  refine CT.ofi (fv := fun (u : Int) => u) (eok E) (by decide) rfl (Nat.le_of_ble_eq_true rfl) ?_
  intro p e s m args below meth c A Q ls B hmn hP hD hS hl ret
  have B : Bd l D classes (tyl E) (EVX E) p m c b_Mo_findByte 5 s args (Cond.code y_Mo_findByte b_Mo_findByte 5 (some .int) :: TB) R_Mo A := B
  obtain ⟨⟨hx, hb, hml, hown, hts⟩, hX, hK, hE, hA⟩ := id B
  have hl : lv_has ls 5 [(0, .ref h), (1, .int (iI fr)), (2, .int (iI to)), (3, .int (iI b9))] := hl
  have hP : va_P D classes [(h, .inr (9, [.ref mlf, .ref mrt, .ref mpb, .ref mop, .int (iI mtz), .ref mta, .int (iI moz), .ref moa, .long (lI mrl), .long (lI mrh), .int (bI mno), .long (lI mlo), .long (lI mhi), .ref mo1, .ref mo2, .ref mo3, .ref mo4, .int (iI mms), .int (iI mex), .int (bI mgd), .int (bI mon)])), (mta, .inl (E.1, 400, .inl (ia t)))] s.heap := hP
  have hD : va_D A [(h, .inr (9, [.ref mlf, .ref mrt, .ref mpb, .ref mop, .int (iI mtz), .ref mta, .int (iI moz), .ref moa, .long (lI mrl), .long (lI mrh), .int (bI mno), .long (lI mlo), .long (lI mhi), .ref mo1, .ref mo2, .ref mo3, .ref mo4, .int (iI mms), .int (iI mex), .int (bI mgd), .int (bI mon)])), (mta, .inl (E.1, 400, .inl (ia t)))] := hD
  have K_3 : ∀ (fuel3 : Nat) (k : Int) (hk : fr ≤ k ∧ (k ≤ to ∨ k = fr)) (hq : ∀ j : Int, fr ≤ j → j < k → t j ≠ b9) (hf3 : max (to - k) 0 < (fuel3 : Int)) (ls : Array Slot) (H : Heap) (locs : List Loc), lv_has ls 5 [(0, .ref h), (1, .int (iI fr)), (2, .int (iI to)), (3, .int (iI b9)), (4, .int (iI k))] → va_P D classes [(h, .inr (9, [.ref mlf, .ref mrt, .ref mpb, .ref mop, .int (iI mtz), .ref mta, .int (iI moz), .ref moa, .long (lI mrl), .long (lI mrh), .int (bI mno), .long (lI mlo), .long (lI mhi), .ref mo1, .ref mo2, .ref mo3, .ref mo4, .int (iI mms), .int (iI mex), .int (bI mgd), .int (bI mon)])), (mta, .inl (E.1, 400, .inl (ia t)))] H → va_D A [(h, .inr (9, [.ref mlf, .ref mrt, .ref mpb, .ref mop, .int (iI mtz), .ref mta, .int (iI moz), .ref moa, .long (lI mrl), .long (lI mrh), .int (bI mno), .long (lI mlo), .long (lI mhi), .ref mo1, .ref mo2, .ref mo3, .ref mo4, .int (iI mms), .int (iI mex), .int (bI mgd), .int (bI mon)])), (mta, .inl (E.1, 400, .inl (ia t)))] → va_S A s.heap H locs → W p l e (rmK 0 0 0 0) s m args below meth c H locs 0 0 Q (F0 m 3 ls []) := by
    intro fuel3
    induction fuel3 with
    | zero =>
      intro k hk hq hf3 ls H locs hl hP hD hS
      exfalso; omega
    | succ fuel3 ih3 =>
      intro k hk hq hf3 ls H locs hl hP hD hS
      refine lv_iload hx hb d_Mo_findByte_3 (lv_at hl 4 rfl) ?_
      refine lv_iload_n hx hb d_Mo_findByte_5 rfl (lv_at hl 2 rfl) ?_
      refine wi_icmp_ge (tgt := 29) hx hb d_Mo_findByte_6 (by decide) (by omega) (by omega) (fun c_1 => ?_) (fun c_1 => ?_)
      · skip
        refine wi_iconst (n := -1) hx hb d_Mo_findByte_29 ?_
        exact ret (-1) _ _ _ _ d_Mo_findByte_30 (show (FBR t fr to b9 (-1)) from (Or.inl ⟨rfl, fun j h1 h2 => hq j h1 (by omega)⟩)) (hP.sub [0, 1] rfl) (hD.sub [0, 1] (by decide) rfl) hS
      · skip
        have htk := hT k (by omega) (by omega)
        refine lv_aload_n hx hb d_Mo_findByte_9 rfl (lv_at hl 0 rfl) ?_
        refine wk_get B hP 0 rfl fl_Mo_107 (v := .ref mta) rfl d_Mo_findByte_10 ?_
        refine lv_iload hx hb d_Mo_findByte_13 (lv_at hl 4 rfl) ?_
        refine wi_iald hx hb hK hP 1 0 rfl rfl (by omega) (by omega) d_Mo_findByte_15 ?_
        refine lv_iload_n hx hb d_Mo_findByte_16 rfl (lv_at hl 3 rfl) ?_
        refine wi_icmp_ne (tgt := 23) hx hb d_Mo_findByte_17 (by decide) (by omega) (by omega) (fun c_2 => ?_) (fun c_2 => ?_)
        · skip
          refine wi_iinc (v := k + 1) (lv' := [(4, .int (iI (k + 1))), (0, .ref h), (1, .int (iI fr)), (2, .int (iI to)), (3, .int (iI b9))]) hx hb d_Mo_findByte_23 hl (k := 4) rfl rfl (by decide) rfl (fun ls hl => ?_)
          refine lv_goto (tgt := 3) hx hb d_Mo_findByte_26 (by decide) ?_
          exact ih3 (k + 1) (by omega) (fun j h1 h2 => if z : j = k then (by rw [z]; exact c_2) else hq j h1 (by omega)) (by omega) _ _ _ (lv_sub hl [1, 2, 3, 4, 0] rfl) (hP.sub [0, 1] rfl) (hD.sub [0, 1] (by decide) rfl) hS
        · skip
          refine lv_iload hx hb d_Mo_findByte_20 (lv_at hl 4 rfl) ?_
          exact ret k _ _ _ _ d_Mo_findByte_22 (show (FBR t fr to b9 k) from (Or.inr ⟨by omega, c_2, hq⟩)) (hP.sub [0, 1] rfl) (hD.sub [0, 1] (by decide) rfl) hS
  refine lv_iload_n hx hb d_Mo_findByte_0 rfl (lv_at hl 1 rfl) ?_
  refine lv_istore (lv' := [(4, .int (iI fr)), (0, .ref h), (1, .int (iI fr)), (2, .int (iI to)), (3, .int (iI b9))]) hx hb d_Mo_findByte_1 hl (by decide) rfl (fun ls hl => ?_)
  exact K_3 ((max (to - fr) 0 : Int).toNat + 1) fr (by omega) (fun j h1 h2 => by omega) (by omega) _ _ _ (lv_sub hl [1, 2, 3, 4, 0] rfl) (hP.sub [0, 1] rfl) (hD.sub [0, 1] (by decide) rfl) hS
set_option maxHeartbeats 4000000 in
set_option maxRecDepth 100000 in
theorem c_Mo_readDigits (l : Launch) (D : va_G) (E : EVt) (h : Nat) (mlf : Nat) (mrt : Nat) (mpb : Nat) (mop : Nat) (mtz : Int) (mta : Nat) (moz : Int) (moa : Nat) (mrl : Int) (mrh : Int) (mno : Bool) (mlo : Int) (mhi : Int) (mo1 : Nat) (mo2 : Nat) (mo3 : Nat) (mo4 : Nat) (mms : Int) (mex : Int) (mgd : Bool) (mon : Bool) (t : Int → Int) (h4 : Nat) (pn9 : Nat) (pa9 : Nat) (qn9 : Nat) (qa9 : Nat) (pg9 : Int → Int) (qg9 : Int → Int) (pk9 : Int) (qk9 : Int) (ee9 : Int) (be9 : Bool) (fr : Int) (to : Int) (ba : Int) (hrg : 0 ≤ fr ∧ fr ≤ to ∧ to ≤ 400) (hT : Tx t to) (hba : ba = 10 ∨ ba = 16) : CT l D classes (tyl E) (EVX E) y_Mo_readDigits (Cond.code y_Mo_readDigits b_Mo_readDigits 8 (some .int) :: TB) (rmK 2 0 0 46) 0 0 [.ref h, .int (iI fr), .int (iI to), .int (iI ba), .ref h4] [(h, .inr (9, [.ref mlf, .ref mrt, .ref mpb, .ref mop, .int (iI mtz), .ref mta, .int (iI moz), .ref moa, .long (lI mrl), .long (lI mrh), .int (bI mno), .long (lI mlo), .long (lI mhi), .ref mo1, .ref mo2, .ref mo3, .ref mo4, .int (iI mms), .int (iI mex), .int (bI mgd), .int (bI mon)])), (mta, .inl (E.1, 400, .inl (ia t))), (h4, .inr (8, [.int (bI be9), .ref pn9, .ref qn9, .int (iI ee9)])), (pn9, .inr (7, [.ref pa9, .int (iI pk9)])), (pa9, .inl (E.1, 640, .inl (ia pg9))), (qn9, .inr (7, [.ref qa9, .int (iI qk9)])), (qa9, .inl (E.1, 640, .inl (ia qg9)))] (S := Int × Int × Int × Int × Int × Bool × (Int → Int) × (Int → Int) × Int × Int) (fun u => [(h, .inr (9, [.ref mlf, .ref mrt, .ref mpb, .ref mop, .int (iI mtz), .ref mta, .int (iI moz), .ref moa, .long (lI mrl), .long (lI mrh), .int (bI mno), .long (lI mlo), .long (lI mhi), .ref mo1, .ref mo2, .ref mo3, .ref mo4, .int (iI u.2.1), .int (iI mex), .int (bI mgd), .int (bI mon)])), (mta, .inl (E.1, 400, .inl (ia t))), (h4, .inr (8, [.int (bI false), .ref pn9, .ref qn9, .int (iI 0)])), (pn9, .inr (7, [.ref pa9, .int (iI u.2.2.2.2.2.2.2.2.1)])), (pa9, .inl (E.1, 640, .inl (ia u.2.2.2.2.2.2.1))), (qn9, .inr (7, [.ref qa9, .int (iI u.2.2.2.2.2.2.2.2.2)])), (qa9, .inl (E.1, 640, .inl (ia u.2.2.2.2.2.2.2.1)))]) (fun u => some (.int (iI u.1))) (fun u => (DGs t to ba true fr (0, 0, 0, false) = (u.2.2.1, u.2.2.2.1, u.2.2.2.2.1, u.2.1, u.2.2.2.2.2.1)) ∧ (u.1 = if 0 < u.2.2.2.2.1 then u.2.2.1 else -1) ∧ (BigOK u.2.2.2.2.2.2.1 u.2.2.2.2.2.2.2.2.1 u.2.2.2.1) ∧ (BigOK u.2.2.2.2.2.2.2.1 u.2.2.2.2.2.2.2.2.2 1) ∧ (0 ≤ u.2.1 ∧ u.2.1 ≤ u.2.2.2.2.1 ∧ u.2.2.2.2.1 ≤ u.2.2.1 - fr) ∧ (fr ≤ u.2.2.1 ∧ u.2.2.1 ≤ to) ∧ (0 ≤ u.2.2.2.1 ∧ u.2.2.2.1 < P2 (4 * u.2.2.2.2.1))) := by
  refine CT.ofi (fv := fun (u : Int × Int × Int × Int × Int × Bool × (Int → Int) × (Int → Int) × Int × Int) => u.1) (eok E) (by decide) rfl (Nat.le_of_ble_eq_true rfl) ?_
  intro p e s m args below meth c A Q ls B hmn hP hD hS hl ret
  have B : Bd l D classes (tyl E) (EVX E) p m c b_Mo_readDigits 8 s args (Cond.code y_Mo_readDigits b_Mo_readDigits 8 (some .int) :: TB) R_Mo A := B
  obtain ⟨⟨hx, hb, hml, hown, hts⟩, hX, hK, hE, hA⟩ := id B
  have hl : lv_has ls 8 [(0, .ref h), (1, .int (iI fr)), (2, .int (iI to)), (3, .int (iI ba)), (4, .ref h4)] := hl
  have hP : va_P D classes [(h, .inr (9, [.ref mlf, .ref mrt, .ref mpb, .ref mop, .int (iI mtz), .ref mta, .int (iI moz), .ref moa, .long (lI mrl), .long (lI mrh), .int (bI mno), .long (lI mlo), .long (lI mhi), .ref mo1, .ref mo2, .ref mo3, .ref mo4, .int (iI mms), .int (iI mex), .int (bI mgd), .int (bI mon)])), (mta, .inl (E.1, 400, .inl (ia t))), (h4, .inr (8, [.int (bI be9), .ref pn9, .ref qn9, .int (iI ee9)])), (pn9, .inr (7, [.ref pa9, .int (iI pk9)])), (pa9, .inl (E.1, 640, .inl (ia pg9))), (qn9, .inr (7, [.ref qa9, .int (iI qk9)])), (qa9, .inl (E.1, 640, .inl (ia qg9)))] s.heap := hP
  have hD : va_D A [(h, .inr (9, [.ref mlf, .ref mrt, .ref mpb, .ref mop, .int (iI mtz), .ref mta, .int (iI moz), .ref moa, .long (lI mrl), .long (lI mrh), .int (bI mno), .long (lI mlo), .long (lI mhi), .ref mo1, .ref mo2, .ref mo3, .ref mo4, .int (iI mms), .int (iI mex), .int (bI mgd), .int (bI mon)])), (mta, .inl (E.1, 400, .inl (ia t))), (h4, .inr (8, [.int (bI be9), .ref pn9, .ref qn9, .int (iI ee9)])), (pn9, .inr (7, [.ref pa9, .int (iI pk9)])), (pa9, .inl (E.1, 640, .inl (ia pg9))), (qn9, .inr (7, [.ref qa9, .int (iI qk9)])), (qa9, .inl (E.1, 640, .inl (ia qg9)))] := hD
  have K_20 : ∀ (fuel20 : Nat) (p1 : Int) (ms1 : Int) (v1 : Int) (c1 : Int) (pt1 : Bool) (pg1 : Int → Int) (qg1 : Int → Int) (pk1 : Int) (qk1 : Int) (hP1 : BigOK pg1 pk1 v1) (hQ1 : BigOK qg1 qk1 1) (hp1r : fr ≤ p1 ∧ p1 ≤ to) (hD0 : DGs t to ba true fr (0, 0, 0, false) = DGs t to ba true p1 (v1, c1, ms1, pt1)) (hc1 : 0 ≤ c1 ∧ c1 ≤ p1 - fr) (hms1 : 0 ≤ ms1 ∧ ms1 ≤ c1) (hV : 0 ≤ v1 ∧ v1 < P2 (4 * c1)) (hf20 : to - p1 < (fuel20 : Int)) (ls : Array Slot) (H : Heap) (locs : List Loc), lv_has ls 8 [(0, .ref h), (1, .int (iI fr)), (2, .int (iI to)), (3, .int (iI ba)), (4, .ref h4), (5, .int (iI p1)), (6, .int (bI pt1)), (7, .int (iI c1))] → va_P D classes [(h, .inr (9, [.ref mlf, .ref mrt, .ref mpb, .ref mop, .int (iI mtz), .ref mta, .int (iI moz), .ref moa, .long (lI mrl), .long (lI mrh), .int (bI mno), .long (lI mlo), .long (lI mhi), .ref mo1, .ref mo2, .ref mo3, .ref mo4, .int (iI ms1), .int (iI mex), .int (bI mgd), .int (bI mon)])), (mta, .inl (E.1, 400, .inl (ia t))), (h4, .inr (8, [.int (bI false), .ref pn9, .ref qn9, .int (iI 0)])), (pn9, .inr (7, [.ref pa9, .int (iI pk1)])), (pa9, .inl (E.1, 640, .inl (ia pg1))), (qn9, .inr (7, [.ref qa9, .int (iI qk1)])), (qa9, .inl (E.1, 640, .inl (ia qg1)))] H → va_D A [(h, .inr (9, [.ref mlf, .ref mrt, .ref mpb, .ref mop, .int (iI mtz), .ref mta, .int (iI moz), .ref moa, .long (lI mrl), .long (lI mrh), .int (bI mno), .long (lI mlo), .long (lI mhi), .ref mo1, .ref mo2, .ref mo3, .ref mo4, .int (iI ms1), .int (iI mex), .int (bI mgd), .int (bI mon)])), (mta, .inl (E.1, 400, .inl (ia t))), (h4, .inr (8, [.int (bI false), .ref pn9, .ref qn9, .int (iI 0)])), (pn9, .inr (7, [.ref pa9, .int (iI pk1)])), (pa9, .inl (E.1, 640, .inl (ia pg1))), (qn9, .inr (7, [.ref qa9, .int (iI qk1)])), (qa9, .inl (E.1, 640, .inl (ia qg1)))] → va_S A s.heap H locs → W p l e (rmK 2 0 0 46) s m args below meth c H locs 0 0 Q (F0 m 20 ls []) := by
    intro fuel20
    induction fuel20 with
    | zero =>
      intro p1 ms1 v1 c1 pt1 pg1 qg1 pk1 qk1 hP1 hQ1 hp1r hD0 hc1 hms1 hV hf20 ls H locs hl hP hD hS
      exfalso; omega
    | succ fuel20 ih20 =>
      intro p1 ms1 v1 c1 pt1 pg1 qg1 pk1 qk1 hP1 hQ1 hp1r hD0 hc1 hms1 hV hf20 ls H locs hl hP hD hS
      refine lv_iload hx hb d_Mo_readDigits_20 (lv_at hl 5 rfl) ?_
      refine lv_iload_n hx hb d_Mo_readDigits_22 rfl (lv_at hl 2 rfl) ?_
      refine wi_icmp_ge (tgt := 125) hx hb d_Mo_readDigits_23 (by decide) (by omega) (by omega) (fun c_1 => ?_) (fun c_1 => ?_)
      · skip
        have hst : DGs t to ba true fr (0, 0, 0, false) = (p1, v1, c1, ms1, pt1) := by
          rw [hD0]
          refine DG_stop (by omega) ?_
          first | (exact Or.inl (by omega)) | (exact Or.inr ⟨by rw [hra]; omega, Or.inl (by rw [hra]; exact c_12)⟩) | (exact Or.inr ⟨by rw [hra]; omega, Or.inr (Or.inr c_14)⟩)
        refine lv_iload hx hb d_Mo_readDigits_125 (lv_at hl 7 rfl) ?_
        refine wi_if_le (tgt := 135) hx hb d_Mo_readDigits_127 (by decide) (by omega) (fun c_2 => ?_) (fun c_2 => ?_)
        · skip
          refine wi_iconst (n := -1) hx hb d_Mo_readDigits_135 ?_
          exact ret (-1, ms1, p1, v1, c1, pt1, pg1, qg1, pk1, qk1) _ _ _ _ d_Mo_readDigits_136 (show (DGs t to ba true fr (0, 0, 0, false) = (p1, v1, c1, ms1, pt1)) ∧ ((-1) = if 0 < c1 then p1 else -1) ∧ (BigOK pg1 pk1 v1) ∧ (BigOK qg1 qk1 1) ∧ (0 ≤ ms1 ∧ ms1 ≤ c1 ∧ c1 ≤ p1 - fr) ∧ (fr ≤ p1 ∧ p1 ≤ to) ∧ (0 ≤ v1 ∧ v1 < P2 (4 * c1)) from ⟨hst, (if_neg (by omega)).symm, hP1, hQ1, by omega, by omega, hV⟩) (hP.sub [0, 1, 2, 3, 4, 5, 6] rfl) (hD.sub [0, 1, 2, 3, 4, 5, 6] (by decide) rfl) hS
        · skip
          refine lv_iload hx hb d_Mo_readDigits_130 (lv_at hl 5 rfl) ?_
          refine lv_goto (tgt := 136) hx hb d_Mo_readDigits_132 (by decide) ?_
          exact ret (p1, ms1, p1, v1, c1, pt1, pg1, qg1, pk1, qk1) _ _ _ _ d_Mo_readDigits_136 (show (DGs t to ba true fr (0, 0, 0, false) = (p1, v1, c1, ms1, pt1)) ∧ (p1 = if 0 < c1 then p1 else -1) ∧ (BigOK pg1 pk1 v1) ∧ (BigOK qg1 qk1 1) ∧ (0 ≤ ms1 ∧ ms1 ≤ c1 ∧ c1 ≤ p1 - fr) ∧ (fr ≤ p1 ∧ p1 ≤ to) ∧ (0 ≤ v1 ∧ v1 < P2 (4 * c1)) from ⟨hst, (if_pos (by omega)).symm, hP1, hQ1, by omega, by omega, hV⟩) (hP.sub [0, 1, 2, 3, 4, 5, 6] rfl) (hD.sub [0, 1, 2, 3, 4, 5, 6] (by decide) rfl) hS
      · skip
        have htk := hT p1 (by omega) (by omega)
        have hra := rat_in (t := t) (n := to) (i := p1) (by omega)
        have hdr := dig_rng (t p1)
        have hhl := hd_lt (x := t p1) hba
        have hhr : 0 ≤ hd (t p1) ∧ hd (t p1) ≤ 99 := by unfold hd; split <;> omega
        refine lv_aload_n hx hb d_Mo_readDigits_26 rfl (lv_at hl 0 rfl) ?_
        refine wk_get B hP 0 rfl fl_Mo_107 (v := .ref mta) rfl d_Mo_readDigits_27 ?_
        refine lv_iload hx hb d_Mo_readDigits_30 (lv_at hl 5 rfl) ?_
        refine wi_iald hx hb hK hP 1 0 rfl rfl (by omega) (by omega) d_Mo_readDigits_32 ?_
        refine wk_callS (As := [.int (iI (t p1))]) (rest := []) (wr := [(h, .inr (9, [.ref mlf, .ref mrt, .ref mpb, .ref mop, .int (iI mtz), .ref mta, .int (iI moz), .ref moa, .long (lI mrl), .long (lI mrh), .int (bI mno), .long (lI mlo), .long (lI mhi), .ref mo1, .ref mo2, .ref mo3, .ref mo4, .int (iI ms1), .int (iI mex), .int (bI mgd), .int (bI mon)])), (mta, .inl (E.1, 400, .inl (ia t))), (h4, .inr (8, [.int (bI false), .ref pn9, .ref qn9, .int (iI 0)])), (pn9, .inr (7, [.ref pa9, .int (iI pk1)])), (pa9, .inl (E.1, 640, .inl (ia pg1))), (qn9, .inr (7, [.ref qa9, .int (iI qk1)])), (qa9, .inl (E.1, 640, .inl (ia qg1)))]) B gTB cl_Mo_175 (c_Mo_hexDigit l D E (t p1) (by omega)) ⟨⟨rfl, rfl⟩, Nat.le_of_ble_eq_true rfl, Nat.le_of_ble_eq_true rfl⟩ hP hD hS [] [0, 1, 2, 3, 4, 5, 6] rfl rfl (by decide) ⟨hl.2.1, hl.1⟩ rfl (Nat.le_of_ble_eq_true rfl) d_Mo_readDigits_33 ⟨Nat.le_of_ble_eq_true rfl, Nat.le_of_ble_eq_true rfl⟩ rfl (fun r_3 H locs hw hP hD hS => ?_)
        have hP : va_P D classes [(h, .inr (9, [.ref mlf, .ref mrt, .ref mpb, .ref mop, .int (iI mtz), .ref mta, .int (iI moz), .ref moa, .long (lI mrl), .long (lI mrh), .int (bI mno), .long (lI mlo), .long (lI mhi), .ref mo1, .ref mo2, .ref mo3, .ref mo4, .int (iI ms1), .int (iI mex), .int (bI mgd), .int (bI mon)])), (mta, .inl (E.1, 400, .inl (ia t))), (h4, .inr (8, [.int (bI false), .ref pn9, .ref qn9, .int (iI 0)])), (pn9, .inr (7, [.ref pa9, .int (iI pk1)])), (pa9, .inl (E.1, 640, .inl (ia pg1))), (qn9, .inr (7, [.ref qa9, .int (iI qk1)])), (qa9, .inl (E.1, 640, .inl (ia qg1)))] H := hP
        have hD : va_D A [(h, .inr (9, [.ref mlf, .ref mrt, .ref mpb, .ref mop, .int (iI mtz), .ref mta, .int (iI moz), .ref moa, .long (lI mrl), .long (lI mrh), .int (bI mno), .long (lI mlo), .long (lI mhi), .ref mo1, .ref mo2, .ref mo3, .ref mo4, .int (iI ms1), .int (iI mex), .int (bI mgd), .int (bI mon)])), (mta, .inl (E.1, 400, .inl (ia t))), (h4, .inr (8, [.int (bI false), .ref pn9, .ref qn9, .int (iI 0)])), (pn9, .inr (7, [.ref pa9, .int (iI pk1)])), (pa9, .inl (E.1, 640, .inl (ia pg1))), (qn9, .inr (7, [.ref qa9, .int (iI qk1)])), (qa9, .inl (E.1, 640, .inl (ia qg1)))] := hD
        have hw : (r_3 = hd (t p1)) := hw
        have hr_4 := hw
        refine W.cs (g := F0 m 36 ls [.int (iI r_3)]) (cells' := 0) (slots' := 0) rfl rfl ?_
        subst hr_4
        refine lv_iload_n hx hb d_Mo_readDigits_36 rfl (lv_at hl 3 rfl) ?_
        refine wi_icmp_lt (tgt := 57) hx hb d_Mo_readDigits_37 (by decide) (by omega) (by omega) (fun c_5 => ?_) (fun c_5 => ?_)
        · skip
          refine lv_aload_n hx hb d_Mo_readDigits_57 rfl (lv_at hl 0 rfl) ?_
          refine wk_get B hP 0 rfl fl_Mo_107 (v := .ref mta) rfl d_Mo_readDigits_58 ?_
          refine lv_iload hx hb d_Mo_readDigits_61 (lv_at hl 5 rfl) ?_
          refine wi_iald hx hb hK hP 1 0 rfl rfl (by omega) (by omega) d_Mo_readDigits_63 ?_
          refine wi_bipush hx hb d_Mo_readDigits_64 (by decide) ?_
          refine wi_icmp_ne (tgt := 75) hx hb d_Mo_readDigits_66 (by decide) (by omega) (by omega) (fun c_6 => ?_) (fun c_6 => by exfalso; rw [c_6] at c_5; exact absurd c_5 (by rcases hba with z | z <;> rw [z] <;> decide))
          have hhe := hd_eq hba c_5
          have hV9 := dg_bd hV hc1.1 hba (d := hd (t p1)) (by omega)
          refine lv_aload hx hb d_Mo_readDigits_75 (lv_at hl 4 rfl) ?_
          refine wk_getN B hP 2 rfl fn_Num_1 (hE.1 _ (List.mem_of_getElem? (l := nestWs) (i := 8) rfl)) (v := .ref pn9) rfl d_Mo_readDigits_77 ?_
          refine lv_iload_n hx hb d_Mo_readDigits_80 rfl (lv_at hl 3 rfl) ?_
          refine lv_aload_n hx hb d_Mo_readDigits_81 rfl (lv_at hl 0 rfl) ?_
          refine wk_get B hP 0 rfl fl_Mo_107 (v := .ref mta) rfl d_Mo_readDigits_82 ?_
          refine lv_iload hx hb d_Mo_readDigits_85 (lv_at hl 5 rfl) ?_
          refine wi_iald hx hb hK hP 1 0 rfl rfl (by omega) (by omega) d_Mo_readDigits_87 ?_
          refine wk_callS (As := [.int (iI (t p1))]) (rest := [.int (iI ba), .ref pn9]) (wr := [(h, .inr (9, [.ref mlf, .ref mrt, .ref mpb, .ref mop, .int (iI mtz), .ref mta, .int (iI moz), .ref moa, .long (lI mrl), .long (lI mrh), .int (bI mno), .long (lI mlo), .long (lI mhi), .ref mo1, .ref mo2, .ref mo3, .ref mo4, .int (iI ms1), .int (iI mex), .int (bI mgd), .int (bI mon)])), (mta, .inl (E.1, 400, .inl (ia t))), (h4, .inr (8, [.int (bI false), .ref pn9, .ref qn9, .int (iI 0)])), (pn9, .inr (7, [.ref pa9, .int (iI pk1)])), (pa9, .inl (E.1, 640, .inl (ia pg1))), (qn9, .inr (7, [.ref qa9, .int (iI qk1)])), (qa9, .inl (E.1, 640, .inl (ia qg1)))]) B gTB cl_Mo_175 (c_Mo_hexDigit l D E (t p1) (by omega)) ⟨⟨rfl, rfl⟩, Nat.le_of_ble_eq_true rfl, Nat.le_of_ble_eq_true rfl⟩ hP hD hS [] [0, 1, 2, 3, 4, 5, 6] rfl rfl (by decide) ⟨hl.2.1, hl.1⟩ rfl (Nat.le_of_ble_eq_true rfl) d_Mo_readDigits_88 ⟨Nat.le_of_ble_eq_true rfl, Nat.le_of_ble_eq_true rfl⟩ rfl (fun r_7 H locs hw hP hD hS => ?_)
          have hP : va_P D classes [(h, .inr (9, [.ref mlf, .ref mrt, .ref mpb, .ref mop, .int (iI mtz), .ref mta, .int (iI moz), .ref moa, .long (lI mrl), .long (lI mrh), .int (bI mno), .long (lI mlo), .long (lI mhi), .ref mo1, .ref mo2, .ref mo3, .ref mo4, .int (iI ms1), .int (iI mex), .int (bI mgd), .int (bI mon)])), (mta, .inl (E.1, 400, .inl (ia t))), (h4, .inr (8, [.int (bI false), .ref pn9, .ref qn9, .int (iI 0)])), (pn9, .inr (7, [.ref pa9, .int (iI pk1)])), (pa9, .inl (E.1, 640, .inl (ia pg1))), (qn9, .inr (7, [.ref qa9, .int (iI qk1)])), (qa9, .inl (E.1, 640, .inl (ia qg1)))] H := hP
          have hD : va_D A [(h, .inr (9, [.ref mlf, .ref mrt, .ref mpb, .ref mop, .int (iI mtz), .ref mta, .int (iI moz), .ref moa, .long (lI mrl), .long (lI mrh), .int (bI mno), .long (lI mlo), .long (lI mhi), .ref mo1, .ref mo2, .ref mo3, .ref mo4, .int (iI ms1), .int (iI mex), .int (bI mgd), .int (bI mon)])), (mta, .inl (E.1, 400, .inl (ia t))), (h4, .inr (8, [.int (bI false), .ref pn9, .ref qn9, .int (iI 0)])), (pn9, .inr (7, [.ref pa9, .int (iI pk1)])), (pa9, .inl (E.1, 640, .inl (ia pg1))), (qn9, .inr (7, [.ref qa9, .int (iI qk1)])), (qa9, .inl (E.1, 640, .inl (ia qg1)))] := hD
          have hw : (r_7 = hd (t p1)) := hw
          have hr_8 := hw
          refine W.cs (g := F0 m 91 ls [.int (iI r_7), .int (iI ba), .ref pn9]) (cells' := 0) (slots' := 0) rfl rfl ?_
          subst hr_8
          refine wk_callV (As := [.int (iI ba), .int (iI (hd (t p1)))]) (rest := []) (wr := [(h, .inr (9, [.ref mlf, .ref mrt, .ref mpb, .ref mop, .int (iI mtz), .ref mta, .int (iI moz), .ref moa, .long (lI mrl), .long (lI mrh), .int (bI mno), .long (lI mlo), .long (lI mhi), .ref mo1, .ref mo2, .ref mo3, .ref mo4, .int (iI ms1), .int (iI mex), .int (bI mgd), .int (bI mon)])), (mta, .inl (E.1, 400, .inl (ia t))), (h4, .inr (8, [.int (bI false), .ref pn9, .ref qn9, .int (iI 0)])), (qn9, .inr (7, [.ref qa9, .int (iI qk1)])), (qa9, .inl (E.1, 640, .inl (ia qg1)))]) B gTB cl_Mo_179 (c_Big_grow l D E pn9 pa9 pg1 pk1 ba (hd (t p1)) v1 (hP1) (by omega) (by omega) (rd_fit hV9.2 (by omega))) ⟨⟨rfl, rfl⟩, Nat.le_of_ble_eq_true rfl, Nat.le_of_ble_eq_true rfl⟩ hP hD hS [3, 4] [0, 1, 2, 5, 6] rfl rfl (by decide) 3 rfl rfl rfl ⟨hl.2.1, hl.1⟩ rfl (Nat.le_of_ble_eq_true rfl) d_Mo_readDigits_91 ⟨Nat.le_of_ble_eq_true rfl, Nat.le_of_ble_eq_true rfl⟩ rfl (fun u H locs hw hP hD hS => ?_)
          obtain ⟨g2_9, k2_10⟩ := u
          have hP : va_P D classes [(h, .inr (9, [.ref mlf, .ref mrt, .ref mpb, .ref mop, .int (iI mtz), .ref mta, .int (iI moz), .ref moa, .long (lI mrl), .long (lI mrh), .int (bI mno), .long (lI mlo), .long (lI mhi), .ref mo1, .ref mo2, .ref mo3, .ref mo4, .int (iI ms1), .int (iI mex), .int (bI mgd), .int (bI mon)])), (mta, .inl (E.1, 400, .inl (ia t))), (h4, .inr (8, [.int (bI false), .ref pn9, .ref qn9, .int (iI 0)])), (qn9, .inr (7, [.ref qa9, .int (iI qk1)])), (qa9, .inl (E.1, 640, .inl (ia qg1))), (pn9, .inr (7, [.ref pa9, .int (iI k2_10)])), (pa9, .inl (E.1, 640, .inl (ia g2_9)))] H := hP
          have hD : va_D A [(h, .inr (9, [.ref mlf, .ref mrt, .ref mpb, .ref mop, .int (iI mtz), .ref mta, .int (iI moz), .ref moa, .long (lI mrl), .long (lI mrh), .int (bI mno), .long (lI mlo), .long (lI mhi), .ref mo1, .ref mo2, .ref mo3, .ref mo4, .int (iI ms1), .int (iI mex), .int (bI mgd), .int (bI mon)])), (mta, .inl (E.1, 400, .inl (ia t))), (h4, .inr (8, [.int (bI false), .ref pn9, .ref qn9, .int (iI 0)])), (qn9, .inr (7, [.ref qa9, .int (iI qk1)])), (qa9, .inl (E.1, 640, .inl (ia qg1))), (pn9, .inr (7, [.ref pa9, .int (iI k2_10)])), (pa9, .inl (E.1, 640, .inl (ia g2_9)))] := hD
          have hw : (BigOK g2_9 k2_10 (v1 * ba + (hd (t p1)))) := hw
          have hM9 := hw
          refine W.cs (g := F0 m 94 ls []) (cells' := 0) (slots' := 0) rfl rfl ?_
          refine wi_iinc (v := c1 + 1) (lv' := [(7, .int (iI (c1 + 1))), (0, .ref h), (1, .int (iI fr)), (2, .int (iI to)), (3, .int (iI ba)), (4, .ref h4), (5, .int (iI p1)), (6, .int (bI pt1))]) hx hb d_Mo_readDigits_94 hl (k := 7) rfl rfl (by decide) rfl (fun ls hl => ?_)
          refine lv_aload_n hx hb d_Mo_readDigits_97 rfl (lv_at hl 1 rfl) ?_
          refine lv_iload hx hb d_Mo_readDigits_98 (lv_at hl 7 rfl) ?_
          refine wb_if_eq (tgt := 112) hx hb d_Mo_readDigits_100 (by decide) (fun c_11 => ?_) (fun c_11 => ?_)
          · skip
            refine lv_aload_n hx hb d_Mo_readDigits_112 rfl (lv_at hl 1 rfl) ?_
            refine wk_get B hP 0 rfl fl_Mo_172 (v := .int (iI ms1)) rfl d_Mo_readDigits_113 ?_
            refine wk_put B hP hD hS 0 rfl fl_Mo_172 fp_Mo_17 (v := .int (iI ms1)) rfl rfl (Nat.le_of_ble_eq_true rfl) d_Mo_readDigits_116 (fun H locs hP hD hS => ?_)
            have hP : va_P D classes [(h, .inr (9, [.ref mlf, .ref mrt, .ref mpb, .ref mop, .int (iI mtz), .ref mta, .int (iI moz), .ref moa, .long (lI mrl), .long (lI mrh), .int (bI mno), .long (lI mlo), .long (lI mhi), .ref mo1, .ref mo2, .ref mo3, .ref mo4, .int (iI ms1), .int (iI mex), .int (bI mgd), .int (bI mon)])), (mta, .inl (E.1, 400, .inl (ia t))), (h4, .inr (8, [.int (bI false), .ref pn9, .ref qn9, .int (iI 0)])), (qn9, .inr (7, [.ref qa9, .int (iI qk1)])), (qa9, .inl (E.1, 640, .inl (ia qg1))), (pn9, .inr (7, [.ref pa9, .int (iI k2_10)])), (pa9, .inl (E.1, 640, .inl (ia g2_9)))] H := hP
            have hD : va_D A [(h, .inr (9, [.ref mlf, .ref mrt, .ref mpb, .ref mop, .int (iI mtz), .ref mta, .int (iI moz), .ref moa, .long (lI mrl), .long (lI mrh), .int (bI mno), .long (lI mlo), .long (lI mhi), .ref mo1, .ref mo2, .ref mo3, .ref mo4, .int (iI ms1), .int (iI mex), .int (bI mgd), .int (bI mon)])), (mta, .inl (E.1, 400, .inl (ia t))), (h4, .inr (8, [.int (bI false), .ref pn9, .ref qn9, .int (iI 0)])), (qn9, .inr (7, [.ref qa9, .int (iI qk1)])), (qa9, .inl (E.1, 640, .inl (ia qg1))), (pn9, .inr (7, [.ref pa9, .int (iI k2_10)])), (pa9, .inl (E.1, 640, .inl (ia g2_9)))] := hD
            refine wi_iinc (v := p1 + 1) (lv' := [(5, .int (iI (p1 + 1))), (7, .int (iI (c1 + 1))), (0, .ref h), (1, .int (iI fr)), (2, .int (iI to)), (3, .int (iI ba)), (4, .ref h4), (6, .int (bI pt1))]) hx hb d_Mo_readDigits_119 hl (k := 6) rfl rfl (by decide) rfl (fun ls hl => ?_)
            refine lv_goto (tgt := 20) hx hb d_Mo_readDigits_122 (by decide) ?_
            exact ih20 (p1 + 1) ms1 (v1 * ba + hd (t p1)) (c1 + 1) pt1 g2_9 qg1 k2_10 qk1 (hM9) (hQ1) (by omega) (by rw [hD0]; exact DG_digit (by omega) (by omega) (by rw [hra]; omega) (by omega) (by rw [hra, hhe]) (by rw [c_11]; simp)) (by omega) (by omega) (hV9) (by omega) _ _ _ (lv_sub hl [2, 3, 4, 5, 6, 0, 7, 1] rfl) (hP.sub [0, 1, 2, 5, 6, 3, 4] rfl) (hD.sub [0, 1, 2, 5, 6, 3, 4] (by decide) rfl) hS
          · skip
            refine lv_aload_n hx hb d_Mo_readDigits_103 rfl (lv_at hl 1 rfl) ?_
            refine wk_get B hP 0 rfl fl_Mo_172 (v := .int (iI ms1)) rfl d_Mo_readDigits_104 ?_
            refine wi_iconst (n := 1) hx hb d_Mo_readDigits_107 ?_
            refine wi_iadd hx hb d_Mo_readDigits_108 ?_
            refine lv_goto (tgt := 116) hx hb d_Mo_readDigits_109 (by decide) ?_
            refine wk_put B hP hD hS 0 rfl fl_Mo_172 fp_Mo_17 (v := .int (iI (ms1 + 1))) rfl rfl (Nat.le_of_ble_eq_true rfl) d_Mo_readDigits_116 (fun H locs hP hD hS => ?_)
            have hP : va_P D classes [(h, .inr (9, [.ref mlf, .ref mrt, .ref mpb, .ref mop, .int (iI mtz), .ref mta, .int (iI moz), .ref moa, .long (lI mrl), .long (lI mrh), .int (bI mno), .long (lI mlo), .long (lI mhi), .ref mo1, .ref mo2, .ref mo3, .ref mo4, .int (iI (ms1 + 1)), .int (iI mex), .int (bI mgd), .int (bI mon)])), (mta, .inl (E.1, 400, .inl (ia t))), (h4, .inr (8, [.int (bI false), .ref pn9, .ref qn9, .int (iI 0)])), (qn9, .inr (7, [.ref qa9, .int (iI qk1)])), (qa9, .inl (E.1, 640, .inl (ia qg1))), (pn9, .inr (7, [.ref pa9, .int (iI k2_10)])), (pa9, .inl (E.1, 640, .inl (ia g2_9)))] H := hP
            have hD : va_D A [(h, .inr (9, [.ref mlf, .ref mrt, .ref mpb, .ref mop, .int (iI mtz), .ref mta, .int (iI moz), .ref moa, .long (lI mrl), .long (lI mrh), .int (bI mno), .long (lI mlo), .long (lI mhi), .ref mo1, .ref mo2, .ref mo3, .ref mo4, .int (iI (ms1 + 1)), .int (iI mex), .int (bI mgd), .int (bI mon)])), (mta, .inl (E.1, 400, .inl (ia t))), (h4, .inr (8, [.int (bI false), .ref pn9, .ref qn9, .int (iI 0)])), (qn9, .inr (7, [.ref qa9, .int (iI qk1)])), (qa9, .inl (E.1, 640, .inl (ia qg1))), (pn9, .inr (7, [.ref pa9, .int (iI k2_10)])), (pa9, .inl (E.1, 640, .inl (ia g2_9)))] := hD
            refine wi_iinc (v := p1 + 1) (lv' := [(5, .int (iI (p1 + 1))), (7, .int (iI (c1 + 1))), (0, .ref h), (1, .int (iI fr)), (2, .int (iI to)), (3, .int (iI ba)), (4, .ref h4), (6, .int (bI pt1))]) hx hb d_Mo_readDigits_119 hl (k := 6) rfl rfl (by decide) rfl (fun ls hl => ?_)
            refine lv_goto (tgt := 20) hx hb d_Mo_readDigits_122 (by decide) ?_
            exact ih20 (p1 + 1) (ms1 + 1) (v1 * ba + hd (t p1)) (c1 + 1) pt1 g2_9 qg1 k2_10 qk1 (hM9) (hQ1) (by omega) (by rw [hD0]; exact DG_digit (by omega) (by omega) (by rw [hra]; omega) (by omega) (by rw [hra, hhe]) (by rw [c_11]; simp)) (by omega) (by omega) (hV9) (by omega) _ _ _ (lv_sub hl [2, 3, 4, 5, 6, 0, 7, 1] rfl) (hP.sub [0, 1, 2, 5, 6, 3, 4] rfl) (hD.sub [0, 1, 2, 5, 6, 3, 4] (by decide) rfl) hS
        · skip
          refine lv_aload_n hx hb d_Mo_readDigits_40 rfl (lv_at hl 0 rfl) ?_
          refine wk_get B hP 0 rfl fl_Mo_107 (v := .ref mta) rfl d_Mo_readDigits_41 ?_
          refine lv_iload hx hb d_Mo_readDigits_44 (lv_at hl 5 rfl) ?_
          refine wi_iald hx hb hK hP 1 0 rfl rfl (by omega) (by omega) d_Mo_readDigits_46 ?_
          refine wi_bipush hx hb d_Mo_readDigits_47 (by decide) ?_
          refine wi_icmp_ne (tgt := 125) hx hb d_Mo_readDigits_49 (by decide) (by omega) (by omega) (fun c_12 => ?_) (fun c_12 => ?_)
          · skip
            have hst : DGs t to ba true fr (0, 0, 0, false) = (p1, v1, c1, ms1, pt1) := by
              rw [hD0]
              refine DG_stop (by omega) ?_
              first | (exact Or.inl (by omega)) | (exact Or.inr ⟨by rw [hra]; omega, Or.inl (by rw [hra]; exact c_12)⟩) | (exact Or.inr ⟨by rw [hra]; omega, Or.inr (Or.inr c_14)⟩)
            refine lv_iload hx hb d_Mo_readDigits_125 (lv_at hl 7 rfl) ?_
            refine wi_if_le (tgt := 135) hx hb d_Mo_readDigits_127 (by decide) (by omega) (fun c_13 => ?_) (fun c_13 => ?_)
            · skip
              refine wi_iconst (n := -1) hx hb d_Mo_readDigits_135 ?_
              exact ret (-1, ms1, p1, v1, c1, pt1, pg1, qg1, pk1, qk1) _ _ _ _ d_Mo_readDigits_136 (show (DGs t to ba true fr (0, 0, 0, false) = (p1, v1, c1, ms1, pt1)) ∧ ((-1) = if 0 < c1 then p1 else -1) ∧ (BigOK pg1 pk1 v1) ∧ (BigOK qg1 qk1 1) ∧ (0 ≤ ms1 ∧ ms1 ≤ c1 ∧ c1 ≤ p1 - fr) ∧ (fr ≤ p1 ∧ p1 ≤ to) ∧ (0 ≤ v1 ∧ v1 < P2 (4 * c1)) from ⟨hst, (if_neg (by omega)).symm, hP1, hQ1, by omega, by omega, hV⟩) (hP.sub [0, 1, 2, 3, 4, 5, 6] rfl) (hD.sub [0, 1, 2, 3, 4, 5, 6] (by decide) rfl) hS
            · skip
              refine lv_iload hx hb d_Mo_readDigits_130 (lv_at hl 5 rfl) ?_
              refine lv_goto (tgt := 136) hx hb d_Mo_readDigits_132 (by decide) ?_
              exact ret (p1, ms1, p1, v1, c1, pt1, pg1, qg1, pk1, qk1) _ _ _ _ d_Mo_readDigits_136 (show (DGs t to ba true fr (0, 0, 0, false) = (p1, v1, c1, ms1, pt1)) ∧ (p1 = if 0 < c1 then p1 else -1) ∧ (BigOK pg1 pk1 v1) ∧ (BigOK qg1 qk1 1) ∧ (0 ≤ ms1 ∧ ms1 ≤ c1 ∧ c1 ≤ p1 - fr) ∧ (fr ≤ p1 ∧ p1 ≤ to) ∧ (0 ≤ v1 ∧ v1 < P2 (4 * c1)) from ⟨hst, (if_pos (by omega)).symm, hP1, hQ1, by omega, by omega, hV⟩) (hP.sub [0, 1, 2, 3, 4, 5, 6] rfl) (hD.sub [0, 1, 2, 3, 4, 5, 6] (by decide) rfl) hS
          · skip
            refine lv_iload hx hb d_Mo_readDigits_52 (lv_at hl 6 rfl) ?_
            refine wb_if_ne (tgt := 125) hx hb d_Mo_readDigits_54 (by decide) (fun c_14 => ?_) (fun c_14 => ?_)
            · skip
              have hst : DGs t to ba true fr (0, 0, 0, false) = (p1, v1, c1, ms1, pt1) := by
                rw [hD0]
                refine DG_stop (by omega) ?_
                first | (exact Or.inl (by omega)) | (exact Or.inr ⟨by rw [hra]; omega, Or.inl (by rw [hra]; exact c_12)⟩) | (exact Or.inr ⟨by rw [hra]; omega, Or.inr (Or.inr c_14)⟩)
              refine lv_iload hx hb d_Mo_readDigits_125 (lv_at hl 7 rfl) ?_
              refine wi_if_le (tgt := 135) hx hb d_Mo_readDigits_127 (by decide) (by omega) (fun c_15 => ?_) (fun c_15 => ?_)
              · skip
                refine wi_iconst (n := -1) hx hb d_Mo_readDigits_135 ?_
                exact ret (-1, ms1, p1, v1, c1, pt1, pg1, qg1, pk1, qk1) _ _ _ _ d_Mo_readDigits_136 (show (DGs t to ba true fr (0, 0, 0, false) = (p1, v1, c1, ms1, pt1)) ∧ ((-1) = if 0 < c1 then p1 else -1) ∧ (BigOK pg1 pk1 v1) ∧ (BigOK qg1 qk1 1) ∧ (0 ≤ ms1 ∧ ms1 ≤ c1 ∧ c1 ≤ p1 - fr) ∧ (fr ≤ p1 ∧ p1 ≤ to) ∧ (0 ≤ v1 ∧ v1 < P2 (4 * c1)) from ⟨hst, (if_neg (by omega)).symm, hP1, hQ1, by omega, by omega, hV⟩) (hP.sub [0, 1, 2, 3, 4, 5, 6] rfl) (hD.sub [0, 1, 2, 3, 4, 5, 6] (by decide) rfl) hS
              · skip
                refine lv_iload hx hb d_Mo_readDigits_130 (lv_at hl 5 rfl) ?_
                refine lv_goto (tgt := 136) hx hb d_Mo_readDigits_132 (by decide) ?_
                exact ret (p1, ms1, p1, v1, c1, pt1, pg1, qg1, pk1, qk1) _ _ _ _ d_Mo_readDigits_136 (show (DGs t to ba true fr (0, 0, 0, false) = (p1, v1, c1, ms1, pt1)) ∧ (p1 = if 0 < c1 then p1 else -1) ∧ (BigOK pg1 pk1 v1) ∧ (BigOK qg1 qk1 1) ∧ (0 ≤ ms1 ∧ ms1 ≤ c1 ∧ c1 ≤ p1 - fr) ∧ (fr ≤ p1 ∧ p1 ≤ to) ∧ (0 ≤ v1 ∧ v1 < P2 (4 * c1)) from ⟨hst, (if_pos (by omega)).symm, hP1, hQ1, by omega, by omega, hV⟩) (hP.sub [0, 1, 2, 3, 4, 5, 6] rfl) (hD.sub [0, 1, 2, 3, 4, 5, 6] (by decide) rfl) hS
            · skip
              refine lv_aload_n hx hb d_Mo_readDigits_57 rfl (lv_at hl 0 rfl) ?_
              refine wk_get B hP 0 rfl fl_Mo_107 (v := .ref mta) rfl d_Mo_readDigits_58 ?_
              refine lv_iload hx hb d_Mo_readDigits_61 (lv_at hl 5 rfl) ?_
              refine wi_iald hx hb hK hP 1 0 rfl rfl (by omega) (by omega) d_Mo_readDigits_63 ?_
              refine wi_bipush hx hb d_Mo_readDigits_64 (by decide) ?_
              refine wi_icmp_ne (tgt := 75) hx hb d_Mo_readDigits_66 (by decide) (by omega) (by omega) (fun c_16 => by exfalso; omega) (fun c_16 => ?_)
              refine wi_iconst (n := 1) hx hb d_Mo_readDigits_69 ?_
              refine w_as1 ?_
              refine lv_istore (lv' := [(6, .int (bI true)), (0, .ref h), (1, .int (iI fr)), (2, .int (iI to)), (3, .int (iI ba)), (4, .ref h4), (5, .int (iI p1)), (7, .int (iI c1))]) hx hb d_Mo_readDigits_70 hl (by decide) rfl (fun ls hl => ?_)
              refine lv_goto (tgt := 119) hx hb d_Mo_readDigits_72 (by decide) ?_
              refine wi_iinc (v := p1 + 1) (lv' := [(5, .int (iI (p1 + 1))), (6, .int (bI true)), (0, .ref h), (1, .int (iI fr)), (2, .int (iI to)), (3, .int (iI ba)), (4, .ref h4), (7, .int (iI c1))]) hx hb d_Mo_readDigits_119 hl (k := 6) rfl rfl (by decide) rfl (fun ls hl => ?_)
              refine lv_goto (tgt := 20) hx hb d_Mo_readDigits_122 (by decide) ?_
              exact ih20 (p1 + 1) ms1 v1 c1 true pg1 qg1 pk1 qk1 (hP1) (hQ1) (by omega) (by rw [hD0]; exact DG_point (by omega) (by omega) (by rw [hra]; exact c_12) rfl c_14) (by omega) (by omega) (hV) (by omega) _ _ _ (lv_sub hl [2, 3, 4, 5, 6, 0, 1, 7] rfl) (hP.sub [0, 1, 2, 3, 4, 5, 6] rfl) (hD.sub [0, 1, 2, 3, 4, 5, 6] (by decide) rfl) hS
  refine lv_iload_n hx hb d_Mo_readDigits_0 rfl (lv_at hl 1 rfl) ?_
  refine lv_istore (lv' := [(5, .int (iI fr)), (0, .ref h), (1, .int (iI fr)), (2, .int (iI to)), (3, .int (iI ba)), (4, .ref h4)]) hx hb d_Mo_readDigits_1 hl (by decide) rfl (fun ls hl => ?_)
  refine wi_iconst (n := 0) hx hb d_Mo_readDigits_3 ?_
  refine w_as0 ?_
  refine lv_istore (lv' := [(6, .int (bI false)), (5, .int (iI fr)), (0, .ref h), (1, .int (iI fr)), (2, .int (iI to)), (3, .int (iI ba)), (4, .ref h4)]) hx hb d_Mo_readDigits_4 hl (by decide) rfl (fun ls hl => ?_)
  refine wi_iconst (n := 0) hx hb d_Mo_readDigits_6 ?_
  refine lv_istore (lv' := [(7, .int (iI 0)), (6, .int (bI false)), (5, .int (iI fr)), (0, .ref h), (1, .int (iI fr)), (2, .int (iI to)), (3, .int (iI ba)), (4, .ref h4)]) hx hb d_Mo_readDigits_7 hl (by decide) rfl (fun ls hl => ?_)
  refine lv_aload hx hb d_Mo_readDigits_9 (lv_at hl 7 rfl) ?_
  refine wi_lconst (z := 0) hx hb d_Mo_readDigits_11 (by decide) ?_
  refine wk_callV (As := [.long (lI 0)]) (rest := []) (wr := [(h, .inr (9, [.ref mlf, .ref mrt, .ref mpb, .ref mop, .int (iI mtz), .ref mta, .int (iI moz), .ref moa, .long (lI mrl), .long (lI mrh), .int (bI mno), .long (lI mlo), .long (lI mhi), .ref mo1, .ref mo2, .ref mo3, .ref mo4, .int (iI mms), .int (iI mex), .int (bI mgd), .int (bI mon)])), (mta, .inl (E.1, 400, .inl (ia t)))]) B gTB cl_Mo_169 (c_Num_set l D E h4 pn9 pa9 qn9 qa9 pg9 qg9 pk9 qk9 ee9 be9 0 (by omega)) ⟨⟨rfl, rfl⟩, Nat.le_of_ble_eq_true rfl, Nat.le_of_ble_eq_true rfl⟩ hP hD hS [2, 3, 4, 5, 6] [0, 1] rfl rfl (by decide) 2 rfl rfl rfl ⟨hl.2.1, hl.1⟩ rfl (Nat.le_of_ble_eq_true rfl) d_Mo_readDigits_12 ⟨Nat.le_of_ble_eq_true rfl, Nat.le_of_ble_eq_true rfl⟩ rfl (fun u H locs hw hP hD hS => ?_)
  obtain ⟨pg2_17, qg2_18, pk2_19, qk2_20⟩ := u
  have hP : va_P D classes [(h, .inr (9, [.ref mlf, .ref mrt, .ref mpb, .ref mop, .int (iI mtz), .ref mta, .int (iI moz), .ref moa, .long (lI mrl), .long (lI mrh), .int (bI mno), .long (lI mlo), .long (lI mhi), .ref mo1, .ref mo2, .ref mo3, .ref mo4, .int (iI mms), .int (iI mex), .int (bI mgd), .int (bI mon)])), (mta, .inl (E.1, 400, .inl (ia t))), (h4, .inr (8, [.int (bI false), .ref pn9, .ref qn9, .int (iI 0)])), (pn9, .inr (7, [.ref pa9, .int (iI pk2_19)])), (pa9, .inl (E.1, 640, .inl (ia pg2_17))), (qn9, .inr (7, [.ref qa9, .int (iI qk2_20)])), (qa9, .inl (E.1, 640, .inl (ia qg2_18)))] H := hP
  have hD : va_D A [(h, .inr (9, [.ref mlf, .ref mrt, .ref mpb, .ref mop, .int (iI mtz), .ref mta, .int (iI moz), .ref moa, .long (lI mrl), .long (lI mrh), .int (bI mno), .long (lI mlo), .long (lI mhi), .ref mo1, .ref mo2, .ref mo3, .ref mo4, .int (iI mms), .int (iI mex), .int (bI mgd), .int (bI mon)])), (mta, .inl (E.1, 400, .inl (ia t))), (h4, .inr (8, [.int (bI false), .ref pn9, .ref qn9, .int (iI 0)])), (pn9, .inr (7, [.ref pa9, .int (iI pk2_19)])), (pa9, .inl (E.1, 640, .inl (ia pg2_17))), (qn9, .inr (7, [.ref qa9, .int (iI qk2_20)])), (qa9, .inl (E.1, 640, .inl (ia qg2_18)))] := hD
  have hw : (BigOK pg2_17 pk2_19 0) ∧ (BigOK qg2_18 qk2_20 1) := hw
  obtain ⟨hPs, hQs⟩ := hw
  refine W.cs (g := F0 m 15 ls []) (cells' := 0) (slots' := 0) rfl rfl ?_
  refine lv_aload_n hx hb d_Mo_readDigits_15 rfl (lv_at hl 3 rfl) ?_
  refine wi_iconst (n := 0) hx hb d_Mo_readDigits_16 ?_
  refine wk_put B hP hD hS 0 rfl fl_Mo_172 fp_Mo_17 (v := .int (iI 0)) rfl rfl (Nat.le_of_ble_eq_true rfl) d_Mo_readDigits_17 (fun H locs hP hD hS => ?_)
  have hP : va_P D classes [(h, .inr (9, [.ref mlf, .ref mrt, .ref mpb, .ref mop, .int (iI mtz), .ref mta, .int (iI moz), .ref moa, .long (lI mrl), .long (lI mrh), .int (bI mno), .long (lI mlo), .long (lI mhi), .ref mo1, .ref mo2, .ref mo3, .ref mo4, .int (iI 0), .int (iI mex), .int (bI mgd), .int (bI mon)])), (mta, .inl (E.1, 400, .inl (ia t))), (h4, .inr (8, [.int (bI false), .ref pn9, .ref qn9, .int (iI 0)])), (pn9, .inr (7, [.ref pa9, .int (iI pk2_19)])), (pa9, .inl (E.1, 640, .inl (ia pg2_17))), (qn9, .inr (7, [.ref qa9, .int (iI qk2_20)])), (qa9, .inl (E.1, 640, .inl (ia qg2_18)))] H := hP
  have hD : va_D A [(h, .inr (9, [.ref mlf, .ref mrt, .ref mpb, .ref mop, .int (iI mtz), .ref mta, .int (iI moz), .ref moa, .long (lI mrl), .long (lI mrh), .int (bI mno), .long (lI mlo), .long (lI mhi), .ref mo1, .ref mo2, .ref mo3, .ref mo4, .int (iI 0), .int (iI mex), .int (bI mgd), .int (bI mon)])), (mta, .inl (E.1, 400, .inl (ia t))), (h4, .inr (8, [.int (bI false), .ref pn9, .ref qn9, .int (iI 0)])), (pn9, .inr (7, [.ref pa9, .int (iI pk2_19)])), (pa9, .inl (E.1, 640, .inl (ia pg2_17))), (qn9, .inr (7, [.ref qa9, .int (iI qk2_20)])), (qa9, .inl (E.1, 640, .inl (ia qg2_18)))] := hD
  exact K_20 ((to - fr : Int).toNat + 1) fr 0 0 0 false pg2_17 qg2_18 pk2_19 qk2_20 (hPs) (hQs) (by omega) (rfl) (by omega) (by omega) (by rw [show 4 * (0 : Int) = 0 by omega, P2_0]; omega) (by omega) _ _ _ (lv_sub hl [3, 4, 5, 6, 7, 2, 1, 0] rfl) (hP.sub [0, 1, 2, 3, 4, 5, 6] rfl) (hD.sub [0, 1, 2, 3, 4, 5, 6] (by decide) rfl) hS
