/-! Scanner: takeExponent, takeDigits -/
abbrev b_Scanner_takeExponent : ByteArray := prog_7_method_13_code
def y_Scanner_takeExponent : MethodName := ⟨"IntervalText$Scanner", "takeExponent", "(CIZ)Z"⟩
abbrev b_Scanner_takeDigits : ByteArray := prog_7_method_12_code
def y_Scanner_takeDigits : MethodName := ⟨"IntervalText$Scanner", "takeDigits", "(LIntervalText$Natural;IZ)Z"⟩
theorem d_Scanner_takeExponent_0 : decode b_Scanner_takeExponent 0 = .ok (.aload_n 0, 1) := by decide +kernel
theorem d_Scanner_takeExponent_1 : decode b_Scanner_takeExponent 1 = .ok (.iconst 0, 1) := by decide +kernel
theorem d_Scanner_takeExponent_2 : decode b_Scanner_takeExponent 2 = .ok (.putfield 141, 3) := by decide +kernel
theorem d_Scanner_takeExponent_5 : decode b_Scanner_takeExponent 5 = .ok (.aload_n 0, 1) := by decide +kernel
theorem d_Scanner_takeExponent_6 : decode b_Scanner_takeExponent 6 = .ok (.invokevirtual 68, 3) := by decide +kernel
theorem d_Scanner_takeExponent_9 : decode b_Scanner_takeExponent 9 = .ok (.iload_n 1, 1) := by decide +kernel
theorem d_Scanner_takeExponent_10 : decode b_Scanner_takeExponent 10 = .ok (.if_icmp .eq 5, 3) := by decide +kernel
theorem d_Scanner_takeExponent_13 : decode b_Scanner_takeExponent 13 = .ok (.iload_n 3, 1) := by decide +kernel
theorem d_Scanner_takeExponent_14 : decode b_Scanner_takeExponent 14 = .ok (.ireturn, 1) := by decide +kernel
theorem d_Scanner_takeExponent_15 : decode b_Scanner_takeExponent 15 = .ok (.aload_n 0, 1) := by decide +kernel
theorem d_Scanner_takeExponent_16 : decode b_Scanner_takeExponent 16 = .ok (.dup, 1) := by decide +kernel
theorem d_Scanner_takeExponent_17 : decode b_Scanner_takeExponent 17 = .ok (.getfield 53, 3) := by decide +kernel
theorem d_Scanner_takeExponent_20 : decode b_Scanner_takeExponent 20 = .ok (.iconst 1, 1) := by decide +kernel
theorem d_Scanner_takeExponent_21 : decode b_Scanner_takeExponent 21 = .ok (.iadd, 1) := by decide +kernel
theorem d_Scanner_takeExponent_22 : decode b_Scanner_takeExponent 22 = .ok (.putfield 53, 3) := by decide +kernel
theorem d_Scanner_takeExponent_25 : decode b_Scanner_takeExponent 25 = .ok (.aload_n 0, 1) := by decide +kernel
theorem d_Scanner_takeExponent_26 : decode b_Scanner_takeExponent 26 = .ok (.invokevirtual 121, 3) := by decide +kernel
theorem d_Scanner_takeExponent_29 : decode b_Scanner_takeExponent 29 = .ok (.istore 4, 2) := by decide +kernel
theorem d_Scanner_takeExponent_31 : decode b_Scanner_takeExponent 31 = .ok (.iconst 0, 1) := by decide +kernel
theorem d_Scanner_takeExponent_32 : decode b_Scanner_takeExponent 32 = .ok (.istore 5, 2) := by decide +kernel
theorem d_Scanner_takeExponent_34 : decode b_Scanner_takeExponent 34 = .ok (.iload 5, 2) := by decide +kernel
theorem d_Scanner_takeExponent_36 : decode b_Scanner_takeExponent 36 = .ok (.iload_n 2, 1) := by decide +kernel
theorem d_Scanner_takeExponent_37 : decode b_Scanner_takeExponent 37 = .ok (.if_icmp .ge 50, 3) := by decide +kernel
theorem d_Scanner_takeExponent_40 : decode b_Scanner_takeExponent 40 = .ok (.aload_n 0, 1) := by decide +kernel
theorem d_Scanner_takeExponent_41 : decode b_Scanner_takeExponent 41 = .ok (.invokevirtual 68, 3) := by decide +kernel
theorem d_Scanner_takeExponent_44 : decode b_Scanner_takeExponent 44 = .ok (.invokestatic 181, 3) := by decide +kernel
theorem d_Scanner_takeExponent_47 : decode b_Scanner_takeExponent 47 = .ok (.bipush 10, 2) := by decide +kernel
theorem d_Scanner_takeExponent_49 : decode b_Scanner_takeExponent 49 = .ok (.if_icmp .ge 38, 3) := by decide +kernel
theorem d_Scanner_takeExponent_52 : decode b_Scanner_takeExponent 52 = .ok (.aload_n 0, 1) := by decide +kernel
theorem d_Scanner_takeExponent_53 : decode b_Scanner_takeExponent 53 = .ok (.aload_n 0, 1) := by decide +kernel
theorem d_Scanner_takeExponent_54 : decode b_Scanner_takeExponent 54 = .ok (.getfield 141, 3) := by decide +kernel
theorem d_Scanner_takeExponent_57 : decode b_Scanner_takeExponent 57 = .ok (.bipush 10, 2) := by decide +kernel
theorem d_Scanner_takeExponent_59 : decode b_Scanner_takeExponent 59 = .ok (.imul, 1) := by decide +kernel
theorem d_Scanner_takeExponent_60 : decode b_Scanner_takeExponent 60 = .ok (.aload_n 0, 1) := by decide +kernel
theorem d_Scanner_takeExponent_61 : decode b_Scanner_takeExponent 61 = .ok (.invokevirtual 68, 3) := by decide +kernel
theorem d_Scanner_takeExponent_64 : decode b_Scanner_takeExponent 64 = .ok (.invokestatic 181, 3) := by decide +kernel
theorem d_Scanner_takeExponent_67 : decode b_Scanner_takeExponent 67 = .ok (.iadd, 1) := by decide +kernel
theorem d_Scanner_takeExponent_68 : decode b_Scanner_takeExponent 68 = .ok (.putfield 141, 3) := by decide +kernel
theorem d_Scanner_takeExponent_71 : decode b_Scanner_takeExponent 71 = .ok (.aload_n 0, 1) := by decide +kernel
theorem d_Scanner_takeExponent_72 : decode b_Scanner_takeExponent 72 = .ok (.dup, 1) := by decide +kernel
theorem d_Scanner_takeExponent_73 : decode b_Scanner_takeExponent 73 = .ok (.getfield 53, 3) := by decide +kernel
theorem d_Scanner_takeExponent_76 : decode b_Scanner_takeExponent 76 = .ok (.iconst 1, 1) := by decide +kernel
theorem d_Scanner_takeExponent_77 : decode b_Scanner_takeExponent 77 = .ok (.iadd, 1) := by decide +kernel
theorem d_Scanner_takeExponent_78 : decode b_Scanner_takeExponent 78 = .ok (.putfield 53, 3) := by decide +kernel
theorem d_Scanner_takeExponent_81 : decode b_Scanner_takeExponent 81 = .ok (.iinc 5 1, 3) := by decide +kernel
theorem d_Scanner_takeExponent_84 : decode b_Scanner_takeExponent 84 = .ok (.goto (-50), 3) := by decide +kernel
theorem d_Scanner_takeExponent_87 : decode b_Scanner_takeExponent 87 = .ok (.aload_n 0, 1) := by decide +kernel
theorem d_Scanner_takeExponent_88 : decode b_Scanner_takeExponent 88 = .ok (.iload 4, 2) := by decide +kernel
theorem d_Scanner_takeExponent_90 : decode b_Scanner_takeExponent 90 = .ok (.ifCond .eq 11, 3) := by decide +kernel
theorem d_Scanner_takeExponent_93 : decode b_Scanner_takeExponent 93 = .ok (.aload_n 0, 1) := by decide +kernel
theorem d_Scanner_takeExponent_94 : decode b_Scanner_takeExponent 94 = .ok (.getfield 141, 3) := by decide +kernel
theorem d_Scanner_takeExponent_97 : decode b_Scanner_takeExponent 97 = .ok (.ineg, 1) := by decide +kernel
theorem d_Scanner_takeExponent_98 : decode b_Scanner_takeExponent 98 = .ok (.goto 7, 3) := by decide +kernel
theorem d_Scanner_takeExponent_101 : decode b_Scanner_takeExponent 101 = .ok (.aload_n 0, 1) := by decide +kernel
theorem d_Scanner_takeExponent_102 : decode b_Scanner_takeExponent 102 = .ok (.getfield 141, 3) := by decide +kernel
theorem d_Scanner_takeExponent_105 : decode b_Scanner_takeExponent 105 = .ok (.putfield 141, 3) := by decide +kernel
theorem d_Scanner_takeExponent_108 : decode b_Scanner_takeExponent 108 = .ok (.iload 5, 2) := by decide +kernel
theorem d_Scanner_takeExponent_110 : decode b_Scanner_takeExponent 110 = .ok (.ifCond .le 7, 3) := by decide +kernel
theorem d_Scanner_takeExponent_113 : decode b_Scanner_takeExponent 113 = .ok (.iconst 1, 1) := by decide +kernel
theorem d_Scanner_takeExponent_114 : decode b_Scanner_takeExponent 114 = .ok (.goto 4, 3) := by decide +kernel
theorem d_Scanner_takeExponent_117 : decode b_Scanner_takeExponent 117 = .ok (.iconst 0, 1) := by decide +kernel
theorem d_Scanner_takeExponent_118 : decode b_Scanner_takeExponent 118 = .ok (.ireturn, 1) := by decide +kernel
theorem d_Scanner_takeDigits_0 : decode b_Scanner_takeDigits 0 = .ok (.iconst 0, 1) := by decide +kernel
theorem d_Scanner_takeDigits_1 : decode b_Scanner_takeDigits 1 = .ok (.istore 4, 2) := by decide +kernel
theorem d_Scanner_takeDigits_3 : decode b_Scanner_takeDigits 3 = .ok (.aload_n 0, 1) := by decide +kernel
theorem d_Scanner_takeDigits_4 : decode b_Scanner_takeDigits 4 = .ok (.iconst 0, 1) := by decide +kernel
theorem d_Scanner_takeDigits_5 : decode b_Scanner_takeDigits 5 = .ok (.putfield 144, 3) := by decide +kernel
theorem d_Scanner_takeDigits_8 : decode b_Scanner_takeDigits 8 = .ok (.aload_n 0, 1) := by decide +kernel
theorem d_Scanner_takeDigits_9 : decode b_Scanner_takeDigits 9 = .ok (.iconst 0, 1) := by decide +kernel
theorem d_Scanner_takeDigits_10 : decode b_Scanner_takeDigits 10 = .ok (.putfield 150, 3) := by decide +kernel
theorem d_Scanner_takeDigits_13 : decode b_Scanner_takeDigits 13 = .ok (.aload_n 1, 1) := by decide +kernel
theorem d_Scanner_takeDigits_14 : decode b_Scanner_takeDigits 14 = .ok (.lconst 0, 1) := by decide +kernel
theorem d_Scanner_takeDigits_15 : decode b_Scanner_takeDigits 15 = .ok (.invokevirtual 169, 3) := by decide +kernel
theorem d_Scanner_takeDigits_18 : decode b_Scanner_takeDigits 18 = .ok (.iconst 1, 1) := by decide +kernel
theorem d_Scanner_takeDigits_19 : decode b_Scanner_takeDigits 19 = .ok (.istore 5, 2) := by decide +kernel
theorem d_Scanner_takeDigits_21 : decode b_Scanner_takeDigits 21 = .ok (.iconst 0, 1) := by decide +kernel
theorem d_Scanner_takeDigits_22 : decode b_Scanner_takeDigits 22 = .ok (.istore 6, 2) := by decide +kernel
theorem d_Scanner_takeDigits_24 : decode b_Scanner_takeDigits 24 = .ok (.aload_n 0, 1) := by decide +kernel
theorem d_Scanner_takeDigits_25 : decode b_Scanner_takeDigits 25 = .ok (.getfield 53, 3) := by decide +kernel
theorem d_Scanner_takeDigits_28 : decode b_Scanner_takeDigits 28 = .ok (.aload_n 0, 1) := by decide +kernel
theorem d_Scanner_takeDigits_29 : decode b_Scanner_takeDigits 29 = .ok (.getfield 9, 3) := by decide +kernel
theorem d_Scanner_takeDigits_32 : decode b_Scanner_takeDigits 32 = .ok (.getfield 41, 3) := by decide +kernel
theorem d_Scanner_takeDigits_35 : decode b_Scanner_takeDigits 35 = .ok (.if_icmp .ge 119, 3) := by decide +kernel
theorem d_Scanner_takeDigits_38 : decode b_Scanner_takeDigits 38 = .ok (.aload_n 0, 1) := by decide +kernel
theorem d_Scanner_takeDigits_39 : decode b_Scanner_takeDigits 39 = .ok (.invokevirtual 68, 3) := by decide +kernel
theorem d_Scanner_takeDigits_42 : decode b_Scanner_takeDigits 42 = .ok (.invokestatic 181, 3) := by decide +kernel
theorem d_Scanner_takeDigits_45 : decode b_Scanner_takeDigits 45 = .ok (.istore 7, 2) := by decide +kernel
theorem d_Scanner_takeDigits_47 : decode b_Scanner_takeDigits 47 = .ok (.aload_n 0, 1) := by decide +kernel
theorem d_Scanner_takeDigits_48 : decode b_Scanner_takeDigits 48 = .ok (.invokevirtual 68, 3) := by decide +kernel
theorem d_Scanner_takeDigits_51 : decode b_Scanner_takeDigits 51 = .ok (.bipush 46, 2) := by decide +kernel
theorem d_Scanner_takeDigits_53 : decode b_Scanner_takeDigits 53 = .ok (.if_icmp .ne 22, 3) := by decide +kernel
theorem d_Scanner_takeDigits_56 : decode b_Scanner_takeDigits 56 = .ok (.iload_n 3, 1) := by decide +kernel
theorem d_Scanner_takeDigits_57 : decode b_Scanner_takeDigits 57 = .ok (.ifCond .eq 18, 3) := by decide +kernel
theorem d_Scanner_takeDigits_60 : decode b_Scanner_takeDigits 60 = .ok (.aload_n 0, 1) := by decide +kernel
theorem d_Scanner_takeDigits_61 : decode b_Scanner_takeDigits 61 = .ok (.getfield 150, 3) := by decide +kernel
theorem d_Scanner_takeDigits_64 : decode b_Scanner_takeDigits 64 = .ok (.ifCond .ne 11, 3) := by decide +kernel
theorem d_Scanner_takeDigits_67 : decode b_Scanner_takeDigits 67 = .ok (.aload_n 0, 1) := by decide +kernel
theorem d_Scanner_takeDigits_68 : decode b_Scanner_takeDigits 68 = .ok (.iconst 1, 1) := by decide +kernel
theorem d_Scanner_takeDigits_69 : decode b_Scanner_takeDigits 69 = .ok (.putfield 150, 3) := by decide +kernel
theorem d_Scanner_takeDigits_72 : decode b_Scanner_takeDigits 72 = .ok (.goto 48, 3) := by decide +kernel
theorem d_Scanner_takeDigits_75 : decode b_Scanner_takeDigits 75 = .ok (.iload 7, 2) := by decide +kernel
theorem d_Scanner_takeDigits_77 : decode b_Scanner_takeDigits 77 = .ok (.iload_n 2, 1) := by decide +kernel
theorem d_Scanner_takeDigits_78 : decode b_Scanner_takeDigits 78 = .ok (.if_icmp .ge 76, 3) := by decide +kernel
theorem d_Scanner_takeDigits_81 : decode b_Scanner_takeDigits 81 = .ok (.iinc 4 1, 3) := by decide +kernel
theorem d_Scanner_takeDigits_84 : decode b_Scanner_takeDigits 84 = .ok (.aload_n 0, 1) := by decide +kernel
theorem d_Scanner_takeDigits_85 : decode b_Scanner_takeDigits 85 = .ok (.dup, 1) := by decide +kernel
theorem d_Scanner_takeDigits_86 : decode b_Scanner_takeDigits 86 = .ok (.getfield 144, 3) := by decide +kernel
theorem d_Scanner_takeDigits_89 : decode b_Scanner_takeDigits 89 = .ok (.aload_n 0, 1) := by decide +kernel
theorem d_Scanner_takeDigits_90 : decode b_Scanner_takeDigits 90 = .ok (.getfield 150, 3) := by decide +kernel
theorem d_Scanner_takeDigits_93 : decode b_Scanner_takeDigits 93 = .ok (.ifCond .eq 7, 3) := by decide +kernel
theorem d_Scanner_takeDigits_96 : decode b_Scanner_takeDigits 96 = .ok (.iconst 1, 1) := by decide +kernel
theorem d_Scanner_takeDigits_97 : decode b_Scanner_takeDigits 97 = .ok (.goto 4, 3) := by decide +kernel
theorem d_Scanner_takeDigits_100 : decode b_Scanner_takeDigits 100 = .ok (.iconst 0, 1) := by decide +kernel
theorem d_Scanner_takeDigits_101 : decode b_Scanner_takeDigits 101 = .ok (.iadd, 1) := by decide +kernel
theorem d_Scanner_takeDigits_102 : decode b_Scanner_takeDigits 102 = .ok (.putfield 144, 3) := by decide +kernel
theorem d_Scanner_takeDigits_105 : decode b_Scanner_takeDigits 105 = .ok (.iload 5, 2) := by decide +kernel
theorem d_Scanner_takeDigits_107 : decode b_Scanner_takeDigits 107 = .ok (.iload_n 2, 1) := by decide +kernel
theorem d_Scanner_takeDigits_108 : decode b_Scanner_takeDigits 108 = .ok (.imul, 1) := by decide +kernel
theorem d_Scanner_takeDigits_109 : decode b_Scanner_takeDigits 109 = .ok (.istore 5, 2) := by decide +kernel
theorem d_Scanner_takeDigits_111 : decode b_Scanner_takeDigits 111 = .ok (.iload 6, 2) := by decide +kernel
theorem d_Scanner_takeDigits_113 : decode b_Scanner_takeDigits 113 = .ok (.iload_n 2, 1) := by decide +kernel
theorem d_Scanner_takeDigits_114 : decode b_Scanner_takeDigits 114 = .ok (.imul, 1) := by decide +kernel
theorem d_Scanner_takeDigits_115 : decode b_Scanner_takeDigits 115 = .ok (.iload 7, 2) := by decide +kernel
theorem d_Scanner_takeDigits_117 : decode b_Scanner_takeDigits 117 = .ok (.iadd, 1) := by decide +kernel
theorem d_Scanner_takeDigits_118 : decode b_Scanner_takeDigits 118 = .ok (.istore 6, 2) := by decide +kernel
theorem d_Scanner_takeDigits_120 : decode b_Scanner_takeDigits 120 = .ok (.iload 5, 2) := by decide +kernel
theorem d_Scanner_takeDigits_122 : decode b_Scanner_takeDigits 122 = .ok (.ldc 184, 2) := by decide +kernel
theorem d_Scanner_takeDigits_124 : decode b_Scanner_takeDigits 124 = .ok (.if_icmp .lt 17, 3) := by decide +kernel
theorem d_Scanner_takeDigits_127 : decode b_Scanner_takeDigits 127 = .ok (.aload_n 1, 1) := by decide +kernel
theorem d_Scanner_takeDigits_128 : decode b_Scanner_takeDigits 128 = .ok (.iload 5, 2) := by decide +kernel
theorem d_Scanner_takeDigits_130 : decode b_Scanner_takeDigits 130 = .ok (.iload 6, 2) := by decide +kernel
theorem d_Scanner_takeDigits_132 : decode b_Scanner_takeDigits 132 = .ok (.invokevirtual 165, 3) := by decide +kernel
theorem d_Scanner_takeDigits_135 : decode b_Scanner_takeDigits 135 = .ok (.iconst 1, 1) := by decide +kernel
theorem d_Scanner_takeDigits_136 : decode b_Scanner_takeDigits 136 = .ok (.istore 5, 2) := by decide +kernel
theorem d_Scanner_takeDigits_138 : decode b_Scanner_takeDigits 138 = .ok (.iconst 0, 1) := by decide +kernel
theorem d_Scanner_takeDigits_139 : decode b_Scanner_takeDigits 139 = .ok (.istore 6, 2) := by decide +kernel
theorem d_Scanner_takeDigits_141 : decode b_Scanner_takeDigits 141 = .ok (.aload_n 0, 1) := by decide +kernel
theorem d_Scanner_takeDigits_142 : decode b_Scanner_takeDigits 142 = .ok (.dup, 1) := by decide +kernel
theorem d_Scanner_takeDigits_143 : decode b_Scanner_takeDigits 143 = .ok (.getfield 53, 3) := by decide +kernel
theorem d_Scanner_takeDigits_146 : decode b_Scanner_takeDigits 146 = .ok (.iconst 1, 1) := by decide +kernel
theorem d_Scanner_takeDigits_147 : decode b_Scanner_takeDigits 147 = .ok (.iadd, 1) := by decide +kernel
theorem d_Scanner_takeDigits_148 : decode b_Scanner_takeDigits 148 = .ok (.putfield 53, 3) := by decide +kernel
theorem d_Scanner_takeDigits_151 : decode b_Scanner_takeDigits 151 = .ok (.goto (-127), 3) := by decide +kernel
theorem d_Scanner_takeDigits_154 : decode b_Scanner_takeDigits 154 = .ok (.aload_n 1, 1) := by decide +kernel
theorem d_Scanner_takeDigits_155 : decode b_Scanner_takeDigits 155 = .ok (.iload 5, 2) := by decide +kernel
theorem d_Scanner_takeDigits_157 : decode b_Scanner_takeDigits 157 = .ok (.iload 6, 2) := by decide +kernel
theorem d_Scanner_takeDigits_159 : decode b_Scanner_takeDigits 159 = .ok (.invokevirtual 165, 3) := by decide +kernel
theorem d_Scanner_takeDigits_162 : decode b_Scanner_takeDigits 162 = .ok (.iload 4, 2) := by decide +kernel
theorem d_Scanner_takeDigits_164 : decode b_Scanner_takeDigits 164 = .ok (.ifCond .le 7, 3) := by decide +kernel
theorem d_Scanner_takeDigits_167 : decode b_Scanner_takeDigits 167 = .ok (.iconst 1, 1) := by decide +kernel
theorem d_Scanner_takeDigits_168 : decode b_Scanner_takeDigits 168 = .ok (.goto 4, 3) := by decide +kernel
theorem d_Scanner_takeDigits_171 : decode b_Scanner_takeDigits 171 = .ok (.iconst 0, 1) := by decide +kernel
theorem d_Scanner_takeDigits_172 : decode b_Scanner_takeDigits 172 = .ok (.ireturn, 1) := by decide +kernel
theorem fl_Scanner_141 : FLink TB classes "IntervalText$Scanner" 141 R_Scanner F_Scanner 12 4 10 := ⟨rfl, by decide, i_Scanner, tb_t (List.mem_append_left _ (List.mem_of_getElem? (l := tables_1_1) (i := 137) rfl)) rfl⟩
theorem fl_Scanner_144 : FLink TB classes "IntervalText$Scanner" 144 R_Scanner F_Scanner 12 4 9 := ⟨rfl, by decide, i_Scanner, tb_t (List.mem_append_left _ (List.mem_of_getElem? (l := tables_1_1) (i := 136) rfl)) rfl⟩
theorem fl_Scanner_150 : FLink TB classes "IntervalText$Scanner" 150 R_Scanner F_Scanner 12 4 11 := ⟨rfl, by decide, i_Scanner, tb_t (List.mem_append_left _ (List.mem_of_getElem? (l := tables_1_1) (i := 138) rfl)) rfl⟩
theorem fp_Scanner_9 : FPut R_Scanner F_Scanner 12 9 .int false := ⟨e_Scanner, n_Scanner, rfl, by decide +kernel⟩
theorem fp_Scanner_10 : FPut R_Scanner F_Scanner 12 10 .int false := ⟨e_Scanner, n_Scanner, rfl, by decide +kernel⟩
theorem fp_Scanner_11 : FPut R_Scanner F_Scanner 12 11 .boolean false := ⟨e_Scanner, n_Scanner, rfl, by decide +kernel⟩
theorem tw_Scanner_constant_184 : Cond.constant "IntervalText$Scanner" 184 (67108864 : Int32) ∈ TB := tb_t (List.mem_append_right _ (List.mem_append_left _ (List.mem_of_getElem? (l := tables_1_2) (i := 99) rfl))) rfl
theorem cl_Scanner_181 : CLinkS TB "IntervalText$Scanner" 181 y_Scanner_digitOf b_Scanner_digitOf 1 (some .int) 1 := ⟨⟨tb_t (List.mem_append_right _ (List.mem_append_left _ (List.mem_of_getElem? (l := tables_1_2) (i := 96) rfl))) rfl, tb_t (List.mem_append_left _ (List.mem_of_getElem? (l := tables_1_1) (i := 5) rfl)) rfl, tb_t (List.mem_append_right _ (List.mem_append_left _ (List.mem_of_getElem? (l := tables_1_2) (i := 98) rfl))) rfl, by decide +kernel, by decide +kernel, by decide +kernel⟩, tb_t (List.mem_append_right _ (List.mem_append_left _ (List.mem_of_getElem? (l := tables_1_2) (i := 97) rfl))) rfl⟩
theorem cl_Scanner_121 : CLinkV TB "IntervalText$Scanner" 121 "IntervalText$Scanner" y_Scanner_takeSign b_Scanner_takeSign 2 (some .boolean) 0 := ⟨⟨tb_t (List.mem_append_right _ (List.mem_append_left _ (List.mem_of_getElem? (l := tables_1_2) (i := 82) rfl))) rfl, tb_t (List.mem_append_left _ (List.mem_of_getElem? (l := tables_1_1) (i := 5) rfl)) rfl, tb_t (List.mem_append_right _ (List.mem_append_left _ (List.mem_of_getElem? (l := tables_1_2) (i := 85) rfl))) rfl, by decide +kernel, by decide +kernel, by decide +kernel⟩, tb_t (List.mem_append_right _ (List.mem_append_left _ (List.mem_of_getElem? (l := tables_1_2) (i := 84) rfl))) rfl, tb_p 7 rfl⟩
theorem cl_Scanner_165 : CLinkV TB "IntervalText$Scanner" 165 "IntervalText$Natural" y_Natural_timesPlus b_Natural_timesPlus 6 none 2 := ⟨⟨tb_t (List.mem_append_right _ (List.mem_append_left _ (List.mem_of_getElem? (l := tables_1_2) (i := 100) rfl))) rfl, tb_t (List.mem_append_left _ (List.mem_of_getElem? (l := tables_1_1) (i := 4) rfl)) rfl, tb_t (List.mem_append_right _ (List.mem_append_left _ (List.mem_of_getElem? (l := tables_1_2) (i := 103) rfl))) rfl, by decide +kernel, by decide +kernel, by decide +kernel⟩, tb_t (List.mem_append_right _ (List.mem_append_left _ (List.mem_of_getElem? (l := tables_1_2) (i := 101) rfl))) rfl, tb_t (List.mem_append_right _ (List.mem_append_left _ (List.mem_of_getElem? (l := tables_1_2) (i := 102) rfl))) rfl⟩
theorem cl_Scanner_169 : CLinkV TB "IntervalText$Scanner" 169 "IntervalText$Natural" y_Natural_set b_Natural_set 5 none 1 := ⟨⟨tb_t (List.mem_append_right _ (List.mem_append_left _ (List.mem_of_getElem? (l := tables_1_2) (i := 95) rfl))) rfl, tb_t (List.mem_append_left _ (List.mem_of_getElem? (l := tables_1_1) (i := 4) rfl)) rfl, tb_t (List.mem_append_left _ (List.mem_of_getElem? (l := tables_1_1) (i := 96) rfl)) rfl, by decide +kernel, by decide +kernel, by decide +kernel⟩, tb_t (List.mem_append_left _ (List.mem_of_getElem? (l := tables_1_1) (i := 94) rfl)) rfl, tb_t (List.mem_append_left _ (List.mem_of_getElem? (l := tables_1_1) (i := 95) rfl)) rfl⟩
set_option maxHeartbeats 4000000 in
set_option maxRecDepth 100000 in
theorem c_Scanner_takeExponent (l : Launch) (D : va_G) (E : EVt) (h : Nat) (tp : Nat) (ar : Nat) (f1 : Nat) (f2 : Nat) (rd : Nat) (em : Bool) (ob : Bool) (oa : Bool) (pos : Int) (fr : Int) (ex : Int) (hp : Bool) (ta : Nat) (t : Int → Int) (n : Int) (le : Int) (mo : Int) (mm : Bool) (hn : 0 ≤ n ∧ n ≤ 400) (hT : Tx t n) (hpos : 0 ≤ pos ∧ pos ≤ n) (hle : 0 ≤ le ∧ le < 65536) (hmo : 0 ≤ mo ∧ mo ≤ 4) : CT l D classes (tyl E) (EVX E) y_Scanner_takeExponent (Cond.code y_Scanner_takeExponent b_Scanner_takeExponent 6 (some .boolean) :: TB) (rmK 3 0 0 62) 0 0 [.ref h, .int (iI le), .int (iI mo), .int (bI mm)] [(h, .inr (4, [.ref tp, .ref ar, .ref f1, .ref f2, .ref rd, .int (bI em), .int (bI ob), .int (bI oa), .int (iI pos), .int (iI fr), .int (iI ex), .int (bI hp)])), (tp, .inr (3, [.ref ta, .int (iI n)])), (ta, .inl (E.2.1, 400, .inl (ia t)))] (S := Int × Int × Bool) (fun u => [(h, .inr (4, [.ref tp, .ref ar, .ref f1, .ref f2, .ref rd, .int (bI em), .int (bI ob), .int (bI oa), .int (iI u.1), .int (iI fr), .int (iI u.2.1), .int (bI hp)])), (tp, .inr (3, [.ref ta, .int (iI n)])), (ta, .inl (E.2.1, 400, .inl (ia t)))]) (fun u => some (.int (bI u.2.2))) (fun u => (u.2.2 = (EXP t n le (Int.toNat mo) mm pos).1) ∧ (u.1 = (EXP t n le (Int.toNat mo) mm pos).2.1) ∧ (u.2.1 = (EXP t n le (Int.toNat mo) mm pos).2.2) ∧ (pos ≤ u.1 ∧ u.1 ≤ n) ∧ (-10000 < u.2.1 ∧ u.2.1 < 10000)) := by
  refine CT.ofz (fv := fun (u : Int × Int × Bool) => u.2.2) (eok E) (by decide) rfl (Nat.le_of_ble_eq_true rfl) ?_
  intro p e s m args below meth c A Q ls B hmn hP hD hS hl ret
  have B : Bd l D classes (tyl E) (EVX E) p m c b_Scanner_takeExponent 6 s args (Cond.code y_Scanner_takeExponent b_Scanner_takeExponent 6 (some .boolean) :: TB) R_Scanner A := B
  obtain ⟨⟨hx, hb, hml, hown, hts⟩, hX, hK, hE, hA⟩ := id B
  have hl : lv_has ls 6 [(0, .ref h), (1, .int (iI le)), (2, .int (iI mo)), (3, .int (bI mm))] := hl
  have hP : va_P D classes [(h, .inr (4, [.ref tp, .ref ar, .ref f1, .ref f2, .ref rd, .int (bI em), .int (bI ob), .int (bI oa), .int (iI pos), .int (iI fr), .int (iI ex), .int (bI hp)])), (tp, .inr (3, [.ref ta, .int (iI n)])), (ta, .inl (E.2.1, 400, .inl (ia t)))] s.heap := hP
  have hD : va_D A [(h, .inr (4, [.ref tp, .ref ar, .ref f1, .ref f2, .ref rd, .int (bI em), .int (bI ob), .int (bI oa), .int (iI pos), .int (iI fr), .int (iI ex), .int (bI hp)])), (tp, .inr (3, [.ref ta, .int (iI n)])), (ta, .inl (E.2.1, 400, .inl (ia t)))] := hD
  have hrr := rat_rng hT pos
  have hEr := EXP_rng (t := t) (n := n) (letter := le) (most := (Int.toNat mo)) (mm := mm) hpos (by omega) (by omega)
  have K_34 : ∀ (fuel34 : Nat) (p1 : Int) (x : Int) (k : Int) (hp1 : 0 ≤ p1 ∧ p1 ≤ n) (hlt : rat t n pos = le) (hk : 0 ≤ k ∧ k ≤ mo) (hE0 : exL t n (Int.toNat mo) (sgP t n (pos + 1)) 0 0 = exL t n (mo - k).toNat p1 x k) (hf34 : mo - k < (fuel34 : Int)) (ls : Array Slot) (H : Heap) (locs : List Loc), lv_has ls 6 [(0, .ref h), (1, .int (iI le)), (2, .int (iI mo)), (3, .int (bI mm)), (4, .int (bI (sgN t n (pos + 1)))), (5, .int (iI k))] → va_P D classes [(h, .inr (4, [.ref tp, .ref ar, .ref f1, .ref f2, .ref rd, .int (bI em), .int (bI ob), .int (bI oa), .int (iI p1), .int (iI fr), .int (iI x), .int (bI hp)])), (tp, .inr (3, [.ref ta, .int (iI n)])), (ta, .inl (E.2.1, 400, .inl (ia t)))] H → va_D A [(h, .inr (4, [.ref tp, .ref ar, .ref f1, .ref f2, .ref rd, .int (bI em), .int (bI ob), .int (bI oa), .int (iI p1), .int (iI fr), .int (iI x), .int (bI hp)])), (tp, .inr (3, [.ref ta, .int (iI n)])), (ta, .inl (E.2.1, 400, .inl (ia t)))] → va_S A s.heap H locs → W p l e (rmK 3 0 0 62) s m args below meth c H locs 0 0 Q (F0 m 34 ls []) := by
    intro fuel34
    induction fuel34 with
    | zero =>
      intro p1 x k hp1 hlt hk hE0 hf34 ls H locs hl hP hD hS
      exfalso; omega
    | succ fuel34 ih34 =>
      intro p1 x k hp1 hlt hk hE0 hf34 ls H locs hl hP hD hS
      have hrp := rat_rng hT p1
      have hdr := dig_rng (rat t n p1)
      refine lv_iload hx hb d_Scanner_takeExponent_34 (lv_at hl 5 rfl) ?_
      refine lv_iload_n hx hb d_Scanner_takeExponent_36 rfl (lv_at hl 2 rfl) ?_
      refine wi_icmp_ge (tgt := 87) hx hb d_Scanner_takeExponent_37 (by decide) (by omega) (by omega) (fun c_1 => ?_) (fun c_1 => ?_)
      · skip
        have hEO := EXP_of (mm := mm) hlt (hE0.trans (exL_e (by omega)))
        rw [hEO] at hEr
        refine lv_aload_n hx hb d_Scanner_takeExponent_87 rfl (lv_at hl 0 rfl) ?_
        refine lv_iload hx hb d_Scanner_takeExponent_88 (lv_at hl 4 rfl) ?_
        refine wb_if_eq (tgt := 101) hx hb d_Scanner_takeExponent_90 (by decide) (fun c_2 => ?_) (fun c_2 => ?_)
        · skip
          refine lv_aload_n hx hb d_Scanner_takeExponent_101 rfl (lv_at hl 0 rfl) ?_
          refine wk_get B hP 0 rfl fl_Scanner_141 (v := .int (iI x)) rfl d_Scanner_takeExponent_102 ?_
          refine wk_put B hP hD hS 0 rfl fl_Scanner_141 fp_Scanner_10 (v := .int (iI x)) rfl rfl (Nat.le_of_ble_eq_true rfl) d_Scanner_takeExponent_105 (fun H locs hP hD hS => ?_)
          have hP : va_P D classes [(h, .inr (4, [.ref tp, .ref ar, .ref f1, .ref f2, .ref rd, .int (bI em), .int (bI ob), .int (bI oa), .int (iI p1), .int (iI fr), .int (iI x), .int (bI hp)])), (tp, .inr (3, [.ref ta, .int (iI n)])), (ta, .inl (E.2.1, 400, .inl (ia t)))] H := hP
          have hD : va_D A [(h, .inr (4, [.ref tp, .ref ar, .ref f1, .ref f2, .ref rd, .int (bI em), .int (bI ob), .int (bI oa), .int (iI p1), .int (iI fr), .int (iI x), .int (bI hp)])), (tp, .inr (3, [.ref ta, .int (iI n)])), (ta, .inl (E.2.1, 400, .inl (ia t)))] := hD
          refine lv_iload hx hb d_Scanner_takeExponent_108 (lv_at hl 5 rfl) ?_
          refine wi_if_le (tgt := 117) hx hb d_Scanner_takeExponent_110 (by decide) (by omega) (fun c_3 => ?_) (fun c_3 => ?_)
          · skip
            refine wi_iconst (n := 0) hx hb d_Scanner_takeExponent_117 ?_
            refine w_as0 ?_
            exact ret (p1, x, false) _ _ _ _ d_Scanner_takeExponent_118 (show (false = (EXP t n le (Int.toNat mo) mm pos).1) ∧ (p1 = (EXP t n le (Int.toNat mo) mm pos).2.1) ∧ (x = (EXP t n le (Int.toNat mo) mm pos).2.2) ∧ (pos ≤ p1 ∧ p1 ≤ n) ∧ (-10000 < x ∧ x < 10000) from ⟨by rw [hEO, decide_eq_false (by omega)], by rw [hEO], by rw [hEO, c_2]; rfl, ⟨hEr.1, hEr.2.1⟩, by have h1 := hEr.2.2.1; have h2 := hEr.2.2.2; rw [c_2] at h1 h2; exact ⟨h1, h2⟩⟩) (hP.sub [0, 1, 2] rfl) (hD.sub [0, 1, 2] (by decide) rfl) hS
          · skip
            refine wi_iconst (n := 1) hx hb d_Scanner_takeExponent_113 ?_
            refine lv_goto (tgt := 118) hx hb d_Scanner_takeExponent_114 (by decide) ?_
            refine w_as1 ?_
            exact ret (p1, x, true) _ _ _ _ d_Scanner_takeExponent_118 (show (true = (EXP t n le (Int.toNat mo) mm pos).1) ∧ (p1 = (EXP t n le (Int.toNat mo) mm pos).2.1) ∧ (x = (EXP t n le (Int.toNat mo) mm pos).2.2) ∧ (pos ≤ p1 ∧ p1 ≤ n) ∧ (-10000 < x ∧ x < 10000) from ⟨by rw [hEO, decide_eq_true (by omega)], by rw [hEO], by rw [hEO, c_2]; rfl, ⟨hEr.1, hEr.2.1⟩, by have h1 := hEr.2.2.1; have h2 := hEr.2.2.2; rw [c_2] at h1 h2; exact ⟨h1, h2⟩⟩) (hP.sub [0, 1, 2] rfl) (hD.sub [0, 1, 2] (by decide) rfl) hS
        · skip
          refine lv_aload_n hx hb d_Scanner_takeExponent_93 rfl (lv_at hl 0 rfl) ?_
          refine wk_get B hP 0 rfl fl_Scanner_141 (v := .int (iI x)) rfl d_Scanner_takeExponent_94 ?_
          refine wi_ineg hx hb d_Scanner_takeExponent_97 ?_
          refine lv_goto (tgt := 105) hx hb d_Scanner_takeExponent_98 (by decide) ?_
          refine wk_put B hP hD hS 0 rfl fl_Scanner_141 fp_Scanner_10 (v := .int (iI (-x))) rfl rfl (Nat.le_of_ble_eq_true rfl) d_Scanner_takeExponent_105 (fun H locs hP hD hS => ?_)
          have hP : va_P D classes [(h, .inr (4, [.ref tp, .ref ar, .ref f1, .ref f2, .ref rd, .int (bI em), .int (bI ob), .int (bI oa), .int (iI p1), .int (iI fr), .int (iI (-x)), .int (bI hp)])), (tp, .inr (3, [.ref ta, .int (iI n)])), (ta, .inl (E.2.1, 400, .inl (ia t)))] H := hP
          have hD : va_D A [(h, .inr (4, [.ref tp, .ref ar, .ref f1, .ref f2, .ref rd, .int (bI em), .int (bI ob), .int (bI oa), .int (iI p1), .int (iI fr), .int (iI (-x)), .int (bI hp)])), (tp, .inr (3, [.ref ta, .int (iI n)])), (ta, .inl (E.2.1, 400, .inl (ia t)))] := hD
          refine lv_iload hx hb d_Scanner_takeExponent_108 (lv_at hl 5 rfl) ?_
          refine wi_if_le (tgt := 117) hx hb d_Scanner_takeExponent_110 (by decide) (by omega) (fun c_4 => ?_) (fun c_4 => ?_)
          · skip
            refine wi_iconst (n := 0) hx hb d_Scanner_takeExponent_117 ?_
            refine w_as0 ?_
            exact ret (p1, -x, false) _ _ _ _ d_Scanner_takeExponent_118 (show (false = (EXP t n le (Int.toNat mo) mm pos).1) ∧ (p1 = (EXP t n le (Int.toNat mo) mm pos).2.1) ∧ ((-x) = (EXP t n le (Int.toNat mo) mm pos).2.2) ∧ (pos ≤ p1 ∧ p1 ≤ n) ∧ (-10000 < (-x) ∧ (-x) < 10000) from ⟨by rw [hEO, decide_eq_false (by omega)], by rw [hEO], by rw [hEO, c_2]; rfl, ⟨hEr.1, hEr.2.1⟩, by have h1 := hEr.2.2.1; have h2 := hEr.2.2.2; rw [c_2] at h1 h2; exact ⟨h1, h2⟩⟩) (hP.sub [0, 1, 2] rfl) (hD.sub [0, 1, 2] (by decide) rfl) hS
          · skip
            refine wi_iconst (n := 1) hx hb d_Scanner_takeExponent_113 ?_
            refine lv_goto (tgt := 118) hx hb d_Scanner_takeExponent_114 (by decide) ?_
            refine w_as1 ?_
            exact ret (p1, -x, true) _ _ _ _ d_Scanner_takeExponent_118 (show (true = (EXP t n le (Int.toNat mo) mm pos).1) ∧ (p1 = (EXP t n le (Int.toNat mo) mm pos).2.1) ∧ ((-x) = (EXP t n le (Int.toNat mo) mm pos).2.2) ∧ (pos ≤ p1 ∧ p1 ≤ n) ∧ (-10000 < (-x) ∧ (-x) < 10000) from ⟨by rw [hEO, decide_eq_true (by omega)], by rw [hEO], by rw [hEO, c_2]; rfl, ⟨hEr.1, hEr.2.1⟩, by have h1 := hEr.2.2.1; have h2 := hEr.2.2.2; rw [c_2] at h1 h2; exact ⟨h1, h2⟩⟩) (hP.sub [0, 1, 2] rfl) (hD.sub [0, 1, 2] (by decide) rfl) hS
      · skip
        refine lv_aload_n hx hb d_Scanner_takeExponent_40 rfl (lv_at hl 0 rfl) ?_
        refine wk_callV (As := []) (rest := []) (wr := []) B gTB cl_Scanner_68 (c_Scanner_peek l D E h tp ar f1 f2 rd em ob oa p1 fr x hp ta t n (by omega) (hT) (by omega)) ⟨⟨rfl, rfl⟩, Nat.le_of_ble_eq_true rfl, Nat.le_of_ble_eq_true rfl⟩ hP hD hS [0, 1, 2] [] rfl rfl (by decide) 0 rfl rfl rfl ⟨hl.2.1, hl.1⟩ rfl (Nat.le_of_ble_eq_true rfl) d_Scanner_takeExponent_41 ⟨Nat.le_of_ble_eq_true rfl, Nat.le_of_ble_eq_true rfl⟩ rfl (fun r_5 H locs hw hP hD hS => ?_)
        have hP : va_P D classes [(h, .inr (4, [.ref tp, .ref ar, .ref f1, .ref f2, .ref rd, .int (bI em), .int (bI ob), .int (bI oa), .int (iI p1), .int (iI fr), .int (iI x), .int (bI hp)])), (tp, .inr (3, [.ref ta, .int (iI n)])), (ta, .inl (E.2.1, 400, .inl (ia t)))] H := hP
        have hD : va_D A [(h, .inr (4, [.ref tp, .ref ar, .ref f1, .ref f2, .ref rd, .int (bI em), .int (bI ob), .int (bI oa), .int (iI p1), .int (iI fr), .int (iI x), .int (bI hp)])), (tp, .inr (3, [.ref ta, .int (iI n)])), (ta, .inl (E.2.1, 400, .inl (ia t)))] := hD
        have hw : (r_5 = rat t n p1) := hw
        have hr_6 := hw
        refine W.cs (g := F0 m 44 ls [.int (iI r_5)]) (cells' := 0) (slots' := 0) rfl rfl ?_
        subst hr_6
        refine wk_callS (As := [.int (iI (rat t n p1))]) (rest := []) (wr := [(h, .inr (4, [.ref tp, .ref ar, .ref f1, .ref f2, .ref rd, .int (bI em), .int (bI ob), .int (bI oa), .int (iI p1), .int (iI fr), .int (iI x), .int (bI hp)])), (tp, .inr (3, [.ref ta, .int (iI n)])), (ta, .inl (E.2.1, 400, .inl (ia t)))]) B gTB cl_Scanner_181 (c_Scanner_digitOf l D E (rat t n p1) (by omega)) ⟨⟨rfl, rfl⟩, Nat.le_of_ble_eq_true rfl, Nat.le_of_ble_eq_true rfl⟩ hP hD hS [] [0, 1, 2] rfl rfl (by decide) ⟨hl.2.1, hl.1⟩ rfl (Nat.le_of_ble_eq_true rfl) d_Scanner_takeExponent_44 ⟨Nat.le_of_ble_eq_true rfl, Nat.le_of_ble_eq_true rfl⟩ rfl (fun r_7 H locs hw hP hD hS => ?_)
        have hP : va_P D classes [(h, .inr (4, [.ref tp, .ref ar, .ref f1, .ref f2, .ref rd, .int (bI em), .int (bI ob), .int (bI oa), .int (iI p1), .int (iI fr), .int (iI x), .int (bI hp)])), (tp, .inr (3, [.ref ta, .int (iI n)])), (ta, .inl (E.2.1, 400, .inl (ia t)))] H := hP
        have hD : va_D A [(h, .inr (4, [.ref tp, .ref ar, .ref f1, .ref f2, .ref rd, .int (bI em), .int (bI ob), .int (bI oa), .int (iI p1), .int (iI fr), .int (iI x), .int (bI hp)])), (tp, .inr (3, [.ref ta, .int (iI n)])), (ta, .inl (E.2.1, 400, .inl (ia t)))] := hD
        have hw : (r_7 = dig (rat t n p1)) := hw
        have hr_8 := hw
        refine W.cs (g := F0 m 47 ls [.int (iI r_7)]) (cells' := 0) (slots' := 0) rfl rfl ?_
        subst hr_8
        refine wi_bipush hx hb d_Scanner_takeExponent_47 (by decide) ?_
        refine wi_icmp_ge (tgt := 87) hx hb d_Scanner_takeExponent_49 (by decide) (by omega) (by omega) (fun c_9 => ?_) (fun c_9 => ?_)
        · skip
          have hEO := EXP_of (mm := mm) hlt (hE0.trans (exL_e (by omega)))
          rw [hEO] at hEr
          refine lv_aload_n hx hb d_Scanner_takeExponent_87 rfl (lv_at hl 0 rfl) ?_
          refine lv_iload hx hb d_Scanner_takeExponent_88 (lv_at hl 4 rfl) ?_
          refine wb_if_eq (tgt := 101) hx hb d_Scanner_takeExponent_90 (by decide) (fun c_10 => ?_) (fun c_10 => ?_)
          · skip
            refine lv_aload_n hx hb d_Scanner_takeExponent_101 rfl (lv_at hl 0 rfl) ?_
            refine wk_get B hP 0 rfl fl_Scanner_141 (v := .int (iI x)) rfl d_Scanner_takeExponent_102 ?_
            refine wk_put B hP hD hS 0 rfl fl_Scanner_141 fp_Scanner_10 (v := .int (iI x)) rfl rfl (Nat.le_of_ble_eq_true rfl) d_Scanner_takeExponent_105 (fun H locs hP hD hS => ?_)
            have hP : va_P D classes [(h, .inr (4, [.ref tp, .ref ar, .ref f1, .ref f2, .ref rd, .int (bI em), .int (bI ob), .int (bI oa), .int (iI p1), .int (iI fr), .int (iI x), .int (bI hp)])), (tp, .inr (3, [.ref ta, .int (iI n)])), (ta, .inl (E.2.1, 400, .inl (ia t)))] H := hP
            have hD : va_D A [(h, .inr (4, [.ref tp, .ref ar, .ref f1, .ref f2, .ref rd, .int (bI em), .int (bI ob), .int (bI oa), .int (iI p1), .int (iI fr), .int (iI x), .int (bI hp)])), (tp, .inr (3, [.ref ta, .int (iI n)])), (ta, .inl (E.2.1, 400, .inl (ia t)))] := hD
            refine lv_iload hx hb d_Scanner_takeExponent_108 (lv_at hl 5 rfl) ?_
            refine wi_if_le (tgt := 117) hx hb d_Scanner_takeExponent_110 (by decide) (by omega) (fun c_11 => ?_) (fun c_11 => ?_)
            · skip
              refine wi_iconst (n := 0) hx hb d_Scanner_takeExponent_117 ?_
              refine w_as0 ?_
              exact ret (p1, x, false) _ _ _ _ d_Scanner_takeExponent_118 (show (false = (EXP t n le (Int.toNat mo) mm pos).1) ∧ (p1 = (EXP t n le (Int.toNat mo) mm pos).2.1) ∧ (x = (EXP t n le (Int.toNat mo) mm pos).2.2) ∧ (pos ≤ p1 ∧ p1 ≤ n) ∧ (-10000 < x ∧ x < 10000) from ⟨by rw [hEO, decide_eq_false (by omega)], by rw [hEO], by rw [hEO, c_10]; rfl, ⟨hEr.1, hEr.2.1⟩, by have h1 := hEr.2.2.1; have h2 := hEr.2.2.2; rw [c_10] at h1 h2; exact ⟨h1, h2⟩⟩) (hP.sub [0, 1, 2] rfl) (hD.sub [0, 1, 2] (by decide) rfl) hS
            · skip
              refine wi_iconst (n := 1) hx hb d_Scanner_takeExponent_113 ?_
              refine lv_goto (tgt := 118) hx hb d_Scanner_takeExponent_114 (by decide) ?_
              refine w_as1 ?_
              exact ret (p1, x, true) _ _ _ _ d_Scanner_takeExponent_118 (show (true = (EXP t n le (Int.toNat mo) mm pos).1) ∧ (p1 = (EXP t n le (Int.toNat mo) mm pos).2.1) ∧ (x = (EXP t n le (Int.toNat mo) mm pos).2.2) ∧ (pos ≤ p1 ∧ p1 ≤ n) ∧ (-10000 < x ∧ x < 10000) from ⟨by rw [hEO, decide_eq_true (by omega)], by rw [hEO], by rw [hEO, c_10]; rfl, ⟨hEr.1, hEr.2.1⟩, by have h1 := hEr.2.2.1; have h2 := hEr.2.2.2; rw [c_10] at h1 h2; exact ⟨h1, h2⟩⟩) (hP.sub [0, 1, 2] rfl) (hD.sub [0, 1, 2] (by decide) rfl) hS
          · skip
            refine lv_aload_n hx hb d_Scanner_takeExponent_93 rfl (lv_at hl 0 rfl) ?_
            refine wk_get B hP 0 rfl fl_Scanner_141 (v := .int (iI x)) rfl d_Scanner_takeExponent_94 ?_
            refine wi_ineg hx hb d_Scanner_takeExponent_97 ?_
            refine lv_goto (tgt := 105) hx hb d_Scanner_takeExponent_98 (by decide) ?_
            refine wk_put B hP hD hS 0 rfl fl_Scanner_141 fp_Scanner_10 (v := .int (iI (-x))) rfl rfl (Nat.le_of_ble_eq_true rfl) d_Scanner_takeExponent_105 (fun H locs hP hD hS => ?_)
            have hP : va_P D classes [(h, .inr (4, [.ref tp, .ref ar, .ref f1, .ref f2, .ref rd, .int (bI em), .int (bI ob), .int (bI oa), .int (iI p1), .int (iI fr), .int (iI (-x)), .int (bI hp)])), (tp, .inr (3, [.ref ta, .int (iI n)])), (ta, .inl (E.2.1, 400, .inl (ia t)))] H := hP
            have hD : va_D A [(h, .inr (4, [.ref tp, .ref ar, .ref f1, .ref f2, .ref rd, .int (bI em), .int (bI ob), .int (bI oa), .int (iI p1), .int (iI fr), .int (iI (-x)), .int (bI hp)])), (tp, .inr (3, [.ref ta, .int (iI n)])), (ta, .inl (E.2.1, 400, .inl (ia t)))] := hD
            refine lv_iload hx hb d_Scanner_takeExponent_108 (lv_at hl 5 rfl) ?_
            refine wi_if_le (tgt := 117) hx hb d_Scanner_takeExponent_110 (by decide) (by omega) (fun c_12 => ?_) (fun c_12 => ?_)
            · skip
              refine wi_iconst (n := 0) hx hb d_Scanner_takeExponent_117 ?_
              refine w_as0 ?_
              exact ret (p1, -x, false) _ _ _ _ d_Scanner_takeExponent_118 (show (false = (EXP t n le (Int.toNat mo) mm pos).1) ∧ (p1 = (EXP t n le (Int.toNat mo) mm pos).2.1) ∧ ((-x) = (EXP t n le (Int.toNat mo) mm pos).2.2) ∧ (pos ≤ p1 ∧ p1 ≤ n) ∧ (-10000 < (-x) ∧ (-x) < 10000) from ⟨by rw [hEO, decide_eq_false (by omega)], by rw [hEO], by rw [hEO, c_10]; rfl, ⟨hEr.1, hEr.2.1⟩, by have h1 := hEr.2.2.1; have h2 := hEr.2.2.2; rw [c_10] at h1 h2; exact ⟨h1, h2⟩⟩) (hP.sub [0, 1, 2] rfl) (hD.sub [0, 1, 2] (by decide) rfl) hS
            · skip
              refine wi_iconst (n := 1) hx hb d_Scanner_takeExponent_113 ?_
              refine lv_goto (tgt := 118) hx hb d_Scanner_takeExponent_114 (by decide) ?_
              refine w_as1 ?_
              exact ret (p1, -x, true) _ _ _ _ d_Scanner_takeExponent_118 (show (true = (EXP t n le (Int.toNat mo) mm pos).1) ∧ (p1 = (EXP t n le (Int.toNat mo) mm pos).2.1) ∧ ((-x) = (EXP t n le (Int.toNat mo) mm pos).2.2) ∧ (pos ≤ p1 ∧ p1 ≤ n) ∧ (-10000 < (-x) ∧ (-x) < 10000) from ⟨by rw [hEO, decide_eq_true (by omega)], by rw [hEO], by rw [hEO, c_10]; rfl, ⟨hEr.1, hEr.2.1⟩, by have h1 := hEr.2.2.1; have h2 := hEr.2.2.2; rw [c_10] at h1 h2; exact ⟨h1, h2⟩⟩) (hP.sub [0, 1, 2] rfl) (hD.sub [0, 1, 2] (by decide) rfl) hS
        · skip
          have hnp := rat_neg (t := t) (n := n) (i := p1) (by intro z; rw [z] at c_9; exact absurd c_9 (by decide))
          refine lv_aload_n hx hb d_Scanner_takeExponent_52 rfl (lv_at hl 0 rfl) ?_
          refine lv_aload_n hx hb d_Scanner_takeExponent_53 rfl (lv_at hl 0 rfl) ?_
          refine wk_get B hP 0 rfl fl_Scanner_141 (v := .int (iI x)) rfl d_Scanner_takeExponent_54 ?_
          refine wi_bipush hx hb d_Scanner_takeExponent_57 (by decide) ?_
          refine wi_imul hx hb d_Scanner_takeExponent_59 ?_
          refine lv_aload_n hx hb d_Scanner_takeExponent_60 rfl (lv_at hl 0 rfl) ?_
          refine wk_callV (As := []) (rest := [.int (iI (x * 10)), .ref h]) (wr := []) B gTB cl_Scanner_68 (c_Scanner_peek l D E h tp ar f1 f2 rd em ob oa p1 fr x hp ta t n (by omega) (hT) (by omega)) ⟨⟨rfl, rfl⟩, Nat.le_of_ble_eq_true rfl, Nat.le_of_ble_eq_true rfl⟩ hP hD hS [0, 1, 2] [] rfl rfl (by decide) 0 rfl rfl rfl ⟨hl.2.1, hl.1⟩ rfl (Nat.le_of_ble_eq_true rfl) d_Scanner_takeExponent_61 ⟨Nat.le_of_ble_eq_true rfl, Nat.le_of_ble_eq_true rfl⟩ rfl (fun r_13 H locs hw hP hD hS => ?_)
          have hP : va_P D classes [(h, .inr (4, [.ref tp, .ref ar, .ref f1, .ref f2, .ref rd, .int (bI em), .int (bI ob), .int (bI oa), .int (iI p1), .int (iI fr), .int (iI x), .int (bI hp)])), (tp, .inr (3, [.ref ta, .int (iI n)])), (ta, .inl (E.2.1, 400, .inl (ia t)))] H := hP
          have hD : va_D A [(h, .inr (4, [.ref tp, .ref ar, .ref f1, .ref f2, .ref rd, .int (bI em), .int (bI ob), .int (bI oa), .int (iI p1), .int (iI fr), .int (iI x), .int (bI hp)])), (tp, .inr (3, [.ref ta, .int (iI n)])), (ta, .inl (E.2.1, 400, .inl (ia t)))] := hD
          have hw : (r_13 = rat t n p1) := hw
          have hr_14 := hw
          refine W.cs (g := F0 m 64 ls [.int (iI r_13), .int (iI (x * 10)), .ref h]) (cells' := 0) (slots' := 0) rfl rfl ?_
          subst hr_14
          refine wk_callS (As := [.int (iI (rat t n p1))]) (rest := [.int (iI (x * 10)), .ref h]) (wr := [(h, .inr (4, [.ref tp, .ref ar, .ref f1, .ref f2, .ref rd, .int (bI em), .int (bI ob), .int (bI oa), .int (iI p1), .int (iI fr), .int (iI x), .int (bI hp)])), (tp, .inr (3, [.ref ta, .int (iI n)])), (ta, .inl (E.2.1, 400, .inl (ia t)))]) B gTB cl_Scanner_181 (c_Scanner_digitOf l D E (rat t n p1) (by omega)) ⟨⟨rfl, rfl⟩, Nat.le_of_ble_eq_true rfl, Nat.le_of_ble_eq_true rfl⟩ hP hD hS [] [0, 1, 2] rfl rfl (by decide) ⟨hl.2.1, hl.1⟩ rfl (Nat.le_of_ble_eq_true rfl) d_Scanner_takeExponent_64 ⟨Nat.le_of_ble_eq_true rfl, Nat.le_of_ble_eq_true rfl⟩ rfl (fun r_15 H locs hw hP hD hS => ?_)
          have hP : va_P D classes [(h, .inr (4, [.ref tp, .ref ar, .ref f1, .ref f2, .ref rd, .int (bI em), .int (bI ob), .int (bI oa), .int (iI p1), .int (iI fr), .int (iI x), .int (bI hp)])), (tp, .inr (3, [.ref ta, .int (iI n)])), (ta, .inl (E.2.1, 400, .inl (ia t)))] H := hP
          have hD : va_D A [(h, .inr (4, [.ref tp, .ref ar, .ref f1, .ref f2, .ref rd, .int (bI em), .int (bI ob), .int (bI oa), .int (iI p1), .int (iI fr), .int (iI x), .int (bI hp)])), (tp, .inr (3, [.ref ta, .int (iI n)])), (ta, .inl (E.2.1, 400, .inl (ia t)))] := hD
          have hw : (r_15 = dig (rat t n p1)) := hw
          have hr_16 := hw
          refine W.cs (g := F0 m 67 ls [.int (iI r_15), .int (iI (x * 10)), .ref h]) (cells' := 0) (slots' := 0) rfl rfl ?_
          subst hr_16
          refine wi_iadd hx hb d_Scanner_takeExponent_67 ?_
          refine wk_put B hP hD hS 0 rfl fl_Scanner_141 fp_Scanner_10 (v := .int (iI (x * 10 + (dig (rat t n p1))))) rfl rfl (Nat.le_of_ble_eq_true rfl) d_Scanner_takeExponent_68 (fun H locs hP hD hS => ?_)
          have hP : va_P D classes [(h, .inr (4, [.ref tp, .ref ar, .ref f1, .ref f2, .ref rd, .int (bI em), .int (bI ob), .int (bI oa), .int (iI p1), .int (iI fr), .int (iI (x * 10 + (dig (rat t n p1)))), .int (bI hp)])), (tp, .inr (3, [.ref ta, .int (iI n)])), (ta, .inl (E.2.1, 400, .inl (ia t)))] H := hP
          have hD : va_D A [(h, .inr (4, [.ref tp, .ref ar, .ref f1, .ref f2, .ref rd, .int (bI em), .int (bI ob), .int (bI oa), .int (iI p1), .int (iI fr), .int (iI (x * 10 + (dig (rat t n p1)))), .int (bI hp)])), (tp, .inr (3, [.ref ta, .int (iI n)])), (ta, .inl (E.2.1, 400, .inl (ia t)))] := hD
          refine lv_aload_n hx hb d_Scanner_takeExponent_71 rfl (lv_at hl 0 rfl) ?_
          refine lv_dup hx hb d_Scanner_takeExponent_72 rfl ?_
          refine wk_get B hP 0 rfl fl_Scanner_53 (v := .int (iI p1)) rfl d_Scanner_takeExponent_73 ?_
          refine wi_iconst (n := 1) hx hb d_Scanner_takeExponent_76 ?_
          refine wi_iadd hx hb d_Scanner_takeExponent_77 ?_
          refine wk_put B hP hD hS 0 rfl fl_Scanner_53 fp_Scanner_8 (v := .int (iI (p1 + 1))) rfl rfl (Nat.le_of_ble_eq_true rfl) d_Scanner_takeExponent_78 (fun H locs hP hD hS => ?_)
          have hP : va_P D classes [(h, .inr (4, [.ref tp, .ref ar, .ref f1, .ref f2, .ref rd, .int (bI em), .int (bI ob), .int (bI oa), .int (iI (p1 + 1)), .int (iI fr), .int (iI (x * 10 + (dig (rat t n p1)))), .int (bI hp)])), (tp, .inr (3, [.ref ta, .int (iI n)])), (ta, .inl (E.2.1, 400, .inl (ia t)))] H := hP
          have hD : va_D A [(h, .inr (4, [.ref tp, .ref ar, .ref f1, .ref f2, .ref rd, .int (bI em), .int (bI ob), .int (bI oa), .int (iI (p1 + 1)), .int (iI fr), .int (iI (x * 10 + (dig (rat t n p1)))), .int (bI hp)])), (tp, .inr (3, [.ref ta, .int (iI n)])), (ta, .inl (E.2.1, 400, .inl (ia t)))] := hD
          refine wi_iinc (v := k + 1) (lv' := [(5, .int (iI (k + 1))), (0, .ref h), (1, .int (iI le)), (2, .int (iI mo)), (3, .int (bI mm)), (4, .int (bI (sgN t n (pos + 1))))]) hx hb d_Scanner_takeExponent_81 hl (k := 5) rfl rfl (by decide) rfl (fun ls hl => ?_)
          refine lv_goto (tgt := 34) hx hb d_Scanner_takeExponent_84 (by decide) ?_
          exact ih34 (p1 + 1) (x * 10 + (dig (rat t n p1))) (k + 1) (by omega) (hlt) (by omega) (by rw [hE0, exL_s (by omega) (by omega)]) (by omega) _ _ _ (lv_sub hl [1, 2, 3, 4, 5, 0] rfl) (hP.sub [0, 1, 2] rfl) (hD.sub [0, 1, 2] (by decide) rfl) hS
  refine lv_aload_n hx hb d_Scanner_takeExponent_0 rfl (lv_at hl 0 rfl) ?_
  refine wi_iconst (n := 0) hx hb d_Scanner_takeExponent_1 ?_
  refine wk_put B hP hD hS 0 rfl fl_Scanner_141 fp_Scanner_10 (v := .int (iI 0)) rfl rfl (Nat.le_of_ble_eq_true rfl) d_Scanner_takeExponent_2 (fun H locs hP hD hS => ?_)
  have hP : va_P D classes [(h, .inr (4, [.ref tp, .ref ar, .ref f1, .ref f2, .ref rd, .int (bI em), .int (bI ob), .int (bI oa), .int (iI pos), .int (iI fr), .int (iI 0), .int (bI hp)])), (tp, .inr (3, [.ref ta, .int (iI n)])), (ta, .inl (E.2.1, 400, .inl (ia t)))] H := hP
  have hD : va_D A [(h, .inr (4, [.ref tp, .ref ar, .ref f1, .ref f2, .ref rd, .int (bI em), .int (bI ob), .int (bI oa), .int (iI pos), .int (iI fr), .int (iI 0), .int (bI hp)])), (tp, .inr (3, [.ref ta, .int (iI n)])), (ta, .inl (E.2.1, 400, .inl (ia t)))] := hD
  refine lv_aload_n hx hb d_Scanner_takeExponent_5 rfl (lv_at hl 0 rfl) ?_
  refine wk_callV (As := []) (rest := []) (wr := []) B gTB cl_Scanner_68 (c_Scanner_peek l D E h tp ar f1 f2 rd em ob oa pos fr 0 hp ta t n (by omega) (hT) (by omega)) ⟨⟨rfl, rfl⟩, Nat.le_of_ble_eq_true rfl, Nat.le_of_ble_eq_true rfl⟩ hP hD hS [0, 1, 2] [] rfl rfl (by decide) 0 rfl rfl rfl ⟨hl.2.1, hl.1⟩ rfl (Nat.le_of_ble_eq_true rfl) d_Scanner_takeExponent_6 ⟨Nat.le_of_ble_eq_true rfl, Nat.le_of_ble_eq_true rfl⟩ rfl (fun r_17 H locs hw hP hD hS => ?_)
  have hP : va_P D classes [(h, .inr (4, [.ref tp, .ref ar, .ref f1, .ref f2, .ref rd, .int (bI em), .int (bI ob), .int (bI oa), .int (iI pos), .int (iI fr), .int (iI 0), .int (bI hp)])), (tp, .inr (3, [.ref ta, .int (iI n)])), (ta, .inl (E.2.1, 400, .inl (ia t)))] H := hP
  have hD : va_D A [(h, .inr (4, [.ref tp, .ref ar, .ref f1, .ref f2, .ref rd, .int (bI em), .int (bI ob), .int (bI oa), .int (iI pos), .int (iI fr), .int (iI 0), .int (bI hp)])), (tp, .inr (3, [.ref ta, .int (iI n)])), (ta, .inl (E.2.1, 400, .inl (ia t)))] := hD
  have hw : (r_17 = rat t n pos) := hw
  have hr_18 := hw
  refine W.cs (g := F0 m 9 ls [.int (iI r_17)]) (cells' := 0) (slots' := 0) rfl rfl ?_
  subst hr_18
  refine lv_iload_n hx hb d_Scanner_takeExponent_9 rfl (lv_at hl 1 rfl) ?_
  refine wi_icmp_eq (tgt := 15) hx hb d_Scanner_takeExponent_10 (by decide) (by omega) (by omega) (fun c_19 => ?_) (fun c_19 => ?_)
  · skip
    refine lv_aload_n hx hb d_Scanner_takeExponent_15 rfl (lv_at hl 0 rfl) ?_
    have hnn := rat_neg (t := t) (n := n) (i := pos) (by omega)
    refine lv_dup hx hb d_Scanner_takeExponent_16 rfl ?_
    refine wk_get B hP 0 rfl fl_Scanner_53 (v := .int (iI pos)) rfl d_Scanner_takeExponent_17 ?_
    refine wi_iconst (n := 1) hx hb d_Scanner_takeExponent_20 ?_
    refine wi_iadd hx hb d_Scanner_takeExponent_21 ?_
    refine wk_put B hP hD hS 0 rfl fl_Scanner_53 fp_Scanner_8 (v := .int (iI (pos + 1))) rfl rfl (Nat.le_of_ble_eq_true rfl) d_Scanner_takeExponent_22 (fun H locs hP hD hS => ?_)
    have hP : va_P D classes [(h, .inr (4, [.ref tp, .ref ar, .ref f1, .ref f2, .ref rd, .int (bI em), .int (bI ob), .int (bI oa), .int (iI (pos + 1)), .int (iI fr), .int (iI 0), .int (bI hp)])), (tp, .inr (3, [.ref ta, .int (iI n)])), (ta, .inl (E.2.1, 400, .inl (ia t)))] H := hP
    have hD : va_D A [(h, .inr (4, [.ref tp, .ref ar, .ref f1, .ref f2, .ref rd, .int (bI em), .int (bI ob), .int (bI oa), .int (iI (pos + 1)), .int (iI fr), .int (iI 0), .int (bI hp)])), (tp, .inr (3, [.ref ta, .int (iI n)])), (ta, .inl (E.2.1, 400, .inl (ia t)))] := hD
    refine lv_aload_n hx hb d_Scanner_takeExponent_25 rfl (lv_at hl 0 rfl) ?_
    refine wk_callV (As := []) (rest := []) (wr := []) B gTB cl_Scanner_121 (c_Scanner_takeSign l D E h tp ar f1 f2 rd em ob oa (pos + 1) fr 0 hp ta t n (by omega) (hT) (by omega)) ⟨⟨rfl, rfl⟩, Nat.le_of_ble_eq_true rfl, Nat.le_of_ble_eq_true rfl⟩ hP hD hS [0, 1, 2] [] rfl rfl (by decide) 0 rfl rfl rfl ⟨hl.2.1, hl.1⟩ rfl (Nat.le_of_ble_eq_true rfl) d_Scanner_takeExponent_26 ⟨Nat.le_of_ble_eq_true rfl, Nat.le_of_ble_eq_true rfl⟩ rfl (fun u H locs hw hP hD hS => ?_)
    obtain ⟨q1, r_20⟩ := u
    have hP : va_P D classes [(h, .inr (4, [.ref tp, .ref ar, .ref f1, .ref f2, .ref rd, .int (bI em), .int (bI ob), .int (bI oa), .int (iI q1), .int (iI fr), .int (iI 0), .int (bI hp)])), (tp, .inr (3, [.ref ta, .int (iI n)])), (ta, .inl (E.2.1, 400, .inl (ia t)))] H := hP
    have hD : va_D A [(h, .inr (4, [.ref tp, .ref ar, .ref f1, .ref f2, .ref rd, .int (bI em), .int (bI ob), .int (bI oa), .int (iI q1), .int (iI fr), .int (iI 0), .int (bI hp)])), (tp, .inr (3, [.ref ta, .int (iI n)])), (ta, .inl (E.2.1, 400, .inl (ia t)))] := hD
    have hw : (r_20 = sgN t n (pos + 1)) ∧ (q1 = sgP t n (pos + 1)) ∧ ((pos + 1) ≤ q1 ∧ q1 ≤ n) := hw
    obtain ⟨hr_21, hq1, hq12⟩ := hw
    refine W.cs (g := F0 m 29 ls [.int (bI r_20)]) (cells' := 0) (slots' := 0) rfl rfl ?_
    subst hr_21
    refine lv_istore (lv' := [(4, .int (bI (sgN t n (pos + 1)))), (0, .ref h), (1, .int (iI le)), (2, .int (iI mo)), (3, .int (bI mm))]) hx hb d_Scanner_takeExponent_29 hl (by decide) rfl (fun ls hl => ?_)
    refine wi_iconst (n := 0) hx hb d_Scanner_takeExponent_31 ?_
    refine lv_istore (lv' := [(5, .int (iI 0)), (4, .int (bI (sgN t n (pos + 1)))), (0, .ref h), (1, .int (iI le)), (2, .int (iI mo)), (3, .int (bI mm))]) hx hb d_Scanner_takeExponent_32 hl (by decide) rfl (fun ls hl => ?_)
    exact K_34 ((mo - 0 : Int).toNat + 1) q1 0 0 (by omega) (c_19) (by omega) (by rw [hq1, show mo - 0 = mo by omega]) (by omega) _ _ _ (lv_sub hl [2, 3, 4, 5, 1, 0] rfl) (hP.sub [0, 1, 2] rfl) (hD.sub [0, 1, 2] (by decide) rfl) hS
  · skip
    refine lv_iload_n hx hb d_Scanner_takeExponent_13 rfl (lv_at hl 3 rfl) ?_
    exact ret (pos, 0, mm) _ _ _ _ d_Scanner_takeExponent_14 (show (mm = (EXP t n le (Int.toNat mo) mm pos).1) ∧ (pos = (EXP t n le (Int.toNat mo) mm pos).2.1) ∧ (0 = (EXP t n le (Int.toNat mo) mm pos).2.2) ∧ (pos ≤ pos ∧ pos ≤ n) ∧ (-10000 < 0 ∧ 0 < 10000) from ⟨by unfold EXP; rw [if_pos c_19], by unfold EXP; rw [if_pos c_19], by unfold EXP; rw [if_pos c_19], by omega, by omega⟩) (hP.sub [0, 1, 2] rfl) (hD.sub [0, 1, 2] (by decide) rfl) hS
set_option maxHeartbeats 4000000 in
set_option maxRecDepth 100000 in
theorem c_Scanner_takeDigits (l : Launch) (D : va_G) (E : EVt) (h : Nat) (tp : Nat) (ar : Nat) (f1 : Nat) (f2 : Nat) (rd : Nat) (em : Bool) (ob : Bool) (oa : Bool) (pos : Int) (fr : Int) (ex : Int) (hp : Bool) (ta : Nat) (t : Int → Int) (n : Int) (dn : Nat) (da : Nat) (g : Int → Int) (k : Int) (ba : Int) (pm : Bool) (hn : 0 ≤ n ∧ n ≤ 400) (hT : Tx t n) (hpos : 0 ≤ pos ∧ pos ≤ n) (hba : ba = 10 ∨ ba = 16) : CT l D classes (tyl E) (EVX E) y_Scanner_takeDigits (Cond.code y_Scanner_takeDigits b_Scanner_takeDigits 8 (some .boolean) :: TB) (rmK 2 0 0 41) 0 0 [.ref h, .ref dn, .int (iI ba), .int (bI pm)] [(h, .inr (4, [.ref tp, .ref ar, .ref f1, .ref f2, .ref rd, .int (bI em), .int (bI ob), .int (bI oa), .int (iI pos), .int (iI fr), .int (iI ex), .int (bI hp)])), (tp, .inr (3, [.ref ta, .int (iI n)])), (ta, .inl (E.2.1, 400, .inl (ia t))), (dn, .inr (0, [.ref da, .int (iI k)])), (da, .inl (E.1, 224, .inl (ia g)))] (S := Int × Int × Bool × (Int → Int) × Int × Bool) (fun u => [(h, .inr (4, [.ref tp, .ref ar, .ref f1, .ref f2, .ref rd, .int (bI em), .int (bI ob), .int (bI oa), .int (iI u.1), .int (iI u.2.1), .int (iI ex), .int (bI u.2.2.1)])), (tp, .inr (3, [.ref ta, .int (iI n)])), (ta, .inl (E.2.1, 400, .inl (ia t))), (dn, .inr (0, [.ref da, .int (iI u.2.2.2.2.1)])), (da, .inl (E.1, 224, .inl (ia u.2.2.2.1)))]) (fun u => some (.int (bI u.2.2.2.2.2))) (fun u => (NatOK u.2.2.2.1 u.2.2.2.2.1 (DGs t n ba pm pos (0, 0, 0, false)).2.1) ∧ (u.1 = (DGs t n ba pm pos (0, 0, 0, false)).1) ∧ (u.2.2.2.2.2 = decide (0 < (DGs t n ba pm pos (0, 0, 0, false)).2.2.1)) ∧ (u.2.1 = (DGs t n ba pm pos (0, 0, 0, false)).2.2.2.1) ∧ (u.2.2.1 = (DGs t n ba pm pos (0, 0, 0, false)).2.2.2.2) ∧ (pos ≤ u.1 ∧ u.1 ≤ n) ∧ (0 ≤ u.2.1 ∧ u.2.1 ≤ (DGs t n ba pm pos (0, 0, 0, false)).2.2.1 ∧ (DGs t n ba pm pos (0, 0, 0, false)).2.2.1 ≤ u.1 - pos) ∧ (0 ≤ (DGs t n ba pm pos (0, 0, 0, false)).2.1 ∧ (DGs t n ba pm pos (0, 0, 0, false)).2.1 < P2 (4 * (DGs t n ba pm pos (0, 0, 0, false)).2.2.1))) := by
  refine CT.ofz (fv := fun (u : Int × Int × Bool × (Int → Int) × Int × Bool) => u.2.2.2.2.2) (eok E) (by decide) rfl (Nat.le_of_ble_eq_true rfl) ?_
  intro p e s m args below meth c A Q ls B hmn hP hD hS hl ret
  have B : Bd l D classes (tyl E) (EVX E) p m c b_Scanner_takeDigits 8 s args (Cond.code y_Scanner_takeDigits b_Scanner_takeDigits 8 (some .boolean) :: TB) R_Scanner A := B
  obtain ⟨⟨hx, hb, hml, hown, hts⟩, hX, hK, hE, hA⟩ := id B
  have hl : lv_has ls 8 [(0, .ref h), (1, .ref dn), (2, .int (iI ba)), (3, .int (bI pm))] := hl
  have hP : va_P D classes [(h, .inr (4, [.ref tp, .ref ar, .ref f1, .ref f2, .ref rd, .int (bI em), .int (bI ob), .int (bI oa), .int (iI pos), .int (iI fr), .int (iI ex), .int (bI hp)])), (tp, .inr (3, [.ref ta, .int (iI n)])), (ta, .inl (E.2.1, 400, .inl (ia t))), (dn, .inr (0, [.ref da, .int (iI k)])), (da, .inl (E.1, 224, .inl (ia g)))] s.heap := hP
  have hD : va_D A [(h, .inr (4, [.ref tp, .ref ar, .ref f1, .ref f2, .ref rd, .int (bI em), .int (bI ob), .int (bI oa), .int (iI pos), .int (iI fr), .int (iI ex), .int (bI hp)])), (tp, .inr (3, [.ref ta, .int (iI n)])), (ta, .inl (E.2.1, 400, .inl (ia t))), (dn, .inr (0, [.ref da, .int (iI k)])), (da, .inl (E.1, 224, .inl (ia g)))] := hD
  have K_24 : ∀ (fuel24 : Nat) (p1 : Int) (fr1 : Int) (fa : Int) (pt : Int) (cn : Int) (k1 : Int) (w : Int) (hp1 : Bool) (g1 : Int → Int) (hN1 : NatOK g1 k1 w) (hp1r : pos ≤ p1 ∧ p1 ≤ n) (hD0 : DGs t n ba pm pos (0, 0, 0, false) = DGs t n ba pm p1 (w * fa + pt, cn, fr1, hp1)) (hfa : 1 ≤ fa ∧ fa < 67108864) (hpt : 0 ≤ pt ∧ pt < fa) (hcn : 0 ≤ cn ∧ cn ≤ p1 - pos) (hfr1 : 0 ≤ fr1 ∧ fr1 ≤ cn) (hV : 0 ≤ w * fa + pt ∧ w * fa + pt < P2 (4 * cn)) (hf24 : n - p1 < (fuel24 : Int)) (ls : Array Slot) (H : Heap) (locs : List Loc), lv_has ls 8 [(0, .ref h), (1, .ref dn), (2, .int (iI ba)), (3, .int (bI pm)), (4, .int (iI cn)), (5, .int (iI fa)), (6, .int (iI pt))] → va_P D classes [(h, .inr (4, [.ref tp, .ref ar, .ref f1, .ref f2, .ref rd, .int (bI em), .int (bI ob), .int (bI oa), .int (iI p1), .int (iI fr1), .int (iI ex), .int (bI hp1)])), (tp, .inr (3, [.ref ta, .int (iI n)])), (ta, .inl (E.2.1, 400, .inl (ia t))), (dn, .inr (0, [.ref da, .int (iI k1)])), (da, .inl (E.1, 224, .inl (ia g1)))] H → va_D A [(h, .inr (4, [.ref tp, .ref ar, .ref f1, .ref f2, .ref rd, .int (bI em), .int (bI ob), .int (bI oa), .int (iI p1), .int (iI fr1), .int (iI ex), .int (bI hp1)])), (tp, .inr (3, [.ref ta, .int (iI n)])), (ta, .inl (E.2.1, 400, .inl (ia t))), (dn, .inr (0, [.ref da, .int (iI k1)])), (da, .inl (E.1, 224, .inl (ia g1)))] → va_S A s.heap H locs → W p l e (rmK 2 0 0 41) s m args below meth c H locs 0 0 Q (F0 m 24 ls []) := by
    intro fuel24
    induction fuel24 with
    | zero =>
      intro p1 fr1 fa pt cn k1 w hp1 g1 hN1 hp1r hD0 hfa hpt hcn hfr1 hV hf24 ls H locs hl hP hD hS
      exfalso; omega
    | succ fuel24 ih24 =>
      intro p1 fr1 fa pt cn k1 w hp1 g1 hN1 hp1r hD0 hfa hpt hcn hfr1 hV hf24 ls H locs hl hP hD hS
      have hrp := rat_rng hT p1
      have hdr := dig_rng (rat t n p1)
      have K_120 : ∀ (fr3 : Int) (fa3 : Int) (pt3 : Int) (cn3 : Int) (hp3 : Bool) (hlt3 : p1 < n) (hD3 : DGs t n ba pm pos (0, 0, 0, false) = DGs t n ba pm (p1 + 1) (w * fa3 + pt3, cn3, fr3, hp3)) (hfa3 : 1 ≤ fa3 ∧ fa3 < 1073741824) (hpt3 : 0 ≤ pt3 ∧ pt3 < fa3) (hcn3 : 0 ≤ cn3 ∧ cn3 ≤ p1 + 1 - pos) (hfr3 : 0 ≤ fr3 ∧ fr3 ≤ cn3) (hV3 : 0 ≤ w * fa3 + pt3 ∧ w * fa3 + pt3 < P2 (4 * cn3)) (ls : Array Slot) (H : Heap) (locs : List Loc), lv_has ls 8 [(0, .ref h), (1, .ref dn), (2, .int (iI ba)), (3, .int (bI pm)), (4, .int (iI cn3)), (5, .int (iI fa3)), (6, .int (iI pt3))] → va_P D classes [(h, .inr (4, [.ref tp, .ref ar, .ref f1, .ref f2, .ref rd, .int (bI em), .int (bI ob), .int (bI oa), .int (iI p1), .int (iI fr3), .int (iI ex), .int (bI hp3)])), (tp, .inr (3, [.ref ta, .int (iI n)])), (ta, .inl (E.2.1, 400, .inl (ia t))), (dn, .inr (0, [.ref da, .int (iI k1)])), (da, .inl (E.1, 224, .inl (ia g1)))] H → va_D A [(h, .inr (4, [.ref tp, .ref ar, .ref f1, .ref f2, .ref rd, .int (bI em), .int (bI ob), .int (bI oa), .int (iI p1), .int (iI fr3), .int (iI ex), .int (bI hp3)])), (tp, .inr (3, [.ref ta, .int (iI n)])), (ta, .inl (E.2.1, 400, .inl (ia t))), (dn, .inr (0, [.ref da, .int (iI k1)])), (da, .inl (E.1, 224, .inl (ia g1)))] → va_S A s.heap H locs → W p l e (rmK 2 0 0 41) s m args below meth c H locs 0 0 Q (F0 m 120 ls []) := by
        intro fr3 fa3 pt3 cn3 hp3 hlt3 hD3 hfa3 hpt3 hcn3 hfr3 hV3 ls H locs hl hP hD hS
        refine lv_iload hx hb d_Scanner_takeDigits_120 (lv_at hl 5 rfl) ?_
        refine wi_ldc hx hb 67108864 hown (tb_h hts tw_Scanner_constant_184) (by decide) d_Scanner_takeDigits_122 ?_
        refine wi_icmp_lt (tgt := 141) hx hb d_Scanner_takeDigits_124 (by decide) (by omega) (by omega) (fun c_1 => ?_) (fun c_1 => ?_)
        · skip
          refine lv_aload_n hx hb d_Scanner_takeDigits_141 rfl (lv_at hl 0 rfl) ?_
          refine lv_dup hx hb d_Scanner_takeDigits_142 rfl ?_
          refine wk_get B hP 0 rfl fl_Scanner_53 (v := .int (iI p1)) rfl d_Scanner_takeDigits_143 ?_
          refine wi_iconst (n := 1) hx hb d_Scanner_takeDigits_146 ?_
          refine wi_iadd hx hb d_Scanner_takeDigits_147 ?_
          refine wk_put B hP hD hS 0 rfl fl_Scanner_53 fp_Scanner_8 (v := .int (iI (p1 + 1))) rfl rfl (Nat.le_of_ble_eq_true rfl) d_Scanner_takeDigits_148 (fun H locs hP hD hS => ?_)
          have hP : va_P D classes [(h, .inr (4, [.ref tp, .ref ar, .ref f1, .ref f2, .ref rd, .int (bI em), .int (bI ob), .int (bI oa), .int (iI (p1 + 1)), .int (iI fr3), .int (iI ex), .int (bI hp3)])), (tp, .inr (3, [.ref ta, .int (iI n)])), (ta, .inl (E.2.1, 400, .inl (ia t))), (dn, .inr (0, [.ref da, .int (iI k1)])), (da, .inl (E.1, 224, .inl (ia g1)))] H := hP
          have hD : va_D A [(h, .inr (4, [.ref tp, .ref ar, .ref f1, .ref f2, .ref rd, .int (bI em), .int (bI ob), .int (bI oa), .int (iI (p1 + 1)), .int (iI fr3), .int (iI ex), .int (bI hp3)])), (tp, .inr (3, [.ref ta, .int (iI n)])), (ta, .inl (E.2.1, 400, .inl (ia t))), (dn, .inr (0, [.ref da, .int (iI k1)])), (da, .inl (E.1, 224, .inl (ia g1)))] := hD
          refine lv_goto (tgt := 24) hx hb d_Scanner_takeDigits_151 (by decide) ?_
          exact ih24 (p1 + 1) fr3 fa3 pt3 cn3 k1 w hp3 g1 (hN1) (by omega) (hD3) (by omega) (by omega) (by omega) (by omega) (hV3) (by omega) _ _ _ (lv_sub hl [0, 1, 2, 3, 4, 5, 6] rfl) (hP.sub [0, 1, 2, 3, 4] rfl) (hD.sub [0, 1, 2, 3, 4] (by decide) rfl) hS
        · skip
          refine lv_aload_n hx hb d_Scanner_takeDigits_127 rfl (lv_at hl 1 rfl) ?_
          refine lv_iload hx hb d_Scanner_takeDigits_128 (lv_at hl 5 rfl) ?_
          refine lv_iload hx hb d_Scanner_takeDigits_130 (lv_at hl 6 rfl) ?_
          refine wk_callV (As := [.int (iI fa3), .int (iI pt3)]) (rest := []) (wr := [(h, .inr (4, [.ref tp, .ref ar, .ref f1, .ref f2, .ref rd, .int (bI em), .int (bI ob), .int (bI oa), .int (iI p1), .int (iI fr3), .int (iI ex), .int (bI hp3)])), (tp, .inr (3, [.ref ta, .int (iI n)])), (ta, .inl (E.2.1, 400, .inl (ia t)))]) B gTB cl_Scanner_165 (c_Natural_timesPlus l D E dn da g1 k1 fa3 pt3 w (hN1) (by omega) (by omega) (dg_fit hV3.2 (by omega))) ⟨⟨rfl, rfl⟩, Nat.le_of_ble_eq_true rfl, Nat.le_of_ble_eq_true rfl⟩ hP hD hS [3, 4] [0, 1, 2] rfl rfl (by decide) 3 rfl rfl rfl ⟨hl.2.1, hl.1⟩ rfl (Nat.le_of_ble_eq_true rfl) d_Scanner_takeDigits_132 ⟨Nat.le_of_ble_eq_true rfl, Nat.le_of_ble_eq_true rfl⟩ rfl (fun u H locs hw hP hD hS => ?_)
          obtain ⟨g2_2, k2_3⟩ := u
          have hP : va_P D classes [(h, .inr (4, [.ref tp, .ref ar, .ref f1, .ref f2, .ref rd, .int (bI em), .int (bI ob), .int (bI oa), .int (iI p1), .int (iI fr3), .int (iI ex), .int (bI hp3)])), (tp, .inr (3, [.ref ta, .int (iI n)])), (ta, .inl (E.2.1, 400, .inl (ia t))), (dn, .inr (0, [.ref da, .int (iI k2_3)])), (da, .inl (E.1, 224, .inl (ia g2_2)))] H := hP
          have hD : va_D A [(h, .inr (4, [.ref tp, .ref ar, .ref f1, .ref f2, .ref rd, .int (bI em), .int (bI ob), .int (bI oa), .int (iI p1), .int (iI fr3), .int (iI ex), .int (bI hp3)])), (tp, .inr (3, [.ref ta, .int (iI n)])), (ta, .inl (E.2.1, 400, .inl (ia t))), (dn, .inr (0, [.ref da, .int (iI k2_3)])), (da, .inl (E.1, 224, .inl (ia g2_2)))] := hD
          have hw : (NatOK g2_2 k2_3 (w * fa3 + pt3)) := hw
          have hM_4 := hw
          refine W.cs (g := F0 m 135 ls []) (cells' := 0) (slots' := 0) rfl rfl ?_
          refine wi_iconst (n := 1) hx hb d_Scanner_takeDigits_135 ?_
          refine lv_istore (lv' := [(5, .int (iI 1)), (0, .ref h), (1, .ref dn), (2, .int (iI ba)), (3, .int (bI pm)), (4, .int (iI cn3)), (6, .int (iI pt3))]) hx hb d_Scanner_takeDigits_136 hl (by decide) rfl (fun ls hl => ?_)
          refine wi_iconst (n := 0) hx hb d_Scanner_takeDigits_138 ?_
          refine lv_istore (lv' := [(6, .int (iI 0)), (5, .int (iI 1)), (0, .ref h), (1, .ref dn), (2, .int (iI ba)), (3, .int (bI pm)), (4, .int (iI cn3))]) hx hb d_Scanner_takeDigits_139 hl (by decide) rfl (fun ls hl => ?_)
          refine lv_aload_n hx hb d_Scanner_takeDigits_141 rfl (lv_at hl 2 rfl) ?_
          refine lv_dup hx hb d_Scanner_takeDigits_142 rfl ?_
          refine wk_get B hP 0 rfl fl_Scanner_53 (v := .int (iI p1)) rfl d_Scanner_takeDigits_143 ?_
          refine wi_iconst (n := 1) hx hb d_Scanner_takeDigits_146 ?_
          refine wi_iadd hx hb d_Scanner_takeDigits_147 ?_
          refine wk_put B hP hD hS 0 rfl fl_Scanner_53 fp_Scanner_8 (v := .int (iI (p1 + 1))) rfl rfl (Nat.le_of_ble_eq_true rfl) d_Scanner_takeDigits_148 (fun H locs hP hD hS => ?_)
          have hP : va_P D classes [(h, .inr (4, [.ref tp, .ref ar, .ref f1, .ref f2, .ref rd, .int (bI em), .int (bI ob), .int (bI oa), .int (iI (p1 + 1)), .int (iI fr3), .int (iI ex), .int (bI hp3)])), (tp, .inr (3, [.ref ta, .int (iI n)])), (ta, .inl (E.2.1, 400, .inl (ia t))), (dn, .inr (0, [.ref da, .int (iI k2_3)])), (da, .inl (E.1, 224, .inl (ia g2_2)))] H := hP
          have hD : va_D A [(h, .inr (4, [.ref tp, .ref ar, .ref f1, .ref f2, .ref rd, .int (bI em), .int (bI ob), .int (bI oa), .int (iI (p1 + 1)), .int (iI fr3), .int (iI ex), .int (bI hp3)])), (tp, .inr (3, [.ref ta, .int (iI n)])), (ta, .inl (E.2.1, 400, .inl (ia t))), (dn, .inr (0, [.ref da, .int (iI k2_3)])), (da, .inl (E.1, 224, .inl (ia g2_2)))] := hD
          refine lv_goto (tgt := 24) hx hb d_Scanner_takeDigits_151 (by decide) ?_
          exact ih24 (p1 + 1) fr3 1 0 cn3 k2_3 (w * fa3 + pt3) hp3 g2_2 (hM_4) (by omega) (by rw [hD3]; congr 2; omega) (by omega) (by omega) (by omega) (by omega) (by rw [Int.mul_one, Int.add_zero]; exact hV3) (by omega) _ _ _ (lv_sub hl [2, 3, 4, 5, 6, 1, 0] rfl) (hP.sub [0, 1, 2, 3, 4] rfl) (hD.sub [0, 1, 2, 3, 4] (by decide) rfl) hS
      refine lv_aload_n hx hb d_Scanner_takeDigits_24 rfl (lv_at hl 0 rfl) ?_
      refine wk_get B hP 0 rfl fl_Scanner_53 (v := .int (iI p1)) rfl d_Scanner_takeDigits_25 ?_
      refine lv_aload_n hx hb d_Scanner_takeDigits_28 rfl (lv_at hl 0 rfl) ?_
      refine wk_get B hP 0 rfl fl_Scanner_9 (v := .ref tp) rfl d_Scanner_takeDigits_29 ?_
      refine wk_get B hP 1 rfl fl_Scanner_41 (v := .int (iI n)) rfl d_Scanner_takeDigits_32 ?_
      refine wi_icmp_ge (tgt := 154) hx hb d_Scanner_takeDigits_35 (by decide) (by omega) (by omega) (fun c_5 => ?_) (fun c_5 => ?_)
      · skip
        have hst : DGs t n ba pm pos (0, 0, 0, false) = (p1, w * fa + pt, cn, fr1, hp1) := by
          rw [hD0]
          refine DG_stop (by omega) ?_
          first | (exact Or.inl (by omega)) | (exact Or.inr ⟨by omega, Or.inl c_16⟩) | (exact Or.inr ⟨by omega, Or.inr (Or.inl c_23)⟩) | (exact Or.inr ⟨by omega, Or.inr (Or.inr c_30)⟩)
        refine lv_aload_n hx hb d_Scanner_takeDigits_154 rfl (lv_at hl 1 rfl) ?_
        refine lv_iload hx hb d_Scanner_takeDigits_155 (lv_at hl 5 rfl) ?_
        refine lv_iload hx hb d_Scanner_takeDigits_157 (lv_at hl 6 rfl) ?_
        refine wk_callV (As := [.int (iI fa), .int (iI pt)]) (rest := []) (wr := [(h, .inr (4, [.ref tp, .ref ar, .ref f1, .ref f2, .ref rd, .int (bI em), .int (bI ob), .int (bI oa), .int (iI p1), .int (iI fr1), .int (iI ex), .int (bI hp1)])), (tp, .inr (3, [.ref ta, .int (iI n)])), (ta, .inl (E.2.1, 400, .inl (ia t)))]) B gTB cl_Scanner_165 (c_Natural_timesPlus l D E dn da g1 k1 fa pt w (hN1) (by omega) (by omega) (dg_fit hV.2 (by omega))) ⟨⟨rfl, rfl⟩, Nat.le_of_ble_eq_true rfl, Nat.le_of_ble_eq_true rfl⟩ hP hD hS [3, 4] [0, 1, 2] rfl rfl (by decide) 3 rfl rfl rfl ⟨hl.2.1, hl.1⟩ rfl (Nat.le_of_ble_eq_true rfl) d_Scanner_takeDigits_159 ⟨Nat.le_of_ble_eq_true rfl, Nat.le_of_ble_eq_true rfl⟩ rfl (fun u H locs hw hP hD hS => ?_)
        obtain ⟨g2_6, k2_7⟩ := u
        have hP : va_P D classes [(h, .inr (4, [.ref tp, .ref ar, .ref f1, .ref f2, .ref rd, .int (bI em), .int (bI ob), .int (bI oa), .int (iI p1), .int (iI fr1), .int (iI ex), .int (bI hp1)])), (tp, .inr (3, [.ref ta, .int (iI n)])), (ta, .inl (E.2.1, 400, .inl (ia t))), (dn, .inr (0, [.ref da, .int (iI k2_7)])), (da, .inl (E.1, 224, .inl (ia g2_6)))] H := hP
        have hD : va_D A [(h, .inr (4, [.ref tp, .ref ar, .ref f1, .ref f2, .ref rd, .int (bI em), .int (bI ob), .int (bI oa), .int (iI p1), .int (iI fr1), .int (iI ex), .int (bI hp1)])), (tp, .inr (3, [.ref ta, .int (iI n)])), (ta, .inl (E.2.1, 400, .inl (ia t))), (dn, .inr (0, [.ref da, .int (iI k2_7)])), (da, .inl (E.1, 224, .inl (ia g2_6)))] := hD
        have hw : (NatOK g2_6 k2_7 (w * fa + pt)) := hw
        have hM_8 := hw
        refine W.cs (g := F0 m 162 ls []) (cells' := 0) (slots' := 0) rfl rfl ?_
        refine lv_iload hx hb d_Scanner_takeDigits_162 (lv_at hl 4 rfl) ?_
        refine wi_if_le (tgt := 171) hx hb d_Scanner_takeDigits_164 (by decide) (by omega) (fun c_9 => ?_) (fun c_9 => ?_)
        · skip
          refine wi_iconst (n := 0) hx hb d_Scanner_takeDigits_171 ?_
          refine w_as0 ?_
          exact ret (p1, fr1, hp1, g2_6, k2_7, false) _ _ _ _ d_Scanner_takeDigits_172 (show (NatOK g2_6 k2_7 (DGs t n ba pm pos (0, 0, 0, false)).2.1) ∧ (p1 = (DGs t n ba pm pos (0, 0, 0, false)).1) ∧ (false = decide (0 < (DGs t n ba pm pos (0, 0, 0, false)).2.2.1)) ∧ (fr1 = (DGs t n ba pm pos (0, 0, 0, false)).2.2.2.1) ∧ (hp1 = (DGs t n ba pm pos (0, 0, 0, false)).2.2.2.2) ∧ (pos ≤ p1 ∧ p1 ≤ n) ∧ (0 ≤ fr1 ∧ fr1 ≤ (DGs t n ba pm pos (0, 0, 0, false)).2.2.1 ∧ (DGs t n ba pm pos (0, 0, 0, false)).2.2.1 ≤ p1 - pos) ∧ (0 ≤ (DGs t n ba pm pos (0, 0, 0, false)).2.1 ∧ (DGs t n ba pm pos (0, 0, 0, false)).2.1 < P2 (4 * (DGs t n ba pm pos (0, 0, 0, false)).2.2.1)) from ⟨by rw [hst]; exact hM_8, by rw [hst], by rw [hst]; exact (decide_eq_false (show ¬ 0 < cn by omega)).symm, by rw [hst], by rw [hst], by omega, by rw [hst]; dsimp only; omega, by rw [hst]; exact hV⟩) (hP.sub [0, 1, 2, 3, 4] rfl) (hD.sub [0, 1, 2, 3, 4] (by decide) rfl) hS
        · skip
          refine wi_iconst (n := 1) hx hb d_Scanner_takeDigits_167 ?_
          refine lv_goto (tgt := 172) hx hb d_Scanner_takeDigits_168 (by decide) ?_
          refine w_as1 ?_
          exact ret (p1, fr1, hp1, g2_6, k2_7, true) _ _ _ _ d_Scanner_takeDigits_172 (show (NatOK g2_6 k2_7 (DGs t n ba pm pos (0, 0, 0, false)).2.1) ∧ (p1 = (DGs t n ba pm pos (0, 0, 0, false)).1) ∧ (true = decide (0 < (DGs t n ba pm pos (0, 0, 0, false)).2.2.1)) ∧ (fr1 = (DGs t n ba pm pos (0, 0, 0, false)).2.2.2.1) ∧ (hp1 = (DGs t n ba pm pos (0, 0, 0, false)).2.2.2.2) ∧ (pos ≤ p1 ∧ p1 ≤ n) ∧ (0 ≤ fr1 ∧ fr1 ≤ (DGs t n ba pm pos (0, 0, 0, false)).2.2.1 ∧ (DGs t n ba pm pos (0, 0, 0, false)).2.2.1 ≤ p1 - pos) ∧ (0 ≤ (DGs t n ba pm pos (0, 0, 0, false)).2.1 ∧ (DGs t n ba pm pos (0, 0, 0, false)).2.1 < P2 (4 * (DGs t n ba pm pos (0, 0, 0, false)).2.2.1)) from ⟨by rw [hst]; exact hM_8, by rw [hst], by rw [hst]; exact (decide_eq_true (show 0 < cn by omega)).symm, by rw [hst], by rw [hst], by omega, by rw [hst]; dsimp only; omega, by rw [hst]; exact hV⟩) (hP.sub [0, 1, 2, 3, 4] rfl) (hD.sub [0, 1, 2, 3, 4] (by decide) rfl) hS
      · skip
        refine lv_aload_n hx hb d_Scanner_takeDigits_38 rfl (lv_at hl 0 rfl) ?_
        refine wk_callV (As := []) (rest := []) (wr := [(dn, .inr (0, [.ref da, .int (iI k1)])), (da, .inl (E.1, 224, .inl (ia g1)))]) B gTB cl_Scanner_68 (c_Scanner_peek l D E h tp ar f1 f2 rd em ob oa p1 fr1 ex hp1 ta t n (by omega) (hT) (by omega)) ⟨⟨rfl, rfl⟩, Nat.le_of_ble_eq_true rfl, Nat.le_of_ble_eq_true rfl⟩ hP hD hS [0, 1, 2] [3, 4] rfl rfl (by decide) 0 rfl rfl rfl ⟨hl.2.1, hl.1⟩ rfl (Nat.le_of_ble_eq_true rfl) d_Scanner_takeDigits_39 ⟨Nat.le_of_ble_eq_true rfl, Nat.le_of_ble_eq_true rfl⟩ rfl (fun r_10 H locs hw hP hD hS => ?_)
        have hP : va_P D classes [(dn, .inr (0, [.ref da, .int (iI k1)])), (da, .inl (E.1, 224, .inl (ia g1))), (h, .inr (4, [.ref tp, .ref ar, .ref f1, .ref f2, .ref rd, .int (bI em), .int (bI ob), .int (bI oa), .int (iI p1), .int (iI fr1), .int (iI ex), .int (bI hp1)])), (tp, .inr (3, [.ref ta, .int (iI n)])), (ta, .inl (E.2.1, 400, .inl (ia t)))] H := hP
        have hD : va_D A [(dn, .inr (0, [.ref da, .int (iI k1)])), (da, .inl (E.1, 224, .inl (ia g1))), (h, .inr (4, [.ref tp, .ref ar, .ref f1, .ref f2, .ref rd, .int (bI em), .int (bI ob), .int (bI oa), .int (iI p1), .int (iI fr1), .int (iI ex), .int (bI hp1)])), (tp, .inr (3, [.ref ta, .int (iI n)])), (ta, .inl (E.2.1, 400, .inl (ia t)))] := hD
        have hw : (r_10 = rat t n p1) := hw
        have hr_11 := hw
        refine W.cs (g := F0 m 42 ls [.int (iI r_10)]) (cells' := 0) (slots' := 0) rfl rfl ?_
        subst hr_11
        refine wk_callS (As := [.int (iI (rat t n p1))]) (rest := []) (wr := [(dn, .inr (0, [.ref da, .int (iI k1)])), (da, .inl (E.1, 224, .inl (ia g1))), (h, .inr (4, [.ref tp, .ref ar, .ref f1, .ref f2, .ref rd, .int (bI em), .int (bI ob), .int (bI oa), .int (iI p1), .int (iI fr1), .int (iI ex), .int (bI hp1)])), (tp, .inr (3, [.ref ta, .int (iI n)])), (ta, .inl (E.2.1, 400, .inl (ia t)))]) B gTB cl_Scanner_181 (c_Scanner_digitOf l D E (rat t n p1) (by omega)) ⟨⟨rfl, rfl⟩, Nat.le_of_ble_eq_true rfl, Nat.le_of_ble_eq_true rfl⟩ hP hD hS [] [0, 1, 2, 3, 4] rfl rfl (by decide) ⟨hl.2.1, hl.1⟩ rfl (Nat.le_of_ble_eq_true rfl) d_Scanner_takeDigits_42 ⟨Nat.le_of_ble_eq_true rfl, Nat.le_of_ble_eq_true rfl⟩ rfl (fun r_12 H locs hw hP hD hS => ?_)
        have hP : va_P D classes [(dn, .inr (0, [.ref da, .int (iI k1)])), (da, .inl (E.1, 224, .inl (ia g1))), (h, .inr (4, [.ref tp, .ref ar, .ref f1, .ref f2, .ref rd, .int (bI em), .int (bI ob), .int (bI oa), .int (iI p1), .int (iI fr1), .int (iI ex), .int (bI hp1)])), (tp, .inr (3, [.ref ta, .int (iI n)])), (ta, .inl (E.2.1, 400, .inl (ia t)))] H := hP
        have hD : va_D A [(dn, .inr (0, [.ref da, .int (iI k1)])), (da, .inl (E.1, 224, .inl (ia g1))), (h, .inr (4, [.ref tp, .ref ar, .ref f1, .ref f2, .ref rd, .int (bI em), .int (bI ob), .int (bI oa), .int (iI p1), .int (iI fr1), .int (iI ex), .int (bI hp1)])), (tp, .inr (3, [.ref ta, .int (iI n)])), (ta, .inl (E.2.1, 400, .inl (ia t)))] := hD
        have hw : (r_12 = dig (rat t n p1)) := hw
        have hr_13 := hw
        refine W.cs (g := F0 m 45 ls [.int (iI r_12)]) (cells' := 0) (slots' := 0) rfl rfl ?_
        subst hr_13
        refine lv_istore (lv' := [(7, .int (iI (dig (rat t n p1)))), (0, .ref h), (1, .ref dn), (2, .int (iI ba)), (3, .int (bI pm)), (4, .int (iI cn)), (5, .int (iI fa)), (6, .int (iI pt))]) hx hb d_Scanner_takeDigits_45 hl (by decide) rfl (fun ls hl => ?_)
        refine lv_aload_n hx hb d_Scanner_takeDigits_47 rfl (lv_at hl 1 rfl) ?_
        refine wk_callV (As := []) (rest := []) (wr := [(dn, .inr (0, [.ref da, .int (iI k1)])), (da, .inl (E.1, 224, .inl (ia g1)))]) B gTB cl_Scanner_68 (c_Scanner_peek l D E h tp ar f1 f2 rd em ob oa p1 fr1 ex hp1 ta t n (by omega) (hT) (by omega)) ⟨⟨rfl, rfl⟩, Nat.le_of_ble_eq_true rfl, Nat.le_of_ble_eq_true rfl⟩ hP hD hS [2, 3, 4] [0, 1] rfl rfl (by decide) 2 rfl rfl rfl ⟨hl.2.1, hl.1⟩ rfl (Nat.le_of_ble_eq_true rfl) d_Scanner_takeDigits_48 ⟨Nat.le_of_ble_eq_true rfl, Nat.le_of_ble_eq_true rfl⟩ rfl (fun r_14 H locs hw hP hD hS => ?_)
        have hP : va_P D classes [(dn, .inr (0, [.ref da, .int (iI k1)])), (da, .inl (E.1, 224, .inl (ia g1))), (h, .inr (4, [.ref tp, .ref ar, .ref f1, .ref f2, .ref rd, .int (bI em), .int (bI ob), .int (bI oa), .int (iI p1), .int (iI fr1), .int (iI ex), .int (bI hp1)])), (tp, .inr (3, [.ref ta, .int (iI n)])), (ta, .inl (E.2.1, 400, .inl (ia t)))] H := hP
        have hD : va_D A [(dn, .inr (0, [.ref da, .int (iI k1)])), (da, .inl (E.1, 224, .inl (ia g1))), (h, .inr (4, [.ref tp, .ref ar, .ref f1, .ref f2, .ref rd, .int (bI em), .int (bI ob), .int (bI oa), .int (iI p1), .int (iI fr1), .int (iI ex), .int (bI hp1)])), (tp, .inr (3, [.ref ta, .int (iI n)])), (ta, .inl (E.2.1, 400, .inl (ia t)))] := hD
        have hw : (r_14 = rat t n p1) := hw
        have hr_15 := hw
        refine W.cs (g := F0 m 51 ls [.int (iI r_14)]) (cells' := 0) (slots' := 0) rfl rfl ?_
        subst hr_15
        refine wi_bipush hx hb d_Scanner_takeDigits_51 (by decide) ?_
        refine wi_icmp_ne (tgt := 75) hx hb d_Scanner_takeDigits_53 (by decide) (by omega) (by omega) (fun c_16 => ?_) (fun c_16 => ?_)
        · skip
          refine lv_iload hx hb d_Scanner_takeDigits_75 (lv_at hl 0 rfl) ?_
          refine lv_iload_n hx hb d_Scanner_takeDigits_77 rfl (lv_at hl 3 rfl) ?_
          refine wi_icmp_ge (tgt := 154) hx hb d_Scanner_takeDigits_78 (by decide) (by omega) (by omega) (fun c_17 => ?_) (fun c_17 => ?_)
          · skip
            have hst : DGs t n ba pm pos (0, 0, 0, false) = (p1, w * fa + pt, cn, fr1, hp1) := by
              rw [hD0]
              refine DG_stop (by omega) ?_
              first | (exact Or.inl (by omega)) | (exact Or.inr ⟨by omega, Or.inl c_16⟩) | (exact Or.inr ⟨by omega, Or.inr (Or.inl c_23)⟩) | (exact Or.inr ⟨by omega, Or.inr (Or.inr c_30)⟩)
            refine lv_aload_n hx hb d_Scanner_takeDigits_154 rfl (lv_at hl 2 rfl) ?_
            refine lv_iload hx hb d_Scanner_takeDigits_155 (lv_at hl 6 rfl) ?_
            refine lv_iload hx hb d_Scanner_takeDigits_157 (lv_at hl 7 rfl) ?_
            refine wk_callV (As := [.int (iI fa), .int (iI pt)]) (rest := []) (wr := [(h, .inr (4, [.ref tp, .ref ar, .ref f1, .ref f2, .ref rd, .int (bI em), .int (bI ob), .int (bI oa), .int (iI p1), .int (iI fr1), .int (iI ex), .int (bI hp1)])), (tp, .inr (3, [.ref ta, .int (iI n)])), (ta, .inl (E.2.1, 400, .inl (ia t)))]) B gTB cl_Scanner_165 (c_Natural_timesPlus l D E dn da g1 k1 fa pt w (hN1) (by omega) (by omega) (dg_fit hV.2 (by omega))) ⟨⟨rfl, rfl⟩, Nat.le_of_ble_eq_true rfl, Nat.le_of_ble_eq_true rfl⟩ hP hD hS [0, 1] [2, 3, 4] rfl rfl (by decide) 0 rfl rfl rfl ⟨hl.2.1, hl.1⟩ rfl (Nat.le_of_ble_eq_true rfl) d_Scanner_takeDigits_159 ⟨Nat.le_of_ble_eq_true rfl, Nat.le_of_ble_eq_true rfl⟩ rfl (fun u H locs hw hP hD hS => ?_)
            obtain ⟨g2_18, k2_19⟩ := u
            have hP : va_P D classes [(h, .inr (4, [.ref tp, .ref ar, .ref f1, .ref f2, .ref rd, .int (bI em), .int (bI ob), .int (bI oa), .int (iI p1), .int (iI fr1), .int (iI ex), .int (bI hp1)])), (tp, .inr (3, [.ref ta, .int (iI n)])), (ta, .inl (E.2.1, 400, .inl (ia t))), (dn, .inr (0, [.ref da, .int (iI k2_19)])), (da, .inl (E.1, 224, .inl (ia g2_18)))] H := hP
            have hD : va_D A [(h, .inr (4, [.ref tp, .ref ar, .ref f1, .ref f2, .ref rd, .int (bI em), .int (bI ob), .int (bI oa), .int (iI p1), .int (iI fr1), .int (iI ex), .int (bI hp1)])), (tp, .inr (3, [.ref ta, .int (iI n)])), (ta, .inl (E.2.1, 400, .inl (ia t))), (dn, .inr (0, [.ref da, .int (iI k2_19)])), (da, .inl (E.1, 224, .inl (ia g2_18)))] := hD
            have hw : (NatOK g2_18 k2_19 (w * fa + pt)) := hw
            have hM_20 := hw
            refine W.cs (g := F0 m 162 ls []) (cells' := 0) (slots' := 0) rfl rfl ?_
            refine lv_iload hx hb d_Scanner_takeDigits_162 (lv_at hl 5 rfl) ?_
            refine wi_if_le (tgt := 171) hx hb d_Scanner_takeDigits_164 (by decide) (by omega) (fun c_21 => ?_) (fun c_21 => ?_)
            · skip
              refine wi_iconst (n := 0) hx hb d_Scanner_takeDigits_171 ?_
              refine w_as0 ?_
              exact ret (p1, fr1, hp1, g2_18, k2_19, false) _ _ _ _ d_Scanner_takeDigits_172 (show (NatOK g2_18 k2_19 (DGs t n ba pm pos (0, 0, 0, false)).2.1) ∧ (p1 = (DGs t n ba pm pos (0, 0, 0, false)).1) ∧ (false = decide (0 < (DGs t n ba pm pos (0, 0, 0, false)).2.2.1)) ∧ (fr1 = (DGs t n ba pm pos (0, 0, 0, false)).2.2.2.1) ∧ (hp1 = (DGs t n ba pm pos (0, 0, 0, false)).2.2.2.2) ∧ (pos ≤ p1 ∧ p1 ≤ n) ∧ (0 ≤ fr1 ∧ fr1 ≤ (DGs t n ba pm pos (0, 0, 0, false)).2.2.1 ∧ (DGs t n ba pm pos (0, 0, 0, false)).2.2.1 ≤ p1 - pos) ∧ (0 ≤ (DGs t n ba pm pos (0, 0, 0, false)).2.1 ∧ (DGs t n ba pm pos (0, 0, 0, false)).2.1 < P2 (4 * (DGs t n ba pm pos (0, 0, 0, false)).2.2.1)) from ⟨by rw [hst]; exact hM_20, by rw [hst], by rw [hst]; exact (decide_eq_false (show ¬ 0 < cn by omega)).symm, by rw [hst], by rw [hst], by omega, by rw [hst]; dsimp only; omega, by rw [hst]; exact hV⟩) (hP.sub [0, 1, 2, 3, 4] rfl) (hD.sub [0, 1, 2, 3, 4] (by decide) rfl) hS
            · skip
              refine wi_iconst (n := 1) hx hb d_Scanner_takeDigits_167 ?_
              refine lv_goto (tgt := 172) hx hb d_Scanner_takeDigits_168 (by decide) ?_
              refine w_as1 ?_
              exact ret (p1, fr1, hp1, g2_18, k2_19, true) _ _ _ _ d_Scanner_takeDigits_172 (show (NatOK g2_18 k2_19 (DGs t n ba pm pos (0, 0, 0, false)).2.1) ∧ (p1 = (DGs t n ba pm pos (0, 0, 0, false)).1) ∧ (true = decide (0 < (DGs t n ba pm pos (0, 0, 0, false)).2.2.1)) ∧ (fr1 = (DGs t n ba pm pos (0, 0, 0, false)).2.2.2.1) ∧ (hp1 = (DGs t n ba pm pos (0, 0, 0, false)).2.2.2.2) ∧ (pos ≤ p1 ∧ p1 ≤ n) ∧ (0 ≤ fr1 ∧ fr1 ≤ (DGs t n ba pm pos (0, 0, 0, false)).2.2.1 ∧ (DGs t n ba pm pos (0, 0, 0, false)).2.2.1 ≤ p1 - pos) ∧ (0 ≤ (DGs t n ba pm pos (0, 0, 0, false)).2.1 ∧ (DGs t n ba pm pos (0, 0, 0, false)).2.1 < P2 (4 * (DGs t n ba pm pos (0, 0, 0, false)).2.2.1)) from ⟨by rw [hst]; exact hM_20, by rw [hst], by rw [hst]; exact (decide_eq_true (show 0 < cn by omega)).symm, by rw [hst], by rw [hst], by omega, by rw [hst]; dsimp only; omega, by rw [hst]; exact hV⟩) (hP.sub [0, 1, 2, 3, 4] rfl) (hD.sub [0, 1, 2, 3, 4] (by decide) rfl) hS
          · skip
            have hpt9 := dg_part hfa hpt hba (d := dig (rat t n p1)) (by omega)
            have hV9 := dg_bd hV hcn.1 hba (d := dig (rat t n p1)) (by omega)
            have hVe : w * (fa * ba) + (pt * ba + dig (rat t n p1)) = (w * fa + pt) * ba + dig (rat t n p1) := by grind
            refine wi_iinc (v := cn + 1) (lv' := [(4, .int (iI (cn + 1))), (7, .int (iI (dig (rat t n p1)))), (0, .ref h), (1, .ref dn), (2, .int (iI ba)), (3, .int (bI pm)), (5, .int (iI fa)), (6, .int (iI pt))]) hx hb d_Scanner_takeDigits_81 hl (k := 5) rfl rfl (by decide) rfl (fun ls hl => ?_)
            refine lv_aload_n hx hb d_Scanner_takeDigits_84 rfl (lv_at hl 2 rfl) ?_
            refine lv_dup hx hb d_Scanner_takeDigits_85 rfl ?_
            refine wk_get B hP 2 rfl fl_Scanner_144 (v := .int (iI fr1)) rfl d_Scanner_takeDigits_86 ?_
            refine lv_aload_n hx hb d_Scanner_takeDigits_89 rfl (lv_at hl 2 rfl) ?_
            refine wk_get B hP 2 rfl fl_Scanner_150 (v := .int (bI hp1)) rfl d_Scanner_takeDigits_90 ?_
            refine wb_if_eq (tgt := 100) hx hb d_Scanner_takeDigits_93 (by decide) (fun c_22 => ?_) (fun c_22 => ?_)
            · skip
              refine wi_iconst (n := 0) hx hb d_Scanner_takeDigits_100 ?_
              refine wi_iadd hx hb d_Scanner_takeDigits_101 ?_
              refine wk_put B hP hD hS 2 rfl fl_Scanner_144 fp_Scanner_9 (v := .int (iI (fr1 + 0))) rfl rfl (Nat.le_of_ble_eq_true rfl) d_Scanner_takeDigits_102 (fun H locs hP hD hS => ?_)
              have hP : va_P D classes [(dn, .inr (0, [.ref da, .int (iI k1)])), (da, .inl (E.1, 224, .inl (ia g1))), (h, .inr (4, [.ref tp, .ref ar, .ref f1, .ref f2, .ref rd, .int (bI em), .int (bI ob), .int (bI oa), .int (iI p1), .int (iI (fr1 + 0)), .int (iI ex), .int (bI hp1)])), (tp, .inr (3, [.ref ta, .int (iI n)])), (ta, .inl (E.2.1, 400, .inl (ia t)))] H := hP
              have hD : va_D A [(dn, .inr (0, [.ref da, .int (iI k1)])), (da, .inl (E.1, 224, .inl (ia g1))), (h, .inr (4, [.ref tp, .ref ar, .ref f1, .ref f2, .ref rd, .int (bI em), .int (bI ob), .int (bI oa), .int (iI p1), .int (iI (fr1 + 0)), .int (iI ex), .int (bI hp1)])), (tp, .inr (3, [.ref ta, .int (iI n)])), (ta, .inl (E.2.1, 400, .inl (ia t)))] := hD
              refine lv_iload hx hb d_Scanner_takeDigits_105 (lv_at hl 6 rfl) ?_
              refine lv_iload_n hx hb d_Scanner_takeDigits_107 rfl (lv_at hl 4 rfl) ?_
              refine wi_imul hx hb d_Scanner_takeDigits_108 ?_
              refine lv_istore (lv' := [(5, .int (iI (fa * ba))), (4, .int (iI (cn + 1))), (7, .int (iI (dig (rat t n p1)))), (0, .ref h), (1, .ref dn), (2, .int (iI ba)), (3, .int (bI pm)), (6, .int (iI pt))]) hx hb d_Scanner_takeDigits_109 hl (by decide) rfl (fun ls hl => ?_)
              refine lv_iload hx hb d_Scanner_takeDigits_111 (lv_at hl 7 rfl) ?_
              refine lv_iload_n hx hb d_Scanner_takeDigits_113 rfl (lv_at hl 5 rfl) ?_
              refine wi_imul hx hb d_Scanner_takeDigits_114 ?_
              refine lv_iload hx hb d_Scanner_takeDigits_115 (lv_at hl 2 rfl) ?_
              refine wi_iadd hx hb d_Scanner_takeDigits_117 ?_
              refine lv_istore (lv' := [(6, .int (iI (pt * ba + (dig (rat t n p1))))), (5, .int (iI (fa * ba))), (4, .int (iI (cn + 1))), (7, .int (iI (dig (rat t n p1)))), (0, .ref h), (1, .ref dn), (2, .int (iI ba)), (3, .int (bI pm))]) hx hb d_Scanner_takeDigits_118 hl (by decide) rfl (fun ls hl => ?_)
              exact K_120 (fr1 + 0) (fa * ba) (pt * ba + (dig (rat t n p1))) (cn + 1) hp1 (by omega) (by rw [hD0, hVe]; exact DG_digit (by omega) (by omega) (by omega) (by omega) rfl (by rw [c_22]; rfl)) (hpt9.2) (hpt9.1) (by omega) (by omega) (by rw [hVe]; exact hV9) _ _ _ (lv_sub hl [4, 5, 6, 7, 2, 1, 0] rfl) (hP.sub [2, 3, 4, 0, 1] rfl) (hD.sub [2, 3, 4, 0, 1] (by decide) rfl) hS
            · skip
              refine wi_iconst (n := 1) hx hb d_Scanner_takeDigits_96 ?_
              refine lv_goto (tgt := 101) hx hb d_Scanner_takeDigits_97 (by decide) ?_
              refine wi_iadd hx hb d_Scanner_takeDigits_101 ?_
              refine wk_put B hP hD hS 2 rfl fl_Scanner_144 fp_Scanner_9 (v := .int (iI (fr1 + 1))) rfl rfl (Nat.le_of_ble_eq_true rfl) d_Scanner_takeDigits_102 (fun H locs hP hD hS => ?_)
              have hP : va_P D classes [(dn, .inr (0, [.ref da, .int (iI k1)])), (da, .inl (E.1, 224, .inl (ia g1))), (h, .inr (4, [.ref tp, .ref ar, .ref f1, .ref f2, .ref rd, .int (bI em), .int (bI ob), .int (bI oa), .int (iI p1), .int (iI (fr1 + 1)), .int (iI ex), .int (bI hp1)])), (tp, .inr (3, [.ref ta, .int (iI n)])), (ta, .inl (E.2.1, 400, .inl (ia t)))] H := hP
              have hD : va_D A [(dn, .inr (0, [.ref da, .int (iI k1)])), (da, .inl (E.1, 224, .inl (ia g1))), (h, .inr (4, [.ref tp, .ref ar, .ref f1, .ref f2, .ref rd, .int (bI em), .int (bI ob), .int (bI oa), .int (iI p1), .int (iI (fr1 + 1)), .int (iI ex), .int (bI hp1)])), (tp, .inr (3, [.ref ta, .int (iI n)])), (ta, .inl (E.2.1, 400, .inl (ia t)))] := hD
              refine lv_iload hx hb d_Scanner_takeDigits_105 (lv_at hl 6 rfl) ?_
              refine lv_iload_n hx hb d_Scanner_takeDigits_107 rfl (lv_at hl 4 rfl) ?_
              refine wi_imul hx hb d_Scanner_takeDigits_108 ?_
              refine lv_istore (lv' := [(5, .int (iI (fa * ba))), (4, .int (iI (cn + 1))), (7, .int (iI (dig (rat t n p1)))), (0, .ref h), (1, .ref dn), (2, .int (iI ba)), (3, .int (bI pm)), (6, .int (iI pt))]) hx hb d_Scanner_takeDigits_109 hl (by decide) rfl (fun ls hl => ?_)
              refine lv_iload hx hb d_Scanner_takeDigits_111 (lv_at hl 7 rfl) ?_
              refine lv_iload_n hx hb d_Scanner_takeDigits_113 rfl (lv_at hl 5 rfl) ?_
              refine wi_imul hx hb d_Scanner_takeDigits_114 ?_
              refine lv_iload hx hb d_Scanner_takeDigits_115 (lv_at hl 2 rfl) ?_
              refine wi_iadd hx hb d_Scanner_takeDigits_117 ?_
              refine lv_istore (lv' := [(6, .int (iI (pt * ba + (dig (rat t n p1))))), (5, .int (iI (fa * ba))), (4, .int (iI (cn + 1))), (7, .int (iI (dig (rat t n p1)))), (0, .ref h), (1, .ref dn), (2, .int (iI ba)), (3, .int (bI pm))]) hx hb d_Scanner_takeDigits_118 hl (by decide) rfl (fun ls hl => ?_)
              exact K_120 (fr1 + 1) (fa * ba) (pt * ba + (dig (rat t n p1))) (cn + 1) hp1 (by omega) (by rw [hD0, hVe]; exact DG_digit (by omega) (by omega) (by omega) (by omega) rfl (by rw [c_22]; rfl)) (hpt9.2) (hpt9.1) (by omega) (by omega) (by rw [hVe]; exact hV9) _ _ _ (lv_sub hl [4, 5, 6, 7, 2, 1, 0] rfl) (hP.sub [2, 3, 4, 0, 1] rfl) (hD.sub [2, 3, 4, 0, 1] (by decide) rfl) hS
        · skip
          refine lv_iload_n hx hb d_Scanner_takeDigits_56 rfl (lv_at hl 4 rfl) ?_
          refine wb_if_eq (tgt := 75) hx hb d_Scanner_takeDigits_57 (by decide) (fun c_23 => ?_) (fun c_23 => ?_)
          · skip
            refine lv_iload hx hb d_Scanner_takeDigits_75 (lv_at hl 0 rfl) ?_
            refine lv_iload_n hx hb d_Scanner_takeDigits_77 rfl (lv_at hl 3 rfl) ?_
            refine wi_icmp_ge (tgt := 154) hx hb d_Scanner_takeDigits_78 (by decide) (by omega) (by omega) (fun c_24 => ?_) (fun c_24 => ?_)
            · skip
              have hst : DGs t n ba pm pos (0, 0, 0, false) = (p1, w * fa + pt, cn, fr1, hp1) := by
                rw [hD0]
                refine DG_stop (by omega) ?_
                first | (exact Or.inl (by omega)) | (exact Or.inr ⟨by omega, Or.inl c_16⟩) | (exact Or.inr ⟨by omega, Or.inr (Or.inl c_23)⟩) | (exact Or.inr ⟨by omega, Or.inr (Or.inr c_30)⟩)
              refine lv_aload_n hx hb d_Scanner_takeDigits_154 rfl (lv_at hl 2 rfl) ?_
              refine lv_iload hx hb d_Scanner_takeDigits_155 (lv_at hl 6 rfl) ?_
              refine lv_iload hx hb d_Scanner_takeDigits_157 (lv_at hl 7 rfl) ?_
              refine wk_callV (As := [.int (iI fa), .int (iI pt)]) (rest := []) (wr := [(h, .inr (4, [.ref tp, .ref ar, .ref f1, .ref f2, .ref rd, .int (bI em), .int (bI ob), .int (bI oa), .int (iI p1), .int (iI fr1), .int (iI ex), .int (bI hp1)])), (tp, .inr (3, [.ref ta, .int (iI n)])), (ta, .inl (E.2.1, 400, .inl (ia t)))]) B gTB cl_Scanner_165 (c_Natural_timesPlus l D E dn da g1 k1 fa pt w (hN1) (by omega) (by omega) (dg_fit hV.2 (by omega))) ⟨⟨rfl, rfl⟩, Nat.le_of_ble_eq_true rfl, Nat.le_of_ble_eq_true rfl⟩ hP hD hS [0, 1] [2, 3, 4] rfl rfl (by decide) 0 rfl rfl rfl ⟨hl.2.1, hl.1⟩ rfl (Nat.le_of_ble_eq_true rfl) d_Scanner_takeDigits_159 ⟨Nat.le_of_ble_eq_true rfl, Nat.le_of_ble_eq_true rfl⟩ rfl (fun u H locs hw hP hD hS => ?_)
              obtain ⟨g2_25, k2_26⟩ := u
              have hP : va_P D classes [(h, .inr (4, [.ref tp, .ref ar, .ref f1, .ref f2, .ref rd, .int (bI em), .int (bI ob), .int (bI oa), .int (iI p1), .int (iI fr1), .int (iI ex), .int (bI hp1)])), (tp, .inr (3, [.ref ta, .int (iI n)])), (ta, .inl (E.2.1, 400, .inl (ia t))), (dn, .inr (0, [.ref da, .int (iI k2_26)])), (da, .inl (E.1, 224, .inl (ia g2_25)))] H := hP
              have hD : va_D A [(h, .inr (4, [.ref tp, .ref ar, .ref f1, .ref f2, .ref rd, .int (bI em), .int (bI ob), .int (bI oa), .int (iI p1), .int (iI fr1), .int (iI ex), .int (bI hp1)])), (tp, .inr (3, [.ref ta, .int (iI n)])), (ta, .inl (E.2.1, 400, .inl (ia t))), (dn, .inr (0, [.ref da, .int (iI k2_26)])), (da, .inl (E.1, 224, .inl (ia g2_25)))] := hD
              have hw : (NatOK g2_25 k2_26 (w * fa + pt)) := hw
              have hM_27 := hw
              refine W.cs (g := F0 m 162 ls []) (cells' := 0) (slots' := 0) rfl rfl ?_
              refine lv_iload hx hb d_Scanner_takeDigits_162 (lv_at hl 5 rfl) ?_
              refine wi_if_le (tgt := 171) hx hb d_Scanner_takeDigits_164 (by decide) (by omega) (fun c_28 => ?_) (fun c_28 => ?_)
              · skip
                refine wi_iconst (n := 0) hx hb d_Scanner_takeDigits_171 ?_
                refine w_as0 ?_
                exact ret (p1, fr1, hp1, g2_25, k2_26, false) _ _ _ _ d_Scanner_takeDigits_172 (show (NatOK g2_25 k2_26 (DGs t n ba pm pos (0, 0, 0, false)).2.1) ∧ (p1 = (DGs t n ba pm pos (0, 0, 0, false)).1) ∧ (false = decide (0 < (DGs t n ba pm pos (0, 0, 0, false)).2.2.1)) ∧ (fr1 = (DGs t n ba pm pos (0, 0, 0, false)).2.2.2.1) ∧ (hp1 = (DGs t n ba pm pos (0, 0, 0, false)).2.2.2.2) ∧ (pos ≤ p1 ∧ p1 ≤ n) ∧ (0 ≤ fr1 ∧ fr1 ≤ (DGs t n ba pm pos (0, 0, 0, false)).2.2.1 ∧ (DGs t n ba pm pos (0, 0, 0, false)).2.2.1 ≤ p1 - pos) ∧ (0 ≤ (DGs t n ba pm pos (0, 0, 0, false)).2.1 ∧ (DGs t n ba pm pos (0, 0, 0, false)).2.1 < P2 (4 * (DGs t n ba pm pos (0, 0, 0, false)).2.2.1)) from ⟨by rw [hst]; exact hM_27, by rw [hst], by rw [hst]; exact (decide_eq_false (show ¬ 0 < cn by omega)).symm, by rw [hst], by rw [hst], by omega, by rw [hst]; dsimp only; omega, by rw [hst]; exact hV⟩) (hP.sub [0, 1, 2, 3, 4] rfl) (hD.sub [0, 1, 2, 3, 4] (by decide) rfl) hS
              · skip
                refine wi_iconst (n := 1) hx hb d_Scanner_takeDigits_167 ?_
                refine lv_goto (tgt := 172) hx hb d_Scanner_takeDigits_168 (by decide) ?_
                refine w_as1 ?_
                exact ret (p1, fr1, hp1, g2_25, k2_26, true) _ _ _ _ d_Scanner_takeDigits_172 (show (NatOK g2_25 k2_26 (DGs t n ba pm pos (0, 0, 0, false)).2.1) ∧ (p1 = (DGs t n ba pm pos (0, 0, 0, false)).1) ∧ (true = decide (0 < (DGs t n ba pm pos (0, 0, 0, false)).2.2.1)) ∧ (fr1 = (DGs t n ba pm pos (0, 0, 0, false)).2.2.2.1) ∧ (hp1 = (DGs t n ba pm pos (0, 0, 0, false)).2.2.2.2) ∧ (pos ≤ p1 ∧ p1 ≤ n) ∧ (0 ≤ fr1 ∧ fr1 ≤ (DGs t n ba pm pos (0, 0, 0, false)).2.2.1 ∧ (DGs t n ba pm pos (0, 0, 0, false)).2.2.1 ≤ p1 - pos) ∧ (0 ≤ (DGs t n ba pm pos (0, 0, 0, false)).2.1 ∧ (DGs t n ba pm pos (0, 0, 0, false)).2.1 < P2 (4 * (DGs t n ba pm pos (0, 0, 0, false)).2.2.1)) from ⟨by rw [hst]; exact hM_27, by rw [hst], by rw [hst]; exact (decide_eq_true (show 0 < cn by omega)).symm, by rw [hst], by rw [hst], by omega, by rw [hst]; dsimp only; omega, by rw [hst]; exact hV⟩) (hP.sub [0, 1, 2, 3, 4] rfl) (hD.sub [0, 1, 2, 3, 4] (by decide) rfl) hS
            · skip
              have hpt9 := dg_part hfa hpt hba (d := dig (rat t n p1)) (by omega)
              have hV9 := dg_bd hV hcn.1 hba (d := dig (rat t n p1)) (by omega)
              have hVe : w * (fa * ba) + (pt * ba + dig (rat t n p1)) = (w * fa + pt) * ba + dig (rat t n p1) := by grind
              refine wi_iinc (v := cn + 1) (lv' := [(4, .int (iI (cn + 1))), (7, .int (iI (dig (rat t n p1)))), (0, .ref h), (1, .ref dn), (2, .int (iI ba)), (3, .int (bI pm)), (5, .int (iI fa)), (6, .int (iI pt))]) hx hb d_Scanner_takeDigits_81 hl (k := 5) rfl rfl (by decide) rfl (fun ls hl => ?_)
              refine lv_aload_n hx hb d_Scanner_takeDigits_84 rfl (lv_at hl 2 rfl) ?_
              refine lv_dup hx hb d_Scanner_takeDigits_85 rfl ?_
              refine wk_get B hP 2 rfl fl_Scanner_144 (v := .int (iI fr1)) rfl d_Scanner_takeDigits_86 ?_
              refine lv_aload_n hx hb d_Scanner_takeDigits_89 rfl (lv_at hl 2 rfl) ?_
              refine wk_get B hP 2 rfl fl_Scanner_150 (v := .int (bI hp1)) rfl d_Scanner_takeDigits_90 ?_
              refine wb_if_eq (tgt := 100) hx hb d_Scanner_takeDigits_93 (by decide) (fun c_29 => ?_) (fun c_29 => ?_)
              · skip
                refine wi_iconst (n := 0) hx hb d_Scanner_takeDigits_100 ?_
                refine wi_iadd hx hb d_Scanner_takeDigits_101 ?_
                refine wk_put B hP hD hS 2 rfl fl_Scanner_144 fp_Scanner_9 (v := .int (iI (fr1 + 0))) rfl rfl (Nat.le_of_ble_eq_true rfl) d_Scanner_takeDigits_102 (fun H locs hP hD hS => ?_)
                have hP : va_P D classes [(dn, .inr (0, [.ref da, .int (iI k1)])), (da, .inl (E.1, 224, .inl (ia g1))), (h, .inr (4, [.ref tp, .ref ar, .ref f1, .ref f2, .ref rd, .int (bI em), .int (bI ob), .int (bI oa), .int (iI p1), .int (iI (fr1 + 0)), .int (iI ex), .int (bI hp1)])), (tp, .inr (3, [.ref ta, .int (iI n)])), (ta, .inl (E.2.1, 400, .inl (ia t)))] H := hP
                have hD : va_D A [(dn, .inr (0, [.ref da, .int (iI k1)])), (da, .inl (E.1, 224, .inl (ia g1))), (h, .inr (4, [.ref tp, .ref ar, .ref f1, .ref f2, .ref rd, .int (bI em), .int (bI ob), .int (bI oa), .int (iI p1), .int (iI (fr1 + 0)), .int (iI ex), .int (bI hp1)])), (tp, .inr (3, [.ref ta, .int (iI n)])), (ta, .inl (E.2.1, 400, .inl (ia t)))] := hD
                refine lv_iload hx hb d_Scanner_takeDigits_105 (lv_at hl 6 rfl) ?_
                refine lv_iload_n hx hb d_Scanner_takeDigits_107 rfl (lv_at hl 4 rfl) ?_
                refine wi_imul hx hb d_Scanner_takeDigits_108 ?_
                refine lv_istore (lv' := [(5, .int (iI (fa * ba))), (4, .int (iI (cn + 1))), (7, .int (iI (dig (rat t n p1)))), (0, .ref h), (1, .ref dn), (2, .int (iI ba)), (3, .int (bI pm)), (6, .int (iI pt))]) hx hb d_Scanner_takeDigits_109 hl (by decide) rfl (fun ls hl => ?_)
                refine lv_iload hx hb d_Scanner_takeDigits_111 (lv_at hl 7 rfl) ?_
                refine lv_iload_n hx hb d_Scanner_takeDigits_113 rfl (lv_at hl 5 rfl) ?_
                refine wi_imul hx hb d_Scanner_takeDigits_114 ?_
                refine lv_iload hx hb d_Scanner_takeDigits_115 (lv_at hl 2 rfl) ?_
                refine wi_iadd hx hb d_Scanner_takeDigits_117 ?_
                refine lv_istore (lv' := [(6, .int (iI (pt * ba + (dig (rat t n p1))))), (5, .int (iI (fa * ba))), (4, .int (iI (cn + 1))), (7, .int (iI (dig (rat t n p1)))), (0, .ref h), (1, .ref dn), (2, .int (iI ba)), (3, .int (bI pm))]) hx hb d_Scanner_takeDigits_118 hl (by decide) rfl (fun ls hl => ?_)
                exact K_120 (fr1 + 0) (fa * ba) (pt * ba + (dig (rat t n p1))) (cn + 1) hp1 (by omega) (by rw [hD0, hVe]; exact DG_digit (by omega) (by omega) (by omega) (by omega) rfl (by rw [c_29]; rfl)) (hpt9.2) (hpt9.1) (by omega) (by omega) (by rw [hVe]; exact hV9) _ _ _ (lv_sub hl [4, 5, 6, 7, 2, 1, 0] rfl) (hP.sub [2, 3, 4, 0, 1] rfl) (hD.sub [2, 3, 4, 0, 1] (by decide) rfl) hS
              · skip
                refine wi_iconst (n := 1) hx hb d_Scanner_takeDigits_96 ?_
                refine lv_goto (tgt := 101) hx hb d_Scanner_takeDigits_97 (by decide) ?_
                refine wi_iadd hx hb d_Scanner_takeDigits_101 ?_
                refine wk_put B hP hD hS 2 rfl fl_Scanner_144 fp_Scanner_9 (v := .int (iI (fr1 + 1))) rfl rfl (Nat.le_of_ble_eq_true rfl) d_Scanner_takeDigits_102 (fun H locs hP hD hS => ?_)
                have hP : va_P D classes [(dn, .inr (0, [.ref da, .int (iI k1)])), (da, .inl (E.1, 224, .inl (ia g1))), (h, .inr (4, [.ref tp, .ref ar, .ref f1, .ref f2, .ref rd, .int (bI em), .int (bI ob), .int (bI oa), .int (iI p1), .int (iI (fr1 + 1)), .int (iI ex), .int (bI hp1)])), (tp, .inr (3, [.ref ta, .int (iI n)])), (ta, .inl (E.2.1, 400, .inl (ia t)))] H := hP
                have hD : va_D A [(dn, .inr (0, [.ref da, .int (iI k1)])), (da, .inl (E.1, 224, .inl (ia g1))), (h, .inr (4, [.ref tp, .ref ar, .ref f1, .ref f2, .ref rd, .int (bI em), .int (bI ob), .int (bI oa), .int (iI p1), .int (iI (fr1 + 1)), .int (iI ex), .int (bI hp1)])), (tp, .inr (3, [.ref ta, .int (iI n)])), (ta, .inl (E.2.1, 400, .inl (ia t)))] := hD
                refine lv_iload hx hb d_Scanner_takeDigits_105 (lv_at hl 6 rfl) ?_
                refine lv_iload_n hx hb d_Scanner_takeDigits_107 rfl (lv_at hl 4 rfl) ?_
                refine wi_imul hx hb d_Scanner_takeDigits_108 ?_
                refine lv_istore (lv' := [(5, .int (iI (fa * ba))), (4, .int (iI (cn + 1))), (7, .int (iI (dig (rat t n p1)))), (0, .ref h), (1, .ref dn), (2, .int (iI ba)), (3, .int (bI pm)), (6, .int (iI pt))]) hx hb d_Scanner_takeDigits_109 hl (by decide) rfl (fun ls hl => ?_)
                refine lv_iload hx hb d_Scanner_takeDigits_111 (lv_at hl 7 rfl) ?_
                refine lv_iload_n hx hb d_Scanner_takeDigits_113 rfl (lv_at hl 5 rfl) ?_
                refine wi_imul hx hb d_Scanner_takeDigits_114 ?_
                refine lv_iload hx hb d_Scanner_takeDigits_115 (lv_at hl 2 rfl) ?_
                refine wi_iadd hx hb d_Scanner_takeDigits_117 ?_
                refine lv_istore (lv' := [(6, .int (iI (pt * ba + (dig (rat t n p1))))), (5, .int (iI (fa * ba))), (4, .int (iI (cn + 1))), (7, .int (iI (dig (rat t n p1)))), (0, .ref h), (1, .ref dn), (2, .int (iI ba)), (3, .int (bI pm))]) hx hb d_Scanner_takeDigits_118 hl (by decide) rfl (fun ls hl => ?_)
                exact K_120 (fr1 + 1) (fa * ba) (pt * ba + (dig (rat t n p1))) (cn + 1) hp1 (by omega) (by rw [hD0, hVe]; exact DG_digit (by omega) (by omega) (by omega) (by omega) rfl (by rw [c_29]; rfl)) (hpt9.2) (hpt9.1) (by omega) (by omega) (by rw [hVe]; exact hV9) _ _ _ (lv_sub hl [4, 5, 6, 7, 2, 1, 0] rfl) (hP.sub [2, 3, 4, 0, 1] rfl) (hD.sub [2, 3, 4, 0, 1] (by decide) rfl) hS
          · skip
            refine lv_aload_n hx hb d_Scanner_takeDigits_60 rfl (lv_at hl 1 rfl) ?_
            refine wk_get B hP 2 rfl fl_Scanner_150 (v := .int (bI hp1)) rfl d_Scanner_takeDigits_61 ?_
            refine wb_if_ne (tgt := 75) hx hb d_Scanner_takeDigits_64 (by decide) (fun c_30 => ?_) (fun c_30 => ?_)
            · skip
              refine lv_iload hx hb d_Scanner_takeDigits_75 (lv_at hl 0 rfl) ?_
              refine lv_iload_n hx hb d_Scanner_takeDigits_77 rfl (lv_at hl 3 rfl) ?_
              refine wi_icmp_ge (tgt := 154) hx hb d_Scanner_takeDigits_78 (by decide) (by omega) (by omega) (fun c_31 => ?_) (fun c_31 => ?_)
              · skip
                have hst : DGs t n ba pm pos (0, 0, 0, false) = (p1, w * fa + pt, cn, fr1, hp1) := by
                  rw [hD0]
                  refine DG_stop (by omega) ?_
                  first | (exact Or.inl (by omega)) | (exact Or.inr ⟨by omega, Or.inl c_16⟩) | (exact Or.inr ⟨by omega, Or.inr (Or.inl c_23)⟩) | (exact Or.inr ⟨by omega, Or.inr (Or.inr c_30)⟩)
                refine lv_aload_n hx hb d_Scanner_takeDigits_154 rfl (lv_at hl 2 rfl) ?_
                refine lv_iload hx hb d_Scanner_takeDigits_155 (lv_at hl 6 rfl) ?_
                refine lv_iload hx hb d_Scanner_takeDigits_157 (lv_at hl 7 rfl) ?_
                refine wk_callV (As := [.int (iI fa), .int (iI pt)]) (rest := []) (wr := [(h, .inr (4, [.ref tp, .ref ar, .ref f1, .ref f2, .ref rd, .int (bI em), .int (bI ob), .int (bI oa), .int (iI p1), .int (iI fr1), .int (iI ex), .int (bI hp1)])), (tp, .inr (3, [.ref ta, .int (iI n)])), (ta, .inl (E.2.1, 400, .inl (ia t)))]) B gTB cl_Scanner_165 (c_Natural_timesPlus l D E dn da g1 k1 fa pt w (hN1) (by omega) (by omega) (dg_fit hV.2 (by omega))) ⟨⟨rfl, rfl⟩, Nat.le_of_ble_eq_true rfl, Nat.le_of_ble_eq_true rfl⟩ hP hD hS [0, 1] [2, 3, 4] rfl rfl (by decide) 0 rfl rfl rfl ⟨hl.2.1, hl.1⟩ rfl (Nat.le_of_ble_eq_true rfl) d_Scanner_takeDigits_159 ⟨Nat.le_of_ble_eq_true rfl, Nat.le_of_ble_eq_true rfl⟩ rfl (fun u H locs hw hP hD hS => ?_)
                obtain ⟨g2_32, k2_33⟩ := u
                have hP : va_P D classes [(h, .inr (4, [.ref tp, .ref ar, .ref f1, .ref f2, .ref rd, .int (bI em), .int (bI ob), .int (bI oa), .int (iI p1), .int (iI fr1), .int (iI ex), .int (bI hp1)])), (tp, .inr (3, [.ref ta, .int (iI n)])), (ta, .inl (E.2.1, 400, .inl (ia t))), (dn, .inr (0, [.ref da, .int (iI k2_33)])), (da, .inl (E.1, 224, .inl (ia g2_32)))] H := hP
                have hD : va_D A [(h, .inr (4, [.ref tp, .ref ar, .ref f1, .ref f2, .ref rd, .int (bI em), .int (bI ob), .int (bI oa), .int (iI p1), .int (iI fr1), .int (iI ex), .int (bI hp1)])), (tp, .inr (3, [.ref ta, .int (iI n)])), (ta, .inl (E.2.1, 400, .inl (ia t))), (dn, .inr (0, [.ref da, .int (iI k2_33)])), (da, .inl (E.1, 224, .inl (ia g2_32)))] := hD
                have hw : (NatOK g2_32 k2_33 (w * fa + pt)) := hw
                have hM_34 := hw
                refine W.cs (g := F0 m 162 ls []) (cells' := 0) (slots' := 0) rfl rfl ?_
                refine lv_iload hx hb d_Scanner_takeDigits_162 (lv_at hl 5 rfl) ?_
                refine wi_if_le (tgt := 171) hx hb d_Scanner_takeDigits_164 (by decide) (by omega) (fun c_35 => ?_) (fun c_35 => ?_)
                · skip
                  refine wi_iconst (n := 0) hx hb d_Scanner_takeDigits_171 ?_
                  refine w_as0 ?_
                  exact ret (p1, fr1, hp1, g2_32, k2_33, false) _ _ _ _ d_Scanner_takeDigits_172 (show (NatOK g2_32 k2_33 (DGs t n ba pm pos (0, 0, 0, false)).2.1) ∧ (p1 = (DGs t n ba pm pos (0, 0, 0, false)).1) ∧ (false = decide (0 < (DGs t n ba pm pos (0, 0, 0, false)).2.2.1)) ∧ (fr1 = (DGs t n ba pm pos (0, 0, 0, false)).2.2.2.1) ∧ (hp1 = (DGs t n ba pm pos (0, 0, 0, false)).2.2.2.2) ∧ (pos ≤ p1 ∧ p1 ≤ n) ∧ (0 ≤ fr1 ∧ fr1 ≤ (DGs t n ba pm pos (0, 0, 0, false)).2.2.1 ∧ (DGs t n ba pm pos (0, 0, 0, false)).2.2.1 ≤ p1 - pos) ∧ (0 ≤ (DGs t n ba pm pos (0, 0, 0, false)).2.1 ∧ (DGs t n ba pm pos (0, 0, 0, false)).2.1 < P2 (4 * (DGs t n ba pm pos (0, 0, 0, false)).2.2.1)) from ⟨by rw [hst]; exact hM_34, by rw [hst], by rw [hst]; exact (decide_eq_false (show ¬ 0 < cn by omega)).symm, by rw [hst], by rw [hst], by omega, by rw [hst]; dsimp only; omega, by rw [hst]; exact hV⟩) (hP.sub [0, 1, 2, 3, 4] rfl) (hD.sub [0, 1, 2, 3, 4] (by decide) rfl) hS
                · skip
                  refine wi_iconst (n := 1) hx hb d_Scanner_takeDigits_167 ?_
                  refine lv_goto (tgt := 172) hx hb d_Scanner_takeDigits_168 (by decide) ?_
                  refine w_as1 ?_
                  exact ret (p1, fr1, hp1, g2_32, k2_33, true) _ _ _ _ d_Scanner_takeDigits_172 (show (NatOK g2_32 k2_33 (DGs t n ba pm pos (0, 0, 0, false)).2.1) ∧ (p1 = (DGs t n ba pm pos (0, 0, 0, false)).1) ∧ (true = decide (0 < (DGs t n ba pm pos (0, 0, 0, false)).2.2.1)) ∧ (fr1 = (DGs t n ba pm pos (0, 0, 0, false)).2.2.2.1) ∧ (hp1 = (DGs t n ba pm pos (0, 0, 0, false)).2.2.2.2) ∧ (pos ≤ p1 ∧ p1 ≤ n) ∧ (0 ≤ fr1 ∧ fr1 ≤ (DGs t n ba pm pos (0, 0, 0, false)).2.2.1 ∧ (DGs t n ba pm pos (0, 0, 0, false)).2.2.1 ≤ p1 - pos) ∧ (0 ≤ (DGs t n ba pm pos (0, 0, 0, false)).2.1 ∧ (DGs t n ba pm pos (0, 0, 0, false)).2.1 < P2 (4 * (DGs t n ba pm pos (0, 0, 0, false)).2.2.1)) from ⟨by rw [hst]; exact hM_34, by rw [hst], by rw [hst]; exact (decide_eq_true (show 0 < cn by omega)).symm, by rw [hst], by rw [hst], by omega, by rw [hst]; dsimp only; omega, by rw [hst]; exact hV⟩) (hP.sub [0, 1, 2, 3, 4] rfl) (hD.sub [0, 1, 2, 3, 4] (by decide) rfl) hS
              · skip
                have hpt9 := dg_part hfa hpt hba (d := dig (rat t n p1)) (by omega)
                have hV9 := dg_bd hV hcn.1 hba (d := dig (rat t n p1)) (by omega)
                have hVe : w * (fa * ba) + (pt * ba + dig (rat t n p1)) = (w * fa + pt) * ba + dig (rat t n p1) := by grind
                refine wi_iinc (v := cn + 1) (lv' := [(4, .int (iI (cn + 1))), (7, .int (iI (dig (rat t n p1)))), (0, .ref h), (1, .ref dn), (2, .int (iI ba)), (3, .int (bI pm)), (5, .int (iI fa)), (6, .int (iI pt))]) hx hb d_Scanner_takeDigits_81 hl (k := 5) rfl rfl (by decide) rfl (fun ls hl => ?_)
                refine lv_aload_n hx hb d_Scanner_takeDigits_84 rfl (lv_at hl 2 rfl) ?_
                refine lv_dup hx hb d_Scanner_takeDigits_85 rfl ?_
                refine wk_get B hP 2 rfl fl_Scanner_144 (v := .int (iI fr1)) rfl d_Scanner_takeDigits_86 ?_
                refine lv_aload_n hx hb d_Scanner_takeDigits_89 rfl (lv_at hl 2 rfl) ?_
                refine wk_get B hP 2 rfl fl_Scanner_150 (v := .int (bI hp1)) rfl d_Scanner_takeDigits_90 ?_
                refine wb_if_eq (tgt := 100) hx hb d_Scanner_takeDigits_93 (by decide) (fun c_36 => ?_) (fun c_36 => ?_)
                · skip
                  refine wi_iconst (n := 0) hx hb d_Scanner_takeDigits_100 ?_
                  refine wi_iadd hx hb d_Scanner_takeDigits_101 ?_
                  refine wk_put B hP hD hS 2 rfl fl_Scanner_144 fp_Scanner_9 (v := .int (iI (fr1 + 0))) rfl rfl (Nat.le_of_ble_eq_true rfl) d_Scanner_takeDigits_102 (fun H locs hP hD hS => ?_)
                  have hP : va_P D classes [(dn, .inr (0, [.ref da, .int (iI k1)])), (da, .inl (E.1, 224, .inl (ia g1))), (h, .inr (4, [.ref tp, .ref ar, .ref f1, .ref f2, .ref rd, .int (bI em), .int (bI ob), .int (bI oa), .int (iI p1), .int (iI (fr1 + 0)), .int (iI ex), .int (bI hp1)])), (tp, .inr (3, [.ref ta, .int (iI n)])), (ta, .inl (E.2.1, 400, .inl (ia t)))] H := hP
                  have hD : va_D A [(dn, .inr (0, [.ref da, .int (iI k1)])), (da, .inl (E.1, 224, .inl (ia g1))), (h, .inr (4, [.ref tp, .ref ar, .ref f1, .ref f2, .ref rd, .int (bI em), .int (bI ob), .int (bI oa), .int (iI p1), .int (iI (fr1 + 0)), .int (iI ex), .int (bI hp1)])), (tp, .inr (3, [.ref ta, .int (iI n)])), (ta, .inl (E.2.1, 400, .inl (ia t)))] := hD
                  refine lv_iload hx hb d_Scanner_takeDigits_105 (lv_at hl 6 rfl) ?_
                  refine lv_iload_n hx hb d_Scanner_takeDigits_107 rfl (lv_at hl 4 rfl) ?_
                  refine wi_imul hx hb d_Scanner_takeDigits_108 ?_
                  refine lv_istore (lv' := [(5, .int (iI (fa * ba))), (4, .int (iI (cn + 1))), (7, .int (iI (dig (rat t n p1)))), (0, .ref h), (1, .ref dn), (2, .int (iI ba)), (3, .int (bI pm)), (6, .int (iI pt))]) hx hb d_Scanner_takeDigits_109 hl (by decide) rfl (fun ls hl => ?_)
                  refine lv_iload hx hb d_Scanner_takeDigits_111 (lv_at hl 7 rfl) ?_
                  refine lv_iload_n hx hb d_Scanner_takeDigits_113 rfl (lv_at hl 5 rfl) ?_
                  refine wi_imul hx hb d_Scanner_takeDigits_114 ?_
                  refine lv_iload hx hb d_Scanner_takeDigits_115 (lv_at hl 2 rfl) ?_
                  refine wi_iadd hx hb d_Scanner_takeDigits_117 ?_
                  refine lv_istore (lv' := [(6, .int (iI (pt * ba + (dig (rat t n p1))))), (5, .int (iI (fa * ba))), (4, .int (iI (cn + 1))), (7, .int (iI (dig (rat t n p1)))), (0, .ref h), (1, .ref dn), (2, .int (iI ba)), (3, .int (bI pm))]) hx hb d_Scanner_takeDigits_118 hl (by decide) rfl (fun ls hl => ?_)
                  exact K_120 (fr1 + 0) (fa * ba) (pt * ba + (dig (rat t n p1))) (cn + 1) hp1 (by omega) (by rw [hD0, hVe]; exact DG_digit (by omega) (by omega) (by omega) (by omega) rfl (by rw [c_36]; rfl)) (hpt9.2) (hpt9.1) (by omega) (by omega) (by rw [hVe]; exact hV9) _ _ _ (lv_sub hl [4, 5, 6, 7, 2, 1, 0] rfl) (hP.sub [2, 3, 4, 0, 1] rfl) (hD.sub [2, 3, 4, 0, 1] (by decide) rfl) hS
                · skip
                  refine wi_iconst (n := 1) hx hb d_Scanner_takeDigits_96 ?_
                  refine lv_goto (tgt := 101) hx hb d_Scanner_takeDigits_97 (by decide) ?_
                  refine wi_iadd hx hb d_Scanner_takeDigits_101 ?_
                  refine wk_put B hP hD hS 2 rfl fl_Scanner_144 fp_Scanner_9 (v := .int (iI (fr1 + 1))) rfl rfl (Nat.le_of_ble_eq_true rfl) d_Scanner_takeDigits_102 (fun H locs hP hD hS => ?_)
                  have hP : va_P D classes [(dn, .inr (0, [.ref da, .int (iI k1)])), (da, .inl (E.1, 224, .inl (ia g1))), (h, .inr (4, [.ref tp, .ref ar, .ref f1, .ref f2, .ref rd, .int (bI em), .int (bI ob), .int (bI oa), .int (iI p1), .int (iI (fr1 + 1)), .int (iI ex), .int (bI hp1)])), (tp, .inr (3, [.ref ta, .int (iI n)])), (ta, .inl (E.2.1, 400, .inl (ia t)))] H := hP
                  have hD : va_D A [(dn, .inr (0, [.ref da, .int (iI k1)])), (da, .inl (E.1, 224, .inl (ia g1))), (h, .inr (4, [.ref tp, .ref ar, .ref f1, .ref f2, .ref rd, .int (bI em), .int (bI ob), .int (bI oa), .int (iI p1), .int (iI (fr1 + 1)), .int (iI ex), .int (bI hp1)])), (tp, .inr (3, [.ref ta, .int (iI n)])), (ta, .inl (E.2.1, 400, .inl (ia t)))] := hD
                  refine lv_iload hx hb d_Scanner_takeDigits_105 (lv_at hl 6 rfl) ?_
                  refine lv_iload_n hx hb d_Scanner_takeDigits_107 rfl (lv_at hl 4 rfl) ?_
                  refine wi_imul hx hb d_Scanner_takeDigits_108 ?_
                  refine lv_istore (lv' := [(5, .int (iI (fa * ba))), (4, .int (iI (cn + 1))), (7, .int (iI (dig (rat t n p1)))), (0, .ref h), (1, .ref dn), (2, .int (iI ba)), (3, .int (bI pm)), (6, .int (iI pt))]) hx hb d_Scanner_takeDigits_109 hl (by decide) rfl (fun ls hl => ?_)
                  refine lv_iload hx hb d_Scanner_takeDigits_111 (lv_at hl 7 rfl) ?_
                  refine lv_iload_n hx hb d_Scanner_takeDigits_113 rfl (lv_at hl 5 rfl) ?_
                  refine wi_imul hx hb d_Scanner_takeDigits_114 ?_
                  refine lv_iload hx hb d_Scanner_takeDigits_115 (lv_at hl 2 rfl) ?_
                  refine wi_iadd hx hb d_Scanner_takeDigits_117 ?_
                  refine lv_istore (lv' := [(6, .int (iI (pt * ba + (dig (rat t n p1))))), (5, .int (iI (fa * ba))), (4, .int (iI (cn + 1))), (7, .int (iI (dig (rat t n p1)))), (0, .ref h), (1, .ref dn), (2, .int (iI ba)), (3, .int (bI pm))]) hx hb d_Scanner_takeDigits_118 hl (by decide) rfl (fun ls hl => ?_)
                  exact K_120 (fr1 + 1) (fa * ba) (pt * ba + (dig (rat t n p1))) (cn + 1) hp1 (by omega) (by rw [hD0, hVe]; exact DG_digit (by omega) (by omega) (by omega) (by omega) rfl (by rw [c_36]; rfl)) (hpt9.2) (hpt9.1) (by omega) (by omega) (by rw [hVe]; exact hV9) _ _ _ (lv_sub hl [4, 5, 6, 7, 2, 1, 0] rfl) (hP.sub [2, 3, 4, 0, 1] rfl) (hD.sub [2, 3, 4, 0, 1] (by decide) rfl) hS
            · skip
              refine lv_aload_n hx hb d_Scanner_takeDigits_67 rfl (lv_at hl 1 rfl) ?_
              refine wi_iconst (n := 1) hx hb d_Scanner_takeDigits_68 ?_
              refine w_as1 ?_
              refine wk_put B hP hD hS 2 rfl fl_Scanner_150 fp_Scanner_11 (v := .int (bI true)) (bI_nar _) (bI_fit _) (Nat.le_of_ble_eq_true rfl) d_Scanner_takeDigits_69 (fun H locs hP hD hS => ?_)
              have hP : va_P D classes [(dn, .inr (0, [.ref da, .int (iI k1)])), (da, .inl (E.1, 224, .inl (ia g1))), (h, .inr (4, [.ref tp, .ref ar, .ref f1, .ref f2, .ref rd, .int (bI em), .int (bI ob), .int (bI oa), .int (iI p1), .int (iI fr1), .int (iI ex), .int (bI true)])), (tp, .inr (3, [.ref ta, .int (iI n)])), (ta, .inl (E.2.1, 400, .inl (ia t)))] H := hP
              have hD : va_D A [(dn, .inr (0, [.ref da, .int (iI k1)])), (da, .inl (E.1, 224, .inl (ia g1))), (h, .inr (4, [.ref tp, .ref ar, .ref f1, .ref f2, .ref rd, .int (bI em), .int (bI ob), .int (bI oa), .int (iI p1), .int (iI fr1), .int (iI ex), .int (bI true)])), (tp, .inr (3, [.ref ta, .int (iI n)])), (ta, .inl (E.2.1, 400, .inl (ia t)))] := hD
              refine lv_goto (tgt := 120) hx hb d_Scanner_takeDigits_72 (by decide) ?_
              exact K_120 fr1 fa pt cn true (by omega) (by rw [hD0]; exact DG_point (by omega) (by omega) c_16 c_23 c_30) (by omega) (by omega) (by omega) (by omega) (hV) _ _ _ (lv_sub hl [1, 2, 3, 4, 5, 6, 7] rfl) (hP.sub [2, 3, 4, 0, 1] rfl) (hD.sub [2, 3, 4, 0, 1] (by decide) rfl) hS
  refine wi_iconst (n := 0) hx hb d_Scanner_takeDigits_0 ?_
  refine lv_istore (lv' := [(4, .int (iI 0)), (0, .ref h), (1, .ref dn), (2, .int (iI ba)), (3, .int (bI pm))]) hx hb d_Scanner_takeDigits_1 hl (by decide) rfl (fun ls hl => ?_)
  refine lv_aload_n hx hb d_Scanner_takeDigits_3 rfl (lv_at hl 1 rfl) ?_
  refine wi_iconst (n := 0) hx hb d_Scanner_takeDigits_4 ?_
  refine wk_put B hP hD hS 0 rfl fl_Scanner_144 fp_Scanner_9 (v := .int (iI 0)) rfl rfl (Nat.le_of_ble_eq_true rfl) d_Scanner_takeDigits_5 (fun H locs hP hD hS => ?_)
  have hP : va_P D classes [(h, .inr (4, [.ref tp, .ref ar, .ref f1, .ref f2, .ref rd, .int (bI em), .int (bI ob), .int (bI oa), .int (iI pos), .int (iI 0), .int (iI ex), .int (bI hp)])), (tp, .inr (3, [.ref ta, .int (iI n)])), (ta, .inl (E.2.1, 400, .inl (ia t))), (dn, .inr (0, [.ref da, .int (iI k)])), (da, .inl (E.1, 224, .inl (ia g)))] H := hP
  have hD : va_D A [(h, .inr (4, [.ref tp, .ref ar, .ref f1, .ref f2, .ref rd, .int (bI em), .int (bI ob), .int (bI oa), .int (iI pos), .int (iI 0), .int (iI ex), .int (bI hp)])), (tp, .inr (3, [.ref ta, .int (iI n)])), (ta, .inl (E.2.1, 400, .inl (ia t))), (dn, .inr (0, [.ref da, .int (iI k)])), (da, .inl (E.1, 224, .inl (ia g)))] := hD
  refine lv_aload_n hx hb d_Scanner_takeDigits_8 rfl (lv_at hl 1 rfl) ?_
  refine wi_iconst (n := 0) hx hb d_Scanner_takeDigits_9 ?_
  refine w_as0 ?_
  refine wk_put B hP hD hS 0 rfl fl_Scanner_150 fp_Scanner_11 (v := .int (bI false)) (bI_nar _) (bI_fit _) (Nat.le_of_ble_eq_true rfl) d_Scanner_takeDigits_10 (fun H locs hP hD hS => ?_)
  have hP : va_P D classes [(h, .inr (4, [.ref tp, .ref ar, .ref f1, .ref f2, .ref rd, .int (bI em), .int (bI ob), .int (bI oa), .int (iI pos), .int (iI 0), .int (iI ex), .int (bI false)])), (tp, .inr (3, [.ref ta, .int (iI n)])), (ta, .inl (E.2.1, 400, .inl (ia t))), (dn, .inr (0, [.ref da, .int (iI k)])), (da, .inl (E.1, 224, .inl (ia g)))] H := hP
  have hD : va_D A [(h, .inr (4, [.ref tp, .ref ar, .ref f1, .ref f2, .ref rd, .int (bI em), .int (bI ob), .int (bI oa), .int (iI pos), .int (iI 0), .int (iI ex), .int (bI false)])), (tp, .inr (3, [.ref ta, .int (iI n)])), (ta, .inl (E.2.1, 400, .inl (ia t))), (dn, .inr (0, [.ref da, .int (iI k)])), (da, .inl (E.1, 224, .inl (ia g)))] := hD
  refine lv_aload_n hx hb d_Scanner_takeDigits_13 rfl (lv_at hl 2 rfl) ?_
  refine wi_lconst (z := 0) hx hb d_Scanner_takeDigits_14 (by decide) ?_
  refine wk_callV (As := [.long (lI 0)]) (rest := []) (wr := [(h, .inr (4, [.ref tp, .ref ar, .ref f1, .ref f2, .ref rd, .int (bI em), .int (bI ob), .int (bI oa), .int (iI pos), .int (iI 0), .int (iI ex), .int (bI false)])), (tp, .inr (3, [.ref ta, .int (iI n)])), (ta, .inl (E.2.1, 400, .inl (ia t)))]) B gTB cl_Scanner_169 (c_Natural_set l D E dn da g k 0 (by omega)) ⟨⟨rfl, rfl⟩, Nat.le_of_ble_eq_true rfl, Nat.le_of_ble_eq_true rfl⟩ hP hD hS [3, 4] [0, 1, 2] rfl rfl (by decide) 3 rfl rfl rfl ⟨hl.2.1, hl.1⟩ rfl (Nat.le_of_ble_eq_true rfl) d_Scanner_takeDigits_15 ⟨Nat.le_of_ble_eq_true rfl, Nat.le_of_ble_eq_true rfl⟩ rfl (fun u H locs hw hP hD hS => ?_)
  obtain ⟨g2_37, k2_38⟩ := u
  have hP : va_P D classes [(h, .inr (4, [.ref tp, .ref ar, .ref f1, .ref f2, .ref rd, .int (bI em), .int (bI ob), .int (bI oa), .int (iI pos), .int (iI 0), .int (iI ex), .int (bI false)])), (tp, .inr (3, [.ref ta, .int (iI n)])), (ta, .inl (E.2.1, 400, .inl (ia t))), (dn, .inr (0, [.ref da, .int (iI k2_38)])), (da, .inl (E.1, 224, .inl (ia g2_37)))] H := hP
  have hD : va_D A [(h, .inr (4, [.ref tp, .ref ar, .ref f1, .ref f2, .ref rd, .int (bI em), .int (bI ob), .int (bI oa), .int (iI pos), .int (iI 0), .int (iI ex), .int (bI false)])), (tp, .inr (3, [.ref ta, .int (iI n)])), (ta, .inl (E.2.1, 400, .inl (ia t))), (dn, .inr (0, [.ref da, .int (iI k2_38)])), (da, .inl (E.1, 224, .inl (ia g2_37)))] := hD
  have hw : (NatOK g2_37 k2_38 0) := hw
  have hN_39 := hw
  refine W.cs (g := F0 m 18 ls []) (cells' := 0) (slots' := 0) rfl rfl ?_
  refine wi_iconst (n := 1) hx hb d_Scanner_takeDigits_18 ?_
  refine lv_istore (lv' := [(5, .int (iI 1)), (4, .int (iI 0)), (0, .ref h), (1, .ref dn), (2, .int (iI ba)), (3, .int (bI pm))]) hx hb d_Scanner_takeDigits_19 hl (by decide) rfl (fun ls hl => ?_)
  refine wi_iconst (n := 0) hx hb d_Scanner_takeDigits_21 ?_
  refine lv_istore (lv' := [(6, .int (iI 0)), (5, .int (iI 1)), (4, .int (iI 0)), (0, .ref h), (1, .ref dn), (2, .int (iI ba)), (3, .int (bI pm))]) hx hb d_Scanner_takeDigits_22 hl (by decide) rfl (fun ls hl => ?_)
  exact K_24 ((n - pos : Int).toNat + 1) pos 0 1 0 0 k2_38 0 false g2_37 (hN_39) (by omega) (rfl) (by omega) (by omega) (by omega) (by omega) (by rw [show 4 * (0 : Int) = 0 by omega, P2_0]; omega) (by omega) _ _ _ (lv_sub hl [3, 4, 5, 6, 2, 1, 0] rfl) (hP.sub [0, 1, 2, 3, 4] rfl) (hD.sub [0, 1, 2, 3, 4] (by decide) rfl) hS
