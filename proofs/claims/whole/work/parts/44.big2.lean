/-! Big: subtract, product, shift -/
abbrev b_Big_subtract : ByteArray := prog_10_method_12_code
def y_Big_subtract : MethodName := ⟨"IntervalTextModel$Big", "subtract", "(LIntervalTextModel$Big;)V"⟩
abbrev b_Big_product : ByteArray := prog_10_method_7_code
def y_Big_product : MethodName := ⟨"IntervalTextModel$Big", "product", "(LIntervalTextModel$Big;LIntervalTextModel$Big;)V"⟩
abbrev b_Big_shift : ByteArray := prog_10_method_9_code
def y_Big_shift : MethodName := ⟨"IntervalTextModel$Big", "shift", "(I)V"⟩
theorem d_Big_subtract_0 : decode b_Big_subtract 0 = .ok (.iconst 0, 1) := by decide +kernel
theorem d_Big_subtract_1 : decode b_Big_subtract 1 = .ok (.istore_n 2, 1) := by decide +kernel
theorem d_Big_subtract_2 : decode b_Big_subtract 2 = .ok (.iconst 0, 1) := by decide +kernel
theorem d_Big_subtract_3 : decode b_Big_subtract 3 = .ok (.istore_n 3, 1) := by decide +kernel
theorem d_Big_subtract_4 : decode b_Big_subtract 4 = .ok (.iload_n 3, 1) := by decide +kernel
theorem d_Big_subtract_5 : decode b_Big_subtract 5 = .ok (.aload_n 0, 1) := by decide +kernel
theorem d_Big_subtract_6 : decode b_Big_subtract 6 = .ok (.getfield 13, 3) := by decide +kernel
theorem d_Big_subtract_9 : decode b_Big_subtract 9 = .ok (.if_icmp .ge 60, 3) := by decide +kernel
theorem d_Big_subtract_12 : decode b_Big_subtract 12 = .ok (.aload_n 0, 1) := by decide +kernel
theorem d_Big_subtract_13 : decode b_Big_subtract 13 = .ok (.getfield 7, 3) := by decide +kernel
theorem d_Big_subtract_16 : decode b_Big_subtract 16 = .ok (.iload_n 3, 1) := by decide +kernel
theorem d_Big_subtract_17 : decode b_Big_subtract 17 = .ok (.iaload, 1) := by decide +kernel
theorem d_Big_subtract_18 : decode b_Big_subtract 18 = .ok (.iload_n 3, 1) := by decide +kernel
theorem d_Big_subtract_19 : decode b_Big_subtract 19 = .ok (.aload_n 1, 1) := by decide +kernel
theorem d_Big_subtract_20 : decode b_Big_subtract 20 = .ok (.getfield 13, 3) := by decide +kernel
theorem d_Big_subtract_23 : decode b_Big_subtract 23 = .ok (.if_icmp .ge 12, 3) := by decide +kernel
theorem d_Big_subtract_26 : decode b_Big_subtract 26 = .ok (.aload_n 1, 1) := by decide +kernel
theorem d_Big_subtract_27 : decode b_Big_subtract 27 = .ok (.getfield 7, 3) := by decide +kernel
theorem d_Big_subtract_30 : decode b_Big_subtract 30 = .ok (.iload_n 3, 1) := by decide +kernel
theorem d_Big_subtract_31 : decode b_Big_subtract 31 = .ok (.iaload, 1) := by decide +kernel
theorem d_Big_subtract_32 : decode b_Big_subtract 32 = .ok (.goto 4, 3) := by decide +kernel
theorem d_Big_subtract_35 : decode b_Big_subtract 35 = .ok (.iconst 0, 1) := by decide +kernel
theorem d_Big_subtract_36 : decode b_Big_subtract 36 = .ok (.isub, 1) := by decide +kernel
theorem d_Big_subtract_37 : decode b_Big_subtract 37 = .ok (.iload_n 2, 1) := by decide +kernel
theorem d_Big_subtract_38 : decode b_Big_subtract 38 = .ok (.isub, 1) := by decide +kernel
theorem d_Big_subtract_39 : decode b_Big_subtract 39 = .ok (.istore 4, 2) := by decide +kernel
theorem d_Big_subtract_41 : decode b_Big_subtract 41 = .ok (.aload_n 0, 1) := by decide +kernel
theorem d_Big_subtract_42 : decode b_Big_subtract 42 = .ok (.getfield 7, 3) := by decide +kernel
theorem d_Big_subtract_45 : decode b_Big_subtract 45 = .ok (.iload_n 3, 1) := by decide +kernel
theorem d_Big_subtract_46 : decode b_Big_subtract 46 = .ok (.iload 4, 2) := by decide +kernel
theorem d_Big_subtract_48 : decode b_Big_subtract 48 = .ok (.ldc 26, 2) := by decide +kernel
theorem d_Big_subtract_50 : decode b_Big_subtract 50 = .ok (.iand, 1) := by decide +kernel
theorem d_Big_subtract_51 : decode b_Big_subtract 51 = .ok (.iastore, 1) := by decide +kernel
theorem d_Big_subtract_52 : decode b_Big_subtract 52 = .ok (.iload 4, 2) := by decide +kernel
theorem d_Big_subtract_54 : decode b_Big_subtract 54 = .ok (.ifCond .ge 7, 3) := by decide +kernel
theorem d_Big_subtract_57 : decode b_Big_subtract 57 = .ok (.iconst 1, 1) := by decide +kernel
theorem d_Big_subtract_58 : decode b_Big_subtract 58 = .ok (.goto 4, 3) := by decide +kernel
theorem d_Big_subtract_61 : decode b_Big_subtract 61 = .ok (.iconst 0, 1) := by decide +kernel
theorem d_Big_subtract_62 : decode b_Big_subtract 62 = .ok (.istore_n 2, 1) := by decide +kernel
theorem d_Big_subtract_63 : decode b_Big_subtract 63 = .ok (.iinc 3 1, 3) := by decide +kernel
theorem d_Big_subtract_66 : decode b_Big_subtract 66 = .ok (.goto (-62), 3) := by decide +kernel
theorem d_Big_subtract_69 : decode b_Big_subtract 69 = .ok (.aload_n 0, 1) := by decide +kernel
theorem d_Big_subtract_70 : decode b_Big_subtract 70 = .ok (.invokevirtual 19, 3) := by decide +kernel
theorem d_Big_subtract_73 : decode b_Big_subtract 73 = .ok (.return_, 1) := by decide +kernel
theorem d_Big_product_0 : decode b_Big_product 0 = .ok (.aload_n 0, 1) := by decide +kernel
theorem d_Big_product_1 : decode b_Big_product 1 = .ok (.aload_n 1, 1) := by decide +kernel
theorem d_Big_product_2 : decode b_Big_product 2 = .ok (.getfield 13, 3) := by decide +kernel
theorem d_Big_product_5 : decode b_Big_product 5 = .ok (.ifCond .eq 10, 3) := by decide +kernel
theorem d_Big_product_8 : decode b_Big_product 8 = .ok (.aload_n 2, 1) := by decide +kernel
theorem d_Big_product_9 : decode b_Big_product 9 = .ok (.getfield 13, 3) := by decide +kernel
theorem d_Big_product_12 : decode b_Big_product 12 = .ok (.ifCond .ne 7, 3) := by decide +kernel
theorem d_Big_product_15 : decode b_Big_product 15 = .ok (.iconst 0, 1) := by decide +kernel
theorem d_Big_product_16 : decode b_Big_product 16 = .ok (.goto 12, 3) := by decide +kernel
theorem d_Big_product_19 : decode b_Big_product 19 = .ok (.aload_n 1, 1) := by decide +kernel
theorem d_Big_product_20 : decode b_Big_product 20 = .ok (.getfield 13, 3) := by decide +kernel
theorem d_Big_product_23 : decode b_Big_product 23 = .ok (.aload_n 2, 1) := by decide +kernel
theorem d_Big_product_24 : decode b_Big_product 24 = .ok (.getfield 13, 3) := by decide +kernel
theorem d_Big_product_27 : decode b_Big_product 27 = .ok (.iadd, 1) := by decide +kernel
theorem d_Big_product_28 : decode b_Big_product 28 = .ok (.putfield 13, 3) := by decide +kernel
theorem d_Big_product_31 : decode b_Big_product 31 = .ok (.iconst 0, 1) := by decide +kernel
theorem d_Big_product_32 : decode b_Big_product 32 = .ok (.istore_n 3, 1) := by decide +kernel
theorem d_Big_product_33 : decode b_Big_product 33 = .ok (.iload_n 3, 1) := by decide +kernel
theorem d_Big_product_34 : decode b_Big_product 34 = .ok (.aload_n 0, 1) := by decide +kernel
theorem d_Big_product_35 : decode b_Big_product 35 = .ok (.getfield 13, 3) := by decide +kernel
theorem d_Big_product_38 : decode b_Big_product 38 = .ok (.if_icmp .ge 16, 3) := by decide +kernel
theorem d_Big_product_41 : decode b_Big_product 41 = .ok (.aload_n 0, 1) := by decide +kernel
theorem d_Big_product_42 : decode b_Big_product 42 = .ok (.getfield 7, 3) := by decide +kernel
theorem d_Big_product_45 : decode b_Big_product 45 = .ok (.iload_n 3, 1) := by decide +kernel
theorem d_Big_product_46 : decode b_Big_product 46 = .ok (.iconst 0, 1) := by decide +kernel
theorem d_Big_product_47 : decode b_Big_product 47 = .ok (.iastore, 1) := by decide +kernel
theorem d_Big_product_48 : decode b_Big_product 48 = .ok (.iinc 3 1, 3) := by decide +kernel
theorem d_Big_product_51 : decode b_Big_product 51 = .ok (.goto (-18), 3) := by decide +kernel
theorem d_Big_product_54 : decode b_Big_product 54 = .ok (.iconst 0, 1) := by decide +kernel
theorem d_Big_product_55 : decode b_Big_product 55 = .ok (.istore_n 3, 1) := by decide +kernel
theorem d_Big_product_56 : decode b_Big_product 56 = .ok (.iload_n 3, 1) := by decide +kernel
theorem d_Big_product_57 : decode b_Big_product 57 = .ok (.aload_n 1, 1) := by decide +kernel
theorem d_Big_product_58 : decode b_Big_product 58 = .ok (.getfield 13, 3) := by decide +kernel
theorem d_Big_product_61 : decode b_Big_product 61 = .ok (.if_icmp .ge 106, 3) := by decide +kernel
theorem d_Big_product_64 : decode b_Big_product 64 = .ok (.aload_n 0, 1) := by decide +kernel
theorem d_Big_product_65 : decode b_Big_product 65 = .ok (.getfield 13, 3) := by decide +kernel
theorem d_Big_product_68 : decode b_Big_product 68 = .ok (.ifCond .le 99, 3) := by decide +kernel
theorem d_Big_product_71 : decode b_Big_product 71 = .ok (.lconst 0, 1) := by decide +kernel
theorem d_Big_product_72 : decode b_Big_product 72 = .ok (.lstore 4, 2) := by decide +kernel
theorem d_Big_product_74 : decode b_Big_product 74 = .ok (.iconst 0, 1) := by decide +kernel
theorem d_Big_product_75 : decode b_Big_product 75 = .ok (.istore 6, 2) := by decide +kernel
theorem d_Big_product_77 : decode b_Big_product 77 = .ok (.iload 6, 2) := by decide +kernel
theorem d_Big_product_79 : decode b_Big_product 79 = .ok (.aload_n 2, 1) := by decide +kernel
theorem d_Big_product_80 : decode b_Big_product 80 = .ok (.getfield 13, 3) := by decide +kernel
theorem d_Big_product_83 : decode b_Big_product 83 = .ok (.if_icmp .ge 64, 3) := by decide +kernel
theorem d_Big_product_86 : decode b_Big_product 86 = .ok (.aload_n 1, 1) := by decide +kernel
theorem d_Big_product_87 : decode b_Big_product 87 = .ok (.getfield 7, 3) := by decide +kernel
theorem d_Big_product_90 : decode b_Big_product 90 = .ok (.iload_n 3, 1) := by decide +kernel
theorem d_Big_product_91 : decode b_Big_product 91 = .ok (.iaload, 1) := by decide +kernel
theorem d_Big_product_92 : decode b_Big_product 92 = .ok (.i2l, 1) := by decide +kernel
theorem d_Big_product_93 : decode b_Big_product 93 = .ok (.aload_n 2, 1) := by decide +kernel
theorem d_Big_product_94 : decode b_Big_product 94 = .ok (.getfield 7, 3) := by decide +kernel
theorem d_Big_product_97 : decode b_Big_product 97 = .ok (.iload 6, 2) := by decide +kernel
theorem d_Big_product_99 : decode b_Big_product 99 = .ok (.iaload, 1) := by decide +kernel
theorem d_Big_product_100 : decode b_Big_product 100 = .ok (.i2l, 1) := by decide +kernel
theorem d_Big_product_101 : decode b_Big_product 101 = .ok (.lmul, 1) := by decide +kernel
theorem d_Big_product_102 : decode b_Big_product 102 = .ok (.aload_n 0, 1) := by decide +kernel
theorem d_Big_product_103 : decode b_Big_product 103 = .ok (.getfield 7, 3) := by decide +kernel
theorem d_Big_product_106 : decode b_Big_product 106 = .ok (.iload_n 3, 1) := by decide +kernel
theorem d_Big_product_107 : decode b_Big_product 107 = .ok (.iload 6, 2) := by decide +kernel
theorem d_Big_product_109 : decode b_Big_product 109 = .ok (.iadd, 1) := by decide +kernel
theorem d_Big_product_110 : decode b_Big_product 110 = .ok (.iaload, 1) := by decide +kernel
theorem d_Big_product_111 : decode b_Big_product 111 = .ok (.i2l, 1) := by decide +kernel
theorem d_Big_product_112 : decode b_Big_product 112 = .ok (.ladd, 1) := by decide +kernel
theorem d_Big_product_113 : decode b_Big_product 113 = .ok (.lload 4, 2) := by decide +kernel
theorem d_Big_product_115 : decode b_Big_product 115 = .ok (.ladd, 1) := by decide +kernel
theorem d_Big_product_116 : decode b_Big_product 116 = .ok (.lstore 7, 2) := by decide +kernel
theorem d_Big_product_118 : decode b_Big_product 118 = .ok (.aload_n 0, 1) := by decide +kernel
theorem d_Big_product_119 : decode b_Big_product 119 = .ok (.getfield 7, 3) := by decide +kernel
theorem d_Big_product_122 : decode b_Big_product 122 = .ok (.iload_n 3, 1) := by decide +kernel
theorem d_Big_product_123 : decode b_Big_product 123 = .ok (.iload 6, 2) := by decide +kernel
theorem d_Big_product_125 : decode b_Big_product 125 = .ok (.iadd, 1) := by decide +kernel
theorem d_Big_product_126 : decode b_Big_product 126 = .ok (.lload 7, 2) := by decide +kernel
theorem d_Big_product_128 : decode b_Big_product 128 = .ok (.ldc2_w 17, 3) := by decide +kernel
theorem d_Big_product_131 : decode b_Big_product 131 = .ok (.land, 1) := by decide +kernel
theorem d_Big_product_132 : decode b_Big_product 132 = .ok (.l2i, 1) := by decide +kernel
theorem d_Big_product_133 : decode b_Big_product 133 = .ok (.iastore, 1) := by decide +kernel
theorem d_Big_product_134 : decode b_Big_product 134 = .ok (.lload 7, 2) := by decide +kernel
theorem d_Big_product_136 : decode b_Big_product 136 = .ok (.bipush 16, 2) := by decide +kernel
theorem d_Big_product_138 : decode b_Big_product 138 = .ok (.lshr, 1) := by decide +kernel
theorem d_Big_product_139 : decode b_Big_product 139 = .ok (.lstore 4, 2) := by decide +kernel
theorem d_Big_product_141 : decode b_Big_product 141 = .ok (.iinc 6 1, 3) := by decide +kernel
theorem d_Big_product_144 : decode b_Big_product 144 = .ok (.goto (-67), 3) := by decide +kernel
theorem d_Big_product_147 : decode b_Big_product 147 = .ok (.aload_n 0, 1) := by decide +kernel
theorem d_Big_product_148 : decode b_Big_product 148 = .ok (.getfield 7, 3) := by decide +kernel
theorem d_Big_product_151 : decode b_Big_product 151 = .ok (.iload_n 3, 1) := by decide +kernel
theorem d_Big_product_152 : decode b_Big_product 152 = .ok (.aload_n 2, 1) := by decide +kernel
theorem d_Big_product_153 : decode b_Big_product 153 = .ok (.getfield 13, 3) := by decide +kernel
theorem d_Big_product_156 : decode b_Big_product 156 = .ok (.iadd, 1) := by decide +kernel
theorem d_Big_product_157 : decode b_Big_product 157 = .ok (.lload 4, 2) := by decide +kernel
theorem d_Big_product_159 : decode b_Big_product 159 = .ok (.l2i, 1) := by decide +kernel
theorem d_Big_product_160 : decode b_Big_product 160 = .ok (.iastore, 1) := by decide +kernel
theorem d_Big_product_161 : decode b_Big_product 161 = .ok (.iinc 3 1, 3) := by decide +kernel
theorem d_Big_product_164 : decode b_Big_product 164 = .ok (.goto (-108), 3) := by decide +kernel
theorem d_Big_product_167 : decode b_Big_product 167 = .ok (.aload_n 0, 1) := by decide +kernel
theorem d_Big_product_168 : decode b_Big_product 168 = .ok (.invokevirtual 19, 3) := by decide +kernel
theorem d_Big_product_171 : decode b_Big_product 171 = .ok (.return_, 1) := by decide +kernel
theorem d_Big_shift_0 : decode b_Big_shift 0 = .ok (.iload_n 1, 1) := by decide +kernel
theorem d_Big_shift_1 : decode b_Big_shift 1 = .ok (.bipush 16, 2) := by decide +kernel
theorem d_Big_shift_3 : decode b_Big_shift 3 = .ok (.idiv, 1) := by decide +kernel
theorem d_Big_shift_4 : decode b_Big_shift 4 = .ok (.istore_n 2, 1) := by decide +kernel
theorem d_Big_shift_5 : decode b_Big_shift 5 = .ok (.iload_n 1, 1) := by decide +kernel
theorem d_Big_shift_6 : decode b_Big_shift 6 = .ok (.bipush 16, 2) := by decide +kernel
theorem d_Big_shift_8 : decode b_Big_shift 8 = .ok (.irem, 1) := by decide +kernel
theorem d_Big_shift_9 : decode b_Big_shift 9 = .ok (.istore_n 3, 1) := by decide +kernel
theorem d_Big_shift_10 : decode b_Big_shift 10 = .ok (.aload_n 0, 1) := by decide +kernel
theorem d_Big_shift_11 : decode b_Big_shift 11 = .ok (.getfield 13, 3) := by decide +kernel
theorem d_Big_shift_14 : decode b_Big_shift 14 = .ok (.ifCond .ne 4, 3) := by decide +kernel
theorem d_Big_shift_17 : decode b_Big_shift 17 = .ok (.return_, 1) := by decide +kernel
theorem d_Big_shift_18 : decode b_Big_shift 18 = .ok (.aload_n 0, 1) := by decide +kernel
theorem d_Big_shift_19 : decode b_Big_shift 19 = .ok (.getfield 13, 3) := by decide +kernel
theorem d_Big_shift_22 : decode b_Big_shift 22 = .ok (.iconst 1, 1) := by decide +kernel
theorem d_Big_shift_23 : decode b_Big_shift 23 = .ok (.isub, 1) := by decide +kernel
theorem d_Big_shift_24 : decode b_Big_shift 24 = .ok (.istore 4, 2) := by decide +kernel
theorem d_Big_shift_26 : decode b_Big_shift 26 = .ok (.iload 4, 2) := by decide +kernel
theorem d_Big_shift_28 : decode b_Big_shift 28 = .ok (.ifCond .lt 25, 3) := by decide +kernel
theorem d_Big_shift_31 : decode b_Big_shift 31 = .ok (.aload_n 0, 1) := by decide +kernel
theorem d_Big_shift_32 : decode b_Big_shift 32 = .ok (.getfield 7, 3) := by decide +kernel
theorem d_Big_shift_35 : decode b_Big_shift 35 = .ok (.iload 4, 2) := by decide +kernel
theorem d_Big_shift_37 : decode b_Big_shift 37 = .ok (.iload_n 2, 1) := by decide +kernel
theorem d_Big_shift_38 : decode b_Big_shift 38 = .ok (.iadd, 1) := by decide +kernel
theorem d_Big_shift_39 : decode b_Big_shift 39 = .ok (.aload_n 0, 1) := by decide +kernel
theorem d_Big_shift_40 : decode b_Big_shift 40 = .ok (.getfield 7, 3) := by decide +kernel
theorem d_Big_shift_43 : decode b_Big_shift 43 = .ok (.iload 4, 2) := by decide +kernel
theorem d_Big_shift_45 : decode b_Big_shift 45 = .ok (.iaload, 1) := by decide +kernel
theorem d_Big_shift_46 : decode b_Big_shift 46 = .ok (.iastore, 1) := by decide +kernel
theorem d_Big_shift_47 : decode b_Big_shift 47 = .ok (.iinc 4 (-1), 3) := by decide +kernel
theorem d_Big_shift_50 : decode b_Big_shift 50 = .ok (.goto (-24), 3) := by decide +kernel
theorem d_Big_shift_53 : decode b_Big_shift 53 = .ok (.iconst 0, 1) := by decide +kernel
theorem d_Big_shift_54 : decode b_Big_shift 54 = .ok (.istore 4, 2) := by decide +kernel
theorem d_Big_shift_56 : decode b_Big_shift 56 = .ok (.iload 4, 2) := by decide +kernel
theorem d_Big_shift_58 : decode b_Big_shift 58 = .ok (.iload_n 2, 1) := by decide +kernel
theorem d_Big_shift_59 : decode b_Big_shift 59 = .ok (.if_icmp .ge 17, 3) := by decide +kernel
theorem d_Big_shift_62 : decode b_Big_shift 62 = .ok (.aload_n 0, 1) := by decide +kernel
theorem d_Big_shift_63 : decode b_Big_shift 63 = .ok (.getfield 7, 3) := by decide +kernel
theorem d_Big_shift_66 : decode b_Big_shift 66 = .ok (.iload 4, 2) := by decide +kernel
theorem d_Big_shift_68 : decode b_Big_shift 68 = .ok (.iconst 0, 1) := by decide +kernel
theorem d_Big_shift_69 : decode b_Big_shift 69 = .ok (.iastore, 1) := by decide +kernel
theorem d_Big_shift_70 : decode b_Big_shift 70 = .ok (.iinc 4 1, 3) := by decide +kernel
theorem d_Big_shift_73 : decode b_Big_shift 73 = .ok (.goto (-17), 3) := by decide +kernel
theorem d_Big_shift_76 : decode b_Big_shift 76 = .ok (.aload_n 0, 1) := by decide +kernel
theorem d_Big_shift_77 : decode b_Big_shift 77 = .ok (.aload_n 0, 1) := by decide +kernel
theorem d_Big_shift_78 : decode b_Big_shift 78 = .ok (.getfield 13, 3) := by decide +kernel
theorem d_Big_shift_81 : decode b_Big_shift 81 = .ok (.iload_n 2, 1) := by decide +kernel
theorem d_Big_shift_82 : decode b_Big_shift 82 = .ok (.iadd, 1) := by decide +kernel
theorem d_Big_shift_83 : decode b_Big_shift 83 = .ok (.putfield 13, 3) := by decide +kernel
theorem d_Big_shift_86 : decode b_Big_shift 86 = .ok (.aload_n 0, 1) := by decide +kernel
theorem d_Big_shift_87 : decode b_Big_shift 87 = .ok (.iconst 1, 1) := by decide +kernel
theorem d_Big_shift_88 : decode b_Big_shift 88 = .ok (.iload_n 3, 1) := by decide +kernel
theorem d_Big_shift_89 : decode b_Big_shift 89 = .ok (.ishl, 1) := by decide +kernel
theorem d_Big_shift_90 : decode b_Big_shift 90 = .ok (.iconst 0, 1) := by decide +kernel
theorem d_Big_shift_91 : decode b_Big_shift 91 = .ok (.invokevirtual 22, 3) := by decide +kernel
theorem d_Big_shift_94 : decode b_Big_shift 94 = .ok (.return_, 1) := by decide +kernel
theorem tw_Big_constant_26 : Cond.constant "IntervalTextModel$Big" 26 (65535 : Int32) ∈ TB := tb_t (List.mem_append_right _ (List.mem_append_right _ (List.mem_append_right _ (List.mem_append_left _ (List.mem_of_getElem? (l := tables_1_4) (i := 147) rfl))))) rfl
theorem cl_Big_19 : CLinkV TB "IntervalTextModel$Big" 19 "IntervalTextModel$Big" y_Big_trim b_Big_trim 1 none 0 := ⟨⟨tb_t (List.mem_append_right _ (List.mem_append_right _ (List.mem_append_right _ (List.mem_append_left _ (List.mem_of_getElem? (l := tables_1_4) (i := 79) rfl))))) rfl, tb_t (List.mem_append_left _ (List.mem_of_getElem? (l := tables_1_1) (i := 9) rfl)) rfl, tb_t (List.mem_append_right _ (List.mem_append_right _ (List.mem_append_right _ (List.mem_append_left _ (List.mem_of_getElem? (l := tables_1_4) (i := 82) rfl))))) rfl, by decide +kernel, by decide +kernel, by decide +kernel⟩, tb_t (List.mem_append_right _ (List.mem_append_right _ (List.mem_append_right _ (List.mem_append_left _ (List.mem_of_getElem? (l := tables_1_4) (i := 81) rfl))))) rfl, tb_p 31 rfl⟩
theorem cl_Big_22 : CLinkV TB "IntervalTextModel$Big" 22 "IntervalTextModel$Big" y_Big_grow b_Big_grow 8 none 2 := ⟨⟨tb_t (List.mem_append_right _ (List.mem_append_right _ (List.mem_append_right _ (List.mem_append_left _ (List.mem_of_getElem? (l := tables_1_4) (i := 91) rfl))))) rfl, tb_t (List.mem_append_left _ (List.mem_of_getElem? (l := tables_1_1) (i := 9) rfl)) rfl, tb_t (List.mem_append_right _ (List.mem_append_right _ (List.mem_append_right _ (List.mem_append_left _ (List.mem_of_getElem? (l := tables_1_4) (i := 42) rfl))))) rfl, by decide +kernel, by decide +kernel, by decide +kernel⟩, tb_t (List.mem_append_right _ (List.mem_append_right _ (List.mem_append_right _ (List.mem_append_left _ (List.mem_of_getElem? (l := tables_1_4) (i := 40) rfl))))) rfl, tb_t (List.mem_append_right _ (List.mem_append_right _ (List.mem_append_right _ (List.mem_append_left _ (List.mem_of_getElem? (l := tables_1_4) (i := 41) rfl))))) rfl⟩
set_option maxHeartbeats 4000000 in
set_option maxRecDepth 100000 in
theorem c_Big_subtract (l : Launch) (D : va_G) (E : EVt) (h : Nat) (a : Nat) (g : Int → Int) (k : Int) (h2 : Nat) (a2 : Nat) (g2 : Int → Int) (k2 : Int) (v : Int) (w : Int) (hN : BigOK g k v) (hM : BigOK g2 k2 w) (hle : w ≤ v) : CT l D classes (tyl E) (EVX E) y_Big_subtract (Cond.code y_Big_subtract b_Big_subtract 5 none :: TB) (rmK 1 0 0 20) 0 0 [.ref h, .ref h2] [(h, .inr (7, [.ref a, .int (iI k)])), (a, .inl (E.1, 640, .inl (ia g))), (h2, .inr (7, [.ref a2, .int (iI k2)])), (a2, .inl (E.1, 640, .inl (ia g2)))] (S := (Int → Int) × Int) (fun u => [(h, .inr (7, [.ref a, .int (iI u.2)])), (a, .inl (E.1, 640, .inl (ia u.1))), (h2, .inr (7, [.ref a2, .int (iI k2)])), (a2, .inl (E.1, 640, .inl (ia g2)))]) (fun _ => none) (fun u => (BigOK u.1 u.2 (v - w))) := by
  refine CT.ofv (eok E) (by decide) rfl (Nat.le_of_ble_eq_true rfl) ?_
  intro p e s m args below meth c A Q ls B hmn hP hD hS hl ret
  have B : Bd l D classes (tyl E) (EVX E) p m c b_Big_subtract 5 s args (Cond.code y_Big_subtract b_Big_subtract 5 none :: TB) R_Big A := B
  obtain ⟨⟨hx, hb, hml, hown, hts⟩, hX, hK, hE, hA⟩ := id B
  have hl : lv_has ls 5 [(0, .ref h), (1, .ref h2)] := hl
  have hP : va_P D classes [(h, .inr (7, [.ref a, .int (iI k)])), (a, .inl (E.1, 640, .inl (ia g))), (h2, .inr (7, [.ref a2, .int (iI k2)])), (a2, .inl (E.1, 640, .inl (ia g2)))] s.heap := hP
  have hD : va_D A [(h, .inr (7, [.ref a, .int (iI k)])), (a, .inl (E.1, 640, .inl (ia g))), (h2, .inr (7, [.ref a2, .int (iI k2)])), (a2, .inl (E.1, 640, .inl (ia g2)))] := hD
  have hk := hN.k
  have hk2 := hM.k
  have K_4 : ∀ (fuel4 : Nat) (i : Int) (bo : Int) (g1 : Int → Int) (hi : 0 ≤ i ∧ i ≤ k) (hbo : bo = 0 ∨ bo = 1) (hC : DL g (fun j => g j - mgx g2 k2 j) 0 0 g1 i (-bo)) (hf4 : k - i < (fuel4 : Int)) (ls : Array Slot) (H : Heap) (locs : List Loc), lv_has ls 5 [(0, .ref h), (1, .ref h2), (2, .int (iI bo)), (3, .int (iI i))] → va_P D classes [(h, .inr (7, [.ref a, .int (iI k)])), (a, .inl (E.1, 640, .inl (ia g1))), (h2, .inr (7, [.ref a2, .int (iI k2)])), (a2, .inl (E.1, 640, .inl (ia g2)))] H → va_D A [(h, .inr (7, [.ref a, .int (iI k)])), (a, .inl (E.1, 640, .inl (ia g1))), (h2, .inr (7, [.ref a2, .int (iI k2)])), (a2, .inl (E.1, 640, .inl (ia g2)))] → va_S A s.heap H locs → W p l e (rmK 1 0 0 20) s m args below meth c H locs 0 0 Q (F0 m 4 ls []) := by
    intro fuel4
    induction fuel4 with
    | zero =>
      intro i bo g1 hi hbo hC hf4 ls H locs hl hP hD hS
      exfalso; omega
    | succ fuel4 ih4 =>
      intro i bo g1 hi hbo hC hf4 ls H locs hl hP hD hS
      refine lv_iload_n hx hb d_Big_subtract_4 rfl (lv_at hl 3 rfl) ?_
      refine lv_aload_n hx hb d_Big_subtract_5 rfl (lv_at hl 0 rfl) ?_
      refine wk_get B hP 0 rfl fl_Big_13 (v := .int (iI k)) rfl d_Big_subtract_6 ?_
      refine wi_icmp_ge (tgt := 69) hx hb d_Big_subtract_9 (by decide) (by omega) (by omega) (fun c_1 => ?_) (fun c_1 => ?_)
      · skip
        obtain ⟨hD9, hV9⟩ := bs_end hN hM hle hbo (by rw [show i = k by omega] at hC; exact hC)
        refine lv_aload_n hx hb d_Big_subtract_69 rfl (lv_at hl 0 rfl) ?_
        refine wk_callV (As := []) (rest := []) (wr := [(h2, .inr (7, [.ref a2, .int (iI k2)])), (a2, .inl (E.1, 640, .inl (ia g2)))]) B gTB cl_Big_19 (c_Big_trim l D E h a g1 k (hk) (hD9)) ⟨⟨rfl, rfl⟩, Nat.le_of_ble_eq_true rfl, Nat.le_of_ble_eq_true rfl⟩ hP hD hS [0, 1] [2, 3] rfl rfl (by decide) 0 rfl rfl rfl ⟨hl.2.1, hl.1⟩ rfl (Nat.le_of_ble_eq_true rfl) d_Big_subtract_70 ⟨Nat.le_of_ble_eq_true rfl, Nat.le_of_ble_eq_true rfl⟩ rfl (fun k2_2 H locs hw hP hD hS => ?_)
        have hP : va_P D classes [(h2, .inr (7, [.ref a2, .int (iI k2)])), (a2, .inl (E.1, 640, .inl (ia g2))), (h, .inr (7, [.ref a, .int (iI k2_2)])), (a, .inl (E.1, 640, .inl (ia g1)))] H := hP
        have hD : va_D A [(h2, .inr (7, [.ref a2, .int (iI k2)])), (a2, .inl (E.1, 640, .inl (ia g2))), (h, .inr (7, [.ref a, .int (iI k2_2)])), (a, .inl (E.1, 640, .inl (ia g1)))] := hD
        have hw : (BigOK g1 k2_2 (MV g1 k)) := hw
        have hM_3 := hw
        refine W.cs (g := F0 m 73 ls []) (cells' := 0) (slots' := 0) rfl rfl ?_
        exact ret (g1, k2_2) _ _ _ _ d_Big_subtract_73 (show (BigOK g1 k2_2 (v - w)) from (by rw [← hV9]; exact hM_3)) (hP.sub [2, 3, 0, 1] rfl) (hD.sub [2, 3, 0, 1] (by decide) rfl) hS
      · skip
        have hd1 := hN.2.1 i (by omega) (by omega)
        have hg1 := hC.2.1 i (by omega) (Or.inr (Int.le_refl _))
        rw [← hg1] at hd1
        refine lv_aload_n hx hb d_Big_subtract_12 rfl (lv_at hl 0 rfl) ?_
        refine wk_get B hP 0 rfl fl_Big_7 (v := .ref a) rfl d_Big_subtract_13 ?_
        refine lv_iload_n hx hb d_Big_subtract_16 rfl (lv_at hl 3 rfl) ?_
        refine wi_iald hx hb hK hP 1 0 rfl rfl (by omega) (by omega) d_Big_subtract_17 ?_
        refine lv_iload_n hx hb d_Big_subtract_18 rfl (lv_at hl 3 rfl) ?_
        refine lv_aload_n hx hb d_Big_subtract_19 rfl (lv_at hl 1 rfl) ?_
        refine wk_get B hP 2 rfl fl_Big_13 (v := .int (iI k2)) rfl d_Big_subtract_20 ?_
        refine wi_icmp_ge (tgt := 35) hx hb d_Big_subtract_23 (by decide) (by omega) (by omega) (fun c_4 => ?_) (fun c_4 => ?_)
        · skip
          refine wi_iconst (n := 0) hx hb d_Big_subtract_35 ?_
          refine wi_isub hx hb d_Big_subtract_36 ?_
          refine lv_iload_n hx hb d_Big_subtract_37 rfl (lv_at hl 2 rfl) ?_
          refine wi_isub hx hb d_Big_subtract_38 ?_
          refine lv_istore (lv' := [(4, .int (iI (g1 i - 0 - bo))), (0, .ref h), (1, .ref h2), (2, .int (iI bo)), (3, .int (iI i))]) hx hb d_Big_subtract_39 hl (by decide) rfl (fun ls hl => ?_)
          refine lv_aload_n hx hb d_Big_subtract_41 rfl (lv_at hl 1 rfl) ?_
          refine wk_get B hP 0 rfl fl_Big_7 (v := .ref a) rfl d_Big_subtract_42 ?_
          refine lv_iload_n hx hb d_Big_subtract_45 rfl (lv_at hl 4 rfl) ?_
          refine lv_iload hx hb d_Big_subtract_46 (lv_at hl 0 rfl) ?_
          refine wi_ldc hx hb 65535 hown (tb_h hts tw_Big_constant_26) (by decide) d_Big_subtract_48 ?_
          refine wi_imask hx hb 16 65536 (by decide +kernel) (by decide) (by decide) d_Big_subtract_50 ?_
          refine wi_iast hx hb hK hP hD hS 1 0 rfl rfl (by omega) (by omega) d_Big_subtract_51 (fun H locs hP hD hS => ?_)
          have hP : va_P D classes [(h, .inr (7, [.ref a, .int (iI k)])), (a, .inl (E.1, 640, .inl (ia (upZ g1 i ((g1 i - 0 - bo) % 65536))))), (h2, .inr (7, [.ref a2, .int (iI k2)])), (a2, .inl (E.1, 640, .inl (ia g2)))] H := hP
          have hD : va_D A [(h, .inr (7, [.ref a, .int (iI k)])), (a, .inl (E.1, 640, .inl (ia (upZ g1 i ((g1 i - 0 - bo) % 65536))))), (h2, .inr (7, [.ref a2, .int (iI k2)])), (a2, .inl (E.1, 640, .inl (ia g2)))] := hD
          refine lv_iload hx hb d_Big_subtract_52 (lv_at hl 0 rfl) ?_
          refine wi_if_ge (tgt := 61) hx hb d_Big_subtract_54 (by decide) (by omega) (fun c_5 => ?_) (fun c_5 => ?_)
          · skip
            refine wi_iconst (n := 0) hx hb d_Big_subtract_61 ?_
            refine lv_istore_n (lv' := [(2, .int (iI 0)), (4, .int (iI (g1 i - 0 - bo))), (0, .ref h), (1, .ref h2), (3, .int (iI i))]) hx hb d_Big_subtract_62 rfl hl (by decide) rfl (fun ls hl => ?_)
            refine wi_iinc (v := i + 1) (lv' := [(3, .int (iI (i + 1))), (2, .int (iI 0)), (4, .int (iI (g1 i - 0 - bo))), (0, .ref h), (1, .ref h2)]) hx hb d_Big_subtract_63 hl (k := 4) rfl rfl (by decide) rfl (fun ls hl => ?_)
            refine lv_goto (tgt := 4) hx hb d_Big_subtract_66 (by decide) ?_
            exact ih4 (i + 1) 0 (upZ g1 i ((g1 i - 0 - bo) % 65536)) (by omega) (by omega) ((bs_s hC (md := 0) ((mgx_out (by omega)).symm) rfl (by omega)).2 (by omega)) (by omega) _ _ _ (lv_sub hl [3, 4, 1, 0] rfl) (hP.sub [0, 1, 2, 3] rfl) (hD.sub [0, 1, 2, 3] (by decide) rfl) hS
          · skip
            refine wi_iconst (n := 1) hx hb d_Big_subtract_57 ?_
            refine lv_goto (tgt := 62) hx hb d_Big_subtract_58 (by decide) ?_
            refine lv_istore_n (lv' := [(2, .int (iI 1)), (4, .int (iI (g1 i - 0 - bo))), (0, .ref h), (1, .ref h2), (3, .int (iI i))]) hx hb d_Big_subtract_62 rfl hl (by decide) rfl (fun ls hl => ?_)
            refine wi_iinc (v := i + 1) (lv' := [(3, .int (iI (i + 1))), (2, .int (iI 1)), (4, .int (iI (g1 i - 0 - bo))), (0, .ref h), (1, .ref h2)]) hx hb d_Big_subtract_63 hl (k := 4) rfl rfl (by decide) rfl (fun ls hl => ?_)
            refine lv_goto (tgt := 4) hx hb d_Big_subtract_66 (by decide) ?_
            exact ih4 (i + 1) 1 (upZ g1 i ((g1 i - 0 - bo) % 65536)) (by omega) (by omega) ((bs_s hC (md := 0) ((mgx_out (by omega)).symm) rfl (by omega)).1 (by omega)) (by omega) _ _ _ (lv_sub hl [3, 4, 1, 0] rfl) (hP.sub [0, 1, 2, 3] rfl) (hD.sub [0, 1, 2, 3] (by decide) rfl) hS
        · skip
          have hd2 := hM.2.1 i (by omega) (by omega)
          refine lv_aload_n hx hb d_Big_subtract_26 rfl (lv_at hl 1 rfl) ?_
          refine wk_get B hP 2 rfl fl_Big_7 (v := .ref a2) rfl d_Big_subtract_27 ?_
          refine lv_iload_n hx hb d_Big_subtract_30 rfl (lv_at hl 3 rfl) ?_
          refine wi_iald hx hb hK hP 3 0 rfl rfl (by omega) (by omega) d_Big_subtract_31 ?_
          refine lv_goto (tgt := 36) hx hb d_Big_subtract_32 (by decide) ?_
          refine wi_isub hx hb d_Big_subtract_36 ?_
          refine lv_iload_n hx hb d_Big_subtract_37 rfl (lv_at hl 2 rfl) ?_
          refine wi_isub hx hb d_Big_subtract_38 ?_
          refine lv_istore (lv' := [(4, .int (iI (g1 i - (g2 i) - bo))), (0, .ref h), (1, .ref h2), (2, .int (iI bo)), (3, .int (iI i))]) hx hb d_Big_subtract_39 hl (by decide) rfl (fun ls hl => ?_)
          refine lv_aload_n hx hb d_Big_subtract_41 rfl (lv_at hl 1 rfl) ?_
          refine wk_get B hP 0 rfl fl_Big_7 (v := .ref a) rfl d_Big_subtract_42 ?_
          refine lv_iload_n hx hb d_Big_subtract_45 rfl (lv_at hl 4 rfl) ?_
          refine lv_iload hx hb d_Big_subtract_46 (lv_at hl 0 rfl) ?_
          refine wi_ldc hx hb 65535 hown (tb_h hts tw_Big_constant_26) (by decide) d_Big_subtract_48 ?_
          refine wi_imask hx hb 16 65536 (by decide +kernel) (by decide) (by decide) d_Big_subtract_50 ?_
          refine wi_iast hx hb hK hP hD hS 1 0 rfl rfl (by omega) (by omega) d_Big_subtract_51 (fun H locs hP hD hS => ?_)
          have hP : va_P D classes [(h, .inr (7, [.ref a, .int (iI k)])), (a, .inl (E.1, 640, .inl (ia (upZ g1 i ((g1 i - (g2 i) - bo) % 65536))))), (h2, .inr (7, [.ref a2, .int (iI k2)])), (a2, .inl (E.1, 640, .inl (ia g2)))] H := hP
          have hD : va_D A [(h, .inr (7, [.ref a, .int (iI k)])), (a, .inl (E.1, 640, .inl (ia (upZ g1 i ((g1 i - (g2 i) - bo) % 65536))))), (h2, .inr (7, [.ref a2, .int (iI k2)])), (a2, .inl (E.1, 640, .inl (ia g2)))] := hD
          refine lv_iload hx hb d_Big_subtract_52 (lv_at hl 0 rfl) ?_
          refine wi_if_ge (tgt := 61) hx hb d_Big_subtract_54 (by decide) (by omega) (fun c_6 => ?_) (fun c_6 => ?_)
          · skip
            refine wi_iconst (n := 0) hx hb d_Big_subtract_61 ?_
            refine lv_istore_n (lv' := [(2, .int (iI 0)), (4, .int (iI (g1 i - (g2 i) - bo))), (0, .ref h), (1, .ref h2), (3, .int (iI i))]) hx hb d_Big_subtract_62 rfl hl (by decide) rfl (fun ls hl => ?_)
            refine wi_iinc (v := i + 1) (lv' := [(3, .int (iI (i + 1))), (2, .int (iI 0)), (4, .int (iI (g1 i - (g2 i) - bo))), (0, .ref h), (1, .ref h2)]) hx hb d_Big_subtract_63 hl (k := 4) rfl rfl (by decide) rfl (fun ls hl => ?_)
            refine lv_goto (tgt := 4) hx hb d_Big_subtract_66 (by decide) ?_
            exact ih4 (i + 1) 0 (upZ g1 i ((g1 i - (g2 i) - bo) % 65536)) (by omega) (by omega) ((bs_s hC (md := g2 i) ((mgx_in (by omega)).symm) rfl (by omega)).2 (by omega)) (by omega) _ _ _ (lv_sub hl [3, 4, 1, 0] rfl) (hP.sub [0, 1, 2, 3] rfl) (hD.sub [0, 1, 2, 3] (by decide) rfl) hS
          · skip
            refine wi_iconst (n := 1) hx hb d_Big_subtract_57 ?_
            refine lv_goto (tgt := 62) hx hb d_Big_subtract_58 (by decide) ?_
            refine lv_istore_n (lv' := [(2, .int (iI 1)), (4, .int (iI (g1 i - (g2 i) - bo))), (0, .ref h), (1, .ref h2), (3, .int (iI i))]) hx hb d_Big_subtract_62 rfl hl (by decide) rfl (fun ls hl => ?_)
            refine wi_iinc (v := i + 1) (lv' := [(3, .int (iI (i + 1))), (2, .int (iI 1)), (4, .int (iI (g1 i - (g2 i) - bo))), (0, .ref h), (1, .ref h2)]) hx hb d_Big_subtract_63 hl (k := 4) rfl rfl (by decide) rfl (fun ls hl => ?_)
            refine lv_goto (tgt := 4) hx hb d_Big_subtract_66 (by decide) ?_
            exact ih4 (i + 1) 1 (upZ g1 i ((g1 i - (g2 i) - bo) % 65536)) (by omega) (by omega) ((bs_s hC (md := g2 i) ((mgx_in (by omega)).symm) rfl (by omega)).1 (by omega)) (by omega) _ _ _ (lv_sub hl [3, 4, 1, 0] rfl) (hP.sub [0, 1, 2, 3] rfl) (hD.sub [0, 1, 2, 3] (by decide) rfl) hS
  refine wi_iconst (n := 0) hx hb d_Big_subtract_0 ?_
  refine lv_istore_n (lv' := [(2, .int (iI 0)), (0, .ref h), (1, .ref h2)]) hx hb d_Big_subtract_1 rfl hl (by decide) rfl (fun ls hl => ?_)
  refine wi_iconst (n := 0) hx hb d_Big_subtract_2 ?_
  refine lv_istore_n (lv' := [(3, .int (iI 0)), (2, .int (iI 0)), (0, .ref h), (1, .ref h2)]) hx hb d_Big_subtract_3 rfl hl (by decide) rfl (fun ls hl => ?_)
  exact K_4 ((k - 0 : Int).toNat + 1) 0 0 g (by omega) (by omega) (DL_0 (Int.le_refl _)) (by omega) _ _ _ (lv_sub hl [2, 3, 1, 0] rfl) (hP.sub [0, 1, 2, 3] rfl) (hD.sub [0, 1, 2, 3] (by decide) rfl) hS
set_option maxHeartbeats 4000000 in
set_option maxRecDepth 100000 in
theorem c_Big_product (l : Launch) (D : va_G) (E : EVt) (h : Nat) (a : Nat) (g : Int → Int) (k : Int) (h1 : Nat) (a1 : Nat) (f : Int → Int) (kf : Int) (h2 : Nat) (a2 : Nat) (g2 : Int → Int) (k2 : Int) (v : Int) (w : Int) (hN : BigOK f kf v) (hM : BigOK g2 k2 w) (hsz : kf + k2 ≤ 640) : CT l D classes (tyl E) (EVX E) y_Big_product (Cond.code y_Big_product b_Big_product 9 none :: TB) (rmK 1 0 0 20) 0 0 [.ref h, .ref h1, .ref h2] [(h, .inr (7, [.ref a, .int (iI k)])), (a, .inl (E.1, 640, .inl (ia g))), (h1, .inr (7, [.ref a1, .int (iI kf)])), (a1, .inl (E.1, 640, .inl (ia f))), (h2, .inr (7, [.ref a2, .int (iI k2)])), (a2, .inl (E.1, 640, .inl (ia g2)))] (S := (Int → Int) × Int) (fun u => [(h, .inr (7, [.ref a, .int (iI u.2)])), (a, .inl (E.1, 640, .inl (ia u.1))), (h1, .inr (7, [.ref a1, .int (iI kf)])), (a1, .inl (E.1, 640, .inl (ia f))), (h2, .inr (7, [.ref a2, .int (iI k2)])), (a2, .inl (E.1, 640, .inl (ia g2)))]) (fun _ => none) (fun u => (BigOK u.1 u.2 (v * w))) := by
  refine CT.ofv (eok E) (by decide) rfl (Nat.le_of_ble_eq_true rfl) ?_
  intro p e s m args below meth c A Q ls B hmn hP hD hS hl ret
  have B : Bd l D classes (tyl E) (EVX E) p m c b_Big_product 9 s args (Cond.code y_Big_product b_Big_product 9 none :: TB) R_Big A := B
  obtain ⟨⟨hx, hb, hml, hown, hts⟩, hX, hK, hE, hA⟩ := id B
  have hl : lv_has ls 9 [(0, .ref h), (1, .ref h1), (2, .ref h2)] := hl
  have hP : va_P D classes [(h, .inr (7, [.ref a, .int (iI k)])), (a, .inl (E.1, 640, .inl (ia g))), (h1, .inr (7, [.ref a1, .int (iI kf)])), (a1, .inl (E.1, 640, .inl (ia f))), (h2, .inr (7, [.ref a2, .int (iI k2)])), (a2, .inl (E.1, 640, .inl (ia g2)))] s.heap := hP
  have hD : va_D A [(h, .inr (7, [.ref a, .int (iI k)])), (a, .inl (E.1, 640, .inl (ia g))), (h1, .inr (7, [.ref a1, .int (iI kf)])), (a1, .inl (E.1, 640, .inl (ia f))), (h2, .inr (7, [.ref a2, .int (iI k2)])), (a2, .inl (E.1, 640, .inl (ia g2)))] := hD
  have hk := hN.k
  have hk2 := hM.k
  have hzf := hN.zero
  have hzg := hM.zero
  have K_56 : ∀ (fuel56 : Nat) (i : Int) (nn : Int) (g1 : Int → Int) (hnn : (nn = 0 ∧ (kf = 0 ∨ k2 = 0)) ∨ (nn = kf + k2 ∧ 0 < kf ∧ 0 < k2)) (hi : 0 ≤ i ∧ i ≤ kf) (hD1 : Eg g1 nn) (hV1 : MV g1 nn = MV f i * w) (hf56 : kf - i < (fuel56 : Int)) (ls : Array Slot) (H : Heap) (locs : List Loc), lv_has ls 9 [(0, .ref h), (1, .ref h1), (2, .ref h2), (3, .int (iI i))] → va_P D classes [(h, .inr (7, [.ref a, .int (iI nn)])), (a, .inl (E.1, 640, .inl (ia g1))), (h1, .inr (7, [.ref a1, .int (iI kf)])), (a1, .inl (E.1, 640, .inl (ia f))), (h2, .inr (7, [.ref a2, .int (iI k2)])), (a2, .inl (E.1, 640, .inl (ia g2)))] H → va_D A [(h, .inr (7, [.ref a, .int (iI nn)])), (a, .inl (E.1, 640, .inl (ia g1))), (h1, .inr (7, [.ref a1, .int (iI kf)])), (a1, .inl (E.1, 640, .inl (ia f))), (h2, .inr (7, [.ref a2, .int (iI k2)])), (a2, .inl (E.1, 640, .inl (ia g2)))] → va_S A s.heap H locs → W p l e (rmK 1 0 0 20) s m args below meth c H locs 0 0 Q (F0 m 56 ls []) := by
    intro fuel56
    induction fuel56 with
    | zero =>
      intro i nn g1 hnn hi hD1 hV1 hf56 ls H locs hl hP hD hS
      exfalso; omega
    | succ fuel56 ih56 =>
      intro i nn g1 hnn hi hD1 hV1 hf56 ls H locs hl hP hD hS
      have hnr : 0 ≤ nn ∧ nn ≤ 640 := by omega
      have K_77 : ∀ (fuel77 : Nat) (q : Int) (cy : Int) (g3 : Int → Int) (hnn2 : nn = kf + k2 ∧ 0 < kf ∧ 0 < k2) (hq : 0 ≤ q ∧ q ≤ k2) (hik : i < kf) (hC : DL g1 (fun j => g1 j + f i * mgx g2 k2 (j - i)) i 0 g3 (i + q) cy) (hcy : 0 ≤ cy ∧ cy < 65536) (hf77 : k2 - q < (fuel77 : Int)) (ls : Array Slot) (H : Heap) (locs : List Loc), lv_has ls 9 [(0, .ref h), (1, .ref h1), (2, .ref h2), (3, .int (iI i)), (4, .long (lI cy)), (6, .int (iI q))] → va_P D classes [(h, .inr (7, [.ref a, .int (iI nn)])), (a, .inl (E.1, 640, .inl (ia g3))), (h1, .inr (7, [.ref a1, .int (iI kf)])), (a1, .inl (E.1, 640, .inl (ia f))), (h2, .inr (7, [.ref a2, .int (iI k2)])), (a2, .inl (E.1, 640, .inl (ia g2)))] H → va_D A [(h, .inr (7, [.ref a, .int (iI nn)])), (a, .inl (E.1, 640, .inl (ia g3))), (h1, .inr (7, [.ref a1, .int (iI kf)])), (a1, .inl (E.1, 640, .inl (ia f))), (h2, .inr (7, [.ref a2, .int (iI k2)])), (a2, .inl (E.1, 640, .inl (ia g2)))] → va_S A s.heap H locs → W p l e (rmK 1 0 0 20) s m args below meth c H locs 0 0 Q (F0 m 77 ls []) := by
        intro fuel77
        induction fuel77 with
        | zero =>
          intro q cy g3 hnn2 hq hik hC hcy hf77 ls H locs hl hP hD hS
          exfalso; omega
        | succ fuel77 ih77 =>
          intro q cy g3 hnn2 hq hik hC hcy hf77 ls H locs hl hP hD hS
          refine lv_iload hx hb d_Big_product_77 (lv_at hl 5 rfl) ?_
          refine lv_aload_n hx hb d_Big_product_79 rfl (lv_at hl 2 rfl) ?_
          refine wk_get B hP 4 rfl fl_Big_13 (v := .int (iI k2)) rfl d_Big_product_80 ?_
          refine wi_icmp_ge (tgt := 147) hx hb d_Big_product_83 (by decide) (by omega) (by omega) (fun c_1 => ?_) (fun c_1 => ?_)
          · skip
            obtain ⟨hD9, hV9⟩ := bp_end hN hM hnn2.1 (by omega) hcy hD1 hV1 (by rw [show q = k2 by omega] at hC; exact hC)
            refine lv_aload_n hx hb d_Big_product_147 rfl (lv_at hl 0 rfl) ?_
            refine wk_get B hP 0 rfl fl_Big_7 (v := .ref a) rfl d_Big_product_148 ?_
            refine lv_iload_n hx hb d_Big_product_151 rfl (lv_at hl 3 rfl) ?_
            refine lv_aload_n hx hb d_Big_product_152 rfl (lv_at hl 2 rfl) ?_
            refine wk_get B hP 4 rfl fl_Big_13 (v := .int (iI k2)) rfl d_Big_product_153 ?_
            refine wi_iadd hx hb d_Big_product_156 ?_
            refine lv_lload hx hb d_Big_product_157 (lv_at hl 4 rfl) ?_
            refine wi_l2i hx hb d_Big_product_159 ?_
            refine wi_iast hx hb hK hP hD hS 1 0 rfl rfl (by omega) (by omega) d_Big_product_160 (fun H locs hP hD hS => ?_)
            have hP : va_P D classes [(h, .inr (7, [.ref a, .int (iI nn)])), (a, .inl (E.1, 640, .inl (ia (upZ g3 (i + k2) cy)))), (h1, .inr (7, [.ref a1, .int (iI kf)])), (a1, .inl (E.1, 640, .inl (ia f))), (h2, .inr (7, [.ref a2, .int (iI k2)])), (a2, .inl (E.1, 640, .inl (ia g2)))] H := hP
            have hD : va_D A [(h, .inr (7, [.ref a, .int (iI nn)])), (a, .inl (E.1, 640, .inl (ia (upZ g3 (i + k2) cy)))), (h1, .inr (7, [.ref a1, .int (iI kf)])), (a1, .inl (E.1, 640, .inl (ia f))), (h2, .inr (7, [.ref a2, .int (iI k2)])), (a2, .inl (E.1, 640, .inl (ia g2)))] := hD
            refine wi_iinc (v := i + 1) (lv' := [(3, .int (iI (i + 1))), (0, .ref h), (1, .ref h1), (2, .ref h2), (4, .long (lI cy)), (6, .int (iI q))]) hx hb d_Big_product_161 hl (k := 3) rfl rfl (by decide) rfl (fun ls hl => ?_)
            refine lv_goto (tgt := 56) hx hb d_Big_product_164 (by decide) ?_
            exact ih56 (i + 1) nn (upZ g3 (i + k2) cy) (hnn) (by omega) (hD9) (hV9) (by omega) _ _ _ (lv_sub hl [1, 2, 3, 0] rfl) (hP.sub [0, 1, 2, 3, 4, 5] rfl) (hD.sub [0, 1, 2, 3, 4, 5] (by decide) rfl) hS
          · skip
            have hf1 := hN.2.1 i (by omega) (by omega)
            have hg2 := hM.2.1 q (by omega) (by omega)
            have hg3 := hC.2.1 (i + q) (by omega) (Or.inr (Int.le_refl _))
            have hd1 := hD1 (i + q) (by omega) (by omega)
            rw [← hg3] at hd1
            have hp1 := Int.mul_nonneg hf1.1 hg2.1
            have hp2 : f i * g2 q ≤ 65535 * 65535 := Int.mul_le_mul (by omega) (by omega) hg2.1 (by decide)
            refine lv_aload_n hx hb d_Big_product_86 rfl (lv_at hl 1 rfl) ?_
            refine wk_get B hP 2 rfl fl_Big_7 (v := .ref a1) rfl d_Big_product_87 ?_
            refine lv_iload_n hx hb d_Big_product_90 rfl (lv_at hl 3 rfl) ?_
            refine wi_iald hx hb hK hP 3 0 rfl rfl (by omega) (by omega) d_Big_product_91 ?_
            refine wi_i2l hx hb (by omega) d_Big_product_92 ?_
            refine lv_aload_n hx hb d_Big_product_93 rfl (lv_at hl 2 rfl) ?_
            refine wk_get B hP 4 rfl fl_Big_7 (v := .ref a2) rfl d_Big_product_94 ?_
            refine lv_iload hx hb d_Big_product_97 (lv_at hl 5 rfl) ?_
            refine wi_iald hx hb hK hP 5 0 rfl rfl (by omega) (by omega) d_Big_product_99 ?_
            refine wi_i2l hx hb (by omega) d_Big_product_100 ?_
            refine wi_lmul hx hb d_Big_product_101 ?_
            refine lv_aload_n hx hb d_Big_product_102 rfl (lv_at hl 0 rfl) ?_
            refine wk_get B hP 0 rfl fl_Big_7 (v := .ref a) rfl d_Big_product_103 ?_
            refine lv_iload_n hx hb d_Big_product_106 rfl (lv_at hl 3 rfl) ?_
            refine lv_iload hx hb d_Big_product_107 (lv_at hl 5 rfl) ?_
            refine wi_iadd hx hb d_Big_product_109 ?_
            refine wi_iald hx hb hK hP 1 0 rfl rfl (by omega) (by omega) d_Big_product_110 ?_
            refine wi_i2l hx hb (by omega) d_Big_product_111 ?_
            refine wi_ladd hx hb d_Big_product_112 ?_
            refine lv_lload hx hb d_Big_product_113 (lv_at hl 4 rfl) ?_
            refine wi_ladd hx hb d_Big_product_115 ?_
            refine lv_lstore (lv' := [(7, .long (lI ((f i) * (g2 q) + (g3 (i + q)) + cy))), (0, .ref h), (1, .ref h1), (2, .ref h2), (3, .int (iI i)), (4, .long (lI cy)), (6, .int (iI q))]) hx hb d_Big_product_116 hl (by decide) rfl (fun ls hl => ?_)
            refine lv_aload_n hx hb d_Big_product_118 rfl (lv_at hl 1 rfl) ?_
            refine wk_get B hP 0 rfl fl_Big_7 (v := .ref a) rfl d_Big_product_119 ?_
            refine lv_iload_n hx hb d_Big_product_122 rfl (lv_at hl 4 rfl) ?_
            refine lv_iload hx hb d_Big_product_123 (lv_at hl 6 rfl) ?_
            refine wi_iadd hx hb d_Big_product_125 ?_
            refine lv_lload hx hb d_Big_product_126 (lv_at hl 0 rfl) ?_
            refine wi_ldc2 hx hb 65535 hown (tb_h hts tw_Big_constantLong_17) (by decide) d_Big_product_128 ?_
            refine wi_lmask hx hb 16 65536 (by decide +kernel) (by decide) (by decide) d_Big_product_131 ?_
            refine wi_l2i hx hb d_Big_product_132 ?_
            refine wi_iast hx hb hK hP hD hS 1 0 rfl rfl (by omega) (by omega) d_Big_product_133 (fun H locs hP hD hS => ?_)
            have hP : va_P D classes [(h, .inr (7, [.ref a, .int (iI nn)])), (a, .inl (E.1, 640, .inl (ia (upZ g3 (i + q) (((f i) * (g2 q) + (g3 (i + q)) + cy) % 65536))))), (h1, .inr (7, [.ref a1, .int (iI kf)])), (a1, .inl (E.1, 640, .inl (ia f))), (h2, .inr (7, [.ref a2, .int (iI k2)])), (a2, .inl (E.1, 640, .inl (ia g2)))] H := hP
            have hD : va_D A [(h, .inr (7, [.ref a, .int (iI nn)])), (a, .inl (E.1, 640, .inl (ia (upZ g3 (i + q) (((f i) * (g2 q) + (g3 (i + q)) + cy) % 65536))))), (h1, .inr (7, [.ref a1, .int (iI kf)])), (a1, .inl (E.1, 640, .inl (ia f))), (h2, .inr (7, [.ref a2, .int (iI k2)])), (a2, .inl (E.1, 640, .inl (ia g2)))] := hD
            refine lv_lload hx hb d_Big_product_134 (lv_at hl 0 rfl) ?_
            refine wi_bipush hx hb d_Big_product_136 (by decide) ?_
            refine wi_lshr hx hb 16 65536 (by decide +kernel) rfl (by decide) (by omega) d_Big_product_138 ?_
            refine lv_lstore (lv' := [(4, .long (lI (((f i) * (g2 q) + (g3 (i + q)) + cy) / 65536))), (7, .long (lI ((f i) * (g2 q) + (g3 (i + q)) + cy))), (0, .ref h), (1, .ref h1), (2, .ref h2), (3, .int (iI i)), (6, .int (iI q))]) hx hb d_Big_product_139 hl (by decide) rfl (fun ls hl => ?_)
            refine wi_iinc (v := q + 1) (lv' := [(6, .int (iI (q + 1))), (4, .long (lI (((f i) * (g2 q) + (g3 (i + q)) + cy) / 65536))), (7, .long (lI ((f i) * (g2 q) + (g3 (i + q)) + cy))), (0, .ref h), (1, .ref h1), (2, .ref h2), (3, .int (iI i))]) hx hb d_Big_product_141 hl (k := 6) rfl rfl (by decide) rfl (fun ls hl => ?_)
            refine lv_goto (tgt := 77) hx hb d_Big_product_144 (by decide) ?_
            exact ih77 (q + 1) (((f i) * (g2 q) + (g3 (i + q)) + cy) / 65536) (upZ g3 (i + q) (((f i) * (g2 q) + (g3 (i + q)) + cy) % 65536)) (hnn2) (by omega) (by omega) (bp_s (f := f) hC (by omega)) (by omega) (by omega) _ _ _ (lv_sub hl [3, 4, 5, 6, 1, 0] rfl) (hP.sub [0, 1, 2, 3, 4, 5] rfl) (hD.sub [0, 1, 2, 3, 4, 5] (by decide) rfl) hS
      refine lv_iload_n hx hb d_Big_product_56 rfl (lv_at hl 3 rfl) ?_
      refine lv_aload_n hx hb d_Big_product_57 rfl (lv_at hl 1 rfl) ?_
      refine wk_get B hP 2 rfl fl_Big_13 (v := .int (iI kf)) rfl d_Big_product_58 ?_
      refine wi_icmp_ge (tgt := 167) hx hb d_Big_product_61 (by decide) (by omega) (by omega) (fun c_2 => ?_) (fun c_2 => ?_)
      · skip
        have hV8 : MV g1 nn = v * w := by
          rcases hnn with z | z
          · rw [z.1, MV_0]
            rcases z.2 with y | y
            · rw [hzf.mp y]; simp
            · rw [hzg.mp y]; simp
          · rw [hV1, show i = kf by omega, hN.2.2.2]
        refine lv_aload_n hx hb d_Big_product_167 rfl (lv_at hl 0 rfl) ?_
        refine wk_callV (As := []) (rest := []) (wr := [(h1, .inr (7, [.ref a1, .int (iI kf)])), (a1, .inl (E.1, 640, .inl (ia f))), (h2, .inr (7, [.ref a2, .int (iI k2)])), (a2, .inl (E.1, 640, .inl (ia g2)))]) B gTB cl_Big_19 (c_Big_trim l D E h a g1 nn (hnr) (hD1)) ⟨⟨rfl, rfl⟩, Nat.le_of_ble_eq_true rfl, Nat.le_of_ble_eq_true rfl⟩ hP hD hS [0, 1] [2, 3, 4, 5] rfl rfl (by decide) 0 rfl rfl rfl ⟨hl.2.1, hl.1⟩ rfl (Nat.le_of_ble_eq_true rfl) d_Big_product_168 ⟨Nat.le_of_ble_eq_true rfl, Nat.le_of_ble_eq_true rfl⟩ rfl (fun k2_3 H locs hw hP hD hS => ?_)
        have hP : va_P D classes [(h1, .inr (7, [.ref a1, .int (iI kf)])), (a1, .inl (E.1, 640, .inl (ia f))), (h2, .inr (7, [.ref a2, .int (iI k2)])), (a2, .inl (E.1, 640, .inl (ia g2))), (h, .inr (7, [.ref a, .int (iI k2_3)])), (a, .inl (E.1, 640, .inl (ia g1)))] H := hP
        have hD : va_D A [(h1, .inr (7, [.ref a1, .int (iI kf)])), (a1, .inl (E.1, 640, .inl (ia f))), (h2, .inr (7, [.ref a2, .int (iI k2)])), (a2, .inl (E.1, 640, .inl (ia g2))), (h, .inr (7, [.ref a, .int (iI k2_3)])), (a, .inl (E.1, 640, .inl (ia g1)))] := hD
        have hw : (BigOK g1 k2_3 (MV g1 nn)) := hw
        have hM_4 := hw
        refine W.cs (g := F0 m 171 ls []) (cells' := 0) (slots' := 0) rfl rfl ?_
        exact ret (g1, k2_3) _ _ _ _ d_Big_product_171 (show (BigOK g1 k2_3 (v * w)) from (by rw [← hV8]; exact hM_4)) (hP.sub [4, 5, 0, 1, 2, 3] rfl) (hD.sub [4, 5, 0, 1, 2, 3] (by decide) rfl) hS
      · skip
        refine lv_aload_n hx hb d_Big_product_64 rfl (lv_at hl 0 rfl) ?_
        refine wk_get B hP 0 rfl fl_Big_13 (v := .int (iI nn)) rfl d_Big_product_65 ?_
        refine wi_if_le (tgt := 167) hx hb d_Big_product_68 (by decide) (by omega) (fun c_5 => ?_) (fun c_5 => ?_)
        · skip
          have hV8 : MV g1 nn = v * w := by
            rcases hnn with z | z
            · rw [z.1, MV_0]
              rcases z.2 with y | y
              · rw [hzf.mp y]; simp
              · rw [hzg.mp y]; simp
            · rw [hV1, show i = kf by omega, hN.2.2.2]
          refine lv_aload_n hx hb d_Big_product_167 rfl (lv_at hl 0 rfl) ?_
          refine wk_callV (As := []) (rest := []) (wr := [(h1, .inr (7, [.ref a1, .int (iI kf)])), (a1, .inl (E.1, 640, .inl (ia f))), (h2, .inr (7, [.ref a2, .int (iI k2)])), (a2, .inl (E.1, 640, .inl (ia g2)))]) B gTB cl_Big_19 (c_Big_trim l D E h a g1 nn (hnr) (hD1)) ⟨⟨rfl, rfl⟩, Nat.le_of_ble_eq_true rfl, Nat.le_of_ble_eq_true rfl⟩ hP hD hS [0, 1] [2, 3, 4, 5] rfl rfl (by decide) 0 rfl rfl rfl ⟨hl.2.1, hl.1⟩ rfl (Nat.le_of_ble_eq_true rfl) d_Big_product_168 ⟨Nat.le_of_ble_eq_true rfl, Nat.le_of_ble_eq_true rfl⟩ rfl (fun k2_6 H locs hw hP hD hS => ?_)
          have hP : va_P D classes [(h1, .inr (7, [.ref a1, .int (iI kf)])), (a1, .inl (E.1, 640, .inl (ia f))), (h2, .inr (7, [.ref a2, .int (iI k2)])), (a2, .inl (E.1, 640, .inl (ia g2))), (h, .inr (7, [.ref a, .int (iI k2_6)])), (a, .inl (E.1, 640, .inl (ia g1)))] H := hP
          have hD : va_D A [(h1, .inr (7, [.ref a1, .int (iI kf)])), (a1, .inl (E.1, 640, .inl (ia f))), (h2, .inr (7, [.ref a2, .int (iI k2)])), (a2, .inl (E.1, 640, .inl (ia g2))), (h, .inr (7, [.ref a, .int (iI k2_6)])), (a, .inl (E.1, 640, .inl (ia g1)))] := hD
          have hw : (BigOK g1 k2_6 (MV g1 nn)) := hw
          have hM_7 := hw
          refine W.cs (g := F0 m 171 ls []) (cells' := 0) (slots' := 0) rfl rfl ?_
          exact ret (g1, k2_6) _ _ _ _ d_Big_product_171 (show (BigOK g1 k2_6 (v * w)) from (by rw [← hV8]; exact hM_7)) (hP.sub [4, 5, 0, 1, 2, 3] rfl) (hD.sub [4, 5, 0, 1, 2, 3] (by decide) rfl) hS
        · skip
          refine wi_lconst (z := 0) hx hb d_Big_product_71 (by decide) ?_
          refine lv_lstore (lv' := [(4, .long (lI 0)), (0, .ref h), (1, .ref h1), (2, .ref h2), (3, .int (iI i))]) hx hb d_Big_product_72 hl (by decide) rfl (fun ls hl => ?_)
          refine wi_iconst (n := 0) hx hb d_Big_product_74 ?_
          refine lv_istore (lv' := [(6, .int (iI 0)), (4, .long (lI 0)), (0, .ref h), (1, .ref h1), (2, .ref h2), (3, .int (iI i))]) hx hb d_Big_product_75 hl (by decide) rfl (fun ls hl => ?_)
          exact K_77 ((k2 - 0 : Int).toNat + 1) 0 0 g1 (by omega) (by omega) (by omega) (by rw [Int.add_zero]; exact DL_0 hi.1) (by omega) (by omega) _ _ _ (lv_sub hl [2, 3, 4, 5, 1, 0] rfl) (hP.sub [0, 1, 2, 3, 4, 5] rfl) (hD.sub [0, 1, 2, 3, 4, 5] (by decide) rfl) hS
  have K_33 : ∀ (fuel33 : Nat) (i : Int) (nn : Int) (g1 : Int → Int) (hnn : (nn = 0 ∧ (kf = 0 ∨ k2 = 0)) ∨ (nn = kf + k2 ∧ 0 < kf ∧ 0 < k2)) (hi : 0 ≤ i ∧ i ≤ nn) (hz : ∀ j : Int, 0 ≤ j → j < i → g1 j = 0) (hf33 : nn - i < (fuel33 : Int)) (ls : Array Slot) (H : Heap) (locs : List Loc), lv_has ls 9 [(0, .ref h), (1, .ref h1), (2, .ref h2), (3, .int (iI i))] → va_P D classes [(h, .inr (7, [.ref a, .int (iI nn)])), (a, .inl (E.1, 640, .inl (ia g1))), (h1, .inr (7, [.ref a1, .int (iI kf)])), (a1, .inl (E.1, 640, .inl (ia f))), (h2, .inr (7, [.ref a2, .int (iI k2)])), (a2, .inl (E.1, 640, .inl (ia g2)))] H → va_D A [(h, .inr (7, [.ref a, .int (iI nn)])), (a, .inl (E.1, 640, .inl (ia g1))), (h1, .inr (7, [.ref a1, .int (iI kf)])), (a1, .inl (E.1, 640, .inl (ia f))), (h2, .inr (7, [.ref a2, .int (iI k2)])), (a2, .inl (E.1, 640, .inl (ia g2)))] → va_S A s.heap H locs → W p l e (rmK 1 0 0 20) s m args below meth c H locs 0 0 Q (F0 m 33 ls []) := by
    intro fuel33
    induction fuel33 with
    | zero =>
      intro i nn g1 hnn hi hz hf33 ls H locs hl hP hD hS
      exfalso; omega
    | succ fuel33 ih33 =>
      intro i nn g1 hnn hi hz hf33 ls H locs hl hP hD hS
      have hnr : 0 ≤ nn ∧ nn ≤ 640 := by omega
      refine lv_iload_n hx hb d_Big_product_33 rfl (lv_at hl 3 rfl) ?_
      refine lv_aload_n hx hb d_Big_product_34 rfl (lv_at hl 0 rfl) ?_
      refine wk_get B hP 0 rfl fl_Big_13 (v := .int (iI nn)) rfl d_Big_product_35 ?_
      refine wi_icmp_ge (tgt := 54) hx hb d_Big_product_38 (by decide) (by omega) (by omega) (fun c_8 => ?_) (fun c_8 => ?_)
      · skip
        refine wi_iconst (n := 0) hx hb d_Big_product_54 ?_
        refine lv_istore_n (lv' := [(3, .int (iI 0)), (0, .ref h), (1, .ref h1), (2, .ref h2)]) hx hb d_Big_product_55 rfl hl (by decide) rfl (fun ls hl => ?_)
        exact K_56 ((kf - 0 : Int).toNat + 1) 0 nn g1 (hnn) (by omega) (fun j h1 h2 => by rw [hz j h1 (by omega)]; omega) (by rw [MV_0, MV_low0 (by omega) (fun j h1 h2 => hz j h1 (by omega))]; omega) (by omega) _ _ _ (lv_sub hl [1, 2, 3, 0] rfl) (hP.sub [0, 1, 2, 3, 4, 5] rfl) (hD.sub [0, 1, 2, 3, 4, 5] (by decide) rfl) hS
      · skip
        refine lv_aload_n hx hb d_Big_product_41 rfl (lv_at hl 0 rfl) ?_
        refine wk_get B hP 0 rfl fl_Big_7 (v := .ref a) rfl d_Big_product_42 ?_
        refine lv_iload_n hx hb d_Big_product_45 rfl (lv_at hl 3 rfl) ?_
        refine wi_iconst (n := 0) hx hb d_Big_product_46 ?_
        refine wi_iast hx hb hK hP hD hS 1 0 rfl rfl (by omega) (by omega) d_Big_product_47 (fun H locs hP hD hS => ?_)
        have hP : va_P D classes [(h, .inr (7, [.ref a, .int (iI nn)])), (a, .inl (E.1, 640, .inl (ia (upZ g1 i 0)))), (h1, .inr (7, [.ref a1, .int (iI kf)])), (a1, .inl (E.1, 640, .inl (ia f))), (h2, .inr (7, [.ref a2, .int (iI k2)])), (a2, .inl (E.1, 640, .inl (ia g2)))] H := hP
        have hD : va_D A [(h, .inr (7, [.ref a, .int (iI nn)])), (a, .inl (E.1, 640, .inl (ia (upZ g1 i 0)))), (h1, .inr (7, [.ref a1, .int (iI kf)])), (a1, .inl (E.1, 640, .inl (ia f))), (h2, .inr (7, [.ref a2, .int (iI k2)])), (a2, .inl (E.1, 640, .inl (ia g2)))] := hD
        refine wi_iinc (v := i + 1) (lv' := [(3, .int (iI (i + 1))), (0, .ref h), (1, .ref h1), (2, .ref h2)]) hx hb d_Big_product_48 hl (k := 3) rfl rfl (by decide) rfl (fun ls hl => ?_)
        refine lv_goto (tgt := 33) hx hb d_Big_product_51 (by decide) ?_
        exact ih33 (i + 1) nn (upZ g1 i 0) (hnn) (by omega) (fun j h1 h2 => if z : j = i then (by rw [z, upZ_s]) else (by rw [upZ_n z]; exact hz j h1 (by omega))) (by omega) _ _ _ (lv_sub hl [1, 2, 3, 0] rfl) (hP.sub [0, 1, 2, 3, 4, 5] rfl) (hD.sub [0, 1, 2, 3, 4, 5] (by decide) rfl) hS
  have K_28 : ∀ (nn : Int) (hnn : (nn = 0 ∧ (kf = 0 ∨ k2 = 0)) ∨ (nn = kf + k2 ∧ 0 < kf ∧ 0 < k2)) (ls : Array Slot) (H : Heap) (locs : List Loc), lv_has ls 9 [(0, .ref h), (1, .ref h1), (2, .ref h2)] → va_P D classes [(h, .inr (7, [.ref a, .int (iI k)])), (a, .inl (E.1, 640, .inl (ia g))), (h1, .inr (7, [.ref a1, .int (iI kf)])), (a1, .inl (E.1, 640, .inl (ia f))), (h2, .inr (7, [.ref a2, .int (iI k2)])), (a2, .inl (E.1, 640, .inl (ia g2)))] H → va_D A [(h, .inr (7, [.ref a, .int (iI k)])), (a, .inl (E.1, 640, .inl (ia g))), (h1, .inr (7, [.ref a1, .int (iI kf)])), (a1, .inl (E.1, 640, .inl (ia f))), (h2, .inr (7, [.ref a2, .int (iI k2)])), (a2, .inl (E.1, 640, .inl (ia g2)))] → va_S A s.heap H locs → W p l e (rmK 1 0 0 20) s m args below meth c H locs 0 0 Q (F0 m 28 ls [.int (iI nn), .ref h]) := by
    intro nn hnn ls H locs hl hP hD hS
    refine wk_put B hP hD hS 0 rfl fl_Big_13 fp_Big_1 (v := .int (iI nn)) rfl rfl (Nat.le_of_ble_eq_true rfl) d_Big_product_28 (fun H locs hP hD hS => ?_)
    have hP : va_P D classes [(h, .inr (7, [.ref a, .int (iI nn)])), (a, .inl (E.1, 640, .inl (ia g))), (h1, .inr (7, [.ref a1, .int (iI kf)])), (a1, .inl (E.1, 640, .inl (ia f))), (h2, .inr (7, [.ref a2, .int (iI k2)])), (a2, .inl (E.1, 640, .inl (ia g2)))] H := hP
    have hD : va_D A [(h, .inr (7, [.ref a, .int (iI nn)])), (a, .inl (E.1, 640, .inl (ia g))), (h1, .inr (7, [.ref a1, .int (iI kf)])), (a1, .inl (E.1, 640, .inl (ia f))), (h2, .inr (7, [.ref a2, .int (iI k2)])), (a2, .inl (E.1, 640, .inl (ia g2)))] := hD
    refine wi_iconst (n := 0) hx hb d_Big_product_31 ?_
    refine lv_istore_n (lv' := [(3, .int (iI 0)), (0, .ref h), (1, .ref h1), (2, .ref h2)]) hx hb d_Big_product_32 rfl hl (by decide) rfl (fun ls hl => ?_)
    exact K_33 ((nn - 0 : Int).toNat + 1) 0 nn g (hnn) (by omega) (fun j h1 h2 => by omega) (by omega) _ _ _ (lv_sub hl [1, 2, 3, 0] rfl) (hP.sub [0, 1, 2, 3, 4, 5] rfl) (hD.sub [0, 1, 2, 3, 4, 5] (by decide) rfl) hS
  refine lv_aload_n hx hb d_Big_product_0 rfl (lv_at hl 0 rfl) ?_
  refine lv_aload_n hx hb d_Big_product_1 rfl (lv_at hl 1 rfl) ?_
  refine wk_get B hP 2 rfl fl_Big_13 (v := .int (iI kf)) rfl d_Big_product_2 ?_
  refine wi_if_eq (tgt := 15) hx hb d_Big_product_5 (by decide) (by omega) (fun c_9 => ?_) (fun c_9 => ?_)
  · skip
    refine wi_iconst (n := 0) hx hb d_Big_product_15 ?_
    refine lv_goto (tgt := 28) hx hb d_Big_product_16 (by decide) ?_
    exact K_28 0 (by omega) _ _ _ (lv_sub hl [0, 1, 2] rfl) (hP.sub [0, 1, 2, 3, 4, 5] rfl) (hD.sub [0, 1, 2, 3, 4, 5] (by decide) rfl) hS
  · skip
    refine lv_aload_n hx hb d_Big_product_8 rfl (lv_at hl 2 rfl) ?_
    refine wk_get B hP 4 rfl fl_Big_13 (v := .int (iI k2)) rfl d_Big_product_9 ?_
    refine wi_if_ne (tgt := 19) hx hb d_Big_product_12 (by decide) (by omega) (fun c_10 => ?_) (fun c_10 => ?_)
    · skip
      refine lv_aload_n hx hb d_Big_product_19 rfl (lv_at hl 1 rfl) ?_
      refine wk_get B hP 2 rfl fl_Big_13 (v := .int (iI kf)) rfl d_Big_product_20 ?_
      refine lv_aload_n hx hb d_Big_product_23 rfl (lv_at hl 2 rfl) ?_
      refine wk_get B hP 4 rfl fl_Big_13 (v := .int (iI k2)) rfl d_Big_product_24 ?_
      refine wi_iadd hx hb d_Big_product_27 ?_
      exact K_28 (kf + k2) (by omega) _ _ _ (lv_sub hl [0, 1, 2] rfl) (hP.sub [0, 1, 2, 3, 4, 5] rfl) (hD.sub [0, 1, 2, 3, 4, 5] (by decide) rfl) hS
    · skip
      refine wi_iconst (n := 0) hx hb d_Big_product_15 ?_
      refine lv_goto (tgt := 28) hx hb d_Big_product_16 (by decide) ?_
      exact K_28 0 (by omega) _ _ _ (lv_sub hl [0, 1, 2] rfl) (hP.sub [0, 1, 2, 3, 4, 5] rfl) (hD.sub [0, 1, 2, 3, 4, 5] (by decide) rfl) hS
set_option maxHeartbeats 4000000 in
set_option maxRecDepth 100000 in
theorem c_Big_shift (l : Launch) (D : va_G) (E : EVt) (h : Nat) (a : Nat) (g : Int → Int) (k : Int) (bs : Int) (v : Int) (hN : BigOK g k v) (hbs : 0 ≤ bs ∧ bs < 1000000) (hf1 : v * P2 bs < QB 640) : CT l D classes (tyl E) (EVX E) y_Big_shift (Cond.code y_Big_shift b_Big_shift 5 none :: TB) (rmK 1 0 0 27) 0 0 [.ref h, .int (iI bs)] [(h, .inr (7, [.ref a, .int (iI k)])), (a, .inl (E.1, 640, .inl (ia g)))] (S := (Int → Int) × Int) (fun u => [(h, .inr (7, [.ref a, .int (iI u.2)])), (a, .inl (E.1, 640, .inl (ia u.1)))]) (fun _ => none) (fun u => (BigOK u.1 u.2 (v * P2 bs))) := by
  refine CT.ofv (eok E) (by decide) rfl (Nat.le_of_ble_eq_true rfl) ?_
  intro p e s m args below meth c A Q ls B hmn hP hD hS hl ret
  have B : Bd l D classes (tyl E) (EVX E) p m c b_Big_shift 5 s args (Cond.code y_Big_shift b_Big_shift 5 none :: TB) R_Big A := B
  obtain ⟨⟨hx, hb, hml, hown, hts⟩, hX, hK, hE, hA⟩ := id B
  have hl : lv_has ls 5 [(0, .ref h), (1, .int (iI bs))] := hl
  have hP : va_P D classes [(h, .inr (7, [.ref a, .int (iI k)])), (a, .inl (E.1, 640, .inl (ia g)))] s.heap := hP
  have hD : va_D A [(h, .inr (7, [.ref a, .int (iI k)])), (a, .inl (E.1, 640, .inl (ia g)))] := hD
  have hk := hN.k
  have K_56 : ∀ (fuel56 : Nat) (i : Int) (g1 : Int → Int) (hk0 : 0 < k) (hi : 0 ≤ i ∧ i ≤ bs / 16) (hm : ∀ j : Int, 0 ≤ j → j < k → g1 (j + bs / 16) = g j) (hz : ∀ j : Int, 0 ≤ j → j < i → g1 j = 0) (hf56 : bs / 16 - i < (fuel56 : Int)) (ls : Array Slot) (H : Heap) (locs : List Loc), lv_has ls 5 [(0, .ref h), (1, .int (iI bs)), (2, .int (iI (bs / 16))), (3, .int (iI (bs % 16))), (4, .int (iI i))] → va_P D classes [(h, .inr (7, [.ref a, .int (iI k)])), (a, .inl (E.1, 640, .inl (ia g1)))] H → va_D A [(h, .inr (7, [.ref a, .int (iI k)])), (a, .inl (E.1, 640, .inl (ia g1)))] → va_S A s.heap H locs → W p l e (rmK 1 0 0 27) s m args below meth c H locs 0 0 Q (F0 m 56 ls []) := by
    intro fuel56
    induction fuel56 with
    | zero =>
      intro i g1 hk0 hi hm hz hf56 ls H locs hl hP hD hS
      exfalso; omega
    | succ fuel56 ih56 =>
      intro i g1 hk0 hi hm hz hf56 ls H locs hl hP hD hS
      have hrm := bm_room hN hk0 hbs.1 hf1
      refine lv_iload hx hb d_Big_shift_56 (lv_at hl 4 rfl) ?_
      refine lv_iload_n hx hb d_Big_shift_58 rfl (lv_at hl 2 rfl) ?_
      refine wi_icmp_ge (tgt := 76) hx hb d_Big_shift_59 (by decide) (by omega) (by omega) (fun c_1 => ?_) (fun c_1 => ?_)
      · skip
        refine lv_aload_n hx hb d_Big_shift_76 rfl (lv_at hl 0 rfl) ?_
        refine lv_aload_n hx hb d_Big_shift_77 rfl (lv_at hl 0 rfl) ?_
        refine wk_get B hP 0 rfl fl_Big_13 (v := .int (iI k)) rfl d_Big_shift_78 ?_
        refine lv_iload_n hx hb d_Big_shift_81 rfl (lv_at hl 2 rfl) ?_
        refine wi_iadd hx hb d_Big_shift_82 ?_
        refine wk_put B hP hD hS 0 rfl fl_Big_13 fp_Big_1 (v := .int (iI (k + (bs / 16)))) rfl rfl (Nat.le_of_ble_eq_true rfl) d_Big_shift_83 (fun H locs hP hD hS => ?_)
        have hP : va_P D classes [(h, .inr (7, [.ref a, .int (iI (k + (bs / 16)))])), (a, .inl (E.1, 640, .inl (ia g1)))] H := hP
        have hD : va_D A [(h, .inr (7, [.ref a, .int (iI (k + (bs / 16)))])), (a, .inl (E.1, 640, .inl (ia g1)))] := hD
        have hbv := bm_val hN hk0 (pl := bs / 16) (by omega) hrm.1 (fun j h1 h2 => hz j h1 (by omega)) hm
        have h15 := P2_15 (r := bs % 16) (by omega)
        refine lv_aload_n hx hb d_Big_shift_86 rfl (lv_at hl 0 rfl) ?_
        refine wi_iconst (n := 1) hx hb d_Big_shift_87 ?_
        refine lv_iload_n hx hb d_Big_shift_88 rfl (lv_at hl 3 rfl) ?_
        refine wi_ishl hx hb ((bs % 16).toNat) (P2 (bs % 16)) (rfl) (by omega) (by omega) d_Big_shift_89 ?_
        refine wi_iconst (n := 0) hx hb d_Big_shift_90 ?_
        refine wk_callV (As := [.int (iI (1 * (P2 (bs % 16)))), .int (iI 0)]) (rest := []) (wr := []) B gTB cl_Big_22 (c_Big_grow l D E h a g1 (k + (bs / 16)) (1 * (P2 (bs % 16))) 0 (v * QB (bs / 16)) (hbv) (h15) (by omega) (by rw [hrm.2, Int.add_zero]; exact hf1)) ⟨⟨rfl, rfl⟩, Nat.le_of_ble_eq_true rfl, Nat.le_of_ble_eq_true rfl⟩ hP hD hS [0, 1] [] rfl rfl (by decide) 0 rfl rfl rfl ⟨hl.2.1, hl.1⟩ rfl (Nat.le_of_ble_eq_true rfl) d_Big_shift_91 ⟨Nat.le_of_ble_eq_true rfl, Nat.le_of_ble_eq_true rfl⟩ rfl (fun u H locs hw hP hD hS => ?_)
        obtain ⟨g2_2, k2_3⟩ := u
        have hP : va_P D classes [(h, .inr (7, [.ref a, .int (iI k2_3)])), (a, .inl (E.1, 640, .inl (ia g2_2)))] H := hP
        have hD : va_D A [(h, .inr (7, [.ref a, .int (iI k2_3)])), (a, .inl (E.1, 640, .inl (ia g2_2)))] := hD
        have hw : (BigOK g2_2 k2_3 ((v * QB (bs / 16)) * (1 * (P2 (bs % 16))) + 0)) := hw
        have hM_4 := hw
        refine W.cs (g := F0 m 94 ls []) (cells' := 0) (slots' := 0) rfl rfl ?_
        exact ret (g2_2, k2_3) _ _ _ _ d_Big_shift_94 (show (BigOK g2_2 k2_3 (v * P2 bs)) from (by have q := hM_4; rw [hrm.2, Int.add_zero] at q; exact q)) (hP.sub [0, 1] rfl) (hD.sub [0, 1] (by decide) rfl) hS
      · skip
        refine lv_aload_n hx hb d_Big_shift_62 rfl (lv_at hl 0 rfl) ?_
        refine wk_get B hP 0 rfl fl_Big_7 (v := .ref a) rfl d_Big_shift_63 ?_
        refine lv_iload hx hb d_Big_shift_66 (lv_at hl 4 rfl) ?_
        refine wi_iconst (n := 0) hx hb d_Big_shift_68 ?_
        refine wi_iast hx hb hK hP hD hS 1 0 rfl rfl (by omega) (by omega) d_Big_shift_69 (fun H locs hP hD hS => ?_)
        have hP : va_P D classes [(h, .inr (7, [.ref a, .int (iI k)])), (a, .inl (E.1, 640, .inl (ia (upZ g1 i 0))))] H := hP
        have hD : va_D A [(h, .inr (7, [.ref a, .int (iI k)])), (a, .inl (E.1, 640, .inl (ia (upZ g1 i 0))))] := hD
        refine wi_iinc (v := i + 1) (lv' := [(4, .int (iI (i + 1))), (0, .ref h), (1, .int (iI bs)), (2, .int (iI (bs / 16))), (3, .int (iI (bs % 16)))]) hx hb d_Big_shift_70 hl (k := 4) rfl rfl (by decide) rfl (fun ls hl => ?_)
        refine lv_goto (tgt := 56) hx hb d_Big_shift_73 (by decide) ?_
        exact ih56 (i + 1) (upZ g1 i 0) (hk0) (by omega) (fun j h1 h2 => by rw [upZ_n (by omega)]; exact hm j h1 h2) (fun j h1 h2 => if z : j = i then (by rw [z, upZ_s]) else (by rw [upZ_n z]; exact hz j h1 (by omega))) (by omega) _ _ _ (lv_sub hl [1, 2, 3, 4, 0] rfl) (hP.sub [0, 1] rfl) (hD.sub [0, 1] (by decide) rfl) hS
  have K_26 : ∀ (fuel26 : Nat) (i : Int) (g1 : Int → Int) (hk0 : 0 < k) (hi : -1 ≤ i ∧ i < k) (hm : ∀ j : Int, i < j → j < k → g1 (j + bs / 16) = g j) (hlo : ∀ j : Int, j ≤ i → g1 j = g j) (hf26 : i + 1 < (fuel26 : Int)) (ls : Array Slot) (H : Heap) (locs : List Loc), lv_has ls 5 [(0, .ref h), (1, .int (iI bs)), (2, .int (iI (bs / 16))), (3, .int (iI (bs % 16))), (4, .int (iI i))] → va_P D classes [(h, .inr (7, [.ref a, .int (iI k)])), (a, .inl (E.1, 640, .inl (ia g1)))] H → va_D A [(h, .inr (7, [.ref a, .int (iI k)])), (a, .inl (E.1, 640, .inl (ia g1)))] → va_S A s.heap H locs → W p l e (rmK 1 0 0 27) s m args below meth c H locs 0 0 Q (F0 m 26 ls []) := by
    intro fuel26
    induction fuel26 with
    | zero =>
      intro i g1 hk0 hi hm hlo hf26 ls H locs hl hP hD hS
      exfalso; omega
    | succ fuel26 ih26 =>
      intro i g1 hk0 hi hm hlo hf26 ls H locs hl hP hD hS
      have hrm := bm_room hN hk0 hbs.1 hf1
      refine lv_iload hx hb d_Big_shift_26 (lv_at hl 4 rfl) ?_
      refine wi_if_lt (tgt := 53) hx hb d_Big_shift_28 (by decide) (by omega) (fun c_5 => ?_) (fun c_5 => ?_)
      · skip
        refine wi_iconst (n := 0) hx hb d_Big_shift_53 ?_
        refine lv_istore (lv' := [(4, .int (iI 0)), (0, .ref h), (1, .int (iI bs)), (2, .int (iI (bs / 16))), (3, .int (iI (bs % 16)))]) hx hb d_Big_shift_54 hl (by decide) rfl (fun ls hl => ?_)
        exact K_56 ((bs / 16 - 0 : Int).toNat + 1) 0 g1 (hk0) (by omega) (fun j h1 h2 => hm j (by omega) h2) (fun j h1 h2 => by omega) (by omega) _ _ _ (lv_sub hl [1, 2, 3, 4, 0] rfl) (hP.sub [0, 1] rfl) (hD.sub [0, 1] (by decide) rfl) hS
      · skip
        refine lv_aload_n hx hb d_Big_shift_31 rfl (lv_at hl 0 rfl) ?_
        refine wk_get B hP 0 rfl fl_Big_7 (v := .ref a) rfl d_Big_shift_32 ?_
        refine lv_iload hx hb d_Big_shift_35 (lv_at hl 4 rfl) ?_
        refine lv_iload_n hx hb d_Big_shift_37 rfl (lv_at hl 2 rfl) ?_
        refine wi_iadd hx hb d_Big_shift_38 ?_
        refine lv_aload_n hx hb d_Big_shift_39 rfl (lv_at hl 0 rfl) ?_
        refine wk_get B hP 0 rfl fl_Big_7 (v := .ref a) rfl d_Big_shift_40 ?_
        refine lv_iload hx hb d_Big_shift_43 (lv_at hl 4 rfl) ?_
        refine wi_iald hx hb hK hP 1 0 rfl rfl (by omega) (by omega) d_Big_shift_45 ?_
        refine wi_iast hx hb hK hP hD hS 1 0 rfl rfl (by omega) (by omega) d_Big_shift_46 (fun H locs hP hD hS => ?_)
        have hP : va_P D classes [(h, .inr (7, [.ref a, .int (iI k)])), (a, .inl (E.1, 640, .inl (ia (upZ g1 (i + (bs / 16)) (g1 i)))))] H := hP
        have hD : va_D A [(h, .inr (7, [.ref a, .int (iI k)])), (a, .inl (E.1, 640, .inl (ia (upZ g1 (i + (bs / 16)) (g1 i)))))] := hD
        refine wi_iinc (v := i + (-1)) (lv' := [(4, .int (iI (i + (-1)))), (0, .ref h), (1, .int (iI bs)), (2, .int (iI (bs / 16))), (3, .int (iI (bs % 16)))]) hx hb d_Big_shift_47 hl (k := 4) rfl rfl (by decide) rfl (fun ls hl => ?_)
        refine lv_goto (tgt := 26) hx hb d_Big_shift_50 (by decide) ?_
        exact ih26 (i + (-1)) (upZ g1 (i + (bs / 16)) (g1 i)) (hk0) (by omega) (fun j h1 h2 => if z : j = i then (by rw [z, upZ_s]; exact hlo i (Int.le_refl _)) else (by rw [upZ_n (by omega)]; exact hm j (by omega) h2)) (fun j h1 => by rw [upZ_n (by omega)]; exact hlo j (by omega)) (by omega) _ _ _ (lv_sub hl [1, 2, 3, 4, 0] rfl) (hP.sub [0, 1] rfl) (hD.sub [0, 1] (by decide) rfl) hS
  refine lv_iload_n hx hb d_Big_shift_0 rfl (lv_at hl 1 rfl) ?_
  refine wi_bipush hx hb d_Big_shift_1 (by decide) ?_
  refine wi_idiv hx hb d_Big_shift_3 (by omega) (by omega) ?_
  refine lv_istore_n (lv' := [(2, .int (iI (bs / 16))), (0, .ref h), (1, .int (iI bs))]) hx hb d_Big_shift_4 rfl hl (by decide) rfl (fun ls hl => ?_)
  refine lv_iload_n hx hb d_Big_shift_5 rfl (lv_at hl 2 rfl) ?_
  refine wi_bipush hx hb d_Big_shift_6 (by decide) ?_
  refine wi_irem hx hb d_Big_shift_8 (by omega) (by omega) ?_
  refine lv_istore_n (lv' := [(3, .int (iI (bs % 16))), (2, .int (iI (bs / 16))), (0, .ref h), (1, .int (iI bs))]) hx hb d_Big_shift_9 rfl hl (by decide) rfl (fun ls hl => ?_)
  refine lv_aload_n hx hb d_Big_shift_10 rfl (lv_at hl 2 rfl) ?_
  refine wk_get B hP 0 rfl fl_Big_13 (v := .int (iI k)) rfl d_Big_shift_11 ?_
  refine wi_if_ne (tgt := 18) hx hb d_Big_shift_14 (by decide) (by omega) (fun c_6 => ?_) (fun c_6 => ?_)
  · skip
    refine lv_aload_n hx hb d_Big_shift_18 rfl (lv_at hl 2 rfl) ?_
    refine wk_get B hP 0 rfl fl_Big_13 (v := .int (iI k)) rfl d_Big_shift_19 ?_
    refine wi_iconst (n := 1) hx hb d_Big_shift_22 ?_
    refine wi_isub hx hb d_Big_shift_23 ?_
    refine lv_istore (lv' := [(4, .int (iI (k - 1))), (3, .int (iI (bs % 16))), (2, .int (iI (bs / 16))), (0, .ref h), (1, .int (iI bs))]) hx hb d_Big_shift_24 hl (by decide) rfl (fun ls hl => ?_)
    exact K_26 (((k - 1) + 1 : Int).toNat + 1) (k - 1) g (by omega) (by omega) (fun j h1 h2 => by omega) (fun _ _ => rfl) (by omega) _ _ _ (lv_sub hl [3, 4, 2, 1, 0] rfl) (hP.sub [0, 1] rfl) (hD.sub [0, 1] (by decide) rfl) hS
  · skip
    exact ret (g, k) _ _ _ _ d_Big_shift_17 (show (BigOK g k (v * P2 bs)) from (by rw [hN.zero.mp (by omega), Int.zero_mul]; have h := hN; rw [hN.zero.mp (by omega)] at h; exact h)) (hP.sub [0, 1] rfl) (hD.sub [0, 1] (by decide) rfl) hS
