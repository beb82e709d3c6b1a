/-! Printer: powerOfTen, addExponent, addDigits, addBase16 -/
abbrev b_Printer_powerOfTen : ByteArray := prog_4_method_9_code
def y_Printer_powerOfTen : MethodName := ⟨"IntervalText$Printer", "powerOfTen", "(I)J"⟩
abbrev b_Printer_addExponent : ByteArray := prog_4_method_8_code
def y_Printer_addExponent : MethodName := ⟨"IntervalText$Printer", "addExponent", "(I)V"⟩
abbrev b_Printer_addDigits : ByteArray := prog_4_method_7_code
def y_Printer_addDigits : MethodName := ⟨"IntervalText$Printer", "addDigits", "(JI)V"⟩
abbrev b_Printer_addBase16 : ByteArray := prog_4_method_5_code
def y_Printer_addBase16 : MethodName := ⟨"IntervalText$Printer", "addBase16", "(J)V"⟩
theorem d_Printer_powerOfTen_0 : decode b_Printer_powerOfTen 0 = .ok (.lconst 1, 1) := by decide +kernel
theorem d_Printer_powerOfTen_1 : decode b_Printer_powerOfTen 1 = .ok (.lstore_n 1, 1) := by decide +kernel
theorem d_Printer_powerOfTen_2 : decode b_Printer_powerOfTen 2 = .ok (.iconst 0, 1) := by decide +kernel
theorem d_Printer_powerOfTen_3 : decode b_Printer_powerOfTen 3 = .ok (.istore_n 3, 1) := by decide +kernel
theorem d_Printer_powerOfTen_4 : decode b_Printer_powerOfTen 4 = .ok (.iload_n 3, 1) := by decide +kernel
theorem d_Printer_powerOfTen_5 : decode b_Printer_powerOfTen 5 = .ok (.iload_n 0, 1) := by decide +kernel
theorem d_Printer_powerOfTen_6 : decode b_Printer_powerOfTen 6 = .ok (.if_icmp .ge 21, 3) := by decide +kernel
theorem d_Printer_powerOfTen_9 : decode b_Printer_powerOfTen 9 = .ok (.iload_n 3, 1) := by decide +kernel
theorem d_Printer_powerOfTen_10 : decode b_Printer_powerOfTen 10 = .ok (.bipush 18, 2) := by decide +kernel
theorem d_Printer_powerOfTen_12 : decode b_Printer_powerOfTen 12 = .ok (.if_icmp .ge 15, 3) := by decide +kernel
theorem d_Printer_powerOfTen_15 : decode b_Printer_powerOfTen 15 = .ok (.lload_n 1, 1) := by decide +kernel
theorem d_Printer_powerOfTen_16 : decode b_Printer_powerOfTen 16 = .ok (.ldc2_w 128, 3) := by decide +kernel
theorem d_Printer_powerOfTen_19 : decode b_Printer_powerOfTen 19 = .ok (.lmul, 1) := by decide +kernel
theorem d_Printer_powerOfTen_20 : decode b_Printer_powerOfTen 20 = .ok (.lstore_n 1, 1) := by decide +kernel
theorem d_Printer_powerOfTen_21 : decode b_Printer_powerOfTen 21 = .ok (.iinc 3 1, 3) := by decide +kernel
theorem d_Printer_powerOfTen_24 : decode b_Printer_powerOfTen 24 = .ok (.goto (-20), 3) := by decide +kernel
theorem d_Printer_powerOfTen_27 : decode b_Printer_powerOfTen 27 = .ok (.lload_n 1, 1) := by decide +kernel
theorem d_Printer_powerOfTen_28 : decode b_Printer_powerOfTen 28 = .ok (.lreturn, 1) := by decide +kernel
theorem d_Printer_addExponent_0 : decode b_Printer_addExponent 0 = .ok (.iload_n 1, 1) := by decide +kernel
theorem d_Printer_addExponent_1 : decode b_Printer_addExponent 1 = .ok (.ifCond .ge 12, 3) := by decide +kernel
theorem d_Printer_addExponent_4 : decode b_Printer_addExponent 4 = .ok (.aload_n 0, 1) := by decide +kernel
theorem d_Printer_addExponent_5 : decode b_Printer_addExponent 5 = .ok (.getfield 9, 3) := by decide +kernel
theorem d_Printer_addExponent_8 : decode b_Printer_addExponent 8 = .ok (.bipush 45, 2) := by decide +kernel
theorem d_Printer_addExponent_10 : decode b_Printer_addExponent 10 = .ok (.invokevirtual 38, 3) := by decide +kernel
theorem d_Printer_addExponent_13 : decode b_Printer_addExponent 13 = .ok (.iload_n 1, 1) := by decide +kernel
theorem d_Printer_addExponent_14 : decode b_Printer_addExponent 14 = .ok (.invokestatic 134, 3) := by decide +kernel
theorem d_Printer_addExponent_17 : decode b_Printer_addExponent 17 = .ok (.istore_n 2, 1) := by decide +kernel
theorem d_Printer_addExponent_18 : decode b_Printer_addExponent 18 = .ok (.iconst 0, 1) := by decide +kernel
theorem d_Printer_addExponent_19 : decode b_Printer_addExponent 19 = .ok (.istore_n 3, 1) := by decide +kernel
theorem d_Printer_addExponent_20 : decode b_Printer_addExponent 20 = .ok (.sipush 1000, 3) := by decide +kernel
theorem d_Printer_addExponent_23 : decode b_Printer_addExponent 23 = .ok (.istore 4, 2) := by decide +kernel
theorem d_Printer_addExponent_25 : decode b_Printer_addExponent 25 = .ok (.iload 4, 2) := by decide +kernel
theorem d_Printer_addExponent_27 : decode b_Printer_addExponent 27 = .ok (.ifCond .le 56, 3) := by decide +kernel
theorem d_Printer_addExponent_30 : decode b_Printer_addExponent 30 = .ok (.iload_n 3, 1) := by decide +kernel
theorem d_Printer_addExponent_31 : decode b_Printer_addExponent 31 = .ok (.ifCond .ne 15, 3) := by decide +kernel
theorem d_Printer_addExponent_34 : decode b_Printer_addExponent 34 = .ok (.iload_n 2, 1) := by decide +kernel
theorem d_Printer_addExponent_35 : decode b_Printer_addExponent 35 = .ok (.iload 4, 2) := by decide +kernel
theorem d_Printer_addExponent_37 : decode b_Printer_addExponent 37 = .ok (.if_icmp .ge 9, 3) := by decide +kernel
theorem d_Printer_addExponent_40 : decode b_Printer_addExponent 40 = .ok (.iload 4, 2) := by decide +kernel
theorem d_Printer_addExponent_42 : decode b_Printer_addExponent 42 = .ok (.iconst 1, 1) := by decide +kernel
theorem d_Printer_addExponent_43 : decode b_Printer_addExponent 43 = .ok (.if_icmp .ne 7, 3) := by decide +kernel
theorem d_Printer_addExponent_46 : decode b_Printer_addExponent 46 = .ok (.iconst 1, 1) := by decide +kernel
theorem d_Printer_addExponent_47 : decode b_Printer_addExponent 47 = .ok (.goto 4, 3) := by decide +kernel
theorem d_Printer_addExponent_50 : decode b_Printer_addExponent 50 = .ok (.iconst 0, 1) := by decide +kernel
theorem d_Printer_addExponent_51 : decode b_Printer_addExponent 51 = .ok (.istore_n 3, 1) := by decide +kernel
theorem d_Printer_addExponent_52 : decode b_Printer_addExponent 52 = .ok (.iload_n 3, 1) := by decide +kernel
theorem d_Printer_addExponent_53 : decode b_Printer_addExponent 53 = .ok (.ifCond .eq 20, 3) := by decide +kernel
theorem d_Printer_addExponent_56 : decode b_Printer_addExponent 56 = .ok (.aload_n 0, 1) := by decide +kernel
theorem d_Printer_addExponent_57 : decode b_Printer_addExponent 57 = .ok (.getfield 9, 3) := by decide +kernel
theorem d_Printer_addExponent_60 : decode b_Printer_addExponent 60 = .ok (.bipush 48, 2) := by decide +kernel
theorem d_Printer_addExponent_62 : decode b_Printer_addExponent 62 = .ok (.iload_n 2, 1) := by decide +kernel
theorem d_Printer_addExponent_63 : decode b_Printer_addExponent 63 = .ok (.iload 4, 2) := by decide +kernel
theorem d_Printer_addExponent_65 : decode b_Printer_addExponent 65 = .ok (.idiv, 1) := by decide +kernel
theorem d_Printer_addExponent_66 : decode b_Printer_addExponent 66 = .ok (.bipush 10, 2) := by decide +kernel
theorem d_Printer_addExponent_68 : decode b_Printer_addExponent 68 = .ok (.irem, 1) := by decide +kernel
theorem d_Printer_addExponent_69 : decode b_Printer_addExponent 69 = .ok (.iadd, 1) := by decide +kernel
theorem d_Printer_addExponent_70 : decode b_Printer_addExponent 70 = .ok (.invokevirtual 38, 3) := by decide +kernel
theorem d_Printer_addExponent_73 : decode b_Printer_addExponent 73 = .ok (.iload 4, 2) := by decide +kernel
theorem d_Printer_addExponent_75 : decode b_Printer_addExponent 75 = .ok (.bipush 10, 2) := by decide +kernel
theorem d_Printer_addExponent_77 : decode b_Printer_addExponent 77 = .ok (.idiv, 1) := by decide +kernel
theorem d_Printer_addExponent_78 : decode b_Printer_addExponent 78 = .ok (.istore 4, 2) := by decide +kernel
theorem d_Printer_addExponent_80 : decode b_Printer_addExponent 80 = .ok (.goto (-55), 3) := by decide +kernel
theorem d_Printer_addExponent_83 : decode b_Printer_addExponent 83 = .ok (.return_, 1) := by decide +kernel
theorem d_Printer_addDigits_0 : decode b_Printer_addDigits 0 = .ok (.iload_n 3, 1) := by decide +kernel
theorem d_Printer_addDigits_1 : decode b_Printer_addDigits 1 = .ok (.istore 4, 2) := by decide +kernel
theorem d_Printer_addDigits_3 : decode b_Printer_addDigits 3 = .ok (.iload_n 3, 1) := by decide +kernel
theorem d_Printer_addDigits_4 : decode b_Printer_addDigits 4 = .ok (.iconst 1, 1) := by decide +kernel
theorem d_Printer_addDigits_5 : decode b_Printer_addDigits 5 = .ok (.isub, 1) := by decide +kernel
theorem d_Printer_addDigits_6 : decode b_Printer_addDigits 6 = .ok (.invokestatic 102, 3) := by decide +kernel
theorem d_Printer_addDigits_9 : decode b_Printer_addDigits 9 = .ok (.lstore 5, 2) := by decide +kernel
theorem d_Printer_addDigits_11 : decode b_Printer_addDigits 11 = .ok (.lload 5, 2) := by decide +kernel
theorem d_Printer_addDigits_13 : decode b_Printer_addDigits 13 = .ok (.lconst 0, 1) := by decide +kernel
theorem d_Printer_addDigits_14 : decode b_Printer_addDigits 14 = .ok (.lcmp, 1) := by decide +kernel
theorem d_Printer_addDigits_15 : decode b_Printer_addDigits 15 = .ok (.ifCond .le 56, 3) := by decide +kernel
theorem d_Printer_addDigits_18 : decode b_Printer_addDigits 18 = .ok (.aload_n 0, 1) := by decide +kernel
theorem d_Printer_addDigits_19 : decode b_Printer_addDigits 19 = .ok (.getfield 9, 3) := by decide +kernel
theorem d_Printer_addDigits_22 : decode b_Printer_addDigits 22 = .ok (.bipush 48, 2) := by decide +kernel
theorem d_Printer_addDigits_24 : decode b_Printer_addDigits 24 = .ok (.lload_n 1, 1) := by decide +kernel
theorem d_Printer_addDigits_25 : decode b_Printer_addDigits 25 = .ok (.lload 5, 2) := by decide +kernel
theorem d_Printer_addDigits_27 : decode b_Printer_addDigits 27 = .ok (.ldiv, 1) := by decide +kernel
theorem d_Printer_addDigits_28 : decode b_Printer_addDigits 28 = .ok (.ldc2_w 128, 3) := by decide +kernel
theorem d_Printer_addDigits_31 : decode b_Printer_addDigits 31 = .ok (.lrem, 1) := by decide +kernel
theorem d_Printer_addDigits_32 : decode b_Printer_addDigits 32 = .ok (.l2i, 1) := by decide +kernel
theorem d_Printer_addDigits_33 : decode b_Printer_addDigits 33 = .ok (.iadd, 1) := by decide +kernel
theorem d_Printer_addDigits_34 : decode b_Printer_addDigits 34 = .ok (.invokevirtual 38, 3) := by decide +kernel
theorem d_Printer_addDigits_37 : decode b_Printer_addDigits 37 = .ok (.iload 4, 2) := by decide +kernel
theorem d_Printer_addDigits_39 : decode b_Printer_addDigits 39 = .ok (.iload_n 3, 1) := by decide +kernel
theorem d_Printer_addDigits_40 : decode b_Printer_addDigits 40 = .ok (.if_icmp .ne 17, 3) := by decide +kernel
theorem d_Printer_addDigits_43 : decode b_Printer_addDigits 43 = .ok (.iload_n 3, 1) := by decide +kernel
theorem d_Printer_addDigits_44 : decode b_Printer_addDigits 44 = .ok (.iconst 1, 1) := by decide +kernel
theorem d_Printer_addDigits_45 : decode b_Printer_addDigits 45 = .ok (.if_icmp .le 12, 3) := by decide +kernel
theorem d_Printer_addDigits_48 : decode b_Printer_addDigits 48 = .ok (.aload_n 0, 1) := by decide +kernel
theorem d_Printer_addDigits_49 : decode b_Printer_addDigits 49 = .ok (.getfield 9, 3) := by decide +kernel
theorem d_Printer_addDigits_52 : decode b_Printer_addDigits 52 = .ok (.bipush 46, 2) := by decide +kernel
theorem d_Printer_addDigits_54 : decode b_Printer_addDigits 54 = .ok (.invokevirtual 38, 3) := by decide +kernel
theorem d_Printer_addDigits_57 : decode b_Printer_addDigits 57 = .ok (.iinc 4 (-1), 3) := by decide +kernel
theorem d_Printer_addDigits_60 : decode b_Printer_addDigits 60 = .ok (.lload 5, 2) := by decide +kernel
theorem d_Printer_addDigits_62 : decode b_Printer_addDigits 62 = .ok (.ldc2_w 128, 3) := by decide +kernel
theorem d_Printer_addDigits_65 : decode b_Printer_addDigits 65 = .ok (.ldiv, 1) := by decide +kernel
theorem d_Printer_addDigits_66 : decode b_Printer_addDigits 66 = .ok (.lstore 5, 2) := by decide +kernel
theorem d_Printer_addDigits_68 : decode b_Printer_addDigits 68 = .ok (.goto (-57), 3) := by decide +kernel
theorem d_Printer_addDigits_71 : decode b_Printer_addDigits 71 = .ok (.return_, 1) := by decide +kernel
theorem d_Printer_addBase16_0 : decode b_Printer_addBase16 0 = .ok (.lload_n 1, 1) := by decide +kernel
theorem d_Printer_addBase16_1 : decode b_Printer_addBase16 1 = .ok (.bipush 52, 2) := by decide +kernel
theorem d_Printer_addBase16_3 : decode b_Printer_addBase16 3 = .ok (.lshr, 1) := by decide +kernel
theorem d_Printer_addBase16_4 : decode b_Printer_addBase16 4 = .ok (.l2i, 1) := by decide +kernel
theorem d_Printer_addBase16_5 : decode b_Printer_addBase16 5 = .ok (.istore_n 3, 1) := by decide +kernel
theorem d_Printer_addBase16_6 : decode b_Printer_addBase16 6 = .ok (.aload_n 0, 1) := by decide +kernel
theorem d_Printer_addBase16_7 : decode b_Printer_addBase16 7 = .ok (.getfield 9, 3) := by decide +kernel
theorem d_Printer_addBase16_10 : decode b_Printer_addBase16 10 = .ok (.iload_n 3, 1) := by decide +kernel
theorem d_Printer_addBase16_11 : decode b_Printer_addBase16 11 = .ok (.ifCond .ne 8, 3) := by decide +kernel
theorem d_Printer_addBase16_14 : decode b_Printer_addBase16 14 = .ok (.ldc 69, 2) := by decide +kernel
theorem d_Printer_addBase16_16 : decode b_Printer_addBase16 16 = .ok (.goto 5, 3) := by decide +kernel
theorem d_Printer_addBase16_19 : decode b_Printer_addBase16 19 = .ok (.ldc 71, 2) := by decide +kernel
theorem d_Printer_addBase16_21 : decode b_Printer_addBase16 21 = .ok (.invokevirtual 32, 3) := by decide +kernel
theorem d_Printer_addBase16_24 : decode b_Printer_addBase16 24 = .ok (.bipush 48, 2) := by decide +kernel
theorem d_Printer_addBase16_26 : decode b_Printer_addBase16 26 = .ok (.istore 4, 2) := by decide +kernel
theorem d_Printer_addBase16_28 : decode b_Printer_addBase16 28 = .ok (.iload 4, 2) := by decide +kernel
theorem d_Printer_addBase16_30 : decode b_Printer_addBase16 30 = .ok (.ifCond .lt 49, 3) := by decide +kernel
theorem d_Printer_addBase16_33 : decode b_Printer_addBase16 33 = .ok (.lload_n 1, 1) := by decide +kernel
theorem d_Printer_addBase16_34 : decode b_Printer_addBase16 34 = .ok (.iload 4, 2) := by decide +kernel
theorem d_Printer_addBase16_36 : decode b_Printer_addBase16 36 = .ok (.lshr, 1) := by decide +kernel
theorem d_Printer_addBase16_37 : decode b_Printer_addBase16 37 = .ok (.l2i, 1) := by decide +kernel
theorem d_Printer_addBase16_38 : decode b_Printer_addBase16 38 = .ok (.bipush 15, 2) := by decide +kernel
theorem d_Printer_addBase16_40 : decode b_Printer_addBase16 40 = .ok (.iand, 1) := by decide +kernel
theorem d_Printer_addBase16_41 : decode b_Printer_addBase16 41 = .ok (.istore 5, 2) := by decide +kernel
theorem d_Printer_addBase16_43 : decode b_Printer_addBase16 43 = .ok (.aload_n 0, 1) := by decide +kernel
theorem d_Printer_addBase16_44 : decode b_Printer_addBase16 44 = .ok (.getfield 9, 3) := by decide +kernel
theorem d_Printer_addBase16_47 : decode b_Printer_addBase16 47 = .ok (.iload 5, 2) := by decide +kernel
theorem d_Printer_addBase16_49 : decode b_Printer_addBase16 49 = .ok (.bipush 10, 2) := by decide +kernel
theorem d_Printer_addBase16_51 : decode b_Printer_addBase16 51 = .ok (.if_icmp .ge 11, 3) := by decide +kernel
theorem d_Printer_addBase16_54 : decode b_Printer_addBase16 54 = .ok (.bipush 48, 2) := by decide +kernel
theorem d_Printer_addBase16_56 : decode b_Printer_addBase16 56 = .ok (.iload 5, 2) := by decide +kernel
theorem d_Printer_addBase16_58 : decode b_Printer_addBase16 58 = .ok (.iadd, 1) := by decide +kernel
theorem d_Printer_addBase16_59 : decode b_Printer_addBase16 59 = .ok (.goto 11, 3) := by decide +kernel
theorem d_Printer_addBase16_62 : decode b_Printer_addBase16 62 = .ok (.bipush 97, 2) := by decide +kernel
theorem d_Printer_addBase16_64 : decode b_Printer_addBase16 64 = .ok (.iload 5, 2) := by decide +kernel
theorem d_Printer_addBase16_66 : decode b_Printer_addBase16 66 = .ok (.iadd, 1) := by decide +kernel
theorem d_Printer_addBase16_67 : decode b_Printer_addBase16 67 = .ok (.bipush 10, 2) := by decide +kernel
theorem d_Printer_addBase16_69 : decode b_Printer_addBase16 69 = .ok (.isub, 1) := by decide +kernel
theorem d_Printer_addBase16_70 : decode b_Printer_addBase16 70 = .ok (.invokevirtual 38, 3) := by decide +kernel
theorem d_Printer_addBase16_73 : decode b_Printer_addBase16 73 = .ok (.iinc 4 (-4), 3) := by decide +kernel
theorem d_Printer_addBase16_76 : decode b_Printer_addBase16 76 = .ok (.goto (-48), 3) := by decide +kernel
theorem d_Printer_addBase16_79 : decode b_Printer_addBase16 79 = .ok (.aload_n 0, 1) := by decide +kernel
theorem d_Printer_addBase16_80 : decode b_Printer_addBase16 80 = .ok (.getfield 9, 3) := by decide +kernel
theorem d_Printer_addBase16_83 : decode b_Printer_addBase16 83 = .ok (.bipush 112, 2) := by decide +kernel
theorem d_Printer_addBase16_85 : decode b_Printer_addBase16 85 = .ok (.invokevirtual 38, 3) := by decide +kernel
theorem d_Printer_addBase16_88 : decode b_Printer_addBase16 88 = .ok (.aload_n 0, 1) := by decide +kernel
theorem d_Printer_addBase16_89 : decode b_Printer_addBase16 89 = .ok (.iload_n 3, 1) := by decide +kernel
theorem d_Printer_addBase16_90 : decode b_Printer_addBase16 90 = .ok (.iconst 1, 1) := by decide +kernel
theorem d_Printer_addBase16_91 : decode b_Printer_addBase16 91 = .ok (.invokestatic 73, 3) := by decide +kernel
theorem d_Printer_addBase16_94 : decode b_Printer_addBase16 94 = .ok (.sipush 1023, 3) := by decide +kernel
theorem d_Printer_addBase16_97 : decode b_Printer_addBase16 97 = .ok (.isub, 1) := by decide +kernel
theorem d_Printer_addBase16_98 : decode b_Printer_addBase16 98 = .ok (.invokevirtual 79, 3) := by decide +kernel
theorem d_Printer_addBase16_101 : decode b_Printer_addBase16 101 = .ok (.return_, 1) := by decide +kernel
theorem fl_Printer_9 : FLink TB classes "IntervalText$Printer" 9 R_Printer F_Printer 3 5 0 := ⟨rfl, by decide, i_Printer, tb_t (List.mem_append_left _ (List.mem_of_getElem? (l := tables_1_1) (i := 172) rfl)) rfl⟩
theorem tm_Printer_73 : Cond.methodLink "IntervalText$Printer" 73 Lib.Math.max.name ∈ TB ∧ Cond.static Lib.Math.max.name ∈ TB ∧ Cond.initialized "java/lang/Math" ∈ TB ∧ Cond.code Lib.Math.max.name Lib.Math.max.code 2 (some .int) ∈ TB := ⟨tb_t (List.mem_append_right _ (List.mem_append_right _ (List.mem_append_left _ (List.mem_of_getElem? (l := tables_1_3) (i := 60) rfl)))) rfl, tb_t (List.mem_append_right _ (List.mem_append_left _ (List.mem_of_getElem? (l := tables_1_2) (i := 186) rfl))) rfl, tb_t (List.mem_append_left _ (List.mem_of_getElem? (l := tables_1_1) (i := 15) rfl)) rfl, tb_t (List.mem_append_right _ (List.mem_append_left _ (List.mem_of_getElem? (l := tables_1_2) (i := 187) rfl))) rfl⟩
theorem tm_Printer_134 : Cond.methodLink "IntervalText$Printer" 134 Lib.Math.abs.name ∈ TB ∧ Cond.static Lib.Math.abs.name ∈ TB ∧ Cond.initialized "java/lang/Math" ∈ TB ∧ Cond.code Lib.Math.abs.name Lib.Math.abs.code 1 (some .int) ∈ TB := ⟨tb_t (List.mem_append_right _ (List.mem_append_right _ (List.mem_append_left _ (List.mem_of_getElem? (l := tables_1_3) (i := 65) rfl)))) rfl, tb_t (List.mem_append_right _ (List.mem_append_right _ (List.mem_append_left _ (List.mem_of_getElem? (l := tables_1_3) (i := 66) rfl)))) rfl, tb_t (List.mem_append_left _ (List.mem_of_getElem? (l := tables_1_1) (i := 15) rfl)) rfl, tb_t (List.mem_append_right _ (List.mem_append_right _ (List.mem_append_left _ (List.mem_of_getElem? (l := tables_1_3) (i := 67) rfl)))) rfl⟩
theorem tw_Printer_constantLong_128 : Cond.constantLong "IntervalText$Printer" 128 (10 : Int64) ∈ TB := tb_t (List.mem_append_right _ (List.mem_append_right _ (List.mem_append_left _ (List.mem_of_getElem? (l := tables_1_3) (i := 79) rfl)))) rfl
theorem cl_Printer_102 : CLinkS TB "IntervalText$Printer" 102 y_Printer_powerOfTen b_Printer_powerOfTen 4 (some .long) 1 := ⟨⟨tb_t (List.mem_append_right _ (List.mem_append_right _ (List.mem_append_left _ (List.mem_of_getElem? (l := tables_1_3) (i := 76) rfl)))) rfl, tb_t (List.mem_append_left _ (List.mem_of_getElem? (l := tables_1_1) (i := 7) rfl)) rfl, tb_t (List.mem_append_right _ (List.mem_append_right _ (List.mem_append_left _ (List.mem_of_getElem? (l := tables_1_3) (i := 78) rfl)))) rfl, by decide +kernel, by decide +kernel, by decide +kernel⟩, tb_t (List.mem_append_right _ (List.mem_append_right _ (List.mem_append_left _ (List.mem_of_getElem? (l := tables_1_3) (i := 77) rfl)))) rfl⟩
theorem cl_Printer_32 : CLinkV TB "IntervalText$Printer" 32 "IntervalText$Row" y_Row_addText b_Row_addText 3 none 1 := ⟨⟨tb_t (List.mem_append_right _ (List.mem_append_right _ (List.mem_append_left _ (List.mem_of_getElem? (l := tables_1_3) (i := 46) rfl)))) rfl, tb_t (List.mem_append_left _ (List.mem_of_getElem? (l := tables_1_1) (i := 2) rfl)) rfl, tb_t (List.mem_append_right _ (List.mem_append_right _ (List.mem_append_left _ (List.mem_of_getElem? (l := tables_1_3) (i := 33) rfl)))) rfl, by decide +kernel, by decide +kernel, by decide +kernel⟩, tb_t (List.mem_append_right _ (List.mem_append_right _ (List.mem_append_left _ (List.mem_of_getElem? (l := tables_1_3) (i := 31) rfl)))) rfl, tb_t (List.mem_append_right _ (List.mem_append_right _ (List.mem_append_left _ (List.mem_of_getElem? (l := tables_1_3) (i := 32) rfl)))) rfl⟩
theorem cl_Printer_38 : CLinkV TB "IntervalText$Printer" 38 "IntervalText$Row" y_Row_add b_Row_add 2 none 1 := ⟨⟨tb_t (List.mem_append_right _ (List.mem_append_right _ (List.mem_append_left _ (List.mem_of_getElem? (l := tables_1_3) (i := 47) rfl)))) rfl, tb_t (List.mem_append_left _ (List.mem_of_getElem? (l := tables_1_1) (i := 2) rfl)) rfl, tb_t (List.mem_append_left _ (List.mem_of_getElem? (l := tables_1_1) (i := 212) rfl)) rfl, by decide +kernel, by decide +kernel, by decide +kernel⟩, tb_t (List.mem_append_left _ (List.mem_of_getElem? (l := tables_1_1) (i := 210) rfl)) rfl, tb_t (List.mem_append_left _ (List.mem_of_getElem? (l := tables_1_1) (i := 211) rfl)) rfl⟩
theorem cl_Printer_79 : CLinkV TB "IntervalText$Printer" 79 "IntervalText$Printer" y_Printer_addExponent b_Printer_addExponent 5 none 1 := ⟨⟨tb_t (List.mem_append_right _ (List.mem_append_right _ (List.mem_append_left _ (List.mem_of_getElem? (l := tables_1_3) (i := 61) rfl)))) rfl, tb_t (List.mem_append_left _ (List.mem_of_getElem? (l := tables_1_1) (i := 7) rfl)) rfl, tb_t (List.mem_append_right _ (List.mem_append_right _ (List.mem_append_left _ (List.mem_of_getElem? (l := tables_1_3) (i := 64) rfl)))) rfl, by decide +kernel, by decide +kernel, by decide +kernel⟩, tb_t (List.mem_append_right _ (List.mem_append_right _ (List.mem_append_left _ (List.mem_of_getElem? (l := tables_1_3) (i := 63) rfl)))) rfl, tb_p 17 rfl⟩
set_option maxHeartbeats 4000000 in
set_option maxRecDepth 100000 in
theorem c_Printer_powerOfTen (l : Launch) (D : va_G) (E : EVt) (ex : Int) (hex : 0 ≤ ex ∧ ex ≤ 17) : CT l D classes (tyl E) (EVX E) y_Printer_powerOfTen (Cond.code y_Printer_powerOfTen b_Printer_powerOfTen 4 (some .long) :: TB) (rmK 0 0 0 0) 0 0 [.int (iI ex)] [] (S := Int) (fun _ => []) (fun u => some (.long (lI u))) (fun u => (u = PT10 (Int.toNat ex))) := by
  refine CT.ofl (fv := fun (u : Int) => u) (eok E) (by decide) rfl (Nat.le_of_ble_eq_true rfl) ?_
  intro p e s m args below meth c A Q ls B hmn hP hD hS hl ret
  have B : Bd l D classes (tyl E) (EVX E) p m c b_Printer_powerOfTen 4 s args (Cond.code y_Printer_powerOfTen b_Printer_powerOfTen 4 (some .long) :: TB) R_Printer A := B
  obtain ⟨⟨hx, hb, hml, hown, hts⟩, hX, hK, hE, hA⟩ := id B
  have hl : lv_has ls 4 [(0, .int (iI ex))] := hl
  have hP : va_P D classes [] s.heap := hP
  have hD : va_D A [] := hD
  have K_4 : ∀ (fuel4 : Nat) (i : Int) (pt : Int) (hi : 0 ≤ i ∧ i ≤ ex) (hpt : pt = PT10 (Int.toNat i)) (hf4 : ex - i < (fuel4 : Int)) (ls : Array Slot) (H : Heap) (locs : List Loc), lv_has ls 4 [(0, .int (iI ex)), (1, .long (lI pt)), (3, .int (iI i))] → va_P D classes [] H → va_D A [] → va_S A s.heap H locs → W p l e (rmK 0 0 0 0) s m args below meth c H locs 0 0 Q (F0 m 4 ls []) := by
    intro fuel4
    induction fuel4 with
    | zero =>
      intro i pt hi hpt hf4 ls H locs hl hP hD hS
      exfalso; omega
    | succ fuel4 ih4 =>
      intro i pt hi hpt hf4 ls H locs hl hP hD hS
      refine lv_iload_n hx hb d_Printer_powerOfTen_4 rfl (lv_at hl 2 rfl) ?_
      refine lv_iload_n hx hb d_Printer_powerOfTen_5 rfl (lv_at hl 0 rfl) ?_
      refine wi_icmp_ge (tgt := 27) hx hb d_Printer_powerOfTen_6 (by decide) (by omega) (by omega) (fun c_1 => ?_) (fun c_1 => ?_)
      · skip
        refine lv_lload_n hx hb d_Printer_powerOfTen_27 rfl (lv_at hl 1 rfl) ?_
        exact ret pt _ _ _ _ d_Printer_powerOfTen_28 (show (pt = PT10 (Int.toNat ex)) from (by rw [hpt, show i = ex by omega])) (hP.sub [] rfl) (hD.sub [] (by decide) rfl) hS
      · skip
        refine lv_iload_n hx hb d_Printer_powerOfTen_9 rfl (lv_at hl 2 rfl) ?_
        refine wi_bipush hx hb d_Printer_powerOfTen_10 (by decide) ?_
        refine wi_icmp_ge (tgt := 27) hx hb d_Printer_powerOfTen_12 (by decide) (by omega) (by omega) (fun c_2 => by exfalso; omega) (fun c_2 => ?_)
        refine lv_lload_n hx hb d_Printer_powerOfTen_15 rfl (lv_at hl 1 rfl) ?_
        refine wi_ldc2 hx hb 10 hown (tb_h hts tw_Printer_constantLong_128) (by decide) d_Printer_powerOfTen_16 ?_
        refine wi_lmul hx hb d_Printer_powerOfTen_19 ?_
        refine lv_lstore_n (lv' := [(1, .long (lI (pt * 10))), (0, .int (iI ex)), (3, .int (iI i))]) hx hb d_Printer_powerOfTen_20 rfl hl (by decide) rfl (fun ls hl => ?_)
        refine wi_iinc (v := i + 1) (lv' := [(3, .int (iI (i + 1))), (1, .long (lI (pt * 10))), (0, .int (iI ex))]) hx hb d_Printer_powerOfTen_21 hl (k := 2) rfl rfl (by decide) rfl (fun ls hl => ?_)
        refine lv_goto (tgt := 4) hx hb d_Printer_powerOfTen_24 (by decide) ?_
        exact ih4 (i + 1) (pt * 10) (by omega) (by rw [hpt, show (i + 1).toNat = i.toNat + 1 by omega, PT10_s]; omega) (by omega) _ _ _ (lv_sub hl [2, 1, 0] rfl) (hP.sub [] rfl) (hD.sub [] (by decide) rfl) hS
  refine wi_lconst (z := 1) hx hb d_Printer_powerOfTen_0 (by decide) ?_
  refine lv_lstore_n (lv' := [(1, .long (lI 1)), (0, .int (iI ex))]) hx hb d_Printer_powerOfTen_1 rfl hl (by decide) rfl (fun ls hl => ?_)
  refine wi_iconst (n := 0) hx hb d_Printer_powerOfTen_2 ?_
  refine lv_istore_n (lv' := [(3, .int (iI 0)), (1, .long (lI 1)), (0, .int (iI ex))]) hx hb d_Printer_powerOfTen_3 rfl hl (by decide) rfl (fun ls hl => ?_)
  exact K_4 ((ex - 0 : Int).toNat + 1) 0 1 (by omega) (rfl) (by omega) _ _ _ (lv_sub hl [2, 1, 0] rfl) (hP.sub [] rfl) (hD.sub [] (by decide) rfl) hS
set_option maxHeartbeats 4000000 in
set_option maxRecDepth 100000 in
theorem c_Printer_addExponent (l : Launch) (D : va_G) (E : EVt) (h : Nat) (ou : Nat) (ar : Nat) (rr : Nat) (oc : Nat) (t : Int → Int) (L : List Int) (ex : Int) (hL : (L.length : Int) + 5 ≤ 64) (hex : -10000 < ex ∧ ex < 10000) : CT l D classes (tyl E) (EVX E) y_Printer_addExponent (Cond.code y_Printer_addExponent b_Printer_addExponent 5 none :: TB) (rmK 1 0 0 30) 0 0 [.ref h, .int (iI ex)] [(h, .inr (5, [.ref ou, .ref ar, .ref rr])), (oc, .inl (E.2.1, 64, .inl (ia (Wr t 0 L)))), (ou, .inr (3, [.ref oc, .int (iI (L.length : Int))]))] (S := List Int) (fun u => [(h, .inr (5, [.ref ou, .ref ar, .ref rr])), (oc, .inl (E.2.1, 64, .inl (ia (Wr t 0 u)))), (ou, .inr (3, [.ref oc, .int (iI (u.length : Int))]))]) (fun _ => none) (fun u => (u = L ++ EXT ex)) := by
  refine CT.ofv (eok E) (by decide) rfl (Nat.le_of_ble_eq_true rfl) ?_
  intro p e s m args below meth c A Q ls B hmn hP hD hS hl ret
  have B : Bd l D classes (tyl E) (EVX E) p m c b_Printer_addExponent 5 s args (Cond.code y_Printer_addExponent b_Printer_addExponent 5 none :: TB) R_Printer A := B
  obtain ⟨⟨hx, hb, hml, hown, hts⟩, hX, hK, hE, hA⟩ := id B
  have hl : lv_has ls 5 [(0, .ref h), (1, .int (iI ex))] := hl
  have hP : va_P D classes [(h, .inr (5, [.ref ou, .ref ar, .ref rr])), (oc, .inl (E.2.1, 64, .inl (ia (Wr t 0 L)))), (ou, .inr (3, [.ref oc, .int (iI (L.length : Int))]))] s.heap := hP
  have hD : va_D A [(h, .inr (5, [.ref ou, .ref ar, .ref rr])), (oc, .inl (E.2.1, 64, .inl (ia (Wr t 0 L)))), (ou, .inr (3, [.ref oc, .int (iI (L.length : Int))]))] := hD
  have hab : 0 ≤ absZ ex ∧ absZ ex < 10000 := by unfold absZ; split <;> omega
  have K_25 : ∀ (fuel25 : Nat) (uu : Int) (k : Nat) (sh : Bool) (M : List Int) (hU : U10 k uu) (hEE : L ++ EXT ex = M ++ dF k uu (absZ ex) sh) (hm : (M.length : Int) + (k : Int) ≤ (L.length : Int) + 5) (hf25 : uu < (fuel25 : Int)) (ls : Array Slot) (H : Heap) (locs : List Loc), lv_has ls 5 [(0, .ref h), (1, .int (iI ex)), (2, .int (iI (absZ ex))), (3, .int (bI sh)), (4, .int (iI uu))] → va_P D classes [(h, .inr (5, [.ref ou, .ref ar, .ref rr])), (oc, .inl (E.2.1, 64, .inl (ia (Wr t 0 M)))), (ou, .inr (3, [.ref oc, .int (iI (M.length : Int))]))] H → va_D A [(h, .inr (5, [.ref ou, .ref ar, .ref rr])), (oc, .inl (E.2.1, 64, .inl (ia (Wr t 0 M)))), (ou, .inr (3, [.ref oc, .int (iI (M.length : Int))]))] → va_S A s.heap H locs → W p l e (rmK 1 0 0 30) s m args below meth c H locs 0 0 Q (F0 m 25 ls []) := by
    intro fuel25
    induction fuel25 with
    | zero =>
      intro uu k sh M hU hEE hm hf25 ls H locs hl hP hD hS
      exfalso; have := U10_r hU; omega
    | succ fuel25 ih25 =>
      intro uu k sh M hU hEE hm hf25 ls H locs hl hP hD hS
      have hur := U10_r hU
      refine lv_iload hx hb d_Printer_addExponent_25 (lv_at hl 4 rfl) ?_
      refine wi_if_le (tgt := 83) hx hb d_Printer_addExponent_27 (by decide) (by omega) (fun c_1 => ?_) (fun c_1 => ?_)
      · skip
        have hk0 := U10_e hU (by omega)
        subst hk0
        exact ret M _ _ _ _ d_Printer_addExponent_83 (show (M = L ++ EXT ex) from (by rw [hEE]; exact (List.append_nil _).symm)) (hP.sub [0, 1, 2] rfl) (hD.sub [0, 1, 2] (by decide) rfl) hS
      · skip
        obtain ⟨k9, hk9, hU9⟩ := U10_s hU (by omega)
        subst hk9
        have hdv := dv_r (y := absZ ex) (u := uu) hab.1 (by omega)
        refine lv_iload_n hx hb d_Printer_addExponent_30 rfl (lv_at hl 3 rfl) ?_
        refine wb_if_ne (tgt := 46) hx hb d_Printer_addExponent_31 (by decide) (fun c_2 => ?_) (fun c_2 => ?_)
        · skip
          refine wi_iconst (n := 1) hx hb d_Printer_addExponent_46 ?_
          refine lv_goto (tgt := 51) hx hb d_Printer_addExponent_47 (by decide) ?_
          refine w_as1 ?_
          refine lv_istore_n (lv' := [(3, .int (bI true)), (0, .ref h), (1, .int (iI ex)), (2, .int (iI (absZ ex))), (4, .int (iI uu))]) hx hb d_Printer_addExponent_51 rfl hl (by decide) rfl (fun ls hl => ?_)
          refine lv_iload_n hx hb d_Printer_addExponent_52 rfl (lv_at hl 0 rfl) ?_
          refine wb_if_eq (tgt := 73) hx hb d_Printer_addExponent_53 (by decide) (fun c_3 => by exfalso; exact absurd c_3 (by decide)) (fun c_3 => ?_)
          refine lv_aload_n hx hb d_Printer_addExponent_56 rfl (lv_at hl 1 rfl) ?_
          refine wk_get B hP 0 rfl fl_Printer_9 (v := .ref ou) rfl d_Printer_addExponent_57 ?_
          refine wi_bipush hx hb d_Printer_addExponent_60 (by decide) ?_
          refine lv_iload_n hx hb d_Printer_addExponent_62 rfl (lv_at hl 3 rfl) ?_
          refine lv_iload hx hb d_Printer_addExponent_63 (lv_at hl 4 rfl) ?_
          refine wi_idiv hx hb d_Printer_addExponent_65 (by omega) (by omega) ?_
          refine wi_bipush hx hb d_Printer_addExponent_66 (by decide) ?_
          refine wi_irem hx hb d_Printer_addExponent_68 (by omega) (by omega) ?_
          refine wi_iadd hx hb d_Printer_addExponent_69 ?_
          refine wk_callV (As := [.int (iI (48 + (((absZ ex) / uu) % 10)))]) (rest := []) (wr := [(h, .inr (5, [.ref ou, .ref ar, .ref rr]))]) B gTB cl_Printer_38 (c_Row_add l D E ou oc 64 (Wr t 0 M) (M.length : Int) (48 + (((absZ ex) / uu) % 10)) (by (try simp only [List.length_append, List.length_cons, List.length_nil]); omega) (by decide) (by omega)) ⟨⟨rfl, rfl⟩, Nat.le_of_ble_eq_true rfl, Nat.le_of_ble_eq_true rfl⟩ hP hD hS [2, 1] [0] rfl rfl (by decide) 2 rfl rfl rfl ⟨hl.2.1, hl.1⟩ rfl (Nat.le_of_ble_eq_true rfl) d_Printer_addExponent_70 ⟨Nat.le_of_ble_eq_true rfl, Nat.le_of_ble_eq_true rfl⟩ rfl (fun u H locs hw hP hD hS => ?_)
          have hP : va_P D classes [(h, .inr (5, [.ref ou, .ref ar, .ref rr])), (ou, .inr (3, [.ref oc, .int (iI ((M.length : Int) + 1))])), (oc, .inl (E.2.1, 64, .inl (ia (upZ (Wr t 0 M) (M.length : Int) (48 + (((absZ ex) / uu) % 10))))))] H := hP
          have hD : va_D A [(h, .inr (5, [.ref ou, .ref ar, .ref rr])), (ou, .inr (3, [.ref oc, .int (iI ((M.length : Int) + 1))])), (oc, .inl (E.2.1, 64, .inl (ia (upZ (Wr t 0 M) (M.length : Int) (48 + (((absZ ex) / uu) % 10))))))] := hD
          refine W.cs (g := F0 m 73 ls []) (cells' := 0) (slots' := 0) rfl rfl ?_
          rw [Wr_sn0 t M (48 + (((absZ ex) / uu) % 10)), Wr_ln M (48 + (((absZ ex) / uu) % 10))] at hP hD
          have hP : va_P D classes [(h, .inr (5, [.ref ou, .ref ar, .ref rr])), (ou, .inr (3, [.ref oc, .int (iI ((M ++ [48 + (((absZ ex) / uu) % 10)]).length : Int))])), (oc, .inl (E.2.1, 64, .inl (ia (Wr t 0 (M ++ [48 + (((absZ ex) / uu) % 10)])))))] H := hP
          have hD : va_D A [(h, .inr (5, [.ref ou, .ref ar, .ref rr])), (ou, .inr (3, [.ref oc, .int (iI ((M ++ [48 + (((absZ ex) / uu) % 10)]).length : Int))])), (oc, .inl (E.2.1, 64, .inl (ia (Wr t 0 (M ++ [48 + (((absZ ex) / uu) % 10)])))))] := hD
          refine W.eq (g2 := F0 m 73 ls []) rfl ?_
          refine lv_iload hx hb d_Printer_addExponent_73 (lv_at hl 4 rfl) ?_
          refine wi_bipush hx hb d_Printer_addExponent_75 (by decide) ?_
          refine wi_idiv hx hb d_Printer_addExponent_77 (by omega) (by omega) ?_
          refine lv_istore (lv' := [(4, .int (iI (uu / 10))), (3, .int (bI true)), (0, .ref h), (1, .int (iI ex)), (2, .int (iI (absZ ex)))]) hx hb d_Printer_addExponent_78 hl (by decide) rfl (fun ls hl => ?_)
          refine lv_goto (tgt := 25) hx hb d_Printer_addExponent_80 (by decide) ?_
          exact ih25 (uu / 10) k9 true (M ++ [48 + (((absZ ex) / uu) % 10)]) (hU9) (by rw [hEE, dF_y (by first | exact Or.inl c_2 | exact Or.inr (Or.inl (by omega)) | exact Or.inr (Or.inr (by omega)))]; exact ap_c) (by (try simp only [List.length_append, List.length_cons, List.length_nil]); omega) (by omega) _ _ _ (lv_sub hl [2, 3, 4, 1, 0] rfl) (hP.sub [0, 2, 1] rfl) (hD.sub [0, 2, 1] (by decide) rfl) hS
        · skip
          refine lv_iload_n hx hb d_Printer_addExponent_34 rfl (lv_at hl 2 rfl) ?_
          refine lv_iload hx hb d_Printer_addExponent_35 (lv_at hl 4 rfl) ?_
          refine wi_icmp_ge (tgt := 46) hx hb d_Printer_addExponent_37 (by decide) (by omega) (by omega) (fun c_4 => ?_) (fun c_4 => ?_)
          · skip
            refine wi_iconst (n := 1) hx hb d_Printer_addExponent_46 ?_
            refine lv_goto (tgt := 51) hx hb d_Printer_addExponent_47 (by decide) ?_
            refine w_as1 ?_
            refine lv_istore_n (lv' := [(3, .int (bI true)), (0, .ref h), (1, .int (iI ex)), (2, .int (iI (absZ ex))), (4, .int (iI uu))]) hx hb d_Printer_addExponent_51 rfl hl (by decide) rfl (fun ls hl => ?_)
            refine lv_iload_n hx hb d_Printer_addExponent_52 rfl (lv_at hl 0 rfl) ?_
            refine wb_if_eq (tgt := 73) hx hb d_Printer_addExponent_53 (by decide) (fun c_5 => by exfalso; exact absurd c_5 (by decide)) (fun c_5 => ?_)
            refine lv_aload_n hx hb d_Printer_addExponent_56 rfl (lv_at hl 1 rfl) ?_
            refine wk_get B hP 0 rfl fl_Printer_9 (v := .ref ou) rfl d_Printer_addExponent_57 ?_
            refine wi_bipush hx hb d_Printer_addExponent_60 (by decide) ?_
            refine lv_iload_n hx hb d_Printer_addExponent_62 rfl (lv_at hl 3 rfl) ?_
            refine lv_iload hx hb d_Printer_addExponent_63 (lv_at hl 4 rfl) ?_
            refine wi_idiv hx hb d_Printer_addExponent_65 (by omega) (by omega) ?_
            refine wi_bipush hx hb d_Printer_addExponent_66 (by decide) ?_
            refine wi_irem hx hb d_Printer_addExponent_68 (by omega) (by omega) ?_
            refine wi_iadd hx hb d_Printer_addExponent_69 ?_
            refine wk_callV (As := [.int (iI (48 + (((absZ ex) / uu) % 10)))]) (rest := []) (wr := [(h, .inr (5, [.ref ou, .ref ar, .ref rr]))]) B gTB cl_Printer_38 (c_Row_add l D E ou oc 64 (Wr t 0 M) (M.length : Int) (48 + (((absZ ex) / uu) % 10)) (by (try simp only [List.length_append, List.length_cons, List.length_nil]); omega) (by decide) (by omega)) ⟨⟨rfl, rfl⟩, Nat.le_of_ble_eq_true rfl, Nat.le_of_ble_eq_true rfl⟩ hP hD hS [2, 1] [0] rfl rfl (by decide) 2 rfl rfl rfl ⟨hl.2.1, hl.1⟩ rfl (Nat.le_of_ble_eq_true rfl) d_Printer_addExponent_70 ⟨Nat.le_of_ble_eq_true rfl, Nat.le_of_ble_eq_true rfl⟩ rfl (fun u H locs hw hP hD hS => ?_)
            have hP : va_P D classes [(h, .inr (5, [.ref ou, .ref ar, .ref rr])), (ou, .inr (3, [.ref oc, .int (iI ((M.length : Int) + 1))])), (oc, .inl (E.2.1, 64, .inl (ia (upZ (Wr t 0 M) (M.length : Int) (48 + (((absZ ex) / uu) % 10))))))] H := hP
            have hD : va_D A [(h, .inr (5, [.ref ou, .ref ar, .ref rr])), (ou, .inr (3, [.ref oc, .int (iI ((M.length : Int) + 1))])), (oc, .inl (E.2.1, 64, .inl (ia (upZ (Wr t 0 M) (M.length : Int) (48 + (((absZ ex) / uu) % 10))))))] := hD
            refine W.cs (g := F0 m 73 ls []) (cells' := 0) (slots' := 0) rfl rfl ?_
            rw [Wr_sn0 t M (48 + (((absZ ex) / uu) % 10)), Wr_ln M (48 + (((absZ ex) / uu) % 10))] at hP hD
            have hP : va_P D classes [(h, .inr (5, [.ref ou, .ref ar, .ref rr])), (ou, .inr (3, [.ref oc, .int (iI ((M ++ [48 + (((absZ ex) / uu) % 10)]).length : Int))])), (oc, .inl (E.2.1, 64, .inl (ia (Wr t 0 (M ++ [48 + (((absZ ex) / uu) % 10)])))))] H := hP
            have hD : va_D A [(h, .inr (5, [.ref ou, .ref ar, .ref rr])), (ou, .inr (3, [.ref oc, .int (iI ((M ++ [48 + (((absZ ex) / uu) % 10)]).length : Int))])), (oc, .inl (E.2.1, 64, .inl (ia (Wr t 0 (M ++ [48 + (((absZ ex) / uu) % 10)])))))] := hD
            refine W.eq (g2 := F0 m 73 ls []) rfl ?_
            refine lv_iload hx hb d_Printer_addExponent_73 (lv_at hl 4 rfl) ?_
            refine wi_bipush hx hb d_Printer_addExponent_75 (by decide) ?_
            refine wi_idiv hx hb d_Printer_addExponent_77 (by omega) (by omega) ?_
            refine lv_istore (lv' := [(4, .int (iI (uu / 10))), (3, .int (bI true)), (0, .ref h), (1, .int (iI ex)), (2, .int (iI (absZ ex)))]) hx hb d_Printer_addExponent_78 hl (by decide) rfl (fun ls hl => ?_)
            refine lv_goto (tgt := 25) hx hb d_Printer_addExponent_80 (by decide) ?_
            exact ih25 (uu / 10) k9 true (M ++ [48 + (((absZ ex) / uu) % 10)]) (hU9) (by rw [hEE, dF_y (by first | exact Or.inl c_2 | exact Or.inr (Or.inl (by omega)) | exact Or.inr (Or.inr (by omega)))]; exact ap_c) (by (try simp only [List.length_append, List.length_cons, List.length_nil]); omega) (by omega) _ _ _ (lv_sub hl [2, 3, 4, 1, 0] rfl) (hP.sub [0, 2, 1] rfl) (hD.sub [0, 2, 1] (by decide) rfl) hS
          · skip
            refine lv_iload hx hb d_Printer_addExponent_40 (lv_at hl 4 rfl) ?_
            refine wi_iconst (n := 1) hx hb d_Printer_addExponent_42 ?_
            refine wi_icmp_ne (tgt := 50) hx hb d_Printer_addExponent_43 (by decide) (by omega) (by omega) (fun c_6 => ?_) (fun c_6 => ?_)
            · skip
              refine wi_iconst (n := 0) hx hb d_Printer_addExponent_50 ?_
              refine w_as0 ?_
              refine lv_istore_n (lv' := [(3, .int (bI false)), (0, .ref h), (1, .int (iI ex)), (2, .int (iI (absZ ex))), (4, .int (iI uu))]) hx hb d_Printer_addExponent_51 rfl hl (by decide) rfl (fun ls hl => ?_)
              refine lv_iload_n hx hb d_Printer_addExponent_52 rfl (lv_at hl 0 rfl) ?_
              refine wb_if_eq (tgt := 73) hx hb d_Printer_addExponent_53 (by decide) (fun c_7 => ?_) (fun c_7 => by exfalso; exact absurd c_7 (by decide))
              refine lv_iload hx hb d_Printer_addExponent_73 (lv_at hl 4 rfl) ?_
              refine wi_bipush hx hb d_Printer_addExponent_75 (by decide) ?_
              refine wi_idiv hx hb d_Printer_addExponent_77 (by omega) (by omega) ?_
              refine lv_istore (lv' := [(4, .int (iI (uu / 10))), (3, .int (bI false)), (0, .ref h), (1, .int (iI ex)), (2, .int (iI (absZ ex)))]) hx hb d_Printer_addExponent_78 hl (by decide) rfl (fun ls hl => ?_)
              refine lv_goto (tgt := 25) hx hb d_Printer_addExponent_80 (by decide) ?_
              exact ih25 (uu / 10) k9 false M (hU9) (by rw [hEE, dF_n c_2 (by omega) (by omega)]) (by (try simp only [List.length_append, List.length_cons, List.length_nil]); omega) (by omega) _ _ _ (lv_sub hl [2, 3, 4, 1, 0] rfl) (hP.sub [0, 1, 2] rfl) (hD.sub [0, 1, 2] (by decide) rfl) hS
            · skip
              refine wi_iconst (n := 1) hx hb d_Printer_addExponent_46 ?_
              refine lv_goto (tgt := 51) hx hb d_Printer_addExponent_47 (by decide) ?_
              refine w_as1 ?_
              refine lv_istore_n (lv' := [(3, .int (bI true)), (0, .ref h), (1, .int (iI ex)), (2, .int (iI (absZ ex))), (4, .int (iI uu))]) hx hb d_Printer_addExponent_51 rfl hl (by decide) rfl (fun ls hl => ?_)
              refine lv_iload_n hx hb d_Printer_addExponent_52 rfl (lv_at hl 0 rfl) ?_
              refine wb_if_eq (tgt := 73) hx hb d_Printer_addExponent_53 (by decide) (fun c_8 => by exfalso; exact absurd c_8 (by decide)) (fun c_8 => ?_)
              refine lv_aload_n hx hb d_Printer_addExponent_56 rfl (lv_at hl 1 rfl) ?_
              refine wk_get B hP 0 rfl fl_Printer_9 (v := .ref ou) rfl d_Printer_addExponent_57 ?_
              refine wi_bipush hx hb d_Printer_addExponent_60 (by decide) ?_
              refine lv_iload_n hx hb d_Printer_addExponent_62 rfl (lv_at hl 3 rfl) ?_
              refine lv_iload hx hb d_Printer_addExponent_63 (lv_at hl 4 rfl) ?_
              refine wi_idiv hx hb d_Printer_addExponent_65 (by omega) (by omega) ?_
              refine wi_bipush hx hb d_Printer_addExponent_66 (by decide) ?_
              refine wi_irem hx hb d_Printer_addExponent_68 (by omega) (by omega) ?_
              refine wi_iadd hx hb d_Printer_addExponent_69 ?_
              refine wk_callV (As := [.int (iI (48 + (((absZ ex) / uu) % 10)))]) (rest := []) (wr := [(h, .inr (5, [.ref ou, .ref ar, .ref rr]))]) B gTB cl_Printer_38 (c_Row_add l D E ou oc 64 (Wr t 0 M) (M.length : Int) (48 + (((absZ ex) / uu) % 10)) (by (try simp only [List.length_append, List.length_cons, List.length_nil]); omega) (by decide) (by omega)) ⟨⟨rfl, rfl⟩, Nat.le_of_ble_eq_true rfl, Nat.le_of_ble_eq_true rfl⟩ hP hD hS [2, 1] [0] rfl rfl (by decide) 2 rfl rfl rfl ⟨hl.2.1, hl.1⟩ rfl (Nat.le_of_ble_eq_true rfl) d_Printer_addExponent_70 ⟨Nat.le_of_ble_eq_true rfl, Nat.le_of_ble_eq_true rfl⟩ rfl (fun u H locs hw hP hD hS => ?_)
              have hP : va_P D classes [(h, .inr (5, [.ref ou, .ref ar, .ref rr])), (ou, .inr (3, [.ref oc, .int (iI ((M.length : Int) + 1))])), (oc, .inl (E.2.1, 64, .inl (ia (upZ (Wr t 0 M) (M.length : Int) (48 + (((absZ ex) / uu) % 10))))))] H := hP
              have hD : va_D A [(h, .inr (5, [.ref ou, .ref ar, .ref rr])), (ou, .inr (3, [.ref oc, .int (iI ((M.length : Int) + 1))])), (oc, .inl (E.2.1, 64, .inl (ia (upZ (Wr t 0 M) (M.length : Int) (48 + (((absZ ex) / uu) % 10))))))] := hD
              refine W.cs (g := F0 m 73 ls []) (cells' := 0) (slots' := 0) rfl rfl ?_
              rw [Wr_sn0 t M (48 + (((absZ ex) / uu) % 10)), Wr_ln M (48 + (((absZ ex) / uu) % 10))] at hP hD
              have hP : va_P D classes [(h, .inr (5, [.ref ou, .ref ar, .ref rr])), (ou, .inr (3, [.ref oc, .int (iI ((M ++ [48 + (((absZ ex) / uu) % 10)]).length : Int))])), (oc, .inl (E.2.1, 64, .inl (ia (Wr t 0 (M ++ [48 + (((absZ ex) / uu) % 10)])))))] H := hP
              have hD : va_D A [(h, .inr (5, [.ref ou, .ref ar, .ref rr])), (ou, .inr (3, [.ref oc, .int (iI ((M ++ [48 + (((absZ ex) / uu) % 10)]).length : Int))])), (oc, .inl (E.2.1, 64, .inl (ia (Wr t 0 (M ++ [48 + (((absZ ex) / uu) % 10)])))))] := hD
              refine W.eq (g2 := F0 m 73 ls []) rfl ?_
              refine lv_iload hx hb d_Printer_addExponent_73 (lv_at hl 4 rfl) ?_
              refine wi_bipush hx hb d_Printer_addExponent_75 (by decide) ?_
              refine wi_idiv hx hb d_Printer_addExponent_77 (by omega) (by omega) ?_
              refine lv_istore (lv' := [(4, .int (iI (uu / 10))), (3, .int (bI true)), (0, .ref h), (1, .int (iI ex)), (2, .int (iI (absZ ex)))]) hx hb d_Printer_addExponent_78 hl (by decide) rfl (fun ls hl => ?_)
              refine lv_goto (tgt := 25) hx hb d_Printer_addExponent_80 (by decide) ?_
              exact ih25 (uu / 10) k9 true (M ++ [48 + (((absZ ex) / uu) % 10)]) (hU9) (by rw [hEE, dF_y (by first | exact Or.inl c_2 | exact Or.inr (Or.inl (by omega)) | exact Or.inr (Or.inr (by omega)))]; exact ap_c) (by (try simp only [List.length_append, List.length_cons, List.length_nil]); omega) (by omega) _ _ _ (lv_sub hl [2, 3, 4, 1, 0] rfl) (hP.sub [0, 2, 1] rfl) (hD.sub [0, 2, 1] (by decide) rfl) hS
  refine lv_iload_n hx hb d_Printer_addExponent_0 rfl (lv_at hl 1 rfl) ?_
  refine wi_if_ge (tgt := 13) hx hb d_Printer_addExponent_1 (by decide) (by omega) (fun c_9 => ?_) (fun c_9 => ?_)
  · skip
    refine lv_iload_n hx hb d_Printer_addExponent_13 rfl (lv_at hl 1 rfl) ?_
    refine wi_mabs hx hb hown (hml.trans hl.1.symm) (tb_h hts tm_Printer_134.1) (tb_h hts tm_Printer_134.2.1) (tb_h hts tm_Printer_134.2.2.1) (tb_h hts tm_Printer_134.2.2.2) (Nat.le_of_ble_eq_true rfl) (Nat.le_of_ble_eq_true rfl) ⟨Nat.le_of_ble_eq_true rfl, Nat.le_of_ble_eq_true rfl⟩ (by omega) d_Printer_addExponent_14 ?_
    refine w_eqi (y := absZ ex) (rfl) ?_
    refine W.eq (g2 := F0 m 17 ls [.int (iI (absZ ex))]) rfl ?_
    refine lv_istore_n (lv' := [(2, .int (iI (absZ ex))), (0, .ref h), (1, .int (iI ex))]) hx hb d_Printer_addExponent_17 rfl hl (by decide) rfl (fun ls hl => ?_)
    refine wi_iconst (n := 0) hx hb d_Printer_addExponent_18 ?_
    refine w_as0 ?_
    refine lv_istore_n (lv' := [(3, .int (bI false)), (2, .int (iI (absZ ex))), (0, .ref h), (1, .int (iI ex))]) hx hb d_Printer_addExponent_19 rfl hl (by decide) rfl (fun ls hl => ?_)
    refine wi_sipush hx hb d_Printer_addExponent_20 (by decide) ?_
    refine lv_istore (lv' := [(4, .int (iI 1000)), (3, .int (bI false)), (2, .int (iI (absZ ex))), (0, .ref h), (1, .int (iI ex))]) hx hb d_Printer_addExponent_23 hl (by decide) rfl (fun ls hl => ?_)
    exact K_25 ((1000 : Int).toNat + 1) 1000 4 false L (Or.inl ⟨rfl, rfl⟩) (by first | exact EXT_n (by omega) L | exact EXT_p (by omega) L) (by (try simp only [List.length_append, List.length_cons, List.length_nil]); omega) (by omega) _ _ _ (lv_sub hl [3, 4, 2, 1, 0] rfl) (hP.sub [0, 1, 2] rfl) (hD.sub [0, 1, 2] (by decide) rfl) hS
  · skip
    refine lv_aload_n hx hb d_Printer_addExponent_4 rfl (lv_at hl 0 rfl) ?_
    refine wk_get B hP 0 rfl fl_Printer_9 (v := .ref ou) rfl d_Printer_addExponent_5 ?_
    refine wi_bipush hx hb d_Printer_addExponent_8 (by decide) ?_
    refine wk_callV (As := [.int (iI 45)]) (rest := []) (wr := [(h, .inr (5, [.ref ou, .ref ar, .ref rr]))]) B gTB cl_Printer_38 (c_Row_add l D E ou oc 64 (Wr t 0 L) (L.length : Int) 45 (by (try simp only [List.length_append, List.length_cons, List.length_nil]); omega) (by decide) (by omega)) ⟨⟨rfl, rfl⟩, Nat.le_of_ble_eq_true rfl, Nat.le_of_ble_eq_true rfl⟩ hP hD hS [2, 1] [0] rfl rfl (by decide) 2 rfl rfl rfl ⟨hl.2.1, hl.1⟩ rfl (Nat.le_of_ble_eq_true rfl) d_Printer_addExponent_10 ⟨Nat.le_of_ble_eq_true rfl, Nat.le_of_ble_eq_true rfl⟩ rfl (fun u H locs hw hP hD hS => ?_)
    have hP : va_P D classes [(h, .inr (5, [.ref ou, .ref ar, .ref rr])), (ou, .inr (3, [.ref oc, .int (iI ((L.length : Int) + 1))])), (oc, .inl (E.2.1, 64, .inl (ia (upZ (Wr t 0 L) (L.length : Int) 45))))] H := hP
    have hD : va_D A [(h, .inr (5, [.ref ou, .ref ar, .ref rr])), (ou, .inr (3, [.ref oc, .int (iI ((L.length : Int) + 1))])), (oc, .inl (E.2.1, 64, .inl (ia (upZ (Wr t 0 L) (L.length : Int) 45))))] := hD
    refine W.cs (g := F0 m 13 ls []) (cells' := 0) (slots' := 0) rfl rfl ?_
    rw [Wr_sn0 t L 45, Wr_ln L 45] at hP hD
    have hP : va_P D classes [(h, .inr (5, [.ref ou, .ref ar, .ref rr])), (ou, .inr (3, [.ref oc, .int (iI ((L ++ [45]).length : Int))])), (oc, .inl (E.2.1, 64, .inl (ia (Wr t 0 (L ++ [45])))))] H := hP
    have hD : va_D A [(h, .inr (5, [.ref ou, .ref ar, .ref rr])), (ou, .inr (3, [.ref oc, .int (iI ((L ++ [45]).length : Int))])), (oc, .inl (E.2.1, 64, .inl (ia (Wr t 0 (L ++ [45])))))] := hD
    refine W.eq (g2 := F0 m 13 ls []) rfl ?_
    refine lv_iload_n hx hb d_Printer_addExponent_13 rfl (lv_at hl 1 rfl) ?_
    refine wi_mabs hx hb hown (hml.trans hl.1.symm) (tb_h hts tm_Printer_134.1) (tb_h hts tm_Printer_134.2.1) (tb_h hts tm_Printer_134.2.2.1) (tb_h hts tm_Printer_134.2.2.2) (Nat.le_of_ble_eq_true rfl) (Nat.le_of_ble_eq_true rfl) ⟨Nat.le_of_ble_eq_true rfl, Nat.le_of_ble_eq_true rfl⟩ (by omega) d_Printer_addExponent_14 ?_
    refine w_eqi (y := absZ ex) (rfl) ?_
    refine W.eq (g2 := F0 m 17 ls [.int (iI (absZ ex))]) rfl ?_
    refine lv_istore_n (lv' := [(2, .int (iI (absZ ex))), (0, .ref h), (1, .int (iI ex))]) hx hb d_Printer_addExponent_17 rfl hl (by decide) rfl (fun ls hl => ?_)
    refine wi_iconst (n := 0) hx hb d_Printer_addExponent_18 ?_
    refine w_as0 ?_
    refine lv_istore_n (lv' := [(3, .int (bI false)), (2, .int (iI (absZ ex))), (0, .ref h), (1, .int (iI ex))]) hx hb d_Printer_addExponent_19 rfl hl (by decide) rfl (fun ls hl => ?_)
    refine wi_sipush hx hb d_Printer_addExponent_20 (by decide) ?_
    refine lv_istore (lv' := [(4, .int (iI 1000)), (3, .int (bI false)), (2, .int (iI (absZ ex))), (0, .ref h), (1, .int (iI ex))]) hx hb d_Printer_addExponent_23 hl (by decide) rfl (fun ls hl => ?_)
    exact K_25 ((1000 : Int).toNat + 1) 1000 4 false (L ++ [45]) (Or.inl ⟨rfl, rfl⟩) (by first | exact EXT_n (by omega) L | exact EXT_p (by omega) L) (by (try simp only [List.length_append, List.length_cons, List.length_nil]); omega) (by omega) _ _ _ (lv_sub hl [3, 4, 2, 1, 0] rfl) (hP.sub [0, 2, 1] rfl) (hD.sub [0, 2, 1] (by decide) rfl) hS
set_option maxHeartbeats 4000000 in
set_option maxRecDepth 100000 in
theorem c_Printer_addDigits (l : Launch) (D : va_G) (E : EVt) (h : Nat) (ou : Nat) (ar : Nat) (rr : Nat) (oc : Nat) (t : Int → Int) (L : List Int) (num : Int) (dg : Int) (hL : (L.length : Int) + 22 ≤ 64) (hdg : 1 ≤ dg ∧ dg ≤ 18) (hnum : 0 ≤ num ∧ num ≤ 1000000000000000000) : CT l D classes (tyl E) (EVX E) y_Printer_addDigits (Cond.code y_Printer_addDigits b_Printer_addDigits 7 none :: TB) (rmK 1 0 0 23) 0 0 [.ref h, .long (lI num), .int (iI dg)] [(h, .inr (5, [.ref ou, .ref ar, .ref rr])), (oc, .inl (E.2.1, 64, .inl (ia (Wr t 0 L)))), (ou, .inr (3, [.ref oc, .int (iI (L.length : Int))]))] (S := List Int) (fun u => [(h, .inr (5, [.ref ou, .ref ar, .ref rr])), (oc, .inl (E.2.1, 64, .inl (ia (Wr t 0 u)))), (ou, .inr (3, [.ref oc, .int (iI (u.length : Int))]))]) (fun _ => none) (fun u => (u = L ++ DIG num (Int.toNat dg))) := by
  refine CT.ofv (eok E) (by decide) rfl (Nat.le_of_ble_eq_true rfl) ?_
  intro p e s m args below meth c A Q ls B hmn hP hD hS hl ret
  have B : Bd l D classes (tyl E) (EVX E) p m c b_Printer_addDigits 7 s args (Cond.code y_Printer_addDigits b_Printer_addDigits 7 none :: TB) R_Printer A := B
  obtain ⟨⟨hx, hb, hml, hown, hts⟩, hX, hK, hE, hA⟩ := id B
  have hl : lv_has ls 7 [(0, .ref h), (1, .long (lI num)), (3, .int (iI dg))] := hl
  have hP : va_P D classes [(h, .inr (5, [.ref ou, .ref ar, .ref rr])), (oc, .inl (E.2.1, 64, .inl (ia (Wr t 0 L)))), (ou, .inr (3, [.ref oc, .int (iI (L.length : Int))]))] s.heap := hP
  have hD : va_D A [(h, .inr (5, [.ref ou, .ref ar, .ref rr])), (oc, .inl (E.2.1, 64, .inl (ia (Wr t 0 L)))), (ou, .inr (3, [.ref oc, .int (iI (L.length : Int))]))] := hD
  have K_11 : ∀ (fuel11 : Nat) (uu : Int) (lf : Int) (M : List Int) (hG : DGI L M num dg lf uu) (hu0 : 0 ≤ uu ∧ uu ≤ 1000000000000000000) (hf11 : uu < (fuel11 : Int)) (ls : Array Slot) (H : Heap) (locs : List Loc), lv_has ls 7 [(0, .ref h), (1, .long (lI num)), (3, .int (iI dg)), (4, .int (iI lf)), (5, .long (lI uu))] → va_P D classes [(h, .inr (5, [.ref ou, .ref ar, .ref rr])), (oc, .inl (E.2.1, 64, .inl (ia (Wr t 0 M)))), (ou, .inr (3, [.ref oc, .int (iI (M.length : Int))]))] H → va_D A [(h, .inr (5, [.ref ou, .ref ar, .ref rr])), (oc, .inl (E.2.1, 64, .inl (ia (Wr t 0 M)))), (ou, .inr (3, [.ref oc, .int (iI (M.length : Int))]))] → va_S A s.heap H locs → W p l e (rmK 1 0 0 23) s m args below meth c H locs 0 0 Q (F0 m 11 ls []) := by
    intro fuel11
    induction fuel11 with
    | zero =>
      intro uu lf M hG hu0 hf11 ls H locs hl hP hD hS
      exfalso; omega
    | succ fuel11 ih11 =>
      intro uu lf M hG hu0 hf11 ls H locs hl hP hD hS
      refine lv_lload hx hb d_Printer_addDigits_11 (lv_at hl 4 rfl) ?_
      refine wi_lconst (z := 0) hx hb d_Printer_addDigits_13 (by decide) ?_
      refine wi_lcmp hx hb (by omega) (by omega) d_Printer_addDigits_14 ?_
      refine wi_if_le (tgt := 71) hx hb d_Printer_addDigits_15 (by decide) (by have := cmpZ_rng uu 0; omega) (fun c_1 => ?_) (fun c_1 => ?_)
      · skip
        have c_1 := cmpZ_le.mp c_1
        exact ret M _ _ _ _ d_Printer_addDigits_71 (show (M = L ++ DIG num (Int.toNat dg)) from (DGI_e hG (by omega) (by omega))) (hP.sub [0, 1, 2] rfl) (hD.sub [0, 1, 2] (by decide) rfl) hS
      · skip
        have c_1 := cmpZ_gt.mp c_1
        have hgu := DGI_u hG (by omega) (by omega)
        have hgl := hG.2.2.2
        have hdv := dv_r (y := num) (u := uu) hnum.1 (by omega)
        have hgl1 := hG.1
        refine lv_aload_n hx hb d_Printer_addDigits_18 rfl (lv_at hl 0 rfl) ?_
        refine wk_get B hP 0 rfl fl_Printer_9 (v := .ref ou) rfl d_Printer_addDigits_19 ?_
        refine wi_bipush hx hb d_Printer_addDigits_22 (by decide) ?_
        refine lv_lload_n hx hb d_Printer_addDigits_24 rfl (lv_at hl 1 rfl) ?_
        refine lv_lload hx hb d_Printer_addDigits_25 (lv_at hl 4 rfl) ?_
        refine wi_ldiv hx hb d_Printer_addDigits_27 (by omega) (by omega) ?_
        refine wi_ldc2 hx hb 10 hown (tb_h hts tw_Printer_constantLong_128) (by decide) d_Printer_addDigits_28 ?_
        refine wi_lrem hx hb d_Printer_addDigits_31 (by omega) (by omega) ?_
        refine wi_l2i hx hb d_Printer_addDigits_32 ?_
        refine wi_iadd hx hb d_Printer_addDigits_33 ?_
        refine wk_callV (As := [.int (iI (48 + ((num / uu) % 10)))]) (rest := []) (wr := [(h, .inr (5, [.ref ou, .ref ar, .ref rr]))]) B gTB cl_Printer_38 (c_Row_add l D E ou oc 64 (Wr t 0 M) (M.length : Int) (48 + ((num / uu) % 10)) (by (try simp only [List.length_append, List.length_cons, List.length_nil]); omega) (by decide) (by omega)) ⟨⟨rfl, rfl⟩, Nat.le_of_ble_eq_true rfl, Nat.le_of_ble_eq_true rfl⟩ hP hD hS [2, 1] [0] rfl rfl (by decide) 2 rfl rfl rfl ⟨hl.2.1, hl.1⟩ rfl (Nat.le_of_ble_eq_true rfl) d_Printer_addDigits_34 ⟨Nat.le_of_ble_eq_true rfl, Nat.le_of_ble_eq_true rfl⟩ rfl (fun u H locs hw hP hD hS => ?_)
        have hP : va_P D classes [(h, .inr (5, [.ref ou, .ref ar, .ref rr])), (ou, .inr (3, [.ref oc, .int (iI ((M.length : Int) + 1))])), (oc, .inl (E.2.1, 64, .inl (ia (upZ (Wr t 0 M) (M.length : Int) (48 + ((num / uu) % 10))))))] H := hP
        have hD : va_D A [(h, .inr (5, [.ref ou, .ref ar, .ref rr])), (ou, .inr (3, [.ref oc, .int (iI ((M.length : Int) + 1))])), (oc, .inl (E.2.1, 64, .inl (ia (upZ (Wr t 0 M) (M.length : Int) (48 + ((num / uu) % 10))))))] := hD
        refine W.cs (g := F0 m 37 ls []) (cells' := 0) (slots' := 0) rfl rfl ?_
        rw [Wr_sn0 t M (48 + ((num / uu) % 10)), Wr_ln M (48 + ((num / uu) % 10))] at hP hD
        have hP : va_P D classes [(h, .inr (5, [.ref ou, .ref ar, .ref rr])), (ou, .inr (3, [.ref oc, .int (iI ((M ++ [48 + ((num / uu) % 10)]).length : Int))])), (oc, .inl (E.2.1, 64, .inl (ia (Wr t 0 (M ++ [48 + ((num / uu) % 10)])))))] H := hP
        have hD : va_D A [(h, .inr (5, [.ref ou, .ref ar, .ref rr])), (ou, .inr (3, [.ref oc, .int (iI ((M ++ [48 + ((num / uu) % 10)]).length : Int))])), (oc, .inl (E.2.1, 64, .inl (ia (Wr t 0 (M ++ [48 + ((num / uu) % 10)])))))] := hD
        refine W.eq (g2 := F0 m 37 ls []) rfl ?_
        refine lv_iload hx hb d_Printer_addDigits_37 (lv_at hl 3 rfl) ?_
        refine lv_iload_n hx hb d_Printer_addDigits_39 rfl (lv_at hl 2 rfl) ?_
        refine wi_icmp_ne (tgt := 57) hx hb d_Printer_addDigits_40 (by decide) (by omega) (by omega) (fun c_2 => ?_) (fun c_2 => ?_)
        · skip
          refine wi_iinc (v := lf + (-1)) (lv' := [(4, .int (iI (lf + (-1)))), (0, .ref h), (1, .long (lI num)), (3, .int (iI dg)), (5, .long (lI uu))]) hx hb d_Printer_addDigits_57 hl (k := 3) rfl rfl (by decide) rfl (fun ls hl => ?_)
          refine lv_lload hx hb d_Printer_addDigits_60 (lv_at hl 4 rfl) ?_
          refine wi_ldc2 hx hb 10 hown (tb_h hts tw_Printer_constantLong_128) (by decide) d_Printer_addDigits_62 ?_
          refine wi_ldiv hx hb d_Printer_addDigits_65 (by omega) (by omega) ?_
          refine lv_lstore (lv' := [(5, .long (lI (uu / 10))), (4, .int (iI (lf + (-1)))), (0, .ref h), (1, .long (lI num)), (3, .int (iI dg))]) hx hb d_Printer_addDigits_66 hl (by decide) rfl (fun ls hl => ?_)
          refine lv_goto (tgt := 11) hx hb d_Printer_addDigits_68 (by decide) ?_
          exact ih11 (uu / 10) (lf + (-1)) (M ++ [48 + ((num / uu) % 10)]) (by rw [show lf + (-1) = lf - 1 by omega]; first | exact DGI_s hG (by omega) (by omega) c_2 | exact DGI_f1 hG (by omega) (by omega) c_2 (by omega) | exact DGI_f2 hG (by omega) (by omega) c_2 (by omega)) (by omega) (by omega) _ _ _ (lv_sub hl [2, 3, 4, 1, 0] rfl) (hP.sub [0, 2, 1] rfl) (hD.sub [0, 2, 1] (by decide) rfl) hS
        · skip
          refine lv_iload_n hx hb d_Printer_addDigits_43 rfl (lv_at hl 2 rfl) ?_
          refine wi_iconst (n := 1) hx hb d_Printer_addDigits_44 ?_
          refine wi_icmp_le (tgt := 57) hx hb d_Printer_addDigits_45 (by decide) (by omega) (by omega) (fun c_3 => ?_) (fun c_3 => ?_)
          · skip
            refine wi_iinc (v := lf + (-1)) (lv' := [(4, .int (iI (lf + (-1)))), (0, .ref h), (1, .long (lI num)), (3, .int (iI dg)), (5, .long (lI uu))]) hx hb d_Printer_addDigits_57 hl (k := 3) rfl rfl (by decide) rfl (fun ls hl => ?_)
            refine lv_lload hx hb d_Printer_addDigits_60 (lv_at hl 4 rfl) ?_
            refine wi_ldc2 hx hb 10 hown (tb_h hts tw_Printer_constantLong_128) (by decide) d_Printer_addDigits_62 ?_
            refine wi_ldiv hx hb d_Printer_addDigits_65 (by omega) (by omega) ?_
            refine lv_lstore (lv' := [(5, .long (lI (uu / 10))), (4, .int (iI (lf + (-1)))), (0, .ref h), (1, .long (lI num)), (3, .int (iI dg))]) hx hb d_Printer_addDigits_66 hl (by decide) rfl (fun ls hl => ?_)
            refine lv_goto (tgt := 11) hx hb d_Printer_addDigits_68 (by decide) ?_
            exact ih11 (uu / 10) (lf + (-1)) (M ++ [48 + ((num / uu) % 10)]) (by rw [show lf + (-1) = lf - 1 by omega]; first | exact DGI_s hG (by omega) (by omega) c_2 | exact DGI_f1 hG (by omega) (by omega) c_2 (by omega) | exact DGI_f2 hG (by omega) (by omega) c_2 (by omega)) (by omega) (by omega) _ _ _ (lv_sub hl [2, 3, 4, 1, 0] rfl) (hP.sub [0, 2, 1] rfl) (hD.sub [0, 2, 1] (by decide) rfl) hS
          · skip
            refine lv_aload_n hx hb d_Printer_addDigits_48 rfl (lv_at hl 0 rfl) ?_
            refine wk_get B hP 0 rfl fl_Printer_9 (v := .ref ou) rfl d_Printer_addDigits_49 ?_
            refine wi_bipush hx hb d_Printer_addDigits_52 (by decide) ?_
            refine wk_callV (As := [.int (iI 46)]) (rest := []) (wr := [(h, .inr (5, [.ref ou, .ref ar, .ref rr]))]) B gTB cl_Printer_38 (c_Row_add l D E ou oc 64 (Wr t 0 (M ++ [48 + ((num / uu) % 10)])) ((M ++ [48 + ((num / uu) % 10)]).length : Int) 46 (by (try simp only [List.length_append, List.length_cons, List.length_nil]); omega) (by decide) (by omega)) ⟨⟨rfl, rfl⟩, Nat.le_of_ble_eq_true rfl, Nat.le_of_ble_eq_true rfl⟩ hP hD hS [1, 2] [0] rfl rfl (by decide) 1 rfl rfl rfl ⟨hl.2.1, hl.1⟩ rfl (Nat.le_of_ble_eq_true rfl) d_Printer_addDigits_54 ⟨Nat.le_of_ble_eq_true rfl, Nat.le_of_ble_eq_true rfl⟩ rfl (fun u H locs hw hP hD hS => ?_)
            have hP : va_P D classes [(h, .inr (5, [.ref ou, .ref ar, .ref rr])), (ou, .inr (3, [.ref oc, .int (iI (((M ++ [48 + ((num / uu) % 10)]).length : Int) + 1))])), (oc, .inl (E.2.1, 64, .inl (ia (upZ (Wr t 0 (M ++ [48 + ((num / uu) % 10)])) ((M ++ [48 + ((num / uu) % 10)]).length : Int) 46))))] H := hP
            have hD : va_D A [(h, .inr (5, [.ref ou, .ref ar, .ref rr])), (ou, .inr (3, [.ref oc, .int (iI (((M ++ [48 + ((num / uu) % 10)]).length : Int) + 1))])), (oc, .inl (E.2.1, 64, .inl (ia (upZ (Wr t 0 (M ++ [48 + ((num / uu) % 10)])) ((M ++ [48 + ((num / uu) % 10)]).length : Int) 46))))] := hD
            refine W.cs (g := F0 m 57 ls []) (cells' := 0) (slots' := 0) rfl rfl ?_
            rw [Wr_sn0 t (M ++ [48 + ((num / uu) % 10)]) 46, Wr_ln (M ++ [48 + ((num / uu) % 10)]) 46] at hP hD
            have hP : va_P D classes [(h, .inr (5, [.ref ou, .ref ar, .ref rr])), (ou, .inr (3, [.ref oc, .int (iI ((M ++ [48 + ((num / uu) % 10)] ++ [46]).length : Int))])), (oc, .inl (E.2.1, 64, .inl (ia (Wr t 0 (M ++ [48 + ((num / uu) % 10)] ++ [46])))))] H := hP
            have hD : va_D A [(h, .inr (5, [.ref ou, .ref ar, .ref rr])), (ou, .inr (3, [.ref oc, .int (iI ((M ++ [48 + ((num / uu) % 10)] ++ [46]).length : Int))])), (oc, .inl (E.2.1, 64, .inl (ia (Wr t 0 (M ++ [48 + ((num / uu) % 10)] ++ [46])))))] := hD
            refine W.eq (g2 := F0 m 57 ls []) rfl ?_
            refine wi_iinc (v := lf + (-1)) (lv' := [(4, .int (iI (lf + (-1)))), (0, .ref h), (1, .long (lI num)), (3, .int (iI dg)), (5, .long (lI uu))]) hx hb d_Printer_addDigits_57 hl (k := 3) rfl rfl (by decide) rfl (fun ls hl => ?_)
            refine lv_lload hx hb d_Printer_addDigits_60 (lv_at hl 4 rfl) ?_
            refine wi_ldc2 hx hb 10 hown (tb_h hts tw_Printer_constantLong_128) (by decide) d_Printer_addDigits_62 ?_
            refine wi_ldiv hx hb d_Printer_addDigits_65 (by omega) (by omega) ?_
            refine lv_lstore (lv' := [(5, .long (lI (uu / 10))), (4, .int (iI (lf + (-1)))), (0, .ref h), (1, .long (lI num)), (3, .int (iI dg))]) hx hb d_Printer_addDigits_66 hl (by decide) rfl (fun ls hl => ?_)
            refine lv_goto (tgt := 11) hx hb d_Printer_addDigits_68 (by decide) ?_
            exact ih11 (uu / 10) (lf + (-1)) (M ++ [48 + ((num / uu) % 10)] ++ [46]) (by rw [show lf + (-1) = lf - 1 by omega]; first | exact DGI_s hG (by omega) (by omega) c_2 | exact DGI_f1 hG (by omega) (by omega) c_2 (by omega) | exact DGI_f2 hG (by omega) (by omega) c_2 (by omega)) (by omega) (by omega) _ _ _ (lv_sub hl [2, 3, 4, 1, 0] rfl) (hP.sub [0, 2, 1] rfl) (hD.sub [0, 2, 1] (by decide) rfl) hS
  refine lv_iload_n hx hb d_Printer_addDigits_0 rfl (lv_at hl 2 rfl) ?_
  refine lv_istore (lv' := [(4, .int (iI dg)), (0, .ref h), (1, .long (lI num)), (3, .int (iI dg))]) hx hb d_Printer_addDigits_1 hl (by decide) rfl (fun ls hl => ?_)
  refine lv_iload_n hx hb d_Printer_addDigits_3 rfl (lv_at hl 3 rfl) ?_
  refine wi_iconst (n := 1) hx hb d_Printer_addDigits_4 ?_
  refine wi_isub hx hb d_Printer_addDigits_5 ?_
  refine wk_callS (As := [.int (iI (dg - 1))]) (rest := []) (wr := [(h, .inr (5, [.ref ou, .ref ar, .ref rr])), (oc, .inl (E.2.1, 64, .inl (ia (Wr t 0 L)))), (ou, .inr (3, [.ref oc, .int (iI (L.length : Int))]))]) B gTB cl_Printer_102 (c_Printer_powerOfTen l D E (dg - 1) (by omega)) ⟨⟨rfl, rfl⟩, Nat.le_of_ble_eq_true rfl, Nat.le_of_ble_eq_true rfl⟩ hP hD hS [] [0, 1, 2] rfl rfl (by decide) ⟨hl.2.1, hl.1⟩ rfl (Nat.le_of_ble_eq_true rfl) d_Printer_addDigits_6 ⟨Nat.le_of_ble_eq_true rfl, Nat.le_of_ble_eq_true rfl⟩ rfl (fun r_4 H locs hw hP hD hS => ?_)
  have hP : va_P D classes [(h, .inr (5, [.ref ou, .ref ar, .ref rr])), (oc, .inl (E.2.1, 64, .inl (ia (Wr t 0 L)))), (ou, .inr (3, [.ref oc, .int (iI (L.length : Int))]))] H := hP
  have hD : va_D A [(h, .inr (5, [.ref ou, .ref ar, .ref rr])), (oc, .inl (E.2.1, 64, .inl (ia (Wr t 0 L)))), (ou, .inr (3, [.ref oc, .int (iI (L.length : Int))]))] := hD
  have hw : (r_4 = PT10 (Int.toNat (dg - 1))) := hw
  have hr_5 := hw
  refine W.cs (g := F0 m 9 ls [.long (lI r_4)]) (cells' := 0) (slots' := 0) rfl rfl ?_
  subst hr_5
  refine lv_lstore (lv' := [(5, .long (lI (PT10 (Int.toNat (dg - 1))))), (4, .int (iI dg)), (0, .ref h), (1, .long (lI num)), (3, .int (iI dg))]) hx hb d_Printer_addDigits_9 hl (by decide) rfl (fun ls hl => ?_)
  exact K_11 ((PT10 (Int.toNat (dg - 1)) : Int).toNat + 1) (PT10 (Int.toNat (dg - 1))) dg L (DGI_0 (by omega)) (by have := PT10_mono (show (Int.toNat (dg - 1)) ≤ 18 by omega); rw [PT10_18] at this; have := PT10_pos (Int.toNat (dg - 1)); omega) (by omega) _ _ _ (lv_sub hl [2, 3, 4, 1, 0] rfl) (hP.sub [0, 1, 2] rfl) (hD.sub [0, 1, 2] (by decide) rfl) hS
set_option maxHeartbeats 4000000 in
set_option maxRecDepth 100000 in
theorem c_Printer_addBase16 (l : Launch) (D : va_G) (E : EVt) (h : Nat) (ou : Nat) (ar : Nat) (rr : Nat) (oc : Nat) (t : Int → Int) (L : List Int) (sz : Int) (hL : (L.length : Int) + 23 ≤ 64) (hsz : 0 ≤ sz ∧ sz < 9218868437227405312) : CT l D classes (tyl E) (EVX E) y_Printer_addBase16 (Cond.code y_Printer_addBase16 b_Printer_addBase16 6 none :: TB) (rmK 5 0 0 107) 0 0 [.ref h, .long (lI sz)] [(h, .inr (5, [.ref ou, .ref ar, .ref rr])), (oc, .inl (E.2.1, 64, .inl (ia (Wr t 0 L)))), (ou, .inr (3, [.ref oc, .int (iI (L.length : Int))]))] (S := List Int) (fun u => [(h, .inr (5, [.ref ou, .ref ar, .ref rr])), (oc, .inl (E.2.1, 64, .inl (ia (Wr t 0 u)))), (ou, .inr (3, [.ref oc, .int (iI (u.length : Int))]))]) (fun _ => none) (fun u => (u = L ++ B16 sz)) := by
  refine CT.ofv (eok E) (by decide) rfl (Nat.le_of_ble_eq_true rfl) ?_
  intro p e s m args below meth c A Q ls B hmn hP hD hS hl ret
  have B : Bd l D classes (tyl E) (EVX E) p m c b_Printer_addBase16 6 s args (Cond.code y_Printer_addBase16 b_Printer_addBase16 6 none :: TB) R_Printer A := B
  obtain ⟨⟨hx, hb, hml, hown, hts⟩, hX, hK, hE, hA⟩ := id B
  have hl : lv_has ls 6 [(0, .ref h), (1, .long (lI sz))] := hl
  have hP : va_P D classes [(h, .inr (5, [.ref ou, .ref ar, .ref rr])), (oc, .inl (E.2.1, 64, .inl (ia (Wr t 0 L)))), (ou, .inr (3, [.ref oc, .int (iI (L.length : Int))]))] s.heap := hP
  have hD : va_D A [(h, .inr (5, [.ref ou, .ref ar, .ref rr])), (oc, .inl (E.2.1, 64, .inl (ia (Wr t 0 L)))), (ou, .inr (3, [.ref oc, .int (iI (L.length : Int))]))] := hD
  have K_28 : ∀ (fuel28 : Nat) (sf : Int) (k : Nat) (M : List Int) (hs : sf = 4 * (k : Int) - 4) (hk : k ≤ 13) (hEE : L ++ B16 sz = M ++ (hF sz k ++ ([112] ++ EXT (max (sz / 4503599627370496) 1 - 1023)))) (hm : (M.length : Int) + (k : Int) ≤ (L.length : Int) + 17) (hf28 : sf + 4 < (fuel28 : Int)) (ls : Array Slot) (H : Heap) (locs : List Loc), lv_has ls 6 [(0, .ref h), (1, .long (lI sz)), (3, .int (iI (sz / 4503599627370496))), (4, .int (iI sf))] → va_P D classes [(h, .inr (5, [.ref ou, .ref ar, .ref rr])), (oc, .inl (E.2.1, 64, .inl (ia (Wr t 0 M)))), (ou, .inr (3, [.ref oc, .int (iI (M.length : Int))]))] H → va_D A [(h, .inr (5, [.ref ou, .ref ar, .ref rr])), (oc, .inl (E.2.1, 64, .inl (ia (Wr t 0 M)))), (ou, .inr (3, [.ref oc, .int (iI (M.length : Int))]))] → va_S A s.heap H locs → W p l e (rmK 5 0 0 107) s m args below meth c H locs 0 0 Q (F0 m 28 ls []) := by
    intro fuel28
    induction fuel28 with
    | zero =>
      intro sf k M hs hk hEE hm hf28 ls H locs hl hP hD hS
      exfalso; omega
    | succ fuel28 ih28 =>
      intro sf k M hs hk hEE hm hf28 ls H locs hl hP hD hS
      refine lv_iload hx hb d_Printer_addBase16_28 (lv_at hl 3 rfl) ?_
      refine wi_if_lt (tgt := 79) hx hb d_Printer_addBase16_30 (by decide) (by omega) (fun c_1 => ?_) (fun c_1 => ?_)
      · skip
        refine lv_aload_n hx hb d_Printer_addBase16_79 rfl (lv_at hl 0 rfl) ?_
        refine wk_get B hP 0 rfl fl_Printer_9 (v := .ref ou) rfl d_Printer_addBase16_80 ?_
        refine wi_bipush hx hb d_Printer_addBase16_83 (by decide) ?_
        refine wk_callV (As := [.int (iI 112)]) (rest := []) (wr := [(h, .inr (5, [.ref ou, .ref ar, .ref rr]))]) B gTB cl_Printer_38 (c_Row_add l D E ou oc 64 (Wr t 0 M) (M.length : Int) 112 (by (try simp only [List.length_append, List.length_cons, List.length_nil]); omega) (by decide) (by omega)) ⟨⟨rfl, rfl⟩, Nat.le_of_ble_eq_true rfl, Nat.le_of_ble_eq_true rfl⟩ hP hD hS [2, 1] [0] rfl rfl (by decide) 2 rfl rfl rfl ⟨hl.2.1, hl.1⟩ rfl (Nat.le_of_ble_eq_true rfl) d_Printer_addBase16_85 ⟨Nat.le_of_ble_eq_true rfl, Nat.le_of_ble_eq_true rfl⟩ rfl (fun u H locs hw hP hD hS => ?_)
        have hP : va_P D classes [(h, .inr (5, [.ref ou, .ref ar, .ref rr])), (ou, .inr (3, [.ref oc, .int (iI ((M.length : Int) + 1))])), (oc, .inl (E.2.1, 64, .inl (ia (upZ (Wr t 0 M) (M.length : Int) 112))))] H := hP
        have hD : va_D A [(h, .inr (5, [.ref ou, .ref ar, .ref rr])), (ou, .inr (3, [.ref oc, .int (iI ((M.length : Int) + 1))])), (oc, .inl (E.2.1, 64, .inl (ia (upZ (Wr t 0 M) (M.length : Int) 112))))] := hD
        refine W.cs (g := F0 m 88 ls []) (cells' := 0) (slots' := 0) rfl rfl ?_
        rw [Wr_sn0 t M 112, Wr_ln M 112] at hP hD
        have hP : va_P D classes [(h, .inr (5, [.ref ou, .ref ar, .ref rr])), (ou, .inr (3, [.ref oc, .int (iI ((M ++ [112]).length : Int))])), (oc, .inl (E.2.1, 64, .inl (ia (Wr t 0 (M ++ [112])))))] H := hP
        have hD : va_D A [(h, .inr (5, [.ref ou, .ref ar, .ref rr])), (ou, .inr (3, [.ref oc, .int (iI ((M ++ [112]).length : Int))])), (oc, .inl (E.2.1, 64, .inl (ia (Wr t 0 (M ++ [112])))))] := hD
        refine W.eq (g2 := F0 m 88 ls []) rfl ?_
        refine lv_aload_n hx hb d_Printer_addBase16_88 rfl (lv_at hl 0 rfl) ?_
        refine lv_iload_n hx hb d_Printer_addBase16_89 rfl (lv_at hl 2 rfl) ?_
        refine wi_iconst (n := 1) hx hb d_Printer_addBase16_90 ?_
        refine wi_mmax hx hb hown (hml.trans hl.1.symm) (tb_h hts tm_Printer_73.1) (tb_h hts tm_Printer_73.2.1) (tb_h hts tm_Printer_73.2.2.1) (tb_h hts tm_Printer_73.2.2.2) (Nat.le_of_ble_eq_true rfl) (Nat.le_of_ble_eq_true rfl) ⟨Nat.le_of_ble_eq_true rfl, Nat.le_of_ble_eq_true rfl⟩ (by omega) (by omega) d_Printer_addBase16_91 ?_
        refine wi_sipush hx hb d_Printer_addBase16_94 (by decide) ?_
        refine wi_isub hx hb d_Printer_addBase16_97 ?_
        refine wk_callV (As := [.int (iI (max (sz / 4503599627370496) 1 - 1023))]) (rest := []) (wr := []) B gTB cl_Printer_79 (c_Printer_addExponent l D E h ou ar rr oc t (M ++ [112]) (max (sz / 4503599627370496) 1 - 1023) (by (try simp only [List.length_append, List.length_cons, List.length_nil]); omega) (by omega)) ⟨⟨rfl, rfl⟩, Nat.le_of_ble_eq_true rfl, Nat.le_of_ble_eq_true rfl⟩ hP hD hS [0, 2, 1] [] rfl rfl (by decide) 0 rfl rfl rfl ⟨hl.2.1, hl.1⟩ rfl (Nat.le_of_ble_eq_true rfl) d_Printer_addBase16_98 ⟨Nat.le_of_ble_eq_true rfl, Nat.le_of_ble_eq_true rfl⟩ rfl (fun L2_2 H locs hw hP hD hS => ?_)
        have hP : va_P D classes [(h, .inr (5, [.ref ou, .ref ar, .ref rr])), (oc, .inl (E.2.1, 64, .inl (ia (Wr t 0 L2_2)))), (ou, .inr (3, [.ref oc, .int (iI (L2_2.length : Int))]))] H := hP
        have hD : va_D A [(h, .inr (5, [.ref ou, .ref ar, .ref rr])), (oc, .inl (E.2.1, 64, .inl (ia (Wr t 0 L2_2)))), (ou, .inr (3, [.ref oc, .int (iI (L2_2.length : Int))]))] := hD
        have hw : (L2_2 = (M ++ [112]) ++ EXT (max (sz / 4503599627370496) 1 - 1023)) := hw
        have hL9 := hw
        refine W.cs (g := F0 m 101 ls []) (cells' := 0) (slots' := 0) rfl rfl ?_
        subst hL9
        refine W.eq (g2 := F0 m 101 ls []) rfl ?_
        exact ret ((M ++ [112]) ++ EXT (max (sz / 4503599627370496) 1 - 1023)) _ _ _ _ d_Printer_addBase16_101 (show (((M ++ [112]) ++ EXT (max (sz / 4503599627370496) 1 - 1023)) = L ++ B16 sz) from (by rw [hEE, show k = 0 by omega]; simp only [hF, List.nil_append, List.append_assoc])) (hP.sub [0, 1, 2] rfl) (hD.sub [0, 1, 2] (by decide) rfl) hS
      · skip
        obtain ⟨k9, hk9⟩ : ∃ k9 : Nat, k = k9 + 1 := ⟨k - 1, by omega⟩
        subst hk9
        refine lv_lload_n hx hb d_Printer_addBase16_33 rfl (lv_at hl 1 rfl) ?_
        refine lv_iload hx hb d_Printer_addBase16_34 (lv_at hl 3 rfl) ?_
        refine wi_lshr hx hb sf.toNat ((16 : Int) ^ k9) (pow16 (by omega)) (by omega) (by omega) (by omega) d_Printer_addBase16_36 ?_
        refine wi_l2i hx hb d_Printer_addBase16_37 ?_
        refine wi_bipush hx hb d_Printer_addBase16_38 (by decide) ?_
        refine wi_imask hx hb 4 16 (by decide +kernel) (by decide) (by decide) d_Printer_addBase16_40 ?_
        refine lv_istore (lv' := [(5, .int (iI ((sz / ((16 : Int) ^ k9)) % 16))), (0, .ref h), (1, .long (lI sz)), (3, .int (iI (sz / 4503599627370496))), (4, .int (iI sf))]) hx hb d_Printer_addBase16_41 hl (by decide) rfl (fun ls hl => ?_)
        refine lv_aload_n hx hb d_Printer_addBase16_43 rfl (lv_at hl 1 rfl) ?_
        refine wk_get B hP 0 rfl fl_Printer_9 (v := .ref ou) rfl d_Printer_addBase16_44 ?_
        refine lv_iload hx hb d_Printer_addBase16_47 (lv_at hl 0 rfl) ?_
        refine wi_bipush hx hb d_Printer_addBase16_49 (by decide) ?_
        refine wi_icmp_ge (tgt := 62) hx hb d_Printer_addBase16_51 (by decide) (by omega) (by omega) (fun c_3 => ?_) (fun c_3 => ?_)
        · skip
          refine wi_bipush hx hb d_Printer_addBase16_62 (by decide) ?_
          refine lv_iload hx hb d_Printer_addBase16_64 (lv_at hl 0 rfl) ?_
          refine wi_iadd hx hb d_Printer_addBase16_66 ?_
          refine wi_bipush hx hb d_Printer_addBase16_67 (by decide) ?_
          refine wi_isub hx hb d_Printer_addBase16_69 ?_
          refine wk_callV (As := [.int (iI (97 + ((sz / ((16 : Int) ^ k9)) % 16) - 10))]) (rest := []) (wr := [(h, .inr (5, [.ref ou, .ref ar, .ref rr]))]) B gTB cl_Printer_38 (c_Row_add l D E ou oc 64 (Wr t 0 M) (M.length : Int) (97 + ((sz / ((16 : Int) ^ k9)) % 16) - 10) (by (try simp only [List.length_append, List.length_cons, List.length_nil]); omega) (by decide) (by omega)) ⟨⟨rfl, rfl⟩, Nat.le_of_ble_eq_true rfl, Nat.le_of_ble_eq_true rfl⟩ hP hD hS [2, 1] [0] rfl rfl (by decide) 2 rfl rfl rfl ⟨hl.2.1, hl.1⟩ rfl (Nat.le_of_ble_eq_true rfl) d_Printer_addBase16_70 ⟨Nat.le_of_ble_eq_true rfl, Nat.le_of_ble_eq_true rfl⟩ rfl (fun u H locs hw hP hD hS => ?_)
          have hP : va_P D classes [(h, .inr (5, [.ref ou, .ref ar, .ref rr])), (ou, .inr (3, [.ref oc, .int (iI ((M.length : Int) + 1))])), (oc, .inl (E.2.1, 64, .inl (ia (upZ (Wr t 0 M) (M.length : Int) (97 + ((sz / ((16 : Int) ^ k9)) % 16) - 10)))))] H := hP
          have hD : va_D A [(h, .inr (5, [.ref ou, .ref ar, .ref rr])), (ou, .inr (3, [.ref oc, .int (iI ((M.length : Int) + 1))])), (oc, .inl (E.2.1, 64, .inl (ia (upZ (Wr t 0 M) (M.length : Int) (97 + ((sz / ((16 : Int) ^ k9)) % 16) - 10)))))] := hD
          refine W.cs (g := F0 m 73 ls []) (cells' := 0) (slots' := 0) rfl rfl ?_
          rw [Wr_sn0 t M (97 + ((sz / ((16 : Int) ^ k9)) % 16) - 10), Wr_ln M (97 + ((sz / ((16 : Int) ^ k9)) % 16) - 10)] at hP hD
          have hP : va_P D classes [(h, .inr (5, [.ref ou, .ref ar, .ref rr])), (ou, .inr (3, [.ref oc, .int (iI ((M ++ [97 + ((sz / ((16 : Int) ^ k9)) % 16) - 10]).length : Int))])), (oc, .inl (E.2.1, 64, .inl (ia (Wr t 0 (M ++ [97 + ((sz / ((16 : Int) ^ k9)) % 16) - 10])))))] H := hP
          have hD : va_D A [(h, .inr (5, [.ref ou, .ref ar, .ref rr])), (ou, .inr (3, [.ref oc, .int (iI ((M ++ [97 + ((sz / ((16 : Int) ^ k9)) % 16) - 10]).length : Int))])), (oc, .inl (E.2.1, 64, .inl (ia (Wr t 0 (M ++ [97 + ((sz / ((16 : Int) ^ k9)) % 16) - 10])))))] := hD
          refine W.eq (g2 := F0 m 73 ls []) rfl ?_
          refine wi_iinc (v := sf + (-4)) (lv' := [(4, .int (iI (sf + (-4)))), (5, .int (iI ((sz / ((16 : Int) ^ k9)) % 16))), (0, .ref h), (1, .long (lI sz)), (3, .int (iI (sz / 4503599627370496)))]) hx hb d_Printer_addBase16_73 hl (k := 4) rfl rfl (by decide) rfl (fun ls hl => ?_)
          refine lv_goto (tgt := 28) hx hb d_Printer_addBase16_76 (by decide) ?_
          exact ih28 (sf + (-4)) k9 (M ++ [97 + ((sz / ((16 : Int) ^ k9)) % 16) - 10]) (by omega) (by omega) (by rw [hEE, hF_s]; congr 3; unfold hxc; first | (rw [if_pos (by omega)]) | (rw [if_neg (by omega)]; omega)) (by (try simp only [List.length_append, List.length_cons, List.length_nil]); omega) (by omega) _ _ _ (lv_sub hl [2, 3, 4, 0] rfl) (hP.sub [0, 2, 1] rfl) (hD.sub [0, 2, 1] (by decide) rfl) hS
        · skip
          refine wi_bipush hx hb d_Printer_addBase16_54 (by decide) ?_
          refine lv_iload hx hb d_Printer_addBase16_56 (lv_at hl 0 rfl) ?_
          refine wi_iadd hx hb d_Printer_addBase16_58 ?_
          refine lv_goto (tgt := 70) hx hb d_Printer_addBase16_59 (by decide) ?_
          refine wk_callV (As := [.int (iI (48 + ((sz / ((16 : Int) ^ k9)) % 16)))]) (rest := []) (wr := [(h, .inr (5, [.ref ou, .ref ar, .ref rr]))]) B gTB cl_Printer_38 (c_Row_add l D E ou oc 64 (Wr t 0 M) (M.length : Int) (48 + ((sz / ((16 : Int) ^ k9)) % 16)) (by (try simp only [List.length_append, List.length_cons, List.length_nil]); omega) (by decide) (by omega)) ⟨⟨rfl, rfl⟩, Nat.le_of_ble_eq_true rfl, Nat.le_of_ble_eq_true rfl⟩ hP hD hS [2, 1] [0] rfl rfl (by decide) 2 rfl rfl rfl ⟨hl.2.1, hl.1⟩ rfl (Nat.le_of_ble_eq_true rfl) d_Printer_addBase16_70 ⟨Nat.le_of_ble_eq_true rfl, Nat.le_of_ble_eq_true rfl⟩ rfl (fun u H locs hw hP hD hS => ?_)
          have hP : va_P D classes [(h, .inr (5, [.ref ou, .ref ar, .ref rr])), (ou, .inr (3, [.ref oc, .int (iI ((M.length : Int) + 1))])), (oc, .inl (E.2.1, 64, .inl (ia (upZ (Wr t 0 M) (M.length : Int) (48 + ((sz / ((16 : Int) ^ k9)) % 16))))))] H := hP
          have hD : va_D A [(h, .inr (5, [.ref ou, .ref ar, .ref rr])), (ou, .inr (3, [.ref oc, .int (iI ((M.length : Int) + 1))])), (oc, .inl (E.2.1, 64, .inl (ia (upZ (Wr t 0 M) (M.length : Int) (48 + ((sz / ((16 : Int) ^ k9)) % 16))))))] := hD
          refine W.cs (g := F0 m 73 ls []) (cells' := 0) (slots' := 0) rfl rfl ?_
          rw [Wr_sn0 t M (48 + ((sz / ((16 : Int) ^ k9)) % 16)), Wr_ln M (48 + ((sz / ((16 : Int) ^ k9)) % 16))] at hP hD
          have hP : va_P D classes [(h, .inr (5, [.ref ou, .ref ar, .ref rr])), (ou, .inr (3, [.ref oc, .int (iI ((M ++ [48 + ((sz / ((16 : Int) ^ k9)) % 16)]).length : Int))])), (oc, .inl (E.2.1, 64, .inl (ia (Wr t 0 (M ++ [48 + ((sz / ((16 : Int) ^ k9)) % 16)])))))] H := hP
          have hD : va_D A [(h, .inr (5, [.ref ou, .ref ar, .ref rr])), (ou, .inr (3, [.ref oc, .int (iI ((M ++ [48 + ((sz / ((16 : Int) ^ k9)) % 16)]).length : Int))])), (oc, .inl (E.2.1, 64, .inl (ia (Wr t 0 (M ++ [48 + ((sz / ((16 : Int) ^ k9)) % 16)])))))] := hD
          refine W.eq (g2 := F0 m 73 ls []) rfl ?_
          refine wi_iinc (v := sf + (-4)) (lv' := [(4, .int (iI (sf + (-4)))), (5, .int (iI ((sz / ((16 : Int) ^ k9)) % 16))), (0, .ref h), (1, .long (lI sz)), (3, .int (iI (sz / 4503599627370496)))]) hx hb d_Printer_addBase16_73 hl (k := 4) rfl rfl (by decide) rfl (fun ls hl => ?_)
          refine lv_goto (tgt := 28) hx hb d_Printer_addBase16_76 (by decide) ?_
          exact ih28 (sf + (-4)) k9 (M ++ [48 + ((sz / ((16 : Int) ^ k9)) % 16)]) (by omega) (by omega) (by rw [hEE, hF_s]; congr 3; unfold hxc; first | (rw [if_pos (by omega)]) | (rw [if_neg (by omega)]; omega)) (by (try simp only [List.length_append, List.length_cons, List.length_nil]); omega) (by omega) _ _ _ (lv_sub hl [2, 3, 4, 0] rfl) (hP.sub [0, 2, 1] rfl) (hD.sub [0, 2, 1] (by decide) rfl) hS
  refine lv_lload_n hx hb d_Printer_addBase16_0 rfl (lv_at hl 1 rfl) ?_
  refine wi_bipush hx hb d_Printer_addBase16_1 (by decide) ?_
  refine wi_lshr hx hb 52 4503599627370496 (by decide +kernel) rfl (by decide) (by omega) d_Printer_addBase16_3 ?_
  refine wi_l2i hx hb d_Printer_addBase16_4 ?_
  refine lv_istore_n (lv' := [(3, .int (iI (sz / 4503599627370496))), (0, .ref h), (1, .long (lI sz))]) hx hb d_Printer_addBase16_5 rfl hl (by decide) rfl (fun ls hl => ?_)
  refine lv_aload_n hx hb d_Printer_addBase16_6 rfl (lv_at hl 1 rfl) ?_
  refine wk_get B hP 0 rfl fl_Printer_9 (v := .ref ou) rfl d_Printer_addBase16_7 ?_
  refine lv_iload_n hx hb d_Printer_addBase16_10 rfl (lv_at hl 0 rfl) ?_
  refine wi_if_ne (tgt := 19) hx hb d_Printer_addBase16_11 (by decide) (by omega) (fun c_4 => ?_) (fun c_4 => ?_)
  · skip
    refine va_ldcS hx hb hown (sr_23 hE) d_Printer_addBase16_19 ?_
    refine wk_callV (As := [.ref (E.2.2.1 23)]) (rest := []) (wr := [(h, .inr (5, [.ref ou, .ref ar, .ref rr]))]) B gTB cl_Printer_32 (c_Row_addText l D E ou oc 64 (Wr t 0 L) (L.length : Int) 23 (by decide) (by rw [show (strLen 23 : Int) = ((strLen 23 : Nat) : Int) from rfl, show strLen 23 = 4 from rfl]; (try simp only [List.length_append, List.length_cons, List.length_nil]); omega) (by decide)) ⟨⟨rfl, rfl⟩, Nat.le_of_ble_eq_true rfl, Nat.le_of_ble_eq_true rfl⟩ hP hD hS [2, 1] [0] rfl rfl (by decide) 2 rfl rfl rfl ⟨hl.2.1, hl.1⟩ rfl (Nat.le_of_ble_eq_true rfl) d_Printer_addBase16_21 ⟨Nat.le_of_ble_eq_true rfl, Nat.le_of_ble_eq_true rfl⟩ rfl (fun u H locs hw hP hD hS => ?_)
    obtain ⟨t2_5, n2_6⟩ := u
    have hP : va_P D classes [(h, .inr (5, [.ref ou, .ref ar, .ref rr])), (ou, .inr (3, [.ref oc, .int (iI n2_6)])), (oc, .inl (E.2.1, 64, .inl (ia t2_5)))] H := hP
    have hD : va_D A [(h, .inr (5, [.ref ou, .ref ar, .ref rr])), (ou, .inr (3, [.ref oc, .int (iI n2_6)])), (oc, .inl (E.2.1, 64, .inl (ia t2_5)))] := hD
    have hw : (t2_5 = apZ (Wr t 0 L) (L.length : Int) (strLen 23) (strCh 23)) ∧ (n2_6 = (L.length : Int) + (strLen 23 : Int)) := hw
    obtain ⟨htx, htn⟩ := hw
    refine W.cs (g := F0 m 24 ls []) (cells' := 0) (slots' := 0) rfl rfl ?_
    subst htx
    subst htn
    rw [Wr_tx t L 23, Wr_tl L 23] at hP hD
    have hP : va_P D classes [(h, .inr (5, [.ref ou, .ref ar, .ref rr])), (ou, .inr (3, [.ref oc, .int (iI ((L ++ strByt.getD 23 []).length : Int))])), (oc, .inl (E.2.1, 64, .inl (ia (Wr t 0 (L ++ strByt.getD 23 [])))))] H := hP
    have hD : va_D A [(h, .inr (5, [.ref ou, .ref ar, .ref rr])), (ou, .inr (3, [.ref oc, .int (iI ((L ++ strByt.getD 23 []).length : Int))])), (oc, .inl (E.2.1, 64, .inl (ia (Wr t 0 (L ++ strByt.getD 23 [])))))] := hD
    refine W.eq (g2 := F0 m 24 ls []) rfl ?_
    refine wi_bipush hx hb d_Printer_addBase16_24 (by decide) ?_
    refine lv_istore (lv' := [(4, .int (iI 48)), (3, .int (iI (sz / 4503599627370496))), (0, .ref h), (1, .long (lI sz))]) hx hb d_Printer_addBase16_26 hl (by decide) rfl (fun ls hl => ?_)
    exact K_28 ((48 + 4 : Int).toNat + 1) 48 13 (L ++ strByt.getD 23 []) (by decide) (by decide) (by unfold B16; rw [if_neg (by omega)]; rw [List.append_assoc]) (by simp only [List.length_append, show (strByt.getD 22 []).length = 4 from rfl, show (strByt.getD 23 []).length = 4 from rfl]; omega) (by omega) _ _ _ (lv_sub hl [2, 3, 1, 0] rfl) (hP.sub [0, 2, 1] rfl) (hD.sub [0, 2, 1] (by decide) rfl) hS
  · skip
    refine va_ldcS hx hb hown (sr_22 hE) d_Printer_addBase16_14 ?_
    refine lv_goto (tgt := 21) hx hb d_Printer_addBase16_16 (by decide) ?_
    refine wk_callV (As := [.ref (E.2.2.1 22)]) (rest := []) (wr := [(h, .inr (5, [.ref ou, .ref ar, .ref rr]))]) B gTB cl_Printer_32 (c_Row_addText l D E ou oc 64 (Wr t 0 L) (L.length : Int) 22 (by decide) (by rw [show (strLen 22 : Int) = ((strLen 22 : Nat) : Int) from rfl, show strLen 22 = 4 from rfl]; (try simp only [List.length_append, List.length_cons, List.length_nil]); omega) (by decide)) ⟨⟨rfl, rfl⟩, Nat.le_of_ble_eq_true rfl, Nat.le_of_ble_eq_true rfl⟩ hP hD hS [2, 1] [0] rfl rfl (by decide) 2 rfl rfl rfl ⟨hl.2.1, hl.1⟩ rfl (Nat.le_of_ble_eq_true rfl) d_Printer_addBase16_21 ⟨Nat.le_of_ble_eq_true rfl, Nat.le_of_ble_eq_true rfl⟩ rfl (fun u H locs hw hP hD hS => ?_)
    obtain ⟨t2_7, n2_8⟩ := u
    have hP : va_P D classes [(h, .inr (5, [.ref ou, .ref ar, .ref rr])), (ou, .inr (3, [.ref oc, .int (iI n2_8)])), (oc, .inl (E.2.1, 64, .inl (ia t2_7)))] H := hP
    have hD : va_D A [(h, .inr (5, [.ref ou, .ref ar, .ref rr])), (ou, .inr (3, [.ref oc, .int (iI n2_8)])), (oc, .inl (E.2.1, 64, .inl (ia t2_7)))] := hD
    have hw : (t2_7 = apZ (Wr t 0 L) (L.length : Int) (strLen 22) (strCh 22)) ∧ (n2_8 = (L.length : Int) + (strLen 22 : Int)) := hw
    obtain ⟨htx, htn⟩ := hw
    refine W.cs (g := F0 m 24 ls []) (cells' := 0) (slots' := 0) rfl rfl ?_
    subst htx
    subst htn
    rw [Wr_tx t L 22, Wr_tl L 22] at hP hD
    have hP : va_P D classes [(h, .inr (5, [.ref ou, .ref ar, .ref rr])), (ou, .inr (3, [.ref oc, .int (iI ((L ++ strByt.getD 22 []).length : Int))])), (oc, .inl (E.2.1, 64, .inl (ia (Wr t 0 (L ++ strByt.getD 22 [])))))] H := hP
    have hD : va_D A [(h, .inr (5, [.ref ou, .ref ar, .ref rr])), (ou, .inr (3, [.ref oc, .int (iI ((L ++ strByt.getD 22 []).length : Int))])), (oc, .inl (E.2.1, 64, .inl (ia (Wr t 0 (L ++ strByt.getD 22 [])))))] := hD
    refine W.eq (g2 := F0 m 24 ls []) rfl ?_
    refine wi_bipush hx hb d_Printer_addBase16_24 (by decide) ?_
    refine lv_istore (lv' := [(4, .int (iI 48)), (3, .int (iI (sz / 4503599627370496))), (0, .ref h), (1, .long (lI sz))]) hx hb d_Printer_addBase16_26 hl (by decide) rfl (fun ls hl => ?_)
    exact K_28 ((48 + 4 : Int).toNat + 1) 48 13 (L ++ strByt.getD 22 []) (by decide) (by decide) (by unfold B16; rw [if_pos (by omega)]; rw [List.append_assoc]) (by simp only [List.length_append, show (strByt.getD 22 []).length = 4 from rfl, show (strByt.getD 23 []).length = 4 from rfl]; omega) (by omega) _ _ _ (lv_sub hl [2, 3, 1, 0] rfl) (hP.sub [0, 2, 1] rfl) (hD.sub [0, 2, 1] (by decide) rfl) hS
