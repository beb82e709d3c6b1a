/-! Arithmetic: constructor, compareSizes, isAbove, fillTopLimb -/
abbrev b_Arithmetic_init : ByteArray := prog_2_method_1_code
def y_Arithmetic_init : MethodName := ⟨"IntervalText$Arithmetic", "<init>", "()V"⟩
abbrev b_Arithmetic_compareSizes : ByteArray := prog_2_method_3_code
def y_Arithmetic_compareSizes : MethodName := ⟨"IntervalText$Arithmetic", "compareSizes", "(LIntervalText$Ratio;LIntervalText$Ratio;)I"⟩
abbrev b_Arithmetic_isAbove : ByteArray := prog_2_method_2_code
def y_Arithmetic_isAbove : MethodName := ⟨"IntervalText$Arithmetic", "isAbove", "(LIntervalText$Ratio;LIntervalText$Ratio;)Z"⟩
abbrev b_Arithmetic_fillTopLimb : ByteArray := prog_2_method_5_code
def y_Arithmetic_fillTopLimb : MethodName := ⟨"IntervalText$Arithmetic", "fillTopLimb", "()V"⟩
theorem d_Arithmetic_init_0 : decode b_Arithmetic_init 0 = .ok (.aload_n 0, 1) := by decide +kernel
theorem d_Arithmetic_init_1 : decode b_Arithmetic_init 1 = .ok (.invokespecial 3, 3) := by decide +kernel
theorem d_Arithmetic_init_4 : decode b_Arithmetic_init 4 = .ok (.aload_n 0, 1) := by decide +kernel
theorem d_Arithmetic_init_5 : decode b_Arithmetic_init 5 = .ok (.new 9, 3) := by decide +kernel
theorem d_Arithmetic_init_8 : decode b_Arithmetic_init 8 = .ok (.dup, 1) := by decide +kernel
theorem d_Arithmetic_init_9 : decode b_Arithmetic_init 9 = .ok (.invokespecial 11, 3) := by decide +kernel
theorem d_Arithmetic_init_12 : decode b_Arithmetic_init 12 = .ok (.putfield 12, 3) := by decide +kernel
theorem d_Arithmetic_init_15 : decode b_Arithmetic_init 15 = .ok (.aload_n 0, 1) := by decide +kernel
theorem d_Arithmetic_init_16 : decode b_Arithmetic_init 16 = .ok (.new 9, 3) := by decide +kernel
theorem d_Arithmetic_init_19 : decode b_Arithmetic_init 19 = .ok (.dup, 1) := by decide +kernel
theorem d_Arithmetic_init_20 : decode b_Arithmetic_init 20 = .ok (.invokespecial 11, 3) := by decide +kernel
theorem d_Arithmetic_init_23 : decode b_Arithmetic_init 23 = .ok (.putfield 18, 3) := by decide +kernel
theorem d_Arithmetic_init_26 : decode b_Arithmetic_init 26 = .ok (.aload_n 0, 1) := by decide +kernel
theorem d_Arithmetic_init_27 : decode b_Arithmetic_init 27 = .ok (.lconst 0, 1) := by decide +kernel
theorem d_Arithmetic_init_28 : decode b_Arithmetic_init 28 = .ok (.putfield 21, 3) := by decide +kernel
theorem d_Arithmetic_init_31 : decode b_Arithmetic_init 31 = .ok (.aload_n 0, 1) := by decide +kernel
theorem d_Arithmetic_init_32 : decode b_Arithmetic_init 32 = .ok (.iconst 0, 1) := by decide +kernel
theorem d_Arithmetic_init_33 : decode b_Arithmetic_init 33 = .ok (.putfield 25, 3) := by decide +kernel
theorem d_Arithmetic_init_36 : decode b_Arithmetic_init 36 = .ok (.return_, 1) := by decide +kernel
theorem d_Arithmetic_compareSizes_0 : decode b_Arithmetic_compareSizes 0 = .ok (.aload_n 0, 1) := by decide +kernel
theorem d_Arithmetic_compareSizes_1 : decode b_Arithmetic_compareSizes 1 = .ok (.getfield 12, 3) := by decide +kernel
theorem d_Arithmetic_compareSizes_4 : decode b_Arithmetic_compareSizes 4 = .ok (.aload_n 1, 1) := by decide +kernel
theorem d_Arithmetic_compareSizes_5 : decode b_Arithmetic_compareSizes 5 = .ok (.getfield 39, 3) := by decide +kernel
theorem d_Arithmetic_compareSizes_8 : decode b_Arithmetic_compareSizes 8 = .ok (.aload_n 2, 1) := by decide +kernel
theorem d_Arithmetic_compareSizes_9 : decode b_Arithmetic_compareSizes 9 = .ok (.getfield 42, 3) := by decide +kernel
theorem d_Arithmetic_compareSizes_12 : decode b_Arithmetic_compareSizes 12 = .ok (.invokevirtual 45, 3) := by decide +kernel
theorem d_Arithmetic_compareSizes_15 : decode b_Arithmetic_compareSizes 15 = .ok (.aload_n 0, 1) := by decide +kernel
theorem d_Arithmetic_compareSizes_16 : decode b_Arithmetic_compareSizes 16 = .ok (.getfield 18, 3) := by decide +kernel
theorem d_Arithmetic_compareSizes_19 : decode b_Arithmetic_compareSizes 19 = .ok (.aload_n 2, 1) := by decide +kernel
theorem d_Arithmetic_compareSizes_20 : decode b_Arithmetic_compareSizes 20 = .ok (.getfield 39, 3) := by decide +kernel
theorem d_Arithmetic_compareSizes_23 : decode b_Arithmetic_compareSizes 23 = .ok (.aload_n 1, 1) := by decide +kernel
theorem d_Arithmetic_compareSizes_24 : decode b_Arithmetic_compareSizes 24 = .ok (.getfield 42, 3) := by decide +kernel
theorem d_Arithmetic_compareSizes_27 : decode b_Arithmetic_compareSizes 27 = .ok (.invokevirtual 45, 3) := by decide +kernel
theorem d_Arithmetic_compareSizes_30 : decode b_Arithmetic_compareSizes 30 = .ok (.aload_n 1, 1) := by decide +kernel
theorem d_Arithmetic_compareSizes_31 : decode b_Arithmetic_compareSizes 31 = .ok (.getfield 49, 3) := by decide +kernel
theorem d_Arithmetic_compareSizes_34 : decode b_Arithmetic_compareSizes 34 = .ok (.aload_n 2, 1) := by decide +kernel
theorem d_Arithmetic_compareSizes_35 : decode b_Arithmetic_compareSizes 35 = .ok (.getfield 49, 3) := by decide +kernel
theorem d_Arithmetic_compareSizes_38 : decode b_Arithmetic_compareSizes 38 = .ok (.isub, 1) := by decide +kernel
theorem d_Arithmetic_compareSizes_39 : decode b_Arithmetic_compareSizes 39 = .ok (.istore_n 3, 1) := by decide +kernel
theorem d_Arithmetic_compareSizes_40 : decode b_Arithmetic_compareSizes 40 = .ok (.aload_n 0, 1) := by decide +kernel
theorem d_Arithmetic_compareSizes_41 : decode b_Arithmetic_compareSizes 41 = .ok (.getfield 12, 3) := by decide +kernel
theorem d_Arithmetic_compareSizes_44 : decode b_Arithmetic_compareSizes 44 = .ok (.invokevirtual 53, 3) := by decide +kernel
theorem d_Arithmetic_compareSizes_47 : decode b_Arithmetic_compareSizes 47 = .ok (.iload_n 3, 1) := by decide +kernel
theorem d_Arithmetic_compareSizes_48 : decode b_Arithmetic_compareSizes 48 = .ok (.iadd, 1) := by decide +kernel
theorem d_Arithmetic_compareSizes_49 : decode b_Arithmetic_compareSizes 49 = .ok (.aload_n 0, 1) := by decide +kernel
theorem d_Arithmetic_compareSizes_50 : decode b_Arithmetic_compareSizes 50 = .ok (.getfield 18, 3) := by decide +kernel
theorem d_Arithmetic_compareSizes_53 : decode b_Arithmetic_compareSizes 53 = .ok (.invokevirtual 53, 3) := by decide +kernel
theorem d_Arithmetic_compareSizes_56 : decode b_Arithmetic_compareSizes 56 = .ok (.isub, 1) := by decide +kernel
theorem d_Arithmetic_compareSizes_57 : decode b_Arithmetic_compareSizes 57 = .ok (.istore 4, 2) := by decide +kernel
theorem d_Arithmetic_compareSizes_59 : decode b_Arithmetic_compareSizes 59 = .ok (.iload 4, 2) := by decide +kernel
theorem d_Arithmetic_compareSizes_61 : decode b_Arithmetic_compareSizes 61 = .ok (.ifCond .eq 6, 3) := by decide +kernel
theorem d_Arithmetic_compareSizes_64 : decode b_Arithmetic_compareSizes 64 = .ok (.iload 4, 2) := by decide +kernel
theorem d_Arithmetic_compareSizes_66 : decode b_Arithmetic_compareSizes 66 = .ok (.ireturn, 1) := by decide +kernel
theorem d_Arithmetic_compareSizes_67 : decode b_Arithmetic_compareSizes 67 = .ok (.aload_n 0, 1) := by decide +kernel
theorem d_Arithmetic_compareSizes_68 : decode b_Arithmetic_compareSizes 68 = .ok (.getfield 12, 3) := by decide +kernel
theorem d_Arithmetic_compareSizes_71 : decode b_Arithmetic_compareSizes 71 = .ok (.iload_n 3, 1) := by decide +kernel
theorem d_Arithmetic_compareSizes_72 : decode b_Arithmetic_compareSizes 72 = .ok (.invokevirtual 56, 3) := by decide +kernel
theorem d_Arithmetic_compareSizes_75 : decode b_Arithmetic_compareSizes 75 = .ok (.aload_n 0, 1) := by decide +kernel
theorem d_Arithmetic_compareSizes_76 : decode b_Arithmetic_compareSizes 76 = .ok (.getfield 18, 3) := by decide +kernel
theorem d_Arithmetic_compareSizes_79 : decode b_Arithmetic_compareSizes 79 = .ok (.iload_n 3, 1) := by decide +kernel
theorem d_Arithmetic_compareSizes_80 : decode b_Arithmetic_compareSizes 80 = .ok (.ineg, 1) := by decide +kernel
theorem d_Arithmetic_compareSizes_81 : decode b_Arithmetic_compareSizes 81 = .ok (.invokevirtual 56, 3) := by decide +kernel
theorem d_Arithmetic_compareSizes_84 : decode b_Arithmetic_compareSizes 84 = .ok (.aload_n 0, 1) := by decide +kernel
theorem d_Arithmetic_compareSizes_85 : decode b_Arithmetic_compareSizes 85 = .ok (.getfield 12, 3) := by decide +kernel
theorem d_Arithmetic_compareSizes_88 : decode b_Arithmetic_compareSizes 88 = .ok (.aload_n 0, 1) := by decide +kernel
theorem d_Arithmetic_compareSizes_89 : decode b_Arithmetic_compareSizes 89 = .ok (.getfield 18, 3) := by decide +kernel
theorem d_Arithmetic_compareSizes_92 : decode b_Arithmetic_compareSizes 92 = .ok (.iconst 0, 1) := by decide +kernel
theorem d_Arithmetic_compareSizes_93 : decode b_Arithmetic_compareSizes 93 = .ok (.invokevirtual 60, 3) := by decide +kernel
theorem d_Arithmetic_compareSizes_96 : decode b_Arithmetic_compareSizes 96 = .ok (.ireturn, 1) := by decide +kernel
theorem d_Arithmetic_isAbove_0 : decode b_Arithmetic_isAbove 0 = .ok (.aload_n 1, 1) := by decide +kernel
theorem d_Arithmetic_isAbove_1 : decode b_Arithmetic_isAbove 1 = .ok (.invokevirtual 29, 3) := by decide +kernel
theorem d_Arithmetic_isAbove_4 : decode b_Arithmetic_isAbove 4 = .ok (.istore_n 3, 1) := by decide +kernel
theorem d_Arithmetic_isAbove_5 : decode b_Arithmetic_isAbove 5 = .ok (.iload_n 3, 1) := by decide +kernel
theorem d_Arithmetic_isAbove_6 : decode b_Arithmetic_isAbove 6 = .ok (.aload_n 2, 1) := by decide +kernel
theorem d_Arithmetic_isAbove_7 : decode b_Arithmetic_isAbove 7 = .ok (.invokevirtual 29, 3) := by decide +kernel
theorem d_Arithmetic_isAbove_10 : decode b_Arithmetic_isAbove 10 = .ok (.if_icmp .ne 7, 3) := by decide +kernel
theorem d_Arithmetic_isAbove_13 : decode b_Arithmetic_isAbove 13 = .ok (.iload_n 3, 1) := by decide +kernel
theorem d_Arithmetic_isAbove_14 : decode b_Arithmetic_isAbove 14 = .ok (.ifCond .ne 17, 3) := by decide +kernel
theorem d_Arithmetic_isAbove_17 : decode b_Arithmetic_isAbove 17 = .ok (.iload_n 3, 1) := by decide +kernel
theorem d_Arithmetic_isAbove_18 : decode b_Arithmetic_isAbove 18 = .ok (.aload_n 2, 1) := by decide +kernel
theorem d_Arithmetic_isAbove_19 : decode b_Arithmetic_isAbove 19 = .ok (.invokevirtual 29, 3) := by decide +kernel
theorem d_Arithmetic_isAbove_22 : decode b_Arithmetic_isAbove 22 = .ok (.if_icmp .le 7, 3) := by decide +kernel
theorem d_Arithmetic_isAbove_25 : decode b_Arithmetic_isAbove 25 = .ok (.iconst 1, 1) := by decide +kernel
theorem d_Arithmetic_isAbove_26 : decode b_Arithmetic_isAbove 26 = .ok (.goto 4, 3) := by decide +kernel
theorem d_Arithmetic_isAbove_29 : decode b_Arithmetic_isAbove 29 = .ok (.iconst 0, 1) := by decide +kernel
theorem d_Arithmetic_isAbove_30 : decode b_Arithmetic_isAbove 30 = .ok (.ireturn, 1) := by decide +kernel
theorem d_Arithmetic_isAbove_31 : decode b_Arithmetic_isAbove 31 = .ok (.iload_n 3, 1) := by decide +kernel
theorem d_Arithmetic_isAbove_32 : decode b_Arithmetic_isAbove 32 = .ok (.ifCond .le 20, 3) := by decide +kernel
theorem d_Arithmetic_isAbove_35 : decode b_Arithmetic_isAbove 35 = .ok (.aload_n 0, 1) := by decide +kernel
theorem d_Arithmetic_isAbove_36 : decode b_Arithmetic_isAbove 36 = .ok (.aload_n 1, 1) := by decide +kernel
theorem d_Arithmetic_isAbove_37 : decode b_Arithmetic_isAbove 37 = .ok (.aload_n 2, 1) := by decide +kernel
theorem d_Arithmetic_isAbove_38 : decode b_Arithmetic_isAbove 38 = .ok (.invokevirtual 35, 3) := by decide +kernel
theorem d_Arithmetic_isAbove_41 : decode b_Arithmetic_isAbove 41 = .ok (.ifCond .le 7, 3) := by decide +kernel
theorem d_Arithmetic_isAbove_44 : decode b_Arithmetic_isAbove 44 = .ok (.iconst 1, 1) := by decide +kernel
theorem d_Arithmetic_isAbove_45 : decode b_Arithmetic_isAbove 45 = .ok (.goto 21, 3) := by decide +kernel
theorem d_Arithmetic_isAbove_48 : decode b_Arithmetic_isAbove 48 = .ok (.iconst 0, 1) := by decide +kernel
theorem d_Arithmetic_isAbove_49 : decode b_Arithmetic_isAbove 49 = .ok (.goto 17, 3) := by decide +kernel
theorem d_Arithmetic_isAbove_52 : decode b_Arithmetic_isAbove 52 = .ok (.aload_n 0, 1) := by decide +kernel
theorem d_Arithmetic_isAbove_53 : decode b_Arithmetic_isAbove 53 = .ok (.aload_n 1, 1) := by decide +kernel
theorem d_Arithmetic_isAbove_54 : decode b_Arithmetic_isAbove 54 = .ok (.aload_n 2, 1) := by decide +kernel
theorem d_Arithmetic_isAbove_55 : decode b_Arithmetic_isAbove 55 = .ok (.invokevirtual 35, 3) := by decide +kernel
theorem d_Arithmetic_isAbove_58 : decode b_Arithmetic_isAbove 58 = .ok (.ifCond .ge 7, 3) := by decide +kernel
theorem d_Arithmetic_isAbove_61 : decode b_Arithmetic_isAbove 61 = .ok (.iconst 1, 1) := by decide +kernel
theorem d_Arithmetic_isAbove_62 : decode b_Arithmetic_isAbove 62 = .ok (.goto 4, 3) := by decide +kernel
theorem d_Arithmetic_isAbove_65 : decode b_Arithmetic_isAbove 65 = .ok (.iconst 0, 1) := by decide +kernel
theorem d_Arithmetic_isAbove_66 : decode b_Arithmetic_isAbove 66 = .ok (.ireturn, 1) := by decide +kernel
theorem d_Arithmetic_fillTopLimb_0 : decode b_Arithmetic_fillTopLimb 0 = .ok (.aload_n 0, 1) := by decide +kernel
theorem d_Arithmetic_fillTopLimb_1 : decode b_Arithmetic_fillTopLimb 1 = .ok (.getfield 18, 3) := by decide +kernel
theorem d_Arithmetic_fillTopLimb_4 : decode b_Arithmetic_fillTopLimb 4 = .ok (.getfield 71, 3) := by decide +kernel
theorem d_Arithmetic_fillTopLimb_7 : decode b_Arithmetic_fillTopLimb 7 = .ok (.bipush 30, 2) := by decide +kernel
theorem d_Arithmetic_fillTopLimb_9 : decode b_Arithmetic_fillTopLimb 9 = .ok (.imul, 1) := by decide +kernel
theorem d_Arithmetic_fillTopLimb_10 : decode b_Arithmetic_fillTopLimb 10 = .ok (.aload_n 0, 1) := by decide +kernel
theorem d_Arithmetic_fillTopLimb_11 : decode b_Arithmetic_fillTopLimb 11 = .ok (.getfield 18, 3) := by decide +kernel
theorem d_Arithmetic_fillTopLimb_14 : decode b_Arithmetic_fillTopLimb 14 = .ok (.invokevirtual 53, 3) := by decide +kernel
theorem d_Arithmetic_fillTopLimb_17 : decode b_Arithmetic_fillTopLimb 17 = .ok (.isub, 1) := by decide +kernel
theorem d_Arithmetic_fillTopLimb_18 : decode b_Arithmetic_fillTopLimb 18 = .ok (.istore_n 1, 1) := by decide +kernel
theorem d_Arithmetic_fillTopLimb_19 : decode b_Arithmetic_fillTopLimb 19 = .ok (.aload_n 0, 1) := by decide +kernel
theorem d_Arithmetic_fillTopLimb_20 : decode b_Arithmetic_fillTopLimb 20 = .ok (.getfield 12, 3) := by decide +kernel
theorem d_Arithmetic_fillTopLimb_23 : decode b_Arithmetic_fillTopLimb 23 = .ok (.iload_n 1, 1) := by decide +kernel
theorem d_Arithmetic_fillTopLimb_24 : decode b_Arithmetic_fillTopLimb 24 = .ok (.invokevirtual 56, 3) := by decide +kernel
theorem d_Arithmetic_fillTopLimb_27 : decode b_Arithmetic_fillTopLimb 27 = .ok (.aload_n 0, 1) := by decide +kernel
theorem d_Arithmetic_fillTopLimb_28 : decode b_Arithmetic_fillTopLimb 28 = .ok (.getfield 18, 3) := by decide +kernel
theorem d_Arithmetic_fillTopLimb_31 : decode b_Arithmetic_fillTopLimb 31 = .ok (.iload_n 1, 1) := by decide +kernel
theorem d_Arithmetic_fillTopLimb_32 : decode b_Arithmetic_fillTopLimb 32 = .ok (.invokevirtual 56, 3) := by decide +kernel
theorem d_Arithmetic_fillTopLimb_35 : decode b_Arithmetic_fillTopLimb 35 = .ok (.return_, 1) := by decide +kernel
theorem fl_Arithmetic_12 : FLink TB classes "IntervalText$Arithmetic" 12 R_Arithmetic F_Arithmetic 4 2 0 := ⟨rfl, by decide, i_Arithmetic, tb_t (List.mem_append_left _ (List.mem_of_getElem? (l := tables_1_1) (i := 64) rfl)) rfl⟩
theorem fl_Arithmetic_18 : FLink TB classes "IntervalText$Arithmetic" 18 R_Arithmetic F_Arithmetic 4 2 1 := ⟨rfl, by decide, i_Arithmetic, tb_t (List.mem_append_left _ (List.mem_of_getElem? (l := tables_1_1) (i := 65) rfl)) rfl⟩
theorem fl_Arithmetic_21 : FLink TB classes "IntervalText$Arithmetic" 21 R_Arithmetic F_Arithmetic 4 2 2 := ⟨rfl, by decide, i_Arithmetic, tb_t (List.mem_append_left _ (List.mem_of_getElem? (l := tables_1_1) (i := 66) rfl)) rfl⟩
theorem fl_Arithmetic_25 : FLink TB classes "IntervalText$Arithmetic" 25 R_Arithmetic F_Arithmetic 4 2 3 := ⟨rfl, by decide, i_Arithmetic, tb_t (List.mem_append_left _ (List.mem_of_getElem? (l := tables_1_1) (i := 68) rfl)) rfl⟩
theorem fl_Arithmetic_39 : FLink TB classes "IntervalText$Arithmetic" 39 R_Ratio F_Ratio 4 1 0 := ⟨rfl, by decide, i_Ratio, tb_t (List.mem_append_left _ (List.mem_of_getElem? (l := tables_1_1) (i := 99) rfl)) rfl⟩
theorem fl_Arithmetic_42 : FLink TB classes "IntervalText$Arithmetic" 42 R_Ratio F_Ratio 4 1 1 := ⟨rfl, by decide, i_Ratio, tb_t (List.mem_append_left _ (List.mem_of_getElem? (l := tables_1_1) (i := 103) rfl)) rfl⟩
theorem fl_Arithmetic_49 : FLink TB classes "IntervalText$Arithmetic" 49 R_Ratio F_Ratio 4 1 3 := ⟨rfl, by decide, i_Ratio, tb_t (List.mem_append_left _ (List.mem_of_getElem? (l := tables_1_1) (i := 108) rfl)) rfl⟩
theorem fl_Arithmetic_71 : FLink TB classes "IntervalText$Arithmetic" 71 R_Natural F_Natural 2 0 1 := ⟨rfl, by decide, i_Natural, tb_t (List.mem_append_left _ (List.mem_of_getElem? (l := tables_1_1) (i := 56) rfl)) rfl⟩
theorem fp_Arithmetic_0 : FPut R_Arithmetic F_Arithmetic 4 0 (.object "IntervalText$Natural") true := ⟨e_Arithmetic, n_Arithmetic, rfl, by decide +kernel⟩
theorem fp_Arithmetic_1 : FPut R_Arithmetic F_Arithmetic 4 1 (.object "IntervalText$Natural") true := ⟨e_Arithmetic, n_Arithmetic, rfl, by decide +kernel⟩
theorem fp_Arithmetic_2 : FPut R_Arithmetic F_Arithmetic 4 2 .long false := ⟨e_Arithmetic, n_Arithmetic, rfl, by decide +kernel⟩
theorem fp_Arithmetic_3 : FPut R_Arithmetic F_Arithmetic 4 3 .boolean false := ⟨e_Arithmetic, n_Arithmetic, rfl, by decide +kernel⟩
theorem cn_Arithmetic_9 : Cond.classLink "IntervalText$Arithmetic" 9 R_Natural ∈ TB ∧ Cond.instantiable R_Natural 2 ∈ TB ∧ Cond.initialized R_Natural ∈ TB := ⟨tb_t (List.mem_append_left _ (List.mem_of_getElem? (l := tables_1_1) (i := 47) rfl)) rfl, tb_t (List.mem_append_left _ (List.mem_of_getElem? (l := tables_1_1) (i := 48) rfl)) rfl, tb_t (List.mem_append_left _ (List.mem_of_getElem? (l := tables_1_1) (i := 4) rfl)) rfl⟩
theorem oi_Arithmetic_3 : Cond.methodLink "IntervalText$Arithmetic" 3 objectInit ∈ TB ∧ Cond.instanceMethod objectInit ∈ TB ∧ Cond.code objectInit ⟨#[0xb1]⟩ 1 none ∈ TB := ⟨tb_t (List.mem_append_left _ (List.mem_of_getElem? (l := tables_1_1) (i := 46) rfl)) rfl, tb_t (List.mem_append_left _ (List.mem_of_getElem? (l := tables_1_1) (i := 22) rfl)) rfl, tb_t (List.mem_append_left _ (List.mem_of_getElem? (l := tables_1_1) (i := 23) rfl)) rfl⟩
theorem cl_Arithmetic_11 : CLinkI TB "IntervalText$Arithmetic" 11 y_Natural_init b_Natural_init 1 0 := ⟨⟨tb_t (List.mem_append_left _ (List.mem_of_getElem? (l := tables_1_1) (i := 49) rfl)) rfl, tb_t (List.mem_append_left _ (List.mem_of_getElem? (l := tables_1_1) (i := 4) rfl)) rfl, tb_t (List.mem_append_left _ (List.mem_of_getElem? (l := tables_1_1) (i := 51) rfl)) rfl, by decide +kernel, by decide +kernel, by decide +kernel⟩, rfl, tb_t (List.mem_append_left _ (List.mem_of_getElem? (l := tables_1_1) (i := 50) rfl)) rfl⟩
theorem cl_Arithmetic_29 : CLinkV TB "IntervalText$Arithmetic" 29 "IntervalText$Ratio" y_Ratio_sign b_Ratio_sign 1 (some .int) 0 := ⟨⟨tb_t (List.mem_append_right _ (List.mem_append_left _ (List.mem_of_getElem? (l := tables_1_2) (i := 138) rfl))) rfl, tb_t (List.mem_append_left _ (List.mem_of_getElem? (l := tables_1_1) (i := 6) rfl)) rfl, tb_t (List.mem_append_right _ (List.mem_append_left _ (List.mem_of_getElem? (l := tables_1_2) (i := 141) rfl))) rfl, by decide +kernel, by decide +kernel, by decide +kernel⟩, tb_t (List.mem_append_right _ (List.mem_append_left _ (List.mem_of_getElem? (l := tables_1_2) (i := 139) rfl))) rfl, tb_t (List.mem_append_right _ (List.mem_append_left _ (List.mem_of_getElem? (l := tables_1_2) (i := 140) rfl))) rfl⟩
theorem cl_Arithmetic_35 : CLinkV TB "IntervalText$Arithmetic" 35 "IntervalText$Arithmetic" y_Arithmetic_compareSizes b_Arithmetic_compareSizes 5 (some .int) 2 := ⟨⟨tb_t (List.mem_append_right _ (List.mem_append_left _ (List.mem_of_getElem? (l := tables_1_2) (i := 142) rfl))) rfl, tb_t (List.mem_append_left _ (List.mem_of_getElem? (l := tables_1_1) (i := 3) rfl)) rfl, tb_t (List.mem_append_right _ (List.mem_append_left _ (List.mem_of_getElem? (l := tables_1_2) (i := 145) rfl))) rfl, by decide +kernel, by decide +kernel, by decide +kernel⟩, tb_t (List.mem_append_right _ (List.mem_append_left _ (List.mem_of_getElem? (l := tables_1_2) (i := 144) rfl))) rfl, tb_p 10 rfl⟩
theorem cl_Arithmetic_45 : CLinkV TB "IntervalText$Arithmetic" 45 "IntervalText$Natural" y_Natural_setProduct b_Natural_setProduct 10 none 2 := ⟨⟨tb_t (List.mem_append_right _ (List.mem_append_left _ (List.mem_of_getElem? (l := tables_1_2) (i := 146) rfl))) rfl, tb_t (List.mem_append_left _ (List.mem_of_getElem? (l := tables_1_1) (i := 4) rfl)) rfl, tb_t (List.mem_append_right _ (List.mem_append_left _ (List.mem_of_getElem? (l := tables_1_2) (i := 149) rfl))) rfl, by decide +kernel, by decide +kernel, by decide +kernel⟩, tb_t (List.mem_append_right _ (List.mem_append_left _ (List.mem_of_getElem? (l := tables_1_2) (i := 147) rfl))) rfl, tb_t (List.mem_append_right _ (List.mem_append_left _ (List.mem_of_getElem? (l := tables_1_2) (i := 148) rfl))) rfl⟩
theorem cl_Arithmetic_53 : CLinkV TB "IntervalText$Arithmetic" 53 "IntervalText$Natural" y_Natural_bits b_Natural_bits 3 (some .int) 0 := ⟨⟨tb_t (List.mem_append_right _ (List.mem_append_left _ (List.mem_of_getElem? (l := tables_1_2) (i := 158) rfl))) rfl, tb_t (List.mem_append_left _ (List.mem_of_getElem? (l := tables_1_1) (i := 4) rfl)) rfl, tb_t (List.mem_append_right _ (List.mem_append_left _ (List.mem_of_getElem? (l := tables_1_2) (i := 161) rfl))) rfl, by decide +kernel, by decide +kernel, by decide +kernel⟩, tb_t (List.mem_append_right _ (List.mem_append_left _ (List.mem_of_getElem? (l := tables_1_2) (i := 159) rfl))) rfl, tb_t (List.mem_append_right _ (List.mem_append_left _ (List.mem_of_getElem? (l := tables_1_2) (i := 160) rfl))) rfl⟩
theorem cl_Arithmetic_56 : CLinkV TB "IntervalText$Arithmetic" 56 "IntervalText$Natural" y_Natural_shiftLeft b_Natural_shiftLeft 9 none 1 := ⟨⟨tb_t (List.mem_append_right _ (List.mem_append_left _ (List.mem_of_getElem? (l := tables_1_2) (i := 162) rfl))) rfl, tb_t (List.mem_append_left _ (List.mem_of_getElem? (l := tables_1_1) (i := 4) rfl)) rfl, tb_t (List.mem_append_right _ (List.mem_append_left _ (List.mem_of_getElem? (l := tables_1_2) (i := 165) rfl))) rfl, by decide +kernel, by decide +kernel, by decide +kernel⟩, tb_t (List.mem_append_right _ (List.mem_append_left _ (List.mem_of_getElem? (l := tables_1_2) (i := 163) rfl))) rfl, tb_t (List.mem_append_right _ (List.mem_append_left _ (List.mem_of_getElem? (l := tables_1_2) (i := 164) rfl))) rfl⟩
theorem cl_Arithmetic_60 : CLinkV TB "IntervalText$Arithmetic" 60 "IntervalText$Natural" y_Natural_compareWith b_Natural_compareWith 4 (some .int) 2 := ⟨⟨tb_t (List.mem_append_right _ (List.mem_append_left _ (List.mem_of_getElem? (l := tables_1_2) (i := 166) rfl))) rfl, tb_t (List.mem_append_left _ (List.mem_of_getElem? (l := tables_1_1) (i := 4) rfl)) rfl, tb_t (List.mem_append_right _ (List.mem_append_left _ (List.mem_of_getElem? (l := tables_1_2) (i := 169) rfl))) rfl, by decide +kernel, by decide +kernel, by decide +kernel⟩, tb_t (List.mem_append_right _ (List.mem_append_left _ (List.mem_of_getElem? (l := tables_1_2) (i := 167) rfl))) rfl, tb_t (List.mem_append_right _ (List.mem_append_left _ (List.mem_of_getElem? (l := tables_1_2) (i := 168) rfl))) rfl⟩
set_option maxHeartbeats 4000000 in
set_option maxRecDepth 100000 in
theorem c_Arithmetic_init (l : Launch) (D : va_G) (E : EVt) (h : Nat)  : CT l D classes (tyl E) (EVX E) y_Arithmetic_init (Cond.code y_Arithmetic_init b_Arithmetic_init 1 none :: TB) (rmK 2 4 452 40) 4 452 [.ref h] [(h, .inr (2, [.null, .null, .long (lI 0), .int (bI false)]))] (S := Nat × Nat × Nat × Nat) (fun u => [(h, .inr (2, [.ref u.1, .ref u.2.2.1, .long (lI 0), .int (bI false)])), (u.1, .inr (0, [.ref u.2.1, .int (iI 0)])), (u.2.1, .inl (E.1, 224, .inl (ia (fun _ => 0)))), (u.2.2.1, .inr (0, [.ref u.2.2.2, .int (iI 0)])), (u.2.2.2, .inl (E.1, 224, .inl (ia (fun _ => 0))))]) (fun _ => none) (fun _ => True) := by
  refine CT.ofv (eok E) (by decide) rfl (Nat.le_of_ble_eq_true rfl) ?_
  intro p e s m args below meth c A Q ls B hmn hP hD hS hl ret
  have B : Bd l D classes (tyl E) (EVX E) p m c b_Arithmetic_init 1 s args (Cond.code y_Arithmetic_init b_Arithmetic_init 1 none :: TB) R_Arithmetic A := B
  obtain ⟨⟨hx, hb, hml, hown, hts⟩, hX, hK, hE, hA⟩ := id B
  have hl : lv_has ls 1 [(0, .ref h)] := hl
  have hP : va_P D classes [(h, .inr (2, [.null, .null, .long (lI 0), .int (bI false)]))] s.heap := hP
  have hD : va_D A [(h, .inr (2, [.null, .null, .long (lI 0), .int (bI false)]))] := hD
  refine lv_aload_n hx hb d_Arithmetic_init_0 rfl (lv_at hl 0 rfl) ?_
  refine wk_objInit B oi_Arithmetic_3 ⟨hl.2.1, hl.1⟩ d_Arithmetic_init_1 (Nat.le_of_ble_eq_true rfl) ⟨Nat.le_of_ble_eq_true rfl, Nat.le_of_ble_eq_true rfl⟩ ?_
  refine lv_aload_n hx hb d_Arithmetic_init_4 rfl (lv_at hl 0 rfl) ?_
  refine wk_new (ci := 0) B hP hD hS cn_Arithmetic_9 rfl i_Natural t_Natural_ok (fs := [.null, .int (iI 0)]) z_Natural (by decide) d_Arithmetic_init_5 (fun q_1 H hP hD hS => ?_)
  have hP : va_P D classes [(h, .inr (2, [.null, .null, .long (lI 0), .int (bI false)])), (q_1, .inr (0, [.null, .int (iI 0)]))] H := hP
  have hD : va_D A [(h, .inr (2, [.null, .null, .long (lI 0), .int (bI false)])), (q_1, .inr (0, [.null, .int (iI 0)]))] := hD
  refine W.cs (cells' := 1) (slots' := 2) rfl rfl ?_
  refine lv_dup hx hb d_Arithmetic_init_8 rfl ?_
  refine wk_callI (As := []) (rest := [.ref q_1, .ref h]) (wr := [(h, .inr (2, [.null, .null, .long (lI 0), .int (bI false)]))]) B gTB cl_Arithmetic_11 (c_Natural_init l D E q_1 ) ⟨⟨rfl, rfl⟩, Nat.le_of_ble_eq_true rfl, Nat.le_of_ble_eq_true rfl⟩ hP hD hS [1] [0] rfl rfl (by decide) ⟨hl.2.1, hl.1⟩ rfl (Nat.le_of_ble_eq_true rfl) d_Arithmetic_init_9 ⟨Nat.le_of_ble_eq_true rfl, Nat.le_of_ble_eq_true rfl⟩ rfl (fun q_2 H locs hw hP hD hS => ?_)
  have hP : va_P D classes [(h, .inr (2, [.null, .null, .long (lI 0), .int (bI false)])), (q_1, .inr (0, [.ref q_2, .int (iI 0)])), (q_2, .inl (E.1, 224, .inl (ia (fun _ => 0))))] H := hP
  have hD : va_D A [(h, .inr (2, [.null, .null, .long (lI 0), .int (bI false)])), (q_1, .inr (0, [.ref q_2, .int (iI 0)])), (q_2, .inl (E.1, 224, .inl (ia (fun _ => 0))))] := hD
  refine W.cs (g := F0 m 12 ls [.ref q_1, .ref h]) (cells' := 2) (slots' := 226) rfl rfl ?_
  refine wk_putF B hmn hP hD hS 0 rfl fl_Arithmetic_12 rfl fp_Arithmetic_0 (v := .ref q_1) rfl rfl (Nat.le_of_ble_eq_true rfl) d_Arithmetic_init_12 (fun H locs hP hD hS => ?_)
  have hP : va_P D classes [(h, .inr (2, [.ref q_1, .null, .long (lI 0), .int (bI false)])), (q_1, .inr (0, [.ref q_2, .int (iI 0)])), (q_2, .inl (E.1, 224, .inl (ia (fun _ => 0))))] H := hP
  have hD : va_D A [(h, .inr (2, [.ref q_1, .null, .long (lI 0), .int (bI false)])), (q_1, .inr (0, [.ref q_2, .int (iI 0)])), (q_2, .inl (E.1, 224, .inl (ia (fun _ => 0))))] := hD
  refine lv_aload_n hx hb d_Arithmetic_init_15 rfl (lv_at hl 0 rfl) ?_
  refine wk_new (ci := 0) B hP hD hS cn_Arithmetic_9 rfl i_Natural t_Natural_ok (fs := [.null, .int (iI 0)]) z_Natural (by decide) d_Arithmetic_init_16 (fun q_3 H hP hD hS => ?_)
  have hP : va_P D classes [(h, .inr (2, [.ref q_1, .null, .long (lI 0), .int (bI false)])), (q_1, .inr (0, [.ref q_2, .int (iI 0)])), (q_2, .inl (E.1, 224, .inl (ia (fun _ => 0)))), (q_3, .inr (0, [.null, .int (iI 0)]))] H := hP
  have hD : va_D A [(h, .inr (2, [.ref q_1, .null, .long (lI 0), .int (bI false)])), (q_1, .inr (0, [.ref q_2, .int (iI 0)])), (q_2, .inl (E.1, 224, .inl (ia (fun _ => 0)))), (q_3, .inr (0, [.null, .int (iI 0)]))] := hD
  refine W.cs (cells' := 3) (slots' := 228) rfl rfl ?_
  refine lv_dup hx hb d_Arithmetic_init_19 rfl ?_
  refine wk_callI (As := []) (rest := [.ref q_3, .ref h]) (wr := [(h, .inr (2, [.ref q_1, .null, .long (lI 0), .int (bI false)])), (q_1, .inr (0, [.ref q_2, .int (iI 0)])), (q_2, .inl (E.1, 224, .inl (ia (fun _ => 0))))]) B gTB cl_Arithmetic_11 (c_Natural_init l D E q_3 ) ⟨⟨rfl, rfl⟩, Nat.le_of_ble_eq_true rfl, Nat.le_of_ble_eq_true rfl⟩ hP hD hS [3] [0, 1, 2] rfl rfl (by decide) ⟨hl.2.1, hl.1⟩ rfl (Nat.le_of_ble_eq_true rfl) d_Arithmetic_init_20 ⟨Nat.le_of_ble_eq_true rfl, Nat.le_of_ble_eq_true rfl⟩ rfl (fun q_4 H locs hw hP hD hS => ?_)
  have hP : va_P D classes [(h, .inr (2, [.ref q_1, .null, .long (lI 0), .int (bI false)])), (q_1, .inr (0, [.ref q_2, .int (iI 0)])), (q_2, .inl (E.1, 224, .inl (ia (fun _ => 0)))), (q_3, .inr (0, [.ref q_4, .int (iI 0)])), (q_4, .inl (E.1, 224, .inl (ia (fun _ => 0))))] H := hP
  have hD : va_D A [(h, .inr (2, [.ref q_1, .null, .long (lI 0), .int (bI false)])), (q_1, .inr (0, [.ref q_2, .int (iI 0)])), (q_2, .inl (E.1, 224, .inl (ia (fun _ => 0)))), (q_3, .inr (0, [.ref q_4, .int (iI 0)])), (q_4, .inl (E.1, 224, .inl (ia (fun _ => 0))))] := hD
  refine W.cs (g := F0 m 23 ls [.ref q_3, .ref h]) (cells' := 4) (slots' := 452) rfl rfl ?_
  refine wk_putF B hmn hP hD hS 0 rfl fl_Arithmetic_18 rfl fp_Arithmetic_1 (v := .ref q_3) rfl rfl (Nat.le_of_ble_eq_true rfl) d_Arithmetic_init_23 (fun H locs hP hD hS => ?_)
  have hP : va_P D classes [(h, .inr (2, [.ref q_1, .ref q_3, .long (lI 0), .int (bI false)])), (q_1, .inr (0, [.ref q_2, .int (iI 0)])), (q_2, .inl (E.1, 224, .inl (ia (fun _ => 0)))), (q_3, .inr (0, [.ref q_4, .int (iI 0)])), (q_4, .inl (E.1, 224, .inl (ia (fun _ => 0))))] H := hP
  have hD : va_D A [(h, .inr (2, [.ref q_1, .ref q_3, .long (lI 0), .int (bI false)])), (q_1, .inr (0, [.ref q_2, .int (iI 0)])), (q_2, .inl (E.1, 224, .inl (ia (fun _ => 0)))), (q_3, .inr (0, [.ref q_4, .int (iI 0)])), (q_4, .inl (E.1, 224, .inl (ia (fun _ => 0))))] := hD
  refine lv_aload_n hx hb d_Arithmetic_init_26 rfl (lv_at hl 0 rfl) ?_
  refine wi_lconst (z := 0) hx hb d_Arithmetic_init_27 (by decide) ?_
  refine wk_put B hP hD hS 0 rfl fl_Arithmetic_21 fp_Arithmetic_2 (v := .long (lI 0)) rfl rfl (Nat.le_of_ble_eq_true rfl) d_Arithmetic_init_28 (fun H locs hP hD hS => ?_)
  have hP : va_P D classes [(h, .inr (2, [.ref q_1, .ref q_3, .long (lI 0), .int (bI false)])), (q_1, .inr (0, [.ref q_2, .int (iI 0)])), (q_2, .inl (E.1, 224, .inl (ia (fun _ => 0)))), (q_3, .inr (0, [.ref q_4, .int (iI 0)])), (q_4, .inl (E.1, 224, .inl (ia (fun _ => 0))))] H := hP
  have hD : va_D A [(h, .inr (2, [.ref q_1, .ref q_3, .long (lI 0), .int (bI false)])), (q_1, .inr (0, [.ref q_2, .int (iI 0)])), (q_2, .inl (E.1, 224, .inl (ia (fun _ => 0)))), (q_3, .inr (0, [.ref q_4, .int (iI 0)])), (q_4, .inl (E.1, 224, .inl (ia (fun _ => 0))))] := hD
  refine lv_aload_n hx hb d_Arithmetic_init_31 rfl (lv_at hl 0 rfl) ?_
  refine wi_iconst (n := 0) hx hb d_Arithmetic_init_32 ?_
  refine w_as0 ?_
  refine wk_put B hP hD hS 0 rfl fl_Arithmetic_25 fp_Arithmetic_3 (v := .int (bI false)) (bI_nar _) (bI_fit _) (Nat.le_of_ble_eq_true rfl) d_Arithmetic_init_33 (fun H locs hP hD hS => ?_)
  have hP : va_P D classes [(h, .inr (2, [.ref q_1, .ref q_3, .long (lI 0), .int (bI false)])), (q_1, .inr (0, [.ref q_2, .int (iI 0)])), (q_2, .inl (E.1, 224, .inl (ia (fun _ => 0)))), (q_3, .inr (0, [.ref q_4, .int (iI 0)])), (q_4, .inl (E.1, 224, .inl (ia (fun _ => 0))))] H := hP
  have hD : va_D A [(h, .inr (2, [.ref q_1, .ref q_3, .long (lI 0), .int (bI false)])), (q_1, .inr (0, [.ref q_2, .int (iI 0)])), (q_2, .inl (E.1, 224, .inl (ia (fun _ => 0)))), (q_3, .inr (0, [.ref q_4, .int (iI 0)])), (q_4, .inl (E.1, 224, .inl (ia (fun _ => 0))))] := hD
  exact ret (q_1, q_2, q_3, q_4) _ _ _ _ d_Arithmetic_init_36 trivial (hP.sub [0, 1, 2, 3, 4] rfl) (hD.sub [0, 1, 2, 3, 4] (by decide) rfl) hS
set_option maxHeartbeats 4000000 in
set_option maxRecDepth 100000 in
theorem c_Arithmetic_compareSizes (l : Launch) (D : va_G) (E : EVt) (h : Nat) (ln : Nat) (la : Nat) (rn : Nat) (ra : Nat) (lg : Int → Int) (rg : Int → Int) (lk : Int) (rk : Int) (quo : Int) (inx : Bool) (h1 : Nat) (tn1 : Nat) (ta1 : Nat) (bn1 : Nat) (ba1 : Nat) (tg1 : Int → Int) (bg1 : Int → Int) (tk1 : Int) (bk1 : Int) (pw1 : Int) (neg1 : Bool) (h2 : Nat) (tn2 : Nat) (ta2 : Nat) (bn2 : Nat) (ba2 : Nat) (tg2 : Int → Int) (bg2 : Int → Int) (tk2 : Int) (bk2 : Int) (pw2 : Int) (neg2 : Bool) (v1 : Int) (b1 : Int) (v2 : Int) (b2 : Int) (hT1 : NatOK tg1 tk1 v1) (hB1 : NatOK bg1 bk1 b1) (hT2 : NatOK tg2 tk2 v2) (hB2 : NatOK bg2 bk2 b2) (hb1 : 0 < b1) (hb2 : 0 < b2) (hs1 : tk1 + bk2 ≤ 224) (hs2 : tk2 + bk1 ≤ 224) (hp1 : -100000 ≤ pw1 ∧ pw1 ≤ 100000) (hp2 : -100000 ≤ pw2 ∧ pw2 ≤ 100000) (hv1 : 0 < v1) (hv2 : 0 < v2) : CT l D classes (tyl E) (EVX E) y_Arithmetic_compareSizes (Cond.code y_Arithmetic_compareSizes b_Arithmetic_compareSizes 5 (some .int) :: TB) (rmK 2 0 0 59) 0 0 [.ref h, .ref h1, .ref h2] [(h, .inr (2, [.ref ln, .ref rn, .long (lI quo), .int (bI inx)])), (ln, .inr (0, [.ref la, .int (iI lk)])), (la, .inl (E.1, 224, .inl (ia lg))), (rn, .inr (0, [.ref ra, .int (iI rk)])), (ra, .inl (E.1, 224, .inl (ia rg))), (h1, .inr (1, [.ref tn1, .ref bn1, .int (bI neg1), .int (iI pw1)])), (tn1, .inr (0, [.ref ta1, .int (iI tk1)])), (ta1, .inl (E.1, 224, .inl (ia tg1))), (bn1, .inr (0, [.ref ba1, .int (iI bk1)])), (ba1, .inl (E.1, 224, .inl (ia bg1))), (h2, .inr (1, [.ref tn2, .ref bn2, .int (bI neg2), .int (iI pw2)])), (tn2, .inr (0, [.ref ta2, .int (iI tk2)])), (ta2, .inl (E.1, 224, .inl (ia tg2))), (bn2, .inr (0, [.ref ba2, .int (iI bk2)])), (ba2, .inl (E.1, 224, .inl (ia bg2)))] (S := (Int → Int) × (Int → Int) × Int × Int × Int) (fun u => [(h, .inr (2, [.ref ln, .ref rn, .long (lI quo), .int (bI inx)])), (ln, .inr (0, [.ref la, .int (iI u.2.2.1)])), (la, .inl (E.1, 224, .inl (ia u.1))), (rn, .inr (0, [.ref ra, .int (iI u.2.2.2.1)])), (ra, .inl (E.1, 224, .inl (ia u.2.1))), (h1, .inr (1, [.ref tn1, .ref bn1, .int (bI neg1), .int (iI pw1)])), (tn1, .inr (0, [.ref ta1, .int (iI tk1)])), (ta1, .inl (E.1, 224, .inl (ia tg1))), (bn1, .inr (0, [.ref ba1, .int (iI bk1)])), (ba1, .inl (E.1, 224, .inl (ia bg1))), (h2, .inr (1, [.ref tn2, .ref bn2, .int (bI neg2), .int (iI pw2)])), (tn2, .inr (0, [.ref ta2, .int (iI tk2)])), (ta2, .inl (E.1, 224, .inl (ia tg2))), (bn2, .inr (0, [.ref ba2, .int (iI bk2)])), (ba2, .inl (E.1, 224, .inl (ia bg2)))]) (fun u => some (.int (iI u.2.2.2.2))) (fun u => (CmpR u.2.2.2.2 (v1 * b2 * P2 (pw1 - pw2)) (v2 * b1 * P2 (-(pw1 - pw2))))) := by
  refine CT.ofi (fv := fun (u : (Int → Int) × (Int → Int) × Int × Int × Int) => u.2.2.2.2) (eok E) (by decide) rfl (Nat.le_of_ble_eq_true rfl) ?_
  intro p e s m args below meth c A Q ls B hmn hP hD hS hl ret
  have B : Bd l D classes (tyl E) (EVX E) p m c b_Arithmetic_compareSizes 5 s args (Cond.code y_Arithmetic_compareSizes b_Arithmetic_compareSizes 5 (some .int) :: TB) R_Arithmetic A := B
  obtain ⟨⟨hx, hb, hml, hown, hts⟩, hX, hK, hE, hA⟩ := id B
  have hl : lv_has ls 5 [(0, .ref h), (1, .ref h1), (2, .ref h2)] := hl
  have hP : va_P D classes [(h, .inr (2, [.ref ln, .ref rn, .long (lI quo), .int (bI inx)])), (ln, .inr (0, [.ref la, .int (iI lk)])), (la, .inl (E.1, 224, .inl (ia lg))), (rn, .inr (0, [.ref ra, .int (iI rk)])), (ra, .inl (E.1, 224, .inl (ia rg))), (h1, .inr (1, [.ref tn1, .ref bn1, .int (bI neg1), .int (iI pw1)])), (tn1, .inr (0, [.ref ta1, .int (iI tk1)])), (ta1, .inl (E.1, 224, .inl (ia tg1))), (bn1, .inr (0, [.ref ba1, .int (iI bk1)])), (ba1, .inl (E.1, 224, .inl (ia bg1))), (h2, .inr (1, [.ref tn2, .ref bn2, .int (bI neg2), .int (iI pw2)])), (tn2, .inr (0, [.ref ta2, .int (iI tk2)])), (ta2, .inl (E.1, 224, .inl (ia tg2))), (bn2, .inr (0, [.ref ba2, .int (iI bk2)])), (ba2, .inl (E.1, 224, .inl (ia bg2)))] s.heap := hP
  have hD : va_D A [(h, .inr (2, [.ref ln, .ref rn, .long (lI quo), .int (bI inx)])), (ln, .inr (0, [.ref la, .int (iI lk)])), (la, .inl (E.1, 224, .inl (ia lg))), (rn, .inr (0, [.ref ra, .int (iI rk)])), (ra, .inl (E.1, 224, .inl (ia rg))), (h1, .inr (1, [.ref tn1, .ref bn1, .int (bI neg1), .int (iI pw1)])), (tn1, .inr (0, [.ref ta1, .int (iI tk1)])), (ta1, .inl (E.1, 224, .inl (ia tg1))), (bn1, .inr (0, [.ref ba1, .int (iI bk1)])), (ba1, .inl (E.1, 224, .inl (ia bg1))), (h2, .inr (1, [.ref tn2, .ref bn2, .int (bI neg2), .int (iI pw2)])), (tn2, .inr (0, [.ref ta2, .int (iI tk2)])), (ta2, .inl (E.1, 224, .inl (ia tg2))), (bn2, .inr (0, [.ref ba2, .int (iI bk2)])), (ba2, .inl (E.1, 224, .inl (ia bg2)))] := hD
  have hx1 := Int.mul_pos hv1 hb2
  have hx2 := Int.mul_pos hv2 hb1
  refine lv_aload_n hx hb d_Arithmetic_compareSizes_0 rfl (lv_at hl 0 rfl) ?_
  refine wk_get B hP 0 rfl fl_Arithmetic_12 (v := .ref ln) rfl d_Arithmetic_compareSizes_1 ?_
  refine lv_aload_n hx hb d_Arithmetic_compareSizes_4 rfl (lv_at hl 1 rfl) ?_
  refine wk_get B hP 5 rfl fl_Arithmetic_39 (v := .ref tn1) rfl d_Arithmetic_compareSizes_5 ?_
  refine lv_aload_n hx hb d_Arithmetic_compareSizes_8 rfl (lv_at hl 2 rfl) ?_
  refine wk_get B hP 10 rfl fl_Arithmetic_42 (v := .ref bn2) rfl d_Arithmetic_compareSizes_9 ?_
  refine wk_callV (As := [.ref tn1, .ref bn2]) (rest := []) (wr := [(h, .inr (2, [.ref ln, .ref rn, .long (lI quo), .int (bI inx)])), (rn, .inr (0, [.ref ra, .int (iI rk)])), (ra, .inl (E.1, 224, .inl (ia rg))), (h1, .inr (1, [.ref tn1, .ref bn1, .int (bI neg1), .int (iI pw1)])), (bn1, .inr (0, [.ref ba1, .int (iI bk1)])), (ba1, .inl (E.1, 224, .inl (ia bg1))), (h2, .inr (1, [.ref tn2, .ref bn2, .int (bI neg2), .int (iI pw2)])), (tn2, .inr (0, [.ref ta2, .int (iI tk2)])), (ta2, .inl (E.1, 224, .inl (ia tg2)))]) B gTB cl_Arithmetic_45 (c_Natural_setProduct l D E ln la lg lk tn1 ta1 tg1 tk1 bn2 ba2 bg2 bk2 v1 b2 (hT1) (hB2) (hs1)) ⟨⟨rfl, rfl⟩, Nat.le_of_ble_eq_true rfl, Nat.le_of_ble_eq_true rfl⟩ hP hD hS [1, 2, 6, 7, 13, 14] [0, 3, 4, 5, 8, 9, 10, 11, 12] rfl rfl (by decide) 1 rfl rfl rfl ⟨hl.2.1, hl.1⟩ rfl (Nat.le_of_ble_eq_true rfl) d_Arithmetic_compareSizes_12 ⟨Nat.le_of_ble_eq_true rfl, Nat.le_of_ble_eq_true rfl⟩ rfl (fun u H locs hw hP hD hS => ?_)
  obtain ⟨g3_1, k3_2⟩ := u
  have hP : va_P D classes [(h, .inr (2, [.ref ln, .ref rn, .long (lI quo), .int (bI inx)])), (rn, .inr (0, [.ref ra, .int (iI rk)])), (ra, .inl (E.1, 224, .inl (ia rg))), (h1, .inr (1, [.ref tn1, .ref bn1, .int (bI neg1), .int (iI pw1)])), (bn1, .inr (0, [.ref ba1, .int (iI bk1)])), (ba1, .inl (E.1, 224, .inl (ia bg1))), (h2, .inr (1, [.ref tn2, .ref bn2, .int (bI neg2), .int (iI pw2)])), (tn2, .inr (0, [.ref ta2, .int (iI tk2)])), (ta2, .inl (E.1, 224, .inl (ia tg2))), (ln, .inr (0, [.ref la, .int (iI k3_2)])), (la, .inl (E.1, 224, .inl (ia g3_1))), (tn1, .inr (0, [.ref ta1, .int (iI tk1)])), (ta1, .inl (E.1, 224, .inl (ia tg1))), (bn2, .inr (0, [.ref ba2, .int (iI bk2)])), (ba2, .inl (E.1, 224, .inl (ia bg2)))] H := hP
  have hD : va_D A [(h, .inr (2, [.ref ln, .ref rn, .long (lI quo), .int (bI inx)])), (rn, .inr (0, [.ref ra, .int (iI rk)])), (ra, .inl (E.1, 224, .inl (ia rg))), (h1, .inr (1, [.ref tn1, .ref bn1, .int (bI neg1), .int (iI pw1)])), (bn1, .inr (0, [.ref ba1, .int (iI bk1)])), (ba1, .inl (E.1, 224, .inl (ia bg1))), (h2, .inr (1, [.ref tn2, .ref bn2, .int (bI neg2), .int (iI pw2)])), (tn2, .inr (0, [.ref ta2, .int (iI tk2)])), (ta2, .inl (E.1, 224, .inl (ia tg2))), (ln, .inr (0, [.ref la, .int (iI k3_2)])), (la, .inl (E.1, 224, .inl (ia g3_1))), (tn1, .inr (0, [.ref ta1, .int (iI tk1)])), (ta1, .inl (E.1, 224, .inl (ia tg1))), (bn2, .inr (0, [.ref ba2, .int (iI bk2)])), (ba2, .inl (E.1, 224, .inl (ia bg2)))] := hD
  have hw : (NatOK g3_1 k3_2 (v1 * b2)) := hw
  have hO_3 := hw
  refine W.cs (g := F0 m 15 ls []) (cells' := 0) (slots' := 0) rfl rfl ?_
  refine lv_aload_n hx hb d_Arithmetic_compareSizes_15 rfl (lv_at hl 0 rfl) ?_
  refine wk_get B hP 0 rfl fl_Arithmetic_18 (v := .ref rn) rfl d_Arithmetic_compareSizes_16 ?_
  refine lv_aload_n hx hb d_Arithmetic_compareSizes_19 rfl (lv_at hl 2 rfl) ?_
  refine wk_get B hP 6 rfl fl_Arithmetic_39 (v := .ref tn2) rfl d_Arithmetic_compareSizes_20 ?_
  refine lv_aload_n hx hb d_Arithmetic_compareSizes_23 rfl (lv_at hl 1 rfl) ?_
  refine wk_get B hP 3 rfl fl_Arithmetic_42 (v := .ref bn1) rfl d_Arithmetic_compareSizes_24 ?_
  refine wk_callV (As := [.ref tn2, .ref bn1]) (rest := []) (wr := [(h, .inr (2, [.ref ln, .ref rn, .long (lI quo), .int (bI inx)])), (h1, .inr (1, [.ref tn1, .ref bn1, .int (bI neg1), .int (iI pw1)])), (h2, .inr (1, [.ref tn2, .ref bn2, .int (bI neg2), .int (iI pw2)])), (ln, .inr (0, [.ref la, .int (iI k3_2)])), (la, .inl (E.1, 224, .inl (ia g3_1))), (tn1, .inr (0, [.ref ta1, .int (iI tk1)])), (ta1, .inl (E.1, 224, .inl (ia tg1))), (bn2, .inr (0, [.ref ba2, .int (iI bk2)])), (ba2, .inl (E.1, 224, .inl (ia bg2)))]) B gTB cl_Arithmetic_45 (c_Natural_setProduct l D E rn ra rg rk tn2 ta2 tg2 tk2 bn1 ba1 bg1 bk1 v2 b1 (hT2) (hB1) (hs2)) ⟨⟨rfl, rfl⟩, Nat.le_of_ble_eq_true rfl, Nat.le_of_ble_eq_true rfl⟩ hP hD hS [1, 2, 7, 8, 4, 5] [0, 3, 6, 9, 10, 11, 12, 13, 14] rfl rfl (by decide) 1 rfl rfl rfl ⟨hl.2.1, hl.1⟩ rfl (Nat.le_of_ble_eq_true rfl) d_Arithmetic_compareSizes_27 ⟨Nat.le_of_ble_eq_true rfl, Nat.le_of_ble_eq_true rfl⟩ rfl (fun u H locs hw hP hD hS => ?_)
  obtain ⟨g3_4, k3_5⟩ := u
  have hP : va_P D classes [(h, .inr (2, [.ref ln, .ref rn, .long (lI quo), .int (bI inx)])), (h1, .inr (1, [.ref tn1, .ref bn1, .int (bI neg1), .int (iI pw1)])), (h2, .inr (1, [.ref tn2, .ref bn2, .int (bI neg2), .int (iI pw2)])), (ln, .inr (0, [.ref la, .int (iI k3_2)])), (la, .inl (E.1, 224, .inl (ia g3_1))), (tn1, .inr (0, [.ref ta1, .int (iI tk1)])), (ta1, .inl (E.1, 224, .inl (ia tg1))), (bn2, .inr (0, [.ref ba2, .int (iI bk2)])), (ba2, .inl (E.1, 224, .inl (ia bg2))), (rn, .inr (0, [.ref ra, .int (iI k3_5)])), (ra, .inl (E.1, 224, .inl (ia g3_4))), (tn2, .inr (0, [.ref ta2, .int (iI tk2)])), (ta2, .inl (E.1, 224, .inl (ia tg2))), (bn1, .inr (0, [.ref ba1, .int (iI bk1)])), (ba1, .inl (E.1, 224, .inl (ia bg1)))] H := hP
  have hD : va_D A [(h, .inr (2, [.ref ln, .ref rn, .long (lI quo), .int (bI inx)])), (h1, .inr (1, [.ref tn1, .ref bn1, .int (bI neg1), .int (iI pw1)])), (h2, .inr (1, [.ref tn2, .ref bn2, .int (bI neg2), .int (iI pw2)])), (ln, .inr (0, [.ref la, .int (iI k3_2)])), (la, .inl (E.1, 224, .inl (ia g3_1))), (tn1, .inr (0, [.ref ta1, .int (iI tk1)])), (ta1, .inl (E.1, 224, .inl (ia tg1))), (bn2, .inr (0, [.ref ba2, .int (iI bk2)])), (ba2, .inl (E.1, 224, .inl (ia bg2))), (rn, .inr (0, [.ref ra, .int (iI k3_5)])), (ra, .inl (E.1, 224, .inl (ia g3_4))), (tn2, .inr (0, [.ref ta2, .int (iI tk2)])), (ta2, .inl (E.1, 224, .inl (ia tg2))), (bn1, .inr (0, [.ref ba1, .int (iI bk1)])), (ba1, .inl (E.1, 224, .inl (ia bg1)))] := hD
  have hw : (NatOK g3_4 k3_5 (v2 * b1)) := hw
  have hO_6 := hw
  refine W.cs (g := F0 m 30 ls []) (cells' := 0) (slots' := 0) rfl rfl ?_
  refine lv_aload_n hx hb d_Arithmetic_compareSizes_30 rfl (lv_at hl 1 rfl) ?_
  refine wk_get B hP 1 rfl fl_Arithmetic_49 (v := .int (iI pw1)) rfl d_Arithmetic_compareSizes_31 ?_
  refine lv_aload_n hx hb d_Arithmetic_compareSizes_34 rfl (lv_at hl 2 rfl) ?_
  refine wk_get B hP 2 rfl fl_Arithmetic_49 (v := .int (iI pw2)) rfl d_Arithmetic_compareSizes_35 ?_
  refine wi_isub hx hb d_Arithmetic_compareSizes_38 ?_
  refine lv_istore_n (lv' := [(3, .int (iI (pw1 - pw2))), (0, .ref h), (1, .ref h1), (2, .ref h2)]) hx hb d_Arithmetic_compareSizes_39 rfl hl (by decide) rfl (fun ls hl => ?_)
  refine lv_aload_n hx hb d_Arithmetic_compareSizes_40 rfl (lv_at hl 1 rfl) ?_
  refine wk_get B hP 0 rfl fl_Arithmetic_12 (v := .ref ln) rfl d_Arithmetic_compareSizes_41 ?_
  refine wk_callV (As := []) (rest := []) (wr := [(h, .inr (2, [.ref ln, .ref rn, .long (lI quo), .int (bI inx)])), (h1, .inr (1, [.ref tn1, .ref bn1, .int (bI neg1), .int (iI pw1)])), (h2, .inr (1, [.ref tn2, .ref bn2, .int (bI neg2), .int (iI pw2)])), (tn1, .inr (0, [.ref ta1, .int (iI tk1)])), (ta1, .inl (E.1, 224, .inl (ia tg1))), (bn2, .inr (0, [.ref ba2, .int (iI bk2)])), (ba2, .inl (E.1, 224, .inl (ia bg2))), (rn, .inr (0, [.ref ra, .int (iI k3_5)])), (ra, .inl (E.1, 224, .inl (ia g3_4))), (tn2, .inr (0, [.ref ta2, .int (iI tk2)])), (ta2, .inl (E.1, 224, .inl (ia tg2))), (bn1, .inr (0, [.ref ba1, .int (iI bk1)])), (ba1, .inl (E.1, 224, .inl (ia bg1)))]) B gTB cl_Arithmetic_53 (c_Natural_bits l D E ln la g3_1 k3_2 (v1 * b2) (hO_3)) ⟨⟨rfl, rfl⟩, Nat.le_of_ble_eq_true rfl, Nat.le_of_ble_eq_true rfl⟩ hP hD hS [3, 4] [0, 1, 2, 5, 6, 7, 8, 9, 10, 11, 12, 13, 14] rfl rfl (by decide) 3 rfl rfl rfl ⟨hl.2.1, hl.1⟩ rfl (Nat.le_of_ble_eq_true rfl) d_Arithmetic_compareSizes_44 ⟨Nat.le_of_ble_eq_true rfl, Nat.le_of_ble_eq_true rfl⟩ rfl (fun r1 H locs hw hP hD hS => ?_)
  have hP : va_P D classes [(h, .inr (2, [.ref ln, .ref rn, .long (lI quo), .int (bI inx)])), (h1, .inr (1, [.ref tn1, .ref bn1, .int (bI neg1), .int (iI pw1)])), (h2, .inr (1, [.ref tn2, .ref bn2, .int (bI neg2), .int (iI pw2)])), (tn1, .inr (0, [.ref ta1, .int (iI tk1)])), (ta1, .inl (E.1, 224, .inl (ia tg1))), (bn2, .inr (0, [.ref ba2, .int (iI bk2)])), (ba2, .inl (E.1, 224, .inl (ia bg2))), (rn, .inr (0, [.ref ra, .int (iI k3_5)])), (ra, .inl (E.1, 224, .inl (ia g3_4))), (tn2, .inr (0, [.ref ta2, .int (iI tk2)])), (ta2, .inl (E.1, 224, .inl (ia tg2))), (bn1, .inr (0, [.ref ba1, .int (iI bk1)])), (ba1, .inl (E.1, 224, .inl (ia bg1))), (ln, .inr (0, [.ref la, .int (iI k3_2)])), (la, .inl (E.1, 224, .inl (ia g3_1)))] H := hP
  have hD : va_D A [(h, .inr (2, [.ref ln, .ref rn, .long (lI quo), .int (bI inx)])), (h1, .inr (1, [.ref tn1, .ref bn1, .int (bI neg1), .int (iI pw1)])), (h2, .inr (1, [.ref tn2, .ref bn2, .int (bI neg2), .int (iI pw2)])), (tn1, .inr (0, [.ref ta1, .int (iI tk1)])), (ta1, .inl (E.1, 224, .inl (ia tg1))), (bn2, .inr (0, [.ref ba2, .int (iI bk2)])), (ba2, .inl (E.1, 224, .inl (ia bg2))), (rn, .inr (0, [.ref ra, .int (iI k3_5)])), (ra, .inl (E.1, 224, .inl (ia g3_4))), (tn2, .inr (0, [.ref ta2, .int (iI tk2)])), (ta2, .inl (E.1, 224, .inl (ia tg2))), (bn1, .inr (0, [.ref ba1, .int (iI bk1)])), (ba1, .inl (E.1, 224, .inl (ia bg1))), (ln, .inr (0, [.ref la, .int (iI k3_2)])), (la, .inl (E.1, 224, .inl (ia g3_1)))] := hD
  have hw : (BL (v1 * b2) r1) ∧ (0 ≤ r1 ∧ r1 ≤ 6720) := hw
  obtain ⟨hr1, hr10⟩ := hw
  refine W.cs (g := F0 m 47 ls [.int (iI r1)]) (cells' := 0) (slots' := 0) rfl rfl ?_
  refine lv_iload_n hx hb d_Arithmetic_compareSizes_47 rfl (lv_at hl 0 rfl) ?_
  refine wi_iadd hx hb d_Arithmetic_compareSizes_48 ?_
  refine lv_aload_n hx hb d_Arithmetic_compareSizes_49 rfl (lv_at hl 1 rfl) ?_
  refine wk_get B hP 0 rfl fl_Arithmetic_18 (v := .ref rn) rfl d_Arithmetic_compareSizes_50 ?_
  refine wk_callV (As := []) (rest := [.int (iI (r1 + (pw1 - pw2)))]) (wr := [(h, .inr (2, [.ref ln, .ref rn, .long (lI quo), .int (bI inx)])), (h1, .inr (1, [.ref tn1, .ref bn1, .int (bI neg1), .int (iI pw1)])), (h2, .inr (1, [.ref tn2, .ref bn2, .int (bI neg2), .int (iI pw2)])), (tn1, .inr (0, [.ref ta1, .int (iI tk1)])), (ta1, .inl (E.1, 224, .inl (ia tg1))), (bn2, .inr (0, [.ref ba2, .int (iI bk2)])), (ba2, .inl (E.1, 224, .inl (ia bg2))), (tn2, .inr (0, [.ref ta2, .int (iI tk2)])), (ta2, .inl (E.1, 224, .inl (ia tg2))), (bn1, .inr (0, [.ref ba1, .int (iI bk1)])), (ba1, .inl (E.1, 224, .inl (ia bg1))), (ln, .inr (0, [.ref la, .int (iI k3_2)])), (la, .inl (E.1, 224, .inl (ia g3_1)))]) B gTB cl_Arithmetic_53 (c_Natural_bits l D E rn ra g3_4 k3_5 (v2 * b1) (hO_6)) ⟨⟨rfl, rfl⟩, Nat.le_of_ble_eq_true rfl, Nat.le_of_ble_eq_true rfl⟩ hP hD hS [7, 8] [0, 1, 2, 3, 4, 5, 6, 9, 10, 11, 12, 13, 14] rfl rfl (by decide) 7 rfl rfl rfl ⟨hl.2.1, hl.1⟩ rfl (Nat.le_of_ble_eq_true rfl) d_Arithmetic_compareSizes_53 ⟨Nat.le_of_ble_eq_true rfl, Nat.le_of_ble_eq_true rfl⟩ rfl (fun r2 H locs hw hP hD hS => ?_)
  have hP : va_P D classes [(h, .inr (2, [.ref ln, .ref rn, .long (lI quo), .int (bI inx)])), (h1, .inr (1, [.ref tn1, .ref bn1, .int (bI neg1), .int (iI pw1)])), (h2, .inr (1, [.ref tn2, .ref bn2, .int (bI neg2), .int (iI pw2)])), (tn1, .inr (0, [.ref ta1, .int (iI tk1)])), (ta1, .inl (E.1, 224, .inl (ia tg1))), (bn2, .inr (0, [.ref ba2, .int (iI bk2)])), (ba2, .inl (E.1, 224, .inl (ia bg2))), (tn2, .inr (0, [.ref ta2, .int (iI tk2)])), (ta2, .inl (E.1, 224, .inl (ia tg2))), (bn1, .inr (0, [.ref ba1, .int (iI bk1)])), (ba1, .inl (E.1, 224, .inl (ia bg1))), (ln, .inr (0, [.ref la, .int (iI k3_2)])), (la, .inl (E.1, 224, .inl (ia g3_1))), (rn, .inr (0, [.ref ra, .int (iI k3_5)])), (ra, .inl (E.1, 224, .inl (ia g3_4)))] H := hP
  have hD : va_D A [(h, .inr (2, [.ref ln, .ref rn, .long (lI quo), .int (bI inx)])), (h1, .inr (1, [.ref tn1, .ref bn1, .int (bI neg1), .int (iI pw1)])), (h2, .inr (1, [.ref tn2, .ref bn2, .int (bI neg2), .int (iI pw2)])), (tn1, .inr (0, [.ref ta1, .int (iI tk1)])), (ta1, .inl (E.1, 224, .inl (ia tg1))), (bn2, .inr (0, [.ref ba2, .int (iI bk2)])), (ba2, .inl (E.1, 224, .inl (ia bg2))), (tn2, .inr (0, [.ref ta2, .int (iI tk2)])), (ta2, .inl (E.1, 224, .inl (ia tg2))), (bn1, .inr (0, [.ref ba1, .int (iI bk1)])), (ba1, .inl (E.1, 224, .inl (ia bg1))), (ln, .inr (0, [.ref la, .int (iI k3_2)])), (la, .inl (E.1, 224, .inl (ia g3_1))), (rn, .inr (0, [.ref ra, .int (iI k3_5)])), (ra, .inl (E.1, 224, .inl (ia g3_4)))] := hD
  have hw : (BL (v2 * b1) r2) ∧ (0 ≤ r2 ∧ r2 ≤ 6720) := hw
  obtain ⟨hr2, hr20⟩ := hw
  refine W.cs (g := F0 m 56 ls [.int (iI r2), .int (iI (r1 + (pw1 - pw2)))]) (cells' := 0) (slots' := 0) rfl rfl ?_
  refine wi_isub hx hb d_Arithmetic_compareSizes_56 ?_
  refine lv_istore (lv' := [(4, .int (iI (r1 + (pw1 - pw2) - r2))), (3, .int (iI (pw1 - pw2))), (0, .ref h), (1, .ref h1), (2, .ref h2)]) hx hb d_Arithmetic_compareSizes_57 hl (by decide) rfl (fun ls hl => ?_)
  refine lv_iload hx hb d_Arithmetic_compareSizes_59 (lv_at hl 0 rfl) ?_
  refine wi_if_eq (tgt := 67) hx hb d_Arithmetic_compareSizes_61 (by decide) (by omega) (fun c_7 => ?_) (fun c_7 => ?_)
  · skip
    refine lv_aload_n hx hb d_Arithmetic_compareSizes_67 rfl (lv_at hl 2 rfl) ?_
    refine wk_get B hP 0 rfl fl_Arithmetic_12 (v := .ref ln) rfl d_Arithmetic_compareSizes_68 ?_
    refine lv_iload_n hx hb d_Arithmetic_compareSizes_71 rfl (lv_at hl 1 rfl) ?_
    refine wk_callV (As := [.int (iI (pw1 - pw2))]) (rest := []) (wr := [(h, .inr (2, [.ref ln, .ref rn, .long (lI quo), .int (bI inx)])), (h1, .inr (1, [.ref tn1, .ref bn1, .int (bI neg1), .int (iI pw1)])), (h2, .inr (1, [.ref tn2, .ref bn2, .int (bI neg2), .int (iI pw2)])), (tn1, .inr (0, [.ref ta1, .int (iI tk1)])), (ta1, .inl (E.1, 224, .inl (ia tg1))), (bn2, .inr (0, [.ref ba2, .int (iI bk2)])), (ba2, .inl (E.1, 224, .inl (ia bg2))), (tn2, .inr (0, [.ref ta2, .int (iI tk2)])), (ta2, .inl (E.1, 224, .inl (ia tg2))), (bn1, .inr (0, [.ref ba1, .int (iI bk1)])), (ba1, .inl (E.1, 224, .inl (ia bg1))), (rn, .inr (0, [.ref ra, .int (iI k3_5)])), (ra, .inl (E.1, 224, .inl (ia g3_4)))]) B gTB cl_Arithmetic_56 (c_Natural_shiftLeft l D E ln la g3_1 k3_2 (pw1 - pw2) (v1 * b2) (hO_3) (by omega) (cs_fit (q := r2) hx1 hr1 hr10 hr20 (by omega))) ⟨⟨rfl, rfl⟩, Nat.le_of_ble_eq_true rfl, Nat.le_of_ble_eq_true rfl⟩ hP hD hS [11, 12] [0, 1, 2, 3, 4, 5, 6, 7, 8, 9, 10, 13, 14] rfl rfl (by decide) 11 rfl rfl rfl ⟨hl.2.1, hl.1⟩ rfl (Nat.le_of_ble_eq_true rfl) d_Arithmetic_compareSizes_72 ⟨Nat.le_of_ble_eq_true rfl, Nat.le_of_ble_eq_true rfl⟩ rfl (fun u H locs hw hP hD hS => ?_)
    obtain ⟨g3_8, k3_9⟩ := u
    have hP : va_P D classes [(h, .inr (2, [.ref ln, .ref rn, .long (lI quo), .int (bI inx)])), (h1, .inr (1, [.ref tn1, .ref bn1, .int (bI neg1), .int (iI pw1)])), (h2, .inr (1, [.ref tn2, .ref bn2, .int (bI neg2), .int (iI pw2)])), (tn1, .inr (0, [.ref ta1, .int (iI tk1)])), (ta1, .inl (E.1, 224, .inl (ia tg1))), (bn2, .inr (0, [.ref ba2, .int (iI bk2)])), (ba2, .inl (E.1, 224, .inl (ia bg2))), (tn2, .inr (0, [.ref ta2, .int (iI tk2)])), (ta2, .inl (E.1, 224, .inl (ia tg2))), (bn1, .inr (0, [.ref ba1, .int (iI bk1)])), (ba1, .inl (E.1, 224, .inl (ia bg1))), (rn, .inr (0, [.ref ra, .int (iI k3_5)])), (ra, .inl (E.1, 224, .inl (ia g3_4))), (ln, .inr (0, [.ref la, .int (iI k3_9)])), (la, .inl (E.1, 224, .inl (ia g3_8)))] H := hP
    have hD : va_D A [(h, .inr (2, [.ref ln, .ref rn, .long (lI quo), .int (bI inx)])), (h1, .inr (1, [.ref tn1, .ref bn1, .int (bI neg1), .int (iI pw1)])), (h2, .inr (1, [.ref tn2, .ref bn2, .int (bI neg2), .int (iI pw2)])), (tn1, .inr (0, [.ref ta1, .int (iI tk1)])), (ta1, .inl (E.1, 224, .inl (ia tg1))), (bn2, .inr (0, [.ref ba2, .int (iI bk2)])), (ba2, .inl (E.1, 224, .inl (ia bg2))), (tn2, .inr (0, [.ref ta2, .int (iI tk2)])), (ta2, .inl (E.1, 224, .inl (ia tg2))), (bn1, .inr (0, [.ref ba1, .int (iI bk1)])), (ba1, .inl (E.1, 224, .inl (ia bg1))), (rn, .inr (0, [.ref ra, .int (iI k3_5)])), (ra, .inl (E.1, 224, .inl (ia g3_4))), (ln, .inr (0, [.ref la, .int (iI k3_9)])), (la, .inl (E.1, 224, .inl (ia g3_8)))] := hD
    have hw : (NatOK g3_8 k3_9 ((v1 * b2) * P2 (pw1 - pw2))) := hw
    have hO_10 := hw
    refine W.cs (g := F0 m 75 ls []) (cells' := 0) (slots' := 0) rfl rfl ?_
    refine lv_aload_n hx hb d_Arithmetic_compareSizes_75 rfl (lv_at hl 2 rfl) ?_
    refine wk_get B hP 0 rfl fl_Arithmetic_18 (v := .ref rn) rfl d_Arithmetic_compareSizes_76 ?_
    refine lv_iload_n hx hb d_Arithmetic_compareSizes_79 rfl (lv_at hl 1 rfl) ?_
    refine wi_ineg hx hb d_Arithmetic_compareSizes_80 ?_
    refine wk_callV (As := [.int (iI (-(pw1 - pw2)))]) (rest := []) (wr := [(h, .inr (2, [.ref ln, .ref rn, .long (lI quo), .int (bI inx)])), (h1, .inr (1, [.ref tn1, .ref bn1, .int (bI neg1), .int (iI pw1)])), (h2, .inr (1, [.ref tn2, .ref bn2, .int (bI neg2), .int (iI pw2)])), (tn1, .inr (0, [.ref ta1, .int (iI tk1)])), (ta1, .inl (E.1, 224, .inl (ia tg1))), (bn2, .inr (0, [.ref ba2, .int (iI bk2)])), (ba2, .inl (E.1, 224, .inl (ia bg2))), (tn2, .inr (0, [.ref ta2, .int (iI tk2)])), (ta2, .inl (E.1, 224, .inl (ia tg2))), (bn1, .inr (0, [.ref ba1, .int (iI bk1)])), (ba1, .inl (E.1, 224, .inl (ia bg1))), (ln, .inr (0, [.ref la, .int (iI k3_9)])), (la, .inl (E.1, 224, .inl (ia g3_8)))]) B gTB cl_Arithmetic_56 (c_Natural_shiftLeft l D E rn ra g3_4 k3_5 (-(pw1 - pw2)) (v2 * b1) (hO_6) (by omega) (cs_fit (q := r1) hx2 hr2 hr20 hr10 (by omega))) ⟨⟨rfl, rfl⟩, Nat.le_of_ble_eq_true rfl, Nat.le_of_ble_eq_true rfl⟩ hP hD hS [11, 12] [0, 1, 2, 3, 4, 5, 6, 7, 8, 9, 10, 13, 14] rfl rfl (by decide) 11 rfl rfl rfl ⟨hl.2.1, hl.1⟩ rfl (Nat.le_of_ble_eq_true rfl) d_Arithmetic_compareSizes_81 ⟨Nat.le_of_ble_eq_true rfl, Nat.le_of_ble_eq_true rfl⟩ rfl (fun u H locs hw hP hD hS => ?_)
    obtain ⟨g3_11, k3_12⟩ := u
    have hP : va_P D classes [(h, .inr (2, [.ref ln, .ref rn, .long (lI quo), .int (bI inx)])), (h1, .inr (1, [.ref tn1, .ref bn1, .int (bI neg1), .int (iI pw1)])), (h2, .inr (1, [.ref tn2, .ref bn2, .int (bI neg2), .int (iI pw2)])), (tn1, .inr (0, [.ref ta1, .int (iI tk1)])), (ta1, .inl (E.1, 224, .inl (ia tg1))), (bn2, .inr (0, [.ref ba2, .int (iI bk2)])), (ba2, .inl (E.1, 224, .inl (ia bg2))), (tn2, .inr (0, [.ref ta2, .int (iI tk2)])), (ta2, .inl (E.1, 224, .inl (ia tg2))), (bn1, .inr (0, [.ref ba1, .int (iI bk1)])), (ba1, .inl (E.1, 224, .inl (ia bg1))), (ln, .inr (0, [.ref la, .int (iI k3_9)])), (la, .inl (E.1, 224, .inl (ia g3_8))), (rn, .inr (0, [.ref ra, .int (iI k3_12)])), (ra, .inl (E.1, 224, .inl (ia g3_11)))] H := hP
    have hD : va_D A [(h, .inr (2, [.ref ln, .ref rn, .long (lI quo), .int (bI inx)])), (h1, .inr (1, [.ref tn1, .ref bn1, .int (bI neg1), .int (iI pw1)])), (h2, .inr (1, [.ref tn2, .ref bn2, .int (bI neg2), .int (iI pw2)])), (tn1, .inr (0, [.ref ta1, .int (iI tk1)])), (ta1, .inl (E.1, 224, .inl (ia tg1))), (bn2, .inr (0, [.ref ba2, .int (iI bk2)])), (ba2, .inl (E.1, 224, .inl (ia bg2))), (tn2, .inr (0, [.ref ta2, .int (iI tk2)])), (ta2, .inl (E.1, 224, .inl (ia tg2))), (bn1, .inr (0, [.ref ba1, .int (iI bk1)])), (ba1, .inl (E.1, 224, .inl (ia bg1))), (ln, .inr (0, [.ref la, .int (iI k3_9)])), (la, .inl (E.1, 224, .inl (ia g3_8))), (rn, .inr (0, [.ref ra, .int (iI k3_12)])), (ra, .inl (E.1, 224, .inl (ia g3_11)))] := hD
    have hw : (NatOK g3_11 k3_12 ((v2 * b1) * P2 (-(pw1 - pw2)))) := hw
    have hO_13 := hw
    refine W.cs (g := F0 m 84 ls []) (cells' := 0) (slots' := 0) rfl rfl ?_
    refine lv_aload_n hx hb d_Arithmetic_compareSizes_84 rfl (lv_at hl 2 rfl) ?_
    refine wk_get B hP 0 rfl fl_Arithmetic_12 (v := .ref ln) rfl d_Arithmetic_compareSizes_85 ?_
    refine lv_aload_n hx hb d_Arithmetic_compareSizes_88 rfl (lv_at hl 2 rfl) ?_
    refine wk_get B hP 0 rfl fl_Arithmetic_18 (v := .ref rn) rfl d_Arithmetic_compareSizes_89 ?_
    refine wi_iconst (n := 0) hx hb d_Arithmetic_compareSizes_92 ?_
    refine wk_callV (As := [.ref rn, .int (iI 0)]) (rest := []) (wr := [(h, .inr (2, [.ref ln, .ref rn, .long (lI quo), .int (bI inx)])), (h1, .inr (1, [.ref tn1, .ref bn1, .int (bI neg1), .int (iI pw1)])), (h2, .inr (1, [.ref tn2, .ref bn2, .int (bI neg2), .int (iI pw2)])), (tn1, .inr (0, [.ref ta1, .int (iI tk1)])), (ta1, .inl (E.1, 224, .inl (ia tg1))), (bn2, .inr (0, [.ref ba2, .int (iI bk2)])), (ba2, .inl (E.1, 224, .inl (ia bg2))), (tn2, .inr (0, [.ref ta2, .int (iI tk2)])), (ta2, .inl (E.1, 224, .inl (ia tg2))), (bn1, .inr (0, [.ref ba1, .int (iI bk1)])), (ba1, .inl (E.1, 224, .inl (ia bg1)))]) B gTB cl_Arithmetic_60 (c_Natural_compareWith l D E ln la g3_8 k3_9 rn ra g3_11 k3_12 0 ((v1 * b2) * P2 (pw1 - pw2)) ((v2 * b1) * P2 (-(pw1 - pw2))) (hO_10) (hO_13) (by omega) (Or.inl rfl)) ⟨⟨rfl, rfl⟩, Nat.le_of_ble_eq_true rfl, Nat.le_of_ble_eq_true rfl⟩ hP hD hS [11, 12, 13, 14] [0, 1, 2, 3, 4, 5, 6, 7, 8, 9, 10] rfl rfl (by decide) 11 rfl rfl rfl ⟨hl.2.1, hl.1⟩ rfl (Nat.le_of_ble_eq_true rfl) d_Arithmetic_compareSizes_93 ⟨Nat.le_of_ble_eq_true rfl, Nat.le_of_ble_eq_true rfl⟩ rfl (fun rc H locs hw hP hD hS => ?_)
    have hP : va_P D classes [(h, .inr (2, [.ref ln, .ref rn, .long (lI quo), .int (bI inx)])), (h1, .inr (1, [.ref tn1, .ref bn1, .int (bI neg1), .int (iI pw1)])), (h2, .inr (1, [.ref tn2, .ref bn2, .int (bI neg2), .int (iI pw2)])), (tn1, .inr (0, [.ref ta1, .int (iI tk1)])), (ta1, .inl (E.1, 224, .inl (ia tg1))), (bn2, .inr (0, [.ref ba2, .int (iI bk2)])), (ba2, .inl (E.1, 224, .inl (ia bg2))), (tn2, .inr (0, [.ref ta2, .int (iI tk2)])), (ta2, .inl (E.1, 224, .inl (ia tg2))), (bn1, .inr (0, [.ref ba1, .int (iI bk1)])), (ba1, .inl (E.1, 224, .inl (ia bg1))), (ln, .inr (0, [.ref la, .int (iI k3_9)])), (la, .inl (E.1, 224, .inl (ia g3_8))), (rn, .inr (0, [.ref ra, .int (iI k3_12)])), (ra, .inl (E.1, 224, .inl (ia g3_11)))] H := hP
    have hD : va_D A [(h, .inr (2, [.ref ln, .ref rn, .long (lI quo), .int (bI inx)])), (h1, .inr (1, [.ref tn1, .ref bn1, .int (bI neg1), .int (iI pw1)])), (h2, .inr (1, [.ref tn2, .ref bn2, .int (bI neg2), .int (iI pw2)])), (tn1, .inr (0, [.ref ta1, .int (iI tk1)])), (ta1, .inl (E.1, 224, .inl (ia tg1))), (bn2, .inr (0, [.ref ba2, .int (iI bk2)])), (ba2, .inl (E.1, 224, .inl (ia bg2))), (tn2, .inr (0, [.ref ta2, .int (iI tk2)])), (ta2, .inl (E.1, 224, .inl (ia tg2))), (bn1, .inr (0, [.ref ba1, .int (iI bk1)])), (ba1, .inl (E.1, 224, .inl (ia bg1))), (ln, .inr (0, [.ref la, .int (iI k3_9)])), (la, .inl (E.1, 224, .inl (ia g3_8))), (rn, .inr (0, [.ref ra, .int (iI k3_12)])), (ra, .inl (E.1, 224, .inl (ia g3_11)))] := hD
    have hw : (CmpR rc ((v1 * b2) * P2 (pw1 - pw2)) (((v2 * b1) * P2 (-(pw1 - pw2))) * PB 0)) := hw
    have hcm := hw
    refine W.cs (g := F0 m 96 ls [.int (iI rc)]) (cells' := 0) (slots' := 0) rfl rfl ?_
    exact ret (g3_8, g3_11, k3_9, k3_12, rc) _ _ _ _ d_Arithmetic_compareSizes_96 (show (CmpR rc (v1 * b2 * P2 (pw1 - pw2)) (v2 * b1 * P2 (-(pw1 - pw2)))) from (by rw [PB_0, Int.mul_one] at hcm; exact hcm)) (hP.sub [0, 11, 12, 13, 14, 1, 3, 4, 9, 10, 2, 7, 8, 5, 6] rfl) (hD.sub [0, 11, 12, 13, 14, 1, 3, 4, 9, 10, 2, 7, 8, 5, 6] (by decide) rfl) hS
  · skip
    refine lv_iload hx hb d_Arithmetic_compareSizes_64 (lv_at hl 0 rfl) ?_
    exact ret (g3_1, g3_4, k3_2, k3_5, r1 + (pw1 - pw2) - r2) _ _ _ _ d_Arithmetic_compareSizes_66 (show (CmpR (r1 + (pw1 - pw2) - r2) (v1 * b2 * P2 (pw1 - pw2)) (v2 * b1 * P2 (-(pw1 - pw2)))) from (cs_gap hx1 hx2 hr1 hr2 hr10 hr20 (by omega) c_7)) (hP.sub [0, 11, 12, 13, 14, 1, 3, 4, 9, 10, 2, 7, 8, 5, 6] rfl) (hD.sub [0, 11, 12, 13, 14, 1, 3, 4, 9, 10, 2, 7, 8, 5, 6] (by decide) rfl) hS
set_option maxHeartbeats 4000000 in
set_option maxRecDepth 100000 in
theorem c_Arithmetic_isAbove (l : Launch) (D : va_G) (E : EVt) (h : Nat) (ln : Nat) (la : Nat) (rn : Nat) (ra : Nat) (lg : Int → Int) (rg : Int → Int) (lk : Int) (rk : Int) (quo : Int) (inx : Bool) (h1 : Nat) (tn1 : Nat) (ta1 : Nat) (bn1 : Nat) (ba1 : Nat) (tg1 : Int → Int) (bg1 : Int → Int) (tk1 : Int) (bk1 : Int) (pw1 : Int) (neg1 : Bool) (h2 : Nat) (tn2 : Nat) (ta2 : Nat) (bn2 : Nat) (ba2 : Nat) (tg2 : Int → Int) (bg2 : Int → Int) (tk2 : Int) (bk2 : Int) (pw2 : Int) (neg2 : Bool) (v1 : Int) (b1 : Int) (v2 : Int) (b2 : Int) (hT1 : NatOK tg1 tk1 v1) (hB1 : NatOK bg1 bk1 b1) (hT2 : NatOK tg2 tk2 v2) (hB2 : NatOK bg2 bk2 b2) (hb1 : 0 < b1) (hb2 : 0 < b2) (hs1 : tk1 + bk2 ≤ 224) (hs2 : tk2 + bk1 ≤ 224) (hp1 : -100000 ≤ pw1 ∧ pw1 ≤ 100000) (hp2 : -100000 ≤ pw2 ∧ pw2 ≤ 100000) : CT l D classes (tyl E) (EVX E) y_Arithmetic_isAbove (Cond.code y_Arithmetic_isAbove b_Arithmetic_isAbove 4 (some .boolean) :: TB) (rmK 3 0 0 83) 0 0 [.ref h, .ref h1, .ref h2] [(h, .inr (2, [.ref ln, .ref rn, .long (lI quo), .int (bI inx)])), (ln, .inr (0, [.ref la, .int (iI lk)])), (la, .inl (E.1, 224, .inl (ia lg))), (rn, .inr (0, [.ref ra, .int (iI rk)])), (ra, .inl (E.1, 224, .inl (ia rg))), (h1, .inr (1, [.ref tn1, .ref bn1, .int (bI neg1), .int (iI pw1)])), (tn1, .inr (0, [.ref ta1, .int (iI tk1)])), (ta1, .inl (E.1, 224, .inl (ia tg1))), (bn1, .inr (0, [.ref ba1, .int (iI bk1)])), (ba1, .inl (E.1, 224, .inl (ia bg1))), (h2, .inr (1, [.ref tn2, .ref bn2, .int (bI neg2), .int (iI pw2)])), (tn2, .inr (0, [.ref ta2, .int (iI tk2)])), (ta2, .inl (E.1, 224, .inl (ia tg2))), (bn2, .inr (0, [.ref ba2, .int (iI bk2)])), (ba2, .inl (E.1, 224, .inl (ia bg2)))] (S := (Int → Int) × (Int → Int) × Int × Int × Bool) (fun u => [(h, .inr (2, [.ref ln, .ref rn, .long (lI quo), .int (bI inx)])), (ln, .inr (0, [.ref la, .int (iI u.2.2.1)])), (la, .inl (E.1, 224, .inl (ia u.1))), (rn, .inr (0, [.ref ra, .int (iI u.2.2.2.1)])), (ra, .inl (E.1, 224, .inl (ia u.2.1))), (h1, .inr (1, [.ref tn1, .ref bn1, .int (bI neg1), .int (iI pw1)])), (tn1, .inr (0, [.ref ta1, .int (iI tk1)])), (ta1, .inl (E.1, 224, .inl (ia tg1))), (bn1, .inr (0, [.ref ba1, .int (iI bk1)])), (ba1, .inl (E.1, 224, .inl (ia bg1))), (h2, .inr (1, [.ref tn2, .ref bn2, .int (bI neg2), .int (iI pw2)])), (tn2, .inr (0, [.ref ta2, .int (iI tk2)])), (ta2, .inl (E.1, 224, .inl (ia tg2))), (bn2, .inr (0, [.ref ba2, .int (iI bk2)])), (ba2, .inl (E.1, 224, .inl (ia bg2)))]) (fun u => some (.int (bI u.2.2.2.2))) (fun u => (u.2.2.2.2 = true ↔ RGT neg1 v1 b1 pw1 neg2 v2 b2 pw2)) := by
  refine CT.ofz (fv := fun (u : (Int → Int) × (Int → Int) × Int × Int × Bool) => u.2.2.2.2) (eok E) (by decide) rfl (Nat.le_of_ble_eq_true rfl) ?_
  intro p e s m args below meth c A Q ls B hmn hP hD hS hl ret
  have B : Bd l D classes (tyl E) (EVX E) p m c b_Arithmetic_isAbove 4 s args (Cond.code y_Arithmetic_isAbove b_Arithmetic_isAbove 4 (some .boolean) :: TB) R_Arithmetic A := B
  obtain ⟨⟨hx, hb, hml, hown, hts⟩, hX, hK, hE, hA⟩ := id B
  have hl : lv_has ls 4 [(0, .ref h), (1, .ref h1), (2, .ref h2)] := hl
  have hP : va_P D classes [(h, .inr (2, [.ref ln, .ref rn, .long (lI quo), .int (bI inx)])), (ln, .inr (0, [.ref la, .int (iI lk)])), (la, .inl (E.1, 224, .inl (ia lg))), (rn, .inr (0, [.ref ra, .int (iI rk)])), (ra, .inl (E.1, 224, .inl (ia rg))), (h1, .inr (1, [.ref tn1, .ref bn1, .int (bI neg1), .int (iI pw1)])), (tn1, .inr (0, [.ref ta1, .int (iI tk1)])), (ta1, .inl (E.1, 224, .inl (ia tg1))), (bn1, .inr (0, [.ref ba1, .int (iI bk1)])), (ba1, .inl (E.1, 224, .inl (ia bg1))), (h2, .inr (1, [.ref tn2, .ref bn2, .int (bI neg2), .int (iI pw2)])), (tn2, .inr (0, [.ref ta2, .int (iI tk2)])), (ta2, .inl (E.1, 224, .inl (ia tg2))), (bn2, .inr (0, [.ref ba2, .int (iI bk2)])), (ba2, .inl (E.1, 224, .inl (ia bg2)))] s.heap := hP
  have hD : va_D A [(h, .inr (2, [.ref ln, .ref rn, .long (lI quo), .int (bI inx)])), (ln, .inr (0, [.ref la, .int (iI lk)])), (la, .inl (E.1, 224, .inl (ia lg))), (rn, .inr (0, [.ref ra, .int (iI rk)])), (ra, .inl (E.1, 224, .inl (ia rg))), (h1, .inr (1, [.ref tn1, .ref bn1, .int (bI neg1), .int (iI pw1)])), (tn1, .inr (0, [.ref ta1, .int (iI tk1)])), (ta1, .inl (E.1, 224, .inl (ia tg1))), (bn1, .inr (0, [.ref ba1, .int (iI bk1)])), (ba1, .inl (E.1, 224, .inl (ia bg1))), (h2, .inr (1, [.ref tn2, .ref bn2, .int (bI neg2), .int (iI pw2)])), (tn2, .inr (0, [.ref ta2, .int (iI tk2)])), (ta2, .inl (E.1, 224, .inl (ia tg2))), (bn2, .inr (0, [.ref ba2, .int (iI bk2)])), (ba2, .inl (E.1, 224, .inl (ia bg2)))] := hD
  have hn1 := sgnR_rng neg1 v1
  have hn2 := sgnR_rng neg2 v2
  have hc1 := sgnR_cases (n := neg1) hT1.bd.1
  have hc2 := sgnR_cases (n := neg2) hT2.bd.1
  refine lv_aload_n hx hb d_Arithmetic_isAbove_0 rfl (lv_at hl 1 rfl) ?_
  refine wk_callV (As := []) (rest := []) (wr := [(h, .inr (2, [.ref ln, .ref rn, .long (lI quo), .int (bI inx)])), (ln, .inr (0, [.ref la, .int (iI lk)])), (la, .inl (E.1, 224, .inl (ia lg))), (rn, .inr (0, [.ref ra, .int (iI rk)])), (ra, .inl (E.1, 224, .inl (ia rg))), (bn1, .inr (0, [.ref ba1, .int (iI bk1)])), (ba1, .inl (E.1, 224, .inl (ia bg1))), (h2, .inr (1, [.ref tn2, .ref bn2, .int (bI neg2), .int (iI pw2)])), (tn2, .inr (0, [.ref ta2, .int (iI tk2)])), (ta2, .inl (E.1, 224, .inl (ia tg2))), (bn2, .inr (0, [.ref ba2, .int (iI bk2)])), (ba2, .inl (E.1, 224, .inl (ia bg2)))]) B gTB cl_Arithmetic_29 (c_Ratio_sign l D E h1 tn1 ta1 bn1 tg1 tk1 pw1 v1 neg1 (hT1)) ⟨⟨rfl, rfl⟩, Nat.le_of_ble_eq_true rfl, Nat.le_of_ble_eq_true rfl⟩ hP hD hS [5, 6, 7] [0, 1, 2, 3, 4, 8, 9, 10, 11, 12, 13, 14] rfl rfl (by decide) 5 rfl rfl rfl ⟨hl.2.1, hl.1⟩ rfl (Nat.le_of_ble_eq_true rfl) d_Arithmetic_isAbove_1 ⟨Nat.le_of_ble_eq_true rfl, Nat.le_of_ble_eq_true rfl⟩ rfl (fun r_1 H locs hw hP hD hS => ?_)
  have hP : va_P D classes [(h, .inr (2, [.ref ln, .ref rn, .long (lI quo), .int (bI inx)])), (ln, .inr (0, [.ref la, .int (iI lk)])), (la, .inl (E.1, 224, .inl (ia lg))), (rn, .inr (0, [.ref ra, .int (iI rk)])), (ra, .inl (E.1, 224, .inl (ia rg))), (bn1, .inr (0, [.ref ba1, .int (iI bk1)])), (ba1, .inl (E.1, 224, .inl (ia bg1))), (h2, .inr (1, [.ref tn2, .ref bn2, .int (bI neg2), .int (iI pw2)])), (tn2, .inr (0, [.ref ta2, .int (iI tk2)])), (ta2, .inl (E.1, 224, .inl (ia tg2))), (bn2, .inr (0, [.ref ba2, .int (iI bk2)])), (ba2, .inl (E.1, 224, .inl (ia bg2))), (h1, .inr (1, [.ref tn1, .ref bn1, .int (bI neg1), .int (iI pw1)])), (tn1, .inr (0, [.ref ta1, .int (iI tk1)])), (ta1, .inl (E.1, 224, .inl (ia tg1)))] H := hP
  have hD : va_D A [(h, .inr (2, [.ref ln, .ref rn, .long (lI quo), .int (bI inx)])), (ln, .inr (0, [.ref la, .int (iI lk)])), (la, .inl (E.1, 224, .inl (ia lg))), (rn, .inr (0, [.ref ra, .int (iI rk)])), (ra, .inl (E.1, 224, .inl (ia rg))), (bn1, .inr (0, [.ref ba1, .int (iI bk1)])), (ba1, .inl (E.1, 224, .inl (ia bg1))), (h2, .inr (1, [.ref tn2, .ref bn2, .int (bI neg2), .int (iI pw2)])), (tn2, .inr (0, [.ref ta2, .int (iI tk2)])), (ta2, .inl (E.1, 224, .inl (ia tg2))), (bn2, .inr (0, [.ref ba2, .int (iI bk2)])), (ba2, .inl (E.1, 224, .inl (ia bg2))), (h1, .inr (1, [.ref tn1, .ref bn1, .int (bI neg1), .int (iI pw1)])), (tn1, .inr (0, [.ref ta1, .int (iI tk1)])), (ta1, .inl (E.1, 224, .inl (ia tg1)))] := hD
  have hw : (r_1 = sgnR neg1 v1) := hw
  have hr_2 := hw
  refine W.cs (g := F0 m 4 ls [.int (iI r_1)]) (cells' := 0) (slots' := 0) rfl rfl ?_
  subst hr_2
  refine lv_istore_n (lv' := [(3, .int (iI (sgnR neg1 v1))), (0, .ref h), (1, .ref h1), (2, .ref h2)]) hx hb d_Arithmetic_isAbove_4 rfl hl (by decide) rfl (fun ls hl => ?_)
  refine lv_iload_n hx hb d_Arithmetic_isAbove_5 rfl (lv_at hl 0 rfl) ?_
  refine lv_aload_n hx hb d_Arithmetic_isAbove_6 rfl (lv_at hl 3 rfl) ?_
  refine wk_callV (As := []) (rest := [.int (iI (sgnR neg1 v1))]) (wr := [(h, .inr (2, [.ref ln, .ref rn, .long (lI quo), .int (bI inx)])), (ln, .inr (0, [.ref la, .int (iI lk)])), (la, .inl (E.1, 224, .inl (ia lg))), (rn, .inr (0, [.ref ra, .int (iI rk)])), (ra, .inl (E.1, 224, .inl (ia rg))), (bn1, .inr (0, [.ref ba1, .int (iI bk1)])), (ba1, .inl (E.1, 224, .inl (ia bg1))), (bn2, .inr (0, [.ref ba2, .int (iI bk2)])), (ba2, .inl (E.1, 224, .inl (ia bg2))), (h1, .inr (1, [.ref tn1, .ref bn1, .int (bI neg1), .int (iI pw1)])), (tn1, .inr (0, [.ref ta1, .int (iI tk1)])), (ta1, .inl (E.1, 224, .inl (ia tg1)))]) B gTB cl_Arithmetic_29 (c_Ratio_sign l D E h2 tn2 ta2 bn2 tg2 tk2 pw2 v2 neg2 (hT2)) ⟨⟨rfl, rfl⟩, Nat.le_of_ble_eq_true rfl, Nat.le_of_ble_eq_true rfl⟩ hP hD hS [7, 8, 9] [0, 1, 2, 3, 4, 5, 6, 10, 11, 12, 13, 14] rfl rfl (by decide) 7 rfl rfl rfl ⟨hl.2.1, hl.1⟩ rfl (Nat.le_of_ble_eq_true rfl) d_Arithmetic_isAbove_7 ⟨Nat.le_of_ble_eq_true rfl, Nat.le_of_ble_eq_true rfl⟩ rfl (fun r_3 H locs hw hP hD hS => ?_)
  have hP : va_P D classes [(h, .inr (2, [.ref ln, .ref rn, .long (lI quo), .int (bI inx)])), (ln, .inr (0, [.ref la, .int (iI lk)])), (la, .inl (E.1, 224, .inl (ia lg))), (rn, .inr (0, [.ref ra, .int (iI rk)])), (ra, .inl (E.1, 224, .inl (ia rg))), (bn1, .inr (0, [.ref ba1, .int (iI bk1)])), (ba1, .inl (E.1, 224, .inl (ia bg1))), (bn2, .inr (0, [.ref ba2, .int (iI bk2)])), (ba2, .inl (E.1, 224, .inl (ia bg2))), (h1, .inr (1, [.ref tn1, .ref bn1, .int (bI neg1), .int (iI pw1)])), (tn1, .inr (0, [.ref ta1, .int (iI tk1)])), (ta1, .inl (E.1, 224, .inl (ia tg1))), (h2, .inr (1, [.ref tn2, .ref bn2, .int (bI neg2), .int (iI pw2)])), (tn2, .inr (0, [.ref ta2, .int (iI tk2)])), (ta2, .inl (E.1, 224, .inl (ia tg2)))] H := hP
  have hD : va_D A [(h, .inr (2, [.ref ln, .ref rn, .long (lI quo), .int (bI inx)])), (ln, .inr (0, [.ref la, .int (iI lk)])), (la, .inl (E.1, 224, .inl (ia lg))), (rn, .inr (0, [.ref ra, .int (iI rk)])), (ra, .inl (E.1, 224, .inl (ia rg))), (bn1, .inr (0, [.ref ba1, .int (iI bk1)])), (ba1, .inl (E.1, 224, .inl (ia bg1))), (bn2, .inr (0, [.ref ba2, .int (iI bk2)])), (ba2, .inl (E.1, 224, .inl (ia bg2))), (h1, .inr (1, [.ref tn1, .ref bn1, .int (bI neg1), .int (iI pw1)])), (tn1, .inr (0, [.ref ta1, .int (iI tk1)])), (ta1, .inl (E.1, 224, .inl (ia tg1))), (h2, .inr (1, [.ref tn2, .ref bn2, .int (bI neg2), .int (iI pw2)])), (tn2, .inr (0, [.ref ta2, .int (iI tk2)])), (ta2, .inl (E.1, 224, .inl (ia tg2)))] := hD
  have hw : (r_3 = sgnR neg2 v2) := hw
  have hr_4 := hw
  refine W.cs (g := F0 m 10 ls [.int (iI r_3), .int (iI (sgnR neg1 v1))]) (cells' := 0) (slots' := 0) rfl rfl ?_
  subst hr_4
  refine wi_icmp_ne (tgt := 17) hx hb d_Arithmetic_isAbove_10 (by decide) (by omega) (by omega) (fun c_5 => ?_) (fun c_5 => ?_)
  · skip
    have hne : sgnR neg1 v1 ≠ sgnR neg2 v2 ∨ sgnR neg1 v1 = 0 := by omega
    refine lv_iload_n hx hb d_Arithmetic_isAbove_17 rfl (lv_at hl 0 rfl) ?_
    refine lv_aload_n hx hb d_Arithmetic_isAbove_18 rfl (lv_at hl 3 rfl) ?_
    refine wk_callV (As := []) (rest := [.int (iI (sgnR neg1 v1))]) (wr := [(h, .inr (2, [.ref ln, .ref rn, .long (lI quo), .int (bI inx)])), (ln, .inr (0, [.ref la, .int (iI lk)])), (la, .inl (E.1, 224, .inl (ia lg))), (rn, .inr (0, [.ref ra, .int (iI rk)])), (ra, .inl (E.1, 224, .inl (ia rg))), (bn1, .inr (0, [.ref ba1, .int (iI bk1)])), (ba1, .inl (E.1, 224, .inl (ia bg1))), (bn2, .inr (0, [.ref ba2, .int (iI bk2)])), (ba2, .inl (E.1, 224, .inl (ia bg2))), (h1, .inr (1, [.ref tn1, .ref bn1, .int (bI neg1), .int (iI pw1)])), (tn1, .inr (0, [.ref ta1, .int (iI tk1)])), (ta1, .inl (E.1, 224, .inl (ia tg1)))]) B gTB cl_Arithmetic_29 (c_Ratio_sign l D E h2 tn2 ta2 bn2 tg2 tk2 pw2 v2 neg2 (hT2)) ⟨⟨rfl, rfl⟩, Nat.le_of_ble_eq_true rfl, Nat.le_of_ble_eq_true rfl⟩ hP hD hS [12, 13, 14] [0, 1, 2, 3, 4, 5, 6, 7, 8, 9, 10, 11] rfl rfl (by decide) 12 rfl rfl rfl ⟨hl.2.1, hl.1⟩ rfl (Nat.le_of_ble_eq_true rfl) d_Arithmetic_isAbove_19 ⟨Nat.le_of_ble_eq_true rfl, Nat.le_of_ble_eq_true rfl⟩ rfl (fun r_6 H locs hw hP hD hS => ?_)
    have hP : va_P D classes [(h, .inr (2, [.ref ln, .ref rn, .long (lI quo), .int (bI inx)])), (ln, .inr (0, [.ref la, .int (iI lk)])), (la, .inl (E.1, 224, .inl (ia lg))), (rn, .inr (0, [.ref ra, .int (iI rk)])), (ra, .inl (E.1, 224, .inl (ia rg))), (bn1, .inr (0, [.ref ba1, .int (iI bk1)])), (ba1, .inl (E.1, 224, .inl (ia bg1))), (bn2, .inr (0, [.ref ba2, .int (iI bk2)])), (ba2, .inl (E.1, 224, .inl (ia bg2))), (h1, .inr (1, [.ref tn1, .ref bn1, .int (bI neg1), .int (iI pw1)])), (tn1, .inr (0, [.ref ta1, .int (iI tk1)])), (ta1, .inl (E.1, 224, .inl (ia tg1))), (h2, .inr (1, [.ref tn2, .ref bn2, .int (bI neg2), .int (iI pw2)])), (tn2, .inr (0, [.ref ta2, .int (iI tk2)])), (ta2, .inl (E.1, 224, .inl (ia tg2)))] H := hP
    have hD : va_D A [(h, .inr (2, [.ref ln, .ref rn, .long (lI quo), .int (bI inx)])), (ln, .inr (0, [.ref la, .int (iI lk)])), (la, .inl (E.1, 224, .inl (ia lg))), (rn, .inr (0, [.ref ra, .int (iI rk)])), (ra, .inl (E.1, 224, .inl (ia rg))), (bn1, .inr (0, [.ref ba1, .int (iI bk1)])), (ba1, .inl (E.1, 224, .inl (ia bg1))), (bn2, .inr (0, [.ref ba2, .int (iI bk2)])), (ba2, .inl (E.1, 224, .inl (ia bg2))), (h1, .inr (1, [.ref tn1, .ref bn1, .int (bI neg1), .int (iI pw1)])), (tn1, .inr (0, [.ref ta1, .int (iI tk1)])), (ta1, .inl (E.1, 224, .inl (ia tg1))), (h2, .inr (1, [.ref tn2, .ref bn2, .int (bI neg2), .int (iI pw2)])), (tn2, .inr (0, [.ref ta2, .int (iI tk2)])), (ta2, .inl (E.1, 224, .inl (ia tg2)))] := hD
    have hw : (r_6 = sgnR neg2 v2) := hw
    have hr_7 := hw
    refine W.cs (g := F0 m 22 ls [.int (iI r_6), .int (iI (sgnR neg1 v1))]) (cells' := 0) (slots' := 0) rfl rfl ?_
    subst hr_7
    refine wi_icmp_le (tgt := 29) hx hb d_Arithmetic_isAbove_22 (by decide) (by omega) (by omega) (fun c_8 => ?_) (fun c_8 => ?_)
    · skip
      refine wi_iconst (n := 0) hx hb d_Arithmetic_isAbove_29 ?_
      refine w_as0 ?_
      exact ret (lg, rg, lk, rk, false) _ _ _ _ d_Arithmetic_isAbove_30 (show (false = true ↔ RGT neg1 v1 b1 pw1 neg2 v2 b2 pw2) from (by rw [RGT_sign hT1.bd.1 hT2.bd.1 hb1 hb2 hne]; constructor <;> intro z <;> first | omega | (exfalso; revert z; decide) | rfl)) (hP.sub [0, 1, 2, 3, 4, 9, 10, 11, 5, 6, 12, 13, 14, 7, 8] rfl) (hD.sub [0, 1, 2, 3, 4, 9, 10, 11, 5, 6, 12, 13, 14, 7, 8] (by decide) rfl) hS
    · skip
      refine wi_iconst (n := 1) hx hb d_Arithmetic_isAbove_25 ?_
      refine lv_goto (tgt := 30) hx hb d_Arithmetic_isAbove_26 (by decide) ?_
      refine w_as1 ?_
      exact ret (lg, rg, lk, rk, true) _ _ _ _ d_Arithmetic_isAbove_30 (show (true = true ↔ RGT neg1 v1 b1 pw1 neg2 v2 b2 pw2) from (by rw [RGT_sign hT1.bd.1 hT2.bd.1 hb1 hb2 hne]; constructor <;> intro z <;> first | omega | (exfalso; revert z; decide) | rfl)) (hP.sub [0, 1, 2, 3, 4, 9, 10, 11, 5, 6, 12, 13, 14, 7, 8] rfl) (hD.sub [0, 1, 2, 3, 4, 9, 10, 11, 5, 6, 12, 13, 14, 7, 8] (by decide) rfl) hS
  · skip
    refine lv_iload_n hx hb d_Arithmetic_isAbove_13 rfl (lv_at hl 0 rfl) ?_
    refine wi_if_ne (tgt := 31) hx hb d_Arithmetic_isAbove_14 (by decide) (by omega) (fun c_9 => ?_) (fun c_9 => ?_)
    · skip
      refine lv_iload_n hx hb d_Arithmetic_isAbove_31 rfl (lv_at hl 0 rfl) ?_
      refine wi_if_le (tgt := 52) hx hb d_Arithmetic_isAbove_32 (by decide) (by omega) (fun c_10 => ?_) (fun c_10 => ?_)
      · skip
        refine lv_aload_n hx hb d_Arithmetic_isAbove_52 rfl (lv_at hl 1 rfl) ?_
        refine lv_aload_n hx hb d_Arithmetic_isAbove_53 rfl (lv_at hl 2 rfl) ?_
        refine lv_aload_n hx hb d_Arithmetic_isAbove_54 rfl (lv_at hl 3 rfl) ?_
        refine wk_callV (As := [.ref h1, .ref h2]) (rest := []) (wr := []) B gTB cl_Arithmetic_35 (c_Arithmetic_compareSizes l D E h ln la rn ra lg rg lk rk quo inx h1 tn1 ta1 bn1 ba1 tg1 bg1 tk1 bk1 pw1 neg1 h2 tn2 ta2 bn2 ba2 tg2 bg2 tk2 bk2 pw2 neg2 v1 b1 v2 b2 (hT1) (hB1) (hT2) (hB2) (by omega) (by omega) (by omega) (by omega) (by omega) (by omega) (by omega) (by omega)) ⟨⟨rfl, rfl⟩, Nat.le_of_ble_eq_true rfl, Nat.le_of_ble_eq_true rfl⟩ hP hD hS [0, 1, 2, 3, 4, 9, 10, 11, 5, 6, 12, 13, 14, 7, 8] [] rfl rfl (by decide) 0 rfl rfl rfl ⟨hl.2.1, hl.1⟩ rfl (Nat.le_of_ble_eq_true rfl) d_Arithmetic_isAbove_55 ⟨Nat.le_of_ble_eq_true rfl, Nat.le_of_ble_eq_true rfl⟩ rfl (fun u H locs hw hP hD hS => ?_)
        obtain ⟨lg3_11, rg3_12, lk3_13, rk3_14, rc⟩ := u
        have hP : va_P D classes [(h, .inr (2, [.ref ln, .ref rn, .long (lI quo), .int (bI inx)])), (ln, .inr (0, [.ref la, .int (iI lk3_13)])), (la, .inl (E.1, 224, .inl (ia lg3_11))), (rn, .inr (0, [.ref ra, .int (iI rk3_14)])), (ra, .inl (E.1, 224, .inl (ia rg3_12))), (h1, .inr (1, [.ref tn1, .ref bn1, .int (bI neg1), .int (iI pw1)])), (tn1, .inr (0, [.ref ta1, .int (iI tk1)])), (ta1, .inl (E.1, 224, .inl (ia tg1))), (bn1, .inr (0, [.ref ba1, .int (iI bk1)])), (ba1, .inl (E.1, 224, .inl (ia bg1))), (h2, .inr (1, [.ref tn2, .ref bn2, .int (bI neg2), .int (iI pw2)])), (tn2, .inr (0, [.ref ta2, .int (iI tk2)])), (ta2, .inl (E.1, 224, .inl (ia tg2))), (bn2, .inr (0, [.ref ba2, .int (iI bk2)])), (ba2, .inl (E.1, 224, .inl (ia bg2)))] H := hP
        have hD : va_D A [(h, .inr (2, [.ref ln, .ref rn, .long (lI quo), .int (bI inx)])), (ln, .inr (0, [.ref la, .int (iI lk3_13)])), (la, .inl (E.1, 224, .inl (ia lg3_11))), (rn, .inr (0, [.ref ra, .int (iI rk3_14)])), (ra, .inl (E.1, 224, .inl (ia rg3_12))), (h1, .inr (1, [.ref tn1, .ref bn1, .int (bI neg1), .int (iI pw1)])), (tn1, .inr (0, [.ref ta1, .int (iI tk1)])), (ta1, .inl (E.1, 224, .inl (ia tg1))), (bn1, .inr (0, [.ref ba1, .int (iI bk1)])), (ba1, .inl (E.1, 224, .inl (ia bg1))), (h2, .inr (1, [.ref tn2, .ref bn2, .int (bI neg2), .int (iI pw2)])), (tn2, .inr (0, [.ref ta2, .int (iI tk2)])), (ta2, .inl (E.1, 224, .inl (ia tg2))), (bn2, .inr (0, [.ref ba2, .int (iI bk2)])), (ba2, .inl (E.1, 224, .inl (ia bg2)))] := hD
        have hw : (CmpR rc (v1 * b2 * P2 (pw1 - pw2)) (v2 * b1 * P2 (-(pw1 - pw2)))) := hw
        have hcn := hw
        refine W.cs (g := F0 m 58 ls [.int (iI rc)]) (cells' := 0) (slots' := 0) rfl rfl ?_
        have hrr := hcn.1
        refine wi_if_ge (tgt := 65) hx hb d_Arithmetic_isAbove_58 (by decide) (by omega) (fun c_15 => ?_) (fun c_15 => ?_)
        · skip
          refine wi_iconst (n := 0) hx hb d_Arithmetic_isAbove_65 ?_
          refine w_as0 ?_
          exact ret (lg3_11, rg3_12, lk3_13, rk3_14, false) _ _ _ _ d_Arithmetic_isAbove_66 (show (false = true ↔ RGT neg1 v1 b1 pw1 neg2 v2 b2 pw2) from (by rw [RGT_neg hT1.bd.1 hT2.bd.1 (by omega) (by omega) hcn]; constructor <;> intro z <;> first | omega | (exfalso; revert z; decide) | rfl)) (hP.sub [0, 1, 2, 3, 4, 5, 6, 7, 8, 9, 10, 11, 12, 13, 14] rfl) (hD.sub [0, 1, 2, 3, 4, 5, 6, 7, 8, 9, 10, 11, 12, 13, 14] (by decide) rfl) hS
        · skip
          refine wi_iconst (n := 1) hx hb d_Arithmetic_isAbove_61 ?_
          refine lv_goto (tgt := 66) hx hb d_Arithmetic_isAbove_62 (by decide) ?_
          refine w_as1 ?_
          exact ret (lg3_11, rg3_12, lk3_13, rk3_14, true) _ _ _ _ d_Arithmetic_isAbove_66 (show (true = true ↔ RGT neg1 v1 b1 pw1 neg2 v2 b2 pw2) from (by rw [RGT_neg hT1.bd.1 hT2.bd.1 (by omega) (by omega) hcn]; constructor <;> intro z <;> first | omega | (exfalso; revert z; decide) | rfl)) (hP.sub [0, 1, 2, 3, 4, 5, 6, 7, 8, 9, 10, 11, 12, 13, 14] rfl) (hD.sub [0, 1, 2, 3, 4, 5, 6, 7, 8, 9, 10, 11, 12, 13, 14] (by decide) rfl) hS
      · skip
        refine lv_aload_n hx hb d_Arithmetic_isAbove_35 rfl (lv_at hl 1 rfl) ?_
        refine lv_aload_n hx hb d_Arithmetic_isAbove_36 rfl (lv_at hl 2 rfl) ?_
        refine lv_aload_n hx hb d_Arithmetic_isAbove_37 rfl (lv_at hl 3 rfl) ?_
        refine wk_callV (As := [.ref h1, .ref h2]) (rest := []) (wr := []) B gTB cl_Arithmetic_35 (c_Arithmetic_compareSizes l D E h ln la rn ra lg rg lk rk quo inx h1 tn1 ta1 bn1 ba1 tg1 bg1 tk1 bk1 pw1 neg1 h2 tn2 ta2 bn2 ba2 tg2 bg2 tk2 bk2 pw2 neg2 v1 b1 v2 b2 (hT1) (hB1) (hT2) (hB2) (by omega) (by omega) (by omega) (by omega) (by omega) (by omega) (by omega) (by omega)) ⟨⟨rfl, rfl⟩, Nat.le_of_ble_eq_true rfl, Nat.le_of_ble_eq_true rfl⟩ hP hD hS [0, 1, 2, 3, 4, 9, 10, 11, 5, 6, 12, 13, 14, 7, 8] [] rfl rfl (by decide) 0 rfl rfl rfl ⟨hl.2.1, hl.1⟩ rfl (Nat.le_of_ble_eq_true rfl) d_Arithmetic_isAbove_38 ⟨Nat.le_of_ble_eq_true rfl, Nat.le_of_ble_eq_true rfl⟩ rfl (fun u H locs hw hP hD hS => ?_)
        obtain ⟨lg3_16, rg3_17, lk3_18, rk3_19, rc⟩ := u
        have hP : va_P D classes [(h, .inr (2, [.ref ln, .ref rn, .long (lI quo), .int (bI inx)])), (ln, .inr (0, [.ref la, .int (iI lk3_18)])), (la, .inl (E.1, 224, .inl (ia lg3_16))), (rn, .inr (0, [.ref ra, .int (iI rk3_19)])), (ra, .inl (E.1, 224, .inl (ia rg3_17))), (h1, .inr (1, [.ref tn1, .ref bn1, .int (bI neg1), .int (iI pw1)])), (tn1, .inr (0, [.ref ta1, .int (iI tk1)])), (ta1, .inl (E.1, 224, .inl (ia tg1))), (bn1, .inr (0, [.ref ba1, .int (iI bk1)])), (ba1, .inl (E.1, 224, .inl (ia bg1))), (h2, .inr (1, [.ref tn2, .ref bn2, .int (bI neg2), .int (iI pw2)])), (tn2, .inr (0, [.ref ta2, .int (iI tk2)])), (ta2, .inl (E.1, 224, .inl (ia tg2))), (bn2, .inr (0, [.ref ba2, .int (iI bk2)])), (ba2, .inl (E.1, 224, .inl (ia bg2)))] H := hP
        have hD : va_D A [(h, .inr (2, [.ref ln, .ref rn, .long (lI quo), .int (bI inx)])), (ln, .inr (0, [.ref la, .int (iI lk3_18)])), (la, .inl (E.1, 224, .inl (ia lg3_16))), (rn, .inr (0, [.ref ra, .int (iI rk3_19)])), (ra, .inl (E.1, 224, .inl (ia rg3_17))), (h1, .inr (1, [.ref tn1, .ref bn1, .int (bI neg1), .int (iI pw1)])), (tn1, .inr (0, [.ref ta1, .int (iI tk1)])), (ta1, .inl (E.1, 224, .inl (ia tg1))), (bn1, .inr (0, [.ref ba1, .int (iI bk1)])), (ba1, .inl (E.1, 224, .inl (ia bg1))), (h2, .inr (1, [.ref tn2, .ref bn2, .int (bI neg2), .int (iI pw2)])), (tn2, .inr (0, [.ref ta2, .int (iI tk2)])), (ta2, .inl (E.1, 224, .inl (ia tg2))), (bn2, .inr (0, [.ref ba2, .int (iI bk2)])), (ba2, .inl (E.1, 224, .inl (ia bg2)))] := hD
        have hw : (CmpR rc (v1 * b2 * P2 (pw1 - pw2)) (v2 * b1 * P2 (-(pw1 - pw2)))) := hw
        have hcp := hw
        refine W.cs (g := F0 m 41 ls [.int (iI rc)]) (cells' := 0) (slots' := 0) rfl rfl ?_
        have hrr := hcp.1
        refine wi_if_le (tgt := 48) hx hb d_Arithmetic_isAbove_41 (by decide) (by omega) (fun c_20 => ?_) (fun c_20 => ?_)
        · skip
          refine wi_iconst (n := 0) hx hb d_Arithmetic_isAbove_48 ?_
          refine lv_goto (tgt := 66) hx hb d_Arithmetic_isAbove_49 (by decide) ?_
          refine w_as0 ?_
          exact ret (lg3_16, rg3_17, lk3_18, rk3_19, false) _ _ _ _ d_Arithmetic_isAbove_66 (show (false = true ↔ RGT neg1 v1 b1 pw1 neg2 v2 b2 pw2) from (by rw [RGT_pos hT1.bd.1 hT2.bd.1 (by omega) (by omega) hcp]; constructor <;> intro z <;> first | omega | (exfalso; revert z; decide) | rfl)) (hP.sub [0, 1, 2, 3, 4, 5, 6, 7, 8, 9, 10, 11, 12, 13, 14] rfl) (hD.sub [0, 1, 2, 3, 4, 5, 6, 7, 8, 9, 10, 11, 12, 13, 14] (by decide) rfl) hS
        · skip
          refine wi_iconst (n := 1) hx hb d_Arithmetic_isAbove_44 ?_
          refine lv_goto (tgt := 66) hx hb d_Arithmetic_isAbove_45 (by decide) ?_
          refine w_as1 ?_
          exact ret (lg3_16, rg3_17, lk3_18, rk3_19, true) _ _ _ _ d_Arithmetic_isAbove_66 (show (true = true ↔ RGT neg1 v1 b1 pw1 neg2 v2 b2 pw2) from (by rw [RGT_pos hT1.bd.1 hT2.bd.1 (by omega) (by omega) hcp]; constructor <;> intro z <;> first | omega | (exfalso; revert z; decide) | rfl)) (hP.sub [0, 1, 2, 3, 4, 5, 6, 7, 8, 9, 10, 11, 12, 13, 14] rfl) (hD.sub [0, 1, 2, 3, 4, 5, 6, 7, 8, 9, 10, 11, 12, 13, 14] (by decide) rfl) hS
    · skip
      have hne : sgnR neg1 v1 ≠ sgnR neg2 v2 ∨ sgnR neg1 v1 = 0 := by omega
      refine lv_iload_n hx hb d_Arithmetic_isAbove_17 rfl (lv_at hl 0 rfl) ?_
      refine lv_aload_n hx hb d_Arithmetic_isAbove_18 rfl (lv_at hl 3 rfl) ?_
      refine wk_callV (As := []) (rest := [.int (iI (sgnR neg1 v1))]) (wr := [(h, .inr (2, [.ref ln, .ref rn, .long (lI quo), .int (bI inx)])), (ln, .inr (0, [.ref la, .int (iI lk)])), (la, .inl (E.1, 224, .inl (ia lg))), (rn, .inr (0, [.ref ra, .int (iI rk)])), (ra, .inl (E.1, 224, .inl (ia rg))), (bn1, .inr (0, [.ref ba1, .int (iI bk1)])), (ba1, .inl (E.1, 224, .inl (ia bg1))), (bn2, .inr (0, [.ref ba2, .int (iI bk2)])), (ba2, .inl (E.1, 224, .inl (ia bg2))), (h1, .inr (1, [.ref tn1, .ref bn1, .int (bI neg1), .int (iI pw1)])), (tn1, .inr (0, [.ref ta1, .int (iI tk1)])), (ta1, .inl (E.1, 224, .inl (ia tg1)))]) B gTB cl_Arithmetic_29 (c_Ratio_sign l D E h2 tn2 ta2 bn2 tg2 tk2 pw2 v2 neg2 (hT2)) ⟨⟨rfl, rfl⟩, Nat.le_of_ble_eq_true rfl, Nat.le_of_ble_eq_true rfl⟩ hP hD hS [12, 13, 14] [0, 1, 2, 3, 4, 5, 6, 7, 8, 9, 10, 11] rfl rfl (by decide) 12 rfl rfl rfl ⟨hl.2.1, hl.1⟩ rfl (Nat.le_of_ble_eq_true rfl) d_Arithmetic_isAbove_19 ⟨Nat.le_of_ble_eq_true rfl, Nat.le_of_ble_eq_true rfl⟩ rfl (fun r_21 H locs hw hP hD hS => ?_)
      have hP : va_P D classes [(h, .inr (2, [.ref ln, .ref rn, .long (lI quo), .int (bI inx)])), (ln, .inr (0, [.ref la, .int (iI lk)])), (la, .inl (E.1, 224, .inl (ia lg))), (rn, .inr (0, [.ref ra, .int (iI rk)])), (ra, .inl (E.1, 224, .inl (ia rg))), (bn1, .inr (0, [.ref ba1, .int (iI bk1)])), (ba1, .inl (E.1, 224, .inl (ia bg1))), (bn2, .inr (0, [.ref ba2, .int (iI bk2)])), (ba2, .inl (E.1, 224, .inl (ia bg2))), (h1, .inr (1, [.ref tn1, .ref bn1, .int (bI neg1), .int (iI pw1)])), (tn1, .inr (0, [.ref ta1, .int (iI tk1)])), (ta1, .inl (E.1, 224, .inl (ia tg1))), (h2, .inr (1, [.ref tn2, .ref bn2, .int (bI neg2), .int (iI pw2)])), (tn2, .inr (0, [.ref ta2, .int (iI tk2)])), (ta2, .inl (E.1, 224, .inl (ia tg2)))] H := hP
      have hD : va_D A [(h, .inr (2, [.ref ln, .ref rn, .long (lI quo), .int (bI inx)])), (ln, .inr (0, [.ref la, .int (iI lk)])), (la, .inl (E.1, 224, .inl (ia lg))), (rn, .inr (0, [.ref ra, .int (iI rk)])), (ra, .inl (E.1, 224, .inl (ia rg))), (bn1, .inr (0, [.ref ba1, .int (iI bk1)])), (ba1, .inl (E.1, 224, .inl (ia bg1))), (bn2, .inr (0, [.ref ba2, .int (iI bk2)])), (ba2, .inl (E.1, 224, .inl (ia bg2))), (h1, .inr (1, [.ref tn1, .ref bn1, .int (bI neg1), .int (iI pw1)])), (tn1, .inr (0, [.ref ta1, .int (iI tk1)])), (ta1, .inl (E.1, 224, .inl (ia tg1))), (h2, .inr (1, [.ref tn2, .ref bn2, .int (bI neg2), .int (iI pw2)])), (tn2, .inr (0, [.ref ta2, .int (iI tk2)])), (ta2, .inl (E.1, 224, .inl (ia tg2)))] := hD
      have hw : (r_21 = sgnR neg2 v2) := hw
      have hr_22 := hw
      refine W.cs (g := F0 m 22 ls [.int (iI r_21), .int (iI (sgnR neg1 v1))]) (cells' := 0) (slots' := 0) rfl rfl ?_
      subst hr_22
      refine wi_icmp_le (tgt := 29) hx hb d_Arithmetic_isAbove_22 (by decide) (by omega) (by omega) (fun c_23 => ?_) (fun c_23 => ?_)
      · skip
        refine wi_iconst (n := 0) hx hb d_Arithmetic_isAbove_29 ?_
        refine w_as0 ?_
        exact ret (lg, rg, lk, rk, false) _ _ _ _ d_Arithmetic_isAbove_30 (show (false = true ↔ RGT neg1 v1 b1 pw1 neg2 v2 b2 pw2) from (by rw [RGT_sign hT1.bd.1 hT2.bd.1 hb1 hb2 hne]; constructor <;> intro z <;> first | omega | (exfalso; revert z; decide) | rfl)) (hP.sub [0, 1, 2, 3, 4, 9, 10, 11, 5, 6, 12, 13, 14, 7, 8] rfl) (hD.sub [0, 1, 2, 3, 4, 9, 10, 11, 5, 6, 12, 13, 14, 7, 8] (by decide) rfl) hS
      · skip
        refine wi_iconst (n := 1) hx hb d_Arithmetic_isAbove_25 ?_
        refine lv_goto (tgt := 30) hx hb d_Arithmetic_isAbove_26 (by decide) ?_
        refine w_as1 ?_
        exact ret (lg, rg, lk, rk, true) _ _ _ _ d_Arithmetic_isAbove_30 (show (true = true ↔ RGT neg1 v1 b1 pw1 neg2 v2 b2 pw2) from (by rw [RGT_sign hT1.bd.1 hT2.bd.1 hb1 hb2 hne]; constructor <;> intro z <;> first | omega | (exfalso; revert z; decide) | rfl)) (hP.sub [0, 1, 2, 3, 4, 9, 10, 11, 5, 6, 12, 13, 14, 7, 8] rfl) (hD.sub [0, 1, 2, 3, 4, 9, 10, 11, 5, 6, 12, 13, 14, 7, 8] (by decide) rfl) hS
set_option maxHeartbeats 4000000 in
set_option maxRecDepth 100000 in
theorem c_Arithmetic_fillTopLimb (l : Launch) (D : va_G) (E : EVt) (h : Nat) (ln : Nat) (la : Nat) (rn : Nat) (ra : Nat) (lg : Int → Int) (rg : Int → Int) (lk : Int) (rk : Int) (quo : Int) (inx : Bool) (x : Int) (w : Int) (hL : NatOK lg lk x) (hR : NatOK rg rk w) (hw0 : 0 < w) (hf1 : x * P2 29 < PB 224) : CT l D classes (tyl E) (EVX E) y_Arithmetic_fillTopLimb (Cond.code y_Arithmetic_fillTopLimb b_Arithmetic_fillTopLimb 2 none :: TB) (rmK 2 0 0 58) 0 0 [.ref h] [(h, .inr (2, [.ref ln, .ref rn, .long (lI quo), .int (bI inx)])), (ln, .inr (0, [.ref la, .int (iI lk)])), (la, .inl (E.1, 224, .inl (ia lg))), (rn, .inr (0, [.ref ra, .int (iI rk)])), (ra, .inl (E.1, 224, .inl (ia rg)))] (S := (Int → Int) × (Int → Int) × Int × Int × Int) (fun u => [(h, .inr (2, [.ref ln, .ref rn, .long (lI quo), .int (bI inx)])), (ln, .inr (0, [.ref la, .int (iI u.2.2.1)])), (la, .inl (E.1, 224, .inl (ia u.1))), (rn, .inr (0, [.ref ra, .int (iI u.2.2.2.1)])), (ra, .inl (E.1, 224, .inl (ia u.2.1)))]) (fun _ => none) (fun u => (0 ≤ u.2.2.2.2 ∧ u.2.2.2.2 ≤ 29) ∧ (NatOK u.1 u.2.2.1 (x * P2 u.2.2.2.2)) ∧ (NatOK u.2.1 u.2.2.2.1 (w * P2 u.2.2.2.2)) ∧ (P2 (30 * u.2.2.2.1 - 1) ≤ w * P2 u.2.2.2.2)) := by
  refine CT.ofv (eok E) (by decide) rfl (Nat.le_of_ble_eq_true rfl) ?_
  intro p e s m args below meth c A Q ls B hmn hP hD hS hl ret
  have B : Bd l D classes (tyl E) (EVX E) p m c b_Arithmetic_fillTopLimb 2 s args (Cond.code y_Arithmetic_fillTopLimb b_Arithmetic_fillTopLimb 2 none :: TB) R_Arithmetic A := B
  obtain ⟨⟨hx, hb, hml, hown, hts⟩, hX, hK, hE, hA⟩ := id B
  have hl : lv_has ls 2 [(0, .ref h)] := hl
  have hP : va_P D classes [(h, .inr (2, [.ref ln, .ref rn, .long (lI quo), .int (bI inx)])), (ln, .inr (0, [.ref la, .int (iI lk)])), (la, .inl (E.1, 224, .inl (ia lg))), (rn, .inr (0, [.ref ra, .int (iI rk)])), (ra, .inl (E.1, 224, .inl (ia rg)))] s.heap := hP
  have hD : va_D A [(h, .inr (2, [.ref ln, .ref rn, .long (lI quo), .int (bI inx)])), (ln, .inr (0, [.ref la, .int (iI lk)])), (la, .inl (E.1, 224, .inl (ia lg))), (rn, .inr (0, [.ref ra, .int (iI rk)])), (ra, .inl (E.1, 224, .inl (ia rg)))] := hD
  have hk := hR.k
  refine lv_aload_n hx hb d_Arithmetic_fillTopLimb_0 rfl (lv_at hl 0 rfl) ?_
  refine wk_get B hP 0 rfl fl_Arithmetic_18 (v := .ref rn) rfl d_Arithmetic_fillTopLimb_1 ?_
  refine wk_get B hP 3 rfl fl_Arithmetic_71 (v := .int (iI rk)) rfl d_Arithmetic_fillTopLimb_4 ?_
  refine wi_bipush hx hb d_Arithmetic_fillTopLimb_7 (by decide) ?_
  refine wi_imul hx hb d_Arithmetic_fillTopLimb_9 ?_
  refine lv_aload_n hx hb d_Arithmetic_fillTopLimb_10 rfl (lv_at hl 0 rfl) ?_
  refine wk_get B hP 0 rfl fl_Arithmetic_18 (v := .ref rn) rfl d_Arithmetic_fillTopLimb_11 ?_
  refine wk_callV (As := []) (rest := [.int (iI (rk * 30))]) (wr := [(h, .inr (2, [.ref ln, .ref rn, .long (lI quo), .int (bI inx)])), (ln, .inr (0, [.ref la, .int (iI lk)])), (la, .inl (E.1, 224, .inl (ia lg)))]) B gTB cl_Arithmetic_53 (c_Natural_bits l D E rn ra rg rk w (hR)) ⟨⟨rfl, rfl⟩, Nat.le_of_ble_eq_true rfl, Nat.le_of_ble_eq_true rfl⟩ hP hD hS [3, 4] [0, 1, 2] rfl rfl (by decide) 3 rfl rfl rfl ⟨hl.2.1, hl.1⟩ rfl (Nat.le_of_ble_eq_true rfl) d_Arithmetic_fillTopLimb_14 ⟨Nat.le_of_ble_eq_true rfl, Nat.le_of_ble_eq_true rfl⟩ rfl (fun r1 H locs hw hP hD hS => ?_)
  have hP : va_P D classes [(h, .inr (2, [.ref ln, .ref rn, .long (lI quo), .int (bI inx)])), (ln, .inr (0, [.ref la, .int (iI lk)])), (la, .inl (E.1, 224, .inl (ia lg))), (rn, .inr (0, [.ref ra, .int (iI rk)])), (ra, .inl (E.1, 224, .inl (ia rg)))] H := hP
  have hD : va_D A [(h, .inr (2, [.ref ln, .ref rn, .long (lI quo), .int (bI inx)])), (ln, .inr (0, [.ref la, .int (iI lk)])), (la, .inl (E.1, 224, .inl (ia lg))), (rn, .inr (0, [.ref ra, .int (iI rk)])), (ra, .inl (E.1, 224, .inl (ia rg)))] := hD
  have hw : (BL w r1) ∧ (0 ≤ r1 ∧ r1 ≤ 6720) := hw
  obtain ⟨hr1, hr10⟩ := hw
  refine W.cs (g := F0 m 17 ls [.int (iI r1), .int (iI (rk * 30))]) (cells' := 0) (slots' := 0) rfl rfl ?_
  have hsp := ft_sp hR hw0 hr1
  refine wi_isub hx hb d_Arithmetic_fillTopLimb_17 ?_
  refine lv_istore_n (lv' := [(1, .int (iI (rk * 30 - r1))), (0, .ref h)]) hx hb d_Arithmetic_fillTopLimb_18 rfl hl (by decide) rfl (fun ls hl => ?_)
  refine lv_aload_n hx hb d_Arithmetic_fillTopLimb_19 rfl (lv_at hl 1 rfl) ?_
  refine wk_get B hP 0 rfl fl_Arithmetic_12 (v := .ref ln) rfl d_Arithmetic_fillTopLimb_20 ?_
  refine lv_iload_n hx hb d_Arithmetic_fillTopLimb_23 rfl (lv_at hl 0 rfl) ?_
  refine wk_callV (As := [.int (iI (rk * 30 - r1))]) (rest := []) (wr := [(h, .inr (2, [.ref ln, .ref rn, .long (lI quo), .int (bI inx)])), (rn, .inr (0, [.ref ra, .int (iI rk)])), (ra, .inl (E.1, 224, .inl (ia rg)))]) B gTB cl_Arithmetic_56 (c_Natural_shiftLeft l D E ln la lg lk (rk * 30 - r1) x (hL) (by omega) (ft_left hL.bd.1 hsp hf1)) ⟨⟨rfl, rfl⟩, Nat.le_of_ble_eq_true rfl, Nat.le_of_ble_eq_true rfl⟩ hP hD hS [1, 2] [0, 3, 4] rfl rfl (by decide) 1 rfl rfl rfl ⟨hl.2.1, hl.1⟩ rfl (Nat.le_of_ble_eq_true rfl) d_Arithmetic_fillTopLimb_24 ⟨Nat.le_of_ble_eq_true rfl, Nat.le_of_ble_eq_true rfl⟩ rfl (fun u H locs hw hP hD hS => ?_)
  obtain ⟨g3_1, k3_2⟩ := u
  have hP : va_P D classes [(h, .inr (2, [.ref ln, .ref rn, .long (lI quo), .int (bI inx)])), (rn, .inr (0, [.ref ra, .int (iI rk)])), (ra, .inl (E.1, 224, .inl (ia rg))), (ln, .inr (0, [.ref la, .int (iI k3_2)])), (la, .inl (E.1, 224, .inl (ia g3_1)))] H := hP
  have hD : va_D A [(h, .inr (2, [.ref ln, .ref rn, .long (lI quo), .int (bI inx)])), (rn, .inr (0, [.ref ra, .int (iI rk)])), (ra, .inl (E.1, 224, .inl (ia rg))), (ln, .inr (0, [.ref la, .int (iI k3_2)])), (la, .inl (E.1, 224, .inl (ia g3_1)))] := hD
  have hw : (NatOK g3_1 k3_2 (x * P2 (rk * 30 - r1))) := hw
  have hO_3 := hw
  refine W.cs (g := F0 m 27 ls []) (cells' := 0) (slots' := 0) rfl rfl ?_
  refine lv_aload_n hx hb d_Arithmetic_fillTopLimb_27 rfl (lv_at hl 1 rfl) ?_
  refine wk_get B hP 0 rfl fl_Arithmetic_18 (v := .ref rn) rfl d_Arithmetic_fillTopLimb_28 ?_
  refine lv_iload_n hx hb d_Arithmetic_fillTopLimb_31 rfl (lv_at hl 0 rfl) ?_
  refine wk_callV (As := [.int (iI (rk * 30 - r1))]) (rest := []) (wr := [(h, .inr (2, [.ref ln, .ref rn, .long (lI quo), .int (bI inx)])), (ln, .inr (0, [.ref la, .int (iI k3_2)])), (la, .inl (E.1, 224, .inl (ia g3_1)))]) B gTB cl_Arithmetic_56 (c_Natural_shiftLeft l D E rn ra rg rk (rk * 30 - r1) w (hR) (by omega) (ft_rfit hR hw0 hr1)) ⟨⟨rfl, rfl⟩, Nat.le_of_ble_eq_true rfl, Nat.le_of_ble_eq_true rfl⟩ hP hD hS [1, 2] [0, 3, 4] rfl rfl (by decide) 1 rfl rfl rfl ⟨hl.2.1, hl.1⟩ rfl (Nat.le_of_ble_eq_true rfl) d_Arithmetic_fillTopLimb_32 ⟨Nat.le_of_ble_eq_true rfl, Nat.le_of_ble_eq_true rfl⟩ rfl (fun u H locs hw hP hD hS => ?_)
  obtain ⟨rg9, rk9⟩ := u
  have hP : va_P D classes [(h, .inr (2, [.ref ln, .ref rn, .long (lI quo), .int (bI inx)])), (ln, .inr (0, [.ref la, .int (iI k3_2)])), (la, .inl (E.1, 224, .inl (ia g3_1))), (rn, .inr (0, [.ref ra, .int (iI rk9)])), (ra, .inl (E.1, 224, .inl (ia rg9)))] H := hP
  have hD : va_D A [(h, .inr (2, [.ref ln, .ref rn, .long (lI quo), .int (bI inx)])), (ln, .inr (0, [.ref la, .int (iI k3_2)])), (la, .inl (E.1, 224, .inl (ia g3_1))), (rn, .inr (0, [.ref ra, .int (iI rk9)])), (ra, .inl (E.1, 224, .inl (ia rg9)))] := hD
  have hw : (NatOK rg9 rk9 (w * P2 (rk * 30 - r1))) := hw
  have hO9 := hw
  refine W.cs (g := F0 m 35 ls []) (cells' := 0) (slots' := 0) rfl rfl ?_
  obtain ⟨hke, htp⟩ := ft_right hR hw0 hr1 hO9
  exact ret (g3_1, rg9, k3_2, rk9, rk * 30 - r1) _ _ _ _ d_Arithmetic_fillTopLimb_35 (show (0 ≤ (rk * 30 - r1) ∧ (rk * 30 - r1) ≤ 29) ∧ (NatOK g3_1 k3_2 (x * P2 (rk * 30 - r1))) ∧ (NatOK rg9 rk9 (w * P2 (rk * 30 - r1))) ∧ (P2 (30 * rk9 - 1) ≤ w * P2 (rk * 30 - r1)) from ⟨hsp, hO_3, hO9, by rw [hke]; exact htp⟩) (hP.sub [0, 1, 2, 3, 4] rfl) (hD.sub [0, 1, 2, 3, 4] (by decide) rfl) hS
