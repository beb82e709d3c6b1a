/-! Natural.timesPowerOfFive, constructors; Ratio -/
abbrev b_Natural_timesPowerOfFive : ByteArray := prog_3_method_8_code
def y_Natural_timesPowerOfFive : MethodName := ⟨"IntervalText$Natural", "timesPowerOfFive", "(I)V"⟩
abbrev b_Natural_init : ByteArray := prog_3_method_1_code
def y_Natural_init : MethodName := ⟨"IntervalText$Natural", "<init>", "()V"⟩
abbrev b_Row_init : ByteArray := prog_6_method_1_code
def y_Row_init : MethodName := ⟨"IntervalText$Row", "<init>", "([C)V"⟩
abbrev b_Ratio_init : ByteArray := prog_5_method_1_code
def y_Ratio_init : MethodName := ⟨"IntervalText$Ratio", "<init>", "()V"⟩
abbrev b_Ratio_startWhole : ByteArray := prog_5_method_2_code
def y_Ratio_startWhole : MethodName := ⟨"IntervalText$Ratio", "startWhole", "(Z)V"⟩
abbrev b_Ratio_copy : ByteArray := prog_5_method_3_code
def y_Ratio_copy : MethodName := ⟨"IntervalText$Ratio", "copy", "(LIntervalText$Ratio;)V"⟩
abbrev b_Ratio_sign : ByteArray := prog_5_method_4_code
def y_Ratio_sign : MethodName := ⟨"IntervalText$Ratio", "sign", "()I"⟩
abbrev b_Ratio_addToTop : ByteArray := prog_5_method_5_code
def y_Ratio_addToTop : MethodName := ⟨"IntervalText$Ratio", "addToTop", "(LIntervalText$Natural;Z)V"⟩
abbrev b_Ratio_timesPowerOfTen : ByteArray := prog_5_method_6_code
def y_Ratio_timesPowerOfTen : MethodName := ⟨"IntervalText$Ratio", "timesPowerOfTen", "(I)V"⟩
theorem d_Natural_timesPowerOfFive_0 : decode b_Natural_timesPowerOfFive 0 = .ok (.iload_n 1, 1) := by decide +kernel
theorem d_Natural_timesPowerOfFive_1 : decode b_Natural_timesPowerOfFive 1 = .ok (.istore_n 2, 1) := by decide +kernel
theorem d_Natural_timesPowerOfFive_2 : decode b_Natural_timesPowerOfFive 2 = .ok (.iload_n 2, 1) := by decide +kernel
theorem d_Natural_timesPowerOfFive_3 : decode b_Natural_timesPowerOfFive 3 = .ok (.ifCond .le 24, 3) := by decide +kernel
theorem d_Natural_timesPowerOfFive_6 : decode b_Natural_timesPowerOfFive 6 = .ok (.aload_n 0, 1) := by decide +kernel
theorem d_Natural_timesPowerOfFive_7 : decode b_Natural_timesPowerOfFive 7 = .ok (.getstatic 25, 3) := by decide +kernel
theorem d_Natural_timesPowerOfFive_10 : decode b_Natural_timesPowerOfFive 10 = .ok (.iload_n 2, 1) := by decide +kernel
theorem d_Natural_timesPowerOfFive_11 : decode b_Natural_timesPowerOfFive 11 = .ok (.bipush 12, 2) := by decide +kernel
theorem d_Natural_timesPowerOfFive_13 : decode b_Natural_timesPowerOfFive 13 = .ok (.invokestatic 28, 3) := by decide +kernel
theorem d_Natural_timesPowerOfFive_16 : decode b_Natural_timesPowerOfFive 16 = .ok (.iaload, 1) := by decide +kernel
theorem d_Natural_timesPowerOfFive_17 : decode b_Natural_timesPowerOfFive 17 = .ok (.iconst 0, 1) := by decide +kernel
theorem d_Natural_timesPowerOfFive_18 : decode b_Natural_timesPowerOfFive 18 = .ok (.invokevirtual 34, 3) := by decide +kernel
theorem d_Natural_timesPowerOfFive_21 : decode b_Natural_timesPowerOfFive 21 = .ok (.iinc 2 (-12), 3) := by decide +kernel
theorem d_Natural_timesPowerOfFive_24 : decode b_Natural_timesPowerOfFive 24 = .ok (.goto (-22), 3) := by decide +kernel
theorem d_Natural_timesPowerOfFive_27 : decode b_Natural_timesPowerOfFive 27 = .ok (.return_, 1) := by decide +kernel
theorem d_Natural_init_0 : decode b_Natural_init 0 = .ok (.aload_n 0, 1) := by decide +kernel
theorem d_Natural_init_1 : decode b_Natural_init 1 = .ok (.invokespecial 3, 3) := by decide +kernel
theorem d_Natural_init_4 : decode b_Natural_init 4 = .ok (.aload_n 0, 1) := by decide +kernel
theorem d_Natural_init_5 : decode b_Natural_init 5 = .ok (.sipush 224, 3) := by decide +kernel
theorem d_Natural_init_8 : decode b_Natural_init 8 = .ok (.newarray .int, 2) := by decide +kernel
theorem d_Natural_init_10 : decode b_Natural_init 10 = .ok (.putfield 9, 3) := by decide +kernel
theorem d_Natural_init_13 : decode b_Natural_init 13 = .ok (.aload_n 0, 1) := by decide +kernel
theorem d_Natural_init_14 : decode b_Natural_init 14 = .ok (.iconst 0, 1) := by decide +kernel
theorem d_Natural_init_15 : decode b_Natural_init 15 = .ok (.putfield 15, 3) := by decide +kernel
theorem d_Natural_init_18 : decode b_Natural_init 18 = .ok (.return_, 1) := by decide +kernel
theorem d_Row_init_0 : decode b_Row_init 0 = .ok (.aload_n 0, 1) := by decide +kernel
theorem d_Row_init_1 : decode b_Row_init 1 = .ok (.invokespecial 3, 3) := by decide +kernel
theorem d_Row_init_4 : decode b_Row_init 4 = .ok (.aload_n 0, 1) := by decide +kernel
theorem d_Row_init_5 : decode b_Row_init 5 = .ok (.aload_n 1, 1) := by decide +kernel
theorem d_Row_init_6 : decode b_Row_init 6 = .ok (.putfield 9, 3) := by decide +kernel
theorem d_Row_init_9 : decode b_Row_init 9 = .ok (.aload_n 0, 1) := by decide +kernel
theorem d_Row_init_10 : decode b_Row_init 10 = .ok (.iconst 0, 1) := by decide +kernel
theorem d_Row_init_11 : decode b_Row_init 11 = .ok (.putfield 15, 3) := by decide +kernel
theorem d_Row_init_14 : decode b_Row_init 14 = .ok (.return_, 1) := by decide +kernel
theorem d_Ratio_init_0 : decode b_Ratio_init 0 = .ok (.aload_n 0, 1) := by decide +kernel
theorem d_Ratio_init_1 : decode b_Ratio_init 1 = .ok (.invokespecial 1, 3) := by decide +kernel
theorem d_Ratio_init_4 : decode b_Ratio_init 4 = .ok (.aload_n 0, 1) := by decide +kernel
theorem d_Ratio_init_5 : decode b_Ratio_init 5 = .ok (.new 7, 3) := by decide +kernel
theorem d_Ratio_init_8 : decode b_Ratio_init 8 = .ok (.dup, 1) := by decide +kernel
theorem d_Ratio_init_9 : decode b_Ratio_init 9 = .ok (.invokespecial 9, 3) := by decide +kernel
theorem d_Ratio_init_12 : decode b_Ratio_init 12 = .ok (.putfield 10, 3) := by decide +kernel
theorem d_Ratio_init_15 : decode b_Ratio_init 15 = .ok (.aload_n 0, 1) := by decide +kernel
theorem d_Ratio_init_16 : decode b_Ratio_init 16 = .ok (.new 7, 3) := by decide +kernel
theorem d_Ratio_init_19 : decode b_Ratio_init 19 = .ok (.dup, 1) := by decide +kernel
theorem d_Ratio_init_20 : decode b_Ratio_init 20 = .ok (.invokespecial 9, 3) := by decide +kernel
theorem d_Ratio_init_23 : decode b_Ratio_init 23 = .ok (.putfield 16, 3) := by decide +kernel
theorem d_Ratio_init_26 : decode b_Ratio_init 26 = .ok (.aload_n 0, 1) := by decide +kernel
theorem d_Ratio_init_27 : decode b_Ratio_init 27 = .ok (.getfield 16, 3) := by decide +kernel
theorem d_Ratio_init_30 : decode b_Ratio_init 30 = .ok (.lconst 1, 1) := by decide +kernel
theorem d_Ratio_init_31 : decode b_Ratio_init 31 = .ok (.invokevirtual 19, 3) := by decide +kernel
theorem d_Ratio_init_34 : decode b_Ratio_init 34 = .ok (.aload_n 0, 1) := by decide +kernel
theorem d_Ratio_init_35 : decode b_Ratio_init 35 = .ok (.iconst 0, 1) := by decide +kernel
theorem d_Ratio_init_36 : decode b_Ratio_init 36 = .ok (.putfield 23, 3) := by decide +kernel
theorem d_Ratio_init_39 : decode b_Ratio_init 39 = .ok (.aload_n 0, 1) := by decide +kernel
theorem d_Ratio_init_40 : decode b_Ratio_init 40 = .ok (.iconst 0, 1) := by decide +kernel
theorem d_Ratio_init_41 : decode b_Ratio_init 41 = .ok (.putfield 27, 3) := by decide +kernel
theorem d_Ratio_init_44 : decode b_Ratio_init 44 = .ok (.return_, 1) := by decide +kernel
theorem d_Ratio_startWhole_0 : decode b_Ratio_startWhole 0 = .ok (.aload_n 0, 1) := by decide +kernel
theorem d_Ratio_startWhole_1 : decode b_Ratio_startWhole 1 = .ok (.getfield 16, 3) := by decide +kernel
theorem d_Ratio_startWhole_4 : decode b_Ratio_startWhole 4 = .ok (.lconst 1, 1) := by decide +kernel
theorem d_Ratio_startWhole_5 : decode b_Ratio_startWhole 5 = .ok (.invokevirtual 19, 3) := by decide +kernel
theorem d_Ratio_startWhole_8 : decode b_Ratio_startWhole 8 = .ok (.aload_n 0, 1) := by decide +kernel
theorem d_Ratio_startWhole_9 : decode b_Ratio_startWhole 9 = .ok (.iload_n 1, 1) := by decide +kernel
theorem d_Ratio_startWhole_10 : decode b_Ratio_startWhole 10 = .ok (.putfield 23, 3) := by decide +kernel
theorem d_Ratio_startWhole_13 : decode b_Ratio_startWhole 13 = .ok (.aload_n 0, 1) := by decide +kernel
theorem d_Ratio_startWhole_14 : decode b_Ratio_startWhole 14 = .ok (.iconst 0, 1) := by decide +kernel
theorem d_Ratio_startWhole_15 : decode b_Ratio_startWhole 15 = .ok (.putfield 27, 3) := by decide +kernel
theorem d_Ratio_startWhole_18 : decode b_Ratio_startWhole 18 = .ok (.return_, 1) := by decide +kernel
theorem d_Ratio_copy_0 : decode b_Ratio_copy 0 = .ok (.aload_n 0, 1) := by decide +kernel
theorem d_Ratio_copy_1 : decode b_Ratio_copy 1 = .ok (.getfield 10, 3) := by decide +kernel
theorem d_Ratio_copy_4 : decode b_Ratio_copy 4 = .ok (.aload_n 1, 1) := by decide +kernel
theorem d_Ratio_copy_5 : decode b_Ratio_copy 5 = .ok (.getfield 10, 3) := by decide +kernel
theorem d_Ratio_copy_8 : decode b_Ratio_copy 8 = .ok (.invokevirtual 31, 3) := by decide +kernel
theorem d_Ratio_copy_11 : decode b_Ratio_copy 11 = .ok (.aload_n 0, 1) := by decide +kernel
theorem d_Ratio_copy_12 : decode b_Ratio_copy 12 = .ok (.getfield 16, 3) := by decide +kernel
theorem d_Ratio_copy_15 : decode b_Ratio_copy 15 = .ok (.aload_n 1, 1) := by decide +kernel
theorem d_Ratio_copy_16 : decode b_Ratio_copy 16 = .ok (.getfield 16, 3) := by decide +kernel
theorem d_Ratio_copy_19 : decode b_Ratio_copy 19 = .ok (.invokevirtual 31, 3) := by decide +kernel
theorem d_Ratio_copy_22 : decode b_Ratio_copy 22 = .ok (.aload_n 0, 1) := by decide +kernel
theorem d_Ratio_copy_23 : decode b_Ratio_copy 23 = .ok (.aload_n 1, 1) := by decide +kernel
theorem d_Ratio_copy_24 : decode b_Ratio_copy 24 = .ok (.getfield 23, 3) := by decide +kernel
theorem d_Ratio_copy_27 : decode b_Ratio_copy 27 = .ok (.putfield 23, 3) := by decide +kernel
theorem d_Ratio_copy_30 : decode b_Ratio_copy 30 = .ok (.aload_n 0, 1) := by decide +kernel
theorem d_Ratio_copy_31 : decode b_Ratio_copy 31 = .ok (.aload_n 1, 1) := by decide +kernel
theorem d_Ratio_copy_32 : decode b_Ratio_copy 32 = .ok (.getfield 27, 3) := by decide +kernel
theorem d_Ratio_copy_35 : decode b_Ratio_copy 35 = .ok (.putfield 27, 3) := by decide +kernel
theorem d_Ratio_copy_38 : decode b_Ratio_copy 38 = .ok (.return_, 1) := by decide +kernel
theorem d_Ratio_sign_0 : decode b_Ratio_sign 0 = .ok (.aload_n 0, 1) := by decide +kernel
theorem d_Ratio_sign_1 : decode b_Ratio_sign 1 = .ok (.getfield 10, 3) := by decide +kernel
theorem d_Ratio_sign_4 : decode b_Ratio_sign 4 = .ok (.getfield 35, 3) := by decide +kernel
theorem d_Ratio_sign_7 : decode b_Ratio_sign 7 = .ok (.ifCond .ne 7, 3) := by decide +kernel
theorem d_Ratio_sign_10 : decode b_Ratio_sign 10 = .ok (.iconst 0, 1) := by decide +kernel
theorem d_Ratio_sign_11 : decode b_Ratio_sign 11 = .ok (.goto 15, 3) := by decide +kernel
theorem d_Ratio_sign_14 : decode b_Ratio_sign 14 = .ok (.aload_n 0, 1) := by decide +kernel
theorem d_Ratio_sign_15 : decode b_Ratio_sign 15 = .ok (.getfield 23, 3) := by decide +kernel
theorem d_Ratio_sign_18 : decode b_Ratio_sign 18 = .ok (.ifCond .eq 7, 3) := by decide +kernel
theorem d_Ratio_sign_21 : decode b_Ratio_sign 21 = .ok (.iconst (-1), 1) := by decide +kernel
theorem d_Ratio_sign_22 : decode b_Ratio_sign 22 = .ok (.goto 4, 3) := by decide +kernel
theorem d_Ratio_sign_25 : decode b_Ratio_sign 25 = .ok (.iconst 1, 1) := by decide +kernel
theorem d_Ratio_sign_26 : decode b_Ratio_sign 26 = .ok (.ireturn, 1) := by decide +kernel
theorem d_Ratio_addToTop_0 : decode b_Ratio_addToTop 0 = .ok (.aload_n 0, 1) := by decide +kernel
theorem d_Ratio_addToTop_1 : decode b_Ratio_addToTop 1 = .ok (.getfield 23, 3) := by decide +kernel
theorem d_Ratio_addToTop_4 : decode b_Ratio_addToTop 4 = .ok (.iload_n 2, 1) := by decide +kernel
theorem d_Ratio_addToTop_5 : decode b_Ratio_addToTop 5 = .ok (.if_icmp .ne 14, 3) := by decide +kernel
theorem d_Ratio_addToTop_8 : decode b_Ratio_addToTop 8 = .ok (.aload_n 0, 1) := by decide +kernel
theorem d_Ratio_addToTop_9 : decode b_Ratio_addToTop 9 = .ok (.getfield 10, 3) := by decide +kernel
theorem d_Ratio_addToTop_12 : decode b_Ratio_addToTop 12 = .ok (.aload_n 1, 1) := by decide +kernel
theorem d_Ratio_addToTop_13 : decode b_Ratio_addToTop 13 = .ok (.invokevirtual 38, 3) := by decide +kernel
theorem d_Ratio_addToTop_16 : decode b_Ratio_addToTop 16 = .ok (.goto 41, 3) := by decide +kernel
theorem d_Ratio_addToTop_19 : decode b_Ratio_addToTop 19 = .ok (.aload_n 0, 1) := by decide +kernel
theorem d_Ratio_addToTop_20 : decode b_Ratio_addToTop 20 = .ok (.getfield 10, 3) := by decide +kernel
theorem d_Ratio_addToTop_23 : decode b_Ratio_addToTop 23 = .ok (.aload_n 1, 1) := by decide +kernel
theorem d_Ratio_addToTop_24 : decode b_Ratio_addToTop 24 = .ok (.iconst 0, 1) := by decide +kernel
theorem d_Ratio_addToTop_25 : decode b_Ratio_addToTop 25 = .ok (.invokevirtual 41, 3) := by decide +kernel
theorem d_Ratio_addToTop_28 : decode b_Ratio_addToTop 28 = .ok (.ifCond .lt 16, 3) := by decide +kernel
theorem d_Ratio_addToTop_31 : decode b_Ratio_addToTop 31 = .ok (.aload_n 0, 1) := by decide +kernel
theorem d_Ratio_addToTop_32 : decode b_Ratio_addToTop 32 = .ok (.getfield 10, 3) := by decide +kernel
theorem d_Ratio_addToTop_35 : decode b_Ratio_addToTop 35 = .ok (.aload_n 1, 1) := by decide +kernel
theorem d_Ratio_addToTop_36 : decode b_Ratio_addToTop 36 = .ok (.lconst 1, 1) := by decide +kernel
theorem d_Ratio_addToTop_37 : decode b_Ratio_addToTop 37 = .ok (.iconst 0, 1) := by decide +kernel
theorem d_Ratio_addToTop_38 : decode b_Ratio_addToTop 38 = .ok (.invokevirtual 45, 3) := by decide +kernel
theorem d_Ratio_addToTop_41 : decode b_Ratio_addToTop 41 = .ok (.goto 16, 3) := by decide +kernel
theorem d_Ratio_addToTop_44 : decode b_Ratio_addToTop 44 = .ok (.aload_n 0, 1) := by decide +kernel
theorem d_Ratio_addToTop_45 : decode b_Ratio_addToTop 45 = .ok (.getfield 10, 3) := by decide +kernel
theorem d_Ratio_addToTop_48 : decode b_Ratio_addToTop 48 = .ok (.aload_n 1, 1) := by decide +kernel
theorem d_Ratio_addToTop_49 : decode b_Ratio_addToTop 49 = .ok (.invokevirtual 49, 3) := by decide +kernel
theorem d_Ratio_addToTop_52 : decode b_Ratio_addToTop 52 = .ok (.aload_n 0, 1) := by decide +kernel
theorem d_Ratio_addToTop_53 : decode b_Ratio_addToTop 53 = .ok (.iload_n 2, 1) := by decide +kernel
theorem d_Ratio_addToTop_54 : decode b_Ratio_addToTop 54 = .ok (.putfield 23, 3) := by decide +kernel
theorem d_Ratio_addToTop_57 : decode b_Ratio_addToTop 57 = .ok (.return_, 1) := by decide +kernel
theorem d_Ratio_timesPowerOfTen_0 : decode b_Ratio_timesPowerOfTen 0 = .ok (.iload_n 1, 1) := by decide +kernel
theorem d_Ratio_timesPowerOfTen_1 : decode b_Ratio_timesPowerOfTen 1 = .ok (.ifCond .lt 14, 3) := by decide +kernel
theorem d_Ratio_timesPowerOfTen_4 : decode b_Ratio_timesPowerOfTen 4 = .ok (.aload_n 0, 1) := by decide +kernel
theorem d_Ratio_timesPowerOfTen_5 : decode b_Ratio_timesPowerOfTen 5 = .ok (.getfield 10, 3) := by decide +kernel
theorem d_Ratio_timesPowerOfTen_8 : decode b_Ratio_timesPowerOfTen 8 = .ok (.iload_n 1, 1) := by decide +kernel
theorem d_Ratio_timesPowerOfTen_9 : decode b_Ratio_timesPowerOfTen 9 = .ok (.invokevirtual 52, 3) := by decide +kernel
theorem d_Ratio_timesPowerOfTen_12 : decode b_Ratio_timesPowerOfTen 12 = .ok (.goto 12, 3) := by decide +kernel
theorem d_Ratio_timesPowerOfTen_15 : decode b_Ratio_timesPowerOfTen 15 = .ok (.aload_n 0, 1) := by decide +kernel
theorem d_Ratio_timesPowerOfTen_16 : decode b_Ratio_timesPowerOfTen 16 = .ok (.getfield 16, 3) := by decide +kernel
theorem d_Ratio_timesPowerOfTen_19 : decode b_Ratio_timesPowerOfTen 19 = .ok (.iload_n 1, 1) := by decide +kernel
theorem d_Ratio_timesPowerOfTen_20 : decode b_Ratio_timesPowerOfTen 20 = .ok (.ineg, 1) := by decide +kernel
theorem d_Ratio_timesPowerOfTen_21 : decode b_Ratio_timesPowerOfTen 21 = .ok (.invokevirtual 52, 3) := by decide +kernel
theorem d_Ratio_timesPowerOfTen_24 : decode b_Ratio_timesPowerOfTen 24 = .ok (.aload_n 0, 1) := by decide +kernel
theorem d_Ratio_timesPowerOfTen_25 : decode b_Ratio_timesPowerOfTen 25 = .ok (.dup, 1) := by decide +kernel
theorem d_Ratio_timesPowerOfTen_26 : decode b_Ratio_timesPowerOfTen 26 = .ok (.getfield 27, 3) := by decide +kernel
theorem d_Ratio_timesPowerOfTen_29 : decode b_Ratio_timesPowerOfTen 29 = .ok (.iload_n 1, 1) := by decide +kernel
theorem d_Ratio_timesPowerOfTen_30 : decode b_Ratio_timesPowerOfTen 30 = .ok (.iadd, 1) := by decide +kernel
theorem d_Ratio_timesPowerOfTen_31 : decode b_Ratio_timesPowerOfTen 31 = .ok (.putfield 27, 3) := by decide +kernel
theorem d_Ratio_timesPowerOfTen_34 : decode b_Ratio_timesPowerOfTen 34 = .ok (.return_, 1) := by decide +kernel
theorem fp_Natural_0 : FPut R_Natural F_Natural 2 0 (.array .int) true := ⟨e_Natural, n_Natural, rfl, by decide +kernel⟩
theorem oi_Natural_3 : Cond.methodLink "IntervalText$Natural" 3 objectInit ∈ TB ∧ Cond.instanceMethod objectInit ∈ TB ∧ Cond.code objectInit ⟨#[0xb1]⟩ 1 none ∈ TB := ⟨tb_t (List.mem_append_left _ (List.mem_of_getElem? (l := tables_1_1) (i := 52) rfl)) rfl, tb_t (List.mem_append_left _ (List.mem_of_getElem? (l := tables_1_1) (i := 22) rfl)) rfl, tb_t (List.mem_append_left _ (List.mem_of_getElem? (l := tables_1_1) (i := 23) rfl)) rfl⟩
theorem cl_Natural_34 : CLinkV TB "IntervalText$Natural" 34 "IntervalText$Natural" y_Natural_timesPlus b_Natural_timesPlus 6 none 2 := ⟨⟨tb_t (List.mem_append_right _ (List.mem_append_left _ (List.mem_of_getElem? (l := tables_1_2) (i := 122) rfl))) rfl, tb_t (List.mem_append_left _ (List.mem_of_getElem? (l := tables_1_1) (i := 4) rfl)) rfl, tb_t (List.mem_append_right _ (List.mem_append_left _ (List.mem_of_getElem? (l := tables_1_2) (i := 103) rfl))) rfl, by decide +kernel, by decide +kernel, by decide +kernel⟩, tb_t (List.mem_append_right _ (List.mem_append_left _ (List.mem_of_getElem? (l := tables_1_2) (i := 101) rfl))) rfl, tb_t (List.mem_append_right _ (List.mem_append_left _ (List.mem_of_getElem? (l := tables_1_2) (i := 102) rfl))) rfl⟩
theorem fl_Ratio_10 : FLink TB classes "IntervalText$Ratio" 10 R_Ratio F_Ratio 4 1 0 := ⟨rfl, by decide, i_Ratio, tb_t (List.mem_append_left _ (List.mem_of_getElem? (l := tables_1_1) (i := 98) rfl)) rfl⟩
theorem fl_Ratio_16 : FLink TB classes "IntervalText$Ratio" 16 R_Ratio F_Ratio 4 1 1 := ⟨rfl, by decide, i_Ratio, tb_t (List.mem_append_left _ (List.mem_of_getElem? (l := tables_1_1) (i := 102) rfl)) rfl⟩
theorem fl_Ratio_23 : FLink TB classes "IntervalText$Ratio" 23 R_Ratio F_Ratio 4 1 2 := ⟨rfl, by decide, i_Ratio, tb_t (List.mem_append_left _ (List.mem_of_getElem? (l := tables_1_1) (i := 105) rfl)) rfl⟩
theorem fl_Ratio_27 : FLink TB classes "IntervalText$Ratio" 27 R_Ratio F_Ratio 4 1 3 := ⟨rfl, by decide, i_Ratio, tb_t (List.mem_append_left _ (List.mem_of_getElem? (l := tables_1_1) (i := 107) rfl)) rfl⟩
theorem fl_Ratio_35 : FLink TB classes "IntervalText$Ratio" 35 R_Natural F_Natural 2 0 1 := ⟨rfl, by decide, i_Natural, tb_t (List.mem_append_left _ (List.mem_of_getElem? (l := tables_1_1) (i := 55) rfl)) rfl⟩
theorem fp_Ratio_0 : FPut R_Ratio F_Ratio 4 0 (.object "IntervalText$Natural") true := ⟨e_Ratio, n_Ratio, rfl, by decide +kernel⟩
theorem fp_Ratio_1 : FPut R_Ratio F_Ratio 4 1 (.object "IntervalText$Natural") true := ⟨e_Ratio, n_Ratio, rfl, by decide +kernel⟩
theorem fp_Ratio_2 : FPut R_Ratio F_Ratio 4 2 .boolean false := ⟨e_Ratio, n_Ratio, rfl, by decide +kernel⟩
theorem fp_Ratio_3 : FPut R_Ratio F_Ratio 4 3 .int false := ⟨e_Ratio, n_Ratio, rfl, by decide +kernel⟩
theorem cn_Ratio_7 : Cond.classLink "IntervalText$Ratio" 7 R_Natural ∈ TB ∧ Cond.instantiable R_Natural 2 ∈ TB ∧ Cond.initialized R_Natural ∈ TB := ⟨tb_t (List.mem_append_left _ (List.mem_of_getElem? (l := tables_1_1) (i := 91) rfl)) rfl, tb_t (List.mem_append_left _ (List.mem_of_getElem? (l := tables_1_1) (i := 48) rfl)) rfl, tb_t (List.mem_append_left _ (List.mem_of_getElem? (l := tables_1_1) (i := 4) rfl)) rfl⟩
theorem z_Natural : ∀ j, j < 2 → defaultValue (t_Natural j) = vp_V [.null, .int (iI 0)] j := by
  intro j hj
  match j, hj with
  | 0, _ => first | rfl | decide
  | 1, _ => first | rfl | decide
  | j + 2, h => exact absurd h (by omega)
theorem oi_Ratio_1 : Cond.methodLink "IntervalText$Ratio" 1 objectInit ∈ TB ∧ Cond.instanceMethod objectInit ∈ TB ∧ Cond.code objectInit ⟨#[0xb1]⟩ 1 none ∈ TB := ⟨tb_t (List.mem_append_left _ (List.mem_of_getElem? (l := tables_1_1) (i := 90) rfl)) rfl, tb_t (List.mem_append_left _ (List.mem_of_getElem? (l := tables_1_1) (i := 22) rfl)) rfl, tb_t (List.mem_append_left _ (List.mem_of_getElem? (l := tables_1_1) (i := 23) rfl)) rfl⟩
theorem cl_Ratio_9 : CLinkI TB "IntervalText$Ratio" 9 y_Natural_init b_Natural_init 1 0 := ⟨⟨tb_t (List.mem_append_left _ (List.mem_of_getElem? (l := tables_1_1) (i := 92) rfl)) rfl, tb_t (List.mem_append_left _ (List.mem_of_getElem? (l := tables_1_1) (i := 4) rfl)) rfl, tb_t (List.mem_append_left _ (List.mem_of_getElem? (l := tables_1_1) (i := 51) rfl)) rfl, by decide +kernel, by decide +kernel, by decide +kernel⟩, rfl, tb_t (List.mem_append_left _ (List.mem_of_getElem? (l := tables_1_1) (i := 50) rfl)) rfl⟩
theorem cl_Ratio_19 : CLinkV TB "IntervalText$Ratio" 19 "IntervalText$Natural" y_Natural_set b_Natural_set 5 none 1 := ⟨⟨tb_t (List.mem_append_left _ (List.mem_of_getElem? (l := tables_1_1) (i := 93) rfl)) rfl, tb_t (List.mem_append_left _ (List.mem_of_getElem? (l := tables_1_1) (i := 4) rfl)) rfl, tb_t (List.mem_append_left _ (List.mem_of_getElem? (l := tables_1_1) (i := 96) rfl)) rfl, by decide +kernel, by decide +kernel, by decide +kernel⟩, tb_t (List.mem_append_left _ (List.mem_of_getElem? (l := tables_1_1) (i := 94) rfl)) rfl, tb_t (List.mem_append_left _ (List.mem_of_getElem? (l := tables_1_1) (i := 95) rfl)) rfl⟩
theorem cl_Ratio_31 : CLinkV TB "IntervalText$Ratio" 31 "IntervalText$Natural" y_Natural_copy b_Natural_copy 3 none 1 := ⟨⟨tb_t (List.mem_append_right _ (List.mem_append_left _ (List.mem_of_getElem? (l := tables_1_2) (i := 127) rfl))) rfl, tb_t (List.mem_append_left _ (List.mem_of_getElem? (l := tables_1_1) (i := 4) rfl)) rfl, tb_t (List.mem_append_right _ (List.mem_append_left _ (List.mem_of_getElem? (l := tables_1_2) (i := 130) rfl))) rfl, by decide +kernel, by decide +kernel, by decide +kernel⟩, tb_t (List.mem_append_right _ (List.mem_append_left _ (List.mem_of_getElem? (l := tables_1_2) (i := 128) rfl))) rfl, tb_t (List.mem_append_right _ (List.mem_append_left _ (List.mem_of_getElem? (l := tables_1_2) (i := 129) rfl))) rfl⟩
theorem cl_Ratio_38 : CLinkV TB "IntervalText$Ratio" 38 "IntervalText$Natural" y_Natural_plus b_Natural_plus 6 none 1 := ⟨⟨tb_t (List.mem_append_right _ (List.mem_append_left _ (List.mem_of_getElem? (l := tables_1_2) (i := 181) rfl))) rfl, tb_t (List.mem_append_left _ (List.mem_of_getElem? (l := tables_1_1) (i := 4) rfl)) rfl, tb_t (List.mem_append_right _ (List.mem_append_left _ (List.mem_of_getElem? (l := tables_1_2) (i := 184) rfl))) rfl, by decide +kernel, by decide +kernel, by decide +kernel⟩, tb_t (List.mem_append_right _ (List.mem_append_left _ (List.mem_of_getElem? (l := tables_1_2) (i := 182) rfl))) rfl, tb_t (List.mem_append_right _ (List.mem_append_left _ (List.mem_of_getElem? (l := tables_1_2) (i := 183) rfl))) rfl⟩
theorem cl_Ratio_41 : CLinkV TB "IntervalText$Ratio" 41 "IntervalText$Natural" y_Natural_compareWith b_Natural_compareWith 4 (some .int) 2 := ⟨⟨tb_t (List.mem_append_right _ (List.mem_append_left _ (List.mem_of_getElem? (l := tables_1_2) (i := 188) rfl))) rfl, tb_t (List.mem_append_left _ (List.mem_of_getElem? (l := tables_1_1) (i := 4) rfl)) rfl, tb_t (List.mem_append_right _ (List.mem_append_left _ (List.mem_of_getElem? (l := tables_1_2) (i := 169) rfl))) rfl, by decide +kernel, by decide +kernel, by decide +kernel⟩, tb_t (List.mem_append_right _ (List.mem_append_left _ (List.mem_of_getElem? (l := tables_1_2) (i := 167) rfl))) rfl, tb_t (List.mem_append_right _ (List.mem_append_left _ (List.mem_of_getElem? (l := tables_1_2) (i := 168) rfl))) rfl⟩
theorem cl_Ratio_45 : CLinkV TB "IntervalText$Ratio" 45 "IntervalText$Natural" y_Natural_minusTimes b_Natural_minusTimes 8 none 3 := ⟨⟨tb_t (List.mem_append_right _ (List.mem_append_left _ (List.mem_of_getElem? (l := tables_1_2) (i := 189) rfl))) rfl, tb_t (List.mem_append_left _ (List.mem_of_getElem? (l := tables_1_1) (i := 4) rfl)) rfl, tb_t (List.mem_append_right _ (List.mem_append_left _ (List.mem_of_getElem? (l := tables_1_2) (i := 192) rfl))) rfl, by decide +kernel, by decide +kernel, by decide +kernel⟩, tb_t (List.mem_append_right _ (List.mem_append_left _ (List.mem_of_getElem? (l := tables_1_2) (i := 190) rfl))) rfl, tb_t (List.mem_append_right _ (List.mem_append_left _ (List.mem_of_getElem? (l := tables_1_2) (i := 191) rfl))) rfl⟩
theorem cl_Ratio_49 : CLinkV TB "IntervalText$Ratio" 49 "IntervalText$Natural" y_Natural_takeFrom b_Natural_takeFrom 6 none 1 := ⟨⟨tb_t (List.mem_append_right _ (List.mem_append_left _ (List.mem_of_getElem? (l := tables_1_2) (i := 193) rfl))) rfl, tb_t (List.mem_append_left _ (List.mem_of_getElem? (l := tables_1_1) (i := 4) rfl)) rfl, tb_t (List.mem_append_right _ (List.mem_append_left _ (List.mem_of_getElem? (l := tables_1_2) (i := 196) rfl))) rfl, by decide +kernel, by decide +kernel, by decide +kernel⟩, tb_t (List.mem_append_right _ (List.mem_append_left _ (List.mem_of_getElem? (l := tables_1_2) (i := 194) rfl))) rfl, tb_t (List.mem_append_right _ (List.mem_append_left _ (List.mem_of_getElem? (l := tables_1_2) (i := 195) rfl))) rfl⟩
theorem cl_Ratio_52 : CLinkV TB "IntervalText$Ratio" 52 "IntervalText$Natural" y_Natural_timesPowerOfFive b_Natural_timesPowerOfFive 3 none 1 := ⟨⟨tb_t (List.mem_append_right _ (List.mem_append_left _ (List.mem_of_getElem? (l := tables_1_2) (i := 113) rfl))) rfl, tb_t (List.mem_append_left _ (List.mem_of_getElem? (l := tables_1_1) (i := 4) rfl)) rfl, tb_t (List.mem_append_right _ (List.mem_append_left _ (List.mem_of_getElem? (l := tables_1_2) (i := 116) rfl))) rfl, by decide +kernel, by decide +kernel, by decide +kernel⟩, tb_t (List.mem_append_right _ (List.mem_append_left _ (List.mem_of_getElem? (l := tables_1_2) (i := 114) rfl))) rfl, tb_t (List.mem_append_right _ (List.mem_append_left _ (List.mem_of_getElem? (l := tables_1_2) (i := 115) rfl))) rfl⟩
theorem fp_Row_0 : FPut R_Row F_Row 2 0 (.array .char) true := ⟨e_Row, n_Row, rfl, by decide +kernel⟩
theorem oi_Row_3 : Cond.methodLink "IntervalText$Row" 3 objectInit ∈ TB ∧ Cond.instanceMethod objectInit ∈ TB ∧ Cond.code objectInit ⟨#[0xb1]⟩ 1 none ∈ TB := ⟨tb_t (List.mem_append_left _ (List.mem_of_getElem? (l := tables_1_1) (i := 29) rfl)) rfl, tb_t (List.mem_append_left _ (List.mem_of_getElem? (l := tables_1_1) (i := 22) rfl)) rfl, tb_t (List.mem_append_left _ (List.mem_of_getElem? (l := tables_1_1) (i := 23) rfl)) rfl⟩
set_option maxHeartbeats 4000000 in
set_option maxRecDepth 100000 in
theorem c_Natural_timesPowerOfFive (l : Launch) (D : va_G) (E : EVt) (h : Nat) (a : Nat) (g : Int → Int) (k : Int) (pp : Int) (v : Int) (hN : NatOK g k v) (hp : -1073741824 ≤ pp ∧ pp < 1073741824) (hf1 : v * P5 pp < PB 224) : CT l D classes (tyl E) (EVX E) y_Natural_timesPowerOfFive (Cond.code y_Natural_timesPowerOfFive b_Natural_timesPowerOfFive 3 none :: TB) (rmK 1 0 0 30) 0 0 [.ref h, .int (iI pp)] [(h, .inr (0, [.ref a, .int (iI k)])), (a, .inl (E.1, 224, .inl (ia g)))] (S := (Int → Int) × Int) (fun u => [(h, .inr (0, [.ref a, .int (iI u.2)])), (a, .inl (E.1, 224, .inl (ia u.1)))]) (fun _ => none) (fun u => (NatOK u.1 u.2 (v * P5 pp))) := by
  refine CT.ofv (eok E) (by decide) rfl (Nat.le_of_ble_eq_true rfl) ?_
  intro p e s m args below meth c A Q ls B hmn hP hD hS hl ret
  have B : Bd l D classes (tyl E) (EVX E) p m c b_Natural_timesPowerOfFive 3 s args (Cond.code y_Natural_timesPowerOfFive b_Natural_timesPowerOfFive 3 none :: TB) R_Natural A := B
  obtain ⟨⟨hx, hb, hml, hown, hts⟩, hX, hK, hE, hA⟩ := id B
  have hl : lv_has ls 3 [(0, .ref h), (1, .int (iI pp))] := hl
  have hP : va_P D classes [(h, .inr (0, [.ref a, .int (iI k)])), (a, .inl (E.1, 224, .inl (ia g)))] s.heap := hP
  have hD : va_D A [(h, .inr (0, [.ref a, .int (iI k)])), (a, .inl (E.1, 224, .inl (ia g)))] := hD
  have K_2 : ∀ (fuel2 : Nat) (x : Int) (w : Int) (k1 : Int) (g1 : Int → Int) (hN1 : NatOK g1 k1 w) (hx1 : -1073741840 ≤ x ∧ x < 1073741824) (he : w * P5 x = v * P5 pp) (hf2 : x + 1073741840 < (fuel2 : Int)) (ls : Array Slot) (H : Heap) (locs : List Loc), lv_has ls 3 [(0, .ref h), (1, .int (iI pp)), (2, .int (iI x))] → va_P D classes [(h, .inr (0, [.ref a, .int (iI k1)])), (a, .inl (E.1, 224, .inl (ia g1)))] H → va_D A [(h, .inr (0, [.ref a, .int (iI k1)])), (a, .inl (E.1, 224, .inl (ia g1)))] → va_S A s.heap H locs → W p l e (rmK 1 0 0 30) s m args below meth c H locs 0 0 Q (F0 m 2 ls []) := by
    intro fuel2
    induction fuel2 with
    | zero =>
      intro x w k1 g1 hN1 hx1 he hf2 ls H locs hl hP hD hS
      exfalso; omega
    | succ fuel2 ih2 =>
      intro x w k1 g1 hN1 hx1 he hf2 ls H locs hl hP hD hS
      refine lv_iload_n hx hb d_Natural_timesPowerOfFive_2 rfl (lv_at hl 2 rfl) ?_
      refine wi_if_le (tgt := 27) hx hb d_Natural_timesPowerOfFive_3 (by decide) (by omega) (fun c_1 => ?_) (fun c_1 => ?_)
      · skip
        exact ret (g1, k1) _ _ _ _ d_Natural_timesPowerOfFive_27 (show (NatOK g1 k1 (v * P5 pp)) from (by rw [← he, P5_0 (by omega), Int.mul_one]; exact hN1)) (hP.sub [0, 1] rfl) (hD.sub [0, 1] (by decide) rfl) hS
      · skip
        have h12 := P5_12 (z := min x 12) (by omega)
        refine lv_aload_n hx hb d_Natural_timesPowerOfFive_6 rfl (lv_at hl 0 rfl) ?_
        refine va_getsN hx hb hE.2.2.2.2.1 hS hown ((hE.1 _ (List.mem_of_getElem? (l := nestWs) (i := 0) rfl)).use rfl) (fun _ h => h) d_Natural_timesPowerOfFive_7 ?_
        refine lv_iload_n hx hb d_Natural_timesPowerOfFive_10 rfl (lv_at hl 2 rfl) ?_
        refine wi_bipush hx hb d_Natural_timesPowerOfFive_11 (by decide) ?_
        refine wi_mmin hx hb hown (hml.trans hl.1.symm) (tb_h hts tm_Natural_28.1) (tb_h hts tm_Natural_28.2.1) (tb_h hts tm_Natural_28.2.2.1) (tb_h hts tm_Natural_28.2.2.2) (Nat.le_of_ble_eq_true rfl) (Nat.le_of_ble_eq_true rfl) ⟨Nat.le_of_ble_eq_true rfl, Nat.le_of_ble_eq_true rfl⟩ (by omega) (by omega) d_Natural_timesPowerOfFive_13 ?_
        refine va_ti hx hb hE.2.2.2.2.2.1 hS (iI_in (n := 13) (by omega) (by decide)) (v := .int (iI (P5 (min x 12)))) (by rw [iI_clamp (by omega)]; show Value.int (iI (fives.getD _ 0)) = _; rw [fives_at _ (by omega)]; rfl) d_Natural_timesPowerOfFive_16 ?_
        refine wi_iconst (n := 0) hx hb d_Natural_timesPowerOfFive_17 ?_
        refine wk_callV (As := [.int (iI (P5 (min x 12))), .int (iI 0)]) (rest := []) (wr := []) B gTB cl_Natural_34 (c_Natural_timesPlus l D E h a g1 k1 (P5 (min x 12)) 0 w (hN1) (by omega) (by omega) (P5_le hN1.bd.1 (by omega) he hf1)) ⟨⟨rfl, rfl⟩, Nat.le_of_ble_eq_true rfl, Nat.le_of_ble_eq_true rfl⟩ hP hD hS [0, 1] [] rfl rfl (by decide) 0 rfl rfl rfl ⟨hl.2.1, hl.1⟩ rfl (Nat.le_of_ble_eq_true rfl) d_Natural_timesPowerOfFive_18 ⟨Nat.le_of_ble_eq_true rfl, Nat.le_of_ble_eq_true rfl⟩ rfl (fun u H locs hw hP hD hS => ?_)
        obtain ⟨g2_2, k2_3⟩ := u
        have hP : va_P D classes [(h, .inr (0, [.ref a, .int (iI k2_3)])), (a, .inl (E.1, 224, .inl (ia g2_2)))] H := hP
        have hD : va_D A [(h, .inr (0, [.ref a, .int (iI k2_3)])), (a, .inl (E.1, 224, .inl (ia g2_2)))] := hD
        have hw : (NatOK g2_2 k2_3 (w * (P5 (min x 12)) + 0)) := hw
        have hM_4 := hw
        refine W.cs (g := F0 m 21 ls []) (cells' := 0) (slots' := 0) rfl rfl ?_
        refine wi_iinc (v := x + (-12)) (lv' := [(2, .int (iI (x + (-12)))), (0, .ref h), (1, .int (iI pp))]) hx hb d_Natural_timesPowerOfFive_21 hl (k := 2) rfl rfl (by decide) rfl (fun ls hl => ?_)
        refine lv_goto (tgt := 2) hx hb d_Natural_timesPowerOfFive_24 (by decide) ?_
        exact ih2 (x + (-12)) (w * (P5 (min x 12)) + 0) k2_3 g2_2 (hM_4) (by omega) (by rw [Int.add_zero, Int.mul_assoc, show x + (-12) = x - 12 by omega, P5_step (by omega)]; exact he) (by omega) _ _ _ (lv_sub hl [1, 2, 0] rfl) (hP.sub [0, 1] rfl) (hD.sub [0, 1] (by decide) rfl) hS
  refine lv_iload_n hx hb d_Natural_timesPowerOfFive_0 rfl (lv_at hl 1 rfl) ?_
  refine lv_istore_n (lv' := [(2, .int (iI pp)), (0, .ref h), (1, .int (iI pp))]) hx hb d_Natural_timesPowerOfFive_1 rfl hl (by decide) rfl (fun ls hl => ?_)
  exact K_2 ((pp + 1073741840 : Int).toNat + 1) pp v k g (hN) (by omega) (rfl) (by omega) _ _ _ (lv_sub hl [1, 2, 0] rfl) (hP.sub [0, 1] rfl) (hD.sub [0, 1] (by decide) rfl) hS
set_option maxHeartbeats 4000000 in
set_option maxRecDepth 100000 in
theorem c_Natural_init (l : Launch) (D : va_G) (E : EVt) (h : Nat)  : CT l D classes (tyl E) (EVX E) y_Natural_init (Cond.code y_Natural_init b_Natural_init 1 none :: TB) (rmK 1 1 224 20) 1 224 [.ref h] [(h, .inr (0, [.null, .int (iI 0)]))] (S := Nat) (fun u => [(h, .inr (0, [.ref u, .int (iI 0)])), (u, .inl (E.1, 224, .inl (ia (fun _ => 0))))]) (fun _ => none) (fun _ => True) := by
  refine CT.ofv (eok E) (by decide) rfl (Nat.le_of_ble_eq_true rfl) ?_
  intro p e s m args below meth c A Q ls B hmn hP hD hS hl ret
  have B : Bd l D classes (tyl E) (EVX E) p m c b_Natural_init 1 s args (Cond.code y_Natural_init b_Natural_init 1 none :: TB) R_Natural A := B
  obtain ⟨⟨hx, hb, hml, hown, hts⟩, hX, hK, hE, hA⟩ := id B
  have hl : lv_has ls 1 [(0, .ref h)] := hl
  have hP : va_P D classes [(h, .inr (0, [.null, .int (iI 0)]))] s.heap := hP
  have hD : va_D A [(h, .inr (0, [.null, .int (iI 0)]))] := hD
  refine lv_aload_n hx hb d_Natural_init_0 rfl (lv_at hl 0 rfl) ?_
  refine wk_objInit B oi_Natural_3 ⟨hl.2.1, hl.1⟩ d_Natural_init_1 (Nat.le_of_ble_eq_true rfl) ⟨Nat.le_of_ble_eq_true rfl, Nat.le_of_ble_eq_true rfl⟩ ?_
  refine lv_aload_n hx hb d_Natural_init_4 rfl (lv_at hl 0 rfl) ?_
  refine wi_sipush hx hb d_Natural_init_5 (by decide) ?_
  refine wk_newa B hP hD hS .int rfl (Or.inl rfl) tw_arr_int 0 rfl (N' := 224) rfl (by decide) (by decide) d_Natural_init_8 (fun q_1 H hP hD hS => ?_)
  have hP : va_P D classes [(h, .inr (0, [.null, .int (iI 0)])), (q_1, .inl (E.1, 224, .inl (ia (fun _ => 0))))] H := hP
  have hD : va_D A [(h, .inr (0, [.null, .int (iI 0)])), (q_1, .inl (E.1, 224, .inl (ia (fun _ => 0))))] := hD
  refine W.cs (cells' := 1) (slots' := 224) rfl rfl ?_
  refine wk_putF B hmn hP hD hS 0 rfl fl_Natural_9 rfl fp_Natural_0 (v := .ref q_1) rfl rfl (Nat.le_of_ble_eq_true rfl) d_Natural_init_10 (fun H locs hP hD hS => ?_)
  have hP : va_P D classes [(h, .inr (0, [.ref q_1, .int (iI 0)])), (q_1, .inl (E.1, 224, .inl (ia (fun _ => 0))))] H := hP
  have hD : va_D A [(h, .inr (0, [.ref q_1, .int (iI 0)])), (q_1, .inl (E.1, 224, .inl (ia (fun _ => 0))))] := hD
  refine lv_aload_n hx hb d_Natural_init_13 rfl (lv_at hl 0 rfl) ?_
  refine wi_iconst (n := 0) hx hb d_Natural_init_14 ?_
  refine wk_put B hP hD hS 0 rfl fl_Natural_15 fp_Natural_1 (v := .int (iI 0)) rfl rfl (Nat.le_of_ble_eq_true rfl) d_Natural_init_15 (fun H locs hP hD hS => ?_)
  have hP : va_P D classes [(h, .inr (0, [.ref q_1, .int (iI 0)])), (q_1, .inl (E.1, 224, .inl (ia (fun _ => 0))))] H := hP
  have hD : va_D A [(h, .inr (0, [.ref q_1, .int (iI 0)])), (q_1, .inl (E.1, 224, .inl (ia (fun _ => 0))))] := hD
  exact ret q_1 _ _ _ _ d_Natural_init_18 trivial (hP.sub [0, 1] rfl) (hD.sub [0, 1] (by decide) rfl) hS
set_option maxHeartbeats 4000000 in
set_option maxRecDepth 100000 in
theorem c_Row_init (l : Launch) (D : va_G) (E : EVt) (h : Nat) (a : Nat) (N : Nat) (t : Int → Int)  : CT l D classes (tyl E) (EVX E) y_Row_init (Cond.code y_Row_init b_Row_init 2 none :: TB) (rmK 1 0 0 20) 0 0 [.ref h, .ref a] [(h, .inr (3, [.null, .int (iI 0)])), (a, .inl (E.2.1, N, .inl (ia t)))] (S := Unit) (fun _ => [(h, .inr (3, [.ref a, .int (iI 0)])), (a, .inl (E.2.1, N, .inl (ia t)))]) (fun _ => none) (fun _ => True) := by
  refine CT.ofv (eok E) (by decide) rfl (Nat.le_of_ble_eq_true rfl) ?_
  intro p e s m args below meth c A Q ls B hmn hP hD hS hl ret
  have B : Bd l D classes (tyl E) (EVX E) p m c b_Row_init 2 s args (Cond.code y_Row_init b_Row_init 2 none :: TB) R_Row A := B
  obtain ⟨⟨hx, hb, hml, hown, hts⟩, hX, hK, hE, hA⟩ := id B
  have hl : lv_has ls 2 [(0, .ref h), (1, .ref a)] := hl
  have hP : va_P D classes [(h, .inr (3, [.null, .int (iI 0)])), (a, .inl (E.2.1, N, .inl (ia t)))] s.heap := hP
  have hD : va_D A [(h, .inr (3, [.null, .int (iI 0)])), (a, .inl (E.2.1, N, .inl (ia t)))] := hD
  refine lv_aload_n hx hb d_Row_init_0 rfl (lv_at hl 0 rfl) ?_
  refine wk_objInit B oi_Row_3 ⟨hl.2.1, hl.1⟩ d_Row_init_1 (Nat.le_of_ble_eq_true rfl) ⟨Nat.le_of_ble_eq_true rfl, Nat.le_of_ble_eq_true rfl⟩ ?_
  refine lv_aload_n hx hb d_Row_init_4 rfl (lv_at hl 0 rfl) ?_
  refine lv_aload_n hx hb d_Row_init_5 rfl (lv_at hl 1 rfl) ?_
  refine wk_putF B hmn hP hD hS 0 rfl fl_Row_9 rfl fp_Row_0 (v := .ref a) rfl rfl (Nat.le_of_ble_eq_true rfl) d_Row_init_6 (fun H locs hP hD hS => ?_)
  have hP : va_P D classes [(h, .inr (3, [.ref a, .int (iI 0)])), (a, .inl (E.2.1, N, .inl (ia t)))] H := hP
  have hD : va_D A [(h, .inr (3, [.ref a, .int (iI 0)])), (a, .inl (E.2.1, N, .inl (ia t)))] := hD
  refine lv_aload_n hx hb d_Row_init_9 rfl (lv_at hl 0 rfl) ?_
  refine wi_iconst (n := 0) hx hb d_Row_init_10 ?_
  refine wk_put B hP hD hS 0 rfl fl_Row_15 fp_Row_1 (v := .int (iI 0)) rfl rfl (Nat.le_of_ble_eq_true rfl) d_Row_init_11 (fun H locs hP hD hS => ?_)
  have hP : va_P D classes [(h, .inr (3, [.ref a, .int (iI 0)])), (a, .inl (E.2.1, N, .inl (ia t)))] H := hP
  have hD : va_D A [(h, .inr (3, [.ref a, .int (iI 0)])), (a, .inl (E.2.1, N, .inl (ia t)))] := hD
  exact ret () _ _ _ _ d_Row_init_14 trivial (hP.sub [0, 1] rfl) (hD.sub [0, 1] (by decide) rfl) hS
set_option maxHeartbeats 4000000 in
set_option maxRecDepth 100000 in
theorem c_Ratio_init (l : Launch) (D : va_G) (E : EVt) (h : Nat)  : CT l D classes (tyl E) (EVX E) y_Ratio_init (Cond.code y_Ratio_init b_Ratio_init 1 none :: TB) (rmK 2 4 452 40) 4 452 [.ref h] [(h, .inr (1, [.null, .null, .int (bI false), .int (iI 0)]))] (S := Nat × Nat × Nat × Nat × (Int → Int) × Int) (fun u => [(h, .inr (1, [.ref u.1, .ref u.2.2.1, .int (bI false), .int (iI 0)])), (u.1, .inr (0, [.ref u.2.1, .int (iI 0)])), (u.2.1, .inl (E.1, 224, .inl (ia (fun _ => 0)))), (u.2.2.1, .inr (0, [.ref u.2.2.2.1, .int (iI u.2.2.2.2.2)])), (u.2.2.2.1, .inl (E.1, 224, .inl (ia u.2.2.2.2.1)))]) (fun _ => none) (fun u => (NatOK u.2.2.2.2.1 u.2.2.2.2.2 1)) := by
  refine CT.ofv (eok E) (by decide) rfl (Nat.le_of_ble_eq_true rfl) ?_
  intro p e s m args below meth c A Q ls B hmn hP hD hS hl ret
  have B : Bd l D classes (tyl E) (EVX E) p m c b_Ratio_init 1 s args (Cond.code y_Ratio_init b_Ratio_init 1 none :: TB) R_Ratio A := B
  obtain ⟨⟨hx, hb, hml, hown, hts⟩, hX, hK, hE, hA⟩ := id B
  have hl : lv_has ls 1 [(0, .ref h)] := hl
  have hP : va_P D classes [(h, .inr (1, [.null, .null, .int (bI false), .int (iI 0)]))] s.heap := hP
  have hD : va_D A [(h, .inr (1, [.null, .null, .int (bI false), .int (iI 0)]))] := hD
  refine lv_aload_n hx hb d_Ratio_init_0 rfl (lv_at hl 0 rfl) ?_
  refine wk_objInit B oi_Ratio_1 ⟨hl.2.1, hl.1⟩ d_Ratio_init_1 (Nat.le_of_ble_eq_true rfl) ⟨Nat.le_of_ble_eq_true rfl, Nat.le_of_ble_eq_true rfl⟩ ?_
  refine lv_aload_n hx hb d_Ratio_init_4 rfl (lv_at hl 0 rfl) ?_
  refine wk_new (ci := 0) B hP hD hS cn_Ratio_7 rfl i_Natural t_Natural_ok (fs := [.null, .int (iI 0)]) z_Natural (by decide) d_Ratio_init_5 (fun q_1 H hP hD hS => ?_)
  have hP : va_P D classes [(h, .inr (1, [.null, .null, .int (bI false), .int (iI 0)])), (q_1, .inr (0, [.null, .int (iI 0)]))] H := hP
  have hD : va_D A [(h, .inr (1, [.null, .null, .int (bI false), .int (iI 0)])), (q_1, .inr (0, [.null, .int (iI 0)]))] := hD
  refine W.cs (cells' := 1) (slots' := 2) rfl rfl ?_
  refine lv_dup hx hb d_Ratio_init_8 rfl ?_
  refine wk_callI (As := []) (rest := [.ref q_1, .ref h]) (wr := [(h, .inr (1, [.null, .null, .int (bI false), .int (iI 0)]))]) B gTB cl_Ratio_9 (c_Natural_init l D E q_1 ) ⟨⟨rfl, rfl⟩, Nat.le_of_ble_eq_true rfl, Nat.le_of_ble_eq_true rfl⟩ hP hD hS [1] [0] rfl rfl (by decide) ⟨hl.2.1, hl.1⟩ rfl (Nat.le_of_ble_eq_true rfl) d_Ratio_init_9 ⟨Nat.le_of_ble_eq_true rfl, Nat.le_of_ble_eq_true rfl⟩ rfl (fun q_2 H locs hw hP hD hS => ?_)
  have hP : va_P D classes [(h, .inr (1, [.null, .null, .int (bI false), .int (iI 0)])), (q_1, .inr (0, [.ref q_2, .int (iI 0)])), (q_2, .inl (E.1, 224, .inl (ia (fun _ => 0))))] H := hP
  have hD : va_D A [(h, .inr (1, [.null, .null, .int (bI false), .int (iI 0)])), (q_1, .inr (0, [.ref q_2, .int (iI 0)])), (q_2, .inl (E.1, 224, .inl (ia (fun _ => 0))))] := hD
  refine W.cs (g := F0 m 12 ls [.ref q_1, .ref h]) (cells' := 2) (slots' := 226) rfl rfl ?_
  refine wk_putF B hmn hP hD hS 0 rfl fl_Ratio_10 rfl fp_Ratio_0 (v := .ref q_1) rfl rfl (Nat.le_of_ble_eq_true rfl) d_Ratio_init_12 (fun H locs hP hD hS => ?_)
  have hP : va_P D classes [(h, .inr (1, [.ref q_1, .null, .int (bI false), .int (iI 0)])), (q_1, .inr (0, [.ref q_2, .int (iI 0)])), (q_2, .inl (E.1, 224, .inl (ia (fun _ => 0))))] H := hP
  have hD : va_D A [(h, .inr (1, [.ref q_1, .null, .int (bI false), .int (iI 0)])), (q_1, .inr (0, [.ref q_2, .int (iI 0)])), (q_2, .inl (E.1, 224, .inl (ia (fun _ => 0))))] := hD
  refine lv_aload_n hx hb d_Ratio_init_15 rfl (lv_at hl 0 rfl) ?_
  refine wk_new (ci := 0) B hP hD hS cn_Ratio_7 rfl i_Natural t_Natural_ok (fs := [.null, .int (iI 0)]) z_Natural (by decide) d_Ratio_init_16 (fun q_3 H hP hD hS => ?_)
  have hP : va_P D classes [(h, .inr (1, [.ref q_1, .null, .int (bI false), .int (iI 0)])), (q_1, .inr (0, [.ref q_2, .int (iI 0)])), (q_2, .inl (E.1, 224, .inl (ia (fun _ => 0)))), (q_3, .inr (0, [.null, .int (iI 0)]))] H := hP
  have hD : va_D A [(h, .inr (1, [.ref q_1, .null, .int (bI false), .int (iI 0)])), (q_1, .inr (0, [.ref q_2, .int (iI 0)])), (q_2, .inl (E.1, 224, .inl (ia (fun _ => 0)))), (q_3, .inr (0, [.null, .int (iI 0)]))] := hD
  refine W.cs (cells' := 3) (slots' := 228) rfl rfl ?_
  refine lv_dup hx hb d_Ratio_init_19 rfl ?_
  refine wk_callI (As := []) (rest := [.ref q_3, .ref h]) (wr := [(h, .inr (1, [.ref q_1, .null, .int (bI false), .int (iI 0)])), (q_1, .inr (0, [.ref q_2, .int (iI 0)])), (q_2, .inl (E.1, 224, .inl (ia (fun _ => 0))))]) B gTB cl_Ratio_9 (c_Natural_init l D E q_3 ) ⟨⟨rfl, rfl⟩, Nat.le_of_ble_eq_true rfl, Nat.le_of_ble_eq_true rfl⟩ hP hD hS [3] [0, 1, 2] rfl rfl (by decide) ⟨hl.2.1, hl.1⟩ rfl (Nat.le_of_ble_eq_true rfl) d_Ratio_init_20 ⟨Nat.le_of_ble_eq_true rfl, Nat.le_of_ble_eq_true rfl⟩ rfl (fun q_4 H locs hw hP hD hS => ?_)
  have hP : va_P D classes [(h, .inr (1, [.ref q_1, .null, .int (bI false), .int (iI 0)])), (q_1, .inr (0, [.ref q_2, .int (iI 0)])), (q_2, .inl (E.1, 224, .inl (ia (fun _ => 0)))), (q_3, .inr (0, [.ref q_4, .int (iI 0)])), (q_4, .inl (E.1, 224, .inl (ia (fun _ => 0))))] H := hP
  have hD : va_D A [(h, .inr (1, [.ref q_1, .null, .int (bI false), .int (iI 0)])), (q_1, .inr (0, [.ref q_2, .int (iI 0)])), (q_2, .inl (E.1, 224, .inl (ia (fun _ => 0)))), (q_3, .inr (0, [.ref q_4, .int (iI 0)])), (q_4, .inl (E.1, 224, .inl (ia (fun _ => 0))))] := hD
  refine W.cs (g := F0 m 23 ls [.ref q_3, .ref h]) (cells' := 4) (slots' := 452) rfl rfl ?_
  refine wk_putF B hmn hP hD hS 0 rfl fl_Ratio_16 rfl fp_Ratio_1 (v := .ref q_3) rfl rfl (Nat.le_of_ble_eq_true rfl) d_Ratio_init_23 (fun H locs hP hD hS => ?_)
  have hP : va_P D classes [(h, .inr (1, [.ref q_1, .ref q_3, .int (bI false), .int (iI 0)])), (q_1, .inr (0, [.ref q_2, .int (iI 0)])), (q_2, .inl (E.1, 224, .inl (ia (fun _ => 0)))), (q_3, .inr (0, [.ref q_4, .int (iI 0)])), (q_4, .inl (E.1, 224, .inl (ia (fun _ => 0))))] H := hP
  have hD : va_D A [(h, .inr (1, [.ref q_1, .ref q_3, .int (bI false), .int (iI 0)])), (q_1, .inr (0, [.ref q_2, .int (iI 0)])), (q_2, .inl (E.1, 224, .inl (ia (fun _ => 0)))), (q_3, .inr (0, [.ref q_4, .int (iI 0)])), (q_4, .inl (E.1, 224, .inl (ia (fun _ => 0))))] := hD
  refine lv_aload_n hx hb d_Ratio_init_26 rfl (lv_at hl 0 rfl) ?_
  refine wk_get B hP 0 rfl fl_Ratio_16 (v := .ref q_3) rfl d_Ratio_init_27 ?_
  refine wi_lconst (z := 1) hx hb d_Ratio_init_30 (by decide) ?_
  refine wk_callV (As := [.long (lI 1)]) (rest := []) (wr := [(h, .inr (1, [.ref q_1, .ref q_3, .int (bI false), .int (iI 0)])), (q_1, .inr (0, [.ref q_2, .int (iI 0)])), (q_2, .inl (E.1, 224, .inl (ia (fun _ => 0))))]) B gTB cl_Ratio_19 (c_Natural_set l D E q_3 q_4 (fun _ => 0) 0 1 (by omega)) ⟨⟨rfl, rfl⟩, Nat.le_of_ble_eq_true rfl, Nat.le_of_ble_eq_true rfl⟩ hP hD hS [3, 4] [0, 1, 2] rfl rfl (by decide) 3 rfl rfl rfl ⟨hl.2.1, hl.1⟩ rfl (Nat.le_of_ble_eq_true rfl) d_Ratio_init_31 ⟨Nat.le_of_ble_eq_true rfl, Nat.le_of_ble_eq_true rfl⟩ rfl (fun u H locs hw hP hD hS => ?_)
  obtain ⟨g2_5, k2_6⟩ := u
  have hP : va_P D classes [(h, .inr (1, [.ref q_1, .ref q_3, .int (bI false), .int (iI 0)])), (q_1, .inr (0, [.ref q_2, .int (iI 0)])), (q_2, .inl (E.1, 224, .inl (ia (fun _ => 0)))), (q_3, .inr (0, [.ref q_4, .int (iI k2_6)])), (q_4, .inl (E.1, 224, .inl (ia g2_5)))] H := hP
  have hD : va_D A [(h, .inr (1, [.ref q_1, .ref q_3, .int (bI false), .int (iI 0)])), (q_1, .inr (0, [.ref q_2, .int (iI 0)])), (q_2, .inl (E.1, 224, .inl (ia (fun _ => 0)))), (q_3, .inr (0, [.ref q_4, .int (iI k2_6)])), (q_4, .inl (E.1, 224, .inl (ia g2_5)))] := hD
  have hw : (NatOK g2_5 k2_6 1) := hw
  have hN_7 := hw
  refine W.cs (g := F0 m 34 ls []) (cells' := 4) (slots' := 452) rfl rfl ?_
  refine lv_aload_n hx hb d_Ratio_init_34 rfl (lv_at hl 0 rfl) ?_
  refine wi_iconst (n := 0) hx hb d_Ratio_init_35 ?_
  refine w_as0 ?_
  refine wk_put B hP hD hS 0 rfl fl_Ratio_23 fp_Ratio_2 (v := .int (bI false)) (bI_nar _) (bI_fit _) (Nat.le_of_ble_eq_true rfl) d_Ratio_init_36 (fun H locs hP hD hS => ?_)
  have hP : va_P D classes [(h, .inr (1, [.ref q_1, .ref q_3, .int (bI false), .int (iI 0)])), (q_1, .inr (0, [.ref q_2, .int (iI 0)])), (q_2, .inl (E.1, 224, .inl (ia (fun _ => 0)))), (q_3, .inr (0, [.ref q_4, .int (iI k2_6)])), (q_4, .inl (E.1, 224, .inl (ia g2_5)))] H := hP
  have hD : va_D A [(h, .inr (1, [.ref q_1, .ref q_3, .int (bI false), .int (iI 0)])), (q_1, .inr (0, [.ref q_2, .int (iI 0)])), (q_2, .inl (E.1, 224, .inl (ia (fun _ => 0)))), (q_3, .inr (0, [.ref q_4, .int (iI k2_6)])), (q_4, .inl (E.1, 224, .inl (ia g2_5)))] := hD
  refine lv_aload_n hx hb d_Ratio_init_39 rfl (lv_at hl 0 rfl) ?_
  refine wi_iconst (n := 0) hx hb d_Ratio_init_40 ?_
  refine wk_put B hP hD hS 0 rfl fl_Ratio_27 fp_Ratio_3 (v := .int (iI 0)) rfl rfl (Nat.le_of_ble_eq_true rfl) d_Ratio_init_41 (fun H locs hP hD hS => ?_)
  have hP : va_P D classes [(h, .inr (1, [.ref q_1, .ref q_3, .int (bI false), .int (iI 0)])), (q_1, .inr (0, [.ref q_2, .int (iI 0)])), (q_2, .inl (E.1, 224, .inl (ia (fun _ => 0)))), (q_3, .inr (0, [.ref q_4, .int (iI k2_6)])), (q_4, .inl (E.1, 224, .inl (ia g2_5)))] H := hP
  have hD : va_D A [(h, .inr (1, [.ref q_1, .ref q_3, .int (bI false), .int (iI 0)])), (q_1, .inr (0, [.ref q_2, .int (iI 0)])), (q_2, .inl (E.1, 224, .inl (ia (fun _ => 0)))), (q_3, .inr (0, [.ref q_4, .int (iI k2_6)])), (q_4, .inl (E.1, 224, .inl (ia g2_5)))] := hD
  exact ret (q_1, q_2, q_3, q_4, g2_5, k2_6) _ _ _ _ d_Ratio_init_44 (show (NatOK g2_5 k2_6 1) from hN_7) (hP.sub [0, 1, 2, 3, 4] rfl) (hD.sub [0, 1, 2, 3, 4] (by decide) rfl) hS
set_option maxHeartbeats 4000000 in
set_option maxRecDepth 100000 in
theorem c_Ratio_startWhole (l : Launch) (D : va_G) (E : EVt) (h : Nat) (tn : Nat) (bn : Nat) (ba : Nat) (bg : Int → Int) (bk : Int) (pw : Int) (neg : Bool) (nn : Bool)  : CT l D classes (tyl E) (EVX E) y_Ratio_startWhole (Cond.code y_Ratio_startWhole b_Ratio_startWhole 2 none :: TB) (rmK 1 0 0 24) 0 0 [.ref h, .int (bI nn)] [(h, .inr (1, [.ref tn, .ref bn, .int (bI neg), .int (iI pw)])), (bn, .inr (0, [.ref ba, .int (iI bk)])), (ba, .inl (E.1, 224, .inl (ia bg)))] (S := (Int → Int) × Int) (fun u => [(h, .inr (1, [.ref tn, .ref bn, .int (bI nn), .int (iI 0)])), (bn, .inr (0, [.ref ba, .int (iI u.2)])), (ba, .inl (E.1, 224, .inl (ia u.1)))]) (fun _ => none) (fun u => (NatOK u.1 u.2 1)) := by
  refine CT.ofv (eok E) (by decide) rfl (Nat.le_of_ble_eq_true rfl) ?_
  intro p e s m args below meth c A Q ls B hmn hP hD hS hl ret
  have B : Bd l D classes (tyl E) (EVX E) p m c b_Ratio_startWhole 2 s args (Cond.code y_Ratio_startWhole b_Ratio_startWhole 2 none :: TB) R_Ratio A := B
  obtain ⟨⟨hx, hb, hml, hown, hts⟩, hX, hK, hE, hA⟩ := id B
  have hl : lv_has ls 2 [(0, .ref h), (1, .int (bI nn))] := hl
  have hP : va_P D classes [(h, .inr (1, [.ref tn, .ref bn, .int (bI neg), .int (iI pw)])), (bn, .inr (0, [.ref ba, .int (iI bk)])), (ba, .inl (E.1, 224, .inl (ia bg)))] s.heap := hP
  have hD : va_D A [(h, .inr (1, [.ref tn, .ref bn, .int (bI neg), .int (iI pw)])), (bn, .inr (0, [.ref ba, .int (iI bk)])), (ba, .inl (E.1, 224, .inl (ia bg)))] := hD
  refine lv_aload_n hx hb d_Ratio_startWhole_0 rfl (lv_at hl 0 rfl) ?_
  refine wk_get B hP 0 rfl fl_Ratio_16 (v := .ref bn) rfl d_Ratio_startWhole_1 ?_
  refine wi_lconst (z := 1) hx hb d_Ratio_startWhole_4 (by decide) ?_
  refine wk_callV (As := [.long (lI 1)]) (rest := []) (wr := [(h, .inr (1, [.ref tn, .ref bn, .int (bI neg), .int (iI pw)]))]) B gTB cl_Ratio_19 (c_Natural_set l D E bn ba bg bk 1 (by omega)) ⟨⟨rfl, rfl⟩, Nat.le_of_ble_eq_true rfl, Nat.le_of_ble_eq_true rfl⟩ hP hD hS [1, 2] [0] rfl rfl (by decide) 1 rfl rfl rfl ⟨hl.2.1, hl.1⟩ rfl (Nat.le_of_ble_eq_true rfl) d_Ratio_startWhole_5 ⟨Nat.le_of_ble_eq_true rfl, Nat.le_of_ble_eq_true rfl⟩ rfl (fun u H locs hw hP hD hS => ?_)
  obtain ⟨g2_1, k2_2⟩ := u
  have hP : va_P D classes [(h, .inr (1, [.ref tn, .ref bn, .int (bI neg), .int (iI pw)])), (bn, .inr (0, [.ref ba, .int (iI k2_2)])), (ba, .inl (E.1, 224, .inl (ia g2_1)))] H := hP
  have hD : va_D A [(h, .inr (1, [.ref tn, .ref bn, .int (bI neg), .int (iI pw)])), (bn, .inr (0, [.ref ba, .int (iI k2_2)])), (ba, .inl (E.1, 224, .inl (ia g2_1)))] := hD
  have hw : (NatOK g2_1 k2_2 1) := hw
  have hN_3 := hw
  refine W.cs (g := F0 m 8 ls []) (cells' := 0) (slots' := 0) rfl rfl ?_
  refine lv_aload_n hx hb d_Ratio_startWhole_8 rfl (lv_at hl 0 rfl) ?_
  refine lv_iload_n hx hb d_Ratio_startWhole_9 rfl (lv_at hl 1 rfl) ?_
  refine wk_put B hP hD hS 0 rfl fl_Ratio_23 fp_Ratio_2 (v := .int (bI nn)) (bI_nar _) (bI_fit _) (Nat.le_of_ble_eq_true rfl) d_Ratio_startWhole_10 (fun H locs hP hD hS => ?_)
  have hP : va_P D classes [(h, .inr (1, [.ref tn, .ref bn, .int (bI nn), .int (iI pw)])), (bn, .inr (0, [.ref ba, .int (iI k2_2)])), (ba, .inl (E.1, 224, .inl (ia g2_1)))] H := hP
  have hD : va_D A [(h, .inr (1, [.ref tn, .ref bn, .int (bI nn), .int (iI pw)])), (bn, .inr (0, [.ref ba, .int (iI k2_2)])), (ba, .inl (E.1, 224, .inl (ia g2_1)))] := hD
  refine lv_aload_n hx hb d_Ratio_startWhole_13 rfl (lv_at hl 0 rfl) ?_
  refine wi_iconst (n := 0) hx hb d_Ratio_startWhole_14 ?_
  refine wk_put B hP hD hS 0 rfl fl_Ratio_27 fp_Ratio_3 (v := .int (iI 0)) rfl rfl (Nat.le_of_ble_eq_true rfl) d_Ratio_startWhole_15 (fun H locs hP hD hS => ?_)
  have hP : va_P D classes [(h, .inr (1, [.ref tn, .ref bn, .int (bI nn), .int (iI 0)])), (bn, .inr (0, [.ref ba, .int (iI k2_2)])), (ba, .inl (E.1, 224, .inl (ia g2_1)))] H := hP
  have hD : va_D A [(h, .inr (1, [.ref tn, .ref bn, .int (bI nn), .int (iI 0)])), (bn, .inr (0, [.ref ba, .int (iI k2_2)])), (ba, .inl (E.1, 224, .inl (ia g2_1)))] := hD
  exact ret (g2_1, k2_2) _ _ _ _ d_Ratio_startWhole_18 (show (NatOK g2_1 k2_2 1) from hN_3) (hP.sub [0, 1, 2] rfl) (hD.sub [0, 1, 2] (by decide) rfl) hS
set_option maxHeartbeats 4000000 in
set_option maxRecDepth 100000 in
theorem c_Ratio_copy (l : Launch) (D : va_G) (E : EVt) (h : Nat) (tn1 : Nat) (ta1 : Nat) (bn1 : Nat) (ba1 : Nat) (tg1 : Int → Int) (bg1 : Int → Int) (tk1 : Int) (bk1 : Int) (pw1 : Int) (neg1 : Bool) (h2 : Nat) (tn2 : Nat) (ta2 : Nat) (bn2 : Nat) (ba2 : Nat) (tg2 : Int → Int) (bg2 : Int → Int) (tk2 : Int) (bk2 : Int) (pw2 : Int) (neg2 : Bool) (v : Int) (b : Int) (hT : NatOK tg2 tk2 v) (hB : NatOK bg2 bk2 b) : CT l D classes (tyl E) (EVX E) y_Ratio_copy (Cond.code y_Ratio_copy b_Ratio_copy 2 none :: TB) (rmK 1 0 0 22) 0 0 [.ref h, .ref h2] [(h, .inr (1, [.ref tn1, .ref bn1, .int (bI neg1), .int (iI pw1)])), (tn1, .inr (0, [.ref ta1, .int (iI tk1)])), (ta1, .inl (E.1, 224, .inl (ia tg1))), (bn1, .inr (0, [.ref ba1, .int (iI bk1)])), (ba1, .inl (E.1, 224, .inl (ia bg1))), (h2, .inr (1, [.ref tn2, .ref bn2, .int (bI neg2), .int (iI pw2)])), (tn2, .inr (0, [.ref ta2, .int (iI tk2)])), (ta2, .inl (E.1, 224, .inl (ia tg2))), (bn2, .inr (0, [.ref ba2, .int (iI bk2)])), (ba2, .inl (E.1, 224, .inl (ia bg2)))] (S := (Int → Int) × (Int → Int)) (fun u => [(h, .inr (1, [.ref tn1, .ref bn1, .int (bI neg2), .int (iI pw2)])), (tn1, .inr (0, [.ref ta1, .int (iI tk2)])), (ta1, .inl (E.1, 224, .inl (ia u.1))), (bn1, .inr (0, [.ref ba1, .int (iI bk2)])), (ba1, .inl (E.1, 224, .inl (ia u.2))), (h2, .inr (1, [.ref tn2, .ref bn2, .int (bI neg2), .int (iI pw2)])), (tn2, .inr (0, [.ref ta2, .int (iI tk2)])), (ta2, .inl (E.1, 224, .inl (ia tg2))), (bn2, .inr (0, [.ref ba2, .int (iI bk2)])), (ba2, .inl (E.1, 224, .inl (ia bg2)))]) (fun _ => none) (fun u => (NatOK u.1 tk2 v) ∧ (NatOK u.2 bk2 b)) := by
  refine CT.ofv (eok E) (by decide) rfl (Nat.le_of_ble_eq_true rfl) ?_
  intro p e s m args below meth c A Q ls B hmn hP hD hS hl ret
  have B : Bd l D classes (tyl E) (EVX E) p m c b_Ratio_copy 2 s args (Cond.code y_Ratio_copy b_Ratio_copy 2 none :: TB) R_Ratio A := B
  obtain ⟨⟨hx, hb, hml, hown, hts⟩, hX, hK, hE, hA⟩ := id B
  have hl : lv_has ls 2 [(0, .ref h), (1, .ref h2)] := hl
  have hP : va_P D classes [(h, .inr (1, [.ref tn1, .ref bn1, .int (bI neg1), .int (iI pw1)])), (tn1, .inr (0, [.ref ta1, .int (iI tk1)])), (ta1, .inl (E.1, 224, .inl (ia tg1))), (bn1, .inr (0, [.ref ba1, .int (iI bk1)])), (ba1, .inl (E.1, 224, .inl (ia bg1))), (h2, .inr (1, [.ref tn2, .ref bn2, .int (bI neg2), .int (iI pw2)])), (tn2, .inr (0, [.ref ta2, .int (iI tk2)])), (ta2, .inl (E.1, 224, .inl (ia tg2))), (bn2, .inr (0, [.ref ba2, .int (iI bk2)])), (ba2, .inl (E.1, 224, .inl (ia bg2)))] s.heap := hP
  have hD : va_D A [(h, .inr (1, [.ref tn1, .ref bn1, .int (bI neg1), .int (iI pw1)])), (tn1, .inr (0, [.ref ta1, .int (iI tk1)])), (ta1, .inl (E.1, 224, .inl (ia tg1))), (bn1, .inr (0, [.ref ba1, .int (iI bk1)])), (ba1, .inl (E.1, 224, .inl (ia bg1))), (h2, .inr (1, [.ref tn2, .ref bn2, .int (bI neg2), .int (iI pw2)])), (tn2, .inr (0, [.ref ta2, .int (iI tk2)])), (ta2, .inl (E.1, 224, .inl (ia tg2))), (bn2, .inr (0, [.ref ba2, .int (iI bk2)])), (ba2, .inl (E.1, 224, .inl (ia bg2)))] := hD
  refine lv_aload_n hx hb d_Ratio_copy_0 rfl (lv_at hl 0 rfl) ?_
  refine wk_get B hP 0 rfl fl_Ratio_10 (v := .ref tn1) rfl d_Ratio_copy_1 ?_
  refine lv_aload_n hx hb d_Ratio_copy_4 rfl (lv_at hl 1 rfl) ?_
  refine wk_get B hP 5 rfl fl_Ratio_10 (v := .ref tn2) rfl d_Ratio_copy_5 ?_
  refine wk_callV (As := [.ref tn2]) (rest := []) (wr := [(h, .inr (1, [.ref tn1, .ref bn1, .int (bI neg1), .int (iI pw1)])), (bn1, .inr (0, [.ref ba1, .int (iI bk1)])), (ba1, .inl (E.1, 224, .inl (ia bg1))), (h2, .inr (1, [.ref tn2, .ref bn2, .int (bI neg2), .int (iI pw2)])), (bn2, .inr (0, [.ref ba2, .int (iI bk2)])), (ba2, .inl (E.1, 224, .inl (ia bg2)))]) B gTB cl_Ratio_31 (c_Natural_copy l D E tn1 ta1 tg1 tk1 tn2 ta2 tg2 tk2 v (hT)) ⟨⟨rfl, rfl⟩, Nat.le_of_ble_eq_true rfl, Nat.le_of_ble_eq_true rfl⟩ hP hD hS [1, 2, 6, 7] [0, 3, 4, 5, 8, 9] rfl rfl (by decide) 1 rfl rfl rfl ⟨hl.2.1, hl.1⟩ rfl (Nat.le_of_ble_eq_true rfl) d_Ratio_copy_8 ⟨Nat.le_of_ble_eq_true rfl, Nat.le_of_ble_eq_true rfl⟩ rfl (fun g3_1 H locs hw hP hD hS => ?_)
  have hP : va_P D classes [(h, .inr (1, [.ref tn1, .ref bn1, .int (bI neg1), .int (iI pw1)])), (bn1, .inr (0, [.ref ba1, .int (iI bk1)])), (ba1, .inl (E.1, 224, .inl (ia bg1))), (h2, .inr (1, [.ref tn2, .ref bn2, .int (bI neg2), .int (iI pw2)])), (bn2, .inr (0, [.ref ba2, .int (iI bk2)])), (ba2, .inl (E.1, 224, .inl (ia bg2))), (tn1, .inr (0, [.ref ta1, .int (iI tk2)])), (ta1, .inl (E.1, 224, .inl (ia g3_1))), (tn2, .inr (0, [.ref ta2, .int (iI tk2)])), (ta2, .inl (E.1, 224, .inl (ia tg2)))] H := hP
  have hD : va_D A [(h, .inr (1, [.ref tn1, .ref bn1, .int (bI neg1), .int (iI pw1)])), (bn1, .inr (0, [.ref ba1, .int (iI bk1)])), (ba1, .inl (E.1, 224, .inl (ia bg1))), (h2, .inr (1, [.ref tn2, .ref bn2, .int (bI neg2), .int (iI pw2)])), (bn2, .inr (0, [.ref ba2, .int (iI bk2)])), (ba2, .inl (E.1, 224, .inl (ia bg2))), (tn1, .inr (0, [.ref ta1, .int (iI tk2)])), (ta1, .inl (E.1, 224, .inl (ia g3_1))), (tn2, .inr (0, [.ref ta2, .int (iI tk2)])), (ta2, .inl (E.1, 224, .inl (ia tg2)))] := hD
  have hw : (NatOK g3_1 tk2 v) := hw
  have hM_2 := hw
  refine W.cs (g := F0 m 11 ls []) (cells' := 0) (slots' := 0) rfl rfl ?_
  refine lv_aload_n hx hb d_Ratio_copy_11 rfl (lv_at hl 0 rfl) ?_
  refine wk_get B hP 0 rfl fl_Ratio_16 (v := .ref bn1) rfl d_Ratio_copy_12 ?_
  refine lv_aload_n hx hb d_Ratio_copy_15 rfl (lv_at hl 1 rfl) ?_
  refine wk_get B hP 3 rfl fl_Ratio_16 (v := .ref bn2) rfl d_Ratio_copy_16 ?_
  refine wk_callV (As := [.ref bn2]) (rest := []) (wr := [(h, .inr (1, [.ref tn1, .ref bn1, .int (bI neg1), .int (iI pw1)])), (h2, .inr (1, [.ref tn2, .ref bn2, .int (bI neg2), .int (iI pw2)])), (tn1, .inr (0, [.ref ta1, .int (iI tk2)])), (ta1, .inl (E.1, 224, .inl (ia g3_1))), (tn2, .inr (0, [.ref ta2, .int (iI tk2)])), (ta2, .inl (E.1, 224, .inl (ia tg2)))]) B gTB cl_Ratio_31 (c_Natural_copy l D E bn1 ba1 bg1 bk1 bn2 ba2 bg2 bk2 b (hB)) ⟨⟨rfl, rfl⟩, Nat.le_of_ble_eq_true rfl, Nat.le_of_ble_eq_true rfl⟩ hP hD hS [1, 2, 4, 5] [0, 3, 6, 7, 8, 9] rfl rfl (by decide) 1 rfl rfl rfl ⟨hl.2.1, hl.1⟩ rfl (Nat.le_of_ble_eq_true rfl) d_Ratio_copy_19 ⟨Nat.le_of_ble_eq_true rfl, Nat.le_of_ble_eq_true rfl⟩ rfl (fun g3_3 H locs hw hP hD hS => ?_)
  have hP : va_P D classes [(h, .inr (1, [.ref tn1, .ref bn1, .int (bI neg1), .int (iI pw1)])), (h2, .inr (1, [.ref tn2, .ref bn2, .int (bI neg2), .int (iI pw2)])), (tn1, .inr (0, [.ref ta1, .int (iI tk2)])), (ta1, .inl (E.1, 224, .inl (ia g3_1))), (tn2, .inr (0, [.ref ta2, .int (iI tk2)])), (ta2, .inl (E.1, 224, .inl (ia tg2))), (bn1, .inr (0, [.ref ba1, .int (iI bk2)])), (ba1, .inl (E.1, 224, .inl (ia g3_3))), (bn2, .inr (0, [.ref ba2, .int (iI bk2)])), (ba2, .inl (E.1, 224, .inl (ia bg2)))] H := hP
  have hD : va_D A [(h, .inr (1, [.ref tn1, .ref bn1, .int (bI neg1), .int (iI pw1)])), (h2, .inr (1, [.ref tn2, .ref bn2, .int (bI neg2), .int (iI pw2)])), (tn1, .inr (0, [.ref ta1, .int (iI tk2)])), (ta1, .inl (E.1, 224, .inl (ia g3_1))), (tn2, .inr (0, [.ref ta2, .int (iI tk2)])), (ta2, .inl (E.1, 224, .inl (ia tg2))), (bn1, .inr (0, [.ref ba1, .int (iI bk2)])), (ba1, .inl (E.1, 224, .inl (ia g3_3))), (bn2, .inr (0, [.ref ba2, .int (iI bk2)])), (ba2, .inl (E.1, 224, .inl (ia bg2)))] := hD
  have hw : (NatOK g3_3 bk2 b) := hw
  have hM_4 := hw
  refine W.cs (g := F0 m 22 ls []) (cells' := 0) (slots' := 0) rfl rfl ?_
  refine lv_aload_n hx hb d_Ratio_copy_22 rfl (lv_at hl 0 rfl) ?_
  refine lv_aload_n hx hb d_Ratio_copy_23 rfl (lv_at hl 1 rfl) ?_
  refine wk_get B hP 1 rfl fl_Ratio_23 (v := .int (bI neg2)) rfl d_Ratio_copy_24 ?_
  refine wk_put B hP hD hS 0 rfl fl_Ratio_23 fp_Ratio_2 (v := .int (bI neg2)) (bI_nar _) (bI_fit _) (Nat.le_of_ble_eq_true rfl) d_Ratio_copy_27 (fun H locs hP hD hS => ?_)
  have hP : va_P D classes [(h, .inr (1, [.ref tn1, .ref bn1, .int (bI neg2), .int (iI pw1)])), (h2, .inr (1, [.ref tn2, .ref bn2, .int (bI neg2), .int (iI pw2)])), (tn1, .inr (0, [.ref ta1, .int (iI tk2)])), (ta1, .inl (E.1, 224, .inl (ia g3_1))), (tn2, .inr (0, [.ref ta2, .int (iI tk2)])), (ta2, .inl (E.1, 224, .inl (ia tg2))), (bn1, .inr (0, [.ref ba1, .int (iI bk2)])), (ba1, .inl (E.1, 224, .inl (ia g3_3))), (bn2, .inr (0, [.ref ba2, .int (iI bk2)])), (ba2, .inl (E.1, 224, .inl (ia bg2)))] H := hP
  have hD : va_D A [(h, .inr (1, [.ref tn1, .ref bn1, .int (bI neg2), .int (iI pw1)])), (h2, .inr (1, [.ref tn2, .ref bn2, .int (bI neg2), .int (iI pw2)])), (tn1, .inr (0, [.ref ta1, .int (iI tk2)])), (ta1, .inl (E.1, 224, .inl (ia g3_1))), (tn2, .inr (0, [.ref ta2, .int (iI tk2)])), (ta2, .inl (E.1, 224, .inl (ia tg2))), (bn1, .inr (0, [.ref ba1, .int (iI bk2)])), (ba1, .inl (E.1, 224, .inl (ia g3_3))), (bn2, .inr (0, [.ref ba2, .int (iI bk2)])), (ba2, .inl (E.1, 224, .inl (ia bg2)))] := hD
  refine lv_aload_n hx hb d_Ratio_copy_30 rfl (lv_at hl 0 rfl) ?_
  refine lv_aload_n hx hb d_Ratio_copy_31 rfl (lv_at hl 1 rfl) ?_
  refine wk_get B hP 1 rfl fl_Ratio_27 (v := .int (iI pw2)) rfl d_Ratio_copy_32 ?_
  refine wk_put B hP hD hS 0 rfl fl_Ratio_27 fp_Ratio_3 (v := .int (iI pw2)) rfl rfl (Nat.le_of_ble_eq_true rfl) d_Ratio_copy_35 (fun H locs hP hD hS => ?_)
  have hP : va_P D classes [(h, .inr (1, [.ref tn1, .ref bn1, .int (bI neg2), .int (iI pw2)])), (h2, .inr (1, [.ref tn2, .ref bn2, .int (bI neg2), .int (iI pw2)])), (tn1, .inr (0, [.ref ta1, .int (iI tk2)])), (ta1, .inl (E.1, 224, .inl (ia g3_1))), (tn2, .inr (0, [.ref ta2, .int (iI tk2)])), (ta2, .inl (E.1, 224, .inl (ia tg2))), (bn1, .inr (0, [.ref ba1, .int (iI bk2)])), (ba1, .inl (E.1, 224, .inl (ia g3_3))), (bn2, .inr (0, [.ref ba2, .int (iI bk2)])), (ba2, .inl (E.1, 224, .inl (ia bg2)))] H := hP
  have hD : va_D A [(h, .inr (1, [.ref tn1, .ref bn1, .int (bI neg2), .int (iI pw2)])), (h2, .inr (1, [.ref tn2, .ref bn2, .int (bI neg2), .int (iI pw2)])), (tn1, .inr (0, [.ref ta1, .int (iI tk2)])), (ta1, .inl (E.1, 224, .inl (ia g3_1))), (tn2, .inr (0, [.ref ta2, .int (iI tk2)])), (ta2, .inl (E.1, 224, .inl (ia tg2))), (bn1, .inr (0, [.ref ba1, .int (iI bk2)])), (ba1, .inl (E.1, 224, .inl (ia g3_3))), (bn2, .inr (0, [.ref ba2, .int (iI bk2)])), (ba2, .inl (E.1, 224, .inl (ia bg2)))] := hD
  exact ret (g3_1, g3_3) _ _ _ _ d_Ratio_copy_38 (show (NatOK g3_1 tk2 v) ∧ (NatOK g3_3 bk2 b) from ⟨hM_2, hM_4⟩) (hP.sub [0, 2, 3, 6, 7, 1, 4, 5, 8, 9] rfl) (hD.sub [0, 2, 3, 6, 7, 1, 4, 5, 8, 9] (by decide) rfl) hS
set_option maxHeartbeats 4000000 in
set_option maxRecDepth 100000 in
theorem c_Ratio_sign (l : Launch) (D : va_G) (E : EVt) (h : Nat) (tn : Nat) (ta : Nat) (bn : Nat) (tg : Int → Int) (tk : Int) (pw : Int) (v : Int) (neg : Bool) (hT : NatOK tg tk v) : CT l D classes (tyl E) (EVX E) y_Ratio_sign (Cond.code y_Ratio_sign b_Ratio_sign 1 (some .int) :: TB) (rmK 0 0 0 0) 0 0 [.ref h] [(h, .inr (1, [.ref tn, .ref bn, .int (bI neg), .int (iI pw)])), (tn, .inr (0, [.ref ta, .int (iI tk)])), (ta, .inl (E.1, 224, .inl (ia tg)))] (S := Int) (fun _ => [(h, .inr (1, [.ref tn, .ref bn, .int (bI neg), .int (iI pw)])), (tn, .inr (0, [.ref ta, .int (iI tk)])), (ta, .inl (E.1, 224, .inl (ia tg)))]) (fun u => some (.int (iI u))) (fun u => (u = sgnR neg v)) := by
  refine CT.ofi (fv := fun (u : Int) => u) (eok E) (by decide) rfl (Nat.le_of_ble_eq_true rfl) ?_
  intro p e s m args below meth c A Q ls B hmn hP hD hS hl ret
  have B : Bd l D classes (tyl E) (EVX E) p m c b_Ratio_sign 1 s args (Cond.code y_Ratio_sign b_Ratio_sign 1 (some .int) :: TB) R_Ratio A := B
  obtain ⟨⟨hx, hb, hml, hown, hts⟩, hX, hK, hE, hA⟩ := id B
  have hl : lv_has ls 1 [(0, .ref h)] := hl
  have hP : va_P D classes [(h, .inr (1, [.ref tn, .ref bn, .int (bI neg), .int (iI pw)])), (tn, .inr (0, [.ref ta, .int (iI tk)])), (ta, .inl (E.1, 224, .inl (ia tg)))] s.heap := hP
  have hD : va_D A [(h, .inr (1, [.ref tn, .ref bn, .int (bI neg), .int (iI pw)])), (tn, .inr (0, [.ref ta, .int (iI tk)])), (ta, .inl (E.1, 224, .inl (ia tg)))] := hD
  have hk := hT.k
  have hz := hT.zero
  refine lv_aload_n hx hb d_Ratio_sign_0 rfl (lv_at hl 0 rfl) ?_
  refine wk_get B hP 0 rfl fl_Ratio_10 (v := .ref tn) rfl d_Ratio_sign_1 ?_
  refine wk_get B hP 1 rfl fl_Ratio_35 (v := .int (iI tk)) rfl d_Ratio_sign_4 ?_
  refine wi_if_ne (tgt := 14) hx hb d_Ratio_sign_7 (by decide) (by omega) (fun c_1 => ?_) (fun c_1 => ?_)
  · skip
    refine lv_aload_n hx hb d_Ratio_sign_14 rfl (lv_at hl 0 rfl) ?_
    refine wk_get B hP 0 rfl fl_Ratio_23 (v := .int (bI neg)) rfl d_Ratio_sign_15 ?_
    refine wb_if_eq (tgt := 25) hx hb d_Ratio_sign_18 (by decide) (fun c_2 => ?_) (fun c_2 => ?_)
    · skip
      refine wi_iconst (n := 1) hx hb d_Ratio_sign_25 ?_
      exact ret 1 _ _ _ _ d_Ratio_sign_26 (show (1 = sgnR neg v) from (by unfold sgnR; rw [if_neg (by omega), c_2]; rfl)) (hP.sub [0, 1, 2] rfl) (hD.sub [0, 1, 2] (by decide) rfl) hS
    · skip
      refine wi_iconst (n := -1) hx hb d_Ratio_sign_21 ?_
      refine lv_goto (tgt := 26) hx hb d_Ratio_sign_22 (by decide) ?_
      exact ret (-1) _ _ _ _ d_Ratio_sign_26 (show ((-1) = sgnR neg v) from (by unfold sgnR; rw [if_neg (by omega), c_2]; rfl)) (hP.sub [0, 1, 2] rfl) (hD.sub [0, 1, 2] (by decide) rfl) hS
  · skip
    refine wi_iconst (n := 0) hx hb d_Ratio_sign_10 ?_
    refine lv_goto (tgt := 26) hx hb d_Ratio_sign_11 (by decide) ?_
    exact ret 0 _ _ _ _ d_Ratio_sign_26 (show (0 = sgnR neg v) from (by unfold sgnR; rw [if_pos (by omega)])) (hP.sub [0, 1, 2] rfl) (hD.sub [0, 1, 2] (by decide) rfl) hS
set_option maxHeartbeats 4000000 in
set_option maxRecDepth 100000 in
theorem c_Ratio_addToTop (l : Launch) (D : va_G) (E : EVt) (h : Nat) (tn : Nat) (ta : Nat) (bn : Nat) (tg : Int → Int) (tk : Int) (pw : Int) (neg : Bool) (h2 : Nat) (a2 : Nat) (g2 : Int → Int) (k2 : Int) (isn : Bool) (v : Int) (w : Int) (hT : NatOK tg tk v) (hM : NatOK g2 k2 w) (hf1 : v + w < PB 224) : CT l D classes (tyl E) (EVX E) y_Ratio_addToTop (Cond.code y_Ratio_addToTop b_Ratio_addToTop 3 none :: TB) (rmK 2 0 0 57) 0 0 [.ref h, .ref h2, .int (bI isn)] [(h, .inr (1, [.ref tn, .ref bn, .int (bI neg), .int (iI pw)])), (tn, .inr (0, [.ref ta, .int (iI tk)])), (ta, .inl (E.1, 224, .inl (ia tg))), (h2, .inr (0, [.ref a2, .int (iI k2)])), (a2, .inl (E.1, 224, .inl (ia g2)))] (S := (Int → Int) × Int × Int × Bool) (fun u => [(h, .inr (1, [.ref tn, .ref bn, .int (bI u.2.2.2), .int (iI pw)])), (tn, .inr (0, [.ref ta, .int (iI u.2.1)])), (ta, .inl (E.1, 224, .inl (ia u.1))), (h2, .inr (0, [.ref a2, .int (iI k2)])), (a2, .inl (E.1, 224, .inl (ia g2)))]) (fun _ => none) (fun u => (NatOK u.1 u.2.1 u.2.2.1) ∧ (sv u.2.2.2 u.2.2.1 = sv neg v + sv isn w)) := by
  refine CT.ofv (eok E) (by decide) rfl (Nat.le_of_ble_eq_true rfl) ?_
  intro p e s m args below meth c A Q ls B hmn hP hD hS hl ret
  have B : Bd l D classes (tyl E) (EVX E) p m c b_Ratio_addToTop 3 s args (Cond.code y_Ratio_addToTop b_Ratio_addToTop 3 none :: TB) R_Ratio A := B
  obtain ⟨⟨hx, hb, hml, hown, hts⟩, hX, hK, hE, hA⟩ := id B
  have hl : lv_has ls 3 [(0, .ref h), (1, .ref h2), (2, .int (bI isn))] := hl
  have hP : va_P D classes [(h, .inr (1, [.ref tn, .ref bn, .int (bI neg), .int (iI pw)])), (tn, .inr (0, [.ref ta, .int (iI tk)])), (ta, .inl (E.1, 224, .inl (ia tg))), (h2, .inr (0, [.ref a2, .int (iI k2)])), (a2, .inl (E.1, 224, .inl (ia g2)))] s.heap := hP
  have hD : va_D A [(h, .inr (1, [.ref tn, .ref bn, .int (bI neg), .int (iI pw)])), (tn, .inr (0, [.ref ta, .int (iI tk)])), (ta, .inl (E.1, 224, .inl (ia tg))), (h2, .inr (0, [.ref a2, .int (iI k2)])), (a2, .inl (E.1, 224, .inl (ia g2)))] := hD
  refine lv_aload_n hx hb d_Ratio_addToTop_0 rfl (lv_at hl 0 rfl) ?_
  refine wk_get B hP 0 rfl fl_Ratio_23 (v := .int (bI neg)) rfl d_Ratio_addToTop_1 ?_
  refine lv_iload_n hx hb d_Ratio_addToTop_4 rfl (lv_at hl 2 rfl) ?_
  refine wb_icmp_ne (tgt := 19) hx hb d_Ratio_addToTop_5 (by decide) (fun c_1 => ?_) (fun c_1 => ?_)
  · skip
    refine lv_aload_n hx hb d_Ratio_addToTop_19 rfl (lv_at hl 0 rfl) ?_
    refine wk_get B hP 0 rfl fl_Ratio_10 (v := .ref tn) rfl d_Ratio_addToTop_20 ?_
    refine lv_aload_n hx hb d_Ratio_addToTop_23 rfl (lv_at hl 1 rfl) ?_
    refine wi_iconst (n := 0) hx hb d_Ratio_addToTop_24 ?_
    refine wk_callV (As := [.ref h2, .int (iI 0)]) (rest := []) (wr := [(h, .inr (1, [.ref tn, .ref bn, .int (bI neg), .int (iI pw)]))]) B gTB cl_Ratio_41 (c_Natural_compareWith l D E tn ta tg tk h2 a2 g2 k2 0 v w (hT) (hM) (by omega) (Or.inl rfl)) ⟨⟨rfl, rfl⟩, Nat.le_of_ble_eq_true rfl, Nat.le_of_ble_eq_true rfl⟩ hP hD hS [1, 2, 3, 4] [0] rfl rfl (by decide) 1 rfl rfl rfl ⟨hl.2.1, hl.1⟩ rfl (Nat.le_of_ble_eq_true rfl) d_Ratio_addToTop_25 ⟨Nat.le_of_ble_eq_true rfl, Nat.le_of_ble_eq_true rfl⟩ rfl (fun rc H locs hw hP hD hS => ?_)
    have hP : va_P D classes [(h, .inr (1, [.ref tn, .ref bn, .int (bI neg), .int (iI pw)])), (tn, .inr (0, [.ref ta, .int (iI tk)])), (ta, .inl (E.1, 224, .inl (ia tg))), (h2, .inr (0, [.ref a2, .int (iI k2)])), (a2, .inl (E.1, 224, .inl (ia g2)))] H := hP
    have hD : va_D A [(h, .inr (1, [.ref tn, .ref bn, .int (bI neg), .int (iI pw)])), (tn, .inr (0, [.ref ta, .int (iI tk)])), (ta, .inl (E.1, 224, .inl (ia tg))), (h2, .inr (0, [.ref a2, .int (iI k2)])), (a2, .inl (E.1, 224, .inl (ia g2)))] := hD
    have hw : (CmpR rc v (w * PB 0)) := hw
    have hcmp := hw
    refine W.cs (g := F0 m 28 ls [.int (iI rc)]) (cells' := 0) (slots' := 0) rfl rfl ?_
    rw [PB_0, Int.mul_one] at hcmp
    have hrr := hcmp.1
    have hr1 := hcmp.2.1
    refine wi_if_lt (tgt := 44) hx hb d_Ratio_addToTop_28 (by decide) (by omega) (fun c_2 => ?_) (fun c_2 => ?_)
    · skip
      refine lv_aload_n hx hb d_Ratio_addToTop_44 rfl (lv_at hl 0 rfl) ?_
      refine wk_get B hP 0 rfl fl_Ratio_10 (v := .ref tn) rfl d_Ratio_addToTop_45 ?_
      refine lv_aload_n hx hb d_Ratio_addToTop_48 rfl (lv_at hl 1 rfl) ?_
      refine wk_callV (As := [.ref h2]) (rest := []) (wr := [(h, .inr (1, [.ref tn, .ref bn, .int (bI neg), .int (iI pw)]))]) B gTB cl_Ratio_49 (c_Natural_takeFrom l D E tn ta tg tk h2 a2 g2 k2 v w (hT) (hM) (by omega)) ⟨⟨rfl, rfl⟩, Nat.le_of_ble_eq_true rfl, Nat.le_of_ble_eq_true rfl⟩ hP hD hS [1, 2, 3, 4] [0] rfl rfl (by decide) 1 rfl rfl rfl ⟨hl.2.1, hl.1⟩ rfl (Nat.le_of_ble_eq_true rfl) d_Ratio_addToTop_49 ⟨Nat.le_of_ble_eq_true rfl, Nat.le_of_ble_eq_true rfl⟩ rfl (fun u H locs hw hP hD hS => ?_)
      obtain ⟨g3_3, k3_4⟩ := u
      have hP : va_P D classes [(h, .inr (1, [.ref tn, .ref bn, .int (bI neg), .int (iI pw)])), (tn, .inr (0, [.ref ta, .int (iI k3_4)])), (ta, .inl (E.1, 224, .inl (ia g3_3))), (h2, .inr (0, [.ref a2, .int (iI k2)])), (a2, .inl (E.1, 224, .inl (ia g2)))] H := hP
      have hD : va_D A [(h, .inr (1, [.ref tn, .ref bn, .int (bI neg), .int (iI pw)])), (tn, .inr (0, [.ref ta, .int (iI k3_4)])), (ta, .inl (E.1, 224, .inl (ia g3_3))), (h2, .inr (0, [.ref a2, .int (iI k2)])), (a2, .inl (E.1, 224, .inl (ia g2)))] := hD
      have hw : (NatOK g3_3 k3_4 (w - v)) := hw
      have hO_5 := hw
      refine W.cs (g := F0 m 52 ls []) (cells' := 0) (slots' := 0) rfl rfl ?_
      refine lv_aload_n hx hb d_Ratio_addToTop_52 rfl (lv_at hl 0 rfl) ?_
      refine lv_iload_n hx hb d_Ratio_addToTop_53 rfl (lv_at hl 2 rfl) ?_
      refine wk_put B hP hD hS 0 rfl fl_Ratio_23 fp_Ratio_2 (v := .int (bI isn)) (bI_nar _) (bI_fit _) (Nat.le_of_ble_eq_true rfl) d_Ratio_addToTop_54 (fun H locs hP hD hS => ?_)
      have hP : va_P D classes [(h, .inr (1, [.ref tn, .ref bn, .int (bI isn), .int (iI pw)])), (tn, .inr (0, [.ref ta, .int (iI k3_4)])), (ta, .inl (E.1, 224, .inl (ia g3_3))), (h2, .inr (0, [.ref a2, .int (iI k2)])), (a2, .inl (E.1, 224, .inl (ia g2)))] H := hP
      have hD : va_D A [(h, .inr (1, [.ref tn, .ref bn, .int (bI isn), .int (iI pw)])), (tn, .inr (0, [.ref ta, .int (iI k3_4)])), (ta, .inl (E.1, 224, .inl (ia g3_3))), (h2, .inr (0, [.ref a2, .int (iI k2)])), (a2, .inl (E.1, 224, .inl (ia g2)))] := hD
      exact ret (g3_3, k3_4, w - v, isn) _ _ _ _ d_Ratio_addToTop_57 (show (NatOK g3_3 k3_4 (w - v)) ∧ (sv isn (w - v) = sv neg v + sv isn w) from ⟨hO_5, sv_tak c_1⟩) (hP.sub [0, 1, 2, 3, 4] rfl) (hD.sub [0, 1, 2, 3, 4] (by decide) rfl) hS
    · skip
      refine lv_aload_n hx hb d_Ratio_addToTop_31 rfl (lv_at hl 0 rfl) ?_
      refine wk_get B hP 0 rfl fl_Ratio_10 (v := .ref tn) rfl d_Ratio_addToTop_32 ?_
      refine lv_aload_n hx hb d_Ratio_addToTop_35 rfl (lv_at hl 1 rfl) ?_
      refine wi_lconst (z := 1) hx hb d_Ratio_addToTop_36 (by decide) ?_
      refine wi_iconst (n := 0) hx hb d_Ratio_addToTop_37 ?_
      refine wk_callV (As := [.ref h2, .long (lI 1), .int (iI 0)]) (rest := []) (wr := [(h, .inr (1, [.ref tn, .ref bn, .int (bI neg), .int (iI pw)]))]) B gTB cl_Ratio_45 (c_Natural_minusTimes l D E tn ta tg tk h2 a2 g2 k2 1 0 v w (hT) (hM) (by omega) (by omega) (by rw [PB_0, Int.mul_one, Int.one_mul]; omega)) ⟨⟨rfl, rfl⟩, Nat.le_of_ble_eq_true rfl, Nat.le_of_ble_eq_true rfl⟩ hP hD hS [1, 2, 3, 4] [0] rfl rfl (by decide) 1 rfl rfl rfl ⟨hl.2.1, hl.1⟩ rfl (Nat.le_of_ble_eq_true rfl) d_Ratio_addToTop_38 ⟨Nat.le_of_ble_eq_true rfl, Nat.le_of_ble_eq_true rfl⟩ rfl (fun u H locs hw hP hD hS => ?_)
      obtain ⟨g3_6, k3_7⟩ := u
      have hP : va_P D classes [(h, .inr (1, [.ref tn, .ref bn, .int (bI neg), .int (iI pw)])), (tn, .inr (0, [.ref ta, .int (iI k3_7)])), (ta, .inl (E.1, 224, .inl (ia g3_6))), (h2, .inr (0, [.ref a2, .int (iI k2)])), (a2, .inl (E.1, 224, .inl (ia g2)))] H := hP
      have hD : va_D A [(h, .inr (1, [.ref tn, .ref bn, .int (bI neg), .int (iI pw)])), (tn, .inr (0, [.ref ta, .int (iI k3_7)])), (ta, .inl (E.1, 224, .inl (ia g3_6))), (h2, .inr (0, [.ref a2, .int (iI k2)])), (a2, .inl (E.1, 224, .inl (ia g2)))] := hD
      have hw : (NatOK g3_6 k3_7 (v - 1 * w * PB 0)) := hw
      have hO_8 := hw
      refine W.cs (g := F0 m 41 ls []) (cells' := 0) (slots' := 0) rfl rfl ?_
      refine lv_goto (tgt := 57) hx hb d_Ratio_addToTop_41 (by decide) ?_
      exact ret (g3_6, k3_7, v - 1 * w * PB 0, neg) _ _ _ _ d_Ratio_addToTop_57 (show (NatOK g3_6 k3_7 (v - 1 * w * PB 0)) ∧ (sv neg (v - 1 * w * PB 0) = sv neg v + sv isn w) from ⟨hO_8, sv_sub c_1⟩) (hP.sub [0, 1, 2, 3, 4] rfl) (hD.sub [0, 1, 2, 3, 4] (by decide) rfl) hS
  · skip
    refine lv_aload_n hx hb d_Ratio_addToTop_8 rfl (lv_at hl 0 rfl) ?_
    refine wk_get B hP 0 rfl fl_Ratio_10 (v := .ref tn) rfl d_Ratio_addToTop_9 ?_
    refine lv_aload_n hx hb d_Ratio_addToTop_12 rfl (lv_at hl 1 rfl) ?_
    refine wk_callV (As := [.ref h2]) (rest := []) (wr := [(h, .inr (1, [.ref tn, .ref bn, .int (bI neg), .int (iI pw)]))]) B gTB cl_Ratio_38 (c_Natural_plus l D E tn ta tg tk h2 a2 g2 k2 v w (hT) (hM) (by omega)) ⟨⟨rfl, rfl⟩, Nat.le_of_ble_eq_true rfl, Nat.le_of_ble_eq_true rfl⟩ hP hD hS [1, 2, 3, 4] [0] rfl rfl (by decide) 1 rfl rfl rfl ⟨hl.2.1, hl.1⟩ rfl (Nat.le_of_ble_eq_true rfl) d_Ratio_addToTop_13 ⟨Nat.le_of_ble_eq_true rfl, Nat.le_of_ble_eq_true rfl⟩ rfl (fun u H locs hw hP hD hS => ?_)
    obtain ⟨g3_9, k3_10⟩ := u
    have hP : va_P D classes [(h, .inr (1, [.ref tn, .ref bn, .int (bI neg), .int (iI pw)])), (tn, .inr (0, [.ref ta, .int (iI k3_10)])), (ta, .inl (E.1, 224, .inl (ia g3_9))), (h2, .inr (0, [.ref a2, .int (iI k2)])), (a2, .inl (E.1, 224, .inl (ia g2)))] H := hP
    have hD : va_D A [(h, .inr (1, [.ref tn, .ref bn, .int (bI neg), .int (iI pw)])), (tn, .inr (0, [.ref ta, .int (iI k3_10)])), (ta, .inl (E.1, 224, .inl (ia g3_9))), (h2, .inr (0, [.ref a2, .int (iI k2)])), (a2, .inl (E.1, 224, .inl (ia g2)))] := hD
    have hw : (NatOK g3_9 k3_10 (v + w)) := hw
    have hO_11 := hw
    refine W.cs (g := F0 m 16 ls []) (cells' := 0) (slots' := 0) rfl rfl ?_
    refine lv_goto (tgt := 57) hx hb d_Ratio_addToTop_16 (by decide) ?_
    exact ret (g3_9, k3_10, v + w, neg) _ _ _ _ d_Ratio_addToTop_57 (show (NatOK g3_9 k3_10 (v + w)) ∧ (sv neg (v + w) = sv neg v + sv isn w) from ⟨hO_11, sv_add c_1⟩) (hP.sub [0, 1, 2, 3, 4] rfl) (hD.sub [0, 1, 2, 3, 4] (by decide) rfl) hS
set_option maxHeartbeats 4000000 in
set_option maxRecDepth 100000 in
theorem c_Ratio_timesPowerOfTen (l : Launch) (D : va_G) (E : EVt) (h : Nat) (tn : Nat) (ta : Nat) (bn : Nat) (ba : Nat) (tg : Int → Int) (bg : Int → Int) (tk : Int) (bk : Int) (pw : Int) (neg : Bool) (ex : Int) (v : Int) (b : Int) (hT : NatOK tg tk v) (hB : NatOK bg bk b) (he : -100000 ≤ ex ∧ ex ≤ 100000) (hpw : -1000000 ≤ pw ∧ pw ≤ 1000000) (hf1 : v * P5 ex < PB 224) (hf2 : b * P5 (-ex) < PB 224) : CT l D classes (tyl E) (EVX E) y_Ratio_timesPowerOfTen (Cond.code y_Ratio_timesPowerOfTen b_Ratio_timesPowerOfTen 2 none :: TB) (rmK 2 0 0 52) 0 0 [.ref h, .int (iI ex)] [(h, .inr (1, [.ref tn, .ref bn, .int (bI neg), .int (iI pw)])), (tn, .inr (0, [.ref ta, .int (iI tk)])), (ta, .inl (E.1, 224, .inl (ia tg))), (bn, .inr (0, [.ref ba, .int (iI bk)])), (ba, .inl (E.1, 224, .inl (ia bg)))] (S := (Int → Int) × (Int → Int) × Int × Int) (fun u => [(h, .inr (1, [.ref tn, .ref bn, .int (bI neg), .int (iI (pw + ex))])), (tn, .inr (0, [.ref ta, .int (iI u.2.2.1)])), (ta, .inl (E.1, 224, .inl (ia u.1))), (bn, .inr (0, [.ref ba, .int (iI u.2.2.2)])), (ba, .inl (E.1, 224, .inl (ia u.2.1)))]) (fun _ => none) (fun u => (NatOK u.1 u.2.2.1 (v * P5 ex)) ∧ (NatOK u.2.1 u.2.2.2 (b * P5 (-ex)))) := by
  refine CT.ofv (eok E) (by decide) rfl (Nat.le_of_ble_eq_true rfl) ?_
  intro p e s m args below meth c A Q ls B hmn hP hD hS hl ret
  have B : Bd l D classes (tyl E) (EVX E) p m c b_Ratio_timesPowerOfTen 2 s args (Cond.code y_Ratio_timesPowerOfTen b_Ratio_timesPowerOfTen 2 none :: TB) R_Ratio A := B
  obtain ⟨⟨hx, hb, hml, hown, hts⟩, hX, hK, hE, hA⟩ := id B
  have hl : lv_has ls 2 [(0, .ref h), (1, .int (iI ex))] := hl
  have hP : va_P D classes [(h, .inr (1, [.ref tn, .ref bn, .int (bI neg), .int (iI pw)])), (tn, .inr (0, [.ref ta, .int (iI tk)])), (ta, .inl (E.1, 224, .inl (ia tg))), (bn, .inr (0, [.ref ba, .int (iI bk)])), (ba, .inl (E.1, 224, .inl (ia bg)))] s.heap := hP
  have hD : va_D A [(h, .inr (1, [.ref tn, .ref bn, .int (bI neg), .int (iI pw)])), (tn, .inr (0, [.ref ta, .int (iI tk)])), (ta, .inl (E.1, 224, .inl (ia tg))), (bn, .inr (0, [.ref ba, .int (iI bk)])), (ba, .inl (E.1, 224, .inl (ia bg)))] := hD
  have K_24 : ∀ (tg4 : Int → Int) (bg4 : Int → Int) (tk4 : Int) (bk4 : Int) (hT4 : NatOK tg4 tk4 (v * P5 ex)) (hB4 : NatOK bg4 bk4 (b * P5 (-ex))) (ls : Array Slot) (H : Heap) (locs : List Loc), lv_has ls 2 [(0, .ref h), (1, .int (iI ex))] → va_P D classes [(h, .inr (1, [.ref tn, .ref bn, .int (bI neg), .int (iI pw)])), (tn, .inr (0, [.ref ta, .int (iI tk4)])), (ta, .inl (E.1, 224, .inl (ia tg4))), (bn, .inr (0, [.ref ba, .int (iI bk4)])), (ba, .inl (E.1, 224, .inl (ia bg4)))] H → va_D A [(h, .inr (1, [.ref tn, .ref bn, .int (bI neg), .int (iI pw)])), (tn, .inr (0, [.ref ta, .int (iI tk4)])), (ta, .inl (E.1, 224, .inl (ia tg4))), (bn, .inr (0, [.ref ba, .int (iI bk4)])), (ba, .inl (E.1, 224, .inl (ia bg4)))] → va_S A s.heap H locs → W p l e (rmK 2 0 0 52) s m args below meth c H locs 0 0 Q (F0 m 24 ls []) := by
    intro tg4 bg4 tk4 bk4 hT4 hB4 ls H locs hl hP hD hS
    refine lv_aload_n hx hb d_Ratio_timesPowerOfTen_24 rfl (lv_at hl 0 rfl) ?_
    refine lv_dup hx hb d_Ratio_timesPowerOfTen_25 rfl ?_
    refine wk_get B hP 0 rfl fl_Ratio_27 (v := .int (iI pw)) rfl d_Ratio_timesPowerOfTen_26 ?_
    refine lv_iload_n hx hb d_Ratio_timesPowerOfTen_29 rfl (lv_at hl 1 rfl) ?_
    refine wi_iadd hx hb d_Ratio_timesPowerOfTen_30 ?_
    refine wk_put B hP hD hS 0 rfl fl_Ratio_27 fp_Ratio_3 (v := .int (iI (pw + ex))) rfl rfl (Nat.le_of_ble_eq_true rfl) d_Ratio_timesPowerOfTen_31 (fun H locs hP hD hS => ?_)
    have hP : va_P D classes [(h, .inr (1, [.ref tn, .ref bn, .int (bI neg), .int (iI (pw + ex))])), (tn, .inr (0, [.ref ta, .int (iI tk4)])), (ta, .inl (E.1, 224, .inl (ia tg4))), (bn, .inr (0, [.ref ba, .int (iI bk4)])), (ba, .inl (E.1, 224, .inl (ia bg4)))] H := hP
    have hD : va_D A [(h, .inr (1, [.ref tn, .ref bn, .int (bI neg), .int (iI (pw + ex))])), (tn, .inr (0, [.ref ta, .int (iI tk4)])), (ta, .inl (E.1, 224, .inl (ia tg4))), (bn, .inr (0, [.ref ba, .int (iI bk4)])), (ba, .inl (E.1, 224, .inl (ia bg4)))] := hD
    exact ret (tg4, bg4, tk4, bk4) _ _ _ _ d_Ratio_timesPowerOfTen_34 (show (NatOK tg4 tk4 (v * P5 ex)) ∧ (NatOK bg4 bk4 (b * P5 (-ex))) from ⟨hT4, hB4⟩) (hP.sub [0, 1, 2, 3, 4] rfl) (hD.sub [0, 1, 2, 3, 4] (by decide) rfl) hS
  refine lv_iload_n hx hb d_Ratio_timesPowerOfTen_0 rfl (lv_at hl 1 rfl) ?_
  refine wi_if_lt (tgt := 15) hx hb d_Ratio_timesPowerOfTen_1 (by decide) (by omega) (fun c_1 => ?_) (fun c_1 => ?_)
  · skip
    refine lv_aload_n hx hb d_Ratio_timesPowerOfTen_15 rfl (lv_at hl 0 rfl) ?_
    refine wk_get B hP 0 rfl fl_Ratio_16 (v := .ref bn) rfl d_Ratio_timesPowerOfTen_16 ?_
    refine lv_iload_n hx hb d_Ratio_timesPowerOfTen_19 rfl (lv_at hl 1 rfl) ?_
    refine wi_ineg hx hb d_Ratio_timesPowerOfTen_20 ?_
    refine wk_callV (As := [.int (iI (-ex))]) (rest := []) (wr := [(h, .inr (1, [.ref tn, .ref bn, .int (bI neg), .int (iI pw)])), (tn, .inr (0, [.ref ta, .int (iI tk)])), (ta, .inl (E.1, 224, .inl (ia tg)))]) B gTB cl_Ratio_52 (c_Natural_timesPowerOfFive l D E bn ba bg bk (-ex) b (hB) (by omega) (hf2)) ⟨⟨rfl, rfl⟩, Nat.le_of_ble_eq_true rfl, Nat.le_of_ble_eq_true rfl⟩ hP hD hS [3, 4] [0, 1, 2] rfl rfl (by decide) 3 rfl rfl rfl ⟨hl.2.1, hl.1⟩ rfl (Nat.le_of_ble_eq_true rfl) d_Ratio_timesPowerOfTen_21 ⟨Nat.le_of_ble_eq_true rfl, Nat.le_of_ble_eq_true rfl⟩ rfl (fun u H locs hw hP hD hS => ?_)
    obtain ⟨g2_2, k2_3⟩ := u
    have hP : va_P D classes [(h, .inr (1, [.ref tn, .ref bn, .int (bI neg), .int (iI pw)])), (tn, .inr (0, [.ref ta, .int (iI tk)])), (ta, .inl (E.1, 224, .inl (ia tg))), (bn, .inr (0, [.ref ba, .int (iI k2_3)])), (ba, .inl (E.1, 224, .inl (ia g2_2)))] H := hP
    have hD : va_D A [(h, .inr (1, [.ref tn, .ref bn, .int (bI neg), .int (iI pw)])), (tn, .inr (0, [.ref ta, .int (iI tk)])), (ta, .inl (E.1, 224, .inl (ia tg))), (bn, .inr (0, [.ref ba, .int (iI k2_3)])), (ba, .inl (E.1, 224, .inl (ia g2_2)))] := hD
    have hw : (NatOK g2_2 k2_3 (b * P5 (-ex))) := hw
    have hM_4 := hw
    refine W.cs (g := F0 m 24 ls []) (cells' := 0) (slots' := 0) rfl rfl ?_
    exact K_24 tg g2_2 tk k2_3 (by rw [P5_0 (by omega), Int.mul_one]; exact hT) (hM_4) _ _ _ (lv_sub hl [0, 1] rfl) (hP.sub [0, 1, 2, 3, 4] rfl) (hD.sub [0, 1, 2, 3, 4] (by decide) rfl) hS
  · skip
    refine lv_aload_n hx hb d_Ratio_timesPowerOfTen_4 rfl (lv_at hl 0 rfl) ?_
    refine wk_get B hP 0 rfl fl_Ratio_10 (v := .ref tn) rfl d_Ratio_timesPowerOfTen_5 ?_
    refine lv_iload_n hx hb d_Ratio_timesPowerOfTen_8 rfl (lv_at hl 1 rfl) ?_
    refine wk_callV (As := [.int (iI ex)]) (rest := []) (wr := [(h, .inr (1, [.ref tn, .ref bn, .int (bI neg), .int (iI pw)])), (bn, .inr (0, [.ref ba, .int (iI bk)])), (ba, .inl (E.1, 224, .inl (ia bg)))]) B gTB cl_Ratio_52 (c_Natural_timesPowerOfFive l D E tn ta tg tk ex v (hT) (by omega) (hf1)) ⟨⟨rfl, rfl⟩, Nat.le_of_ble_eq_true rfl, Nat.le_of_ble_eq_true rfl⟩ hP hD hS [1, 2] [0, 3, 4] rfl rfl (by decide) 1 rfl rfl rfl ⟨hl.2.1, hl.1⟩ rfl (Nat.le_of_ble_eq_true rfl) d_Ratio_timesPowerOfTen_9 ⟨Nat.le_of_ble_eq_true rfl, Nat.le_of_ble_eq_true rfl⟩ rfl (fun u H locs hw hP hD hS => ?_)
    obtain ⟨g2_5, k2_6⟩ := u
    have hP : va_P D classes [(h, .inr (1, [.ref tn, .ref bn, .int (bI neg), .int (iI pw)])), (bn, .inr (0, [.ref ba, .int (iI bk)])), (ba, .inl (E.1, 224, .inl (ia bg))), (tn, .inr (0, [.ref ta, .int (iI k2_6)])), (ta, .inl (E.1, 224, .inl (ia g2_5)))] H := hP
    have hD : va_D A [(h, .inr (1, [.ref tn, .ref bn, .int (bI neg), .int (iI pw)])), (bn, .inr (0, [.ref ba, .int (iI bk)])), (ba, .inl (E.1, 224, .inl (ia bg))), (tn, .inr (0, [.ref ta, .int (iI k2_6)])), (ta, .inl (E.1, 224, .inl (ia g2_5)))] := hD
    have hw : (NatOK g2_5 k2_6 (v * P5 ex)) := hw
    have hM_7 := hw
    refine W.cs (g := F0 m 12 ls []) (cells' := 0) (slots' := 0) rfl rfl ?_
    refine lv_goto (tgt := 24) hx hb d_Ratio_timesPowerOfTen_12 (by decide) ?_
    exact K_24 g2_5 bg k2_6 bk (hM_7) (by rw [P5_0 (by omega), Int.mul_one]; exact hB) _ _ _ (lv_sub hl [0, 1] rfl) (hP.sub [0, 3, 4, 1, 2] rfl) (hD.sub [0, 3, 4, 1, 2] (by decide) rfl) hS
