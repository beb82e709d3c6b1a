/-! Num: init, set, copy, sign, setFloat, times -/
abbrev b_Num_init : ByteArray := prog_11_method_1_code
def y_Num_init : MethodName := ⟨"IntervalTextModel$Num", "<init>", "()V"⟩
abbrev b_Num_set : ByteArray := prog_11_method_2_code
def y_Num_set : MethodName := ⟨"IntervalTextModel$Num", "set", "(J)V"⟩
abbrev b_Num_copy : ByteArray := prog_11_method_3_code
def y_Num_copy : MethodName := ⟨"IntervalTextModel$Num", "copy", "(LIntervalTextModel$Num;)V"⟩
abbrev b_Num_sign : ByteArray := prog_11_method_4_code
def y_Num_sign : MethodName := ⟨"IntervalTextModel$Num", "sign", "()I"⟩
abbrev b_Num_setFloat : ByteArray := prog_11_method_5_code
def y_Num_setFloat : MethodName := ⟨"IntervalTextModel$Num", "setFloat", "(J)V"⟩
abbrev b_Num_times : ByteArray := prog_11_method_6_code
def y_Num_times : MethodName := ⟨"IntervalTextModel$Num", "times", "(LIntervalTextModel$Num;LIntervalTextModel$Num;)V"⟩
theorem d_Num_init_0 : decode b_Num_init 0 = .ok (.aload_n 0, 1) := by decide +kernel
theorem d_Num_init_1 : decode b_Num_init 1 = .ok (.invokespecial 1, 3) := by decide +kernel
theorem d_Num_init_4 : decode b_Num_init 4 = .ok (.aload_n 0, 1) := by decide +kernel
theorem d_Num_init_5 : decode b_Num_init 5 = .ok (.new 7, 3) := by decide +kernel
theorem d_Num_init_8 : decode b_Num_init 8 = .ok (.dup, 1) := by decide +kernel
theorem d_Num_init_9 : decode b_Num_init 9 = .ok (.invokespecial 9, 3) := by decide +kernel
theorem d_Num_init_12 : decode b_Num_init 12 = .ok (.putfield 10, 3) := by decide +kernel
theorem d_Num_init_15 : decode b_Num_init 15 = .ok (.aload_n 0, 1) := by decide +kernel
theorem d_Num_init_16 : decode b_Num_init 16 = .ok (.new 7, 3) := by decide +kernel
theorem d_Num_init_19 : decode b_Num_init 19 = .ok (.dup, 1) := by decide +kernel
theorem d_Num_init_20 : decode b_Num_init 20 = .ok (.invokespecial 9, 3) := by decide +kernel
theorem d_Num_init_23 : decode b_Num_init 23 = .ok (.putfield 16, 3) := by decide +kernel
theorem d_Num_init_26 : decode b_Num_init 26 = .ok (.return_, 1) := by decide +kernel
theorem d_Num_set_0 : decode b_Num_set 0 = .ok (.aload_n 0, 1) := by decide +kernel
theorem d_Num_set_1 : decode b_Num_set 1 = .ok (.lload_n 1, 1) := by decide +kernel
theorem d_Num_set_2 : decode b_Num_set 2 = .ok (.lconst 0, 1) := by decide +kernel
theorem d_Num_set_3 : decode b_Num_set 3 = .ok (.lcmp, 1) := by decide +kernel
theorem d_Num_set_4 : decode b_Num_set 4 = .ok (.ifCond .ge 7, 3) := by decide +kernel
theorem d_Num_set_7 : decode b_Num_set 7 = .ok (.iconst 1, 1) := by decide +kernel
theorem d_Num_set_8 : decode b_Num_set 8 = .ok (.goto 4, 3) := by decide +kernel
theorem d_Num_set_11 : decode b_Num_set 11 = .ok (.iconst 0, 1) := by decide +kernel
theorem d_Num_set_12 : decode b_Num_set 12 = .ok (.putfield 19, 3) := by decide +kernel
theorem d_Num_set_15 : decode b_Num_set 15 = .ok (.aload_n 0, 1) := by decide +kernel
theorem d_Num_set_16 : decode b_Num_set 16 = .ok (.getfield 10, 3) := by decide +kernel
theorem d_Num_set_19 : decode b_Num_set 19 = .ok (.lload_n 1, 1) := by decide +kernel
theorem d_Num_set_20 : decode b_Num_set 20 = .ok (.lconst 0, 1) := by decide +kernel
theorem d_Num_set_21 : decode b_Num_set 21 = .ok (.lcmp, 1) := by decide +kernel
theorem d_Num_set_22 : decode b_Num_set 22 = .ok (.ifCond .ge 8, 3) := by decide +kernel
theorem d_Num_set_25 : decode b_Num_set 25 = .ok (.lload_n 1, 1) := by decide +kernel
theorem d_Num_set_26 : decode b_Num_set 26 = .ok (.lneg, 1) := by decide +kernel
theorem d_Num_set_27 : decode b_Num_set 27 = .ok (.goto 4, 3) := by decide +kernel
theorem d_Num_set_30 : decode b_Num_set 30 = .ok (.lload_n 1, 1) := by decide +kernel
theorem d_Num_set_31 : decode b_Num_set 31 = .ok (.invokevirtual 23, 3) := by decide +kernel
theorem d_Num_set_34 : decode b_Num_set 34 = .ok (.aload_n 0, 1) := by decide +kernel
theorem d_Num_set_35 : decode b_Num_set 35 = .ok (.getfield 16, 3) := by decide +kernel
theorem d_Num_set_38 : decode b_Num_set 38 = .ok (.lconst 1, 1) := by decide +kernel
theorem d_Num_set_39 : decode b_Num_set 39 = .ok (.invokevirtual 23, 3) := by decide +kernel
theorem d_Num_set_42 : decode b_Num_set 42 = .ok (.aload_n 0, 1) := by decide +kernel
theorem d_Num_set_43 : decode b_Num_set 43 = .ok (.iconst 0, 1) := by decide +kernel
theorem d_Num_set_44 : decode b_Num_set 44 = .ok (.putfield 27, 3) := by decide +kernel
theorem d_Num_set_47 : decode b_Num_set 47 = .ok (.return_, 1) := by decide +kernel
theorem d_Num_copy_0 : decode b_Num_copy 0 = .ok (.aload_n 0, 1) := by decide +kernel
theorem d_Num_copy_1 : decode b_Num_copy 1 = .ok (.aload_n 1, 1) := by decide +kernel
theorem d_Num_copy_2 : decode b_Num_copy 2 = .ok (.getfield 19, 3) := by decide +kernel
theorem d_Num_copy_5 : decode b_Num_copy 5 = .ok (.putfield 19, 3) := by decide +kernel
theorem d_Num_copy_8 : decode b_Num_copy 8 = .ok (.aload_n 0, 1) := by decide +kernel
theorem d_Num_copy_9 : decode b_Num_copy 9 = .ok (.getfield 10, 3) := by decide +kernel
theorem d_Num_copy_12 : decode b_Num_copy 12 = .ok (.aload_n 1, 1) := by decide +kernel
theorem d_Num_copy_13 : decode b_Num_copy 13 = .ok (.getfield 10, 3) := by decide +kernel
theorem d_Num_copy_16 : decode b_Num_copy 16 = .ok (.invokevirtual 31, 3) := by decide +kernel
theorem d_Num_copy_19 : decode b_Num_copy 19 = .ok (.aload_n 0, 1) := by decide +kernel
theorem d_Num_copy_20 : decode b_Num_copy 20 = .ok (.getfield 16, 3) := by decide +kernel
theorem d_Num_copy_23 : decode b_Num_copy 23 = .ok (.aload_n 1, 1) := by decide +kernel
theorem d_Num_copy_24 : decode b_Num_copy 24 = .ok (.getfield 16, 3) := by decide +kernel
theorem d_Num_copy_27 : decode b_Num_copy 27 = .ok (.invokevirtual 31, 3) := by decide +kernel
theorem d_Num_copy_30 : decode b_Num_copy 30 = .ok (.aload_n 0, 1) := by decide +kernel
theorem d_Num_copy_31 : decode b_Num_copy 31 = .ok (.aload_n 1, 1) := by decide +kernel
theorem d_Num_copy_32 : decode b_Num_copy 32 = .ok (.getfield 27, 3) := by decide +kernel
theorem d_Num_copy_35 : decode b_Num_copy 35 = .ok (.putfield 27, 3) := by decide +kernel
theorem d_Num_copy_38 : decode b_Num_copy 38 = .ok (.return_, 1) := by decide +kernel
theorem d_Num_sign_0 : decode b_Num_sign 0 = .ok (.aload_n 0, 1) := by decide +kernel
theorem d_Num_sign_1 : decode b_Num_sign 1 = .ok (.getfield 10, 3) := by decide +kernel
theorem d_Num_sign_4 : decode b_Num_sign 4 = .ok (.getfield 35, 3) := by decide +kernel
theorem d_Num_sign_7 : decode b_Num_sign 7 = .ok (.ifCond .ne 7, 3) := by decide +kernel
theorem d_Num_sign_10 : decode b_Num_sign 10 = .ok (.iconst 0, 1) := by decide +kernel
theorem d_Num_sign_11 : decode b_Num_sign 11 = .ok (.goto 15, 3) := by decide +kernel
theorem d_Num_sign_14 : decode b_Num_sign 14 = .ok (.aload_n 0, 1) := by decide +kernel
theorem d_Num_sign_15 : decode b_Num_sign 15 = .ok (.getfield 19, 3) := by decide +kernel
theorem d_Num_sign_18 : decode b_Num_sign 18 = .ok (.ifCond .eq 7, 3) := by decide +kernel
theorem d_Num_sign_21 : decode b_Num_sign 21 = .ok (.iconst (-1), 1) := by decide +kernel
theorem d_Num_sign_22 : decode b_Num_sign 22 = .ok (.goto 4, 3) := by decide +kernel
theorem d_Num_sign_25 : decode b_Num_sign 25 = .ok (.iconst 1, 1) := by decide +kernel
theorem d_Num_sign_26 : decode b_Num_sign 26 = .ok (.ireturn, 1) := by decide +kernel
theorem d_Num_setFloat_0 : decode b_Num_setFloat 0 = .ok (.lload_n 1, 1) := by decide +kernel
theorem d_Num_setFloat_1 : decode b_Num_setFloat 1 = .ok (.bipush 52, 2) := by decide +kernel
theorem d_Num_setFloat_3 : decode b_Num_setFloat 3 = .ok (.lushr, 1) := by decide +kernel
theorem d_Num_setFloat_4 : decode b_Num_setFloat 4 = .ok (.ldc2_w 38, 3) := by decide +kernel
theorem d_Num_setFloat_7 : decode b_Num_setFloat 7 = .ok (.land, 1) := by decide +kernel
theorem d_Num_setFloat_8 : decode b_Num_setFloat 8 = .ok (.lstore_n 3, 1) := by decide +kernel
theorem d_Num_setFloat_9 : decode b_Num_setFloat 9 = .ok (.lload_n 1, 1) := by decide +kernel
theorem d_Num_setFloat_10 : decode b_Num_setFloat 10 = .ok (.ldc2_w 40, 3) := by decide +kernel
theorem d_Num_setFloat_13 : decode b_Num_setFloat 13 = .ok (.land, 1) := by decide +kernel
theorem d_Num_setFloat_14 : decode b_Num_setFloat 14 = .ok (.lstore 5, 2) := by decide +kernel
theorem d_Num_setFloat_16 : decode b_Num_setFloat 16 = .ok (.aload_n 0, 1) := by decide +kernel
theorem d_Num_setFloat_17 : decode b_Num_setFloat 17 = .ok (.lload_n 1, 1) := by decide +kernel
theorem d_Num_setFloat_18 : decode b_Num_setFloat 18 = .ok (.lconst 0, 1) := by decide +kernel
theorem d_Num_setFloat_19 : decode b_Num_setFloat 19 = .ok (.lcmp, 1) := by decide +kernel
theorem d_Num_setFloat_20 : decode b_Num_setFloat 20 = .ok (.ifCond .ge 7, 3) := by decide +kernel
theorem d_Num_setFloat_23 : decode b_Num_setFloat 23 = .ok (.iconst 1, 1) := by decide +kernel
theorem d_Num_setFloat_24 : decode b_Num_setFloat 24 = .ok (.goto 4, 3) := by decide +kernel
theorem d_Num_setFloat_27 : decode b_Num_setFloat 27 = .ok (.iconst 0, 1) := by decide +kernel
theorem d_Num_setFloat_28 : decode b_Num_setFloat 28 = .ok (.putfield 19, 3) := by decide +kernel
theorem d_Num_setFloat_31 : decode b_Num_setFloat 31 = .ok (.aload_n 0, 1) := by decide +kernel
theorem d_Num_setFloat_32 : decode b_Num_setFloat 32 = .ok (.getfield 10, 3) := by decide +kernel
theorem d_Num_setFloat_35 : decode b_Num_setFloat 35 = .ok (.lload_n 3, 1) := by decide +kernel
theorem d_Num_setFloat_36 : decode b_Num_setFloat 36 = .ok (.lconst 0, 1) := by decide +kernel
theorem d_Num_setFloat_37 : decode b_Num_setFloat 37 = .ok (.lcmp, 1) := by decide +kernel
theorem d_Num_setFloat_38 : decode b_Num_setFloat 38 = .ok (.ifCond .ne 8, 3) := by decide +kernel
theorem d_Num_setFloat_41 : decode b_Num_setFloat 41 = .ok (.lload 5, 2) := by decide +kernel
theorem d_Num_setFloat_43 : decode b_Num_setFloat 43 = .ok (.goto 9, 3) := by decide +kernel
theorem d_Num_setFloat_46 : decode b_Num_setFloat 46 = .ok (.lload 5, 2) := by decide +kernel
theorem d_Num_setFloat_48 : decode b_Num_setFloat 48 = .ok (.ldc2_w 42, 3) := by decide +kernel
theorem d_Num_setFloat_51 : decode b_Num_setFloat 51 = .ok (.lor, 1) := by decide +kernel
theorem d_Num_setFloat_52 : decode b_Num_setFloat 52 = .ok (.invokevirtual 23, 3) := by decide +kernel
theorem d_Num_setFloat_55 : decode b_Num_setFloat 55 = .ok (.aload_n 0, 1) := by decide +kernel
theorem d_Num_setFloat_56 : decode b_Num_setFloat 56 = .ok (.getfield 16, 3) := by decide +kernel
theorem d_Num_setFloat_59 : decode b_Num_setFloat 59 = .ok (.lconst 1, 1) := by decide +kernel
theorem d_Num_setFloat_60 : decode b_Num_setFloat 60 = .ok (.invokevirtual 23, 3) := by decide +kernel
theorem d_Num_setFloat_63 : decode b_Num_setFloat 63 = .ok (.aload_n 0, 1) := by decide +kernel
theorem d_Num_setFloat_64 : decode b_Num_setFloat 64 = .ok (.lload_n 3, 1) := by decide +kernel
theorem d_Num_setFloat_65 : decode b_Num_setFloat 65 = .ok (.lconst 0, 1) := by decide +kernel
theorem d_Num_setFloat_66 : decode b_Num_setFloat 66 = .ok (.lcmp, 1) := by decide +kernel
theorem d_Num_setFloat_67 : decode b_Num_setFloat 67 = .ok (.ifCond .ne 9, 3) := by decide +kernel
theorem d_Num_setFloat_70 : decode b_Num_setFloat 70 = .ok (.sipush (-1074), 3) := by decide +kernel
theorem d_Num_setFloat_73 : decode b_Num_setFloat 73 = .ok (.goto 9, 3) := by decide +kernel
theorem d_Num_setFloat_76 : decode b_Num_setFloat 76 = .ok (.lload_n 3, 1) := by decide +kernel
theorem d_Num_setFloat_77 : decode b_Num_setFloat 77 = .ok (.l2i, 1) := by decide +kernel
theorem d_Num_setFloat_78 : decode b_Num_setFloat 78 = .ok (.sipush 1075, 3) := by decide +kernel
theorem d_Num_setFloat_81 : decode b_Num_setFloat 81 = .ok (.isub, 1) := by decide +kernel
theorem d_Num_setFloat_82 : decode b_Num_setFloat 82 = .ok (.putfield 27, 3) := by decide +kernel
theorem d_Num_setFloat_85 : decode b_Num_setFloat 85 = .ok (.return_, 1) := by decide +kernel
theorem d_Num_times_0 : decode b_Num_times 0 = .ok (.aload_n 0, 1) := by decide +kernel
theorem d_Num_times_1 : decode b_Num_times 1 = .ok (.aload_n 1, 1) := by decide +kernel
theorem d_Num_times_2 : decode b_Num_times 2 = .ok (.getfield 19, 3) := by decide +kernel
theorem d_Num_times_5 : decode b_Num_times 5 = .ok (.aload_n 2, 1) := by decide +kernel
theorem d_Num_times_6 : decode b_Num_times 6 = .ok (.getfield 19, 3) := by decide +kernel
theorem d_Num_times_9 : decode b_Num_times 9 = .ok (.if_icmp .eq 7, 3) := by decide +kernel
theorem d_Num_times_12 : decode b_Num_times 12 = .ok (.iconst 1, 1) := by decide +kernel
theorem d_Num_times_13 : decode b_Num_times 13 = .ok (.goto 4, 3) := by decide +kernel
theorem d_Num_times_16 : decode b_Num_times 16 = .ok (.iconst 0, 1) := by decide +kernel
theorem d_Num_times_17 : decode b_Num_times 17 = .ok (.putfield 19, 3) := by decide +kernel
theorem d_Num_times_20 : decode b_Num_times 20 = .ok (.aload_n 0, 1) := by decide +kernel
theorem d_Num_times_21 : decode b_Num_times 21 = .ok (.getfield 10, 3) := by decide +kernel
theorem d_Num_times_24 : decode b_Num_times 24 = .ok (.aload_n 1, 1) := by decide +kernel
theorem d_Num_times_25 : decode b_Num_times 25 = .ok (.getfield 10, 3) := by decide +kernel
theorem d_Num_times_28 : decode b_Num_times 28 = .ok (.aload_n 2, 1) := by decide +kernel
theorem d_Num_times_29 : decode b_Num_times 29 = .ok (.getfield 10, 3) := by decide +kernel
theorem d_Num_times_32 : decode b_Num_times 32 = .ok (.invokevirtual 44, 3) := by decide +kernel
theorem d_Num_times_35 : decode b_Num_times 35 = .ok (.aload_n 0, 1) := by decide +kernel
theorem d_Num_times_36 : decode b_Num_times 36 = .ok (.getfield 16, 3) := by decide +kernel
theorem d_Num_times_39 : decode b_Num_times 39 = .ok (.aload_n 1, 1) := by decide +kernel
theorem d_Num_times_40 : decode b_Num_times 40 = .ok (.getfield 16, 3) := by decide +kernel
theorem d_Num_times_43 : decode b_Num_times 43 = .ok (.aload_n 2, 1) := by decide +kernel
theorem d_Num_times_44 : decode b_Num_times 44 = .ok (.getfield 16, 3) := by decide +kernel
theorem d_Num_times_47 : decode b_Num_times 47 = .ok (.invokevirtual 44, 3) := by decide +kernel
theorem d_Num_times_50 : decode b_Num_times 50 = .ok (.aload_n 0, 1) := by decide +kernel
theorem d_Num_times_51 : decode b_Num_times 51 = .ok (.aload_n 1, 1) := by decide +kernel
theorem d_Num_times_52 : decode b_Num_times 52 = .ok (.getfield 27, 3) := by decide +kernel
theorem d_Num_times_55 : decode b_Num_times 55 = .ok (.aload_n 2, 1) := by decide +kernel
theorem d_Num_times_56 : decode b_Num_times 56 = .ok (.getfield 27, 3) := by decide +kernel
theorem d_Num_times_59 : decode b_Num_times 59 = .ok (.iadd, 1) := by decide +kernel
theorem d_Num_times_60 : decode b_Num_times 60 = .ok (.putfield 27, 3) := by decide +kernel
theorem d_Num_times_63 : decode b_Num_times 63 = .ok (.return_, 1) := by decide +kernel
theorem fn_Big_1 : FLinkN TB classes R_Big F_Big 2 7 1 := ⟨rfl, by decide, i_Big⟩
theorem fl_Num_10 : FLink TB classes "IntervalTextModel$Num" 10 R_Num F_Num 4 8 1 := ⟨rfl, by decide, i_Num, tb_t (List.mem_append_right _ (List.mem_append_right _ (List.mem_append_left _ (List.mem_of_getElem? (l := tables_1_3) (i := 133) rfl)))) rfl⟩
theorem fl_Num_16 : FLink TB classes "IntervalTextModel$Num" 16 R_Num F_Num 4 8 2 := ⟨rfl, by decide, i_Num, tb_t (List.mem_append_right _ (List.mem_append_right _ (List.mem_append_left _ (List.mem_of_getElem? (l := tables_1_3) (i := 136) rfl)))) rfl⟩
theorem fl_Num_19 : FLink TB classes "IntervalTextModel$Num" 19 R_Num F_Num 4 8 0 := ⟨rfl, by decide, i_Num, tb_t (List.mem_append_right _ (List.mem_append_right _ (List.mem_append_left _ (List.mem_of_getElem? (l := tables_1_3) (i := 131) rfl)))) rfl⟩
theorem fl_Num_27 : FLink TB classes "IntervalTextModel$Num" 27 R_Num F_Num 4 8 3 := ⟨rfl, by decide, i_Num, tb_t (List.mem_append_right _ (List.mem_append_right _ (List.mem_append_left _ (List.mem_of_getElem? (l := tables_1_3) (i := 138) rfl)))) rfl⟩
theorem fp_Num_0 : FPut R_Num F_Num 4 0 .boolean false := ⟨e_Num, n_Num, rfl, by decide +kernel⟩
theorem fp_Num_1 : FPut R_Num F_Num 4 1 (.object "IntervalTextModel$Big") true := ⟨e_Num, n_Num, rfl, by decide +kernel⟩
theorem fp_Num_2 : FPut R_Num F_Num 4 2 (.object "IntervalTextModel$Big") true := ⟨e_Num, n_Num, rfl, by decide +kernel⟩
theorem fp_Num_3 : FPut R_Num F_Num 4 3 .int false := ⟨e_Num, n_Num, rfl, by decide +kernel⟩
theorem cn_Num_7 : Cond.classLink "IntervalTextModel$Num" 7 R_Big ∈ TB ∧ Cond.instantiable R_Big 2 ∈ TB ∧ Cond.initialized R_Big ∈ TB := ⟨tb_t (List.mem_append_right _ (List.mem_append_right _ (List.mem_append_left _ (List.mem_of_getElem? (l := tables_1_3) (i := 129) rfl)))) rfl, tb_t (List.mem_append_right _ (List.mem_append_right _ (List.mem_append_left _ (List.mem_of_getElem? (l := tables_1_3) (i := 109) rfl)))) rfl, tb_t (List.mem_append_left _ (List.mem_of_getElem? (l := tables_1_1) (i := 9) rfl)) rfl⟩
theorem z_Big : ∀ j, j < 2 → defaultValue (t_Big j) = vp_V [.null, .int (iI 0)] j := by
  intro j hj
  match j, hj with
  | 0, _ => first | rfl | decide
  | 1, _ => first | rfl | decide
  | j + 2, h => exact absurd h (by omega)
theorem oi_Num_1 : Cond.methodLink "IntervalTextModel$Num" 1 objectInit ∈ TB ∧ Cond.instanceMethod objectInit ∈ TB ∧ Cond.code objectInit ⟨#[0xb1]⟩ 1 none ∈ TB := ⟨tb_t (List.mem_append_right _ (List.mem_append_right _ (List.mem_append_left _ (List.mem_of_getElem? (l := tables_1_3) (i := 128) rfl)))) rfl, tb_t (List.mem_append_left _ (List.mem_of_getElem? (l := tables_1_1) (i := 22) rfl)) rfl, tb_t (List.mem_append_left _ (List.mem_of_getElem? (l := tables_1_1) (i := 23) rfl)) rfl⟩
theorem tw_Num_constantLong_38 : Cond.constantLong "IntervalTextModel$Num" 38 (2047 : Int64) ∈ TB := tb_t (List.mem_append_right _ (List.mem_append_right _ (List.mem_append_right _ (List.mem_append_left _ (List.mem_of_getElem? (l := tables_1_4) (i := 109) rfl))))) rfl
theorem tw_Num_constantLong_40 : Cond.constantLong "IntervalTextModel$Num" 40 (4503599627370495 : Int64) ∈ TB := tb_t (List.mem_append_right _ (List.mem_append_right _ (List.mem_append_right _ (List.mem_append_left _ (List.mem_of_getElem? (l := tables_1_4) (i := 110) rfl))))) rfl
theorem tw_Num_constantLong_42 : Cond.constantLong "IntervalTextModel$Num" 42 (4503599627370496 : Int64) ∈ TB := tb_t (List.mem_append_right _ (List.mem_append_right _ (List.mem_append_right _ (List.mem_append_left _ (List.mem_of_getElem? (l := tables_1_4) (i := 111) rfl))))) rfl
theorem cl_Num_9 : Cond.instanceMethod y_Big_init ∈ TB ∧ y_Big_init.name = "<init>" ∧ Cond.initialized y_Big_init.cls ∈ TB ∧ Cond.code y_Big_init b_Big_init 1 none ∈ TB ∧ y_Big_init.cls ≠ "java/lang/invoke/MethodHandle" ∧ y_Big_init.cls ≠ "java/lang/invoke/VarHandle" ∧ (parseMethodDescriptor y_Big_init.desc).map (fun d => d.parameters.length) = some 0 := ⟨tb_t (List.mem_append_right _ (List.mem_append_right _ (List.mem_append_left _ (List.mem_of_getElem? (l := tables_1_3) (i := 111) rfl)))) rfl, rfl, tb_t (List.mem_append_left _ (List.mem_of_getElem? (l := tables_1_1) (i := 9) rfl)) rfl, tb_t (List.mem_append_right _ (List.mem_append_right _ (List.mem_append_left _ (List.mem_of_getElem? (l := tables_1_3) (i := 112) rfl)))) rfl, by decide +kernel, by decide +kernel, by decide +kernel⟩
theorem cl_Num_23 : CLinkV TB "IntervalTextModel$Num" 23 "IntervalTextModel$Big" y_Big_set b_Big_set 5 none 1 := ⟨⟨tb_t (List.mem_append_right _ (List.mem_append_right _ (List.mem_append_right _ (List.mem_append_left _ (List.mem_of_getElem? (l := tables_1_4) (i := 28) rfl))))) rfl, tb_t (List.mem_append_left _ (List.mem_of_getElem? (l := tables_1_1) (i := 9) rfl)) rfl, tb_t (List.mem_append_right _ (List.mem_append_right _ (List.mem_append_right _ (List.mem_append_left _ (List.mem_of_getElem? (l := tables_1_4) (i := 31) rfl))))) rfl, by decide +kernel, by decide +kernel, by decide +kernel⟩, tb_t (List.mem_append_right _ (List.mem_append_right _ (List.mem_append_right _ (List.mem_append_left _ (List.mem_of_getElem? (l := tables_1_4) (i := 29) rfl))))) rfl, tb_t (List.mem_append_right _ (List.mem_append_right _ (List.mem_append_right _ (List.mem_append_left _ (List.mem_of_getElem? (l := tables_1_4) (i := 30) rfl))))) rfl⟩
theorem cl_Num_31 : CLinkV TB "IntervalTextModel$Num" 31 "IntervalTextModel$Big" y_Big_copy b_Big_copy 3 none 1 := ⟨⟨tb_t (List.mem_append_right _ (List.mem_append_right _ (List.mem_append_right _ (List.mem_append_left _ (List.mem_of_getElem? (l := tables_1_4) (i := 121) rfl))))) rfl, tb_t (List.mem_append_left _ (List.mem_of_getElem? (l := tables_1_1) (i := 9) rfl)) rfl, tb_t (List.mem_append_right _ (List.mem_append_right _ (List.mem_append_right _ (List.mem_append_left _ (List.mem_of_getElem? (l := tables_1_4) (i := 74) rfl))))) rfl, by decide +kernel, by decide +kernel, by decide +kernel⟩, tb_t (List.mem_append_right _ (List.mem_append_right _ (List.mem_append_right _ (List.mem_append_left _ (List.mem_of_getElem? (l := tables_1_4) (i := 72) rfl))))) rfl, tb_t (List.mem_append_right _ (List.mem_append_right _ (List.mem_append_right _ (List.mem_append_left _ (List.mem_of_getElem? (l := tables_1_4) (i := 73) rfl))))) rfl⟩
theorem cl_Num_44 : CLinkV TB "IntervalTextModel$Num" 44 "IntervalTextModel$Big" y_Big_product b_Big_product 9 none 2 := ⟨⟨tb_t (List.mem_append_right _ (List.mem_append_right _ (List.mem_append_right _ (List.mem_append_left _ (List.mem_of_getElem? (l := tables_1_4) (i := 235) rfl))))) rfl, tb_t (List.mem_append_left _ (List.mem_of_getElem? (l := tables_1_1) (i := 9) rfl)) rfl, tb_t (List.mem_append_right _ (List.mem_append_right _ (List.mem_append_right _ (List.mem_append_left _ (List.mem_of_getElem? (l := tables_1_4) (i := 78) rfl))))) rfl, by decide +kernel, by decide +kernel, by decide +kernel⟩, tb_t (List.mem_append_right _ (List.mem_append_right _ (List.mem_append_right _ (List.mem_append_left _ (List.mem_of_getElem? (l := tables_1_4) (i := 76) rfl))))) rfl, tb_t (List.mem_append_right _ (List.mem_append_right _ (List.mem_append_right _ (List.mem_append_left _ (List.mem_of_getElem? (l := tables_1_4) (i := 77) rfl))))) rfl⟩
set_option maxHeartbeats 4000000 in
set_option maxRecDepth 100000 in
theorem c_Num_init (l : Launch) (D : va_G) (E : EVt) (h : Nat)  : CT l D classes (tyl E) (EVX E) y_Num_init (Cond.code y_Num_init b_Num_init 1 none :: TB) (rmK 2 4 1284 40) 4 1284 [.ref h] [(h, .inr (8, [.int (bI false), .null, .null, .int (iI 0)]))] (S := Nat × Nat × Nat × Nat) (fun u => [(h, .inr (8, [.int (bI false), .ref u.1, .ref u.2.2.1, .int (iI 0)])), (u.1, .inr (7, [.ref u.2.1, .int (iI 0)])), (u.2.1, .inl (E.1, 640, .inl (ia (fun _ => 0)))), (u.2.2.1, .inr (7, [.ref u.2.2.2, .int (iI 0)])), (u.2.2.2, .inl (E.1, 640, .inl (ia (fun _ => 0))))]) (fun _ => none) (fun _ => True) := by
  refine CT.ofv (eok E) (by decide) rfl (Nat.le_of_ble_eq_true rfl) ?_
  intro p e s m args below meth c A Q ls B hmn hP hD hS hl ret
  have B : Bd l D classes (tyl E) (EVX E) p m c b_Num_init 1 s args (Cond.code y_Num_init b_Num_init 1 none :: TB) R_Num A := B
  obtain ⟨⟨hx, hb, hml, hown, hts⟩, hX, hK, hE, hA⟩ := id B
  have hl : lv_has ls 1 [(0, .ref h)] := hl
  have hP : va_P D classes [(h, .inr (8, [.int (bI false), .null, .null, .int (iI 0)]))] s.heap := hP
  have hD : va_D A [(h, .inr (8, [.int (bI false), .null, .null, .int (iI 0)]))] := hD
  refine lv_aload_n hx hb d_Num_init_0 rfl (lv_at hl 0 rfl) ?_
  refine wk_objInit B oi_Num_1 ⟨hl.2.1, hl.1⟩ d_Num_init_1 (Nat.le_of_ble_eq_true rfl) ⟨Nat.le_of_ble_eq_true rfl, Nat.le_of_ble_eq_true rfl⟩ ?_
  refine lv_aload_n hx hb d_Num_init_4 rfl (lv_at hl 0 rfl) ?_
  refine wk_new (ci := 7) B hP hD hS cn_Num_7 rfl i_Big t_Big_ok (fs := [.null, .int (iI 0)]) z_Big (by decide) d_Num_init_5 (fun q_1 H hP hD hS => ?_)
  have hP : va_P D classes [(h, .inr (8, [.int (bI false), .null, .null, .int (iI 0)])), (q_1, .inr (7, [.null, .int (iI 0)]))] H := hP
  have hD : va_D A [(h, .inr (8, [.int (bI false), .null, .null, .int (iI 0)])), (q_1, .inr (7, [.null, .int (iI 0)]))] := hD
  refine W.cs (cells' := 1) (slots' := 2) rfl rfl ?_
  refine lv_dup hx hb d_Num_init_8 rfl ?_
  refine wk_callIN (As := []) (rest := [.ref q_1, .ref h]) (wr := [(h, .inr (8, [.int (bI false), .null, .null, .int (iI 0)]))]) B gTB (hE.1 _ (List.mem_of_getElem? (l := nestWs) (i := 6) rfl)) cl_Num_9 (c_Big_init l D E q_1 ) ⟨⟨rfl, rfl⟩, Nat.le_of_ble_eq_true rfl, Nat.le_of_ble_eq_true rfl⟩ hP hD hS [1] [0] rfl rfl (by decide) ⟨hl.2.1, hl.1⟩ rfl (Nat.le_of_ble_eq_true rfl) d_Num_init_9 ⟨Nat.le_of_ble_eq_true rfl, Nat.le_of_ble_eq_true rfl⟩ rfl (fun pa H locs hw hP hD hS => ?_)
  have hP : va_P D classes [(h, .inr (8, [.int (bI false), .null, .null, .int (iI 0)])), (q_1, .inr (7, [.ref pa, .int (iI 0)])), (pa, .inl (E.1, 640, .inl (ia (fun _ => 0))))] H := hP
  have hD : va_D A [(h, .inr (8, [.int (bI false), .null, .null, .int (iI 0)])), (q_1, .inr (7, [.ref pa, .int (iI 0)])), (pa, .inl (E.1, 640, .inl (ia (fun _ => 0))))] := hD
  refine W.cs (g := F0 m 12 ls [.ref q_1, .ref h]) (cells' := 2) (slots' := 642) rfl rfl ?_
  refine wk_putF B hmn hP hD hS 0 rfl fl_Num_10 rfl fp_Num_1 (v := .ref q_1) rfl rfl (Nat.le_of_ble_eq_true rfl) d_Num_init_12 (fun H locs hP hD hS => ?_)
  have hP : va_P D classes [(h, .inr (8, [.int (bI false), .ref q_1, .null, .int (iI 0)])), (q_1, .inr (7, [.ref pa, .int (iI 0)])), (pa, .inl (E.1, 640, .inl (ia (fun _ => 0))))] H := hP
  have hD : va_D A [(h, .inr (8, [.int (bI false), .ref q_1, .null, .int (iI 0)])), (q_1, .inr (7, [.ref pa, .int (iI 0)])), (pa, .inl (E.1, 640, .inl (ia (fun _ => 0))))] := hD
  refine lv_aload_n hx hb d_Num_init_15 rfl (lv_at hl 0 rfl) ?_
  refine wk_new (ci := 7) B hP hD hS cn_Num_7 rfl i_Big t_Big_ok (fs := [.null, .int (iI 0)]) z_Big (by decide) d_Num_init_16 (fun q_2 H hP hD hS => ?_)
  have hP : va_P D classes [(h, .inr (8, [.int (bI false), .ref q_1, .null, .int (iI 0)])), (q_1, .inr (7, [.ref pa, .int (iI 0)])), (pa, .inl (E.1, 640, .inl (ia (fun _ => 0)))), (q_2, .inr (7, [.null, .int (iI 0)]))] H := hP
  have hD : va_D A [(h, .inr (8, [.int (bI false), .ref q_1, .null, .int (iI 0)])), (q_1, .inr (7, [.ref pa, .int (iI 0)])), (pa, .inl (E.1, 640, .inl (ia (fun _ => 0)))), (q_2, .inr (7, [.null, .int (iI 0)]))] := hD
  refine W.cs (cells' := 3) (slots' := 644) rfl rfl ?_
  refine lv_dup hx hb d_Num_init_19 rfl ?_
  refine wk_callIN (As := []) (rest := [.ref q_2, .ref h]) (wr := [(h, .inr (8, [.int (bI false), .ref q_1, .null, .int (iI 0)])), (q_1, .inr (7, [.ref pa, .int (iI 0)])), (pa, .inl (E.1, 640, .inl (ia (fun _ => 0))))]) B gTB (hE.1 _ (List.mem_of_getElem? (l := nestWs) (i := 6) rfl)) cl_Num_9 (c_Big_init l D E q_2 ) ⟨⟨rfl, rfl⟩, Nat.le_of_ble_eq_true rfl, Nat.le_of_ble_eq_true rfl⟩ hP hD hS [3] [0, 1, 2] rfl rfl (by decide) ⟨hl.2.1, hl.1⟩ rfl (Nat.le_of_ble_eq_true rfl) d_Num_init_20 ⟨Nat.le_of_ble_eq_true rfl, Nat.le_of_ble_eq_true rfl⟩ rfl (fun qa H locs hw hP hD hS => ?_)
  have hP : va_P D classes [(h, .inr (8, [.int (bI false), .ref q_1, .null, .int (iI 0)])), (q_1, .inr (7, [.ref pa, .int (iI 0)])), (pa, .inl (E.1, 640, .inl (ia (fun _ => 0)))), (q_2, .inr (7, [.ref qa, .int (iI 0)])), (qa, .inl (E.1, 640, .inl (ia (fun _ => 0))))] H := hP
  have hD : va_D A [(h, .inr (8, [.int (bI false), .ref q_1, .null, .int (iI 0)])), (q_1, .inr (7, [.ref pa, .int (iI 0)])), (pa, .inl (E.1, 640, .inl (ia (fun _ => 0)))), (q_2, .inr (7, [.ref qa, .int (iI 0)])), (qa, .inl (E.1, 640, .inl (ia (fun _ => 0))))] := hD
  refine W.cs (g := F0 m 23 ls [.ref q_2, .ref h]) (cells' := 4) (slots' := 1284) rfl rfl ?_
  refine wk_putF B hmn hP hD hS 0 rfl fl_Num_16 rfl fp_Num_2 (v := .ref q_2) rfl rfl (Nat.le_of_ble_eq_true rfl) d_Num_init_23 (fun H locs hP hD hS => ?_)
  have hP : va_P D classes [(h, .inr (8, [.int (bI false), .ref q_1, .ref q_2, .int (iI 0)])), (q_1, .inr (7, [.ref pa, .int (iI 0)])), (pa, .inl (E.1, 640, .inl (ia (fun _ => 0)))), (q_2, .inr (7, [.ref qa, .int (iI 0)])), (qa, .inl (E.1, 640, .inl (ia (fun _ => 0))))] H := hP
  have hD : va_D A [(h, .inr (8, [.int (bI false), .ref q_1, .ref q_2, .int (iI 0)])), (q_1, .inr (7, [.ref pa, .int (iI 0)])), (pa, .inl (E.1, 640, .inl (ia (fun _ => 0)))), (q_2, .inr (7, [.ref qa, .int (iI 0)])), (qa, .inl (E.1, 640, .inl (ia (fun _ => 0))))] := hD
  exact ret (q_1, pa, q_2, qa) _ _ _ _ d_Num_init_26 trivial (hP.sub [0, 1, 2, 3, 4] rfl) (hD.sub [0, 1, 2, 3, 4] (by decide) rfl) hS
set_option maxHeartbeats 4000000 in
set_option maxRecDepth 100000 in
theorem c_Num_set (l : Launch) (D : va_G) (E : EVt) (h : Nat) (pn : Nat) (pa : Nat) (qn : Nat) (qa : Nat) (pg : Int → Int) (qg : Int → Int) (pk : Int) (qk : Int) (ee : Int) (be : Bool) (v : Int) (hv : 0 ≤ v ∧ v < 9223372036854775808) : CT l D classes (tyl E) (EVX E) y_Num_set (Cond.code y_Num_set b_Num_set 3 none :: TB) (rmK 1 0 0 24) 0 0 [.ref h, .long (lI v)] [(h, .inr (8, [.int (bI be), .ref pn, .ref qn, .int (iI ee)])), (pn, .inr (7, [.ref pa, .int (iI pk)])), (pa, .inl (E.1, 640, .inl (ia pg))), (qn, .inr (7, [.ref qa, .int (iI qk)])), (qa, .inl (E.1, 640, .inl (ia qg)))] (S := (Int → Int) × (Int → Int) × Int × Int) (fun u => [(h, .inr (8, [.int (bI false), .ref pn, .ref qn, .int (iI 0)])), (pn, .inr (7, [.ref pa, .int (iI u.2.2.1)])), (pa, .inl (E.1, 640, .inl (ia u.1))), (qn, .inr (7, [.ref qa, .int (iI u.2.2.2)])), (qa, .inl (E.1, 640, .inl (ia u.2.1)))]) (fun _ => none) (fun u => (BigOK u.1 u.2.2.1 v) ∧ (BigOK u.2.1 u.2.2.2 1)) := by
  refine CT.ofv (eok E) (by decide) rfl (Nat.le_of_ble_eq_true rfl) ?_
  intro p e s m args below meth c A Q ls B hmn hP hD hS hl ret
  have B : Bd l D classes (tyl E) (EVX E) p m c b_Num_set 3 s args (Cond.code y_Num_set b_Num_set 3 none :: TB) R_Num A := B
  obtain ⟨⟨hx, hb, hml, hown, hts⟩, hX, hK, hE, hA⟩ := id B
  have hl : lv_has ls 3 [(0, .ref h), (1, .long (lI v))] := hl
  have hP : va_P D classes [(h, .inr (8, [.int (bI be), .ref pn, .ref qn, .int (iI ee)])), (pn, .inr (7, [.ref pa, .int (iI pk)])), (pa, .inl (E.1, 640, .inl (ia pg))), (qn, .inr (7, [.ref qa, .int (iI qk)])), (qa, .inl (E.1, 640, .inl (ia qg)))] s.heap := hP
  have hD : va_D A [(h, .inr (8, [.int (bI be), .ref pn, .ref qn, .int (iI ee)])), (pn, .inr (7, [.ref pa, .int (iI pk)])), (pa, .inl (E.1, 640, .inl (ia pg))), (qn, .inr (7, [.ref qa, .int (iI qk)])), (qa, .inl (E.1, 640, .inl (ia qg)))] := hD
  refine lv_aload_n hx hb d_Num_set_0 rfl (lv_at hl 0 rfl) ?_
  refine lv_lload_n hx hb d_Num_set_1 rfl (lv_at hl 1 rfl) ?_
  refine wi_lconst (z := 0) hx hb d_Num_set_2 (by decide) ?_
  refine wi_lcmp hx hb (by omega) (by omega) d_Num_set_3 ?_
  refine wi_if_ge (tgt := 11) hx hb d_Num_set_4 (by decide) (by have := cmpZ_rng v 0; omega) (fun c_1 => ?_) (fun c_1 => by have c_1 := cmpZ_lt.mp c_1; exfalso; omega)
  have c_1 := cmpZ_ge.mp c_1
  refine wi_iconst (n := 0) hx hb d_Num_set_11 ?_
  refine w_as0 ?_
  refine wk_put B hP hD hS 0 rfl fl_Num_19 fp_Num_0 (v := .int (bI false)) (bI_nar _) (bI_fit _) (Nat.le_of_ble_eq_true rfl) d_Num_set_12 (fun H locs hP hD hS => ?_)
  have hP : va_P D classes [(h, .inr (8, [.int (bI false), .ref pn, .ref qn, .int (iI ee)])), (pn, .inr (7, [.ref pa, .int (iI pk)])), (pa, .inl (E.1, 640, .inl (ia pg))), (qn, .inr (7, [.ref qa, .int (iI qk)])), (qa, .inl (E.1, 640, .inl (ia qg)))] H := hP
  have hD : va_D A [(h, .inr (8, [.int (bI false), .ref pn, .ref qn, .int (iI ee)])), (pn, .inr (7, [.ref pa, .int (iI pk)])), (pa, .inl (E.1, 640, .inl (ia pg))), (qn, .inr (7, [.ref qa, .int (iI qk)])), (qa, .inl (E.1, 640, .inl (ia qg)))] := hD
  refine lv_aload_n hx hb d_Num_set_15 rfl (lv_at hl 0 rfl) ?_
  refine wk_get B hP 0 rfl fl_Num_10 (v := .ref pn) rfl d_Num_set_16 ?_
  refine lv_lload_n hx hb d_Num_set_19 rfl (lv_at hl 1 rfl) ?_
  refine wi_lconst (z := 0) hx hb d_Num_set_20 (by decide) ?_
  refine wi_lcmp hx hb (by omega) (by omega) d_Num_set_21 ?_
  refine wi_if_ge (tgt := 30) hx hb d_Num_set_22 (by decide) (by have := cmpZ_rng v 0; omega) (fun c_2 => ?_) (fun c_2 => by have c_2 := cmpZ_lt.mp c_2; exfalso; omega)
  have c_2 := cmpZ_ge.mp c_2
  refine lv_lload_n hx hb d_Num_set_30 rfl (lv_at hl 1 rfl) ?_
  refine wk_callV (As := [.long (lI v)]) (rest := []) (wr := [(h, .inr (8, [.int (bI false), .ref pn, .ref qn, .int (iI ee)])), (qn, .inr (7, [.ref qa, .int (iI qk)])), (qa, .inl (E.1, 640, .inl (ia qg)))]) B gTB cl_Num_23 (c_Big_set l D E pn pa pg pk v (by omega)) ⟨⟨rfl, rfl⟩, Nat.le_of_ble_eq_true rfl, Nat.le_of_ble_eq_true rfl⟩ hP hD hS [1, 2] [0, 3, 4] rfl rfl (by decide) 1 rfl rfl rfl ⟨hl.2.1, hl.1⟩ rfl (Nat.le_of_ble_eq_true rfl) d_Num_set_31 ⟨Nat.le_of_ble_eq_true rfl, Nat.le_of_ble_eq_true rfl⟩ rfl (fun u H locs hw hP hD hS => ?_)
  obtain ⟨g2_3, k2_4⟩ := u
  have hP : va_P D classes [(h, .inr (8, [.int (bI false), .ref pn, .ref qn, .int (iI ee)])), (qn, .inr (7, [.ref qa, .int (iI qk)])), (qa, .inl (E.1, 640, .inl (ia qg))), (pn, .inr (7, [.ref pa, .int (iI k2_4)])), (pa, .inl (E.1, 640, .inl (ia g2_3)))] H := hP
  have hD : va_D A [(h, .inr (8, [.int (bI false), .ref pn, .ref qn, .int (iI ee)])), (qn, .inr (7, [.ref qa, .int (iI qk)])), (qa, .inl (E.1, 640, .inl (ia qg))), (pn, .inr (7, [.ref pa, .int (iI k2_4)])), (pa, .inl (E.1, 640, .inl (ia g2_3)))] := hD
  have hw : (BigOK g2_3 k2_4 v) := hw
  have hN_5 := hw
  refine W.cs (g := F0 m 34 ls []) (cells' := 0) (slots' := 0) rfl rfl ?_
  refine lv_aload_n hx hb d_Num_set_34 rfl (lv_at hl 0 rfl) ?_
  refine wk_get B hP 0 rfl fl_Num_16 (v := .ref qn) rfl d_Num_set_35 ?_
  refine wi_lconst (z := 1) hx hb d_Num_set_38 (by decide) ?_
  refine wk_callV (As := [.long (lI 1)]) (rest := []) (wr := [(h, .inr (8, [.int (bI false), .ref pn, .ref qn, .int (iI ee)])), (pn, .inr (7, [.ref pa, .int (iI k2_4)])), (pa, .inl (E.1, 640, .inl (ia g2_3)))]) B gTB cl_Num_23 (c_Big_set l D E qn qa qg qk 1 (by omega)) ⟨⟨rfl, rfl⟩, Nat.le_of_ble_eq_true rfl, Nat.le_of_ble_eq_true rfl⟩ hP hD hS [1, 2] [0, 3, 4] rfl rfl (by decide) 1 rfl rfl rfl ⟨hl.2.1, hl.1⟩ rfl (Nat.le_of_ble_eq_true rfl) d_Num_set_39 ⟨Nat.le_of_ble_eq_true rfl, Nat.le_of_ble_eq_true rfl⟩ rfl (fun u H locs hw hP hD hS => ?_)
  obtain ⟨g2_6, k2_7⟩ := u
  have hP : va_P D classes [(h, .inr (8, [.int (bI false), .ref pn, .ref qn, .int (iI ee)])), (pn, .inr (7, [.ref pa, .int (iI k2_4)])), (pa, .inl (E.1, 640, .inl (ia g2_3))), (qn, .inr (7, [.ref qa, .int (iI k2_7)])), (qa, .inl (E.1, 640, .inl (ia g2_6)))] H := hP
  have hD : va_D A [(h, .inr (8, [.int (bI false), .ref pn, .ref qn, .int (iI ee)])), (pn, .inr (7, [.ref pa, .int (iI k2_4)])), (pa, .inl (E.1, 640, .inl (ia g2_3))), (qn, .inr (7, [.ref qa, .int (iI k2_7)])), (qa, .inl (E.1, 640, .inl (ia g2_6)))] := hD
  have hw : (BigOK g2_6 k2_7 1) := hw
  have hN_8 := hw
  refine W.cs (g := F0 m 42 ls []) (cells' := 0) (slots' := 0) rfl rfl ?_
  refine lv_aload_n hx hb d_Num_set_42 rfl (lv_at hl 0 rfl) ?_
  refine wi_iconst (n := 0) hx hb d_Num_set_43 ?_
  refine wk_put B hP hD hS 0 rfl fl_Num_27 fp_Num_3 (v := .int (iI 0)) rfl rfl (Nat.le_of_ble_eq_true rfl) d_Num_set_44 (fun H locs hP hD hS => ?_)
  have hP : va_P D classes [(h, .inr (8, [.int (bI false), .ref pn, .ref qn, .int (iI 0)])), (pn, .inr (7, [.ref pa, .int (iI k2_4)])), (pa, .inl (E.1, 640, .inl (ia g2_3))), (qn, .inr (7, [.ref qa, .int (iI k2_7)])), (qa, .inl (E.1, 640, .inl (ia g2_6)))] H := hP
  have hD : va_D A [(h, .inr (8, [.int (bI false), .ref pn, .ref qn, .int (iI 0)])), (pn, .inr (7, [.ref pa, .int (iI k2_4)])), (pa, .inl (E.1, 640, .inl (ia g2_3))), (qn, .inr (7, [.ref qa, .int (iI k2_7)])), (qa, .inl (E.1, 640, .inl (ia g2_6)))] := hD
  exact ret (g2_3, g2_6, k2_4, k2_7) _ _ _ _ d_Num_set_47 (show (BigOK g2_3 k2_4 v) ∧ (BigOK g2_6 k2_7 1) from ⟨hN_5, hN_8⟩) (hP.sub [0, 1, 2, 3, 4] rfl) (hD.sub [0, 1, 2, 3, 4] (by decide) rfl) hS
set_option maxHeartbeats 4000000 in
set_option maxRecDepth 100000 in
theorem c_Num_copy (l : Launch) (D : va_G) (E : EVt) (h : Nat) (pn1 : Nat) (pa1 : Nat) (qn1 : Nat) (qa1 : Nat) (pg1 : Int → Int) (qg1 : Int → Int) (pk1 : Int) (qk1 : Int) (ee1 : Int) (be1 : Bool) (h2 : Nat) (pn2 : Nat) (pa2 : Nat) (qn2 : Nat) (qa2 : Nat) (pg2 : Int → Int) (qg2 : Int → Int) (pk2 : Int) (qk2 : Int) (ee2 : Int) (be2 : Bool) (v : Int) (b : Int) (hT : BigOK pg2 pk2 v) (hB : BigOK qg2 qk2 b) : CT l D classes (tyl E) (EVX E) y_Num_copy (Cond.code y_Num_copy b_Num_copy 2 none :: TB) (rmK 1 0 0 22) 0 0 [.ref h, .ref h2] [(h, .inr (8, [.int (bI be1), .ref pn1, .ref qn1, .int (iI ee1)])), (pn1, .inr (7, [.ref pa1, .int (iI pk1)])), (pa1, .inl (E.1, 640, .inl (ia pg1))), (qn1, .inr (7, [.ref qa1, .int (iI qk1)])), (qa1, .inl (E.1, 640, .inl (ia qg1))), (h2, .inr (8, [.int (bI be2), .ref pn2, .ref qn2, .int (iI ee2)])), (pn2, .inr (7, [.ref pa2, .int (iI pk2)])), (pa2, .inl (E.1, 640, .inl (ia pg2))), (qn2, .inr (7, [.ref qa2, .int (iI qk2)])), (qa2, .inl (E.1, 640, .inl (ia qg2)))] (S := (Int → Int) × (Int → Int)) (fun u => [(h, .inr (8, [.int (bI be2), .ref pn1, .ref qn1, .int (iI ee2)])), (pn1, .inr (7, [.ref pa1, .int (iI pk2)])), (pa1, .inl (E.1, 640, .inl (ia u.1))), (qn1, .inr (7, [.ref qa1, .int (iI qk2)])), (qa1, .inl (E.1, 640, .inl (ia u.2))), (h2, .inr (8, [.int (bI be2), .ref pn2, .ref qn2, .int (iI ee2)])), (pn2, .inr (7, [.ref pa2, .int (iI pk2)])), (pa2, .inl (E.1, 640, .inl (ia pg2))), (qn2, .inr (7, [.ref qa2, .int (iI qk2)])), (qa2, .inl (E.1, 640, .inl (ia qg2)))]) (fun _ => none) (fun u => (BigOK u.1 pk2 v) ∧ (BigOK u.2 qk2 b)) := by
  refine CT.ofv (eok E) (by decide) rfl (Nat.le_of_ble_eq_true rfl) ?_
  intro p e s m args below meth c A Q ls B hmn hP hD hS hl ret
  have B : Bd l D classes (tyl E) (EVX E) p m c b_Num_copy 2 s args (Cond.code y_Num_copy b_Num_copy 2 none :: TB) R_Num A := B
  obtain ⟨⟨hx, hb, hml, hown, hts⟩, hX, hK, hE, hA⟩ := id B
  have hl : lv_has ls 2 [(0, .ref h), (1, .ref h2)] := hl
  have hP : va_P D classes [(h, .inr (8, [.int (bI be1), .ref pn1, .ref qn1, .int (iI ee1)])), (pn1, .inr (7, [.ref pa1, .int (iI pk1)])), (pa1, .inl (E.1, 640, .inl (ia pg1))), (qn1, .inr (7, [.ref qa1, .int (iI qk1)])), (qa1, .inl (E.1, 640, .inl (ia qg1))), (h2, .inr (8, [.int (bI be2), .ref pn2, .ref qn2, .int (iI ee2)])), (pn2, .inr (7, [.ref pa2, .int (iI pk2)])), (pa2, .inl (E.1, 640, .inl (ia pg2))), (qn2, .inr (7, [.ref qa2, .int (iI qk2)])), (qa2, .inl (E.1, 640, .inl (ia qg2)))] s.heap := hP
  have hD : va_D A [(h, .inr (8, [.int (bI be1), .ref pn1, .ref qn1, .int (iI ee1)])), (pn1, .inr (7, [.ref pa1, .int (iI pk1)])), (pa1, .inl (E.1, 640, .inl (ia pg1))), (qn1, .inr (7, [.ref qa1, .int (iI qk1)])), (qa1, .inl (E.1, 640, .inl (ia qg1))), (h2, .inr (8, [.int (bI be2), .ref pn2, .ref qn2, .int (iI ee2)])), (pn2, .inr (7, [.ref pa2, .int (iI pk2)])), (pa2, .inl (E.1, 640, .inl (ia pg2))), (qn2, .inr (7, [.ref qa2, .int (iI qk2)])), (qa2, .inl (E.1, 640, .inl (ia qg2)))] := hD
  refine lv_aload_n hx hb d_Num_copy_0 rfl (lv_at hl 0 rfl) ?_
  refine lv_aload_n hx hb d_Num_copy_1 rfl (lv_at hl 1 rfl) ?_
  refine wk_get B hP 5 rfl fl_Num_19 (v := .int (bI be2)) rfl d_Num_copy_2 ?_
  refine wk_put B hP hD hS 0 rfl fl_Num_19 fp_Num_0 (v := .int (bI be2)) (bI_nar _) (bI_fit _) (Nat.le_of_ble_eq_true rfl) d_Num_copy_5 (fun H locs hP hD hS => ?_)
  have hP : va_P D classes [(h, .inr (8, [.int (bI be2), .ref pn1, .ref qn1, .int (iI ee1)])), (pn1, .inr (7, [.ref pa1, .int (iI pk1)])), (pa1, .inl (E.1, 640, .inl (ia pg1))), (qn1, .inr (7, [.ref qa1, .int (iI qk1)])), (qa1, .inl (E.1, 640, .inl (ia qg1))), (h2, .inr (8, [.int (bI be2), .ref pn2, .ref qn2, .int (iI ee2)])), (pn2, .inr (7, [.ref pa2, .int (iI pk2)])), (pa2, .inl (E.1, 640, .inl (ia pg2))), (qn2, .inr (7, [.ref qa2, .int (iI qk2)])), (qa2, .inl (E.1, 640, .inl (ia qg2)))] H := hP
  have hD : va_D A [(h, .inr (8, [.int (bI be2), .ref pn1, .ref qn1, .int (iI ee1)])), (pn1, .inr (7, [.ref pa1, .int (iI pk1)])), (pa1, .inl (E.1, 640, .inl (ia pg1))), (qn1, .inr (7, [.ref qa1, .int (iI qk1)])), (qa1, .inl (E.1, 640, .inl (ia qg1))), (h2, .inr (8, [.int (bI be2), .ref pn2, .ref qn2, .int (iI ee2)])), (pn2, .inr (7, [.ref pa2, .int (iI pk2)])), (pa2, .inl (E.1, 640, .inl (ia pg2))), (qn2, .inr (7, [.ref qa2, .int (iI qk2)])), (qa2, .inl (E.1, 640, .inl (ia qg2)))] := hD
  refine lv_aload_n hx hb d_Num_copy_8 rfl (lv_at hl 0 rfl) ?_
  refine wk_get B hP 0 rfl fl_Num_10 (v := .ref pn1) rfl d_Num_copy_9 ?_
  refine lv_aload_n hx hb d_Num_copy_12 rfl (lv_at hl 1 rfl) ?_
  refine wk_get B hP 5 rfl fl_Num_10 (v := .ref pn2) rfl d_Num_copy_13 ?_
  refine wk_callV (As := [.ref pn2]) (rest := []) (wr := [(h, .inr (8, [.int (bI be2), .ref pn1, .ref qn1, .int (iI ee1)])), (qn1, .inr (7, [.ref qa1, .int (iI qk1)])), (qa1, .inl (E.1, 640, .inl (ia qg1))), (h2, .inr (8, [.int (bI be2), .ref pn2, .ref qn2, .int (iI ee2)])), (qn2, .inr (7, [.ref qa2, .int (iI qk2)])), (qa2, .inl (E.1, 640, .inl (ia qg2)))]) B gTB cl_Num_31 (c_Big_copy l D E pn1 pa1 pg1 pk1 pn2 pa2 pg2 pk2 v (hT)) ⟨⟨rfl, rfl⟩, Nat.le_of_ble_eq_true rfl, Nat.le_of_ble_eq_true rfl⟩ hP hD hS [1, 2, 6, 7] [0, 3, 4, 5, 8, 9] rfl rfl (by decide) 1 rfl rfl rfl ⟨hl.2.1, hl.1⟩ rfl (Nat.le_of_ble_eq_true rfl) d_Num_copy_16 ⟨Nat.le_of_ble_eq_true rfl, Nat.le_of_ble_eq_true rfl⟩ rfl (fun g3_1 H locs hw hP hD hS => ?_)
  have hP : va_P D classes [(h, .inr (8, [.int (bI be2), .ref pn1, .ref qn1, .int (iI ee1)])), (qn1, .inr (7, [.ref qa1, .int (iI qk1)])), (qa1, .inl (E.1, 640, .inl (ia qg1))), (h2, .inr (8, [.int (bI be2), .ref pn2, .ref qn2, .int (iI ee2)])), (qn2, .inr (7, [.ref qa2, .int (iI qk2)])), (qa2, .inl (E.1, 640, .inl (ia qg2))), (pn1, .inr (7, [.ref pa1, .int (iI pk2)])), (pa1, .inl (E.1, 640, .inl (ia g3_1))), (pn2, .inr (7, [.ref pa2, .int (iI pk2)])), (pa2, .inl (E.1, 640, .inl (ia pg2)))] H := hP
  have hD : va_D A [(h, .inr (8, [.int (bI be2), .ref pn1, .ref qn1, .int (iI ee1)])), (qn1, .inr (7, [.ref qa1, .int (iI qk1)])), (qa1, .inl (E.1, 640, .inl (ia qg1))), (h2, .inr (8, [.int (bI be2), .ref pn2, .ref qn2, .int (iI ee2)])), (qn2, .inr (7, [.ref qa2, .int (iI qk2)])), (qa2, .inl (E.1, 640, .inl (ia qg2))), (pn1, .inr (7, [.ref pa1, .int (iI pk2)])), (pa1, .inl (E.1, 640, .inl (ia g3_1))), (pn2, .inr (7, [.ref pa2, .int (iI pk2)])), (pa2, .inl (E.1, 640, .inl (ia pg2)))] := hD
  have hw : (BigOK g3_1 pk2 v) := hw
  have hM_2 := hw
  refine W.cs (g := F0 m 19 ls []) (cells' := 0) (slots' := 0) rfl rfl ?_
  refine lv_aload_n hx hb d_Num_copy_19 rfl (lv_at hl 0 rfl) ?_
  refine wk_get B hP 0 rfl fl_Num_16 (v := .ref qn1) rfl d_Num_copy_20 ?_
  refine lv_aload_n hx hb d_Num_copy_23 rfl (lv_at hl 1 rfl) ?_
  refine wk_get B hP 3 rfl fl_Num_16 (v := .ref qn2) rfl d_Num_copy_24 ?_
  refine wk_callV (As := [.ref qn2]) (rest := []) (wr := [(h, .inr (8, [.int (bI be2), .ref pn1, .ref qn1, .int (iI ee1)])), (h2, .inr (8, [.int (bI be2), .ref pn2, .ref qn2, .int (iI ee2)])), (pn1, .inr (7, [.ref pa1, .int (iI pk2)])), (pa1, .inl (E.1, 640, .inl (ia g3_1))), (pn2, .inr (7, [.ref pa2, .int (iI pk2)])), (pa2, .inl (E.1, 640, .inl (ia pg2)))]) B gTB cl_Num_31 (c_Big_copy l D E qn1 qa1 qg1 qk1 qn2 qa2 qg2 qk2 b (hB)) ⟨⟨rfl, rfl⟩, Nat.le_of_ble_eq_true rfl, Nat.le_of_ble_eq_true rfl⟩ hP hD hS [1, 2, 4, 5] [0, 3, 6, 7, 8, 9] rfl rfl (by decide) 1 rfl rfl rfl ⟨hl.2.1, hl.1⟩ rfl (Nat.le_of_ble_eq_true rfl) d_Num_copy_27 ⟨Nat.le_of_ble_eq_true rfl, Nat.le_of_ble_eq_true rfl⟩ rfl (fun g3_3 H locs hw hP hD hS => ?_)
  have hP : va_P D classes [(h, .inr (8, [.int (bI be2), .ref pn1, .ref qn1, .int (iI ee1)])), (h2, .inr (8, [.int (bI be2), .ref pn2, .ref qn2, .int (iI ee2)])), (pn1, .inr (7, [.ref pa1, .int (iI pk2)])), (pa1, .inl (E.1, 640, .inl (ia g3_1))), (pn2, .inr (7, [.ref pa2, .int (iI pk2)])), (pa2, .inl (E.1, 640, .inl (ia pg2))), (qn1, .inr (7, [.ref qa1, .int (iI qk2)])), (qa1, .inl (E.1, 640, .inl (ia g3_3))), (qn2, .inr (7, [.ref qa2, .int (iI qk2)])), (qa2, .inl (E.1, 640, .inl (ia qg2)))] H := hP
  have hD : va_D A [(h, .inr (8, [.int (bI be2), .ref pn1, .ref qn1, .int (iI ee1)])), (h2, .inr (8, [.int (bI be2), .ref pn2, .ref qn2, .int (iI ee2)])), (pn1, .inr (7, [.ref pa1, .int (iI pk2)])), (pa1, .inl (E.1, 640, .inl (ia g3_1))), (pn2, .inr (7, [.ref pa2, .int (iI pk2)])), (pa2, .inl (E.1, 640, .inl (ia pg2))), (qn1, .inr (7, [.ref qa1, .int (iI qk2)])), (qa1, .inl (E.1, 640, .inl (ia g3_3))), (qn2, .inr (7, [.ref qa2, .int (iI qk2)])), (qa2, .inl (E.1, 640, .inl (ia qg2)))] := hD
  have hw : (BigOK g3_3 qk2 b) := hw
  have hM_4 := hw
  refine W.cs (g := F0 m 30 ls []) (cells' := 0) (slots' := 0) rfl rfl ?_
  refine lv_aload_n hx hb d_Num_copy_30 rfl (lv_at hl 0 rfl) ?_
  refine lv_aload_n hx hb d_Num_copy_31 rfl (lv_at hl 1 rfl) ?_
  refine wk_get B hP 1 rfl fl_Num_27 (v := .int (iI ee2)) rfl d_Num_copy_32 ?_
  refine wk_put B hP hD hS 0 rfl fl_Num_27 fp_Num_3 (v := .int (iI ee2)) rfl rfl (Nat.le_of_ble_eq_true rfl) d_Num_copy_35 (fun H locs hP hD hS => ?_)
  have hP : va_P D classes [(h, .inr (8, [.int (bI be2), .ref pn1, .ref qn1, .int (iI ee2)])), (h2, .inr (8, [.int (bI be2), .ref pn2, .ref qn2, .int (iI ee2)])), (pn1, .inr (7, [.ref pa1, .int (iI pk2)])), (pa1, .inl (E.1, 640, .inl (ia g3_1))), (pn2, .inr (7, [.ref pa2, .int (iI pk2)])), (pa2, .inl (E.1, 640, .inl (ia pg2))), (qn1, .inr (7, [.ref qa1, .int (iI qk2)])), (qa1, .inl (E.1, 640, .inl (ia g3_3))), (qn2, .inr (7, [.ref qa2, .int (iI qk2)])), (qa2, .inl (E.1, 640, .inl (ia qg2)))] H := hP
  have hD : va_D A [(h, .inr (8, [.int (bI be2), .ref pn1, .ref qn1, .int (iI ee2)])), (h2, .inr (8, [.int (bI be2), .ref pn2, .ref qn2, .int (iI ee2)])), (pn1, .inr (7, [.ref pa1, .int (iI pk2)])), (pa1, .inl (E.1, 640, .inl (ia g3_1))), (pn2, .inr (7, [.ref pa2, .int (iI pk2)])), (pa2, .inl (E.1, 640, .inl (ia pg2))), (qn1, .inr (7, [.ref qa1, .int (iI qk2)])), (qa1, .inl (E.1, 640, .inl (ia g3_3))), (qn2, .inr (7, [.ref qa2, .int (iI qk2)])), (qa2, .inl (E.1, 640, .inl (ia qg2)))] := hD
  exact ret (g3_1, g3_3) _ _ _ _ d_Num_copy_38 (show (BigOK g3_1 pk2 v) ∧ (BigOK g3_3 qk2 b) from ⟨hM_2, hM_4⟩) (hP.sub [0, 2, 3, 6, 7, 1, 4, 5, 8, 9] rfl) (hD.sub [0, 2, 3, 6, 7, 1, 4, 5, 8, 9] (by decide) rfl) hS
set_option maxHeartbeats 4000000 in
set_option maxRecDepth 100000 in
theorem c_Num_sign (l : Launch) (D : va_G) (E : EVt) (h : Nat) (pn : Nat) (pa : Nat) (qn : Nat) (pg : Int → Int) (pk : Int) (ee : Int) (v : Int) (be : Bool) (hT0 : BigOK pg pk v) : CT l D classes (tyl E) (EVX E) y_Num_sign (Cond.code y_Num_sign b_Num_sign 1 (some .int) :: TB) (rmK 0 0 0 0) 0 0 [.ref h] [(h, .inr (8, [.int (bI be), .ref pn, .ref qn, .int (iI ee)])), (pn, .inr (7, [.ref pa, .int (iI pk)])), (pa, .inl (E.1, 640, .inl (ia pg)))] (S := Int) (fun _ => [(h, .inr (8, [.int (bI be), .ref pn, .ref qn, .int (iI ee)])), (pn, .inr (7, [.ref pa, .int (iI pk)])), (pa, .inl (E.1, 640, .inl (ia pg)))]) (fun u => some (.int (iI u))) (fun u => (u = sgnR be v)) := by
  refine CT.ofi (fv := fun (u : Int) => u) (eok E) (by decide) rfl (Nat.le_of_ble_eq_true rfl) ?_
  intro p e s m args below meth c A Q ls B hmn hP hD hS hl ret
  have B : Bd l D classes (tyl E) (EVX E) p m c b_Num_sign 1 s args (Cond.code y_Num_sign b_Num_sign 1 (some .int) :: TB) R_Num A := B
  obtain ⟨⟨hx, hb, hml, hown, hts⟩, hX, hK, hE, hA⟩ := id B
  have hl : lv_has ls 1 [(0, .ref h)] := hl
  have hP : va_P D classes [(h, .inr (8, [.int (bI be), .ref pn, .ref qn, .int (iI ee)])), (pn, .inr (7, [.ref pa, .int (iI pk)])), (pa, .inl (E.1, 640, .inl (ia pg)))] s.heap := hP
  have hD : va_D A [(h, .inr (8, [.int (bI be), .ref pn, .ref qn, .int (iI ee)])), (pn, .inr (7, [.ref pa, .int (iI pk)])), (pa, .inl (E.1, 640, .inl (ia pg)))] := hD
  have hz := hT0.zero
  have hk := hT0.k
  refine lv_aload_n hx hb d_Num_sign_0 rfl (lv_at hl 0 rfl) ?_
  refine wk_get B hP 0 rfl fl_Num_10 (v := .ref pn) rfl d_Num_sign_1 ?_
  refine wk_getN B hP 1 rfl fn_Big_1 (hE.1 _ (List.mem_of_getElem? (l := nestWs) (i := 3) rfl)) (v := .int (iI pk)) rfl d_Num_sign_4 ?_
  refine wi_if_ne (tgt := 14) hx hb d_Num_sign_7 (by decide) (by omega) (fun c_1 => ?_) (fun c_1 => ?_)
  · skip
    refine lv_aload_n hx hb d_Num_sign_14 rfl (lv_at hl 0 rfl) ?_
    refine wk_get B hP 0 rfl fl_Num_19 (v := .int (bI be)) rfl d_Num_sign_15 ?_
    refine wb_if_eq (tgt := 25) hx hb d_Num_sign_18 (by decide) (fun c_2 => ?_) (fun c_2 => ?_)
    · skip
      refine wi_iconst (n := 1) hx hb d_Num_sign_25 ?_
      exact ret 1 _ _ _ _ d_Num_sign_26 (show (1 = sgnR be v) from (by unfold sgnR; rw [if_neg (fun z => absurd (hz.mpr z) (by omega)), c_2]; rfl)) (hP.sub [0, 1, 2] rfl) (hD.sub [0, 1, 2] (by decide) rfl) hS
    · skip
      refine wi_iconst (n := -1) hx hb d_Num_sign_21 ?_
      refine lv_goto (tgt := 26) hx hb d_Num_sign_22 (by decide) ?_
      exact ret (-1) _ _ _ _ d_Num_sign_26 (show ((-1) = sgnR be v) from (by unfold sgnR; rw [if_neg (fun z => absurd (hz.mpr z) (by omega)), c_2]; rfl)) (hP.sub [0, 1, 2] rfl) (hD.sub [0, 1, 2] (by decide) rfl) hS
  · skip
    refine wi_iconst (n := 0) hx hb d_Num_sign_10 ?_
    refine lv_goto (tgt := 26) hx hb d_Num_sign_11 (by decide) ?_
    exact ret 0 _ _ _ _ d_Num_sign_26 (show (0 = sgnR be v) from (by unfold sgnR; rw [if_pos (hz.mp (by omega))])) (hP.sub [0, 1, 2] rfl) (hD.sub [0, 1, 2] (by decide) rfl) hS
set_option maxHeartbeats 4000000 in
set_option maxRecDepth 100000 in
theorem c_Num_setFloat (l : Launch) (D : va_G) (E : EVt) (h : Nat) (pn : Nat) (pa : Nat) (qn : Nat) (qa : Nat) (pg : Int → Int) (qg : Int → Int) (pk : Int) (qk : Int) (ee : Int) (be : Bool) (f : Int) (n0 : Int) (neg : Bool) (hn0 : 0 ≤ n0 ∧ n0 < 9223372036854775808) (hf : (neg = true ∧ f = n0 - 9223372036854775808) ∨ (neg = false ∧ f = n0)) : CT l D classes (tyl E) (EVX E) y_Num_setFloat (Cond.code y_Num_setFloat b_Num_setFloat 7 none :: TB) (rmK 1 0 0 24) 0 0 [.ref h, .long (lI f)] [(h, .inr (8, [.int (bI be), .ref pn, .ref qn, .int (iI ee)])), (pn, .inr (7, [.ref pa, .int (iI pk)])), (pa, .inl (E.1, 640, .inl (ia pg))), (qn, .inr (7, [.ref qa, .int (iI qk)])), (qa, .inl (E.1, 640, .inl (ia qg)))] (S := (Int → Int) × (Int → Int) × Int × Int × Int × Bool) (fun u => [(h, .inr (8, [.int (bI u.2.2.2.2.2), .ref pn, .ref qn, .int (iI u.2.2.2.2.1)])), (pn, .inr (7, [.ref pa, .int (iI u.2.2.1)])), (pa, .inl (E.1, 640, .inl (ia u.1))), (qn, .inr (7, [.ref qa, .int (iI u.2.2.2.1)])), (qa, .inl (E.1, 640, .inl (ia u.2.1)))]) (fun _ => none) (fun u => (BigOK u.1 u.2.2.1 (FM n0)) ∧ (BigOK u.2.1 u.2.2.2.1 1) ∧ (u.2.2.2.2.1 = FE n0) ∧ (u.2.2.2.2.2 = neg)) := by
  refine CT.ofv (eok E) (by decide) rfl (Nat.le_of_ble_eq_true rfl) ?_
  intro p e s m args below meth c A Q ls B hmn hP hD hS hl ret
  have B : Bd l D classes (tyl E) (EVX E) p m c b_Num_setFloat 7 s args (Cond.code y_Num_setFloat b_Num_setFloat 7 none :: TB) R_Num A := B
  obtain ⟨⟨hx, hb, hml, hown, hts⟩, hX, hK, hE, hA⟩ := id B
  have hl : lv_has ls 7 [(0, .ref h), (1, .long (lI f))] := hl
  have hP : va_P D classes [(h, .inr (8, [.int (bI be), .ref pn, .ref qn, .int (iI ee)])), (pn, .inr (7, [.ref pa, .int (iI pk)])), (pa, .inl (E.1, 640, .inl (ia pg))), (qn, .inr (7, [.ref qa, .int (iI qk)])), (qa, .inl (E.1, 640, .inl (ia qg)))] s.heap := hP
  have hD : va_D A [(h, .inr (8, [.int (bI be), .ref pn, .ref qn, .int (iI ee)])), (pn, .inr (7, [.ref pa, .int (iI pk)])), (pa, .inl (E.1, 640, .inl (ia pg))), (qn, .inr (7, [.ref qa, .int (iI qk)])), (qa, .inl (E.1, 640, .inl (ia qg)))] := hD
  refine lv_lload_n hx hb d_Num_setFloat_0 rfl (lv_at hl 1 rfl) ?_
  refine wi_bipush hx hb d_Num_setFloat_1 (by decide) ?_
  refine wi_lushr2 hx hb 52 4503599627370496 (by decide +kernel) rfl (by decide) d_Num_setFloat_3 ?_
  refine wi_ldc2 hx hb 2047 hown (tb_h hts tw_Num_constantLong_38) (by decide) d_Num_setFloat_4 ?_
  refine wi_lmask hx hb 11 2048 (by decide +kernel) (by decide) (by decide) d_Num_setFloat_7 ?_
  refine w_eql (y := n0 / 4503599627370496) (by omega) ?_
  refine W.eq (g2 := F0 m 8 ls [.long (lI (n0 / 4503599627370496))]) rfl ?_
  refine lv_lstore_n (lv' := [(3, .long (lI (n0 / 4503599627370496))), (0, .ref h), (1, .long (lI f))]) hx hb d_Num_setFloat_8 rfl hl (by decide) rfl (fun ls hl => ?_)
  refine lv_lload_n hx hb d_Num_setFloat_9 rfl (lv_at hl 2 rfl) ?_
  refine wi_ldc2 hx hb 4503599627370495 hown (tb_h hts tw_Num_constantLong_40) (by decide) d_Num_setFloat_10 ?_
  refine wi_lmask hx hb 52 4503599627370496 (by decide +kernel) (by decide) (by decide) d_Num_setFloat_13 ?_
  refine w_eql (y := n0 % 4503599627370496) (by omega) ?_
  refine W.eq (g2 := F0 m 14 ls [.long (lI (n0 % 4503599627370496))]) rfl ?_
  refine lv_lstore (lv' := [(5, .long (lI (n0 % 4503599627370496))), (3, .long (lI (n0 / 4503599627370496))), (0, .ref h), (1, .long (lI f))]) hx hb d_Num_setFloat_14 hl (by decide) rfl (fun ls hl => ?_)
  refine lv_aload_n hx hb d_Num_setFloat_16 rfl (lv_at hl 2 rfl) ?_
  refine lv_lload_n hx hb d_Num_setFloat_17 rfl (lv_at hl 3 rfl) ?_
  refine wi_lconst (z := 0) hx hb d_Num_setFloat_18 (by decide) ?_
  refine wi_lcmp hx hb (by omega) (by omega) d_Num_setFloat_19 ?_
  refine wi_if_ge (tgt := 27) hx hb d_Num_setFloat_20 (by decide) (by have := cmpZ_rng f 0; omega) (fun c_1 => ?_) (fun c_1 => ?_)
  · skip
    have c_1 := cmpZ_ge.mp c_1
    refine wi_iconst (n := 0) hx hb d_Num_setFloat_27 ?_
    refine w_as0 ?_
    refine wk_put B hP hD hS 0 rfl fl_Num_19 fp_Num_0 (v := .int (bI false)) (bI_nar _) (bI_fit _) (Nat.le_of_ble_eq_true rfl) d_Num_setFloat_28 (fun H locs hP hD hS => ?_)
    have hP : va_P D classes [(h, .inr (8, [.int (bI false), .ref pn, .ref qn, .int (iI ee)])), (pn, .inr (7, [.ref pa, .int (iI pk)])), (pa, .inl (E.1, 640, .inl (ia pg))), (qn, .inr (7, [.ref qa, .int (iI qk)])), (qa, .inl (E.1, 640, .inl (ia qg)))] H := hP
    have hD : va_D A [(h, .inr (8, [.int (bI false), .ref pn, .ref qn, .int (iI ee)])), (pn, .inr (7, [.ref pa, .int (iI pk)])), (pa, .inl (E.1, 640, .inl (ia pg))), (qn, .inr (7, [.ref qa, .int (iI qk)])), (qa, .inl (E.1, 640, .inl (ia qg)))] := hD
    refine lv_aload_n hx hb d_Num_setFloat_31 rfl (lv_at hl 2 rfl) ?_
    refine wk_get B hP 0 rfl fl_Num_10 (v := .ref pn) rfl d_Num_setFloat_32 ?_
    refine lv_lload_n hx hb d_Num_setFloat_35 rfl (lv_at hl 1 rfl) ?_
    refine wi_lconst (z := 0) hx hb d_Num_setFloat_36 (by decide) ?_
    refine wi_lcmp hx hb (by omega) (by omega) d_Num_setFloat_37 ?_
    refine wi_if_ne (tgt := 46) hx hb d_Num_setFloat_38 (by decide) (by have := cmpZ_rng (n0 / 4503599627370496) 0; omega) (fun c_2 => ?_) (fun c_2 => ?_)
    · skip
      have c_2 := cmpZ_ne.mp c_2
      refine lv_lload hx hb d_Num_setFloat_46 (lv_at hl 0 rfl) ?_
      refine wi_ldc2 hx hb 4503599627370496 hown (tb_h hts tw_Num_constantLong_42) (by decide) d_Num_setFloat_48 ?_
      refine wi_lor2 hx hb 52 1 (by decide) (by omega) d_Num_setFloat_51 ?_
      refine wk_callV (As := [.long (lI (n0 % 4503599627370496 + 4503599627370496))]) (rest := []) (wr := [(h, .inr (8, [.int (bI false), .ref pn, .ref qn, .int (iI ee)])), (qn, .inr (7, [.ref qa, .int (iI qk)])), (qa, .inl (E.1, 640, .inl (ia qg)))]) B gTB cl_Num_23 (c_Big_set l D E pn pa pg pk (n0 % 4503599627370496 + 4503599627370496) (by omega)) ⟨⟨rfl, rfl⟩, Nat.le_of_ble_eq_true rfl, Nat.le_of_ble_eq_true rfl⟩ hP hD hS [1, 2] [0, 3, 4] rfl rfl (by decide) 1 rfl rfl rfl ⟨hl.2.1, hl.1⟩ rfl (Nat.le_of_ble_eq_true rfl) d_Num_setFloat_52 ⟨Nat.le_of_ble_eq_true rfl, Nat.le_of_ble_eq_true rfl⟩ rfl (fun u H locs hw hP hD hS => ?_)
      obtain ⟨g2_3, k2_4⟩ := u
      have hP : va_P D classes [(h, .inr (8, [.int (bI false), .ref pn, .ref qn, .int (iI ee)])), (qn, .inr (7, [.ref qa, .int (iI qk)])), (qa, .inl (E.1, 640, .inl (ia qg))), (pn, .inr (7, [.ref pa, .int (iI k2_4)])), (pa, .inl (E.1, 640, .inl (ia g2_3)))] H := hP
      have hD : va_D A [(h, .inr (8, [.int (bI false), .ref pn, .ref qn, .int (iI ee)])), (qn, .inr (7, [.ref qa, .int (iI qk)])), (qa, .inl (E.1, 640, .inl (ia qg))), (pn, .inr (7, [.ref pa, .int (iI k2_4)])), (pa, .inl (E.1, 640, .inl (ia g2_3)))] := hD
      have hw : (BigOK g2_3 k2_4 (n0 % 4503599627370496 + 4503599627370496)) := hw
      have hN_5 := hw
      refine W.cs (g := F0 m 55 ls []) (cells' := 0) (slots' := 0) rfl rfl ?_
      refine lv_aload_n hx hb d_Num_setFloat_55 rfl (lv_at hl 2 rfl) ?_
      refine wk_get B hP 0 rfl fl_Num_16 (v := .ref qn) rfl d_Num_setFloat_56 ?_
      refine wi_lconst (z := 1) hx hb d_Num_setFloat_59 (by decide) ?_
      refine wk_callV (As := [.long (lI 1)]) (rest := []) (wr := [(h, .inr (8, [.int (bI false), .ref pn, .ref qn, .int (iI ee)])), (pn, .inr (7, [.ref pa, .int (iI k2_4)])), (pa, .inl (E.1, 640, .inl (ia g2_3)))]) B gTB cl_Num_23 (c_Big_set l D E qn qa qg qk 1 (by omega)) ⟨⟨rfl, rfl⟩, Nat.le_of_ble_eq_true rfl, Nat.le_of_ble_eq_true rfl⟩ hP hD hS [1, 2] [0, 3, 4] rfl rfl (by decide) 1 rfl rfl rfl ⟨hl.2.1, hl.1⟩ rfl (Nat.le_of_ble_eq_true rfl) d_Num_setFloat_60 ⟨Nat.le_of_ble_eq_true rfl, Nat.le_of_ble_eq_true rfl⟩ rfl (fun u H locs hw hP hD hS => ?_)
      obtain ⟨g2_6, k2_7⟩ := u
      have hP : va_P D classes [(h, .inr (8, [.int (bI false), .ref pn, .ref qn, .int (iI ee)])), (pn, .inr (7, [.ref pa, .int (iI k2_4)])), (pa, .inl (E.1, 640, .inl (ia g2_3))), (qn, .inr (7, [.ref qa, .int (iI k2_7)])), (qa, .inl (E.1, 640, .inl (ia g2_6)))] H := hP
      have hD : va_D A [(h, .inr (8, [.int (bI false), .ref pn, .ref qn, .int (iI ee)])), (pn, .inr (7, [.ref pa, .int (iI k2_4)])), (pa, .inl (E.1, 640, .inl (ia g2_3))), (qn, .inr (7, [.ref qa, .int (iI k2_7)])), (qa, .inl (E.1, 640, .inl (ia g2_6)))] := hD
      have hw : (BigOK g2_6 k2_7 1) := hw
      have hN_8 := hw
      refine W.cs (g := F0 m 63 ls []) (cells' := 0) (slots' := 0) rfl rfl ?_
      refine lv_aload_n hx hb d_Num_setFloat_63 rfl (lv_at hl 2 rfl) ?_
      refine lv_lload_n hx hb d_Num_setFloat_64 rfl (lv_at hl 1 rfl) ?_
      refine wi_lconst (z := 0) hx hb d_Num_setFloat_65 (by decide) ?_
      refine wi_lcmp hx hb (by omega) (by omega) d_Num_setFloat_66 ?_
      refine wi_if_ne (tgt := 76) hx hb d_Num_setFloat_67 (by decide) (by have := cmpZ_rng (n0 / 4503599627370496) 0; omega) (fun c_9 => ?_) (fun c_9 => by have c_9 := cmpZ_eq.mp c_9; exfalso; omega)
      have c_9 := cmpZ_ne.mp c_9
      refine lv_lload_n hx hb d_Num_setFloat_76 rfl (lv_at hl 1 rfl) ?_
      refine wi_l2i hx hb d_Num_setFloat_77 ?_
      refine wi_sipush hx hb d_Num_setFloat_78 (by decide) ?_
      refine wi_isub hx hb d_Num_setFloat_81 ?_
      refine wk_put B hP hD hS 0 rfl fl_Num_27 fp_Num_3 (v := .int (iI (n0 / 4503599627370496 - 1075))) rfl rfl (Nat.le_of_ble_eq_true rfl) d_Num_setFloat_82 (fun H locs hP hD hS => ?_)
      have hP : va_P D classes [(h, .inr (8, [.int (bI false), .ref pn, .ref qn, .int (iI (n0 / 4503599627370496 - 1075))])), (pn, .inr (7, [.ref pa, .int (iI k2_4)])), (pa, .inl (E.1, 640, .inl (ia g2_3))), (qn, .inr (7, [.ref qa, .int (iI k2_7)])), (qa, .inl (E.1, 640, .inl (ia g2_6)))] H := hP
      have hD : va_D A [(h, .inr (8, [.int (bI false), .ref pn, .ref qn, .int (iI (n0 / 4503599627370496 - 1075))])), (pn, .inr (7, [.ref pa, .int (iI k2_4)])), (pa, .inl (E.1, 640, .inl (ia g2_3))), (qn, .inr (7, [.ref qa, .int (iI k2_7)])), (qa, .inl (E.1, 640, .inl (ia g2_6)))] := hD
      exact ret (g2_3, g2_6, k2_4, k2_7, n0 / 4503599627370496 - 1075, false) _ _ _ _ d_Num_setFloat_85 (show (BigOK g2_3 k2_4 (FM n0)) ∧ (BigOK g2_6 k2_7 1) ∧ ((n0 / 4503599627370496 - 1075) = FE n0) ∧ (false = neg) from ⟨by unfold FM; rw [if_neg (by omega), Int.add_comm]; exact hN_5, hN_8, by unfold FE; rw [if_neg (by omega)], by rcases hf with z | z <;> first | exact z.1.symm | (exfalso; omega)⟩) (hP.sub [0, 1, 2, 3, 4] rfl) (hD.sub [0, 1, 2, 3, 4] (by decide) rfl) hS
    · skip
      have c_2 := cmpZ_eq.mp c_2
      refine lv_lload hx hb d_Num_setFloat_41 (lv_at hl 0 rfl) ?_
      refine lv_goto (tgt := 52) hx hb d_Num_setFloat_43 (by decide) ?_
      refine wk_callV (As := [.long (lI (n0 % 4503599627370496))]) (rest := []) (wr := [(h, .inr (8, [.int (bI false), .ref pn, .ref qn, .int (iI ee)])), (qn, .inr (7, [.ref qa, .int (iI qk)])), (qa, .inl (E.1, 640, .inl (ia qg)))]) B gTB cl_Num_23 (c_Big_set l D E pn pa pg pk (n0 % 4503599627370496) (by omega)) ⟨⟨rfl, rfl⟩, Nat.le_of_ble_eq_true rfl, Nat.le_of_ble_eq_true rfl⟩ hP hD hS [1, 2] [0, 3, 4] rfl rfl (by decide) 1 rfl rfl rfl ⟨hl.2.1, hl.1⟩ rfl (Nat.le_of_ble_eq_true rfl) d_Num_setFloat_52 ⟨Nat.le_of_ble_eq_true rfl, Nat.le_of_ble_eq_true rfl⟩ rfl (fun u H locs hw hP hD hS => ?_)
      obtain ⟨g2_10, k2_11⟩ := u
      have hP : va_P D classes [(h, .inr (8, [.int (bI false), .ref pn, .ref qn, .int (iI ee)])), (qn, .inr (7, [.ref qa, .int (iI qk)])), (qa, .inl (E.1, 640, .inl (ia qg))), (pn, .inr (7, [.ref pa, .int (iI k2_11)])), (pa, .inl (E.1, 640, .inl (ia g2_10)))] H := hP
      have hD : va_D A [(h, .inr (8, [.int (bI false), .ref pn, .ref qn, .int (iI ee)])), (qn, .inr (7, [.ref qa, .int (iI qk)])), (qa, .inl (E.1, 640, .inl (ia qg))), (pn, .inr (7, [.ref pa, .int (iI k2_11)])), (pa, .inl (E.1, 640, .inl (ia g2_10)))] := hD
      have hw : (BigOK g2_10 k2_11 (n0 % 4503599627370496)) := hw
      have hN_12 := hw
      refine W.cs (g := F0 m 55 ls []) (cells' := 0) (slots' := 0) rfl rfl ?_
      refine lv_aload_n hx hb d_Num_setFloat_55 rfl (lv_at hl 2 rfl) ?_
      refine wk_get B hP 0 rfl fl_Num_16 (v := .ref qn) rfl d_Num_setFloat_56 ?_
      refine wi_lconst (z := 1) hx hb d_Num_setFloat_59 (by decide) ?_
      refine wk_callV (As := [.long (lI 1)]) (rest := []) (wr := [(h, .inr (8, [.int (bI false), .ref pn, .ref qn, .int (iI ee)])), (pn, .inr (7, [.ref pa, .int (iI k2_11)])), (pa, .inl (E.1, 640, .inl (ia g2_10)))]) B gTB cl_Num_23 (c_Big_set l D E qn qa qg qk 1 (by omega)) ⟨⟨rfl, rfl⟩, Nat.le_of_ble_eq_true rfl, Nat.le_of_ble_eq_true rfl⟩ hP hD hS [1, 2] [0, 3, 4] rfl rfl (by decide) 1 rfl rfl rfl ⟨hl.2.1, hl.1⟩ rfl (Nat.le_of_ble_eq_true rfl) d_Num_setFloat_60 ⟨Nat.le_of_ble_eq_true rfl, Nat.le_of_ble_eq_true rfl⟩ rfl (fun u H locs hw hP hD hS => ?_)
      obtain ⟨g2_13, k2_14⟩ := u
      have hP : va_P D classes [(h, .inr (8, [.int (bI false), .ref pn, .ref qn, .int (iI ee)])), (pn, .inr (7, [.ref pa, .int (iI k2_11)])), (pa, .inl (E.1, 640, .inl (ia g2_10))), (qn, .inr (7, [.ref qa, .int (iI k2_14)])), (qa, .inl (E.1, 640, .inl (ia g2_13)))] H := hP
      have hD : va_D A [(h, .inr (8, [.int (bI false), .ref pn, .ref qn, .int (iI ee)])), (pn, .inr (7, [.ref pa, .int (iI k2_11)])), (pa, .inl (E.1, 640, .inl (ia g2_10))), (qn, .inr (7, [.ref qa, .int (iI k2_14)])), (qa, .inl (E.1, 640, .inl (ia g2_13)))] := hD
      have hw : (BigOK g2_13 k2_14 1) := hw
      have hN_15 := hw
      refine W.cs (g := F0 m 63 ls []) (cells' := 0) (slots' := 0) rfl rfl ?_
      refine lv_aload_n hx hb d_Num_setFloat_63 rfl (lv_at hl 2 rfl) ?_
      refine lv_lload_n hx hb d_Num_setFloat_64 rfl (lv_at hl 1 rfl) ?_
      refine wi_lconst (z := 0) hx hb d_Num_setFloat_65 (by decide) ?_
      refine wi_lcmp hx hb (by omega) (by omega) d_Num_setFloat_66 ?_
      refine wi_if_ne (tgt := 76) hx hb d_Num_setFloat_67 (by decide) (by have := cmpZ_rng (n0 / 4503599627370496) 0; omega) (fun c_16 => by have c_16 := cmpZ_ne.mp c_16; exfalso; omega) (fun c_16 => ?_)
      have c_16 := cmpZ_eq.mp c_16
      refine wi_sipush hx hb d_Num_setFloat_70 (by decide) ?_
      refine lv_goto (tgt := 82) hx hb d_Num_setFloat_73 (by decide) ?_
      refine wk_put B hP hD hS 0 rfl fl_Num_27 fp_Num_3 (v := .int (iI (-1074))) rfl rfl (Nat.le_of_ble_eq_true rfl) d_Num_setFloat_82 (fun H locs hP hD hS => ?_)
      have hP : va_P D classes [(h, .inr (8, [.int (bI false), .ref pn, .ref qn, .int (iI (-1074))])), (pn, .inr (7, [.ref pa, .int (iI k2_11)])), (pa, .inl (E.1, 640, .inl (ia g2_10))), (qn, .inr (7, [.ref qa, .int (iI k2_14)])), (qa, .inl (E.1, 640, .inl (ia g2_13)))] H := hP
      have hD : va_D A [(h, .inr (8, [.int (bI false), .ref pn, .ref qn, .int (iI (-1074))])), (pn, .inr (7, [.ref pa, .int (iI k2_11)])), (pa, .inl (E.1, 640, .inl (ia g2_10))), (qn, .inr (7, [.ref qa, .int (iI k2_14)])), (qa, .inl (E.1, 640, .inl (ia g2_13)))] := hD
      exact ret (g2_10, g2_13, k2_11, k2_14, -1074, false) _ _ _ _ d_Num_setFloat_85 (show (BigOK g2_10 k2_11 (FM n0)) ∧ (BigOK g2_13 k2_14 1) ∧ ((-1074) = FE n0) ∧ (false = neg) from ⟨by unfold FM; rw [if_pos (by omega)]; exact (show n0 % 4503599627370496 = n0 by omega) ▸ hN_12, hN_15, by unfold FE; rw [if_pos (by omega)], by rcases hf with z | z <;> first | exact z.1.symm | (exfalso; omega)⟩) (hP.sub [0, 1, 2, 3, 4] rfl) (hD.sub [0, 1, 2, 3, 4] (by decide) rfl) hS
  · skip
    have c_1 := cmpZ_lt.mp c_1
    refine wi_iconst (n := 1) hx hb d_Num_setFloat_23 ?_
    refine lv_goto (tgt := 28) hx hb d_Num_setFloat_24 (by decide) ?_
    refine w_as1 ?_
    refine wk_put B hP hD hS 0 rfl fl_Num_19 fp_Num_0 (v := .int (bI true)) (bI_nar _) (bI_fit _) (Nat.le_of_ble_eq_true rfl) d_Num_setFloat_28 (fun H locs hP hD hS => ?_)
    have hP : va_P D classes [(h, .inr (8, [.int (bI true), .ref pn, .ref qn, .int (iI ee)])), (pn, .inr (7, [.ref pa, .int (iI pk)])), (pa, .inl (E.1, 640, .inl (ia pg))), (qn, .inr (7, [.ref qa, .int (iI qk)])), (qa, .inl (E.1, 640, .inl (ia qg)))] H := hP
    have hD : va_D A [(h, .inr (8, [.int (bI true), .ref pn, .ref qn, .int (iI ee)])), (pn, .inr (7, [.ref pa, .int (iI pk)])), (pa, .inl (E.1, 640, .inl (ia pg))), (qn, .inr (7, [.ref qa, .int (iI qk)])), (qa, .inl (E.1, 640, .inl (ia qg)))] := hD
    refine lv_aload_n hx hb d_Num_setFloat_31 rfl (lv_at hl 2 rfl) ?_
    refine wk_get B hP 0 rfl fl_Num_10 (v := .ref pn) rfl d_Num_setFloat_32 ?_
    refine lv_lload_n hx hb d_Num_setFloat_35 rfl (lv_at hl 1 rfl) ?_
    refine wi_lconst (z := 0) hx hb d_Num_setFloat_36 (by decide) ?_
    refine wi_lcmp hx hb (by omega) (by omega) d_Num_setFloat_37 ?_
    refine wi_if_ne (tgt := 46) hx hb d_Num_setFloat_38 (by decide) (by have := cmpZ_rng (n0 / 4503599627370496) 0; omega) (fun c_17 => ?_) (fun c_17 => ?_)
    · skip
      have c_17 := cmpZ_ne.mp c_17
      refine lv_lload hx hb d_Num_setFloat_46 (lv_at hl 0 rfl) ?_
      refine wi_ldc2 hx hb 4503599627370496 hown (tb_h hts tw_Num_constantLong_42) (by decide) d_Num_setFloat_48 ?_
      refine wi_lor2 hx hb 52 1 (by decide) (by omega) d_Num_setFloat_51 ?_
      refine wk_callV (As := [.long (lI (n0 % 4503599627370496 + 4503599627370496))]) (rest := []) (wr := [(h, .inr (8, [.int (bI true), .ref pn, .ref qn, .int (iI ee)])), (qn, .inr (7, [.ref qa, .int (iI qk)])), (qa, .inl (E.1, 640, .inl (ia qg)))]) B gTB cl_Num_23 (c_Big_set l D E pn pa pg pk (n0 % 4503599627370496 + 4503599627370496) (by omega)) ⟨⟨rfl, rfl⟩, Nat.le_of_ble_eq_true rfl, Nat.le_of_ble_eq_true rfl⟩ hP hD hS [1, 2] [0, 3, 4] rfl rfl (by decide) 1 rfl rfl rfl ⟨hl.2.1, hl.1⟩ rfl (Nat.le_of_ble_eq_true rfl) d_Num_setFloat_52 ⟨Nat.le_of_ble_eq_true rfl, Nat.le_of_ble_eq_true rfl⟩ rfl (fun u H locs hw hP hD hS => ?_)
      obtain ⟨g2_18, k2_19⟩ := u
      have hP : va_P D classes [(h, .inr (8, [.int (bI true), .ref pn, .ref qn, .int (iI ee)])), (qn, .inr (7, [.ref qa, .int (iI qk)])), (qa, .inl (E.1, 640, .inl (ia qg))), (pn, .inr (7, [.ref pa, .int (iI k2_19)])), (pa, .inl (E.1, 640, .inl (ia g2_18)))] H := hP
      have hD : va_D A [(h, .inr (8, [.int (bI true), .ref pn, .ref qn, .int (iI ee)])), (qn, .inr (7, [.ref qa, .int (iI qk)])), (qa, .inl (E.1, 640, .inl (ia qg))), (pn, .inr (7, [.ref pa, .int (iI k2_19)])), (pa, .inl (E.1, 640, .inl (ia g2_18)))] := hD
      have hw : (BigOK g2_18 k2_19 (n0 % 4503599627370496 + 4503599627370496)) := hw
      have hN_20 := hw
      refine W.cs (g := F0 m 55 ls []) (cells' := 0) (slots' := 0) rfl rfl ?_
      refine lv_aload_n hx hb d_Num_setFloat_55 rfl (lv_at hl 2 rfl) ?_
      refine wk_get B hP 0 rfl fl_Num_16 (v := .ref qn) rfl d_Num_setFloat_56 ?_
      refine wi_lconst (z := 1) hx hb d_Num_setFloat_59 (by decide) ?_
      refine wk_callV (As := [.long (lI 1)]) (rest := []) (wr := [(h, .inr (8, [.int (bI true), .ref pn, .ref qn, .int (iI ee)])), (pn, .inr (7, [.ref pa, .int (iI k2_19)])), (pa, .inl (E.1, 640, .inl (ia g2_18)))]) B gTB cl_Num_23 (c_Big_set l D E qn qa qg qk 1 (by omega)) ⟨⟨rfl, rfl⟩, Nat.le_of_ble_eq_true rfl, Nat.le_of_ble_eq_true rfl⟩ hP hD hS [1, 2] [0, 3, 4] rfl rfl (by decide) 1 rfl rfl rfl ⟨hl.2.1, hl.1⟩ rfl (Nat.le_of_ble_eq_true rfl) d_Num_setFloat_60 ⟨Nat.le_of_ble_eq_true rfl, Nat.le_of_ble_eq_true rfl⟩ rfl (fun u H locs hw hP hD hS => ?_)
      obtain ⟨g2_21, k2_22⟩ := u
      have hP : va_P D classes [(h, .inr (8, [.int (bI true), .ref pn, .ref qn, .int (iI ee)])), (pn, .inr (7, [.ref pa, .int (iI k2_19)])), (pa, .inl (E.1, 640, .inl (ia g2_18))), (qn, .inr (7, [.ref qa, .int (iI k2_22)])), (qa, .inl (E.1, 640, .inl (ia g2_21)))] H := hP
      have hD : va_D A [(h, .inr (8, [.int (bI true), .ref pn, .ref qn, .int (iI ee)])), (pn, .inr (7, [.ref pa, .int (iI k2_19)])), (pa, .inl (E.1, 640, .inl (ia g2_18))), (qn, .inr (7, [.ref qa, .int (iI k2_22)])), (qa, .inl (E.1, 640, .inl (ia g2_21)))] := hD
      have hw : (BigOK g2_21 k2_22 1) := hw
      have hN_23 := hw
      refine W.cs (g := F0 m 63 ls []) (cells' := 0) (slots' := 0) rfl rfl ?_
      refine lv_aload_n hx hb d_Num_setFloat_63 rfl (lv_at hl 2 rfl) ?_
      refine lv_lload_n hx hb d_Num_setFloat_64 rfl (lv_at hl 1 rfl) ?_
      refine wi_lconst (z := 0) hx hb d_Num_setFloat_65 (by decide) ?_
      refine wi_lcmp hx hb (by omega) (by omega) d_Num_setFloat_66 ?_
      refine wi_if_ne (tgt := 76) hx hb d_Num_setFloat_67 (by decide) (by have := cmpZ_rng (n0 / 4503599627370496) 0; omega) (fun c_24 => ?_) (fun c_24 => by have c_24 := cmpZ_eq.mp c_24; exfalso; omega)
      have c_24 := cmpZ_ne.mp c_24
      refine lv_lload_n hx hb d_Num_setFloat_76 rfl (lv_at hl 1 rfl) ?_
      refine wi_l2i hx hb d_Num_setFloat_77 ?_
      refine wi_sipush hx hb d_Num_setFloat_78 (by decide) ?_
      refine wi_isub hx hb d_Num_setFloat_81 ?_
      refine wk_put B hP hD hS 0 rfl fl_Num_27 fp_Num_3 (v := .int (iI (n0 / 4503599627370496 - 1075))) rfl rfl (Nat.le_of_ble_eq_true rfl) d_Num_setFloat_82 (fun H locs hP hD hS => ?_)
      have hP : va_P D classes [(h, .inr (8, [.int (bI true), .ref pn, .ref qn, .int (iI (n0 / 4503599627370496 - 1075))])), (pn, .inr (7, [.ref pa, .int (iI k2_19)])), (pa, .inl (E.1, 640, .inl (ia g2_18))), (qn, .inr (7, [.ref qa, .int (iI k2_22)])), (qa, .inl (E.1, 640, .inl (ia g2_21)))] H := hP
      have hD : va_D A [(h, .inr (8, [.int (bI true), .ref pn, .ref qn, .int (iI (n0 / 4503599627370496 - 1075))])), (pn, .inr (7, [.ref pa, .int (iI k2_19)])), (pa, .inl (E.1, 640, .inl (ia g2_18))), (qn, .inr (7, [.ref qa, .int (iI k2_22)])), (qa, .inl (E.1, 640, .inl (ia g2_21)))] := hD
      exact ret (g2_18, g2_21, k2_19, k2_22, n0 / 4503599627370496 - 1075, true) _ _ _ _ d_Num_setFloat_85 (show (BigOK g2_18 k2_19 (FM n0)) ∧ (BigOK g2_21 k2_22 1) ∧ ((n0 / 4503599627370496 - 1075) = FE n0) ∧ (true = neg) from ⟨by unfold FM; rw [if_neg (by omega), Int.add_comm]; exact hN_20, hN_23, by unfold FE; rw [if_neg (by omega)], by rcases hf with z | z <;> first | exact z.1.symm | (exfalso; omega)⟩) (hP.sub [0, 1, 2, 3, 4] rfl) (hD.sub [0, 1, 2, 3, 4] (by decide) rfl) hS
    · skip
      have c_17 := cmpZ_eq.mp c_17
      refine lv_lload hx hb d_Num_setFloat_41 (lv_at hl 0 rfl) ?_
      refine lv_goto (tgt := 52) hx hb d_Num_setFloat_43 (by decide) ?_
      refine wk_callV (As := [.long (lI (n0 % 4503599627370496))]) (rest := []) (wr := [(h, .inr (8, [.int (bI true), .ref pn, .ref qn, .int (iI ee)])), (qn, .inr (7, [.ref qa, .int (iI qk)])), (qa, .inl (E.1, 640, .inl (ia qg)))]) B gTB cl_Num_23 (c_Big_set l D E pn pa pg pk (n0 % 4503599627370496) (by omega)) ⟨⟨rfl, rfl⟩, Nat.le_of_ble_eq_true rfl, Nat.le_of_ble_eq_true rfl⟩ hP hD hS [1, 2] [0, 3, 4] rfl rfl (by decide) 1 rfl rfl rfl ⟨hl.2.1, hl.1⟩ rfl (Nat.le_of_ble_eq_true rfl) d_Num_setFloat_52 ⟨Nat.le_of_ble_eq_true rfl, Nat.le_of_ble_eq_true rfl⟩ rfl (fun u H locs hw hP hD hS => ?_)
      obtain ⟨g2_25, k2_26⟩ := u
      have hP : va_P D classes [(h, .inr (8, [.int (bI true), .ref pn, .ref qn, .int (iI ee)])), (qn, .inr (7, [.ref qa, .int (iI qk)])), (qa, .inl (E.1, 640, .inl (ia qg))), (pn, .inr (7, [.ref pa, .int (iI k2_26)])), (pa, .inl (E.1, 640, .inl (ia g2_25)))] H := hP
      have hD : va_D A [(h, .inr (8, [.int (bI true), .ref pn, .ref qn, .int (iI ee)])), (qn, .inr (7, [.ref qa, .int (iI qk)])), (qa, .inl (E.1, 640, .inl (ia qg))), (pn, .inr (7, [.ref pa, .int (iI k2_26)])), (pa, .inl (E.1, 640, .inl (ia g2_25)))] := hD
      have hw : (BigOK g2_25 k2_26 (n0 % 4503599627370496)) := hw
      have hN_27 := hw
      refine W.cs (g := F0 m 55 ls []) (cells' := 0) (slots' := 0) rfl rfl ?_
      refine lv_aload_n hx hb d_Num_setFloat_55 rfl (lv_at hl 2 rfl) ?_
      refine wk_get B hP 0 rfl fl_Num_16 (v := .ref qn) rfl d_Num_setFloat_56 ?_
      refine wi_lconst (z := 1) hx hb d_Num_setFloat_59 (by decide) ?_
      refine wk_callV (As := [.long (lI 1)]) (rest := []) (wr := [(h, .inr (8, [.int (bI true), .ref pn, .ref qn, .int (iI ee)])), (pn, .inr (7, [.ref pa, .int (iI k2_26)])), (pa, .inl (E.1, 640, .inl (ia g2_25)))]) B gTB cl_Num_23 (c_Big_set l D E qn qa qg qk 1 (by omega)) ⟨⟨rfl, rfl⟩, Nat.le_of_ble_eq_true rfl, Nat.le_of_ble_eq_true rfl⟩ hP hD hS [1, 2] [0, 3, 4] rfl rfl (by decide) 1 rfl rfl rfl ⟨hl.2.1, hl.1⟩ rfl (Nat.le_of_ble_eq_true rfl) d_Num_setFloat_60 ⟨Nat.le_of_ble_eq_true rfl, Nat.le_of_ble_eq_true rfl⟩ rfl (fun u H locs hw hP hD hS => ?_)
      obtain ⟨g2_28, k2_29⟩ := u
      have hP : va_P D classes [(h, .inr (8, [.int (bI true), .ref pn, .ref qn, .int (iI ee)])), (pn, .inr (7, [.ref pa, .int (iI k2_26)])), (pa, .inl (E.1, 640, .inl (ia g2_25))), (qn, .inr (7, [.ref qa, .int (iI k2_29)])), (qa, .inl (E.1, 640, .inl (ia g2_28)))] H := hP
      have hD : va_D A [(h, .inr (8, [.int (bI true), .ref pn, .ref qn, .int (iI ee)])), (pn, .inr (7, [.ref pa, .int (iI k2_26)])), (pa, .inl (E.1, 640, .inl (ia g2_25))), (qn, .inr (7, [.ref qa, .int (iI k2_29)])), (qa, .inl (E.1, 640, .inl (ia g2_28)))] := hD
      have hw : (BigOK g2_28 k2_29 1) := hw
      have hN_30 := hw
      refine W.cs (g := F0 m 63 ls []) (cells' := 0) (slots' := 0) rfl rfl ?_
      refine lv_aload_n hx hb d_Num_setFloat_63 rfl (lv_at hl 2 rfl) ?_
      refine lv_lload_n hx hb d_Num_setFloat_64 rfl (lv_at hl 1 rfl) ?_
      refine wi_lconst (z := 0) hx hb d_Num_setFloat_65 (by decide) ?_
      refine wi_lcmp hx hb (by omega) (by omega) d_Num_setFloat_66 ?_
      refine wi_if_ne (tgt := 76) hx hb d_Num_setFloat_67 (by decide) (by have := cmpZ_rng (n0 / 4503599627370496) 0; omega) (fun c_31 => by have c_31 := cmpZ_ne.mp c_31; exfalso; omega) (fun c_31 => ?_)
      have c_31 := cmpZ_eq.mp c_31
      refine wi_sipush hx hb d_Num_setFloat_70 (by decide) ?_
      refine lv_goto (tgt := 82) hx hb d_Num_setFloat_73 (by decide) ?_
      refine wk_put B hP hD hS 0 rfl fl_Num_27 fp_Num_3 (v := .int (iI (-1074))) rfl rfl (Nat.le_of_ble_eq_true rfl) d_Num_setFloat_82 (fun H locs hP hD hS => ?_)
      have hP : va_P D classes [(h, .inr (8, [.int (bI true), .ref pn, .ref qn, .int (iI (-1074))])), (pn, .inr (7, [.ref pa, .int (iI k2_26)])), (pa, .inl (E.1, 640, .inl (ia g2_25))), (qn, .inr (7, [.ref qa, .int (iI k2_29)])), (qa, .inl (E.1, 640, .inl (ia g2_28)))] H := hP
      have hD : va_D A [(h, .inr (8, [.int (bI true), .ref pn, .ref qn, .int (iI (-1074))])), (pn, .inr (7, [.ref pa, .int (iI k2_26)])), (pa, .inl (E.1, 640, .inl (ia g2_25))), (qn, .inr (7, [.ref qa, .int (iI k2_29)])), (qa, .inl (E.1, 640, .inl (ia g2_28)))] := hD
      exact ret (g2_25, g2_28, k2_26, k2_29, -1074, true) _ _ _ _ d_Num_setFloat_85 (show (BigOK g2_25 k2_26 (FM n0)) ∧ (BigOK g2_28 k2_29 1) ∧ ((-1074) = FE n0) ∧ (true = neg) from ⟨by unfold FM; rw [if_pos (by omega)]; exact (show n0 % 4503599627370496 = n0 by omega) ▸ hN_27, hN_30, by unfold FE; rw [if_pos (by omega)], by rcases hf with z | z <;> first | exact z.1.symm | (exfalso; omega)⟩) (hP.sub [0, 1, 2, 3, 4] rfl) (hD.sub [0, 1, 2, 3, 4] (by decide) rfl) hS
set_option maxHeartbeats 4000000 in
set_option maxRecDepth 100000 in
theorem c_Num_times (l : Launch) (D : va_G) (E : EVt) (h : Nat) (pn : Nat) (pa : Nat) (qn : Nat) (qa : Nat) (pg : Int → Int) (qg : Int → Int) (pk : Int) (qk : Int) (ee : Int) (be : Bool) (h1 : Nat) (pn1 : Nat) (pa1 : Nat) (qn1 : Nat) (qa1 : Nat) (pg1 : Int → Int) (qg1 : Int → Int) (pk1 : Int) (qk1 : Int) (ee1 : Int) (be1 : Bool) (h2 : Nat) (pn2 : Nat) (pa2 : Nat) (qn2 : Nat) (qa2 : Nat) (pg2 : Int → Int) (qg2 : Int → Int) (pk2 : Int) (qk2 : Int) (ee2 : Int) (be2 : Bool) (v1 : Int) (b1 : Int) (v2 : Int) (b2 : Int) (hT1 : BigOK pg1 pk1 v1) (hB1 : BigOK qg1 qk1 b1) (hT2 : BigOK pg2 pk2 v2) (hB2 : BigOK qg2 qk2 b2) (hs1 : pk1 + pk2 ≤ 640) (hs2 : qk1 + qk2 ≤ 640) : CT l D classes (tyl E) (EVX E) y_Num_times (Cond.code y_Num_times b_Num_times 3 none :: TB) (rmK 2 0 0 48) 0 0 [.ref h, .ref h1, .ref h2] [(h, .inr (8, [.int (bI be), .ref pn, .ref qn, .int (iI ee)])), (pn, .inr (7, [.ref pa, .int (iI pk)])), (pa, .inl (E.1, 640, .inl (ia pg))), (qn, .inr (7, [.ref qa, .int (iI qk)])), (qa, .inl (E.1, 640, .inl (ia qg))), (h1, .inr (8, [.int (bI be1), .ref pn1, .ref qn1, .int (iI ee1)])), (pn1, .inr (7, [.ref pa1, .int (iI pk1)])), (pa1, .inl (E.1, 640, .inl (ia pg1))), (qn1, .inr (7, [.ref qa1, .int (iI qk1)])), (qa1, .inl (E.1, 640, .inl (ia qg1))), (h2, .inr (8, [.int (bI be2), .ref pn2, .ref qn2, .int (iI ee2)])), (pn2, .inr (7, [.ref pa2, .int (iI pk2)])), (pa2, .inl (E.1, 640, .inl (ia pg2))), (qn2, .inr (7, [.ref qa2, .int (iI qk2)])), (qa2, .inl (E.1, 640, .inl (ia qg2)))] (S := (Int → Int) × (Int → Int) × Int × Int × Bool) (fun u => [(h, .inr (8, [.int (bI u.2.2.2.2), .ref pn, .ref qn, .int (iI (ee1 + ee2))])), (pn, .inr (7, [.ref pa, .int (iI u.2.2.1)])), (pa, .inl (E.1, 640, .inl (ia u.1))), (qn, .inr (7, [.ref qa, .int (iI u.2.2.2.1)])), (qa, .inl (E.1, 640, .inl (ia u.2.1))), (h1, .inr (8, [.int (bI be1), .ref pn1, .ref qn1, .int (iI ee1)])), (pn1, .inr (7, [.ref pa1, .int (iI pk1)])), (pa1, .inl (E.1, 640, .inl (ia pg1))), (qn1, .inr (7, [.ref qa1, .int (iI qk1)])), (qa1, .inl (E.1, 640, .inl (ia qg1))), (h2, .inr (8, [.int (bI be2), .ref pn2, .ref qn2, .int (iI ee2)])), (pn2, .inr (7, [.ref pa2, .int (iI pk2)])), (pa2, .inl (E.1, 640, .inl (ia pg2))), (qn2, .inr (7, [.ref qa2, .int (iI qk2)])), (qa2, .inl (E.1, 640, .inl (ia qg2)))]) (fun _ => none) (fun u => (BigOK u.1 u.2.2.1 (v1 * v2)) ∧ (BigOK u.2.1 u.2.2.2.1 (b1 * b2)) ∧ (u.2.2.2.2 = (be1 != be2))) := by
  refine CT.ofv (eok E) (by decide) rfl (Nat.le_of_ble_eq_true rfl) ?_
  intro p e s m args below meth c A Q ls B hmn hP hD hS hl ret
  have B : Bd l D classes (tyl E) (EVX E) p m c b_Num_times 3 s args (Cond.code y_Num_times b_Num_times 3 none :: TB) R_Num A := B
  obtain ⟨⟨hx, hb, hml, hown, hts⟩, hX, hK, hE, hA⟩ := id B
  have hl : lv_has ls 3 [(0, .ref h), (1, .ref h1), (2, .ref h2)] := hl
  have hP : va_P D classes [(h, .inr (8, [.int (bI be), .ref pn, .ref qn, .int (iI ee)])), (pn, .inr (7, [.ref pa, .int (iI pk)])), (pa, .inl (E.1, 640, .inl (ia pg))), (qn, .inr (7, [.ref qa, .int (iI qk)])), (qa, .inl (E.1, 640, .inl (ia qg))), (h1, .inr (8, [.int (bI be1), .ref pn1, .ref qn1, .int (iI ee1)])), (pn1, .inr (7, [.ref pa1, .int (iI pk1)])), (pa1, .inl (E.1, 640, .inl (ia pg1))), (qn1, .inr (7, [.ref qa1, .int (iI qk1)])), (qa1, .inl (E.1, 640, .inl (ia qg1))), (h2, .inr (8, [.int (bI be2), .ref pn2, .ref qn2, .int (iI ee2)])), (pn2, .inr (7, [.ref pa2, .int (iI pk2)])), (pa2, .inl (E.1, 640, .inl (ia pg2))), (qn2, .inr (7, [.ref qa2, .int (iI qk2)])), (qa2, .inl (E.1, 640, .inl (ia qg2)))] s.heap := hP
  have hD : va_D A [(h, .inr (8, [.int (bI be), .ref pn, .ref qn, .int (iI ee)])), (pn, .inr (7, [.ref pa, .int (iI pk)])), (pa, .inl (E.1, 640, .inl (ia pg))), (qn, .inr (7, [.ref qa, .int (iI qk)])), (qa, .inl (E.1, 640, .inl (ia qg))), (h1, .inr (8, [.int (bI be1), .ref pn1, .ref qn1, .int (iI ee1)])), (pn1, .inr (7, [.ref pa1, .int (iI pk1)])), (pa1, .inl (E.1, 640, .inl (ia pg1))), (qn1, .inr (7, [.ref qa1, .int (iI qk1)])), (qa1, .inl (E.1, 640, .inl (ia qg1))), (h2, .inr (8, [.int (bI be2), .ref pn2, .ref qn2, .int (iI ee2)])), (pn2, .inr (7, [.ref pa2, .int (iI pk2)])), (pa2, .inl (E.1, 640, .inl (ia pg2))), (qn2, .inr (7, [.ref qa2, .int (iI qk2)])), (qa2, .inl (E.1, 640, .inl (ia qg2)))] := hD
  refine lv_aload_n hx hb d_Num_times_0 rfl (lv_at hl 0 rfl) ?_
  refine lv_aload_n hx hb d_Num_times_1 rfl (lv_at hl 1 rfl) ?_
  refine wk_get B hP 5 rfl fl_Num_19 (v := .int (bI be1)) rfl d_Num_times_2 ?_
  refine lv_aload_n hx hb d_Num_times_5 rfl (lv_at hl 2 rfl) ?_
  refine wk_get B hP 10 rfl fl_Num_19 (v := .int (bI be2)) rfl d_Num_times_6 ?_
  refine wb_icmp_eq (tgt := 16) hx hb d_Num_times_9 (by decide) (fun c_1 => ?_) (fun c_1 => ?_)
  · skip
    refine wi_iconst (n := 0) hx hb d_Num_times_16 ?_
    refine w_as0 ?_
    refine wk_put B hP hD hS 0 rfl fl_Num_19 fp_Num_0 (v := .int (bI false)) (bI_nar _) (bI_fit _) (Nat.le_of_ble_eq_true rfl) d_Num_times_17 (fun H locs hP hD hS => ?_)
    have hP : va_P D classes [(h, .inr (8, [.int (bI false), .ref pn, .ref qn, .int (iI ee)])), (pn, .inr (7, [.ref pa, .int (iI pk)])), (pa, .inl (E.1, 640, .inl (ia pg))), (qn, .inr (7, [.ref qa, .int (iI qk)])), (qa, .inl (E.1, 640, .inl (ia qg))), (h1, .inr (8, [.int (bI be1), .ref pn1, .ref qn1, .int (iI ee1)])), (pn1, .inr (7, [.ref pa1, .int (iI pk1)])), (pa1, .inl (E.1, 640, .inl (ia pg1))), (qn1, .inr (7, [.ref qa1, .int (iI qk1)])), (qa1, .inl (E.1, 640, .inl (ia qg1))), (h2, .inr (8, [.int (bI be2), .ref pn2, .ref qn2, .int (iI ee2)])), (pn2, .inr (7, [.ref pa2, .int (iI pk2)])), (pa2, .inl (E.1, 640, .inl (ia pg2))), (qn2, .inr (7, [.ref qa2, .int (iI qk2)])), (qa2, .inl (E.1, 640, .inl (ia qg2)))] H := hP
    have hD : va_D A [(h, .inr (8, [.int (bI false), .ref pn, .ref qn, .int (iI ee)])), (pn, .inr (7, [.ref pa, .int (iI pk)])), (pa, .inl (E.1, 640, .inl (ia pg))), (qn, .inr (7, [.ref qa, .int (iI qk)])), (qa, .inl (E.1, 640, .inl (ia qg))), (h1, .inr (8, [.int (bI be1), .ref pn1, .ref qn1, .int (iI ee1)])), (pn1, .inr (7, [.ref pa1, .int (iI pk1)])), (pa1, .inl (E.1, 640, .inl (ia pg1))), (qn1, .inr (7, [.ref qa1, .int (iI qk1)])), (qa1, .inl (E.1, 640, .inl (ia qg1))), (h2, .inr (8, [.int (bI be2), .ref pn2, .ref qn2, .int (iI ee2)])), (pn2, .inr (7, [.ref pa2, .int (iI pk2)])), (pa2, .inl (E.1, 640, .inl (ia pg2))), (qn2, .inr (7, [.ref qa2, .int (iI qk2)])), (qa2, .inl (E.1, 640, .inl (ia qg2)))] := hD
    refine lv_aload_n hx hb d_Num_times_20 rfl (lv_at hl 0 rfl) ?_
    refine wk_get B hP 0 rfl fl_Num_10 (v := .ref pn) rfl d_Num_times_21 ?_
    refine lv_aload_n hx hb d_Num_times_24 rfl (lv_at hl 1 rfl) ?_
    refine wk_get B hP 5 rfl fl_Num_10 (v := .ref pn1) rfl d_Num_times_25 ?_
    refine lv_aload_n hx hb d_Num_times_28 rfl (lv_at hl 2 rfl) ?_
    refine wk_get B hP 10 rfl fl_Num_10 (v := .ref pn2) rfl d_Num_times_29 ?_
    refine wk_callV (As := [.ref pn1, .ref pn2]) (rest := []) (wr := [(h, .inr (8, [.int (bI false), .ref pn, .ref qn, .int (iI ee)])), (qn, .inr (7, [.ref qa, .int (iI qk)])), (qa, .inl (E.1, 640, .inl (ia qg))), (h1, .inr (8, [.int (bI be1), .ref pn1, .ref qn1, .int (iI ee1)])), (qn1, .inr (7, [.ref qa1, .int (iI qk1)])), (qa1, .inl (E.1, 640, .inl (ia qg1))), (h2, .inr (8, [.int (bI be2), .ref pn2, .ref qn2, .int (iI ee2)])), (qn2, .inr (7, [.ref qa2, .int (iI qk2)])), (qa2, .inl (E.1, 640, .inl (ia qg2)))]) B gTB cl_Num_44 (c_Big_product l D E pn pa pg pk pn1 pa1 pg1 pk1 pn2 pa2 pg2 pk2 v1 v2 (hT1) (hT2) (by omega)) ⟨⟨rfl, rfl⟩, Nat.le_of_ble_eq_true rfl, Nat.le_of_ble_eq_true rfl⟩ hP hD hS [1, 2, 6, 7, 11, 12] [0, 3, 4, 5, 8, 9, 10, 13, 14] rfl rfl (by decide) 1 rfl rfl rfl ⟨hl.2.1, hl.1⟩ rfl (Nat.le_of_ble_eq_true rfl) d_Num_times_32 ⟨Nat.le_of_ble_eq_true rfl, Nat.le_of_ble_eq_true rfl⟩ rfl (fun u H locs hw hP hD hS => ?_)
    obtain ⟨g3_2, k3_3⟩ := u
    have hP : va_P D classes [(h, .inr (8, [.int (bI false), .ref pn, .ref qn, .int (iI ee)])), (qn, .inr (7, [.ref qa, .int (iI qk)])), (qa, .inl (E.1, 640, .inl (ia qg))), (h1, .inr (8, [.int (bI be1), .ref pn1, .ref qn1, .int (iI ee1)])), (qn1, .inr (7, [.ref qa1, .int (iI qk1)])), (qa1, .inl (E.1, 640, .inl (ia qg1))), (h2, .inr (8, [.int (bI be2), .ref pn2, .ref qn2, .int (iI ee2)])), (qn2, .inr (7, [.ref qa2, .int (iI qk2)])), (qa2, .inl (E.1, 640, .inl (ia qg2))), (pn, .inr (7, [.ref pa, .int (iI k3_3)])), (pa, .inl (E.1, 640, .inl (ia g3_2))), (pn1, .inr (7, [.ref pa1, .int (iI pk1)])), (pa1, .inl (E.1, 640, .inl (ia pg1))), (pn2, .inr (7, [.ref pa2, .int (iI pk2)])), (pa2, .inl (E.1, 640, .inl (ia pg2)))] H := hP
    have hD : va_D A [(h, .inr (8, [.int (bI false), .ref pn, .ref qn, .int (iI ee)])), (qn, .inr (7, [.ref qa, .int (iI qk)])), (qa, .inl (E.1, 640, .inl (ia qg))), (h1, .inr (8, [.int (bI be1), .ref pn1, .ref qn1, .int (iI ee1)])), (qn1, .inr (7, [.ref qa1, .int (iI qk1)])), (qa1, .inl (E.1, 640, .inl (ia qg1))), (h2, .inr (8, [.int (bI be2), .ref pn2, .ref qn2, .int (iI ee2)])), (qn2, .inr (7, [.ref qa2, .int (iI qk2)])), (qa2, .inl (E.1, 640, .inl (ia qg2))), (pn, .inr (7, [.ref pa, .int (iI k3_3)])), (pa, .inl (E.1, 640, .inl (ia g3_2))), (pn1, .inr (7, [.ref pa1, .int (iI pk1)])), (pa1, .inl (E.1, 640, .inl (ia pg1))), (pn2, .inr (7, [.ref pa2, .int (iI pk2)])), (pa2, .inl (E.1, 640, .inl (ia pg2)))] := hD
    have hw : (BigOK g3_2 k3_3 (v1 * v2)) := hw
    have hO_4 := hw
    refine W.cs (g := F0 m 35 ls []) (cells' := 0) (slots' := 0) rfl rfl ?_
    refine lv_aload_n hx hb d_Num_times_35 rfl (lv_at hl 0 rfl) ?_
    refine wk_get B hP 0 rfl fl_Num_16 (v := .ref qn) rfl d_Num_times_36 ?_
    refine lv_aload_n hx hb d_Num_times_39 rfl (lv_at hl 1 rfl) ?_
    refine wk_get B hP 3 rfl fl_Num_16 (v := .ref qn1) rfl d_Num_times_40 ?_
    refine lv_aload_n hx hb d_Num_times_43 rfl (lv_at hl 2 rfl) ?_
    refine wk_get B hP 6 rfl fl_Num_16 (v := .ref qn2) rfl d_Num_times_44 ?_
    refine wk_callV (As := [.ref qn1, .ref qn2]) (rest := []) (wr := [(h, .inr (8, [.int (bI false), .ref pn, .ref qn, .int (iI ee)])), (h1, .inr (8, [.int (bI be1), .ref pn1, .ref qn1, .int (iI ee1)])), (h2, .inr (8, [.int (bI be2), .ref pn2, .ref qn2, .int (iI ee2)])), (pn, .inr (7, [.ref pa, .int (iI k3_3)])), (pa, .inl (E.1, 640, .inl (ia g3_2))), (pn1, .inr (7, [.ref pa1, .int (iI pk1)])), (pa1, .inl (E.1, 640, .inl (ia pg1))), (pn2, .inr (7, [.ref pa2, .int (iI pk2)])), (pa2, .inl (E.1, 640, .inl (ia pg2)))]) B gTB cl_Num_44 (c_Big_product l D E qn qa qg qk qn1 qa1 qg1 qk1 qn2 qa2 qg2 qk2 b1 b2 (hB1) (hB2) (by omega)) ⟨⟨rfl, rfl⟩, Nat.le_of_ble_eq_true rfl, Nat.le_of_ble_eq_true rfl⟩ hP hD hS [1, 2, 4, 5, 7, 8] [0, 3, 6, 9, 10, 11, 12, 13, 14] rfl rfl (by decide) 1 rfl rfl rfl ⟨hl.2.1, hl.1⟩ rfl (Nat.le_of_ble_eq_true rfl) d_Num_times_47 ⟨Nat.le_of_ble_eq_true rfl, Nat.le_of_ble_eq_true rfl⟩ rfl (fun u H locs hw hP hD hS => ?_)
    obtain ⟨g3_5, k3_6⟩ := u
    have hP : va_P D classes [(h, .inr (8, [.int (bI false), .ref pn, .ref qn, .int (iI ee)])), (h1, .inr (8, [.int (bI be1), .ref pn1, .ref qn1, .int (iI ee1)])), (h2, .inr (8, [.int (bI be2), .ref pn2, .ref qn2, .int (iI ee2)])), (pn, .inr (7, [.ref pa, .int (iI k3_3)])), (pa, .inl (E.1, 640, .inl (ia g3_2))), (pn1, .inr (7, [.ref pa1, .int (iI pk1)])), (pa1, .inl (E.1, 640, .inl (ia pg1))), (pn2, .inr (7, [.ref pa2, .int (iI pk2)])), (pa2, .inl (E.1, 640, .inl (ia pg2))), (qn, .inr (7, [.ref qa, .int (iI k3_6)])), (qa, .inl (E.1, 640, .inl (ia g3_5))), (qn1, .inr (7, [.ref qa1, .int (iI qk1)])), (qa1, .inl (E.1, 640, .inl (ia qg1))), (qn2, .inr (7, [.ref qa2, .int (iI qk2)])), (qa2, .inl (E.1, 640, .inl (ia qg2)))] H := hP
    have hD : va_D A [(h, .inr (8, [.int (bI false), .ref pn, .ref qn, .int (iI ee)])), (h1, .inr (8, [.int (bI be1), .ref pn1, .ref qn1, .int (iI ee1)])), (h2, .inr (8, [.int (bI be2), .ref pn2, .ref qn2, .int (iI ee2)])), (pn, .inr (7, [.ref pa, .int (iI k3_3)])), (pa, .inl (E.1, 640, .inl (ia g3_2))), (pn1, .inr (7, [.ref pa1, .int (iI pk1)])), (pa1, .inl (E.1, 640, .inl (ia pg1))), (pn2, .inr (7, [.ref pa2, .int (iI pk2)])), (pa2, .inl (E.1, 640, .inl (ia pg2))), (qn, .inr (7, [.ref qa, .int (iI k3_6)])), (qa, .inl (E.1, 640, .inl (ia g3_5))), (qn1, .inr (7, [.ref qa1, .int (iI qk1)])), (qa1, .inl (E.1, 640, .inl (ia qg1))), (qn2, .inr (7, [.ref qa2, .int (iI qk2)])), (qa2, .inl (E.1, 640, .inl (ia qg2)))] := hD
    have hw : (BigOK g3_5 k3_6 (b1 * b2)) := hw
    have hO_7 := hw
    refine W.cs (g := F0 m 50 ls []) (cells' := 0) (slots' := 0) rfl rfl ?_
    refine lv_aload_n hx hb d_Num_times_50 rfl (lv_at hl 0 rfl) ?_
    refine lv_aload_n hx hb d_Num_times_51 rfl (lv_at hl 1 rfl) ?_
    refine wk_get B hP 1 rfl fl_Num_27 (v := .int (iI ee1)) rfl d_Num_times_52 ?_
    refine lv_aload_n hx hb d_Num_times_55 rfl (lv_at hl 2 rfl) ?_
    refine wk_get B hP 2 rfl fl_Num_27 (v := .int (iI ee2)) rfl d_Num_times_56 ?_
    refine wi_iadd hx hb d_Num_times_59 ?_
    refine wk_put B hP hD hS 0 rfl fl_Num_27 fp_Num_3 (v := .int (iI (ee1 + ee2))) rfl rfl (Nat.le_of_ble_eq_true rfl) d_Num_times_60 (fun H locs hP hD hS => ?_)
    have hP : va_P D classes [(h, .inr (8, [.int (bI false), .ref pn, .ref qn, .int (iI (ee1 + ee2))])), (h1, .inr (8, [.int (bI be1), .ref pn1, .ref qn1, .int (iI ee1)])), (h2, .inr (8, [.int (bI be2), .ref pn2, .ref qn2, .int (iI ee2)])), (pn, .inr (7, [.ref pa, .int (iI k3_3)])), (pa, .inl (E.1, 640, .inl (ia g3_2))), (pn1, .inr (7, [.ref pa1, .int (iI pk1)])), (pa1, .inl (E.1, 640, .inl (ia pg1))), (pn2, .inr (7, [.ref pa2, .int (iI pk2)])), (pa2, .inl (E.1, 640, .inl (ia pg2))), (qn, .inr (7, [.ref qa, .int (iI k3_6)])), (qa, .inl (E.1, 640, .inl (ia g3_5))), (qn1, .inr (7, [.ref qa1, .int (iI qk1)])), (qa1, .inl (E.1, 640, .inl (ia qg1))), (qn2, .inr (7, [.ref qa2, .int (iI qk2)])), (qa2, .inl (E.1, 640, .inl (ia qg2)))] H := hP
    have hD : va_D A [(h, .inr (8, [.int (bI false), .ref pn, .ref qn, .int (iI (ee1 + ee2))])), (h1, .inr (8, [.int (bI be1), .ref pn1, .ref qn1, .int (iI ee1)])), (h2, .inr (8, [.int (bI be2), .ref pn2, .ref qn2, .int (iI ee2)])), (pn, .inr (7, [.ref pa, .int (iI k3_3)])), (pa, .inl (E.1, 640, .inl (ia g3_2))), (pn1, .inr (7, [.ref pa1, .int (iI pk1)])), (pa1, .inl (E.1, 640, .inl (ia pg1))), (pn2, .inr (7, [.ref pa2, .int (iI pk2)])), (pa2, .inl (E.1, 640, .inl (ia pg2))), (qn, .inr (7, [.ref qa, .int (iI k3_6)])), (qa, .inl (E.1, 640, .inl (ia g3_5))), (qn1, .inr (7, [.ref qa1, .int (iI qk1)])), (qa1, .inl (E.1, 640, .inl (ia qg1))), (qn2, .inr (7, [.ref qa2, .int (iI qk2)])), (qa2, .inl (E.1, 640, .inl (ia qg2)))] := hD
    exact ret (g3_2, g3_5, k3_3, k3_6, false) _ _ _ _ d_Num_times_63 (show (BigOK g3_2 k3_3 (v1 * v2)) ∧ (BigOK g3_5 k3_6 (b1 * b2)) ∧ (false = (be1 != be2)) from ⟨hO_4, hO_7, bne_f c_1⟩) (hP.sub [0, 3, 4, 9, 10, 1, 5, 6, 11, 12, 2, 7, 8, 13, 14] rfl) (hD.sub [0, 3, 4, 9, 10, 1, 5, 6, 11, 12, 2, 7, 8, 13, 14] (by decide) rfl) hS
  · skip
    refine wi_iconst (n := 1) hx hb d_Num_times_12 ?_
    refine lv_goto (tgt := 17) hx hb d_Num_times_13 (by decide) ?_
    refine w_as1 ?_
    refine wk_put B hP hD hS 0 rfl fl_Num_19 fp_Num_0 (v := .int (bI true)) (bI_nar _) (bI_fit _) (Nat.le_of_ble_eq_true rfl) d_Num_times_17 (fun H locs hP hD hS => ?_)
    have hP : va_P D classes [(h, .inr (8, [.int (bI true), .ref pn, .ref qn, .int (iI ee)])), (pn, .inr (7, [.ref pa, .int (iI pk)])), (pa, .inl (E.1, 640, .inl (ia pg))), (qn, .inr (7, [.ref qa, .int (iI qk)])), (qa, .inl (E.1, 640, .inl (ia qg))), (h1, .inr (8, [.int (bI be1), .ref pn1, .ref qn1, .int (iI ee1)])), (pn1, .inr (7, [.ref pa1, .int (iI pk1)])), (pa1, .inl (E.1, 640, .inl (ia pg1))), (qn1, .inr (7, [.ref qa1, .int (iI qk1)])), (qa1, .inl (E.1, 640, .inl (ia qg1))), (h2, .inr (8, [.int (bI be2), .ref pn2, .ref qn2, .int (iI ee2)])), (pn2, .inr (7, [.ref pa2, .int (iI pk2)])), (pa2, .inl (E.1, 640, .inl (ia pg2))), (qn2, .inr (7, [.ref qa2, .int (iI qk2)])), (qa2, .inl (E.1, 640, .inl (ia qg2)))] H := hP
    have hD : va_D A [(h, .inr (8, [.int (bI true), .ref pn, .ref qn, .int (iI ee)])), (pn, .inr (7, [.ref pa, .int (iI pk)])), (pa, .inl (E.1, 640, .inl (ia pg))), (qn, .inr (7, [.ref qa, .int (iI qk)])), (qa, .inl (E.1, 640, .inl (ia qg))), (h1, .inr (8, [.int (bI be1), .ref pn1, .ref qn1, .int (iI ee1)])), (pn1, .inr (7, [.ref pa1, .int (iI pk1)])), (pa1, .inl (E.1, 640, .inl (ia pg1))), (qn1, .inr (7, [.ref qa1, .int (iI qk1)])), (qa1, .inl (E.1, 640, .inl (ia qg1))), (h2, .inr (8, [.int (bI be2), .ref pn2, .ref qn2, .int (iI ee2)])), (pn2, .inr (7, [.ref pa2, .int (iI pk2)])), (pa2, .inl (E.1, 640, .inl (ia pg2))), (qn2, .inr (7, [.ref qa2, .int (iI qk2)])), (qa2, .inl (E.1, 640, .inl (ia qg2)))] := hD
    refine lv_aload_n hx hb d_Num_times_20 rfl (lv_at hl 0 rfl) ?_
    refine wk_get B hP 0 rfl fl_Num_10 (v := .ref pn) rfl d_Num_times_21 ?_
    refine lv_aload_n hx hb d_Num_times_24 rfl (lv_at hl 1 rfl) ?_
    refine wk_get B hP 5 rfl fl_Num_10 (v := .ref pn1) rfl d_Num_times_25 ?_
    refine lv_aload_n hx hb d_Num_times_28 rfl (lv_at hl 2 rfl) ?_
    refine wk_get B hP 10 rfl fl_Num_10 (v := .ref pn2) rfl d_Num_times_29 ?_
    refine wk_callV (As := [.ref pn1, .ref pn2]) (rest := []) (wr := [(h, .inr (8, [.int (bI true), .ref pn, .ref qn, .int (iI ee)])), (qn, .inr (7, [.ref qa, .int (iI qk)])), (qa, .inl (E.1, 640, .inl (ia qg))), (h1, .inr (8, [.int (bI be1), .ref pn1, .ref qn1, .int (iI ee1)])), (qn1, .inr (7, [.ref qa1, .int (iI qk1)])), (qa1, .inl (E.1, 640, .inl (ia qg1))), (h2, .inr (8, [.int (bI be2), .ref pn2, .ref qn2, .int (iI ee2)])), (qn2, .inr (7, [.ref qa2, .int (iI qk2)])), (qa2, .inl (E.1, 640, .inl (ia qg2)))]) B gTB cl_Num_44 (c_Big_product l D E pn pa pg pk pn1 pa1 pg1 pk1 pn2 pa2 pg2 pk2 v1 v2 (hT1) (hT2) (by omega)) ⟨⟨rfl, rfl⟩, Nat.le_of_ble_eq_true rfl, Nat.le_of_ble_eq_true rfl⟩ hP hD hS [1, 2, 6, 7, 11, 12] [0, 3, 4, 5, 8, 9, 10, 13, 14] rfl rfl (by decide) 1 rfl rfl rfl ⟨hl.2.1, hl.1⟩ rfl (Nat.le_of_ble_eq_true rfl) d_Num_times_32 ⟨Nat.le_of_ble_eq_true rfl, Nat.le_of_ble_eq_true rfl⟩ rfl (fun u H locs hw hP hD hS => ?_)
    obtain ⟨g3_8, k3_9⟩ := u
    have hP : va_P D classes [(h, .inr (8, [.int (bI true), .ref pn, .ref qn, .int (iI ee)])), (qn, .inr (7, [.ref qa, .int (iI qk)])), (qa, .inl (E.1, 640, .inl (ia qg))), (h1, .inr (8, [.int (bI be1), .ref pn1, .ref qn1, .int (iI ee1)])), (qn1, .inr (7, [.ref qa1, .int (iI qk1)])), (qa1, .inl (E.1, 640, .inl (ia qg1))), (h2, .inr (8, [.int (bI be2), .ref pn2, .ref qn2, .int (iI ee2)])), (qn2, .inr (7, [.ref qa2, .int (iI qk2)])), (qa2, .inl (E.1, 640, .inl (ia qg2))), (pn, .inr (7, [.ref pa, .int (iI k3_9)])), (pa, .inl (E.1, 640, .inl (ia g3_8))), (pn1, .inr (7, [.ref pa1, .int (iI pk1)])), (pa1, .inl (E.1, 640, .inl (ia pg1))), (pn2, .inr (7, [.ref pa2, .int (iI pk2)])), (pa2, .inl (E.1, 640, .inl (ia pg2)))] H := hP
    have hD : va_D A [(h, .inr (8, [.int (bI true), .ref pn, .ref qn, .int (iI ee)])), (qn, .inr (7, [.ref qa, .int (iI qk)])), (qa, .inl (E.1, 640, .inl (ia qg))), (h1, .inr (8, [.int (bI be1), .ref pn1, .ref qn1, .int (iI ee1)])), (qn1, .inr (7, [.ref qa1, .int (iI qk1)])), (qa1, .inl (E.1, 640, .inl (ia qg1))), (h2, .inr (8, [.int (bI be2), .ref pn2, .ref qn2, .int (iI ee2)])), (qn2, .inr (7, [.ref qa2, .int (iI qk2)])), (qa2, .inl (E.1, 640, .inl (ia qg2))), (pn, .inr (7, [.ref pa, .int (iI k3_9)])), (pa, .inl (E.1, 640, .inl (ia g3_8))), (pn1, .inr (7, [.ref pa1, .int (iI pk1)])), (pa1, .inl (E.1, 640, .inl (ia pg1))), (pn2, .inr (7, [.ref pa2, .int (iI pk2)])), (pa2, .inl (E.1, 640, .inl (ia pg2)))] := hD
    have hw : (BigOK g3_8 k3_9 (v1 * v2)) := hw
    have hO_10 := hw
    refine W.cs (g := F0 m 35 ls []) (cells' := 0) (slots' := 0) rfl rfl ?_
    refine lv_aload_n hx hb d_Num_times_35 rfl (lv_at hl 0 rfl) ?_
    refine wk_get B hP 0 rfl fl_Num_16 (v := .ref qn) rfl d_Num_times_36 ?_
    refine lv_aload_n hx hb d_Num_times_39 rfl (lv_at hl 1 rfl) ?_
    refine wk_get B hP 3 rfl fl_Num_16 (v := .ref qn1) rfl d_Num_times_40 ?_
    refine lv_aload_n hx hb d_Num_times_43 rfl (lv_at hl 2 rfl) ?_
    refine wk_get B hP 6 rfl fl_Num_16 (v := .ref qn2) rfl d_Num_times_44 ?_
    refine wk_callV (As := [.ref qn1, .ref qn2]) (rest := []) (wr := [(h, .inr (8, [.int (bI true), .ref pn, .ref qn, .int (iI ee)])), (h1, .inr (8, [.int (bI be1), .ref pn1, .ref qn1, .int (iI ee1)])), (h2, .inr (8, [.int (bI be2), .ref pn2, .ref qn2, .int (iI ee2)])), (pn, .inr (7, [.ref pa, .int (iI k3_9)])), (pa, .inl (E.1, 640, .inl (ia g3_8))), (pn1, .inr (7, [.ref pa1, .int (iI pk1)])), (pa1, .inl (E.1, 640, .inl (ia pg1))), (pn2, .inr (7, [.ref pa2, .int (iI pk2)])), (pa2, .inl (E.1, 640, .inl (ia pg2)))]) B gTB cl_Num_44 (c_Big_product l D E qn qa qg qk qn1 qa1 qg1 qk1 qn2 qa2 qg2 qk2 b1 b2 (hB1) (hB2) (by omega)) ⟨⟨rfl, rfl⟩, Nat.le_of_ble_eq_true rfl, Nat.le_of_ble_eq_true rfl⟩ hP hD hS [1, 2, 4, 5, 7, 8] [0, 3, 6, 9, 10, 11, 12, 13, 14] rfl rfl (by decide) 1 rfl rfl rfl ⟨hl.2.1, hl.1⟩ rfl (Nat.le_of_ble_eq_true rfl) d_Num_times_47 ⟨Nat.le_of_ble_eq_true rfl, Nat.le_of_ble_eq_true rfl⟩ rfl (fun u H locs hw hP hD hS => ?_)
    obtain ⟨g3_11, k3_12⟩ := u
    have hP : va_P D classes [(h, .inr (8, [.int (bI true), .ref pn, .ref qn, .int (iI ee)])), (h1, .inr (8, [.int (bI be1), .ref pn1, .ref qn1, .int (iI ee1)])), (h2, .inr (8, [.int (bI be2), .ref pn2, .ref qn2, .int (iI ee2)])), (pn, .inr (7, [.ref pa, .int (iI k3_9)])), (pa, .inl (E.1, 640, .inl (ia g3_8))), (pn1, .inr (7, [.ref pa1, .int (iI pk1)])), (pa1, .inl (E.1, 640, .inl (ia pg1))), (pn2, .inr (7, [.ref pa2, .int (iI pk2)])), (pa2, .inl (E.1, 640, .inl (ia pg2))), (qn, .inr (7, [.ref qa, .int (iI k3_12)])), (qa, .inl (E.1, 640, .inl (ia g3_11))), (qn1, .inr (7, [.ref qa1, .int (iI qk1)])), (qa1, .inl (E.1, 640, .inl (ia qg1))), (qn2, .inr (7, [.ref qa2, .int (iI qk2)])), (qa2, .inl (E.1, 640, .inl (ia qg2)))] H := hP
    have hD : va_D A [(h, .inr (8, [.int (bI true), .ref pn, .ref qn, .int (iI ee)])), (h1, .inr (8, [.int (bI be1), .ref pn1, .ref qn1, .int (iI ee1)])), (h2, .inr (8, [.int (bI be2), .ref pn2, .ref qn2, .int (iI ee2)])), (pn, .inr (7, [.ref pa, .int (iI k3_9)])), (pa, .inl (E.1, 640, .inl (ia g3_8))), (pn1, .inr (7, [.ref pa1, .int (iI pk1)])), (pa1, .inl (E.1, 640, .inl (ia pg1))), (pn2, .inr (7, [.ref pa2, .int (iI pk2)])), (pa2, .inl (E.1, 640, .inl (ia pg2))), (qn, .inr (7, [.ref qa, .int (iI k3_12)])), (qa, .inl (E.1, 640, .inl (ia g3_11))), (qn1, .inr (7, [.ref qa1, .int (iI qk1)])), (qa1, .inl (E.1, 640, .inl (ia qg1))), (qn2, .inr (7, [.ref qa2, .int (iI qk2)])), (qa2, .inl (E.1, 640, .inl (ia qg2)))] := hD
    have hw : (BigOK g3_11 k3_12 (b1 * b2)) := hw
    have hO_13 := hw
    refine W.cs (g := F0 m 50 ls []) (cells' := 0) (slots' := 0) rfl rfl ?_
    refine lv_aload_n hx hb d_Num_times_50 rfl (lv_at hl 0 rfl) ?_
    refine lv_aload_n hx hb d_Num_times_51 rfl (lv_at hl 1 rfl) ?_
    refine wk_get B hP 1 rfl fl_Num_27 (v := .int (iI ee1)) rfl d_Num_times_52 ?_
    refine lv_aload_n hx hb d_Num_times_55 rfl (lv_at hl 2 rfl) ?_
    refine wk_get B hP 2 rfl fl_Num_27 (v := .int (iI ee2)) rfl d_Num_times_56 ?_
    refine wi_iadd hx hb d_Num_times_59 ?_
    refine wk_put B hP hD hS 0 rfl fl_Num_27 fp_Num_3 (v := .int (iI (ee1 + ee2))) rfl rfl (Nat.le_of_ble_eq_true rfl) d_Num_times_60 (fun H locs hP hD hS => ?_)
    have hP : va_P D classes [(h, .inr (8, [.int (bI true), .ref pn, .ref qn, .int (iI (ee1 + ee2))])), (h1, .inr (8, [.int (bI be1), .ref pn1, .ref qn1, .int (iI ee1)])), (h2, .inr (8, [.int (bI be2), .ref pn2, .ref qn2, .int (iI ee2)])), (pn, .inr (7, [.ref pa, .int (iI k3_9)])), (pa, .inl (E.1, 640, .inl (ia g3_8))), (pn1, .inr (7, [.ref pa1, .int (iI pk1)])), (pa1, .inl (E.1, 640, .inl (ia pg1))), (pn2, .inr (7, [.ref pa2, .int (iI pk2)])), (pa2, .inl (E.1, 640, .inl (ia pg2))), (qn, .inr (7, [.ref qa, .int (iI k3_12)])), (qa, .inl (E.1, 640, .inl (ia g3_11))), (qn1, .inr (7, [.ref qa1, .int (iI qk1)])), (qa1, .inl (E.1, 640, .inl (ia qg1))), (qn2, .inr (7, [.ref qa2, .int (iI qk2)])), (qa2, .inl (E.1, 640, .inl (ia qg2)))] H := hP
    have hD : va_D A [(h, .inr (8, [.int (bI true), .ref pn, .ref qn, .int (iI (ee1 + ee2))])), (h1, .inr (8, [.int (bI be1), .ref pn1, .ref qn1, .int (iI ee1)])), (h2, .inr (8, [.int (bI be2), .ref pn2, .ref qn2, .int (iI ee2)])), (pn, .inr (7, [.ref pa, .int (iI k3_9)])), (pa, .inl (E.1, 640, .inl (ia g3_8))), (pn1, .inr (7, [.ref pa1, .int (iI pk1)])), (pa1, .inl (E.1, 640, .inl (ia pg1))), (pn2, .inr (7, [.ref pa2, .int (iI pk2)])), (pa2, .inl (E.1, 640, .inl (ia pg2))), (qn, .inr (7, [.ref qa, .int (iI k3_12)])), (qa, .inl (E.1, 640, .inl (ia g3_11))), (qn1, .inr (7, [.ref qa1, .int (iI qk1)])), (qa1, .inl (E.1, 640, .inl (ia qg1))), (qn2, .inr (7, [.ref qa2, .int (iI qk2)])), (qa2, .inl (E.1, 640, .inl (ia qg2)))] := hD
    exact ret (g3_8, g3_11, k3_9, k3_12, true) _ _ _ _ d_Num_times_63 (show (BigOK g3_8 k3_9 (v1 * v2)) ∧ (BigOK g3_11 k3_12 (b1 * b2)) ∧ (true = (be1 != be2)) from ⟨hO_10, hO_13, bne_t c_1⟩) (hP.sub [0, 3, 4, 9, 10, 1, 5, 6, 11, 12, 2, 7, 8, 13, 14] rfl) (hD.sub [0, 3, 4, 9, 10, 1, 5, 6, 11, 12, 2, 7, 8, 13, 14] (by decide) rfl) hS
