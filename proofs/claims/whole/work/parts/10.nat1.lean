/-! Natural: limb, set, copy, trim, bits, compareWith -/
abbrev b_Natural_limb : ByteArray := prog_3_method_2_code
def y_Natural_limb : MethodName := ⟨"IntervalText$Natural", "limb", "(I)I"⟩
abbrev b_Natural_set : ByteArray := prog_3_method_3_code
def y_Natural_set : MethodName := ⟨"IntervalText$Natural", "set", "(J)V"⟩
abbrev b_Natural_copy : ByteArray := prog_3_method_4_code
def y_Natural_copy : MethodName := ⟨"IntervalText$Natural", "copy", "(LIntervalText$Natural;)V"⟩
abbrev b_Natural_trim : ByteArray := prog_3_method_14_code
def y_Natural_trim : MethodName := ⟨"IntervalText$Natural", "trim", "(I)V"⟩
abbrev b_Natural_bits : ByteArray := prog_3_method_5_code
def y_Natural_bits : MethodName := ⟨"IntervalText$Natural", "bits", "()I"⟩
abbrev b_Natural_compareWith : ByteArray := prog_3_method_6_code
def y_Natural_compareWith : MethodName := ⟨"IntervalText$Natural", "compareWith", "(LIntervalText$Natural;I)I"⟩
theorem d_Natural_limb_0 : decode b_Natural_limb 0 = .ok (.iload_n 1, 1) := by decide +kernel
theorem d_Natural_limb_1 : decode b_Natural_limb 1 = .ok (.ifCond .lt 27, 3) := by decide +kernel
theorem d_Natural_limb_4 : decode b_Natural_limb 4 = .ok (.iload_n 1, 1) := by decide +kernel
theorem d_Natural_limb_5 : decode b_Natural_limb 5 = .ok (.aload_n 0, 1) := by decide +kernel
theorem d_Natural_limb_6 : decode b_Natural_limb 6 = .ok (.getfield 15, 3) := by decide +kernel
theorem d_Natural_limb_9 : decode b_Natural_limb 9 = .ok (.if_icmp .ge 19, 3) := by decide +kernel
theorem d_Natural_limb_12 : decode b_Natural_limb 12 = .ok (.iload_n 1, 1) := by decide +kernel
theorem d_Natural_limb_13 : decode b_Natural_limb 13 = .ok (.sipush 224, 3) := by decide +kernel
theorem d_Natural_limb_16 : decode b_Natural_limb 16 = .ok (.if_icmp .ge 12, 3) := by decide +kernel
theorem d_Natural_limb_19 : decode b_Natural_limb 19 = .ok (.aload_n 0, 1) := by decide +kernel
theorem d_Natural_limb_20 : decode b_Natural_limb 20 = .ok (.getfield 9, 3) := by decide +kernel
theorem d_Natural_limb_23 : decode b_Natural_limb 23 = .ok (.iload_n 1, 1) := by decide +kernel
theorem d_Natural_limb_24 : decode b_Natural_limb 24 = .ok (.iaload, 1) := by decide +kernel
theorem d_Natural_limb_25 : decode b_Natural_limb 25 = .ok (.goto 4, 3) := by decide +kernel
theorem d_Natural_limb_28 : decode b_Natural_limb 28 = .ok (.iconst 0, 1) := by decide +kernel
theorem d_Natural_limb_29 : decode b_Natural_limb 29 = .ok (.ireturn, 1) := by decide +kernel
theorem d_Natural_set_0 : decode b_Natural_set 0 = .ok (.aload_n 0, 1) := by decide +kernel
theorem d_Natural_set_1 : decode b_Natural_set 1 = .ok (.iconst 0, 1) := by decide +kernel
theorem d_Natural_set_2 : decode b_Natural_set 2 = .ok (.putfield 15, 3) := by decide +kernel
theorem d_Natural_set_5 : decode b_Natural_set 5 = .ok (.lload_n 1, 1) := by decide +kernel
theorem d_Natural_set_6 : decode b_Natural_set 6 = .ok (.lstore_n 3, 1) := by decide +kernel
theorem d_Natural_set_7 : decode b_Natural_set 7 = .ok (.lload_n 3, 1) := by decide +kernel
theorem d_Natural_set_8 : decode b_Natural_set 8 = .ok (.lconst 0, 1) := by decide +kernel
theorem d_Natural_set_9 : decode b_Natural_set 9 = .ok (.lcmp, 1) := by decide +kernel
theorem d_Natural_set_10 : decode b_Natural_set 10 = .ok (.ifCond .le 46, 3) := by decide +kernel
theorem d_Natural_set_13 : decode b_Natural_set 13 = .ok (.aload_n 0, 1) := by decide +kernel
theorem d_Natural_set_14 : decode b_Natural_set 14 = .ok (.getfield 15, 3) := by decide +kernel
theorem d_Natural_set_17 : decode b_Natural_set 17 = .ok (.sipush 224, 3) := by decide +kernel
theorem d_Natural_set_20 : decode b_Natural_set 20 = .ok (.if_icmp .ge 36, 3) := by decide +kernel
theorem d_Natural_set_23 : decode b_Natural_set 23 = .ok (.aload_n 0, 1) := by decide +kernel
theorem d_Natural_set_24 : decode b_Natural_set 24 = .ok (.getfield 9, 3) := by decide +kernel
theorem d_Natural_set_27 : decode b_Natural_set 27 = .ok (.aload_n 0, 1) := by decide +kernel
theorem d_Natural_set_28 : decode b_Natural_set 28 = .ok (.getfield 15, 3) := by decide +kernel
theorem d_Natural_set_31 : decode b_Natural_set 31 = .ok (.lload_n 3, 1) := by decide +kernel
theorem d_Natural_set_32 : decode b_Natural_set 32 = .ok (.ldc2_w 19, 3) := by decide +kernel
theorem d_Natural_set_35 : decode b_Natural_set 35 = .ok (.land, 1) := by decide +kernel
theorem d_Natural_set_36 : decode b_Natural_set 36 = .ok (.l2i, 1) := by decide +kernel
theorem d_Natural_set_37 : decode b_Natural_set 37 = .ok (.iastore, 1) := by decide +kernel
theorem d_Natural_set_38 : decode b_Natural_set 38 = .ok (.aload_n 0, 1) := by decide +kernel
theorem d_Natural_set_39 : decode b_Natural_set 39 = .ok (.dup, 1) := by decide +kernel
theorem d_Natural_set_40 : decode b_Natural_set 40 = .ok (.getfield 15, 3) := by decide +kernel
theorem d_Natural_set_43 : decode b_Natural_set 43 = .ok (.iconst 1, 1) := by decide +kernel
theorem d_Natural_set_44 : decode b_Natural_set 44 = .ok (.iadd, 1) := by decide +kernel
theorem d_Natural_set_45 : decode b_Natural_set 45 = .ok (.putfield 15, 3) := by decide +kernel
theorem d_Natural_set_48 : decode b_Natural_set 48 = .ok (.lload_n 3, 1) := by decide +kernel
theorem d_Natural_set_49 : decode b_Natural_set 49 = .ok (.bipush 30, 2) := by decide +kernel
theorem d_Natural_set_51 : decode b_Natural_set 51 = .ok (.lshr, 1) := by decide +kernel
theorem d_Natural_set_52 : decode b_Natural_set 52 = .ok (.lstore_n 3, 1) := by decide +kernel
theorem d_Natural_set_53 : decode b_Natural_set 53 = .ok (.goto (-46), 3) := by decide +kernel
theorem d_Natural_set_56 : decode b_Natural_set 56 = .ok (.return_, 1) := by decide +kernel
theorem d_Natural_copy_0 : decode b_Natural_copy 0 = .ok (.iconst 0, 1) := by decide +kernel
theorem d_Natural_copy_1 : decode b_Natural_copy 1 = .ok (.istore_n 2, 1) := by decide +kernel
theorem d_Natural_copy_2 : decode b_Natural_copy 2 = .ok (.iload_n 2, 1) := by decide +kernel
theorem d_Natural_copy_3 : decode b_Natural_copy 3 = .ok (.aload_n 1, 1) := by decide +kernel
theorem d_Natural_copy_4 : decode b_Natural_copy 4 = .ok (.getfield 15, 3) := by decide +kernel
theorem d_Natural_copy_7 : decode b_Natural_copy 7 = .ok (.if_icmp .ge 28, 3) := by decide +kernel
theorem d_Natural_copy_10 : decode b_Natural_copy 10 = .ok (.iload_n 2, 1) := by decide +kernel
theorem d_Natural_copy_11 : decode b_Natural_copy 11 = .ok (.sipush 224, 3) := by decide +kernel
theorem d_Natural_copy_14 : decode b_Natural_copy 14 = .ok (.if_icmp .ge 21, 3) := by decide +kernel
theorem d_Natural_copy_17 : decode b_Natural_copy 17 = .ok (.aload_n 0, 1) := by decide +kernel
theorem d_Natural_copy_18 : decode b_Natural_copy 18 = .ok (.getfield 9, 3) := by decide +kernel
theorem d_Natural_copy_21 : decode b_Natural_copy 21 = .ok (.iload_n 2, 1) := by decide +kernel
theorem d_Natural_copy_22 : decode b_Natural_copy 22 = .ok (.aload_n 1, 1) := by decide +kernel
theorem d_Natural_copy_23 : decode b_Natural_copy 23 = .ok (.getfield 9, 3) := by decide +kernel
theorem d_Natural_copy_26 : decode b_Natural_copy 26 = .ok (.iload_n 2, 1) := by decide +kernel
theorem d_Natural_copy_27 : decode b_Natural_copy 27 = .ok (.iaload, 1) := by decide +kernel
theorem d_Natural_copy_28 : decode b_Natural_copy 28 = .ok (.iastore, 1) := by decide +kernel
theorem d_Natural_copy_29 : decode b_Natural_copy 29 = .ok (.iinc 2 1, 3) := by decide +kernel
theorem d_Natural_copy_32 : decode b_Natural_copy 32 = .ok (.goto (-30), 3) := by decide +kernel
theorem d_Natural_copy_35 : decode b_Natural_copy 35 = .ok (.aload_n 0, 1) := by decide +kernel
theorem d_Natural_copy_36 : decode b_Natural_copy 36 = .ok (.aload_n 1, 1) := by decide +kernel
theorem d_Natural_copy_37 : decode b_Natural_copy 37 = .ok (.getfield 15, 3) := by decide +kernel
theorem d_Natural_copy_40 : decode b_Natural_copy 40 = .ok (.putfield 15, 3) := by decide +kernel
theorem d_Natural_copy_43 : decode b_Natural_copy 43 = .ok (.return_, 1) := by decide +kernel
theorem d_Natural_trim_0 : decode b_Natural_trim 0 = .ok (.aload_n 0, 1) := by decide +kernel
theorem d_Natural_trim_1 : decode b_Natural_trim 1 = .ok (.iload_n 1, 1) := by decide +kernel
theorem d_Natural_trim_2 : decode b_Natural_trim 2 = .ok (.sipush 224, 3) := by decide +kernel
theorem d_Natural_trim_5 : decode b_Natural_trim 5 = .ok (.if_icmp .ge 7, 3) := by decide +kernel
theorem d_Natural_trim_8 : decode b_Natural_trim 8 = .ok (.iload_n 1, 1) := by decide +kernel
theorem d_Natural_trim_9 : decode b_Natural_trim 9 = .ok (.goto 6, 3) := by decide +kernel
theorem d_Natural_trim_12 : decode b_Natural_trim 12 = .ok (.sipush 224, 3) := by decide +kernel
theorem d_Natural_trim_15 : decode b_Natural_trim 15 = .ok (.putfield 15, 3) := by decide +kernel
theorem d_Natural_trim_18 : decode b_Natural_trim 18 = .ok (.aload_n 0, 1) := by decide +kernel
theorem d_Natural_trim_19 : decode b_Natural_trim 19 = .ok (.getfield 15, 3) := by decide +kernel
theorem d_Natural_trim_22 : decode b_Natural_trim 22 = .ok (.ifCond .le 30, 3) := by decide +kernel
theorem d_Natural_trim_25 : decode b_Natural_trim 25 = .ok (.aload_n 0, 1) := by decide +kernel
theorem d_Natural_trim_26 : decode b_Natural_trim 26 = .ok (.getfield 9, 3) := by decide +kernel
theorem d_Natural_trim_29 : decode b_Natural_trim 29 = .ok (.aload_n 0, 1) := by decide +kernel
theorem d_Natural_trim_30 : decode b_Natural_trim 30 = .ok (.getfield 15, 3) := by decide +kernel
theorem d_Natural_trim_33 : decode b_Natural_trim 33 = .ok (.iconst 1, 1) := by decide +kernel
theorem d_Natural_trim_34 : decode b_Natural_trim 34 = .ok (.isub, 1) := by decide +kernel
theorem d_Natural_trim_35 : decode b_Natural_trim 35 = .ok (.iaload, 1) := by decide +kernel
theorem d_Natural_trim_36 : decode b_Natural_trim 36 = .ok (.ifCond .ne 16, 3) := by decide +kernel
theorem d_Natural_trim_39 : decode b_Natural_trim 39 = .ok (.aload_n 0, 1) := by decide +kernel
theorem d_Natural_trim_40 : decode b_Natural_trim 40 = .ok (.dup, 1) := by decide +kernel
theorem d_Natural_trim_41 : decode b_Natural_trim 41 = .ok (.getfield 15, 3) := by decide +kernel
theorem d_Natural_trim_44 : decode b_Natural_trim 44 = .ok (.iconst 1, 1) := by decide +kernel
theorem d_Natural_trim_45 : decode b_Natural_trim 45 = .ok (.isub, 1) := by decide +kernel
theorem d_Natural_trim_46 : decode b_Natural_trim 46 = .ok (.putfield 15, 3) := by decide +kernel
theorem d_Natural_trim_49 : decode b_Natural_trim 49 = .ok (.goto (-31), 3) := by decide +kernel
theorem d_Natural_trim_52 : decode b_Natural_trim 52 = .ok (.return_, 1) := by decide +kernel
theorem d_Natural_bits_0 : decode b_Natural_bits 0 = .ok (.aload_n 0, 1) := by decide +kernel
theorem d_Natural_bits_1 : decode b_Natural_bits 1 = .ok (.aload_n 0, 1) := by decide +kernel
theorem d_Natural_bits_2 : decode b_Natural_bits 2 = .ok (.getfield 15, 3) := by decide +kernel
theorem d_Natural_bits_5 : decode b_Natural_bits 5 = .ok (.iconst 1, 1) := by decide +kernel
theorem d_Natural_bits_6 : decode b_Natural_bits 6 = .ok (.isub, 1) := by decide +kernel
theorem d_Natural_bits_7 : decode b_Natural_bits 7 = .ok (.invokevirtual 21, 3) := by decide +kernel
theorem d_Natural_bits_10 : decode b_Natural_bits 10 = .ok (.istore_n 1, 1) := by decide +kernel
theorem d_Natural_bits_11 : decode b_Natural_bits 11 = .ok (.iconst 0, 1) := by decide +kernel
theorem d_Natural_bits_12 : decode b_Natural_bits 12 = .ok (.istore_n 2, 1) := by decide +kernel
theorem d_Natural_bits_13 : decode b_Natural_bits 13 = .ok (.iload_n 2, 1) := by decide +kernel
theorem d_Natural_bits_14 : decode b_Natural_bits 14 = .ok (.bipush 30, 2) := by decide +kernel
theorem d_Natural_bits_16 : decode b_Natural_bits 16 = .ok (.if_icmp .ge 15, 3) := by decide +kernel
theorem d_Natural_bits_19 : decode b_Natural_bits 19 = .ok (.iload_n 1, 1) := by decide +kernel
theorem d_Natural_bits_20 : decode b_Natural_bits 20 = .ok (.iload_n 2, 1) := by decide +kernel
theorem d_Natural_bits_21 : decode b_Natural_bits 21 = .ok (.ishr, 1) := by decide +kernel
theorem d_Natural_bits_22 : decode b_Natural_bits 22 = .ok (.ifCond .eq 9, 3) := by decide +kernel
theorem d_Natural_bits_25 : decode b_Natural_bits 25 = .ok (.iinc 2 1, 3) := by decide +kernel
theorem d_Natural_bits_28 : decode b_Natural_bits 28 = .ok (.goto (-15), 3) := by decide +kernel
theorem d_Natural_bits_31 : decode b_Natural_bits 31 = .ok (.aload_n 0, 1) := by decide +kernel
theorem d_Natural_bits_32 : decode b_Natural_bits 32 = .ok (.getfield 15, 3) := by decide +kernel
theorem d_Natural_bits_35 : decode b_Natural_bits 35 = .ok (.ifCond .ne 7, 3) := by decide +kernel
theorem d_Natural_bits_38 : decode b_Natural_bits 38 = .ok (.iconst 0, 1) := by decide +kernel
theorem d_Natural_bits_39 : decode b_Natural_bits 39 = .ok (.goto 14, 3) := by decide +kernel
theorem d_Natural_bits_42 : decode b_Natural_bits 42 = .ok (.aload_n 0, 1) := by decide +kernel
theorem d_Natural_bits_43 : decode b_Natural_bits 43 = .ok (.getfield 15, 3) := by decide +kernel
theorem d_Natural_bits_46 : decode b_Natural_bits 46 = .ok (.iconst 1, 1) := by decide +kernel
theorem d_Natural_bits_47 : decode b_Natural_bits 47 = .ok (.isub, 1) := by decide +kernel
theorem d_Natural_bits_48 : decode b_Natural_bits 48 = .ok (.bipush 30, 2) := by decide +kernel
theorem d_Natural_bits_50 : decode b_Natural_bits 50 = .ok (.imul, 1) := by decide +kernel
theorem d_Natural_bits_51 : decode b_Natural_bits 51 = .ok (.iload_n 2, 1) := by decide +kernel
theorem d_Natural_bits_52 : decode b_Natural_bits 52 = .ok (.iadd, 1) := by decide +kernel
theorem d_Natural_bits_53 : decode b_Natural_bits 53 = .ok (.ireturn, 1) := by decide +kernel
theorem d_Natural_compareWith_0 : decode b_Natural_compareWith 0 = .ok (.aload_n 0, 1) := by decide +kernel
theorem d_Natural_compareWith_1 : decode b_Natural_compareWith 1 = .ok (.getfield 15, 3) := by decide +kernel
theorem d_Natural_compareWith_4 : decode b_Natural_compareWith 4 = .ok (.aload_n 1, 1) := by decide +kernel
theorem d_Natural_compareWith_5 : decode b_Natural_compareWith 5 = .ok (.getfield 15, 3) := by decide +kernel
theorem d_Natural_compareWith_8 : decode b_Natural_compareWith 8 = .ok (.iload_n 2, 1) := by decide +kernel
theorem d_Natural_compareWith_9 : decode b_Natural_compareWith 9 = .ok (.iadd, 1) := by decide +kernel
theorem d_Natural_compareWith_10 : decode b_Natural_compareWith 10 = .ok (.if_icmp .eq 15, 3) := by decide +kernel
theorem d_Natural_compareWith_13 : decode b_Natural_compareWith 13 = .ok (.aload_n 0, 1) := by decide +kernel
theorem d_Natural_compareWith_14 : decode b_Natural_compareWith 14 = .ok (.getfield 15, 3) := by decide +kernel
theorem d_Natural_compareWith_17 : decode b_Natural_compareWith 17 = .ok (.aload_n 1, 1) := by decide +kernel
theorem d_Natural_compareWith_18 : decode b_Natural_compareWith 18 = .ok (.getfield 15, 3) := by decide +kernel
theorem d_Natural_compareWith_21 : decode b_Natural_compareWith 21 = .ok (.isub, 1) := by decide +kernel
theorem d_Natural_compareWith_22 : decode b_Natural_compareWith 22 = .ok (.iload_n 2, 1) := by decide +kernel
theorem d_Natural_compareWith_23 : decode b_Natural_compareWith 23 = .ok (.isub, 1) := by decide +kernel
theorem d_Natural_compareWith_24 : decode b_Natural_compareWith 24 = .ok (.ireturn, 1) := by decide +kernel
theorem d_Natural_compareWith_25 : decode b_Natural_compareWith 25 = .ok (.aload_n 0, 1) := by decide +kernel
theorem d_Natural_compareWith_26 : decode b_Natural_compareWith 26 = .ok (.getfield 15, 3) := by decide +kernel
theorem d_Natural_compareWith_29 : decode b_Natural_compareWith 29 = .ok (.iconst 1, 1) := by decide +kernel
theorem d_Natural_compareWith_30 : decode b_Natural_compareWith 30 = .ok (.isub, 1) := by decide +kernel
theorem d_Natural_compareWith_31 : decode b_Natural_compareWith 31 = .ok (.istore_n 3, 1) := by decide +kernel
theorem d_Natural_compareWith_32 : decode b_Natural_compareWith 32 = .ok (.iload_n 3, 1) := by decide +kernel
theorem d_Natural_compareWith_33 : decode b_Natural_compareWith 33 = .ok (.ifCond .lt 38, 3) := by decide +kernel
theorem d_Natural_compareWith_36 : decode b_Natural_compareWith 36 = .ok (.aload_n 0, 1) := by decide +kernel
theorem d_Natural_compareWith_37 : decode b_Natural_compareWith 37 = .ok (.iload_n 3, 1) := by decide +kernel
theorem d_Natural_compareWith_38 : decode b_Natural_compareWith 38 = .ok (.invokevirtual 21, 3) := by decide +kernel
theorem d_Natural_compareWith_41 : decode b_Natural_compareWith 41 = .ok (.aload_n 1, 1) := by decide +kernel
theorem d_Natural_compareWith_42 : decode b_Natural_compareWith 42 = .ok (.iload_n 3, 1) := by decide +kernel
theorem d_Natural_compareWith_43 : decode b_Natural_compareWith 43 = .ok (.iload_n 2, 1) := by decide +kernel
theorem d_Natural_compareWith_44 : decode b_Natural_compareWith 44 = .ok (.isub, 1) := by decide +kernel
theorem d_Natural_compareWith_45 : decode b_Natural_compareWith 45 = .ok (.invokevirtual 21, 3) := by decide +kernel
theorem d_Natural_compareWith_48 : decode b_Natural_compareWith 48 = .ok (.if_icmp .eq 17, 3) := by decide +kernel
theorem d_Natural_compareWith_51 : decode b_Natural_compareWith 51 = .ok (.aload_n 0, 1) := by decide +kernel
theorem d_Natural_compareWith_52 : decode b_Natural_compareWith 52 = .ok (.iload_n 3, 1) := by decide +kernel
theorem d_Natural_compareWith_53 : decode b_Natural_compareWith 53 = .ok (.invokevirtual 21, 3) := by decide +kernel
theorem d_Natural_compareWith_56 : decode b_Natural_compareWith 56 = .ok (.aload_n 1, 1) := by decide +kernel
theorem d_Natural_compareWith_57 : decode b_Natural_compareWith 57 = .ok (.iload_n 3, 1) := by decide +kernel
theorem d_Natural_compareWith_58 : decode b_Natural_compareWith 58 = .ok (.iload_n 2, 1) := by decide +kernel
theorem d_Natural_compareWith_59 : decode b_Natural_compareWith 59 = .ok (.isub, 1) := by decide +kernel
theorem d_Natural_compareWith_60 : decode b_Natural_compareWith 60 = .ok (.invokevirtual 21, 3) := by decide +kernel
theorem d_Natural_compareWith_63 : decode b_Natural_compareWith 63 = .ok (.isub, 1) := by decide +kernel
theorem d_Natural_compareWith_64 : decode b_Natural_compareWith 64 = .ok (.ireturn, 1) := by decide +kernel
theorem d_Natural_compareWith_65 : decode b_Natural_compareWith 65 = .ok (.iinc 3 (-1), 3) := by decide +kernel
theorem d_Natural_compareWith_68 : decode b_Natural_compareWith 68 = .ok (.goto (-36), 3) := by decide +kernel
theorem d_Natural_compareWith_71 : decode b_Natural_compareWith 71 = .ok (.iconst 0, 1) := by decide +kernel
theorem d_Natural_compareWith_72 : decode b_Natural_compareWith 72 = .ok (.ireturn, 1) := by decide +kernel
theorem fl_Natural_9 : FLink TB classes "IntervalText$Natural" 9 R_Natural F_Natural 2 0 0 := ⟨rfl, by decide, i_Natural, tb_t (List.mem_append_left _ (List.mem_of_getElem? (l := tables_1_1) (i := 53) rfl)) rfl⟩
theorem fl_Natural_15 : FLink TB classes "IntervalText$Natural" 15 R_Natural F_Natural 2 0 1 := ⟨rfl, by decide, i_Natural, tb_t (List.mem_append_left _ (List.mem_of_getElem? (l := tables_1_1) (i := 54) rfl)) rfl⟩
theorem fp_Natural_1 : FPut R_Natural F_Natural 2 1 .int false := ⟨e_Natural, n_Natural, rfl, by decide +kernel⟩
theorem tw_Natural_constantLong_19 : Cond.constantLong "IntervalText$Natural" 19 (1073741823 : Int64) ∈ TB := tb_t (List.mem_append_left _ (List.mem_of_getElem? (l := tables_1_1) (i := 97) rfl)) rfl
theorem cl_Natural_21 : CLinkV TB "IntervalText$Natural" 21 "IntervalText$Natural" y_Natural_limb b_Natural_limb 2 (some .int) 1 := ⟨⟨tb_t (List.mem_append_right _ (List.mem_append_left _ (List.mem_of_getElem? (l := tables_1_2) (i := 150) rfl))) rfl, tb_t (List.mem_append_left _ (List.mem_of_getElem? (l := tables_1_1) (i := 4) rfl)) rfl, tb_t (List.mem_append_right _ (List.mem_append_left _ (List.mem_of_getElem? (l := tables_1_2) (i := 153) rfl))) rfl, by decide +kernel, by decide +kernel, by decide +kernel⟩, tb_t (List.mem_append_right _ (List.mem_append_left _ (List.mem_of_getElem? (l := tables_1_2) (i := 151) rfl))) rfl, tb_t (List.mem_append_right _ (List.mem_append_left _ (List.mem_of_getElem? (l := tables_1_2) (i := 152) rfl))) rfl⟩
set_option maxHeartbeats 4000000 in
set_option maxRecDepth 100000 in
theorem c_Natural_limb (l : Launch) (D : va_G) (E : EVt) (h : Nat) (a : Nat) (g : Int → Int) (k : Int) (i : Int) (hk : 0 ≤ k ∧ k ≤ 224) (hi : -2147483648 ≤ i ∧ i < 2147483648) : CT l D classes (tyl E) (EVX E) y_Natural_limb (Cond.code y_Natural_limb b_Natural_limb 2 (some .int) :: TB) (rmK 0 0 0 0) 0 0 [.ref h, .int (iI i)] [(h, .inr (0, [.ref a, .int (iI k)])), (a, .inl (E.1, 224, .inl (ia g)))] (S := Int) (fun _ => [(h, .inr (0, [.ref a, .int (iI k)])), (a, .inl (E.1, 224, .inl (ia g)))]) (fun u => some (.int (iI u))) (fun u => (u = lgx g k i)) := by
  refine CT.ofi (fv := fun (u : Int) => u) (eok E) (by decide) rfl (Nat.le_of_ble_eq_true rfl) ?_
  intro p e s m args below meth c A Q ls B hmn hP hD hS hl ret
  have B : Bd l D classes (tyl E) (EVX E) p m c b_Natural_limb 2 s args (Cond.code y_Natural_limb b_Natural_limb 2 (some .int) :: TB) R_Natural A := B
  obtain ⟨⟨hx, hb, hml, hown, hts⟩, hX, hK, hE, hA⟩ := id B
  have hl : lv_has ls 2 [(0, .ref h), (1, .int (iI i))] := hl
  have hP : va_P D classes [(h, .inr (0, [.ref a, .int (iI k)])), (a, .inl (E.1, 224, .inl (ia g)))] s.heap := hP
  have hD : va_D A [(h, .inr (0, [.ref a, .int (iI k)])), (a, .inl (E.1, 224, .inl (ia g)))] := hD
  refine lv_iload_n hx hb d_Natural_limb_0 rfl (lv_at hl 1 rfl) ?_
  refine wi_if_lt (tgt := 28) hx hb d_Natural_limb_1 (by decide) (by omega) (fun c_1 => ?_) (fun c_1 => ?_)
  · skip
    refine wi_iconst (n := 0) hx hb d_Natural_limb_28 ?_
    exact ret 0 _ _ _ _ d_Natural_limb_29 (show (0 = lgx g k i) from ((lgx_out (by omega)).symm)) (hP.sub [0, 1] rfl) (hD.sub [0, 1] (by decide) rfl) hS
  · skip
    refine lv_iload_n hx hb d_Natural_limb_4 rfl (lv_at hl 1 rfl) ?_
    refine lv_aload_n hx hb d_Natural_limb_5 rfl (lv_at hl 0 rfl) ?_
    refine wk_get B hP 0 rfl fl_Natural_15 (v := .int (iI k)) rfl d_Natural_limb_6 ?_
    refine wi_icmp_ge (tgt := 28) hx hb d_Natural_limb_9 (by decide) (by omega) (by omega) (fun c_2 => ?_) (fun c_2 => ?_)
    · skip
      refine wi_iconst (n := 0) hx hb d_Natural_limb_28 ?_
      exact ret 0 _ _ _ _ d_Natural_limb_29 (show (0 = lgx g k i) from ((lgx_out (by omega)).symm)) (hP.sub [0, 1] rfl) (hD.sub [0, 1] (by decide) rfl) hS
    · skip
      refine lv_iload_n hx hb d_Natural_limb_12 rfl (lv_at hl 1 rfl) ?_
      refine wi_sipush hx hb d_Natural_limb_13 (by decide) ?_
      refine wi_icmp_ge (tgt := 28) hx hb d_Natural_limb_16 (by decide) (by omega) (by omega) (fun c_3 => ?_) (fun c_3 => ?_)
      · skip
        refine wi_iconst (n := 0) hx hb d_Natural_limb_28 ?_
        exact ret 0 _ _ _ _ d_Natural_limb_29 (show (0 = lgx g k i) from ((lgx_out (by omega)).symm)) (hP.sub [0, 1] rfl) (hD.sub [0, 1] (by decide) rfl) hS
      · skip
        refine lv_aload_n hx hb d_Natural_limb_19 rfl (lv_at hl 0 rfl) ?_
        refine wk_get B hP 0 rfl fl_Natural_9 (v := .ref a) rfl d_Natural_limb_20 ?_
        refine lv_iload_n hx hb d_Natural_limb_23 rfl (lv_at hl 1 rfl) ?_
        refine wi_iald hx hb hK hP 1 0 rfl rfl (by omega) (by omega) d_Natural_limb_24 ?_
        refine lv_goto (tgt := 29) hx hb d_Natural_limb_25 (by decide) ?_
        exact ret (g i) _ _ _ _ d_Natural_limb_29 (show ((g i) = lgx g k i) from ((lgx_in (by omega)).symm)) (hP.sub [0, 1] rfl) (hD.sub [0, 1] (by decide) rfl) hS
set_option maxHeartbeats 4000000 in
set_option maxRecDepth 100000 in
theorem c_Natural_set (l : Launch) (D : va_G) (E : EVt) (h : Nat) (a : Nat) (g : Int → Int) (k : Int) (v : Int) (hv : 0 ≤ v ∧ v < 9223372036854775808) : CT l D classes (tyl E) (EVX E) y_Natural_set (Cond.code y_Natural_set b_Natural_set 5 none :: TB) (rmK 0 0 0 0) 0 0 [.ref h, .long (lI v)] [(h, .inr (0, [.ref a, .int (iI k)])), (a, .inl (E.1, 224, .inl (ia g)))] (S := (Int → Int) × Int) (fun u => [(h, .inr (0, [.ref a, .int (iI u.2)])), (a, .inl (E.1, 224, .inl (ia u.1)))]) (fun _ => none) (fun u => (NatOK u.1 u.2 v)) := by
  refine CT.ofv (eok E) (by decide) rfl (Nat.le_of_ble_eq_true rfl) ?_
  intro p e s m args below meth c A Q ls B hmn hP hD hS hl ret
  have B : Bd l D classes (tyl E) (EVX E) p m c b_Natural_set 5 s args (Cond.code y_Natural_set b_Natural_set 5 none :: TB) R_Natural A := B
  obtain ⟨⟨hx, hb, hml, hown, hts⟩, hX, hK, hE, hA⟩ := id B
  have hl : lv_has ls 5 [(0, .ref h), (1, .long (lI v))] := hl
  have hP : va_P D classes [(h, .inr (0, [.ref a, .int (iI k)])), (a, .inl (E.1, 224, .inl (ia g)))] s.heap := hP
  have hD : va_D A [(h, .inr (0, [.ref a, .int (iI k)])), (a, .inl (E.1, 224, .inl (ia g)))] := hD
  have K_7 : ∀ (fuel7 : Nat) (z : Int) (k1 : Int) (g1 : Int → Int) (hq : (k1 = 0 ∧ 0 ≤ z ∧ z < 9223372036854775808) ∨ (k1 = 1 ∧ 0 ≤ z ∧ z < 8589934592) ∨ (k1 = 2 ∧ 0 ≤ z ∧ z < 8) ∨ (k1 = 3 ∧ z = 0)) (hs : SetI g1 k1 z v) (hf7 : z < (fuel7 : Int)) (ls : Array Slot) (H : Heap) (locs : List Loc), lv_has ls 5 [(0, .ref h), (1, .long (lI v)), (3, .long (lI z))] → va_P D classes [(h, .inr (0, [.ref a, .int (iI k1)])), (a, .inl (E.1, 224, .inl (ia g1)))] H → va_D A [(h, .inr (0, [.ref a, .int (iI k1)])), (a, .inl (E.1, 224, .inl (ia g1)))] → va_S A s.heap H locs → W p l e (rmK 0 0 0 0) s m args below meth c H locs 0 0 Q (F0 m 7 ls []) := by
    intro fuel7
    induction fuel7 with
    | zero =>
      intro z k1 g1 hq hs hf7 ls H locs hl hP hD hS
      exfalso; omega
    | succ fuel7 ih7 =>
      intro z k1 g1 hq hs hf7 ls H locs hl hP hD hS
      refine lv_lload_n hx hb d_Natural_set_7 rfl (lv_at hl 2 rfl) ?_
      refine wi_lconst (z := 0) hx hb d_Natural_set_8 (by decide) ?_
      refine wi_lcmp hx hb (by omega) (by omega) d_Natural_set_9 ?_
      refine wi_if_le (tgt := 56) hx hb d_Natural_set_10 (by decide) (by have := cmpZ_rng z 0; omega) (fun c_1 => ?_) (fun c_1 => ?_)
      · skip
        have c_1 := cmpZ_le.mp c_1
        exact ret (g1, k1) _ _ _ _ d_Natural_set_56 (show (NatOK g1 k1 v) from (SetI_end hs (by omega) (by omega))) (hP.sub [0, 1] rfl) (hD.sub [0, 1] (by decide) rfl) hS
      · skip
        have c_1 := cmpZ_gt.mp c_1
        refine lv_aload_n hx hb d_Natural_set_13 rfl (lv_at hl 0 rfl) ?_
        refine wk_get B hP 0 rfl fl_Natural_15 (v := .int (iI k1)) rfl d_Natural_set_14 ?_
        refine wi_sipush hx hb d_Natural_set_17 (by decide) ?_
        refine wi_icmp_ge (tgt := 56) hx hb d_Natural_set_20 (by decide) (by omega) (by omega) (fun c_2 => by exfalso; omega) (fun c_2 => ?_)
        refine lv_aload_n hx hb d_Natural_set_23 rfl (lv_at hl 0 rfl) ?_
        refine wk_get B hP 0 rfl fl_Natural_9 (v := .ref a) rfl d_Natural_set_24 ?_
        refine lv_aload_n hx hb d_Natural_set_27 rfl (lv_at hl 0 rfl) ?_
        refine wk_get B hP 0 rfl fl_Natural_15 (v := .int (iI k1)) rfl d_Natural_set_28 ?_
        refine lv_lload_n hx hb d_Natural_set_31 rfl (lv_at hl 2 rfl) ?_
        refine wi_ldc2 hx hb 1073741823 hown (tb_h hts tw_Natural_constantLong_19) (by decide) d_Natural_set_32 ?_
        refine wi_lmask hx hb 30 1073741824 (by decide +kernel) (by decide) (by decide) d_Natural_set_35 ?_
        refine wi_l2i hx hb d_Natural_set_36 ?_
        refine wi_iast hx hb hK hP hD hS 1 0 rfl rfl (by omega) (by omega) d_Natural_set_37 (fun H locs hP hD hS => ?_)
        have hP : va_P D classes [(h, .inr (0, [.ref a, .int (iI k1)])), (a, .inl (E.1, 224, .inl (ia (upZ g1 k1 (z % 1073741824)))))] H := hP
        have hD : va_D A [(h, .inr (0, [.ref a, .int (iI k1)])), (a, .inl (E.1, 224, .inl (ia (upZ g1 k1 (z % 1073741824)))))] := hD
        refine lv_aload_n hx hb d_Natural_set_38 rfl (lv_at hl 0 rfl) ?_
        refine lv_dup hx hb d_Natural_set_39 rfl ?_
        refine wk_get B hP 0 rfl fl_Natural_15 (v := .int (iI k1)) rfl d_Natural_set_40 ?_
        refine wi_iconst (n := 1) hx hb d_Natural_set_43 ?_
        refine wi_iadd hx hb d_Natural_set_44 ?_
        refine wk_put B hP hD hS 0 rfl fl_Natural_15 fp_Natural_1 (v := .int (iI (k1 + 1))) rfl rfl (Nat.le_of_ble_eq_true rfl) d_Natural_set_45 (fun H locs hP hD hS => ?_)
        have hP : va_P D classes [(h, .inr (0, [.ref a, .int (iI (k1 + 1))])), (a, .inl (E.1, 224, .inl (ia (upZ g1 k1 (z % 1073741824)))))] H := hP
        have hD : va_D A [(h, .inr (0, [.ref a, .int (iI (k1 + 1))])), (a, .inl (E.1, 224, .inl (ia (upZ g1 k1 (z % 1073741824)))))] := hD
        refine lv_lload_n hx hb d_Natural_set_48 rfl (lv_at hl 2 rfl) ?_
        refine wi_bipush hx hb d_Natural_set_49 (by decide) ?_
        refine wi_lshr hx hb 30 1073741824 (by decide +kernel) rfl (by decide) (by omega) d_Natural_set_51 ?_
        refine lv_lstore_n (lv' := [(3, .long (lI (z / 1073741824))), (0, .ref h), (1, .long (lI v))]) hx hb d_Natural_set_52 rfl hl (by decide) rfl (fun ls hl => ?_)
        refine lv_goto (tgt := 7) hx hb d_Natural_set_53 (by decide) ?_
        exact ih7 (z / 1073741824) (k1 + 1) (upZ g1 k1 (z % 1073741824)) (by omega) (SetI_s hs (by omega) (by omega)) (by omega) _ _ _ (lv_sub hl [1, 2, 0] rfl) (hP.sub [0, 1] rfl) (hD.sub [0, 1] (by decide) rfl) hS
  refine lv_aload_n hx hb d_Natural_set_0 rfl (lv_at hl 0 rfl) ?_
  refine wi_iconst (n := 0) hx hb d_Natural_set_1 ?_
  refine wk_put B hP hD hS 0 rfl fl_Natural_15 fp_Natural_1 (v := .int (iI 0)) rfl rfl (Nat.le_of_ble_eq_true rfl) d_Natural_set_2 (fun H locs hP hD hS => ?_)
  have hP : va_P D classes [(h, .inr (0, [.ref a, .int (iI 0)])), (a, .inl (E.1, 224, .inl (ia g)))] H := hP
  have hD : va_D A [(h, .inr (0, [.ref a, .int (iI 0)])), (a, .inl (E.1, 224, .inl (ia g)))] := hD
  refine lv_lload_n hx hb d_Natural_set_5 rfl (lv_at hl 1 rfl) ?_
  refine lv_lstore_n (lv' := [(3, .long (lI v)), (0, .ref h), (1, .long (lI v))]) hx hb d_Natural_set_6 rfl hl (by decide) rfl (fun ls hl => ?_)
  exact K_7 ((v : Int).toNat + 1) v 0 g (by omega) (SetI_0 v) (by omega) _ _ _ (lv_sub hl [1, 2, 0] rfl) (hP.sub [0, 1] rfl) (hD.sub [0, 1] (by decide) rfl) hS
set_option maxHeartbeats 4000000 in
set_option maxRecDepth 100000 in
theorem c_Natural_copy (l : Launch) (D : va_G) (E : EVt) (h : Nat) (a : Nat) (g : Int → Int) (k : Int) (h2 : Nat) (a2 : Nat) (g2 : Int → Int) (k2 : Int) (v : Int) (hN : NatOK g2 k2 v) : CT l D classes (tyl E) (EVX E) y_Natural_copy (Cond.code y_Natural_copy b_Natural_copy 3 none :: TB) (rmK 0 0 0 0) 0 0 [.ref h, .ref h2] [(h, .inr (0, [.ref a, .int (iI k)])), (a, .inl (E.1, 224, .inl (ia g))), (h2, .inr (0, [.ref a2, .int (iI k2)])), (a2, .inl (E.1, 224, .inl (ia g2)))] (S := (Int → Int)) (fun u => [(h, .inr (0, [.ref a, .int (iI k2)])), (a, .inl (E.1, 224, .inl (ia u))), (h2, .inr (0, [.ref a2, .int (iI k2)])), (a2, .inl (E.1, 224, .inl (ia g2)))]) (fun _ => none) (fun u => (NatOK u k2 v)) := by
  refine CT.ofv (eok E) (by decide) rfl (Nat.le_of_ble_eq_true rfl) ?_
  intro p e s m args below meth c A Q ls B hmn hP hD hS hl ret
  have B : Bd l D classes (tyl E) (EVX E) p m c b_Natural_copy 3 s args (Cond.code y_Natural_copy b_Natural_copy 3 none :: TB) R_Natural A := B
  obtain ⟨⟨hx, hb, hml, hown, hts⟩, hX, hK, hE, hA⟩ := id B
  have hl : lv_has ls 3 [(0, .ref h), (1, .ref h2)] := hl
  have hP : va_P D classes [(h, .inr (0, [.ref a, .int (iI k)])), (a, .inl (E.1, 224, .inl (ia g))), (h2, .inr (0, [.ref a2, .int (iI k2)])), (a2, .inl (E.1, 224, .inl (ia g2)))] s.heap := hP
  have hD : va_D A [(h, .inr (0, [.ref a, .int (iI k)])), (a, .inl (E.1, 224, .inl (ia g))), (h2, .inr (0, [.ref a2, .int (iI k2)])), (a2, .inl (E.1, 224, .inl (ia g2)))] := hD
  have hk := hN.k
  have K_2 : ∀ (fuel2 : Nat) (i : Int) (g1 : Int → Int) (hi : 0 ≤ i ∧ i ≤ k2) (hc : ∀ j : Int, 0 ≤ j → j < i → g1 j = g2 j) (hf2 : k2 - i < (fuel2 : Int)) (ls : Array Slot) (H : Heap) (locs : List Loc), lv_has ls 3 [(0, .ref h), (1, .ref h2), (2, .int (iI i))] → va_P D classes [(h, .inr (0, [.ref a, .int (iI k)])), (a, .inl (E.1, 224, .inl (ia g1))), (h2, .inr (0, [.ref a2, .int (iI k2)])), (a2, .inl (E.1, 224, .inl (ia g2)))] H → va_D A [(h, .inr (0, [.ref a, .int (iI k)])), (a, .inl (E.1, 224, .inl (ia g1))), (h2, .inr (0, [.ref a2, .int (iI k2)])), (a2, .inl (E.1, 224, .inl (ia g2)))] → va_S A s.heap H locs → W p l e (rmK 0 0 0 0) s m args below meth c H locs 0 0 Q (F0 m 2 ls []) := by
    intro fuel2
    induction fuel2 with
    | zero =>
      intro i g1 hi hc hf2 ls H locs hl hP hD hS
      exfalso; omega
    | succ fuel2 ih2 =>
      intro i g1 hi hc hf2 ls H locs hl hP hD hS
      have hk := hN.k
      refine lv_iload_n hx hb d_Natural_copy_2 rfl (lv_at hl 2 rfl) ?_
      refine lv_aload_n hx hb d_Natural_copy_3 rfl (lv_at hl 1 rfl) ?_
      refine wk_get B hP 2 rfl fl_Natural_15 (v := .int (iI k2)) rfl d_Natural_copy_4 ?_
      refine wi_icmp_ge (tgt := 35) hx hb d_Natural_copy_7 (by decide) (by omega) (by omega) (fun c_1 => ?_) (fun c_1 => ?_)
      · skip
        refine lv_aload_n hx hb d_Natural_copy_35 rfl (lv_at hl 0 rfl) ?_
        refine lv_aload_n hx hb d_Natural_copy_36 rfl (lv_at hl 1 rfl) ?_
        refine wk_get B hP 2 rfl fl_Natural_15 (v := .int (iI k2)) rfl d_Natural_copy_37 ?_
        refine wk_put B hP hD hS 0 rfl fl_Natural_15 fp_Natural_1 (v := .int (iI k2)) rfl rfl (Nat.le_of_ble_eq_true rfl) d_Natural_copy_40 (fun H locs hP hD hS => ?_)
        have hP : va_P D classes [(h, .inr (0, [.ref a, .int (iI k2)])), (a, .inl (E.1, 224, .inl (ia g1))), (h2, .inr (0, [.ref a2, .int (iI k2)])), (a2, .inl (E.1, 224, .inl (ia g2)))] H := hP
        have hD : va_D A [(h, .inr (0, [.ref a, .int (iI k2)])), (a, .inl (E.1, 224, .inl (ia g1))), (h2, .inr (0, [.ref a2, .int (iI k2)])), (a2, .inl (E.1, 224, .inl (ia g2)))] := hD
        exact ret g1 _ _ _ _ d_Natural_copy_43 (show (NatOK g1 k2 v) from (NatOK_copy hN (fun j h1 h2 => hc j h1 (by omega)))) (hP.sub [0, 1, 2, 3] rfl) (hD.sub [0, 1, 2, 3] (by decide) rfl) hS
      · skip
        refine lv_iload_n hx hb d_Natural_copy_10 rfl (lv_at hl 2 rfl) ?_
        refine wi_sipush hx hb d_Natural_copy_11 (by decide) ?_
        refine wi_icmp_ge (tgt := 35) hx hb d_Natural_copy_14 (by decide) (by omega) (by omega) (fun c_2 => by exfalso; omega) (fun c_2 => ?_)
        refine lv_aload_n hx hb d_Natural_copy_17 rfl (lv_at hl 0 rfl) ?_
        refine wk_get B hP 0 rfl fl_Natural_9 (v := .ref a) rfl d_Natural_copy_18 ?_
        refine lv_iload_n hx hb d_Natural_copy_21 rfl (lv_at hl 2 rfl) ?_
        refine lv_aload_n hx hb d_Natural_copy_22 rfl (lv_at hl 1 rfl) ?_
        refine wk_get B hP 2 rfl fl_Natural_9 (v := .ref a2) rfl d_Natural_copy_23 ?_
        refine lv_iload_n hx hb d_Natural_copy_26 rfl (lv_at hl 2 rfl) ?_
        refine wi_iald hx hb hK hP 3 0 rfl rfl (by omega) (by omega) d_Natural_copy_27 ?_
        refine wi_iast hx hb hK hP hD hS 1 0 rfl rfl (by omega) (by omega) d_Natural_copy_28 (fun H locs hP hD hS => ?_)
        have hP : va_P D classes [(h, .inr (0, [.ref a, .int (iI k)])), (a, .inl (E.1, 224, .inl (ia (upZ g1 i (g2 i))))), (h2, .inr (0, [.ref a2, .int (iI k2)])), (a2, .inl (E.1, 224, .inl (ia g2)))] H := hP
        have hD : va_D A [(h, .inr (0, [.ref a, .int (iI k)])), (a, .inl (E.1, 224, .inl (ia (upZ g1 i (g2 i))))), (h2, .inr (0, [.ref a2, .int (iI k2)])), (a2, .inl (E.1, 224, .inl (ia g2)))] := hD
        refine wi_iinc (v := i + 1) (lv' := [(2, .int (iI (i + 1))), (0, .ref h), (1, .ref h2)]) hx hb d_Natural_copy_29 hl (k := 2) rfl rfl (by decide) rfl (fun ls hl => ?_)
        refine lv_goto (tgt := 2) hx hb d_Natural_copy_32 (by decide) ?_
        exact ih2 (i + 1) (upZ g1 i (g2 i)) (by omega) (fun j h1 h2 => if q : j = i then (by rw [q, upZ_s]) else (by rw [upZ_n q]; exact hc j h1 (by omega))) (by omega) _ _ _ (lv_sub hl [1, 2, 0] rfl) (hP.sub [0, 1, 2, 3] rfl) (hD.sub [0, 1, 2, 3] (by decide) rfl) hS
  refine wi_iconst (n := 0) hx hb d_Natural_copy_0 ?_
  refine lv_istore_n (lv' := [(2, .int (iI 0)), (0, .ref h), (1, .ref h2)]) hx hb d_Natural_copy_1 rfl hl (by decide) rfl (fun ls hl => ?_)
  exact K_2 ((k2 - 0 : Int).toNat + 1) 0 g (by omega) (fun j h1 h2 => by omega) (by omega) _ _ _ (lv_sub hl [1, 2, 0] rfl) (hP.sub [0, 1, 2, 3] rfl) (hD.sub [0, 1, 2, 3] (by decide) rfl) hS
set_option maxHeartbeats 4000000 in
set_option maxRecDepth 100000 in
theorem c_Natural_trim (l : Launch) (D : va_G) (E : EVt) (h : Nat) (a : Nat) (g : Int → Int) (k : Int) (n : Int) (hn : 0 ≤ n ∧ n ≤ 224) (hd0 : Dg g n) : CT l D classes (tyl E) (EVX E) y_Natural_trim (Cond.code y_Natural_trim b_Natural_trim 2 none :: TB) (rmK 0 0 0 0) 0 0 [.ref h, .int (iI n)] [(h, .inr (0, [.ref a, .int (iI k)])), (a, .inl (E.1, 224, .inl (ia g)))] (S := Int) (fun u => [(h, .inr (0, [.ref a, .int (iI u)])), (a, .inl (E.1, 224, .inl (ia g)))]) (fun _ => none) (fun u => (NatOK g u (NV g n))) := by
  refine CT.ofv (eok E) (by decide) rfl (Nat.le_of_ble_eq_true rfl) ?_
  intro p e s m args below meth c A Q ls B hmn hP hD hS hl ret
  have B : Bd l D classes (tyl E) (EVX E) p m c b_Natural_trim 2 s args (Cond.code y_Natural_trim b_Natural_trim 2 none :: TB) R_Natural A := B
  obtain ⟨⟨hx, hb, hml, hown, hts⟩, hX, hK, hE, hA⟩ := id B
  have hl : lv_has ls 2 [(0, .ref h), (1, .int (iI n))] := hl
  have hP : va_P D classes [(h, .inr (0, [.ref a, .int (iI k)])), (a, .inl (E.1, 224, .inl (ia g)))] s.heap := hP
  have hD : va_D A [(h, .inr (0, [.ref a, .int (iI k)])), (a, .inl (E.1, 224, .inl (ia g)))] := hD
  have K_18 : ∀ (fuel18 : Nat) (q : Int) (hq : 0 ≤ q ∧ q ≤ n) (hz : ∀ j : Int, q ≤ j → j < n → g j = 0) (hf18 : q < (fuel18 : Int)) (ls : Array Slot) (H : Heap) (locs : List Loc), lv_has ls 2 [(0, .ref h), (1, .int (iI n))] → va_P D classes [(h, .inr (0, [.ref a, .int (iI q)])), (a, .inl (E.1, 224, .inl (ia g)))] H → va_D A [(h, .inr (0, [.ref a, .int (iI q)])), (a, .inl (E.1, 224, .inl (ia g)))] → va_S A s.heap H locs → W p l e (rmK 0 0 0 0) s m args below meth c H locs 0 0 Q (F0 m 18 ls []) := by
    intro fuel18
    induction fuel18 with
    | zero =>
      intro q hq hz hf18 ls H locs hl hP hD hS
      exfalso; omega
    | succ fuel18 ih18 =>
      intro q hq hz hf18 ls H locs hl hP hD hS
      refine lv_aload_n hx hb d_Natural_trim_18 rfl (lv_at hl 0 rfl) ?_
      refine wk_get B hP 0 rfl fl_Natural_15 (v := .int (iI q)) rfl d_Natural_trim_19 ?_
      refine wi_if_le (tgt := 52) hx hb d_Natural_trim_22 (by decide) (by omega) (fun c_1 => ?_) (fun c_1 => ?_)
      · skip
        exact ret q _ _ _ _ d_Natural_trim_52 (show (NatOK g q (NV g n)) from (NatOK_of hn.2 hd0 hq hz (fun _ => by first | omega | exact NOCOND36) rfl)) (hP.sub [0, 1] rfl) (hD.sub [0, 1] (by decide) rfl) hS
      · skip
        refine lv_aload_n hx hb d_Natural_trim_25 rfl (lv_at hl 0 rfl) ?_
        refine wk_get B hP 0 rfl fl_Natural_9 (v := .ref a) rfl d_Natural_trim_26 ?_
        refine lv_aload_n hx hb d_Natural_trim_29 rfl (lv_at hl 0 rfl) ?_
        refine wk_get B hP 0 rfl fl_Natural_15 (v := .int (iI q)) rfl d_Natural_trim_30 ?_
        refine wi_iconst (n := 1) hx hb d_Natural_trim_33 ?_
        refine wi_isub hx hb d_Natural_trim_34 ?_
        have hdq := hd0 (q - 1) (by omega) (by omega)
        refine wi_iald hx hb hK hP 1 0 rfl rfl (by omega) (by omega) d_Natural_trim_35 ?_
        refine wi_if_ne (tgt := 52) hx hb d_Natural_trim_36 (by decide) (by omega) (fun c_2 => ?_) (fun c_2 => ?_)
        · skip
          exact ret q _ _ _ _ d_Natural_trim_52 (show (NatOK g q (NV g n)) from (NatOK_of hn.2 hd0 hq hz (fun _ => by first | omega | exact c_2) rfl)) (hP.sub [0, 1] rfl) (hD.sub [0, 1] (by decide) rfl) hS
        · skip
          refine lv_aload_n hx hb d_Natural_trim_39 rfl (lv_at hl 0 rfl) ?_
          refine lv_dup hx hb d_Natural_trim_40 rfl ?_
          refine wk_get B hP 0 rfl fl_Natural_15 (v := .int (iI q)) rfl d_Natural_trim_41 ?_
          refine wi_iconst (n := 1) hx hb d_Natural_trim_44 ?_
          refine wi_isub hx hb d_Natural_trim_45 ?_
          refine wk_put B hP hD hS 0 rfl fl_Natural_15 fp_Natural_1 (v := .int (iI (q - 1))) rfl rfl (Nat.le_of_ble_eq_true rfl) d_Natural_trim_46 (fun H locs hP hD hS => ?_)
          have hP : va_P D classes [(h, .inr (0, [.ref a, .int (iI (q - 1))])), (a, .inl (E.1, 224, .inl (ia g)))] H := hP
          have hD : va_D A [(h, .inr (0, [.ref a, .int (iI (q - 1))])), (a, .inl (E.1, 224, .inl (ia g)))] := hD
          refine lv_goto (tgt := 18) hx hb d_Natural_trim_49 (by decide) ?_
          exact ih18 (q - 1) (by omega) (fun j h1 h2 => if z : j = q - 1 then (by rw [z]; exact c_2) else hz j (by omega) h2) (by omega) _ _ _ (lv_sub hl [0, 1] rfl) (hP.sub [0, 1] rfl) (hD.sub [0, 1] (by decide) rfl) hS
  refine lv_aload_n hx hb d_Natural_trim_0 rfl (lv_at hl 0 rfl) ?_
  refine lv_iload_n hx hb d_Natural_trim_1 rfl (lv_at hl 1 rfl) ?_
  refine wi_sipush hx hb d_Natural_trim_2 (by decide) ?_
  refine wi_icmp_ge (tgt := 12) hx hb d_Natural_trim_5 (by decide) (by omega) (by omega) (fun c_3 => ?_) (fun c_3 => ?_)
  · skip
    refine wi_sipush hx hb d_Natural_trim_12 (by decide) ?_
    refine wk_put B hP hD hS 0 rfl fl_Natural_15 fp_Natural_1 (v := .int (iI 224)) rfl rfl (Nat.le_of_ble_eq_true rfl) d_Natural_trim_15 (fun H locs hP hD hS => ?_)
    have hP : va_P D classes [(h, .inr (0, [.ref a, .int (iI 224)])), (a, .inl (E.1, 224, .inl (ia g)))] H := hP
    have hD : va_D A [(h, .inr (0, [.ref a, .int (iI 224)])), (a, .inl (E.1, 224, .inl (ia g)))] := hD
    exact K_18 ((224 : Int).toNat + 1) 224 (by omega) (fun j h1 h2 => by omega) (by omega) _ _ _ (lv_sub hl [0, 1] rfl) (hP.sub [0, 1] rfl) (hD.sub [0, 1] (by decide) rfl) hS
  · skip
    refine lv_iload_n hx hb d_Natural_trim_8 rfl (lv_at hl 1 rfl) ?_
    refine lv_goto (tgt := 15) hx hb d_Natural_trim_9 (by decide) ?_
    refine wk_put B hP hD hS 0 rfl fl_Natural_15 fp_Natural_1 (v := .int (iI n)) rfl rfl (Nat.le_of_ble_eq_true rfl) d_Natural_trim_15 (fun H locs hP hD hS => ?_)
    have hP : va_P D classes [(h, .inr (0, [.ref a, .int (iI n)])), (a, .inl (E.1, 224, .inl (ia g)))] H := hP
    have hD : va_D A [(h, .inr (0, [.ref a, .int (iI n)])), (a, .inl (E.1, 224, .inl (ia g)))] := hD
    exact K_18 ((n : Int).toNat + 1) n (by omega) (fun j h1 h2 => by omega) (by omega) _ _ _ (lv_sub hl [0, 1] rfl) (hP.sub [0, 1] rfl) (hD.sub [0, 1] (by decide) rfl) hS
set_option maxHeartbeats 4000000 in
set_option maxRecDepth 100000 in
theorem c_Natural_bits (l : Launch) (D : va_G) (E : EVt) (h : Nat) (a : Nat) (g : Int → Int) (k : Int) (v : Int) (hN : NatOK g k v) : CT l D classes (tyl E) (EVX E) y_Natural_bits (Cond.code y_Natural_bits b_Natural_bits 3 (some .int) :: TB) (rmK 1 0 0 21) 0 0 [.ref h] [(h, .inr (0, [.ref a, .int (iI k)])), (a, .inl (E.1, 224, .inl (ia g)))] (S := Int) (fun _ => [(h, .inr (0, [.ref a, .int (iI k)])), (a, .inl (E.1, 224, .inl (ia g)))]) (fun u => some (.int (iI u))) (fun u => (BL v u) ∧ (0 ≤ u ∧ u ≤ 6720)) := by
  refine CT.ofi (fv := fun (u : Int) => u) (eok E) (by decide) rfl (Nat.le_of_ble_eq_true rfl) ?_
  intro p e s m args below meth c A Q ls B hmn hP hD hS hl ret
  have B : Bd l D classes (tyl E) (EVX E) p m c b_Natural_bits 3 s args (Cond.code y_Natural_bits b_Natural_bits 3 (some .int) :: TB) R_Natural A := B
  obtain ⟨⟨hx, hb, hml, hown, hts⟩, hX, hK, hE, hA⟩ := id B
  have hl : lv_has ls 3 [(0, .ref h)] := hl
  have hP : va_P D classes [(h, .inr (0, [.ref a, .int (iI k)])), (a, .inl (E.1, 224, .inl (ia g)))] s.heap := hP
  have hD : va_D A [(h, .inr (0, [.ref a, .int (iI k)])), (a, .inl (E.1, 224, .inl (ia g)))] := hD
  have hk := hN.k
  have K_31 : ∀ (u : Int) (hu : 0 ≤ u ∧ u ≤ 30) (ht : u = 0 ∨ P2 (u - 1) ≤ lgx g k (k - 1)) (hx2 : lgx g k (k - 1) < P2 u) (ls : Array Slot) (H : Heap) (locs : List Loc), lv_has ls 3 [(0, .ref h), (2, .int (iI u))] → va_P D classes [(h, .inr (0, [.ref a, .int (iI k)])), (a, .inl (E.1, 224, .inl (ia g)))] H → va_D A [(h, .inr (0, [.ref a, .int (iI k)])), (a, .inl (E.1, 224, .inl (ia g)))] → va_S A s.heap H locs → W p l e (rmK 1 0 0 21) s m args below meth c H locs 0 0 Q (F0 m 31 ls []) := by
    intro u hu ht hx2 ls H locs hl hP hD hS
    have hk := hN.k
    refine lv_aload_n hx hb d_Natural_bits_31 rfl (lv_at hl 0 rfl) ?_
    refine wk_get B hP 0 rfl fl_Natural_15 (v := .int (iI k)) rfl d_Natural_bits_32 ?_
    refine wi_if_ne (tgt := 42) hx hb d_Natural_bits_35 (by decide) (by omega) (fun c_1 => ?_) (fun c_1 => ?_)
    · skip
      refine lv_aload_n hx hb d_Natural_bits_42 rfl (lv_at hl 0 rfl) ?_
      refine wk_get B hP 0 rfl fl_Natural_15 (v := .int (iI k)) rfl d_Natural_bits_43 ?_
      refine wi_iconst (n := 1) hx hb d_Natural_bits_46 ?_
      refine wi_isub hx hb d_Natural_bits_47 ?_
      refine wi_bipush hx hb d_Natural_bits_48 (by decide) ?_
      refine wi_imul hx hb d_Natural_bits_50 ?_
      refine lv_iload_n hx hb d_Natural_bits_51 rfl (lv_at hl 1 rfl) ?_
      refine wi_iadd hx hb d_Natural_bits_52 ?_
      exact ret ((k - 1) * 30 + u) _ _ _ _ d_Natural_bits_53 (show (BL v ((k - 1) * 30 + u)) ∧ (0 ≤ ((k - 1) * 30 + u) ∧ ((k - 1) * 30 + u) ≤ 6720) from ⟨bits_end hN (by omega) hu ht hx2, by omega⟩) (hP.sub [0, 1] rfl) (hD.sub [0, 1] (by decide) rfl) hS
    · skip
      refine wi_iconst (n := 0) hx hb d_Natural_bits_38 ?_
      refine lv_goto (tgt := 53) hx hb d_Natural_bits_39 (by decide) ?_
      exact ret 0 _ _ _ _ d_Natural_bits_53 (show (BL v 0) ∧ (0 ≤ 0 ∧ 0 ≤ 6720) from ⟨Or.inl ⟨hN.zero.mp (by omega), rfl⟩, by omega⟩) (hP.sub [0, 1] rfl) (hD.sub [0, 1] (by decide) rfl) hS
  have K_13 : ∀ (fuel13 : Nat) (u : Int) (hu : 0 ≤ u ∧ u ≤ 30) (ht : u = 0 ∨ P2 (u - 1) ≤ lgx g k (k - 1)) (hf13 : 30 - u < (fuel13 : Int)) (ls : Array Slot) (H : Heap) (locs : List Loc), lv_has ls 3 [(0, .ref h), (1, .int (iI (lgx g k (k - 1)))), (2, .int (iI u))] → va_P D classes [(h, .inr (0, [.ref a, .int (iI k)])), (a, .inl (E.1, 224, .inl (ia g)))] H → va_D A [(h, .inr (0, [.ref a, .int (iI k)])), (a, .inl (E.1, 224, .inl (ia g)))] → va_S A s.heap H locs → W p l e (rmK 1 0 0 21) s m args below meth c H locs 0 0 Q (F0 m 13 ls []) := by
    intro fuel13
    induction fuel13 with
    | zero =>
      intro u hu ht hf13 ls H locs hl hP hD hS
      exfalso; omega
    | succ fuel13 ih13 =>
      intro u hu ht hf13 ls H locs hl hP hD hS
      have hk := hN.k
      have hlb := lgx_bd hN.2.1 (k - 1)
      have hp2 := P2_pos u
      refine lv_iload_n hx hb d_Natural_bits_13 rfl (lv_at hl 2 rfl) ?_
      refine wi_bipush hx hb d_Natural_bits_14 (by decide) ?_
      refine wi_icmp_ge (tgt := 31) hx hb d_Natural_bits_16 (by decide) (by omega) (by omega) (fun c_2 => ?_) (fun c_2 => ?_)
      · skip
        exact K_31 u (by omega) (ht) (by rw [show u = 30 by omega, P2_30]; exact hlb.2) _ _ _ (lv_sub hl [0, 2] rfl) (hP.sub [0, 1] rfl) (hD.sub [0, 1] (by decide) rfl) hS
      · skip
        refine lv_iload_n hx hb d_Natural_bits_19 rfl (lv_at hl 1 rfl) ?_
        refine lv_iload_n hx hb d_Natural_bits_20 rfl (lv_at hl 2 rfl) ?_
        refine wi_ishr hx hb u.toNat (P2 u) (rfl) (by omega) (by omega) (by omega) d_Natural_bits_21 ?_
        refine wi_if_eq (tgt := 31) hx hb d_Natural_bits_22 (by decide) (bits_rng hlb hp2) (fun c_3 => ?_) (fun c_3 => ?_)
        · skip
          exact K_31 u (by omega) (ht) (bits_lt hp2 c_3 hlb.1) _ _ _ (lv_sub hl [0, 2] rfl) (hP.sub [0, 1] rfl) (hD.sub [0, 1] (by decide) rfl) hS
        · skip
          refine wi_iinc (v := u + 1) (lv' := [(2, .int (iI (u + 1))), (0, .ref h), (1, .int (iI (lgx g k (k - 1))))]) hx hb d_Natural_bits_25 hl (k := 2) rfl rfl (by decide) rfl (fun ls hl => ?_)
          refine lv_goto (tgt := 13) hx hb d_Natural_bits_28 (by decide) ?_
          exact ih13 (u + 1) (by omega) (Or.inr (by rw [show u + 1 - 1 = u by omega]; exact bits_ge hp2 c_3 hlb.1)) (by omega) _ _ _ (lv_sub hl [1, 2, 0] rfl) (hP.sub [0, 1] rfl) (hD.sub [0, 1] (by decide) rfl) hS
  refine lv_aload_n hx hb d_Natural_bits_0 rfl (lv_at hl 0 rfl) ?_
  refine lv_aload_n hx hb d_Natural_bits_1 rfl (lv_at hl 0 rfl) ?_
  refine wk_get B hP 0 rfl fl_Natural_15 (v := .int (iI k)) rfl d_Natural_bits_2 ?_
  refine wi_iconst (n := 1) hx hb d_Natural_bits_5 ?_
  refine wi_isub hx hb d_Natural_bits_6 ?_
  refine wk_callV (As := [.int (iI (k - 1))]) (rest := []) (wr := []) B gTB cl_Natural_21 (c_Natural_limb l D E h a g k (k - 1) (hN.k) (by omega)) ⟨⟨rfl, rfl⟩, Nat.le_of_ble_eq_true rfl, Nat.le_of_ble_eq_true rfl⟩ hP hD hS [0, 1] [] rfl rfl (by decide) 0 rfl rfl rfl ⟨hl.2.1, hl.1⟩ rfl (Nat.le_of_ble_eq_true rfl) d_Natural_bits_7 ⟨Nat.le_of_ble_eq_true rfl, Nat.le_of_ble_eq_true rfl⟩ rfl (fun r_4 H locs hw hP hD hS => ?_)
  have hP : va_P D classes [(h, .inr (0, [.ref a, .int (iI k)])), (a, .inl (E.1, 224, .inl (ia g)))] H := hP
  have hD : va_D A [(h, .inr (0, [.ref a, .int (iI k)])), (a, .inl (E.1, 224, .inl (ia g)))] := hD
  have hw : (r_4 = lgx g k (k - 1)) := hw
  have hr_5 := hw
  refine W.cs (g := F0 m 10 ls [.int (iI r_4)]) (cells' := 0) (slots' := 0) rfl rfl ?_
  subst hr_5
  refine lv_istore_n (lv' := [(1, .int (iI (lgx g k (k - 1)))), (0, .ref h)]) hx hb d_Natural_bits_10 rfl hl (by decide) rfl (fun ls hl => ?_)
  refine wi_iconst (n := 0) hx hb d_Natural_bits_11 ?_
  refine lv_istore_n (lv' := [(2, .int (iI 0)), (1, .int (iI (lgx g k (k - 1)))), (0, .ref h)]) hx hb d_Natural_bits_12 rfl hl (by decide) rfl (fun ls hl => ?_)
  exact K_13 ((30 - 0 : Int).toNat + 1) 0 (by omega) (Or.inl rfl) (by omega) _ _ _ (lv_sub hl [2, 1, 0] rfl) (hP.sub [0, 1] rfl) (hD.sub [0, 1] (by decide) rfl) hS
set_option maxHeartbeats 4000000 in
set_option maxRecDepth 100000 in
theorem c_Natural_compareWith (l : Launch) (D : va_G) (E : EVt) (h : Nat) (a : Nat) (g : Int → Int) (k : Int) (h2 : Nat) (a2 : Nat) (g2 : Int → Int) (k2 : Int) (up : Int) (v : Int) (w : Int) (hN : NatOK g k v) (hM : NatOK g2 k2 w) (hup : 0 ≤ up ∧ up ≤ 224) (hw0 : up = 0 ∨ 0 < w) : CT l D classes (tyl E) (EVX E) y_Natural_compareWith (Cond.code y_Natural_compareWith b_Natural_compareWith 4 (some .int) :: TB) (rmK 1 0 0 21) 0 0 [.ref h, .ref h2, .int (iI up)] [(h, .inr (0, [.ref a, .int (iI k)])), (a, .inl (E.1, 224, .inl (ia g))), (h2, .inr (0, [.ref a2, .int (iI k2)])), (a2, .inl (E.1, 224, .inl (ia g2)))] (S := Int) (fun _ => [(h, .inr (0, [.ref a, .int (iI k)])), (a, .inl (E.1, 224, .inl (ia g))), (h2, .inr (0, [.ref a2, .int (iI k2)])), (a2, .inl (E.1, 224, .inl (ia g2)))]) (fun u => some (.int (iI u))) (fun u => (CmpR u v (w * PB up))) := by
  refine CT.ofi (fv := fun (u : Int) => u) (eok E) (by decide) rfl (Nat.le_of_ble_eq_true rfl) ?_
  intro p e s m args below meth c A Q ls B hmn hP hD hS hl ret
  have B : Bd l D classes (tyl E) (EVX E) p m c b_Natural_compareWith 4 s args (Cond.code y_Natural_compareWith b_Natural_compareWith 4 (some .int) :: TB) R_Natural A := B
  obtain ⟨⟨hx, hb, hml, hown, hts⟩, hX, hK, hE, hA⟩ := id B
  have hl : lv_has ls 4 [(0, .ref h), (1, .ref h2), (2, .int (iI up))] := hl
  have hP : va_P D classes [(h, .inr (0, [.ref a, .int (iI k)])), (a, .inl (E.1, 224, .inl (ia g))), (h2, .inr (0, [.ref a2, .int (iI k2)])), (a2, .inl (E.1, 224, .inl (ia g2)))] s.heap := hP
  have hD : va_D A [(h, .inr (0, [.ref a, .int (iI k)])), (a, .inl (E.1, 224, .inl (ia g))), (h2, .inr (0, [.ref a2, .int (iI k2)])), (a2, .inl (E.1, 224, .inl (ia g2)))] := hD
  have hk := hN.k
  have hk2 := hM.k
  have K_32 : ∀ (fuel32 : Nat) (i : Int) (hi : -1 ≤ i ∧ i < k) (hkk : k = k2 + up) (he : ∀ j : Int, i < j → j < k → lgx g k j = lgx g2 k2 (j - up)) (hf32 : i + 1 < (fuel32 : Int)) (ls : Array Slot) (H : Heap) (locs : List Loc), lv_has ls 4 [(0, .ref h), (1, .ref h2), (2, .int (iI up)), (3, .int (iI i))] → va_P D classes [(h, .inr (0, [.ref a, .int (iI k)])), (a, .inl (E.1, 224, .inl (ia g))), (h2, .inr (0, [.ref a2, .int (iI k2)])), (a2, .inl (E.1, 224, .inl (ia g2)))] H → va_D A [(h, .inr (0, [.ref a, .int (iI k)])), (a, .inl (E.1, 224, .inl (ia g))), (h2, .inr (0, [.ref a2, .int (iI k2)])), (a2, .inl (E.1, 224, .inl (ia g2)))] → va_S A s.heap H locs → W p l e (rmK 1 0 0 21) s m args below meth c H locs 0 0 Q (F0 m 32 ls []) := by
    intro fuel32
    induction fuel32 with
    | zero =>
      intro i hi hkk he hf32 ls H locs hl hP hD hS
      exfalso; omega
    | succ fuel32 ih32 =>
      intro i hi hkk he hf32 ls H locs hl hP hD hS
      have hk := hN.k
      have hk2 := hM.k
      have hb1 := lgx_bd hN.2.1 i
      have hb2 := lgx_bd hM.2.1 (i - up)
      refine lv_iload_n hx hb d_Natural_compareWith_32 rfl (lv_at hl 3 rfl) ?_
      refine wi_if_lt (tgt := 71) hx hb d_Natural_compareWith_33 (by decide) (by omega) (fun c_1 => ?_) (fun c_1 => ?_)
      · skip
        refine wi_iconst (n := 0) hx hb d_Natural_compareWith_71 ?_
        exact ret 0 _ _ _ _ d_Natural_compareWith_72 (show (CmpR 0 v (w * PB up)) from (cmp_same hN hM hup hkk (fun j h1 h2 => he j (by omega) h2))) (hP.sub [0, 1, 2, 3] rfl) (hD.sub [0, 1, 2, 3] (by decide) rfl) hS
      · skip
        refine lv_aload_n hx hb d_Natural_compareWith_36 rfl (lv_at hl 0 rfl) ?_
        refine lv_iload_n hx hb d_Natural_compareWith_37 rfl (lv_at hl 3 rfl) ?_
        refine wk_callV (As := [.int (iI i)]) (rest := []) (wr := [(h2, .inr (0, [.ref a2, .int (iI k2)])), (a2, .inl (E.1, 224, .inl (ia g2)))]) B gTB cl_Natural_21 (c_Natural_limb l D E h a g k i (hk) (by omega)) ⟨⟨rfl, rfl⟩, Nat.le_of_ble_eq_true rfl, Nat.le_of_ble_eq_true rfl⟩ hP hD hS [0, 1] [2, 3] rfl rfl (by decide) 0 rfl rfl rfl ⟨hl.2.1, hl.1⟩ rfl (Nat.le_of_ble_eq_true rfl) d_Natural_compareWith_38 ⟨Nat.le_of_ble_eq_true rfl, Nat.le_of_ble_eq_true rfl⟩ rfl (fun r_2 H locs hw hP hD hS => ?_)
        have hP : va_P D classes [(h2, .inr (0, [.ref a2, .int (iI k2)])), (a2, .inl (E.1, 224, .inl (ia g2))), (h, .inr (0, [.ref a, .int (iI k)])), (a, .inl (E.1, 224, .inl (ia g)))] H := hP
        have hD : va_D A [(h2, .inr (0, [.ref a2, .int (iI k2)])), (a2, .inl (E.1, 224, .inl (ia g2))), (h, .inr (0, [.ref a, .int (iI k)])), (a, .inl (E.1, 224, .inl (ia g)))] := hD
        have hw : (r_2 = lgx g k i) := hw
        have hr_3 := hw
        refine W.cs (g := F0 m 41 ls [.int (iI r_2)]) (cells' := 0) (slots' := 0) rfl rfl ?_
        subst hr_3
        refine lv_aload_n hx hb d_Natural_compareWith_41 rfl (lv_at hl 1 rfl) ?_
        refine lv_iload_n hx hb d_Natural_compareWith_42 rfl (lv_at hl 3 rfl) ?_
        refine lv_iload_n hx hb d_Natural_compareWith_43 rfl (lv_at hl 2 rfl) ?_
        refine wi_isub hx hb d_Natural_compareWith_44 ?_
        refine wk_callV (As := [.int (iI (i - up))]) (rest := [.int (iI (lgx g k i))]) (wr := [(h, .inr (0, [.ref a, .int (iI k)])), (a, .inl (E.1, 224, .inl (ia g)))]) B gTB cl_Natural_21 (c_Natural_limb l D E h2 a2 g2 k2 (i - up) (hk2) (by omega)) ⟨⟨rfl, rfl⟩, Nat.le_of_ble_eq_true rfl, Nat.le_of_ble_eq_true rfl⟩ hP hD hS [0, 1] [2, 3] rfl rfl (by decide) 0 rfl rfl rfl ⟨hl.2.1, hl.1⟩ rfl (Nat.le_of_ble_eq_true rfl) d_Natural_compareWith_45 ⟨Nat.le_of_ble_eq_true rfl, Nat.le_of_ble_eq_true rfl⟩ rfl (fun r_4 H locs hw hP hD hS => ?_)
        have hP : va_P D classes [(h, .inr (0, [.ref a, .int (iI k)])), (a, .inl (E.1, 224, .inl (ia g))), (h2, .inr (0, [.ref a2, .int (iI k2)])), (a2, .inl (E.1, 224, .inl (ia g2)))] H := hP
        have hD : va_D A [(h, .inr (0, [.ref a, .int (iI k)])), (a, .inl (E.1, 224, .inl (ia g))), (h2, .inr (0, [.ref a2, .int (iI k2)])), (a2, .inl (E.1, 224, .inl (ia g2)))] := hD
        have hw : (r_4 = lgx g2 k2 (i - up)) := hw
        have hr_5 := hw
        refine W.cs (g := F0 m 48 ls [.int (iI r_4), .int (iI (lgx g k i))]) (cells' := 0) (slots' := 0) rfl rfl ?_
        subst hr_5
        refine wi_icmp_eq (tgt := 65) hx hb d_Natural_compareWith_48 (by decide) (by omega) (by omega) (fun c_6 => ?_) (fun c_6 => ?_)
        · skip
          refine wi_iinc (v := i + (-1)) (lv' := [(3, .int (iI (i + (-1)))), (0, .ref h), (1, .ref h2), (2, .int (iI up))]) hx hb d_Natural_compareWith_65 hl (k := 3) rfl rfl (by decide) rfl (fun ls hl => ?_)
          refine lv_goto (tgt := 32) hx hb d_Natural_compareWith_68 (by decide) ?_
          exact ih32 (i + (-1)) (by omega) (by omega) (fun j h1 h2 => if q : j = i then (by rw [q]; exact c_6) else he j (by omega) h2) (by omega) _ _ _ (lv_sub hl [1, 2, 3, 0] rfl) (hP.sub [0, 1, 2, 3] rfl) (hD.sub [0, 1, 2, 3] (by decide) rfl) hS
        · skip
          refine lv_aload_n hx hb d_Natural_compareWith_51 rfl (lv_at hl 0 rfl) ?_
          refine lv_iload_n hx hb d_Natural_compareWith_52 rfl (lv_at hl 3 rfl) ?_
          refine wk_callV (As := [.int (iI i)]) (rest := []) (wr := [(h2, .inr (0, [.ref a2, .int (iI k2)])), (a2, .inl (E.1, 224, .inl (ia g2)))]) B gTB cl_Natural_21 (c_Natural_limb l D E h a g k i (hk) (by omega)) ⟨⟨rfl, rfl⟩, Nat.le_of_ble_eq_true rfl, Nat.le_of_ble_eq_true rfl⟩ hP hD hS [0, 1] [2, 3] rfl rfl (by decide) 0 rfl rfl rfl ⟨hl.2.1, hl.1⟩ rfl (Nat.le_of_ble_eq_true rfl) d_Natural_compareWith_53 ⟨Nat.le_of_ble_eq_true rfl, Nat.le_of_ble_eq_true rfl⟩ rfl (fun r_7 H locs hw hP hD hS => ?_)
          have hP : va_P D classes [(h2, .inr (0, [.ref a2, .int (iI k2)])), (a2, .inl (E.1, 224, .inl (ia g2))), (h, .inr (0, [.ref a, .int (iI k)])), (a, .inl (E.1, 224, .inl (ia g)))] H := hP
          have hD : va_D A [(h2, .inr (0, [.ref a2, .int (iI k2)])), (a2, .inl (E.1, 224, .inl (ia g2))), (h, .inr (0, [.ref a, .int (iI k)])), (a, .inl (E.1, 224, .inl (ia g)))] := hD
          have hw : (r_7 = lgx g k i) := hw
          have hr_8 := hw
          refine W.cs (g := F0 m 56 ls [.int (iI r_7)]) (cells' := 0) (slots' := 0) rfl rfl ?_
          subst hr_8
          refine lv_aload_n hx hb d_Natural_compareWith_56 rfl (lv_at hl 1 rfl) ?_
          refine lv_iload_n hx hb d_Natural_compareWith_57 rfl (lv_at hl 3 rfl) ?_
          refine lv_iload_n hx hb d_Natural_compareWith_58 rfl (lv_at hl 2 rfl) ?_
          refine wi_isub hx hb d_Natural_compareWith_59 ?_
          refine wk_callV (As := [.int (iI (i - up))]) (rest := [.int (iI (lgx g k i))]) (wr := [(h, .inr (0, [.ref a, .int (iI k)])), (a, .inl (E.1, 224, .inl (ia g)))]) B gTB cl_Natural_21 (c_Natural_limb l D E h2 a2 g2 k2 (i - up) (hk2) (by omega)) ⟨⟨rfl, rfl⟩, Nat.le_of_ble_eq_true rfl, Nat.le_of_ble_eq_true rfl⟩ hP hD hS [0, 1] [2, 3] rfl rfl (by decide) 0 rfl rfl rfl ⟨hl.2.1, hl.1⟩ rfl (Nat.le_of_ble_eq_true rfl) d_Natural_compareWith_60 ⟨Nat.le_of_ble_eq_true rfl, Nat.le_of_ble_eq_true rfl⟩ rfl (fun r_9 H locs hw hP hD hS => ?_)
          have hP : va_P D classes [(h, .inr (0, [.ref a, .int (iI k)])), (a, .inl (E.1, 224, .inl (ia g))), (h2, .inr (0, [.ref a2, .int (iI k2)])), (a2, .inl (E.1, 224, .inl (ia g2)))] H := hP
          have hD : va_D A [(h, .inr (0, [.ref a, .int (iI k)])), (a, .inl (E.1, 224, .inl (ia g))), (h2, .inr (0, [.ref a2, .int (iI k2)])), (a2, .inl (E.1, 224, .inl (ia g2)))] := hD
          have hw : (r_9 = lgx g2 k2 (i - up)) := hw
          have hr_10 := hw
          refine W.cs (g := F0 m 63 ls [.int (iI r_9), .int (iI (lgx g k i))]) (cells' := 0) (slots' := 0) rfl rfl ?_
          subst hr_10
          refine wi_isub hx hb d_Natural_compareWith_63 ?_
          exact ret (lgx g k i - (lgx g2 k2 (i - up))) _ _ _ _ d_Natural_compareWith_64 (show (CmpR (lgx g k i - (lgx g2 k2 (i - up))) v (w * PB up)) from (cmp_limb hN hM hup hkk (by omega) he c_6)) (hP.sub [0, 1, 2, 3] rfl) (hD.sub [0, 1, 2, 3] (by decide) rfl) hS
  refine lv_aload_n hx hb d_Natural_compareWith_0 rfl (lv_at hl 0 rfl) ?_
  refine wk_get B hP 0 rfl fl_Natural_15 (v := .int (iI k)) rfl d_Natural_compareWith_1 ?_
  refine lv_aload_n hx hb d_Natural_compareWith_4 rfl (lv_at hl 1 rfl) ?_
  refine wk_get B hP 2 rfl fl_Natural_15 (v := .int (iI k2)) rfl d_Natural_compareWith_5 ?_
  refine lv_iload_n hx hb d_Natural_compareWith_8 rfl (lv_at hl 2 rfl) ?_
  refine wi_iadd hx hb d_Natural_compareWith_9 ?_
  refine wi_icmp_eq (tgt := 25) hx hb d_Natural_compareWith_10 (by decide) (by omega) (by omega) (fun c_11 => ?_) (fun c_11 => ?_)
  · skip
    refine lv_aload_n hx hb d_Natural_compareWith_25 rfl (lv_at hl 0 rfl) ?_
    refine wk_get B hP 0 rfl fl_Natural_15 (v := .int (iI k)) rfl d_Natural_compareWith_26 ?_
    refine wi_iconst (n := 1) hx hb d_Natural_compareWith_29 ?_
    refine wi_isub hx hb d_Natural_compareWith_30 ?_
    refine lv_istore_n (lv' := [(3, .int (iI (k - 1))), (0, .ref h), (1, .ref h2), (2, .int (iI up))]) hx hb d_Natural_compareWith_31 rfl hl (by decide) rfl (fun ls hl => ?_)
    exact K_32 (((k - 1) + 1 : Int).toNat + 1) (k - 1) (by omega) (by omega) (fun j h1 h2 => by omega) (by omega) _ _ _ (lv_sub hl [1, 2, 3, 0] rfl) (hP.sub [0, 1, 2, 3] rfl) (hD.sub [0, 1, 2, 3] (by decide) rfl) hS
  · skip
    refine lv_aload_n hx hb d_Natural_compareWith_13 rfl (lv_at hl 0 rfl) ?_
    refine wk_get B hP 0 rfl fl_Natural_15 (v := .int (iI k)) rfl d_Natural_compareWith_14 ?_
    refine lv_aload_n hx hb d_Natural_compareWith_17 rfl (lv_at hl 1 rfl) ?_
    refine wk_get B hP 2 rfl fl_Natural_15 (v := .int (iI k2)) rfl d_Natural_compareWith_18 ?_
    refine wi_isub hx hb d_Natural_compareWith_21 ?_
    refine lv_iload_n hx hb d_Natural_compareWith_22 rfl (lv_at hl 2 rfl) ?_
    refine wi_isub hx hb d_Natural_compareWith_23 ?_
    exact ret (k - k2 - up) _ _ _ _ d_Natural_compareWith_24 (show (CmpR (k - k2 - up) v (w * PB up)) from (cmp_size hN hM hup hw0 (by omega))) (hP.sub [0, 1, 2, 3] rfl) (hD.sub [0, 1, 2, 3] (by decide) rfl) hS
