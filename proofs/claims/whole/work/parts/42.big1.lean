/-! Big: set, copy, bits, isOne, grow, trim, compare -/
abbrev b_Big_init : ByteArray := prog_10_method_1_code
def y_Big_init : MethodName := ⟨"IntervalTextModel$Big", "<init>", "()V"⟩
abbrev b_Big_set : ByteArray := prog_10_method_2_code
def y_Big_set : MethodName := ⟨"IntervalTextModel$Big", "set", "(J)V"⟩
abbrev b_Big_copy : ByteArray := prog_10_method_3_code
def y_Big_copy : MethodName := ⟨"IntervalTextModel$Big", "copy", "(LIntervalTextModel$Big;)V"⟩
abbrev b_Big_bits : ByteArray := prog_10_method_4_code
def y_Big_bits : MethodName := ⟨"IntervalTextModel$Big", "bits", "()I"⟩
abbrev b_Big_isOne : ByteArray := prog_10_method_5_code
def y_Big_isOne : MethodName := ⟨"IntervalTextModel$Big", "isOne", "()Z"⟩
abbrev b_Big_grow : ByteArray := prog_10_method_6_code
def y_Big_grow : MethodName := ⟨"IntervalTextModel$Big", "grow", "(II)V"⟩
abbrev b_Big_trim : ByteArray := prog_10_method_8_code
def y_Big_trim : MethodName := ⟨"IntervalTextModel$Big", "trim", "()V"⟩
abbrev b_Big_compare : ByteArray := prog_10_method_10_code
def y_Big_compare : MethodName := ⟨"IntervalTextModel$Big", "compare", "(LIntervalTextModel$Big;)I"⟩
theorem d_Big_init_0 : decode b_Big_init 0 = .ok (.aload_n 0, 1) := by decide +kernel
theorem d_Big_init_1 : decode b_Big_init 1 = .ok (.invokespecial 1, 3) := by decide +kernel
theorem d_Big_init_4 : decode b_Big_init 4 = .ok (.aload_n 0, 1) := by decide +kernel
theorem d_Big_init_5 : decode b_Big_init 5 = .ok (.sipush 640, 3) := by decide +kernel
theorem d_Big_init_8 : decode b_Big_init 8 = .ok (.newarray .int, 2) := by decide +kernel
theorem d_Big_init_10 : decode b_Big_init 10 = .ok (.putfield 7, 3) := by decide +kernel
theorem d_Big_init_13 : decode b_Big_init 13 = .ok (.return_, 1) := by decide +kernel
theorem d_Big_set_0 : decode b_Big_set 0 = .ok (.aload_n 0, 1) := by decide +kernel
theorem d_Big_set_1 : decode b_Big_set 1 = .ok (.iconst 0, 1) := by decide +kernel
theorem d_Big_set_2 : decode b_Big_set 2 = .ok (.putfield 13, 3) := by decide +kernel
theorem d_Big_set_5 : decode b_Big_set 5 = .ok (.lload_n 1, 1) := by decide +kernel
theorem d_Big_set_6 : decode b_Big_set 6 = .ok (.lstore_n 3, 1) := by decide +kernel
theorem d_Big_set_7 : decode b_Big_set 7 = .ok (.lload_n 3, 1) := by decide +kernel
theorem d_Big_set_8 : decode b_Big_set 8 = .ok (.lconst 0, 1) := by decide +kernel
theorem d_Big_set_9 : decode b_Big_set 9 = .ok (.lcmp, 1) := by decide +kernel
theorem d_Big_set_10 : decode b_Big_set 10 = .ok (.ifCond .eq 36, 3) := by decide +kernel
theorem d_Big_set_13 : decode b_Big_set 13 = .ok (.aload_n 0, 1) := by decide +kernel
theorem d_Big_set_14 : decode b_Big_set 14 = .ok (.getfield 7, 3) := by decide +kernel
theorem d_Big_set_17 : decode b_Big_set 17 = .ok (.aload_n 0, 1) := by decide +kernel
theorem d_Big_set_18 : decode b_Big_set 18 = .ok (.getfield 13, 3) := by decide +kernel
theorem d_Big_set_21 : decode b_Big_set 21 = .ok (.lload_n 3, 1) := by decide +kernel
theorem d_Big_set_22 : decode b_Big_set 22 = .ok (.ldc2_w 17, 3) := by decide +kernel
theorem d_Big_set_25 : decode b_Big_set 25 = .ok (.land, 1) := by decide +kernel
theorem d_Big_set_26 : decode b_Big_set 26 = .ok (.l2i, 1) := by decide +kernel
theorem d_Big_set_27 : decode b_Big_set 27 = .ok (.iastore, 1) := by decide +kernel
theorem d_Big_set_28 : decode b_Big_set 28 = .ok (.aload_n 0, 1) := by decide +kernel
theorem d_Big_set_29 : decode b_Big_set 29 = .ok (.dup, 1) := by decide +kernel
theorem d_Big_set_30 : decode b_Big_set 30 = .ok (.getfield 13, 3) := by decide +kernel
theorem d_Big_set_33 : decode b_Big_set 33 = .ok (.iconst 1, 1) := by decide +kernel
theorem d_Big_set_34 : decode b_Big_set 34 = .ok (.iadd, 1) := by decide +kernel
theorem d_Big_set_35 : decode b_Big_set 35 = .ok (.putfield 13, 3) := by decide +kernel
theorem d_Big_set_38 : decode b_Big_set 38 = .ok (.lload_n 3, 1) := by decide +kernel
theorem d_Big_set_39 : decode b_Big_set 39 = .ok (.bipush 16, 2) := by decide +kernel
theorem d_Big_set_41 : decode b_Big_set 41 = .ok (.lushr, 1) := by decide +kernel
theorem d_Big_set_42 : decode b_Big_set 42 = .ok (.lstore_n 3, 1) := by decide +kernel
theorem d_Big_set_43 : decode b_Big_set 43 = .ok (.goto (-36), 3) := by decide +kernel
theorem d_Big_set_46 : decode b_Big_set 46 = .ok (.return_, 1) := by decide +kernel
theorem d_Big_copy_0 : decode b_Big_copy 0 = .ok (.aload_n 0, 1) := by decide +kernel
theorem d_Big_copy_1 : decode b_Big_copy 1 = .ok (.aload_n 1, 1) := by decide +kernel
theorem d_Big_copy_2 : decode b_Big_copy 2 = .ok (.getfield 13, 3) := by decide +kernel
theorem d_Big_copy_5 : decode b_Big_copy 5 = .ok (.putfield 13, 3) := by decide +kernel
theorem d_Big_copy_8 : decode b_Big_copy 8 = .ok (.iconst 0, 1) := by decide +kernel
theorem d_Big_copy_9 : decode b_Big_copy 9 = .ok (.istore_n 2, 1) := by decide +kernel
theorem d_Big_copy_10 : decode b_Big_copy 10 = .ok (.iload_n 2, 1) := by decide +kernel
theorem d_Big_copy_11 : decode b_Big_copy 11 = .ok (.aload_n 0, 1) := by decide +kernel
theorem d_Big_copy_12 : decode b_Big_copy 12 = .ok (.getfield 13, 3) := by decide +kernel
theorem d_Big_copy_15 : decode b_Big_copy 15 = .ok (.if_icmp .ge 21, 3) := by decide +kernel
theorem d_Big_copy_18 : decode b_Big_copy 18 = .ok (.aload_n 0, 1) := by decide +kernel
theorem d_Big_copy_19 : decode b_Big_copy 19 = .ok (.getfield 7, 3) := by decide +kernel
theorem d_Big_copy_22 : decode b_Big_copy 22 = .ok (.iload_n 2, 1) := by decide +kernel
theorem d_Big_copy_23 : decode b_Big_copy 23 = .ok (.aload_n 1, 1) := by decide +kernel
theorem d_Big_copy_24 : decode b_Big_copy 24 = .ok (.getfield 7, 3) := by decide +kernel
theorem d_Big_copy_27 : decode b_Big_copy 27 = .ok (.iload_n 2, 1) := by decide +kernel
theorem d_Big_copy_28 : decode b_Big_copy 28 = .ok (.iaload, 1) := by decide +kernel
theorem d_Big_copy_29 : decode b_Big_copy 29 = .ok (.iastore, 1) := by decide +kernel
theorem d_Big_copy_30 : decode b_Big_copy 30 = .ok (.iinc 2 1, 3) := by decide +kernel
theorem d_Big_copy_33 : decode b_Big_copy 33 = .ok (.goto (-23), 3) := by decide +kernel
theorem d_Big_copy_36 : decode b_Big_copy 36 = .ok (.return_, 1) := by decide +kernel
theorem d_Big_bits_0 : decode b_Big_bits 0 = .ok (.iconst 0, 1) := by decide +kernel
theorem d_Big_bits_1 : decode b_Big_bits 1 = .ok (.istore_n 1, 1) := by decide +kernel
theorem d_Big_bits_2 : decode b_Big_bits 2 = .ok (.aload_n 0, 1) := by decide +kernel
theorem d_Big_bits_3 : decode b_Big_bits 3 = .ok (.getfield 13, 3) := by decide +kernel
theorem d_Big_bits_6 : decode b_Big_bits 6 = .ok (.ifCond .le 25, 3) := by decide +kernel
theorem d_Big_bits_9 : decode b_Big_bits 9 = .ok (.aload_n 0, 1) := by decide +kernel
theorem d_Big_bits_10 : decode b_Big_bits 10 = .ok (.getfield 7, 3) := by decide +kernel
theorem d_Big_bits_13 : decode b_Big_bits 13 = .ok (.aload_n 0, 1) := by decide +kernel
theorem d_Big_bits_14 : decode b_Big_bits 14 = .ok (.getfield 13, 3) := by decide +kernel
theorem d_Big_bits_17 : decode b_Big_bits 17 = .ok (.iconst 1, 1) := by decide +kernel
theorem d_Big_bits_18 : decode b_Big_bits 18 = .ok (.isub, 1) := by decide +kernel
theorem d_Big_bits_19 : decode b_Big_bits 19 = .ok (.iaload, 1) := by decide +kernel
theorem d_Big_bits_20 : decode b_Big_bits 20 = .ok (.iload_n 1, 1) := by decide +kernel
theorem d_Big_bits_21 : decode b_Big_bits 21 = .ok (.ishr, 1) := by decide +kernel
theorem d_Big_bits_22 : decode b_Big_bits 22 = .ok (.ifCond .eq 9, 3) := by decide +kernel
theorem d_Big_bits_25 : decode b_Big_bits 25 = .ok (.iinc 1 1, 3) := by decide +kernel
theorem d_Big_bits_28 : decode b_Big_bits 28 = .ok (.goto (-26), 3) := by decide +kernel
theorem d_Big_bits_31 : decode b_Big_bits 31 = .ok (.aload_n 0, 1) := by decide +kernel
theorem d_Big_bits_32 : decode b_Big_bits 32 = .ok (.getfield 13, 3) := by decide +kernel
theorem d_Big_bits_35 : decode b_Big_bits 35 = .ok (.ifCond .ne 7, 3) := by decide +kernel
theorem d_Big_bits_38 : decode b_Big_bits 38 = .ok (.iconst 0, 1) := by decide +kernel
theorem d_Big_bits_39 : decode b_Big_bits 39 = .ok (.goto 14, 3) := by decide +kernel
theorem d_Big_bits_42 : decode b_Big_bits 42 = .ok (.bipush 16, 2) := by decide +kernel
theorem d_Big_bits_44 : decode b_Big_bits 44 = .ok (.aload_n 0, 1) := by decide +kernel
theorem d_Big_bits_45 : decode b_Big_bits 45 = .ok (.getfield 13, 3) := by decide +kernel
theorem d_Big_bits_48 : decode b_Big_bits 48 = .ok (.iconst 1, 1) := by decide +kernel
theorem d_Big_bits_49 : decode b_Big_bits 49 = .ok (.isub, 1) := by decide +kernel
theorem d_Big_bits_50 : decode b_Big_bits 50 = .ok (.imul, 1) := by decide +kernel
theorem d_Big_bits_51 : decode b_Big_bits 51 = .ok (.iload_n 1, 1) := by decide +kernel
theorem d_Big_bits_52 : decode b_Big_bits 52 = .ok (.iadd, 1) := by decide +kernel
theorem d_Big_bits_53 : decode b_Big_bits 53 = .ok (.ireturn, 1) := by decide +kernel
theorem d_Big_isOne_0 : decode b_Big_isOne 0 = .ok (.aload_n 0, 1) := by decide +kernel
theorem d_Big_isOne_1 : decode b_Big_isOne 1 = .ok (.getfield 13, 3) := by decide +kernel
theorem d_Big_isOne_4 : decode b_Big_isOne 4 = .ok (.iconst 1, 1) := by decide +kernel
theorem d_Big_isOne_5 : decode b_Big_isOne 5 = .ok (.if_icmp .ne 17, 3) := by decide +kernel
theorem d_Big_isOne_8 : decode b_Big_isOne 8 = .ok (.aload_n 0, 1) := by decide +kernel
theorem d_Big_isOne_9 : decode b_Big_isOne 9 = .ok (.getfield 7, 3) := by decide +kernel
theorem d_Big_isOne_12 : decode b_Big_isOne 12 = .ok (.iconst 0, 1) := by decide +kernel
theorem d_Big_isOne_13 : decode b_Big_isOne 13 = .ok (.iaload, 1) := by decide +kernel
theorem d_Big_isOne_14 : decode b_Big_isOne 14 = .ok (.iconst 1, 1) := by decide +kernel
theorem d_Big_isOne_15 : decode b_Big_isOne 15 = .ok (.if_icmp .ne 7, 3) := by decide +kernel
theorem d_Big_isOne_18 : decode b_Big_isOne 18 = .ok (.iconst 1, 1) := by decide +kernel
theorem d_Big_isOne_19 : decode b_Big_isOne 19 = .ok (.goto 4, 3) := by decide +kernel
theorem d_Big_isOne_22 : decode b_Big_isOne 22 = .ok (.iconst 0, 1) := by decide +kernel
theorem d_Big_isOne_23 : decode b_Big_isOne 23 = .ok (.ireturn, 1) := by decide +kernel
theorem d_Big_grow_0 : decode b_Big_grow 0 = .ok (.iload_n 2, 1) := by decide +kernel
theorem d_Big_grow_1 : decode b_Big_grow 1 = .ok (.i2l, 1) := by decide +kernel
theorem d_Big_grow_2 : decode b_Big_grow 2 = .ok (.lstore_n 3, 1) := by decide +kernel
theorem d_Big_grow_3 : decode b_Big_grow 3 = .ok (.iconst 0, 1) := by decide +kernel
theorem d_Big_grow_4 : decode b_Big_grow 4 = .ok (.istore 5, 2) := by decide +kernel
theorem d_Big_grow_6 : decode b_Big_grow 6 = .ok (.iload 5, 2) := by decide +kernel
theorem d_Big_grow_8 : decode b_Big_grow 8 = .ok (.aload_n 0, 1) := by decide +kernel
theorem d_Big_grow_9 : decode b_Big_grow 9 = .ok (.getfield 13, 3) := by decide +kernel
theorem d_Big_grow_12 : decode b_Big_grow 12 = .ok (.if_icmp .ge 44, 3) := by decide +kernel
theorem d_Big_grow_15 : decode b_Big_grow 15 = .ok (.aload_n 0, 1) := by decide +kernel
theorem d_Big_grow_16 : decode b_Big_grow 16 = .ok (.getfield 7, 3) := by decide +kernel
theorem d_Big_grow_19 : decode b_Big_grow 19 = .ok (.iload 5, 2) := by decide +kernel
theorem d_Big_grow_21 : decode b_Big_grow 21 = .ok (.iaload, 1) := by decide +kernel
theorem d_Big_grow_22 : decode b_Big_grow 22 = .ok (.i2l, 1) := by decide +kernel
theorem d_Big_grow_23 : decode b_Big_grow 23 = .ok (.iload_n 1, 1) := by decide +kernel
theorem d_Big_grow_24 : decode b_Big_grow 24 = .ok (.i2l, 1) := by decide +kernel
theorem d_Big_grow_25 : decode b_Big_grow 25 = .ok (.lmul, 1) := by decide +kernel
theorem d_Big_grow_26 : decode b_Big_grow 26 = .ok (.lload_n 3, 1) := by decide +kernel
theorem d_Big_grow_27 : decode b_Big_grow 27 = .ok (.ladd, 1) := by decide +kernel
theorem d_Big_grow_28 : decode b_Big_grow 28 = .ok (.lstore 6, 2) := by decide +kernel
theorem d_Big_grow_30 : decode b_Big_grow 30 = .ok (.aload_n 0, 1) := by decide +kernel
theorem d_Big_grow_31 : decode b_Big_grow 31 = .ok (.getfield 7, 3) := by decide +kernel
theorem d_Big_grow_34 : decode b_Big_grow 34 = .ok (.iload 5, 2) := by decide +kernel
theorem d_Big_grow_36 : decode b_Big_grow 36 = .ok (.lload 6, 2) := by decide +kernel
theorem d_Big_grow_38 : decode b_Big_grow 38 = .ok (.ldc2_w 17, 3) := by decide +kernel
theorem d_Big_grow_41 : decode b_Big_grow 41 = .ok (.land, 1) := by decide +kernel
theorem d_Big_grow_42 : decode b_Big_grow 42 = .ok (.l2i, 1) := by decide +kernel
theorem d_Big_grow_43 : decode b_Big_grow 43 = .ok (.iastore, 1) := by decide +kernel
theorem d_Big_grow_44 : decode b_Big_grow 44 = .ok (.lload 6, 2) := by decide +kernel
theorem d_Big_grow_46 : decode b_Big_grow 46 = .ok (.bipush 16, 2) := by decide +kernel
theorem d_Big_grow_48 : decode b_Big_grow 48 = .ok (.lshr, 1) := by decide +kernel
theorem d_Big_grow_49 : decode b_Big_grow 49 = .ok (.lstore_n 3, 1) := by decide +kernel
theorem d_Big_grow_50 : decode b_Big_grow 50 = .ok (.iinc 5 1, 3) := by decide +kernel
theorem d_Big_grow_53 : decode b_Big_grow 53 = .ok (.goto (-47), 3) := by decide +kernel
theorem d_Big_grow_56 : decode b_Big_grow 56 = .ok (.lload_n 3, 1) := by decide +kernel
theorem d_Big_grow_57 : decode b_Big_grow 57 = .ok (.lconst 0, 1) := by decide +kernel
theorem d_Big_grow_58 : decode b_Big_grow 58 = .ok (.lcmp, 1) := by decide +kernel
theorem d_Big_grow_59 : decode b_Big_grow 59 = .ok (.ifCond .le 36, 3) := by decide +kernel
theorem d_Big_grow_62 : decode b_Big_grow 62 = .ok (.aload_n 0, 1) := by decide +kernel
theorem d_Big_grow_63 : decode b_Big_grow 63 = .ok (.getfield 7, 3) := by decide +kernel
theorem d_Big_grow_66 : decode b_Big_grow 66 = .ok (.aload_n 0, 1) := by decide +kernel
theorem d_Big_grow_67 : decode b_Big_grow 67 = .ok (.getfield 13, 3) := by decide +kernel
theorem d_Big_grow_70 : decode b_Big_grow 70 = .ok (.lload_n 3, 1) := by decide +kernel
theorem d_Big_grow_71 : decode b_Big_grow 71 = .ok (.ldc2_w 17, 3) := by decide +kernel
theorem d_Big_grow_74 : decode b_Big_grow 74 = .ok (.land, 1) := by decide +kernel
theorem d_Big_grow_75 : decode b_Big_grow 75 = .ok (.l2i, 1) := by decide +kernel
theorem d_Big_grow_76 : decode b_Big_grow 76 = .ok (.iastore, 1) := by decide +kernel
theorem d_Big_grow_77 : decode b_Big_grow 77 = .ok (.aload_n 0, 1) := by decide +kernel
theorem d_Big_grow_78 : decode b_Big_grow 78 = .ok (.dup, 1) := by decide +kernel
theorem d_Big_grow_79 : decode b_Big_grow 79 = .ok (.getfield 13, 3) := by decide +kernel
theorem d_Big_grow_82 : decode b_Big_grow 82 = .ok (.iconst 1, 1) := by decide +kernel
theorem d_Big_grow_83 : decode b_Big_grow 83 = .ok (.iadd, 1) := by decide +kernel
theorem d_Big_grow_84 : decode b_Big_grow 84 = .ok (.putfield 13, 3) := by decide +kernel
theorem d_Big_grow_87 : decode b_Big_grow 87 = .ok (.lload_n 3, 1) := by decide +kernel
theorem d_Big_grow_88 : decode b_Big_grow 88 = .ok (.bipush 16, 2) := by decide +kernel
theorem d_Big_grow_90 : decode b_Big_grow 90 = .ok (.lshr, 1) := by decide +kernel
theorem d_Big_grow_91 : decode b_Big_grow 91 = .ok (.lstore_n 3, 1) := by decide +kernel
theorem d_Big_grow_92 : decode b_Big_grow 92 = .ok (.goto (-36), 3) := by decide +kernel
theorem d_Big_grow_95 : decode b_Big_grow 95 = .ok (.return_, 1) := by decide +kernel
theorem d_Big_trim_0 : decode b_Big_trim 0 = .ok (.aload_n 0, 1) := by decide +kernel
theorem d_Big_trim_1 : decode b_Big_trim 1 = .ok (.getfield 13, 3) := by decide +kernel
theorem d_Big_trim_4 : decode b_Big_trim 4 = .ok (.ifCond .le 30, 3) := by decide +kernel
theorem d_Big_trim_7 : decode b_Big_trim 7 = .ok (.aload_n 0, 1) := by decide +kernel
theorem d_Big_trim_8 : decode b_Big_trim 8 = .ok (.getfield 7, 3) := by decide +kernel
theorem d_Big_trim_11 : decode b_Big_trim 11 = .ok (.aload_n 0, 1) := by decide +kernel
theorem d_Big_trim_12 : decode b_Big_trim 12 = .ok (.getfield 13, 3) := by decide +kernel
theorem d_Big_trim_15 : decode b_Big_trim 15 = .ok (.iconst 1, 1) := by decide +kernel
theorem d_Big_trim_16 : decode b_Big_trim 16 = .ok (.isub, 1) := by decide +kernel
theorem d_Big_trim_17 : decode b_Big_trim 17 = .ok (.iaload, 1) := by decide +kernel
theorem d_Big_trim_18 : decode b_Big_trim 18 = .ok (.ifCond .ne 16, 3) := by decide +kernel
theorem d_Big_trim_21 : decode b_Big_trim 21 = .ok (.aload_n 0, 1) := by decide +kernel
theorem d_Big_trim_22 : decode b_Big_trim 22 = .ok (.dup, 1) := by decide +kernel
theorem d_Big_trim_23 : decode b_Big_trim 23 = .ok (.getfield 13, 3) := by decide +kernel
theorem d_Big_trim_26 : decode b_Big_trim 26 = .ok (.iconst 1, 1) := by decide +kernel
theorem d_Big_trim_27 : decode b_Big_trim 27 = .ok (.isub, 1) := by decide +kernel
theorem d_Big_trim_28 : decode b_Big_trim 28 = .ok (.putfield 13, 3) := by decide +kernel
theorem d_Big_trim_31 : decode b_Big_trim 31 = .ok (.goto (-31), 3) := by decide +kernel
theorem d_Big_trim_34 : decode b_Big_trim 34 = .ok (.return_, 1) := by decide +kernel
theorem d_Big_compare_0 : decode b_Big_compare 0 = .ok (.aload_n 0, 1) := by decide +kernel
theorem d_Big_compare_1 : decode b_Big_compare 1 = .ok (.getfield 13, 3) := by decide +kernel
theorem d_Big_compare_4 : decode b_Big_compare 4 = .ok (.aload_n 1, 1) := by decide +kernel
theorem d_Big_compare_5 : decode b_Big_compare 5 = .ok (.getfield 13, 3) := by decide +kernel
theorem d_Big_compare_8 : decode b_Big_compare 8 = .ok (.if_icmp .eq 20, 3) := by decide +kernel
theorem d_Big_compare_11 : decode b_Big_compare 11 = .ok (.aload_n 0, 1) := by decide +kernel
theorem d_Big_compare_12 : decode b_Big_compare 12 = .ok (.getfield 13, 3) := by decide +kernel
theorem d_Big_compare_15 : decode b_Big_compare 15 = .ok (.aload_n 1, 1) := by decide +kernel
theorem d_Big_compare_16 : decode b_Big_compare 16 = .ok (.getfield 13, 3) := by decide +kernel
theorem d_Big_compare_19 : decode b_Big_compare 19 = .ok (.if_icmp .ge 7, 3) := by decide +kernel
theorem d_Big_compare_22 : decode b_Big_compare 22 = .ok (.iconst (-1), 1) := by decide +kernel
theorem d_Big_compare_23 : decode b_Big_compare 23 = .ok (.goto 4, 3) := by decide +kernel
theorem d_Big_compare_26 : decode b_Big_compare 26 = .ok (.iconst 1, 1) := by decide +kernel
theorem d_Big_compare_27 : decode b_Big_compare 27 = .ok (.ireturn, 1) := by decide +kernel
theorem d_Big_compare_28 : decode b_Big_compare 28 = .ok (.aload_n 0, 1) := by decide +kernel
theorem d_Big_compare_29 : decode b_Big_compare 29 = .ok (.getfield 13, 3) := by decide +kernel
theorem d_Big_compare_32 : decode b_Big_compare 32 = .ok (.iconst 1, 1) := by decide +kernel
theorem d_Big_compare_33 : decode b_Big_compare 33 = .ok (.isub, 1) := by decide +kernel
theorem d_Big_compare_34 : decode b_Big_compare 34 = .ok (.istore_n 2, 1) := by decide +kernel
theorem d_Big_compare_35 : decode b_Big_compare 35 = .ok (.iload_n 2, 1) := by decide +kernel
theorem d_Big_compare_36 : decode b_Big_compare 36 = .ok (.ifCond .lt 45, 3) := by decide +kernel
theorem d_Big_compare_39 : decode b_Big_compare 39 = .ok (.aload_n 0, 1) := by decide +kernel
theorem d_Big_compare_40 : decode b_Big_compare 40 = .ok (.getfield 7, 3) := by decide +kernel
theorem d_Big_compare_43 : decode b_Big_compare 43 = .ok (.iload_n 2, 1) := by decide +kernel
theorem d_Big_compare_44 : decode b_Big_compare 44 = .ok (.iaload, 1) := by decide +kernel
theorem d_Big_compare_45 : decode b_Big_compare 45 = .ok (.aload_n 1, 1) := by decide +kernel
theorem d_Big_compare_46 : decode b_Big_compare 46 = .ok (.getfield 7, 3) := by decide +kernel
theorem d_Big_compare_49 : decode b_Big_compare 49 = .ok (.iload_n 2, 1) := by decide +kernel
theorem d_Big_compare_50 : decode b_Big_compare 50 = .ok (.iaload, 1) := by decide +kernel
theorem d_Big_compare_51 : decode b_Big_compare 51 = .ok (.if_icmp .eq 24, 3) := by decide +kernel
theorem d_Big_compare_54 : decode b_Big_compare 54 = .ok (.aload_n 0, 1) := by decide +kernel
theorem d_Big_compare_55 : decode b_Big_compare 55 = .ok (.getfield 7, 3) := by decide +kernel
theorem d_Big_compare_58 : decode b_Big_compare 58 = .ok (.iload_n 2, 1) := by decide +kernel
theorem d_Big_compare_59 : decode b_Big_compare 59 = .ok (.iaload, 1) := by decide +kernel
theorem d_Big_compare_60 : decode b_Big_compare 60 = .ok (.aload_n 1, 1) := by decide +kernel
theorem d_Big_compare_61 : decode b_Big_compare 61 = .ok (.getfield 7, 3) := by decide +kernel
theorem d_Big_compare_64 : decode b_Big_compare 64 = .ok (.iload_n 2, 1) := by decide +kernel
theorem d_Big_compare_65 : decode b_Big_compare 65 = .ok (.iaload, 1) := by decide +kernel
theorem d_Big_compare_66 : decode b_Big_compare 66 = .ok (.if_icmp .ge 7, 3) := by decide +kernel
theorem d_Big_compare_69 : decode b_Big_compare 69 = .ok (.iconst (-1), 1) := by decide +kernel
theorem d_Big_compare_70 : decode b_Big_compare 70 = .ok (.goto 4, 3) := by decide +kernel
theorem d_Big_compare_73 : decode b_Big_compare 73 = .ok (.iconst 1, 1) := by decide +kernel
theorem d_Big_compare_74 : decode b_Big_compare 74 = .ok (.ireturn, 1) := by decide +kernel
theorem d_Big_compare_75 : decode b_Big_compare 75 = .ok (.iinc 2 (-1), 3) := by decide +kernel
theorem d_Big_compare_78 : decode b_Big_compare 78 = .ok (.goto (-43), 3) := by decide +kernel
theorem d_Big_compare_81 : decode b_Big_compare 81 = .ok (.iconst 0, 1) := by decide +kernel
theorem d_Big_compare_82 : decode b_Big_compare 82 = .ok (.ireturn, 1) := by decide +kernel
theorem fl_Big_7 : FLink TB classes "IntervalTextModel$Big" 7 R_Big F_Big 2 7 0 := ⟨rfl, by decide, i_Big, tb_t (List.mem_append_right _ (List.mem_append_right _ (List.mem_append_left _ (List.mem_of_getElem? (l := tables_1_3) (i := 114) rfl)))) rfl⟩
theorem fl_Big_13 : FLink TB classes "IntervalTextModel$Big" 13 R_Big F_Big 2 7 1 := ⟨rfl, by decide, i_Big, tb_t (List.mem_append_right _ (List.mem_append_right _ (List.mem_append_left _ (List.mem_of_getElem? (l := tables_1_3) (i := 115) rfl)))) rfl⟩
theorem fp_Big_0 : FPut R_Big F_Big 2 0 (.array .int) true := ⟨e_Big, n_Big, rfl, by decide +kernel⟩
theorem fp_Big_1 : FPut R_Big F_Big 2 1 .int false := ⟨e_Big, n_Big, rfl, by decide +kernel⟩
theorem oi_Big_1 : Cond.methodLink "IntervalTextModel$Big" 1 objectInit ∈ TB ∧ Cond.instanceMethod objectInit ∈ TB ∧ Cond.code objectInit ⟨#[0xb1]⟩ 1 none ∈ TB := ⟨tb_t (List.mem_append_right _ (List.mem_append_right _ (List.mem_append_left _ (List.mem_of_getElem? (l := tables_1_3) (i := 113) rfl)))) rfl, tb_t (List.mem_append_left _ (List.mem_of_getElem? (l := tables_1_1) (i := 22) rfl)) rfl, tb_t (List.mem_append_left _ (List.mem_of_getElem? (l := tables_1_1) (i := 23) rfl)) rfl⟩
theorem tw_Big_constantLong_17 : Cond.constantLong "IntervalTextModel$Big" 17 (65535 : Int64) ∈ TB := tb_t (List.mem_append_right _ (List.mem_append_right _ (List.mem_append_right _ (List.mem_append_left _ (List.mem_of_getElem? (l := tables_1_4) (i := 32) rfl))))) rfl
set_option maxHeartbeats 4000000 in
set_option maxRecDepth 100000 in
theorem c_Big_init (l : Launch) (D : va_G) (E : EVt) (h : Nat)  : CT l D classes (tyl E) (EVX E) y_Big_init (Cond.code y_Big_init b_Big_init 1 none :: TB) (rmK 1 1 640 20) 1 640 [.ref h] [(h, .inr (7, [.null, .int (iI 0)]))] (S := Nat) (fun u => [(h, .inr (7, [.ref u, .int (iI 0)])), (u, .inl (E.1, 640, .inl (ia (fun _ => 0))))]) (fun _ => none) (fun _ => True) := by
  refine CT.ofv (eok E) (by decide) rfl (Nat.le_of_ble_eq_true rfl) ?_
  intro p e s m args below meth c A Q ls B hmn hP hD hS hl ret
  have B : Bd l D classes (tyl E) (EVX E) p m c b_Big_init 1 s args (Cond.code y_Big_init b_Big_init 1 none :: TB) R_Big A := B
  obtain ⟨⟨hx, hb, hml, hown, hts⟩, hX, hK, hE, hA⟩ := id B
  have hl : lv_has ls 1 [(0, .ref h)] := hl
  have hP : va_P D classes [(h, .inr (7, [.null, .int (iI 0)]))] s.heap := hP
  have hD : va_D A [(h, .inr (7, [.null, .int (iI 0)]))] := hD
  refine lv_aload_n hx hb d_Big_init_0 rfl (lv_at hl 0 rfl) ?_
  refine wk_objInit B oi_Big_1 ⟨hl.2.1, hl.1⟩ d_Big_init_1 (Nat.le_of_ble_eq_true rfl) ⟨Nat.le_of_ble_eq_true rfl, Nat.le_of_ble_eq_true rfl⟩ ?_
  refine lv_aload_n hx hb d_Big_init_4 rfl (lv_at hl 0 rfl) ?_
  refine wi_sipush hx hb d_Big_init_5 (by decide) ?_
  refine wk_newa B hP hD hS .int rfl (Or.inl rfl) tw_arr_int 0 rfl (N' := 640) rfl (by decide) (by decide) d_Big_init_8 (fun q_1 H hP hD hS => ?_)
  have hP : va_P D classes [(h, .inr (7, [.null, .int (iI 0)])), (q_1, .inl (E.1, 640, .inl (ia (fun _ => 0))))] H := hP
  have hD : va_D A [(h, .inr (7, [.null, .int (iI 0)])), (q_1, .inl (E.1, 640, .inl (ia (fun _ => 0))))] := hD
  refine W.cs (cells' := 1) (slots' := 640) rfl rfl ?_
  refine wk_putF B hmn hP hD hS 0 rfl fl_Big_7 rfl fp_Big_0 (v := .ref q_1) rfl rfl (Nat.le_of_ble_eq_true rfl) d_Big_init_10 (fun H locs hP hD hS => ?_)
  have hP : va_P D classes [(h, .inr (7, [.ref q_1, .int (iI 0)])), (q_1, .inl (E.1, 640, .inl (ia (fun _ => 0))))] H := hP
  have hD : va_D A [(h, .inr (7, [.ref q_1, .int (iI 0)])), (q_1, .inl (E.1, 640, .inl (ia (fun _ => 0))))] := hD
  exact ret q_1 _ _ _ _ d_Big_init_13 trivial (hP.sub [0, 1] rfl) (hD.sub [0, 1] (by decide) rfl) hS
set_option maxHeartbeats 4000000 in
set_option maxRecDepth 100000 in
theorem c_Big_set (l : Launch) (D : va_G) (E : EVt) (h : Nat) (a : Nat) (g : Int → Int) (k : Int) (v : Int) (hv : 0 ≤ v ∧ v < 9223372036854775808) : CT l D classes (tyl E) (EVX E) y_Big_set (Cond.code y_Big_set b_Big_set 5 none :: TB) (rmK 0 0 0 0) 0 0 [.ref h, .long (lI v)] [(h, .inr (7, [.ref a, .int (iI k)])), (a, .inl (E.1, 640, .inl (ia g)))] (S := (Int → Int) × Int) (fun u => [(h, .inr (7, [.ref a, .int (iI u.2)])), (a, .inl (E.1, 640, .inl (ia u.1)))]) (fun _ => none) (fun u => (BigOK u.1 u.2 v)) := by
  refine CT.ofv (eok E) (by decide) rfl (Nat.le_of_ble_eq_true rfl) ?_
  intro p e s m args below meth c A Q ls B hmn hP hD hS hl ret
  have B : Bd l D classes (tyl E) (EVX E) p m c b_Big_set 5 s args (Cond.code y_Big_set b_Big_set 5 none :: TB) R_Big A := B
  obtain ⟨⟨hx, hb, hml, hown, hts⟩, hX, hK, hE, hA⟩ := id B
  have hl : lv_has ls 5 [(0, .ref h), (1, .long (lI v))] := hl
  have hP : va_P D classes [(h, .inr (7, [.ref a, .int (iI k)])), (a, .inl (E.1, 640, .inl (ia g)))] s.heap := hP
  have hD : va_D A [(h, .inr (7, [.ref a, .int (iI k)])), (a, .inl (E.1, 640, .inl (ia g)))] := hD
  have K_7 : ∀ (fuel7 : Nat) (z : Int) (k1 : Int) (g1 : Int → Int) (hq : (k1 = 0 ∧ 0 ≤ z ∧ z < 9223372036854775808) ∨ (k1 = 1 ∧ 0 ≤ z ∧ z < 140737488355328) ∨ (k1 = 2 ∧ 0 ≤ z ∧ z < 2147483648) ∨ (k1 = 3 ∧ 0 ≤ z ∧ z < 32768) ∨ (k1 = 4 ∧ z = 0)) (hs : StI g1 k1 z v) (hf7 : z < (fuel7 : Int)) (ls : Array Slot) (H : Heap) (locs : List Loc), lv_has ls 5 [(0, .ref h), (1, .long (lI v)), (3, .long (lI z))] → va_P D classes [(h, .inr (7, [.ref a, .int (iI k1)])), (a, .inl (E.1, 640, .inl (ia g1)))] H → va_D A [(h, .inr (7, [.ref a, .int (iI k1)])), (a, .inl (E.1, 640, .inl (ia g1)))] → va_S A s.heap H locs → W p l e (rmK 0 0 0 0) s m args below meth c H locs 0 0 Q (F0 m 7 ls []) := by
    intro fuel7
    induction fuel7 with
    | zero =>
      intro z k1 g1 hq hs hf7 ls H locs hl hP hD hS
      exfalso; omega
    | succ fuel7 ih7 =>
      intro z k1 g1 hq hs hf7 ls H locs hl hP hD hS
      refine lv_lload_n hx hb d_Big_set_7 rfl (lv_at hl 2 rfl) ?_
      refine wi_lconst (z := 0) hx hb d_Big_set_8 (by decide) ?_
      refine wi_lcmp hx hb (by omega) (by omega) d_Big_set_9 ?_
      refine wi_if_eq (tgt := 46) hx hb d_Big_set_10 (by decide) (by have := cmpZ_rng z 0; omega) (fun c_1 => ?_) (fun c_1 => ?_)
      · skip
        have c_1 := cmpZ_eq.mp c_1
        exact ret (g1, k1) _ _ _ _ d_Big_set_46 (show (BigOK g1 k1 v) from (StI_end hs (by omega) (by omega))) (hP.sub [0, 1] rfl) (hD.sub [0, 1] (by decide) rfl) hS
      · skip
        have c_1 := cmpZ_ne.mp c_1
        refine lv_aload_n hx hb d_Big_set_13 rfl (lv_at hl 0 rfl) ?_
        refine wk_get B hP 0 rfl fl_Big_7 (v := .ref a) rfl d_Big_set_14 ?_
        refine lv_aload_n hx hb d_Big_set_17 rfl (lv_at hl 0 rfl) ?_
        refine wk_get B hP 0 rfl fl_Big_13 (v := .int (iI k1)) rfl d_Big_set_18 ?_
        refine lv_lload_n hx hb d_Big_set_21 rfl (lv_at hl 2 rfl) ?_
        refine wi_ldc2 hx hb 65535 hown (tb_h hts tw_Big_constantLong_17) (by decide) d_Big_set_22 ?_
        refine wi_lmask hx hb 16 65536 (by decide +kernel) (by decide) (by decide) d_Big_set_25 ?_
        refine wi_l2i hx hb d_Big_set_26 ?_
        refine wi_iast hx hb hK hP hD hS 1 0 rfl rfl (by omega) (by omega) d_Big_set_27 (fun H locs hP hD hS => ?_)
        have hP : va_P D classes [(h, .inr (7, [.ref a, .int (iI k1)])), (a, .inl (E.1, 640, .inl (ia (upZ g1 k1 (z % 65536)))))] H := hP
        have hD : va_D A [(h, .inr (7, [.ref a, .int (iI k1)])), (a, .inl (E.1, 640, .inl (ia (upZ g1 k1 (z % 65536)))))] := hD
        refine lv_aload_n hx hb d_Big_set_28 rfl (lv_at hl 0 rfl) ?_
        refine lv_dup hx hb d_Big_set_29 rfl ?_
        refine wk_get B hP 0 rfl fl_Big_13 (v := .int (iI k1)) rfl d_Big_set_30 ?_
        refine wi_iconst (n := 1) hx hb d_Big_set_33 ?_
        refine wi_iadd hx hb d_Big_set_34 ?_
        refine wk_put B hP hD hS 0 rfl fl_Big_13 fp_Big_1 (v := .int (iI (k1 + 1))) rfl rfl (Nat.le_of_ble_eq_true rfl) d_Big_set_35 (fun H locs hP hD hS => ?_)
        have hP : va_P D classes [(h, .inr (7, [.ref a, .int (iI (k1 + 1))])), (a, .inl (E.1, 640, .inl (ia (upZ g1 k1 (z % 65536)))))] H := hP
        have hD : va_D A [(h, .inr (7, [.ref a, .int (iI (k1 + 1))])), (a, .inl (E.1, 640, .inl (ia (upZ g1 k1 (z % 65536)))))] := hD
        refine lv_lload_n hx hb d_Big_set_38 rfl (lv_at hl 2 rfl) ?_
        refine wi_bipush hx hb d_Big_set_39 (by decide) ?_
        refine wi_lushr hx hb 16 65536 (by decide +kernel) rfl (by decide) (by omega) d_Big_set_41 ?_
        refine lv_lstore_n (lv' := [(3, .long (lI (z / 65536))), (0, .ref h), (1, .long (lI v))]) hx hb d_Big_set_42 rfl hl (by decide) rfl (fun ls hl => ?_)
        refine lv_goto (tgt := 7) hx hb d_Big_set_43 (by decide) ?_
        exact ih7 (z / 65536) (k1 + 1) (upZ g1 k1 (z % 65536)) (by omega) (StI_s hs (by omega) (by omega)) (by omega) _ _ _ (lv_sub hl [1, 2, 0] rfl) (hP.sub [0, 1] rfl) (hD.sub [0, 1] (by decide) rfl) hS
  refine lv_aload_n hx hb d_Big_set_0 rfl (lv_at hl 0 rfl) ?_
  refine wi_iconst (n := 0) hx hb d_Big_set_1 ?_
  refine wk_put B hP hD hS 0 rfl fl_Big_13 fp_Big_1 (v := .int (iI 0)) rfl rfl (Nat.le_of_ble_eq_true rfl) d_Big_set_2 (fun H locs hP hD hS => ?_)
  have hP : va_P D classes [(h, .inr (7, [.ref a, .int (iI 0)])), (a, .inl (E.1, 640, .inl (ia g)))] H := hP
  have hD : va_D A [(h, .inr (7, [.ref a, .int (iI 0)])), (a, .inl (E.1, 640, .inl (ia g)))] := hD
  refine lv_lload_n hx hb d_Big_set_5 rfl (lv_at hl 1 rfl) ?_
  refine lv_lstore_n (lv' := [(3, .long (lI v)), (0, .ref h), (1, .long (lI v))]) hx hb d_Big_set_6 rfl hl (by decide) rfl (fun ls hl => ?_)
  exact K_7 ((v : Int).toNat + 1) v 0 g (by omega) (StI_0 v) (by omega) _ _ _ (lv_sub hl [1, 2, 0] rfl) (hP.sub [0, 1] rfl) (hD.sub [0, 1] (by decide) rfl) hS
set_option maxHeartbeats 4000000 in
set_option maxRecDepth 100000 in
theorem c_Big_copy (l : Launch) (D : va_G) (E : EVt) (h : Nat) (a : Nat) (g : Int → Int) (k : Int) (h2 : Nat) (a2 : Nat) (g2 : Int → Int) (k2 : Int) (v : Int) (hN : BigOK g2 k2 v) : CT l D classes (tyl E) (EVX E) y_Big_copy (Cond.code y_Big_copy b_Big_copy 3 none :: TB) (rmK 0 0 0 0) 0 0 [.ref h, .ref h2] [(h, .inr (7, [.ref a, .int (iI k)])), (a, .inl (E.1, 640, .inl (ia g))), (h2, .inr (7, [.ref a2, .int (iI k2)])), (a2, .inl (E.1, 640, .inl (ia g2)))] (S := (Int → Int)) (fun u => [(h, .inr (7, [.ref a, .int (iI k2)])), (a, .inl (E.1, 640, .inl (ia u))), (h2, .inr (7, [.ref a2, .int (iI k2)])), (a2, .inl (E.1, 640, .inl (ia g2)))]) (fun _ => none) (fun u => (BigOK u k2 v)) := by
  refine CT.ofv (eok E) (by decide) rfl (Nat.le_of_ble_eq_true rfl) ?_
  intro p e s m args below meth c A Q ls B hmn hP hD hS hl ret
  have B : Bd l D classes (tyl E) (EVX E) p m c b_Big_copy 3 s args (Cond.code y_Big_copy b_Big_copy 3 none :: TB) R_Big A := B
  obtain ⟨⟨hx, hb, hml, hown, hts⟩, hX, hK, hE, hA⟩ := id B
  have hl : lv_has ls 3 [(0, .ref h), (1, .ref h2)] := hl
  have hP : va_P D classes [(h, .inr (7, [.ref a, .int (iI k)])), (a, .inl (E.1, 640, .inl (ia g))), (h2, .inr (7, [.ref a2, .int (iI k2)])), (a2, .inl (E.1, 640, .inl (ia g2)))] s.heap := hP
  have hD : va_D A [(h, .inr (7, [.ref a, .int (iI k)])), (a, .inl (E.1, 640, .inl (ia g))), (h2, .inr (7, [.ref a2, .int (iI k2)])), (a2, .inl (E.1, 640, .inl (ia g2)))] := hD
  have hk := hN.k
  have K_10 : ∀ (fuel10 : Nat) (i : Int) (g1 : Int → Int) (hi : 0 ≤ i ∧ i ≤ k2) (hc : ∀ j : Int, 0 ≤ j → j < i → g1 j = g2 j) (hf10 : k2 - i < (fuel10 : Int)) (ls : Array Slot) (H : Heap) (locs : List Loc), lv_has ls 3 [(0, .ref h), (1, .ref h2), (2, .int (iI i))] → va_P D classes [(h, .inr (7, [.ref a, .int (iI k2)])), (a, .inl (E.1, 640, .inl (ia g1))), (h2, .inr (7, [.ref a2, .int (iI k2)])), (a2, .inl (E.1, 640, .inl (ia g2)))] H → va_D A [(h, .inr (7, [.ref a, .int (iI k2)])), (a, .inl (E.1, 640, .inl (ia g1))), (h2, .inr (7, [.ref a2, .int (iI k2)])), (a2, .inl (E.1, 640, .inl (ia g2)))] → va_S A s.heap H locs → W p l e (rmK 0 0 0 0) s m args below meth c H locs 0 0 Q (F0 m 10 ls []) := by
    intro fuel10
    induction fuel10 with
    | zero =>
      intro i g1 hi hc hf10 ls H locs hl hP hD hS
      exfalso; omega
    | succ fuel10 ih10 =>
      intro i g1 hi hc hf10 ls H locs hl hP hD hS
      refine lv_iload_n hx hb d_Big_copy_10 rfl (lv_at hl 2 rfl) ?_
      refine lv_aload_n hx hb d_Big_copy_11 rfl (lv_at hl 0 rfl) ?_
      refine wk_get B hP 0 rfl fl_Big_13 (v := .int (iI k2)) rfl d_Big_copy_12 ?_
      refine wi_icmp_ge (tgt := 36) hx hb d_Big_copy_15 (by decide) (by omega) (by omega) (fun c_1 => ?_) (fun c_1 => ?_)
      · skip
        exact ret g1 _ _ _ _ d_Big_copy_36 (show (BigOK g1 k2 v) from (BigOK_copy hN (fun j h1 h2 => hc j h1 (by omega)))) (hP.sub [0, 1, 2, 3] rfl) (hD.sub [0, 1, 2, 3] (by decide) rfl) hS
      · skip
        refine lv_aload_n hx hb d_Big_copy_18 rfl (lv_at hl 0 rfl) ?_
        refine wk_get B hP 0 rfl fl_Big_7 (v := .ref a) rfl d_Big_copy_19 ?_
        refine lv_iload_n hx hb d_Big_copy_22 rfl (lv_at hl 2 rfl) ?_
        refine lv_aload_n hx hb d_Big_copy_23 rfl (lv_at hl 1 rfl) ?_
        refine wk_get B hP 2 rfl fl_Big_7 (v := .ref a2) rfl d_Big_copy_24 ?_
        refine lv_iload_n hx hb d_Big_copy_27 rfl (lv_at hl 2 rfl) ?_
        refine wi_iald hx hb hK hP 3 0 rfl rfl (by omega) (by omega) d_Big_copy_28 ?_
        refine wi_iast hx hb hK hP hD hS 1 0 rfl rfl (by omega) (by omega) d_Big_copy_29 (fun H locs hP hD hS => ?_)
        have hP : va_P D classes [(h, .inr (7, [.ref a, .int (iI k2)])), (a, .inl (E.1, 640, .inl (ia (upZ g1 i (g2 i))))), (h2, .inr (7, [.ref a2, .int (iI k2)])), (a2, .inl (E.1, 640, .inl (ia g2)))] H := hP
        have hD : va_D A [(h, .inr (7, [.ref a, .int (iI k2)])), (a, .inl (E.1, 640, .inl (ia (upZ g1 i (g2 i))))), (h2, .inr (7, [.ref a2, .int (iI k2)])), (a2, .inl (E.1, 640, .inl (ia g2)))] := hD
        refine wi_iinc (v := i + 1) (lv' := [(2, .int (iI (i + 1))), (0, .ref h), (1, .ref h2)]) hx hb d_Big_copy_30 hl (k := 2) rfl rfl (by decide) rfl (fun ls hl => ?_)
        refine lv_goto (tgt := 10) hx hb d_Big_copy_33 (by decide) ?_
        exact ih10 (i + 1) (upZ g1 i (g2 i)) (by omega) (fun j h1 h2 => if q : j = i then (by rw [q, upZ_s]) else (by rw [upZ_n q]; exact hc j h1 (by omega))) (by omega) _ _ _ (lv_sub hl [1, 2, 0] rfl) (hP.sub [0, 1, 2, 3] rfl) (hD.sub [0, 1, 2, 3] (by decide) rfl) hS
  refine lv_aload_n hx hb d_Big_copy_0 rfl (lv_at hl 0 rfl) ?_
  refine lv_aload_n hx hb d_Big_copy_1 rfl (lv_at hl 1 rfl) ?_
  refine wk_get B hP 2 rfl fl_Big_13 (v := .int (iI k2)) rfl d_Big_copy_2 ?_
  refine wk_put B hP hD hS 0 rfl fl_Big_13 fp_Big_1 (v := .int (iI k2)) rfl rfl (Nat.le_of_ble_eq_true rfl) d_Big_copy_5 (fun H locs hP hD hS => ?_)
  have hP : va_P D classes [(h, .inr (7, [.ref a, .int (iI k2)])), (a, .inl (E.1, 640, .inl (ia g))), (h2, .inr (7, [.ref a2, .int (iI k2)])), (a2, .inl (E.1, 640, .inl (ia g2)))] H := hP
  have hD : va_D A [(h, .inr (7, [.ref a, .int (iI k2)])), (a, .inl (E.1, 640, .inl (ia g))), (h2, .inr (7, [.ref a2, .int (iI k2)])), (a2, .inl (E.1, 640, .inl (ia g2)))] := hD
  refine wi_iconst (n := 0) hx hb d_Big_copy_8 ?_
  refine lv_istore_n (lv' := [(2, .int (iI 0)), (0, .ref h), (1, .ref h2)]) hx hb d_Big_copy_9 rfl hl (by decide) rfl (fun ls hl => ?_)
  exact K_10 ((k2 - 0 : Int).toNat + 1) 0 g (by omega) (fun j h1 h2 => by omega) (by omega) _ _ _ (lv_sub hl [1, 2, 0] rfl) (hP.sub [0, 1, 2, 3] rfl) (hD.sub [0, 1, 2, 3] (by decide) rfl) hS
set_option maxHeartbeats 4000000 in
set_option maxRecDepth 100000 in
theorem c_Big_bits (l : Launch) (D : va_G) (E : EVt) (h : Nat) (a : Nat) (g : Int → Int) (k : Int) (v : Int) (hN : BigOK g k v) : CT l D classes (tyl E) (EVX E) y_Big_bits (Cond.code y_Big_bits b_Big_bits 2 (some .int) :: TB) (rmK 0 0 0 0) 0 0 [.ref h] [(h, .inr (7, [.ref a, .int (iI k)])), (a, .inl (E.1, 640, .inl (ia g)))] (S := Int) (fun _ => [(h, .inr (7, [.ref a, .int (iI k)])), (a, .inl (E.1, 640, .inl (ia g)))]) (fun u => some (.int (iI u))) (fun u => (BL v u) ∧ (0 ≤ u ∧ u ≤ 10240)) := by
  refine CT.ofi (fv := fun (u : Int) => u) (eok E) (by decide) rfl (Nat.le_of_ble_eq_true rfl) ?_
  intro p e s m args below meth c A Q ls B hmn hP hD hS hl ret
  have B : Bd l D classes (tyl E) (EVX E) p m c b_Big_bits 2 s args (Cond.code y_Big_bits b_Big_bits 2 (some .int) :: TB) R_Big A := B
  obtain ⟨⟨hx, hb, hml, hown, hts⟩, hX, hK, hE, hA⟩ := id B
  have hl : lv_has ls 2 [(0, .ref h)] := hl
  have hP : va_P D classes [(h, .inr (7, [.ref a, .int (iI k)])), (a, .inl (E.1, 640, .inl (ia g)))] s.heap := hP
  have hD : va_D A [(h, .inr (7, [.ref a, .int (iI k)])), (a, .inl (E.1, 640, .inl (ia g)))] := hD
  have hk := hN.k
  have K_31 : ∀ (u : Int) (hu : 0 ≤ u ∧ u ≤ 16) (ht : u = 0 ∨ P2 (u - 1) ≤ g (k - 1)) (hx2 : k = 0 ∨ g (k - 1) < P2 u) (ls : Array Slot) (H : Heap) (locs : List Loc), lv_has ls 2 [(0, .ref h), (1, .int (iI u))] → va_P D classes [(h, .inr (7, [.ref a, .int (iI k)])), (a, .inl (E.1, 640, .inl (ia g)))] H → va_D A [(h, .inr (7, [.ref a, .int (iI k)])), (a, .inl (E.1, 640, .inl (ia g)))] → va_S A s.heap H locs → W p l e (rmK 0 0 0 0) s m args below meth c H locs 0 0 Q (F0 m 31 ls []) := by
    intro u hu ht hx2 ls H locs hl hP hD hS
    refine lv_aload_n hx hb d_Big_bits_31 rfl (lv_at hl 0 rfl) ?_
    refine wk_get B hP 0 rfl fl_Big_13 (v := .int (iI k)) rfl d_Big_bits_32 ?_
    refine wi_if_ne (tgt := 42) hx hb d_Big_bits_35 (by decide) (by omega) (fun c_1 => ?_) (fun c_1 => ?_)
    · skip
      refine wi_bipush hx hb d_Big_bits_42 (by decide) ?_
      refine lv_aload_n hx hb d_Big_bits_44 rfl (lv_at hl 0 rfl) ?_
      refine wk_get B hP 0 rfl fl_Big_13 (v := .int (iI k)) rfl d_Big_bits_45 ?_
      refine wi_iconst (n := 1) hx hb d_Big_bits_48 ?_
      refine wi_isub hx hb d_Big_bits_49 ?_
      refine wi_imul hx hb d_Big_bits_50 ?_
      refine lv_iload_n hx hb d_Big_bits_51 rfl (lv_at hl 1 rfl) ?_
      refine wi_iadd hx hb d_Big_bits_52 ?_
      exact ret (16 * (k - 1) + u) _ _ _ _ d_Big_bits_53 (show (BL v (16 * (k - 1) + u)) ∧ (0 ≤ (16 * (k - 1) + u) ∧ (16 * (k - 1) + u) ≤ 10240) from ⟨bb_end hN (by omega) hu ht (hx2.resolve_left (by omega)), by omega⟩) (hP.sub [0, 1] rfl) (hD.sub [0, 1] (by decide) rfl) hS
    · skip
      refine wi_iconst (n := 0) hx hb d_Big_bits_38 ?_
      refine lv_goto (tgt := 53) hx hb d_Big_bits_39 (by decide) ?_
      exact ret 0 _ _ _ _ d_Big_bits_53 (show (BL v 0) ∧ (0 ≤ 0 ∧ 0 ≤ 10240) from ⟨Or.inl ⟨hN.zero.mp (by omega), rfl⟩, by omega⟩) (hP.sub [0, 1] rfl) (hD.sub [0, 1] (by decide) rfl) hS
  have K_2 : ∀ (fuel2 : Nat) (u : Int) (hu : 0 ≤ u ∧ u ≤ 16) (ht : u = 0 ∨ P2 (u - 1) ≤ g (k - 1)) (hf2 : 16 - u < (fuel2 : Int)) (ls : Array Slot) (H : Heap) (locs : List Loc), lv_has ls 2 [(0, .ref h), (1, .int (iI u))] → va_P D classes [(h, .inr (7, [.ref a, .int (iI k)])), (a, .inl (E.1, 640, .inl (ia g)))] H → va_D A [(h, .inr (7, [.ref a, .int (iI k)])), (a, .inl (E.1, 640, .inl (ia g)))] → va_S A s.heap H locs → W p l e (rmK 0 0 0 0) s m args below meth c H locs 0 0 Q (F0 m 2 ls []) := by
    intro fuel2
    induction fuel2 with
    | zero =>
      intro u hu ht hf2 ls H locs hl hP hD hS
      exfalso; omega
    | succ fuel2 ih2 =>
      intro u hu ht hf2 ls H locs hl hP hD hS
      refine lv_aload_n hx hb d_Big_bits_2 rfl (lv_at hl 0 rfl) ?_
      refine wk_get B hP 0 rfl fl_Big_13 (v := .int (iI k)) rfl d_Big_bits_3 ?_
      refine wi_if_le (tgt := 31) hx hb d_Big_bits_6 (by decide) (by omega) (fun c_2 => ?_) (fun c_2 => ?_)
      · skip
        exact K_31 u (by omega) (ht) (Or.inl (by omega)) _ _ _ (lv_sub hl [0, 1] rfl) (hP.sub [0, 1] rfl) (hD.sub [0, 1] (by decide) rfl) hS
      · skip
        have hd1 := hN.2.1 (k - 1) (by omega) (by omega)
        have hp2 := P2_pos u
        refine lv_aload_n hx hb d_Big_bits_9 rfl (lv_at hl 0 rfl) ?_
        refine wk_get B hP 0 rfl fl_Big_7 (v := .ref a) rfl d_Big_bits_10 ?_
        refine lv_aload_n hx hb d_Big_bits_13 rfl (lv_at hl 0 rfl) ?_
        refine wk_get B hP 0 rfl fl_Big_13 (v := .int (iI k)) rfl d_Big_bits_14 ?_
        refine wi_iconst (n := 1) hx hb d_Big_bits_17 ?_
        refine wi_isub hx hb d_Big_bits_18 ?_
        refine wi_iald hx hb hK hP 1 0 rfl rfl (by omega) (by omega) d_Big_bits_19 ?_
        refine lv_iload_n hx hb d_Big_bits_20 rfl (lv_at hl 1 rfl) ?_
        refine wi_ishr hx hb u.toNat (P2 u) (rfl) (by omega) (by omega) (by omega) d_Big_bits_21 ?_
        refine wi_if_eq (tgt := 31) hx hb d_Big_bits_22 (by decide) (bits_rng (x := g (k - 1)) (by omega) hp2) (fun c_3 => ?_) (fun c_3 => ?_)
        · skip
          exact K_31 u (by omega) (ht) (Or.inr (bits_lt hp2 c_3 hd1.1)) _ _ _ (lv_sub hl [0, 1] rfl) (hP.sub [0, 1] rfl) (hD.sub [0, 1] (by decide) rfl) hS
        · skip
          have hge := bits_ge hp2 c_3 hd1.1
          have hu16 : u < 16 := by
            rcases Int.lt_or_le u 16 with q | q
            · exact q
            · have := P2_mono q; rw [P2_16] at this; omega
          refine wi_iinc (v := u + 1) (lv' := [(1, .int (iI (u + 1))), (0, .ref h)]) hx hb d_Big_bits_25 hl (k := 1) rfl rfl (by decide) rfl (fun ls hl => ?_)
          refine lv_goto (tgt := 2) hx hb d_Big_bits_28 (by decide) ?_
          exact ih2 (u + 1) (by omega) (Or.inr (by rw [show u + 1 - 1 = u by omega]; exact hge)) (by omega) _ _ _ (lv_sub hl [1, 0] rfl) (hP.sub [0, 1] rfl) (hD.sub [0, 1] (by decide) rfl) hS
  refine wi_iconst (n := 0) hx hb d_Big_bits_0 ?_
  refine lv_istore_n (lv' := [(1, .int (iI 0)), (0, .ref h)]) hx hb d_Big_bits_1 rfl hl (by decide) rfl (fun ls hl => ?_)
  exact K_2 ((16 - 0 : Int).toNat + 1) 0 (by omega) (Or.inl rfl) (by omega) _ _ _ (lv_sub hl [1, 0] rfl) (hP.sub [0, 1] rfl) (hD.sub [0, 1] (by decide) rfl) hS
set_option maxHeartbeats 4000000 in
set_option maxRecDepth 100000 in
theorem c_Big_isOne (l : Launch) (D : va_G) (E : EVt) (h : Nat) (a : Nat) (g : Int → Int) (k : Int) (v : Int) (hN : BigOK g k v) : CT l D classes (tyl E) (EVX E) y_Big_isOne (Cond.code y_Big_isOne b_Big_isOne 1 (some .boolean) :: TB) (rmK 0 0 0 0) 0 0 [.ref h] [(h, .inr (7, [.ref a, .int (iI k)])), (a, .inl (E.1, 640, .inl (ia g)))] (S := Bool) (fun _ => [(h, .inr (7, [.ref a, .int (iI k)])), (a, .inl (E.1, 640, .inl (ia g)))]) (fun u => some (.int (bI u))) (fun u => (u = true ↔ v = 1)) := by
  refine CT.ofz (fv := fun (u : Bool) => u) (eok E) (by decide) rfl (Nat.le_of_ble_eq_true rfl) ?_
  intro p e s m args below meth c A Q ls B hmn hP hD hS hl ret
  have B : Bd l D classes (tyl E) (EVX E) p m c b_Big_isOne 1 s args (Cond.code y_Big_isOne b_Big_isOne 1 (some .boolean) :: TB) R_Big A := B
  obtain ⟨⟨hx, hb, hml, hown, hts⟩, hX, hK, hE, hA⟩ := id B
  have hl : lv_has ls 1 [(0, .ref h)] := hl
  have hP : va_P D classes [(h, .inr (7, [.ref a, .int (iI k)])), (a, .inl (E.1, 640, .inl (ia g)))] s.heap := hP
  have hD : va_D A [(h, .inr (7, [.ref a, .int (iI k)])), (a, .inl (E.1, 640, .inl (ia g)))] := hD
  have hk := hN.k
  have hone := b_one hN
  refine lv_aload_n hx hb d_Big_isOne_0 rfl (lv_at hl 0 rfl) ?_
  refine wk_get B hP 0 rfl fl_Big_13 (v := .int (iI k)) rfl d_Big_isOne_1 ?_
  refine wi_iconst (n := 1) hx hb d_Big_isOne_4 ?_
  refine wi_icmp_ne (tgt := 22) hx hb d_Big_isOne_5 (by decide) (by omega) (by omega) (fun c_1 => ?_) (fun c_1 => ?_)
  · skip
    refine wi_iconst (n := 0) hx hb d_Big_isOne_22 ?_
    refine w_as0 ?_
    exact ret false _ _ _ _ d_Big_isOne_23 (show (false = true ↔ v = 1) from (⟨fun z => (by cases z), fun z => by have q := hone.mpr z; first | (exact absurd q.1 (by omega)) | (exact absurd q.2 (by omega))⟩)) (hP.sub [0, 1] rfl) (hD.sub [0, 1] (by decide) rfl) hS
  · skip
    have hd1 := hN.2.1 0 (by omega) (by omega)
    refine lv_aload_n hx hb d_Big_isOne_8 rfl (lv_at hl 0 rfl) ?_
    refine wk_get B hP 0 rfl fl_Big_7 (v := .ref a) rfl d_Big_isOne_9 ?_
    refine wi_iconst (n := 0) hx hb d_Big_isOne_12 ?_
    refine wi_iald hx hb hK hP 1 0 rfl rfl (by omega) (by omega) d_Big_isOne_13 ?_
    refine wi_iconst (n := 1) hx hb d_Big_isOne_14 ?_
    refine wi_icmp_ne (tgt := 22) hx hb d_Big_isOne_15 (by decide) (by omega) (by omega) (fun c_2 => ?_) (fun c_2 => ?_)
    · skip
      refine wi_iconst (n := 0) hx hb d_Big_isOne_22 ?_
      refine w_as0 ?_
      exact ret false _ _ _ _ d_Big_isOne_23 (show (false = true ↔ v = 1) from (⟨fun z => (by cases z), fun z => by have q := hone.mpr z; first | (exact absurd q.1 (by omega)) | (exact absurd q.2 (by omega))⟩)) (hP.sub [0, 1] rfl) (hD.sub [0, 1] (by decide) rfl) hS
    · skip
      refine wi_iconst (n := 1) hx hb d_Big_isOne_18 ?_
      refine lv_goto (tgt := 23) hx hb d_Big_isOne_19 (by decide) ?_
      refine w_as1 ?_
      exact ret true _ _ _ _ d_Big_isOne_23 (show (true = true ↔ v = 1) from (⟨fun _ => hone.mp ⟨by omega, by omega⟩, fun _ => rfl⟩)) (hP.sub [0, 1] rfl) (hD.sub [0, 1] (by decide) rfl) hS
set_option maxHeartbeats 4000000 in
set_option maxRecDepth 100000 in
theorem c_Big_grow (l : Launch) (D : va_G) (E : EVt) (h : Nat) (a : Nat) (g : Int → Int) (k : Int) (x : Int) (y : Int) (v : Int) (hN : BigOK g k v) (hx1 : 1 ≤ x ∧ x < 65536) (hy1 : 0 ≤ y ∧ y < 65536) (hf1 : v * x + y < QB 640) : CT l D classes (tyl E) (EVX E) y_Big_grow (Cond.code y_Big_grow b_Big_grow 8 none :: TB) (rmK 0 0 0 0) 0 0 [.ref h, .int (iI x), .int (iI y)] [(h, .inr (7, [.ref a, .int (iI k)])), (a, .inl (E.1, 640, .inl (ia g)))] (S := (Int → Int) × Int) (fun u => [(h, .inr (7, [.ref a, .int (iI u.2)])), (a, .inl (E.1, 640, .inl (ia u.1)))]) (fun _ => none) (fun u => (BigOK u.1 u.2 (v * x + y))) := by
  refine CT.ofv (eok E) (by decide) rfl (Nat.le_of_ble_eq_true rfl) ?_
  intro p e s m args below meth c A Q ls B hmn hP hD hS hl ret
  have B : Bd l D classes (tyl E) (EVX E) p m c b_Big_grow 8 s args (Cond.code y_Big_grow b_Big_grow 8 none :: TB) R_Big A := B
  obtain ⟨⟨hx, hb, hml, hown, hts⟩, hX, hK, hE, hA⟩ := id B
  have hl : lv_has ls 8 [(0, .ref h), (1, .int (iI x)), (2, .int (iI y))] := hl
  have hP : va_P D classes [(h, .inr (7, [.ref a, .int (iI k)])), (a, .inl (E.1, 640, .inl (ia g)))] s.heap := hP
  have hD : va_D A [(h, .inr (7, [.ref a, .int (iI k)])), (a, .inl (E.1, 640, .inl (ia g)))] := hD
  have hk := hN.k
  have K_56 : ∀ (fuel56 : Nat) (cy : Int) (k1 : Int) (g1 : Int → Int) (hG : GRE g1 k1 cy (v * x + y)) (hf56 : cy < (fuel56 : Int)) (ls : Array Slot) (H : Heap) (locs : List Loc), lv_has ls 8 [(0, .ref h), (3, .long (lI cy))] → va_P D classes [(h, .inr (7, [.ref a, .int (iI k1)])), (a, .inl (E.1, 640, .inl (ia g1)))] H → va_D A [(h, .inr (7, [.ref a, .int (iI k1)])), (a, .inl (E.1, 640, .inl (ia g1)))] → va_S A s.heap H locs → W p l e (rmK 0 0 0 0) s m args below meth c H locs 0 0 Q (F0 m 56 ls []) := by
    intro fuel56
    induction fuel56 with
    | zero =>
      intro cy k1 g1 hG hf56 ls H locs hl hP hD hS
      have := hG.1; exfalso; omega
    | succ fuel56 ih56 =>
      intro cy k1 g1 hG hf56 ls H locs hl hP hD hS
      have hcy := hG.1
      refine lv_lload_n hx hb d_Big_grow_56 rfl (lv_at hl 1 rfl) ?_
      refine wi_lconst (z := 0) hx hb d_Big_grow_57 (by decide) ?_
      refine wi_lcmp hx hb (by omega) (by omega) d_Big_grow_58 ?_
      refine wi_if_le (tgt := 95) hx hb d_Big_grow_59 (by decide) (by have := cmpZ_rng cy 0; omega) (fun c_1 => ?_) (fun c_1 => ?_)
      · skip
        have c_1 := cmpZ_le.mp c_1
        exact ret (g1, k1) _ _ _ _ d_Big_grow_95 (show (BigOK g1 k1 (v * x + y)) from (hG.2.1 (by omega))) (hP.sub [0, 1] rfl) (hD.sub [0, 1] (by decide) rfl) hS
      · skip
        have c_1 := cmpZ_gt.mp c_1
        have hk1 := (hG.2.2 (by omega)).1
        have hk2 := (hG.2.2 (by omega)).2.1
        refine lv_aload_n hx hb d_Big_grow_62 rfl (lv_at hl 0 rfl) ?_
        refine wk_get B hP 0 rfl fl_Big_7 (v := .ref a) rfl d_Big_grow_63 ?_
        refine lv_aload_n hx hb d_Big_grow_66 rfl (lv_at hl 0 rfl) ?_
        refine wk_get B hP 0 rfl fl_Big_13 (v := .int (iI k1)) rfl d_Big_grow_67 ?_
        refine lv_lload_n hx hb d_Big_grow_70 rfl (lv_at hl 1 rfl) ?_
        refine wi_ldc2 hx hb 65535 hown (tb_h hts tw_Big_constantLong_17) (by decide) d_Big_grow_71 ?_
        refine wi_lmask hx hb 16 65536 (by decide +kernel) (by decide) (by decide) d_Big_grow_74 ?_
        refine wi_l2i hx hb d_Big_grow_75 ?_
        refine wi_iast hx hb hK hP hD hS 1 0 rfl rfl (by omega) (by omega) d_Big_grow_76 (fun H locs hP hD hS => ?_)
        have hP : va_P D classes [(h, .inr (7, [.ref a, .int (iI k1)])), (a, .inl (E.1, 640, .inl (ia (upZ g1 k1 (cy % 65536)))))] H := hP
        have hD : va_D A [(h, .inr (7, [.ref a, .int (iI k1)])), (a, .inl (E.1, 640, .inl (ia (upZ g1 k1 (cy % 65536)))))] := hD
        refine lv_aload_n hx hb d_Big_grow_77 rfl (lv_at hl 0 rfl) ?_
        refine lv_dup hx hb d_Big_grow_78 rfl ?_
        refine wk_get B hP 0 rfl fl_Big_13 (v := .int (iI k1)) rfl d_Big_grow_79 ?_
        refine wi_iconst (n := 1) hx hb d_Big_grow_82 ?_
        refine wi_iadd hx hb d_Big_grow_83 ?_
        refine wk_put B hP hD hS 0 rfl fl_Big_13 fp_Big_1 (v := .int (iI (k1 + 1))) rfl rfl (Nat.le_of_ble_eq_true rfl) d_Big_grow_84 (fun H locs hP hD hS => ?_)
        have hP : va_P D classes [(h, .inr (7, [.ref a, .int (iI (k1 + 1))])), (a, .inl (E.1, 640, .inl (ia (upZ g1 k1 (cy % 65536)))))] H := hP
        have hD : va_D A [(h, .inr (7, [.ref a, .int (iI (k1 + 1))])), (a, .inl (E.1, 640, .inl (ia (upZ g1 k1 (cy % 65536)))))] := hD
        refine lv_lload_n hx hb d_Big_grow_87 rfl (lv_at hl 1 rfl) ?_
        refine wi_bipush hx hb d_Big_grow_88 (by decide) ?_
        refine wi_lshr hx hb 16 65536 (by decide +kernel) rfl (by decide) (by omega) d_Big_grow_90 ?_
        refine lv_lstore_n (lv' := [(3, .long (lI (cy / 65536))), (0, .ref h)]) hx hb d_Big_grow_91 rfl hl (by decide) rfl (fun ls hl => ?_)
        refine lv_goto (tgt := 56) hx hb d_Big_grow_92 (by decide) ?_
        exact ih56 (cy / 65536) (k1 + 1) (upZ g1 k1 (cy % 65536)) (GRE_s hG (by omega)) (by omega) _ _ _ (lv_sub hl [1, 0] rfl) (hP.sub [0, 1] rfl) (hD.sub [0, 1] (by decide) rfl) hS
  have K_6 : ∀ (fuel6 : Nat) (i : Int) (cy : Int) (g1 : Int → Int) (ht : GRI g k x y g1 i cy) (hf6 : k - i < (fuel6 : Int)) (ls : Array Slot) (H : Heap) (locs : List Loc), lv_has ls 8 [(0, .ref h), (1, .int (iI x)), (3, .long (lI cy)), (5, .int (iI i))] → va_P D classes [(h, .inr (7, [.ref a, .int (iI k)])), (a, .inl (E.1, 640, .inl (ia g1)))] H → va_D A [(h, .inr (7, [.ref a, .int (iI k)])), (a, .inl (E.1, 640, .inl (ia g1)))] → va_S A s.heap H locs → W p l e (rmK 0 0 0 0) s m args below meth c H locs 0 0 Q (F0 m 6 ls []) := by
    intro fuel6
    induction fuel6 with
    | zero =>
      intro i cy g1 ht hf6 ls H locs hl hP hD hS
      have := ht.1; exfalso; omega
    | succ fuel6 ih6 =>
      intro i cy g1 ht hf6 ls H locs hl hP hD hS
      obtain ⟨ht1, ht2, ht3, ht4, ht5⟩ := id ht
      refine lv_iload hx hb d_Big_grow_6 (lv_at hl 3 rfl) ?_
      refine lv_aload_n hx hb d_Big_grow_8 rfl (lv_at hl 0 rfl) ?_
      refine wk_get B hP 0 rfl fl_Big_13 (v := .int (iI k)) rfl d_Big_grow_9 ?_
      refine wi_icmp_ge (tgt := 56) hx hb d_Big_grow_12 (by decide) (by omega) (by omega) (fun c_2 => ?_) (fun c_2 => ?_)
      · skip
        exact K_56 ((cy : Int).toNat + 1) cy k g1 (GRE_of hN hx1 hy1.1 (by rw [show i = k by omega] at ht; exact ht) hf1) (by omega) _ _ _ (lv_sub hl [0, 2] rfl) (hP.sub [0, 1] rfl) (hD.sub [0, 1] (by decide) rfl) hS
      · skip
        have hr := GRI_rng hN.2.1 (by omega) ht (by omega)
        have hd1 := hN.2.1 i (by omega) (by omega)
        have hg1 := ht2 i (by omega) (by omega)
        refine lv_aload_n hx hb d_Big_grow_15 rfl (lv_at hl 0 rfl) ?_
        refine wk_get B hP 0 rfl fl_Big_7 (v := .ref a) rfl d_Big_grow_16 ?_
        refine lv_iload hx hb d_Big_grow_19 (lv_at hl 3 rfl) ?_
        refine wi_iald hx hb hK hP 1 0 rfl rfl (by omega) (by omega) d_Big_grow_21 ?_
        refine wi_i2l hx hb (by rw [hg1]; omega) d_Big_grow_22 ?_
        refine lv_iload_n hx hb d_Big_grow_23 rfl (lv_at hl 1 rfl) ?_
        refine wi_i2l hx hb (by omega) d_Big_grow_24 ?_
        refine wi_lmul hx hb d_Big_grow_25 ?_
        refine lv_lload_n hx hb d_Big_grow_26 rfl (lv_at hl 2 rfl) ?_
        refine wi_ladd hx hb d_Big_grow_27 ?_
        refine lv_lstore (lv' := [(6, .long (lI ((g1 i) * x + cy))), (0, .ref h), (1, .int (iI x)), (3, .long (lI cy)), (5, .int (iI i))]) hx hb d_Big_grow_28 hl (by decide) rfl (fun ls hl => ?_)
        refine lv_aload_n hx hb d_Big_grow_30 rfl (lv_at hl 1 rfl) ?_
        refine wk_get B hP 0 rfl fl_Big_7 (v := .ref a) rfl d_Big_grow_31 ?_
        refine lv_iload hx hb d_Big_grow_34 (lv_at hl 4 rfl) ?_
        refine lv_lload hx hb d_Big_grow_36 (lv_at hl 0 rfl) ?_
        refine wi_ldc2 hx hb 65535 hown (tb_h hts tw_Big_constantLong_17) (by decide) d_Big_grow_38 ?_
        refine wi_lmask hx hb 16 65536 (by decide +kernel) (by decide) (by decide) d_Big_grow_41 ?_
        refine wi_l2i hx hb d_Big_grow_42 ?_
        refine wi_iast hx hb hK hP hD hS 1 0 rfl rfl (by omega) (by omega) d_Big_grow_43 (fun H locs hP hD hS => ?_)
        have hP : va_P D classes [(h, .inr (7, [.ref a, .int (iI k)])), (a, .inl (E.1, 640, .inl (ia (upZ g1 i (((g1 i) * x + cy) % 65536)))))] H := hP
        have hD : va_D A [(h, .inr (7, [.ref a, .int (iI k)])), (a, .inl (E.1, 640, .inl (ia (upZ g1 i (((g1 i) * x + cy) % 65536)))))] := hD
        refine lv_lload hx hb d_Big_grow_44 (lv_at hl 0 rfl) ?_
        refine wi_bipush hx hb d_Big_grow_46 (by decide) ?_
        refine wi_lshr hx hb 16 65536 (by decide +kernel) rfl (by decide) (by omega) d_Big_grow_48 ?_
        refine lv_lstore_n (lv' := [(3, .long (lI (((g1 i) * x + cy) / 65536))), (6, .long (lI ((g1 i) * x + cy))), (0, .ref h), (1, .int (iI x)), (5, .int (iI i))]) hx hb d_Big_grow_49 rfl hl (by decide) rfl (fun ls hl => ?_)
        refine wi_iinc (v := i + 1) (lv' := [(5, .int (iI (i + 1))), (3, .long (lI (((g1 i) * x + cy) / 65536))), (6, .long (lI ((g1 i) * x + cy))), (0, .ref h), (1, .int (iI x))]) hx hb d_Big_grow_50 hl (k := 4) rfl rfl (by decide) rfl (fun ls hl => ?_)
        refine lv_goto (tgt := 6) hx hb d_Big_grow_53 (by decide) ?_
        exact ih6 (i + 1) (((g1 i) * x + cy) / 65536) (upZ g1 i (((g1 i) * x + cy) % 65536)) (by rw [Int.add_comm (g1 i * x) cy]; exact GRI_s hN.2.1 (by omega) ht (by omega)) (by omega) _ _ _ (lv_sub hl [3, 4, 1, 0] rfl) (hP.sub [0, 1] rfl) (hD.sub [0, 1] (by decide) rfl) hS
  refine lv_iload_n hx hb d_Big_grow_0 rfl (lv_at hl 2 rfl) ?_
  refine wi_i2l hx hb (by omega) d_Big_grow_1 ?_
  refine lv_lstore_n (lv' := [(3, .long (lI y)), (0, .ref h), (1, .int (iI x)), (2, .int (iI y))]) hx hb d_Big_grow_2 rfl hl (by decide) rfl (fun ls hl => ?_)
  refine wi_iconst (n := 0) hx hb d_Big_grow_3 ?_
  refine lv_istore (lv' := [(5, .int (iI 0)), (3, .long (lI y)), (0, .ref h), (1, .int (iI x)), (2, .int (iI y))]) hx hb d_Big_grow_4 hl (by decide) rfl (fun ls hl => ?_)
  exact K_6 ((k - 0 : Int).toNat + 1) 0 y g (GRI_0 hk.1 hy1) (by omega) _ _ _ (lv_sub hl [2, 3, 1, 0] rfl) (hP.sub [0, 1] rfl) (hD.sub [0, 1] (by decide) rfl) hS
set_option maxHeartbeats 4000000 in
set_option maxRecDepth 100000 in
theorem c_Big_trim (l : Launch) (D : va_G) (E : EVt) (h : Nat) (a : Nat) (g : Int → Int) (k : Int) (hn : 0 ≤ k ∧ k ≤ 640) (hd0 : Eg g k) : CT l D classes (tyl E) (EVX E) y_Big_trim (Cond.code y_Big_trim b_Big_trim 1 none :: TB) (rmK 0 0 0 0) 0 0 [.ref h] [(h, .inr (7, [.ref a, .int (iI k)])), (a, .inl (E.1, 640, .inl (ia g)))] (S := Int) (fun u => [(h, .inr (7, [.ref a, .int (iI u)])), (a, .inl (E.1, 640, .inl (ia g)))]) (fun _ => none) (fun u => (BigOK g u (MV g k))) := by
  refine CT.ofv (eok E) (by decide) rfl (Nat.le_of_ble_eq_true rfl) ?_
  intro p e s m args below meth c A Q ls B hmn hP hD hS hl ret
  have B : Bd l D classes (tyl E) (EVX E) p m c b_Big_trim 1 s args (Cond.code y_Big_trim b_Big_trim 1 none :: TB) R_Big A := B
  obtain ⟨⟨hx, hb, hml, hown, hts⟩, hX, hK, hE, hA⟩ := id B
  have hl : lv_has ls 1 [(0, .ref h)] := hl
  have hP : va_P D classes [(h, .inr (7, [.ref a, .int (iI k)])), (a, .inl (E.1, 640, .inl (ia g)))] s.heap := hP
  have hD : va_D A [(h, .inr (7, [.ref a, .int (iI k)])), (a, .inl (E.1, 640, .inl (ia g)))] := hD
  have K_0 : ∀ (fuel0 : Nat) (q : Int) (hq : 0 ≤ q ∧ q ≤ k) (hz : ∀ j : Int, q ≤ j → j < k → g j = 0) (hf0 : q < (fuel0 : Int)) (ls : Array Slot) (H : Heap) (locs : List Loc), lv_has ls 1 [(0, .ref h)] → va_P D classes [(h, .inr (7, [.ref a, .int (iI q)])), (a, .inl (E.1, 640, .inl (ia g)))] H → va_D A [(h, .inr (7, [.ref a, .int (iI q)])), (a, .inl (E.1, 640, .inl (ia g)))] → va_S A s.heap H locs → W p l e (rmK 0 0 0 0) s m args below meth c H locs 0 0 Q (F0 m 0 ls []) := by
    intro fuel0
    induction fuel0 with
    | zero =>
      intro q hq hz hf0 ls H locs hl hP hD hS
      exfalso; omega
    | succ fuel0 ih0 =>
      intro q hq hz hf0 ls H locs hl hP hD hS
      refine lv_aload_n hx hb d_Big_trim_0 rfl (lv_at hl 0 rfl) ?_
      refine wk_get B hP 0 rfl fl_Big_13 (v := .int (iI q)) rfl d_Big_trim_1 ?_
      refine wi_if_le (tgt := 34) hx hb d_Big_trim_4 (by decide) (by omega) (fun c_1 => ?_) (fun c_1 => ?_)
      · skip
        exact ret q _ _ _ _ d_Big_trim_34 (show (BigOK g q (MV g k)) from (BigOK_of hn.2 hd0 hq hz (fun _ => by first | omega | exact NOCOND18) rfl)) (hP.sub [0, 1] rfl) (hD.sub [0, 1] (by decide) rfl) hS
      · skip
        refine lv_aload_n hx hb d_Big_trim_7 rfl (lv_at hl 0 rfl) ?_
        refine wk_get B hP 0 rfl fl_Big_7 (v := .ref a) rfl d_Big_trim_8 ?_
        refine lv_aload_n hx hb d_Big_trim_11 rfl (lv_at hl 0 rfl) ?_
        refine wk_get B hP 0 rfl fl_Big_13 (v := .int (iI q)) rfl d_Big_trim_12 ?_
        refine wi_iconst (n := 1) hx hb d_Big_trim_15 ?_
        refine wi_isub hx hb d_Big_trim_16 ?_
        have hdq := hd0 (q - 1) (by omega) (by omega)
        refine wi_iald hx hb hK hP 1 0 rfl rfl (by omega) (by omega) d_Big_trim_17 ?_
        refine wi_if_ne (tgt := 34) hx hb d_Big_trim_18 (by decide) (by omega) (fun c_2 => ?_) (fun c_2 => ?_)
        · skip
          exact ret q _ _ _ _ d_Big_trim_34 (show (BigOK g q (MV g k)) from (BigOK_of hn.2 hd0 hq hz (fun _ => by first | omega | exact c_2) rfl)) (hP.sub [0, 1] rfl) (hD.sub [0, 1] (by decide) rfl) hS
        · skip
          refine lv_aload_n hx hb d_Big_trim_21 rfl (lv_at hl 0 rfl) ?_
          refine lv_dup hx hb d_Big_trim_22 rfl ?_
          refine wk_get B hP 0 rfl fl_Big_13 (v := .int (iI q)) rfl d_Big_trim_23 ?_
          refine wi_iconst (n := 1) hx hb d_Big_trim_26 ?_
          refine wi_isub hx hb d_Big_trim_27 ?_
          refine wk_put B hP hD hS 0 rfl fl_Big_13 fp_Big_1 (v := .int (iI (q - 1))) rfl rfl (Nat.le_of_ble_eq_true rfl) d_Big_trim_28 (fun H locs hP hD hS => ?_)
          have hP : va_P D classes [(h, .inr (7, [.ref a, .int (iI (q - 1))])), (a, .inl (E.1, 640, .inl (ia g)))] H := hP
          have hD : va_D A [(h, .inr (7, [.ref a, .int (iI (q - 1))])), (a, .inl (E.1, 640, .inl (ia g)))] := hD
          refine lv_goto (tgt := 0) hx hb d_Big_trim_31 (by decide) ?_
          exact ih0 (q - 1) (by omega) (fun j h1 h2 => if z : j = q - 1 then (by rw [z]; exact c_2) else hz j (by omega) h2) (by omega) _ _ _ (lv_sub hl [0] rfl) (hP.sub [0, 1] rfl) (hD.sub [0, 1] (by decide) rfl) hS
  exact K_0 ((k : Int).toNat + 1) k (by omega) (fun j h1 h2 => by omega) (by omega) _ _ _ (lv_sub hl [0] rfl) (hP.sub [0, 1] rfl) (hD.sub [0, 1] (by decide) rfl) hS
set_option maxHeartbeats 4000000 in
set_option maxRecDepth 100000 in
theorem c_Big_compare (l : Launch) (D : va_G) (E : EVt) (h : Nat) (a : Nat) (g : Int → Int) (k : Int) (h2 : Nat) (a2 : Nat) (g2 : Int → Int) (k2 : Int) (v : Int) (w : Int) (hN : BigOK g k v) (hM : BigOK g2 k2 w) : CT l D classes (tyl E) (EVX E) y_Big_compare (Cond.code y_Big_compare b_Big_compare 3 (some .int) :: TB) (rmK 0 0 0 0) 0 0 [.ref h, .ref h2] [(h, .inr (7, [.ref a, .int (iI k)])), (a, .inl (E.1, 640, .inl (ia g))), (h2, .inr (7, [.ref a2, .int (iI k2)])), (a2, .inl (E.1, 640, .inl (ia g2)))] (S := Int) (fun _ => [(h, .inr (7, [.ref a, .int (iI k)])), (a, .inl (E.1, 640, .inl (ia g))), (h2, .inr (7, [.ref a2, .int (iI k2)])), (a2, .inl (E.1, 640, .inl (ia g2)))]) (fun u => some (.int (iI u))) (fun u => (Cmp3 u v w)) := by
  refine CT.ofi (fv := fun (u : Int) => u) (eok E) (by decide) rfl (Nat.le_of_ble_eq_true rfl) ?_
  intro p e s m args below meth c A Q ls B hmn hP hD hS hl ret
  have B : Bd l D classes (tyl E) (EVX E) p m c b_Big_compare 3 s args (Cond.code y_Big_compare b_Big_compare 3 (some .int) :: TB) R_Big A := B
  obtain ⟨⟨hx, hb, hml, hown, hts⟩, hX, hK, hE, hA⟩ := id B
  have hl : lv_has ls 3 [(0, .ref h), (1, .ref h2)] := hl
  have hP : va_P D classes [(h, .inr (7, [.ref a, .int (iI k)])), (a, .inl (E.1, 640, .inl (ia g))), (h2, .inr (7, [.ref a2, .int (iI k2)])), (a2, .inl (E.1, 640, .inl (ia g2)))] s.heap := hP
  have hD : va_D A [(h, .inr (7, [.ref a, .int (iI k)])), (a, .inl (E.1, 640, .inl (ia g))), (h2, .inr (7, [.ref a2, .int (iI k2)])), (a2, .inl (E.1, 640, .inl (ia g2)))] := hD
  have hk := hN.k
  have hk2 := hM.k
  have K_35 : ∀ (fuel35 : Nat) (i : Int) (hi : -1 ≤ i ∧ i < k) (hkk : k = k2) (he : ∀ j : Int, i < j → j < k → g j = g2 j) (hf35 : i + 1 < (fuel35 : Int)) (ls : Array Slot) (H : Heap) (locs : List Loc), lv_has ls 3 [(0, .ref h), (1, .ref h2), (2, .int (iI i))] → va_P D classes [(h, .inr (7, [.ref a, .int (iI k)])), (a, .inl (E.1, 640, .inl (ia g))), (h2, .inr (7, [.ref a2, .int (iI k2)])), (a2, .inl (E.1, 640, .inl (ia g2)))] H → va_D A [(h, .inr (7, [.ref a, .int (iI k)])), (a, .inl (E.1, 640, .inl (ia g))), (h2, .inr (7, [.ref a2, .int (iI k2)])), (a2, .inl (E.1, 640, .inl (ia g2)))] → va_S A s.heap H locs → W p l e (rmK 0 0 0 0) s m args below meth c H locs 0 0 Q (F0 m 35 ls []) := by
    intro fuel35
    induction fuel35 with
    | zero =>
      intro i hi hkk he hf35 ls H locs hl hP hD hS
      exfalso; omega
    | succ fuel35 ih35 =>
      intro i hi hkk he hf35 ls H locs hl hP hD hS
      refine lv_iload_n hx hb d_Big_compare_35 rfl (lv_at hl 2 rfl) ?_
      refine wi_if_lt (tgt := 81) hx hb d_Big_compare_36 (by decide) (by omega) (fun c_1 => ?_) (fun c_1 => ?_)
      · skip
        refine wi_iconst (n := 0) hx hb d_Big_compare_81 ?_
        exact ret 0 _ _ _ _ d_Big_compare_82 (show (Cmp3 0 v w) from (Or.inr (Or.inl ⟨rfl, bc_same hN hM hkk (fun j h1 h2 => he j (by omega) h2)⟩))) (hP.sub [0, 1, 2, 3] rfl) (hD.sub [0, 1, 2, 3] (by decide) rfl) hS
      · skip
        have hd1 := hN.2.1 i (by omega) (by omega)
        have hd2 := hM.2.1 i (by omega) (by omega)
        refine lv_aload_n hx hb d_Big_compare_39 rfl (lv_at hl 0 rfl) ?_
        refine wk_get B hP 0 rfl fl_Big_7 (v := .ref a) rfl d_Big_compare_40 ?_
        refine lv_iload_n hx hb d_Big_compare_43 rfl (lv_at hl 2 rfl) ?_
        refine wi_iald hx hb hK hP 1 0 rfl rfl (by omega) (by omega) d_Big_compare_44 ?_
        refine lv_aload_n hx hb d_Big_compare_45 rfl (lv_at hl 1 rfl) ?_
        refine wk_get B hP 2 rfl fl_Big_7 (v := .ref a2) rfl d_Big_compare_46 ?_
        refine lv_iload_n hx hb d_Big_compare_49 rfl (lv_at hl 2 rfl) ?_
        refine wi_iald hx hb hK hP 3 0 rfl rfl (by omega) (by omega) d_Big_compare_50 ?_
        refine wi_icmp_eq (tgt := 75) hx hb d_Big_compare_51 (by decide) (by omega) (by omega) (fun c_2 => ?_) (fun c_2 => ?_)
        · skip
          refine wi_iinc (v := i + (-1)) (lv' := [(2, .int (iI (i + (-1)))), (0, .ref h), (1, .ref h2)]) hx hb d_Big_compare_75 hl (k := 2) rfl rfl (by decide) rfl (fun ls hl => ?_)
          refine lv_goto (tgt := 35) hx hb d_Big_compare_78 (by decide) ?_
          exact ih35 (i + (-1)) (by omega) (hkk) (fun j h1 h2 => if q : j = i then (by rw [q]; exact c_2) else he j (by omega) h2) (by omega) _ _ _ (lv_sub hl [1, 2, 0] rfl) (hP.sub [0, 1, 2, 3] rfl) (hD.sub [0, 1, 2, 3] (by decide) rfl) hS
        · skip
          refine lv_aload_n hx hb d_Big_compare_54 rfl (lv_at hl 0 rfl) ?_
          refine wk_get B hP 0 rfl fl_Big_7 (v := .ref a) rfl d_Big_compare_55 ?_
          refine lv_iload_n hx hb d_Big_compare_58 rfl (lv_at hl 2 rfl) ?_
          refine wi_iald hx hb hK hP 1 0 rfl rfl (by omega) (by omega) d_Big_compare_59 ?_
          refine lv_aload_n hx hb d_Big_compare_60 rfl (lv_at hl 1 rfl) ?_
          refine wk_get B hP 2 rfl fl_Big_7 (v := .ref a2) rfl d_Big_compare_61 ?_
          refine lv_iload_n hx hb d_Big_compare_64 rfl (lv_at hl 2 rfl) ?_
          refine wi_iald hx hb hK hP 3 0 rfl rfl (by omega) (by omega) d_Big_compare_65 ?_
          refine wi_icmp_ge (tgt := 73) hx hb d_Big_compare_66 (by decide) (by omega) (by omega) (fun c_3 => ?_) (fun c_3 => ?_)
          · skip
            refine wi_iconst (n := 1) hx hb d_Big_compare_73 ?_
            exact ret 1 _ _ _ _ d_Big_compare_74 (show (Cmp3 1 v w) from (Or.inr (Or.inr ⟨rfl, (bc_limb hN hM hkk (by omega) he).2 (by omega)⟩))) (hP.sub [0, 1, 2, 3] rfl) (hD.sub [0, 1, 2, 3] (by decide) rfl) hS
          · skip
            refine wi_iconst (n := -1) hx hb d_Big_compare_69 ?_
            refine lv_goto (tgt := 74) hx hb d_Big_compare_70 (by decide) ?_
            exact ret (-1) _ _ _ _ d_Big_compare_74 (show (Cmp3 (-1) v w) from (Or.inl ⟨rfl, (bc_limb hN hM hkk (by omega) he).1 (by omega)⟩)) (hP.sub [0, 1, 2, 3] rfl) (hD.sub [0, 1, 2, 3] (by decide) rfl) hS
  refine lv_aload_n hx hb d_Big_compare_0 rfl (lv_at hl 0 rfl) ?_
  refine wk_get B hP 0 rfl fl_Big_13 (v := .int (iI k)) rfl d_Big_compare_1 ?_
  refine lv_aload_n hx hb d_Big_compare_4 rfl (lv_at hl 1 rfl) ?_
  refine wk_get B hP 2 rfl fl_Big_13 (v := .int (iI k2)) rfl d_Big_compare_5 ?_
  refine wi_icmp_eq (tgt := 28) hx hb d_Big_compare_8 (by decide) (by omega) (by omega) (fun c_4 => ?_) (fun c_4 => ?_)
  · skip
    refine lv_aload_n hx hb d_Big_compare_28 rfl (lv_at hl 0 rfl) ?_
    refine wk_get B hP 0 rfl fl_Big_13 (v := .int (iI k)) rfl d_Big_compare_29 ?_
    refine wi_iconst (n := 1) hx hb d_Big_compare_32 ?_
    refine wi_isub hx hb d_Big_compare_33 ?_
    refine lv_istore_n (lv' := [(2, .int (iI (k - 1))), (0, .ref h), (1, .ref h2)]) hx hb d_Big_compare_34 rfl hl (by decide) rfl (fun ls hl => ?_)
    exact K_35 (((k - 1) + 1 : Int).toNat + 1) (k - 1) (by omega) (by omega) (fun j h1 h2 => by omega) (by omega) _ _ _ (lv_sub hl [1, 2, 0] rfl) (hP.sub [0, 1, 2, 3] rfl) (hD.sub [0, 1, 2, 3] (by decide) rfl) hS
  · skip
    refine lv_aload_n hx hb d_Big_compare_11 rfl (lv_at hl 0 rfl) ?_
    refine wk_get B hP 0 rfl fl_Big_13 (v := .int (iI k)) rfl d_Big_compare_12 ?_
    refine lv_aload_n hx hb d_Big_compare_15 rfl (lv_at hl 1 rfl) ?_
    refine wk_get B hP 2 rfl fl_Big_13 (v := .int (iI k2)) rfl d_Big_compare_16 ?_
    refine wi_icmp_ge (tgt := 26) hx hb d_Big_compare_19 (by decide) (by omega) (by omega) (fun c_5 => ?_) (fun c_5 => ?_)
    · skip
      refine wi_iconst (n := 1) hx hb d_Big_compare_26 ?_
      exact ret 1 _ _ _ _ d_Big_compare_27 (show (Cmp3 1 v w) from (Or.inr (Or.inr ⟨rfl, (bc_size hN hM c_4).2 (by omega)⟩))) (hP.sub [0, 1, 2, 3] rfl) (hD.sub [0, 1, 2, 3] (by decide) rfl) hS
    · skip
      refine wi_iconst (n := -1) hx hb d_Big_compare_22 ?_
      refine lv_goto (tgt := 27) hx hb d_Big_compare_23 (by decide) ?_
      exact ret (-1) _ _ _ _ d_Big_compare_27 (show (Cmp3 (-1) v w) from (Or.inl ⟨rfl, (bc_size hN hM c_4).1 (by omega)⟩)) (hP.sub [0, 1, 2, 3] rfl) (hD.sub [0, 1, 2, 3] (by decide) rfl) hS
