/-! Model: put, putText, putNumber, putExact, small ones -/
abbrev b_Mo_put : ByteArray := prog_9_method_35_code
def y_Mo_put : MethodName := ⟨"IntervalTextModel", "put", "(I)V"⟩
abbrev b_Mo_putText : ByteArray := prog_9_method_36_code
def y_Mo_putText : MethodName := ⟨"IntervalTextModel", "putText", "(Ljava/lang/String;)V"⟩
abbrev b_Mo_putNumber : ByteArray := prog_9_method_37_code
def y_Mo_putNumber : MethodName := ⟨"IntervalTextModel", "putNumber", "(J)V"⟩
abbrev b_Mo_putExact : ByteArray := prog_9_method_41_code
def y_Mo_putExact : MethodName := ⟨"IntervalTextModel", "putExact", "(J)V"⟩
abbrev b_Mo_isInfinite : ByteArray := prog_9_method_10_code
def y_Mo_isInfinite : MethodName := ⟨"IntervalTextModel", "isInfinite", "(J)Z"⟩
abbrev b_Mo_isBounded : ByteArray := prog_9_method_11_code
def y_Mo_isBounded : MethodName := ⟨"IntervalTextModel", "isBounded", "()Z"⟩
abbrev b_Mo_strongest : ByteArray := prog_9_method_12_code
def y_Mo_strongest : MethodName := ⟨"IntervalTextModel", "strongest", "()I"⟩
abbrev b_Mo_mayBe : ByteArray := prog_9_method_13_code
def y_Mo_mayBe : MethodName := ⟨"IntervalTextModel", "mayBe", "(JZ)Z"⟩
abbrev b_Mo_plainZero : ByteArray := prog_9_method_14_code
def y_Mo_plainZero : MethodName := ⟨"IntervalTextModel", "plainZero", "(J)J"⟩
abbrev b_Mo_low : ByteArray := prog_9_method_27_code
def y_Mo_low : MethodName := ⟨"IntervalTextModel", "low", "()J"⟩
abbrev b_Mo_high : ByteArray := prog_9_method_28_code
def y_Mo_high : MethodName := ⟨"IntervalTextModel", "high", "()J"⟩
theorem d_Mo_put_0 : decode b_Mo_put 0 = .ok (.aload_n 0, 1) := by decide +kernel
theorem d_Mo_put_1 : decode b_Mo_put 1 = .ok (.getfield 111, 3) := by decide +kernel
theorem d_Mo_put_4 : decode b_Mo_put 4 = .ok (.aload_n 0, 1) := by decide +kernel
theorem d_Mo_put_5 : decode b_Mo_put 5 = .ok (.getfield 286, 3) := by decide +kernel
theorem d_Mo_put_8 : decode b_Mo_put 8 = .ok (.iload_n 1, 1) := by decide +kernel
theorem d_Mo_put_9 : decode b_Mo_put 9 = .ok (.iastore, 1) := by decide +kernel
theorem d_Mo_put_10 : decode b_Mo_put 10 = .ok (.aload_n 0, 1) := by decide +kernel
theorem d_Mo_put_11 : decode b_Mo_put 11 = .ok (.dup, 1) := by decide +kernel
theorem d_Mo_put_12 : decode b_Mo_put 12 = .ok (.getfield 286, 3) := by decide +kernel
theorem d_Mo_put_15 : decode b_Mo_put 15 = .ok (.iconst 1, 1) := by decide +kernel
theorem d_Mo_put_16 : decode b_Mo_put 16 = .ok (.iadd, 1) := by decide +kernel
theorem d_Mo_put_17 : decode b_Mo_put 17 = .ok (.putfield 286, 3) := by decide +kernel
theorem d_Mo_put_20 : decode b_Mo_put 20 = .ok (.return_, 1) := by decide +kernel
theorem d_Mo_putText_0 : decode b_Mo_putText 0 = .ok (.iconst 0, 1) := by decide +kernel
theorem d_Mo_putText_1 : decode b_Mo_putText 1 = .ok (.istore_n 2, 1) := by decide +kernel
theorem d_Mo_putText_2 : decode b_Mo_putText 2 = .ok (.iload_n 2, 1) := by decide +kernel
theorem d_Mo_putText_3 : decode b_Mo_putText 3 = .ok (.aload_n 1, 1) := by decide +kernel
theorem d_Mo_putText_4 : decode b_Mo_putText 4 = .ok (.invokevirtual 160, 3) := by decide +kernel
theorem d_Mo_putText_7 : decode b_Mo_putText 7 = .ok (.if_icmp .ge 18, 3) := by decide +kernel
theorem d_Mo_putText_10 : decode b_Mo_putText 10 = .ok (.aload_n 0, 1) := by decide +kernel
theorem d_Mo_putText_11 : decode b_Mo_putText 11 = .ok (.aload_n 1, 1) := by decide +kernel
theorem d_Mo_putText_12 : decode b_Mo_putText 12 = .ok (.iload_n 2, 1) := by decide +kernel
theorem d_Mo_putText_13 : decode b_Mo_putText 13 = .ok (.invokevirtual 165, 3) := by decide +kernel
theorem d_Mo_putText_16 : decode b_Mo_putText 16 = .ok (.invokevirtual 289, 3) := by decide +kernel
theorem d_Mo_putText_19 : decode b_Mo_putText 19 = .ok (.iinc 2 1, 3) := by decide +kernel
theorem d_Mo_putText_22 : decode b_Mo_putText 22 = .ok (.goto (-20), 3) := by decide +kernel
theorem d_Mo_putText_25 : decode b_Mo_putText 25 = .ok (.return_, 1) := by decide +kernel
theorem d_Mo_putNumber_0 : decode b_Mo_putNumber 0 = .ok (.lload_n 1, 1) := by decide +kernel
theorem d_Mo_putNumber_1 : decode b_Mo_putNumber 1 = .ok (.lstore_n 3, 1) := by decide +kernel
theorem d_Mo_putNumber_2 : decode b_Mo_putNumber 2 = .ok (.lload_n 3, 1) := by decide +kernel
theorem d_Mo_putNumber_3 : decode b_Mo_putNumber 3 = .ok (.lconst 0, 1) := by decide +kernel
theorem d_Mo_putNumber_4 : decode b_Mo_putNumber 4 = .ok (.lcmp, 1) := by decide +kernel
theorem d_Mo_putNumber_5 : decode b_Mo_putNumber 5 = .ok (.ifCond .ge 12, 3) := by decide +kernel
theorem d_Mo_putNumber_8 : decode b_Mo_putNumber 8 = .ok (.aload_n 0, 1) := by decide +kernel
theorem d_Mo_putNumber_9 : decode b_Mo_putNumber 9 = .ok (.bipush 45, 2) := by decide +kernel
theorem d_Mo_putNumber_11 : decode b_Mo_putNumber 11 = .ok (.invokevirtual 289, 3) := by decide +kernel
theorem d_Mo_putNumber_14 : decode b_Mo_putNumber 14 = .ok (.lload_n 3, 1) := by decide +kernel
theorem d_Mo_putNumber_15 : decode b_Mo_putNumber 15 = .ok (.lneg, 1) := by decide +kernel
theorem d_Mo_putNumber_16 : decode b_Mo_putNumber 16 = .ok (.lstore_n 3, 1) := by decide +kernel
theorem d_Mo_putNumber_17 : decode b_Mo_putNumber 17 = .ok (.lconst 1, 1) := by decide +kernel
theorem d_Mo_putNumber_18 : decode b_Mo_putNumber 18 = .ok (.lstore 5, 2) := by decide +kernel
theorem d_Mo_putNumber_20 : decode b_Mo_putNumber 20 = .ok (.lload_n 3, 1) := by decide +kernel
theorem d_Mo_putNumber_21 : decode b_Mo_putNumber 21 = .ok (.lload 5, 2) := by decide +kernel
theorem d_Mo_putNumber_23 : decode b_Mo_putNumber 23 = .ok (.ldiv, 1) := by decide +kernel
theorem d_Mo_putNumber_24 : decode b_Mo_putNumber 24 = .ok (.ldc2_w 292, 3) := by decide +kernel
theorem d_Mo_putNumber_27 : decode b_Mo_putNumber 27 = .ok (.lcmp, 1) := by decide +kernel
theorem d_Mo_putNumber_28 : decode b_Mo_putNumber 28 = .ok (.ifCond .le 14, 3) := by decide +kernel
theorem d_Mo_putNumber_31 : decode b_Mo_putNumber 31 = .ok (.ldc2_w 294, 3) := by decide +kernel
theorem d_Mo_putNumber_34 : decode b_Mo_putNumber 34 = .ok (.lload 5, 2) := by decide +kernel
theorem d_Mo_putNumber_36 : decode b_Mo_putNumber 36 = .ok (.lmul, 1) := by decide +kernel
theorem d_Mo_putNumber_37 : decode b_Mo_putNumber 37 = .ok (.lstore 5, 2) := by decide +kernel
theorem d_Mo_putNumber_39 : decode b_Mo_putNumber 39 = .ok (.goto (-19), 3) := by decide +kernel
theorem d_Mo_putNumber_42 : decode b_Mo_putNumber 42 = .ok (.lload 5, 2) := by decide +kernel
theorem d_Mo_putNumber_44 : decode b_Mo_putNumber 44 = .ok (.lconst 0, 1) := by decide +kernel
theorem d_Mo_putNumber_45 : decode b_Mo_putNumber 45 = .ok (.lcmp, 1) := by decide +kernel
theorem d_Mo_putNumber_46 : decode b_Mo_putNumber 46 = .ok (.ifCond .le 31, 3) := by decide +kernel
theorem d_Mo_putNumber_49 : decode b_Mo_putNumber 49 = .ok (.aload_n 0, 1) := by decide +kernel
theorem d_Mo_putNumber_50 : decode b_Mo_putNumber 50 = .ok (.ldc2_w 296, 3) := by decide +kernel
theorem d_Mo_putNumber_53 : decode b_Mo_putNumber 53 = .ok (.lload_n 3, 1) := by decide +kernel
theorem d_Mo_putNumber_54 : decode b_Mo_putNumber 54 = .ok (.lload 5, 2) := by decide +kernel
theorem d_Mo_putNumber_56 : decode b_Mo_putNumber 56 = .ok (.ldiv, 1) := by decide +kernel
theorem d_Mo_putNumber_57 : decode b_Mo_putNumber 57 = .ok (.ldc2_w 294, 3) := by decide +kernel
theorem d_Mo_putNumber_60 : decode b_Mo_putNumber 60 = .ok (.lrem, 1) := by decide +kernel
theorem d_Mo_putNumber_61 : decode b_Mo_putNumber 61 = .ok (.ladd, 1) := by decide +kernel
theorem d_Mo_putNumber_62 : decode b_Mo_putNumber 62 = .ok (.l2i, 1) := by decide +kernel
theorem d_Mo_putNumber_63 : decode b_Mo_putNumber 63 = .ok (.invokevirtual 289, 3) := by decide +kernel
theorem d_Mo_putNumber_66 : decode b_Mo_putNumber 66 = .ok (.lload 5, 2) := by decide +kernel
theorem d_Mo_putNumber_68 : decode b_Mo_putNumber 68 = .ok (.ldc2_w 294, 3) := by decide +kernel
theorem d_Mo_putNumber_71 : decode b_Mo_putNumber 71 = .ok (.ldiv, 1) := by decide +kernel
theorem d_Mo_putNumber_72 : decode b_Mo_putNumber 72 = .ok (.lstore 5, 2) := by decide +kernel
theorem d_Mo_putNumber_74 : decode b_Mo_putNumber 74 = .ok (.goto (-32), 3) := by decide +kernel
theorem d_Mo_putNumber_77 : decode b_Mo_putNumber 77 = .ok (.return_, 1) := by decide +kernel
theorem d_Mo_putExact_0 : decode b_Mo_putExact 0 = .ok (.lload_n 1, 1) := by decide +kernel
theorem d_Mo_putExact_1 : decode b_Mo_putExact 1 = .ok (.bipush 52, 2) := by decide +kernel
theorem d_Mo_putExact_3 : decode b_Mo_putExact 3 = .ok (.lushr, 1) := by decide +kernel
theorem d_Mo_putExact_4 : decode b_Mo_putExact 4 = .ok (.lstore_n 3, 1) := by decide +kernel
theorem d_Mo_putExact_5 : decode b_Mo_putExact 5 = .ok (.aload_n 0, 1) := by decide +kernel
theorem d_Mo_putExact_6 : decode b_Mo_putExact 6 = .ok (.lload_n 3, 1) := by decide +kernel
theorem d_Mo_putExact_7 : decode b_Mo_putExact 7 = .ok (.lconst 0, 1) := by decide +kernel
theorem d_Mo_putExact_8 : decode b_Mo_putExact 8 = .ok (.lcmp, 1) := by decide +kernel
theorem d_Mo_putExact_9 : decode b_Mo_putExact 9 = .ok (.ifCond .ne 9, 3) := by decide +kernel
theorem d_Mo_putExact_12 : decode b_Mo_putExact 12 = .ok (.ldc_w 332, 3) := by decide +kernel
theorem d_Mo_putExact_15 : decode b_Mo_putExact 15 = .ok (.goto 6, 3) := by decide +kernel
theorem d_Mo_putExact_18 : decode b_Mo_putExact 18 = .ok (.ldc_w 334, 3) := by decide +kernel
theorem d_Mo_putExact_21 : decode b_Mo_putExact 21 = .ok (.invokevirtual 310, 3) := by decide +kernel
theorem d_Mo_putExact_24 : decode b_Mo_putExact 24 = .ok (.bipush 48, 2) := by decide +kernel
theorem d_Mo_putExact_26 : decode b_Mo_putExact 26 = .ok (.istore 5, 2) := by decide +kernel
theorem d_Mo_putExact_28 : decode b_Mo_putExact 28 = .ok (.iload 5, 2) := by decide +kernel
theorem d_Mo_putExact_30 : decode b_Mo_putExact 30 = .ok (.ifCond .lt 44, 3) := by decide +kernel
theorem d_Mo_putExact_33 : decode b_Mo_putExact 33 = .ok (.lload_n 1, 1) := by decide +kernel
theorem d_Mo_putExact_34 : decode b_Mo_putExact 34 = .ok (.iload 5, 2) := by decide +kernel
theorem d_Mo_putExact_36 : decode b_Mo_putExact 36 = .ok (.lushr, 1) := by decide +kernel
theorem d_Mo_putExact_37 : decode b_Mo_putExact 37 = .ok (.ldc2_w 336, 3) := by decide +kernel
theorem d_Mo_putExact_40 : decode b_Mo_putExact 40 = .ok (.land, 1) := by decide +kernel
theorem d_Mo_putExact_41 : decode b_Mo_putExact 41 = .ok (.l2i, 1) := by decide +kernel
theorem d_Mo_putExact_42 : decode b_Mo_putExact 42 = .ok (.istore 6, 2) := by decide +kernel
theorem d_Mo_putExact_44 : decode b_Mo_putExact 44 = .ok (.aload_n 0, 1) := by decide +kernel
theorem d_Mo_putExact_45 : decode b_Mo_putExact 45 = .ok (.iload 6, 2) := by decide +kernel
theorem d_Mo_putExact_47 : decode b_Mo_putExact 47 = .ok (.bipush 10, 2) := by decide +kernel
theorem d_Mo_putExact_49 : decode b_Mo_putExact 49 = .ok (.if_icmp .ge 11, 3) := by decide +kernel
theorem d_Mo_putExact_52 : decode b_Mo_putExact 52 = .ok (.bipush 48, 2) := by decide +kernel
theorem d_Mo_putExact_54 : decode b_Mo_putExact 54 = .ok (.iload 6, 2) := by decide +kernel
theorem d_Mo_putExact_56 : decode b_Mo_putExact 56 = .ok (.iadd, 1) := by decide +kernel
theorem d_Mo_putExact_57 : decode b_Mo_putExact 57 = .ok (.goto 8, 3) := by decide +kernel
theorem d_Mo_putExact_60 : decode b_Mo_putExact 60 = .ok (.bipush 87, 2) := by decide +kernel
theorem d_Mo_putExact_62 : decode b_Mo_putExact 62 = .ok (.iload 6, 2) := by decide +kernel
theorem d_Mo_putExact_64 : decode b_Mo_putExact 64 = .ok (.iadd, 1) := by decide +kernel
theorem d_Mo_putExact_65 : decode b_Mo_putExact 65 = .ok (.invokevirtual 289, 3) := by decide +kernel
theorem d_Mo_putExact_68 : decode b_Mo_putExact 68 = .ok (.iinc 5 (-4), 3) := by decide +kernel
theorem d_Mo_putExact_71 : decode b_Mo_putExact 71 = .ok (.goto (-43), 3) := by decide +kernel
theorem d_Mo_putExact_74 : decode b_Mo_putExact 74 = .ok (.aload_n 0, 1) := by decide +kernel
theorem d_Mo_putExact_75 : decode b_Mo_putExact 75 = .ok (.bipush 112, 2) := by decide +kernel
theorem d_Mo_putExact_77 : decode b_Mo_putExact 77 = .ok (.invokevirtual 289, 3) := by decide +kernel
theorem d_Mo_putExact_80 : decode b_Mo_putExact 80 = .ok (.aload_n 0, 1) := by decide +kernel
theorem d_Mo_putExact_81 : decode b_Mo_putExact 81 = .ok (.lload_n 3, 1) := by decide +kernel
theorem d_Mo_putExact_82 : decode b_Mo_putExact 82 = .ok (.lconst 0, 1) := by decide +kernel
theorem d_Mo_putExact_83 : decode b_Mo_putExact 83 = .ok (.lcmp, 1) := by decide +kernel
theorem d_Mo_putExact_84 : decode b_Mo_putExact 84 = .ok (.ifCond .ne 9, 3) := by decide +kernel
theorem d_Mo_putExact_87 : decode b_Mo_putExact 87 = .ok (.ldc2_w 338, 3) := by decide +kernel
theorem d_Mo_putExact_90 : decode b_Mo_putExact 90 = .ok (.goto 8, 3) := by decide +kernel
theorem d_Mo_putExact_93 : decode b_Mo_putExact 93 = .ok (.lload_n 3, 1) := by decide +kernel
theorem d_Mo_putExact_94 : decode b_Mo_putExact 94 = .ok (.ldc2_w 340, 3) := by decide +kernel
theorem d_Mo_putExact_97 : decode b_Mo_putExact 97 = .ok (.lsub, 1) := by decide +kernel
theorem d_Mo_putExact_98 : decode b_Mo_putExact 98 = .ok (.invokevirtual 342, 3) := by decide +kernel
theorem d_Mo_putExact_101 : decode b_Mo_putExact 101 = .ok (.return_, 1) := by decide +kernel
theorem d_Mo_isInfinite_0 : decode b_Mo_isInfinite 0 = .ok (.lload_n 0, 1) := by decide +kernel
theorem d_Mo_isInfinite_1 : decode b_Mo_isInfinite 1 = .ok (.ldc2_w 55, 3) := by decide +kernel
theorem d_Mo_isInfinite_4 : decode b_Mo_isInfinite 4 = .ok (.land, 1) := by decide +kernel
theorem d_Mo_isInfinite_5 : decode b_Mo_isInfinite 5 = .ok (.ldc2_w 61, 3) := by decide +kernel
theorem d_Mo_isInfinite_8 : decode b_Mo_isInfinite 8 = .ok (.lcmp, 1) := by decide +kernel
theorem d_Mo_isInfinite_9 : decode b_Mo_isInfinite 9 = .ok (.ifCond .ne 7, 3) := by decide +kernel
theorem d_Mo_isInfinite_12 : decode b_Mo_isInfinite 12 = .ok (.iconst 1, 1) := by decide +kernel
theorem d_Mo_isInfinite_13 : decode b_Mo_isInfinite 13 = .ok (.goto 4, 3) := by decide +kernel
theorem d_Mo_isInfinite_16 : decode b_Mo_isInfinite 16 = .ok (.iconst 0, 1) := by decide +kernel
theorem d_Mo_isInfinite_17 : decode b_Mo_isInfinite 17 = .ok (.ireturn, 1) := by decide +kernel
theorem d_Mo_isBounded_0 : decode b_Mo_isBounded 0 = .ok (.aload_n 0, 1) := by decide +kernel
theorem d_Mo_isBounded_1 : decode b_Mo_isBounded 1 = .ok (.getfield 140, 3) := by decide +kernel
theorem d_Mo_isBounded_4 : decode b_Mo_isBounded 4 = .ok (.ifCond .ne 27, 3) := by decide +kernel
theorem d_Mo_isBounded_7 : decode b_Mo_isBounded 7 = .ok (.aload_n 0, 1) := by decide +kernel
theorem d_Mo_isBounded_8 : decode b_Mo_isBounded 8 = .ok (.getfield 143, 3) := by decide +kernel
theorem d_Mo_isBounded_11 : decode b_Mo_isBounded 11 = .ok (.invokestatic 146, 3) := by decide +kernel
theorem d_Mo_isBounded_14 : decode b_Mo_isBounded 14 = .ok (.ifCond .ne 17, 3) := by decide +kernel
theorem d_Mo_isBounded_17 : decode b_Mo_isBounded 17 = .ok (.aload_n 0, 1) := by decide +kernel
theorem d_Mo_isBounded_18 : decode b_Mo_isBounded 18 = .ok (.getfield 150, 3) := by decide +kernel
theorem d_Mo_isBounded_21 : decode b_Mo_isBounded 21 = .ok (.invokestatic 146, 3) := by decide +kernel
theorem d_Mo_isBounded_24 : decode b_Mo_isBounded 24 = .ok (.ifCond .ne 7, 3) := by decide +kernel
theorem d_Mo_isBounded_27 : decode b_Mo_isBounded 27 = .ok (.iconst 1, 1) := by decide +kernel
theorem d_Mo_isBounded_28 : decode b_Mo_isBounded 28 = .ok (.goto 4, 3) := by decide +kernel
theorem d_Mo_isBounded_31 : decode b_Mo_isBounded 31 = .ok (.iconst 0, 1) := by decide +kernel
theorem d_Mo_isBounded_32 : decode b_Mo_isBounded 32 = .ok (.ireturn, 1) := by decide +kernel
theorem d_Mo_strongest_0 : decode b_Mo_strongest 0 = .ok (.aload_n 0, 1) := by decide +kernel
theorem d_Mo_strongest_1 : decode b_Mo_strongest 1 = .ok (.getfield 140, 3) := by decide +kernel
theorem d_Mo_strongest_4 : decode b_Mo_strongest 4 = .ok (.ifCond .eq 7, 3) := by decide +kernel
theorem d_Mo_strongest_7 : decode b_Mo_strongest 7 = .ok (.iconst 1, 1) := by decide +kernel
theorem d_Mo_strongest_8 : decode b_Mo_strongest 8 = .ok (.goto 15, 3) := by decide +kernel
theorem d_Mo_strongest_11 : decode b_Mo_strongest 11 = .ok (.aload_n 0, 1) := by decide +kernel
theorem d_Mo_strongest_12 : decode b_Mo_strongest 12 = .ok (.invokevirtual 153, 3) := by decide +kernel
theorem d_Mo_strongest_15 : decode b_Mo_strongest 15 = .ok (.ifCond .eq 7, 3) := by decide +kernel
theorem d_Mo_strongest_18 : decode b_Mo_strongest 18 = .ok (.iconst 4, 1) := by decide +kernel
theorem d_Mo_strongest_19 : decode b_Mo_strongest 19 = .ok (.goto 4, 3) := by decide +kernel
theorem d_Mo_strongest_22 : decode b_Mo_strongest 22 = .ok (.iconst 3, 1) := by decide +kernel
theorem d_Mo_strongest_23 : decode b_Mo_strongest 23 = .ok (.ireturn, 1) := by decide +kernel
theorem d_Mo_mayBe_0 : decode b_Mo_mayBe 0 = .ok (.lload_n 0, 1) := by decide +kernel
theorem d_Mo_mayBe_1 : decode b_Mo_mayBe 1 = .ok (.ldc2_w 55, 3) := by decide +kernel
theorem d_Mo_mayBe_4 : decode b_Mo_mayBe 4 = .ok (.land, 1) := by decide +kernel
theorem d_Mo_mayBe_5 : decode b_Mo_mayBe 5 = .ok (.ldc2_w 61, 3) := by decide +kernel
theorem d_Mo_mayBe_8 : decode b_Mo_mayBe 8 = .ok (.lcmp, 1) := by decide +kernel
theorem d_Mo_mayBe_9 : decode b_Mo_mayBe 9 = .ok (.ifCond .lt 21, 3) := by decide +kernel
theorem d_Mo_mayBe_12 : decode b_Mo_mayBe 12 = .ok (.lload_n 0, 1) := by decide +kernel
theorem d_Mo_mayBe_13 : decode b_Mo_mayBe 13 = .ok (.iload_n 2, 1) := by decide +kernel
theorem d_Mo_mayBe_14 : decode b_Mo_mayBe 14 = .ok (.ifCond .eq 9, 3) := by decide +kernel
theorem d_Mo_mayBe_17 : decode b_Mo_mayBe 17 = .ok (.ldc2_w 78, 3) := by decide +kernel
theorem d_Mo_mayBe_20 : decode b_Mo_mayBe 20 = .ok (.goto 6, 3) := by decide +kernel
theorem d_Mo_mayBe_23 : decode b_Mo_mayBe 23 = .ok (.ldc2_w 61, 3) := by decide +kernel
theorem d_Mo_mayBe_26 : decode b_Mo_mayBe 26 = .ok (.lcmp, 1) := by decide +kernel
theorem d_Mo_mayBe_27 : decode b_Mo_mayBe 27 = .ok (.ifCond .ne 7, 3) := by decide +kernel
theorem d_Mo_mayBe_30 : decode b_Mo_mayBe 30 = .ok (.iconst 1, 1) := by decide +kernel
theorem d_Mo_mayBe_31 : decode b_Mo_mayBe 31 = .ok (.goto 4, 3) := by decide +kernel
theorem d_Mo_mayBe_34 : decode b_Mo_mayBe 34 = .ok (.iconst 0, 1) := by decide +kernel
theorem d_Mo_mayBe_35 : decode b_Mo_mayBe 35 = .ok (.ireturn, 1) := by decide +kernel
theorem d_Mo_plainZero_0 : decode b_Mo_plainZero 0 = .ok (.lload_n 0, 1) := by decide +kernel
theorem d_Mo_plainZero_1 : decode b_Mo_plainZero 1 = .ok (.ldc2_w 55, 3) := by decide +kernel
theorem d_Mo_plainZero_4 : decode b_Mo_plainZero 4 = .ok (.land, 1) := by decide +kernel
theorem d_Mo_plainZero_5 : decode b_Mo_plainZero 5 = .ok (.lconst 0, 1) := by decide +kernel
theorem d_Mo_plainZero_6 : decode b_Mo_plainZero 6 = .ok (.lcmp, 1) := by decide +kernel
theorem d_Mo_plainZero_7 : decode b_Mo_plainZero 7 = .ok (.ifCond .ne 7, 3) := by decide +kernel
theorem d_Mo_plainZero_10 : decode b_Mo_plainZero 10 = .ok (.lconst 0, 1) := by decide +kernel
theorem d_Mo_plainZero_11 : decode b_Mo_plainZero 11 = .ok (.goto 4, 3) := by decide +kernel
theorem d_Mo_plainZero_14 : decode b_Mo_plainZero 14 = .ok (.lload_n 0, 1) := by decide +kernel
theorem d_Mo_plainZero_15 : decode b_Mo_plainZero 15 = .ok (.lreturn, 1) := by decide +kernel
theorem d_Mo_low_0 : decode b_Mo_low 0 = .ok (.aload_n 0, 1) := by decide +kernel
theorem d_Mo_low_1 : decode b_Mo_low 1 = .ok (.getfield 116, 3) := by decide +kernel
theorem d_Mo_low_4 : decode b_Mo_low 4 = .ok (.lreturn, 1) := by decide +kernel
theorem d_Mo_high_0 : decode b_Mo_high 0 = .ok (.aload_n 0, 1) := by decide +kernel
theorem d_Mo_high_1 : decode b_Mo_high 1 = .ok (.getfield 120, 3) := by decide +kernel
theorem d_Mo_high_4 : decode b_Mo_high 4 = .ok (.lreturn, 1) := by decide +kernel
theorem fl_Mo_111 : FLink TB classes "IntervalTextModel" 111 R_Mo F_Mo 21 9 7 := ⟨rfl, by decide, i_Mo, tb_t (List.mem_append_right _ (List.mem_append_right _ (List.mem_append_left _ (List.mem_of_getElem? (l := tables_1_3) (i := 156) rfl)))) rfl⟩
theorem fl_Mo_116 : FLink TB classes "IntervalTextModel" 116 R_Mo F_Mo 21 9 8 := ⟨rfl, by decide, i_Mo, tb_t (List.mem_append_right _ (List.mem_append_right _ (List.mem_append_left _ (List.mem_of_getElem? (l := tables_1_3) (i := 157) rfl)))) rfl⟩
theorem fl_Mo_120 : FLink TB classes "IntervalTextModel" 120 R_Mo F_Mo 21 9 9 := ⟨rfl, by decide, i_Mo, tb_t (List.mem_append_right _ (List.mem_append_right _ (List.mem_append_left _ (List.mem_of_getElem? (l := tables_1_3) (i := 158) rfl)))) rfl⟩
theorem fl_Mo_140 : FLink TB classes "IntervalTextModel" 140 R_Mo F_Mo 21 9 10 := ⟨rfl, by decide, i_Mo, tb_t (List.mem_append_right _ (List.mem_append_right _ (List.mem_append_left _ (List.mem_of_getElem? (l := tables_1_3) (i := 159) rfl)))) rfl⟩
theorem fl_Mo_143 : FLink TB classes "IntervalTextModel" 143 R_Mo F_Mo 21 9 11 := ⟨rfl, by decide, i_Mo, tb_t (List.mem_append_right _ (List.mem_append_right _ (List.mem_append_left _ (List.mem_of_getElem? (l := tables_1_3) (i := 160) rfl)))) rfl⟩
theorem fl_Mo_150 : FLink TB classes "IntervalTextModel" 150 R_Mo F_Mo 21 9 12 := ⟨rfl, by decide, i_Mo, tb_t (List.mem_append_right _ (List.mem_append_right _ (List.mem_append_left _ (List.mem_of_getElem? (l := tables_1_3) (i := 161) rfl)))) rfl⟩
theorem fl_Mo_286 : FLink TB classes "IntervalTextModel" 286 R_Mo F_Mo 21 9 6 := ⟨rfl, by decide, i_Mo, tb_t (List.mem_append_right _ (List.mem_append_right _ (List.mem_append_left _ (List.mem_of_getElem? (l := tables_1_3) (i := 155) rfl)))) rfl⟩
theorem fp_Mo_6 : FPut R_Mo F_Mo 21 6 .int false := ⟨e_Mo, n_Mo, rfl, by decide +kernel⟩
theorem tw_Mo_constantLong_292 : Cond.constantLong "IntervalTextModel" 292 (9 : Int64) ∈ TB := tb_t (List.mem_append_right _ (List.mem_append_right _ (List.mem_append_right _ (List.mem_append_left _ (List.mem_of_getElem? (l := tables_1_4) (i := 220) rfl))))) rfl
theorem tw_Mo_constantLong_294 : Cond.constantLong "IntervalTextModel" 294 (10 : Int64) ∈ TB := tb_t (List.mem_append_right _ (List.mem_append_right _ (List.mem_append_right _ (List.mem_append_left _ (List.mem_of_getElem? (l := tables_1_4) (i := 221) rfl))))) rfl
theorem tw_Mo_constantLong_296 : Cond.constantLong "IntervalTextModel" 296 (48 : Int64) ∈ TB := tb_t (List.mem_append_right _ (List.mem_append_right _ (List.mem_append_right _ (List.mem_append_left _ (List.mem_of_getElem? (l := tables_1_4) (i := 222) rfl))))) rfl
theorem tw_Mo_constantLong_336 : Cond.constantLong "IntervalTextModel" 336 (15 : Int64) ∈ TB := tb_t (List.mem_append_right _ (List.mem_append_right _ (List.mem_append_right _ (List.mem_append_left _ (List.mem_of_getElem? (l := tables_1_4) (i := 213) rfl))))) rfl
theorem tw_Mo_constantLong_338 : Cond.constantLong "IntervalTextModel" 338 (-1022 : Int64) ∈ TB := tb_t (List.mem_append_right _ (List.mem_append_right _ (List.mem_append_right _ (List.mem_append_left _ (List.mem_of_getElem? (l := tables_1_4) (i := 214) rfl))))) rfl
theorem tw_Mo_constantLong_340 : Cond.constantLong "IntervalTextModel" 340 (1023 : Int64) ∈ TB := tb_t (List.mem_append_right _ (List.mem_append_right _ (List.mem_append_right _ (List.mem_append_left _ (List.mem_of_getElem? (l := tables_1_4) (i := 215) rfl))))) rfl
theorem cl_Mo_146 : CLinkS TB "IntervalTextModel" 146 y_Mo_isInfinite b_Mo_isInfinite 2 (some .boolean) 1 := ⟨⟨tb_t (List.mem_append_right _ (List.mem_append_right _ (List.mem_append_right _ (List.mem_append_left _ (List.mem_of_getElem? (l := tables_1_4) (i := 161) rfl))))) rfl, tb_t (List.mem_append_left _ (List.mem_of_getElem? (l := tables_1_1) (i := 8) rfl)) rfl, tb_t (List.mem_append_right _ (List.mem_append_right _ (List.mem_append_right _ (List.mem_append_left _ (List.mem_of_getElem? (l := tables_1_4) (i := 163) rfl))))) rfl, by decide +kernel, by decide +kernel, by decide +kernel⟩, tb_t (List.mem_append_right _ (List.mem_append_right _ (List.mem_append_right _ (List.mem_append_left _ (List.mem_of_getElem? (l := tables_1_4) (i := 162) rfl))))) rfl⟩
theorem cl_Mo_153 : CLinkV TB "IntervalTextModel" 153 "IntervalTextModel" y_Mo_isBounded b_Mo_isBounded 1 (some .boolean) 0 := ⟨⟨tb_t (List.mem_append_right _ (List.mem_append_right _ (List.mem_append_right _ (List.mem_append_left _ (List.mem_of_getElem? (l := tables_1_4) (i := 157) rfl))))) rfl, tb_t (List.mem_append_left _ (List.mem_of_getElem? (l := tables_1_1) (i := 8) rfl)) rfl, tb_t (List.mem_append_right _ (List.mem_append_right _ (List.mem_append_right _ (List.mem_append_left _ (List.mem_of_getElem? (l := tables_1_4) (i := 160) rfl))))) rfl, by decide +kernel, by decide +kernel, by decide +kernel⟩, tb_t (List.mem_append_right _ (List.mem_append_right _ (List.mem_append_right _ (List.mem_append_left _ (List.mem_of_getElem? (l := tables_1_4) (i := 159) rfl))))) rfl, tb_p 38 rfl⟩
theorem cl_Mo_160 : CLinkV TB "IntervalTextModel" 160 "java/lang/String" y_JStr_length b_JStr_length 1 (some .int) 0 := ⟨⟨tb_t (List.mem_append_right _ (List.mem_append_right _ (List.mem_append_right _ (List.mem_append_left _ (List.mem_of_getElem? (l := tables_1_4) (i := 3) rfl))))) rfl, tb_t (List.mem_append_left _ (List.mem_of_getElem? (l := tables_1_1) (i := 11) rfl)) rfl, tb_t (List.mem_append_right _ (List.mem_append_left _ (List.mem_of_getElem? (l := tables_1_2) (i := 16) rfl))) rfl, by decide +kernel, by decide +kernel, by decide +kernel⟩, tb_t (List.mem_append_right _ (List.mem_append_left _ (List.mem_of_getElem? (l := tables_1_2) (i := 14) rfl))) rfl, tb_t (List.mem_append_right _ (List.mem_append_left _ (List.mem_of_getElem? (l := tables_1_2) (i := 15) rfl))) rfl⟩
theorem cl_Mo_165 : CLinkV TB "IntervalTextModel" 165 "java/lang/String" y_JStr_charAt b_JStr_charAt 2 (some .char) 1 := ⟨⟨tb_t (List.mem_append_right _ (List.mem_append_right _ (List.mem_append_right _ (List.mem_append_left _ (List.mem_of_getElem? (l := tables_1_4) (i := 4) rfl))))) rfl, tb_t (List.mem_append_left _ (List.mem_of_getElem? (l := tables_1_1) (i := 11) rfl)) rfl, tb_t (List.mem_append_right _ (List.mem_append_left _ (List.mem_of_getElem? (l := tables_1_2) (i := 26) rfl))) rfl, by decide +kernel, by decide +kernel, by decide +kernel⟩, tb_t (List.mem_append_right _ (List.mem_append_left _ (List.mem_of_getElem? (l := tables_1_2) (i := 24) rfl))) rfl, tb_t (List.mem_append_right _ (List.mem_append_left _ (List.mem_of_getElem? (l := tables_1_2) (i := 25) rfl))) rfl⟩
theorem cl_Mo_289 : CLinkV TB "IntervalTextModel" 289 "IntervalTextModel" y_Mo_put b_Mo_put 2 none 1 := ⟨⟨tb_t (List.mem_append_right _ (List.mem_append_right _ (List.mem_append_right _ (List.mem_append_left _ (List.mem_of_getElem? (l := tables_1_4) (i := 194) rfl))))) rfl, tb_t (List.mem_append_left _ (List.mem_of_getElem? (l := tables_1_1) (i := 8) rfl)) rfl, tb_t (List.mem_append_right _ (List.mem_append_right _ (List.mem_append_right _ (List.mem_append_left _ (List.mem_of_getElem? (l := tables_1_4) (i := 197) rfl))))) rfl, by decide +kernel, by decide +kernel, by decide +kernel⟩, tb_t (List.mem_append_right _ (List.mem_append_right _ (List.mem_append_right _ (List.mem_append_left _ (List.mem_of_getElem? (l := tables_1_4) (i := 196) rfl))))) rfl, tb_p 40 rfl⟩
theorem cl_Mo_310 : CLinkV TB "IntervalTextModel" 310 "IntervalTextModel" y_Mo_putText b_Mo_putText 3 none 1 := ⟨⟨tb_t (List.mem_append_right _ (List.mem_append_right _ (List.mem_append_right _ (List.mem_append_left _ (List.mem_of_getElem? (l := tables_1_4) (i := 199) rfl))))) rfl, tb_t (List.mem_append_left _ (List.mem_of_getElem? (l := tables_1_1) (i := 8) rfl)) rfl, tb_t (List.mem_append_right _ (List.mem_append_right _ (List.mem_append_right _ (List.mem_append_left _ (List.mem_of_getElem? (l := tables_1_4) (i := 202) rfl))))) rfl, by decide +kernel, by decide +kernel, by decide +kernel⟩, tb_t (List.mem_append_right _ (List.mem_append_right _ (List.mem_append_right _ (List.mem_append_left _ (List.mem_of_getElem? (l := tables_1_4) (i := 201) rfl))))) rfl, tb_p 41 rfl⟩
theorem cl_Mo_342 : CLinkV TB "IntervalTextModel" 342 "IntervalTextModel" y_Mo_putNumber b_Mo_putNumber 7 none 1 := ⟨⟨tb_t (List.mem_append_right _ (List.mem_append_right _ (List.mem_append_right _ (List.mem_append_left _ (List.mem_of_getElem? (l := tables_1_4) (i := 216) rfl))))) rfl, tb_t (List.mem_append_left _ (List.mem_of_getElem? (l := tables_1_1) (i := 8) rfl)) rfl, tb_t (List.mem_append_right _ (List.mem_append_right _ (List.mem_append_right _ (List.mem_append_left _ (List.mem_of_getElem? (l := tables_1_4) (i := 219) rfl))))) rfl, by decide +kernel, by decide +kernel, by decide +kernel⟩, tb_t (List.mem_append_right _ (List.mem_append_right _ (List.mem_append_right _ (List.mem_append_left _ (List.mem_of_getElem? (l := tables_1_4) (i := 218) rfl))))) rfl, tb_p 44 rfl⟩
set_option maxHeartbeats 4000000 in
set_option maxRecDepth 100000 in
theorem c_Mo_put (l : Launch) (D : va_G) (E : EVt) (h : Nat) (mlf : Nat) (mrt : Nat) (mpb : Nat) (mop : Nat) (mtz : Int) (mta : Nat) (moa : Nat) (mrl : Int) (mrh : Int) (mno : Bool) (mlo : Int) (mhi : Int) (mo1 : Nat) (mo2 : Nat) (mo3 : Nat) (mo4 : Nat) (mms : Int) (mex : Int) (mgd : Bool) (mon : Bool) (ot : Int → Int) (L : List Int) (x : Int) (hL : (L.length : Int) < 200) : CT l D classes (tyl E) (EVX E) y_Mo_put (Cond.code y_Mo_put b_Mo_put 2 none :: TB) (rmK 0 0 0 0) 0 0 [.ref h, .int (iI x)] [(moa, .inl (E.1, 200, .inl (ia (Wr ot 0 L)))), (h, .inr (9, [.ref mlf, .ref mrt, .ref mpb, .ref mop, .int (iI mtz), .ref mta, .int (iI (L.length : Int)), .ref moa, .long (lI mrl), .long (lI mrh), .int (bI mno), .long (lI mlo), .long (lI mhi), .ref mo1, .ref mo2, .ref mo3, .ref mo4, .int (iI mms), .int (iI mex), .int (bI mgd), .int (bI mon)]))] (S := Unit) (fun _ => [(moa, .inl (E.1, 200, .inl (ia (Wr ot 0 (L ++ [x]))))), (h, .inr (9, [.ref mlf, .ref mrt, .ref mpb, .ref mop, .int (iI mtz), .ref mta, .int (iI ((L ++ [x]).length : Int)), .ref moa, .long (lI mrl), .long (lI mrh), .int (bI mno), .long (lI mlo), .long (lI mhi), .ref mo1, .ref mo2, .ref mo3, .ref mo4, .int (iI mms), .int (iI mex), .int (bI mgd), .int (bI mon)]))]) (fun _ => none) (fun _ => True) := by
  refine CT.ofv (eok E) (by decide) rfl (Nat.le_of_ble_eq_true rfl) ?_
  intro p e s m args below meth c A Q ls B hmn hP hD hS hl ret
  have B : Bd l D classes (tyl E) (EVX E) p m c b_Mo_put 2 s args (Cond.code y_Mo_put b_Mo_put 2 none :: TB) R_Mo A := B
  obtain ⟨⟨hx, hb, hml, hown, hts⟩, hX, hK, hE, hA⟩ := id B
  have hl : lv_has ls 2 [(0, .ref h), (1, .int (iI x))] := hl
  have hP : va_P D classes [(moa, .inl (E.1, 200, .inl (ia (Wr ot 0 L)))), (h, .inr (9, [.ref mlf, .ref mrt, .ref mpb, .ref mop, .int (iI mtz), .ref mta, .int (iI (L.length : Int)), .ref moa, .long (lI mrl), .long (lI mrh), .int (bI mno), .long (lI mlo), .long (lI mhi), .ref mo1, .ref mo2, .ref mo3, .ref mo4, .int (iI mms), .int (iI mex), .int (bI mgd), .int (bI mon)]))] s.heap := hP
  have hD : va_D A [(moa, .inl (E.1, 200, .inl (ia (Wr ot 0 L)))), (h, .inr (9, [.ref mlf, .ref mrt, .ref mpb, .ref mop, .int (iI mtz), .ref mta, .int (iI (L.length : Int)), .ref moa, .long (lI mrl), .long (lI mrh), .int (bI mno), .long (lI mlo), .long (lI mhi), .ref mo1, .ref mo2, .ref mo3, .ref mo4, .int (iI mms), .int (iI mex), .int (bI mgd), .int (bI mon)]))] := hD
  refine lv_aload_n hx hb d_Mo_put_0 rfl (lv_at hl 0 rfl) ?_
  refine wk_get B hP 1 rfl fl_Mo_111 (v := .ref moa) rfl d_Mo_put_1 ?_
  refine lv_aload_n hx hb d_Mo_put_4 rfl (lv_at hl 0 rfl) ?_
  refine wk_get B hP 1 rfl fl_Mo_286 (v := .int (iI (L.length : Int))) rfl d_Mo_put_5 ?_
  refine lv_iload_n hx hb d_Mo_put_8 rfl (lv_at hl 1 rfl) ?_
  refine wi_iast hx hb hK hP hD hS 0 0 rfl rfl (by omega) (by omega) d_Mo_put_9 (fun H locs hP hD hS => ?_)
  have hP : va_P D classes [(moa, .inl (E.1, 200, .inl (ia (upZ (Wr ot 0 L) (L.length : Int) x)))), (h, .inr (9, [.ref mlf, .ref mrt, .ref mpb, .ref mop, .int (iI mtz), .ref mta, .int (iI (L.length : Int)), .ref moa, .long (lI mrl), .long (lI mrh), .int (bI mno), .long (lI mlo), .long (lI mhi), .ref mo1, .ref mo2, .ref mo3, .ref mo4, .int (iI mms), .int (iI mex), .int (bI mgd), .int (bI mon)]))] H := hP
  have hD : va_D A [(moa, .inl (E.1, 200, .inl (ia (upZ (Wr ot 0 L) (L.length : Int) x)))), (h, .inr (9, [.ref mlf, .ref mrt, .ref mpb, .ref mop, .int (iI mtz), .ref mta, .int (iI (L.length : Int)), .ref moa, .long (lI mrl), .long (lI mrh), .int (bI mno), .long (lI mlo), .long (lI mhi), .ref mo1, .ref mo2, .ref mo3, .ref mo4, .int (iI mms), .int (iI mex), .int (bI mgd), .int (bI mon)]))] := hD
  refine lv_aload_n hx hb d_Mo_put_10 rfl (lv_at hl 0 rfl) ?_
  refine lv_dup hx hb d_Mo_put_11 rfl ?_
  refine wk_get B hP 1 rfl fl_Mo_286 (v := .int (iI (L.length : Int))) rfl d_Mo_put_12 ?_
  refine wi_iconst (n := 1) hx hb d_Mo_put_15 ?_
  refine wi_iadd hx hb d_Mo_put_16 ?_
  refine wk_put B hP hD hS 1 rfl fl_Mo_286 fp_Mo_6 (v := .int (iI ((L.length : Int) + 1))) rfl rfl (Nat.le_of_ble_eq_true rfl) d_Mo_put_17 (fun H locs hP hD hS => ?_)
  have hP : va_P D classes [(moa, .inl (E.1, 200, .inl (ia (upZ (Wr ot 0 L) (L.length : Int) x)))), (h, .inr (9, [.ref mlf, .ref mrt, .ref mpb, .ref mop, .int (iI mtz), .ref mta, .int (iI ((L.length : Int) + 1)), .ref moa, .long (lI mrl), .long (lI mrh), .int (bI mno), .long (lI mlo), .long (lI mhi), .ref mo1, .ref mo2, .ref mo3, .ref mo4, .int (iI mms), .int (iI mex), .int (bI mgd), .int (bI mon)]))] H := hP
  have hD : va_D A [(moa, .inl (E.1, 200, .inl (ia (upZ (Wr ot 0 L) (L.length : Int) x)))), (h, .inr (9, [.ref mlf, .ref mrt, .ref mpb, .ref mop, .int (iI mtz), .ref mta, .int (iI ((L.length : Int) + 1)), .ref moa, .long (lI mrl), .long (lI mrh), .int (bI mno), .long (lI mlo), .long (lI mhi), .ref mo1, .ref mo2, .ref mo3, .ref mo4, .int (iI mms), .int (iI mex), .int (bI mgd), .int (bI mon)]))] := hD
  rw [Wr_sn0 ot L x, Wr_ln L x] at hP hD
  have hP : va_P D classes [(moa, .inl (E.1, 200, .inl (ia (Wr ot 0 (L ++ [x]))))), (h, .inr (9, [.ref mlf, .ref mrt, .ref mpb, .ref mop, .int (iI mtz), .ref mta, .int (iI ((L ++ [x]).length : Int)), .ref moa, .long (lI mrl), .long (lI mrh), .int (bI mno), .long (lI mlo), .long (lI mhi), .ref mo1, .ref mo2, .ref mo3, .ref mo4, .int (iI mms), .int (iI mex), .int (bI mgd), .int (bI mon)]))] H := hP
  have hD : va_D A [(moa, .inl (E.1, 200, .inl (ia (Wr ot 0 (L ++ [x]))))), (h, .inr (9, [.ref mlf, .ref mrt, .ref mpb, .ref mop, .int (iI mtz), .ref mta, .int (iI ((L ++ [x]).length : Int)), .ref moa, .long (lI mrl), .long (lI mrh), .int (bI mno), .long (lI mlo), .long (lI mhi), .ref mo1, .ref mo2, .ref mo3, .ref mo4, .int (iI mms), .int (iI mex), .int (bI mgd), .int (bI mon)]))] := hD
  exact ret () _ _ _ _ d_Mo_put_20 trivial (hP.sub [0, 1] rfl) (hD.sub [0, 1] (by decide) rfl) hS
set_option maxHeartbeats 4000000 in
set_option maxRecDepth 100000 in
theorem c_Mo_putText (l : Launch) (D : va_G) (E : EVt) (h : Nat) (mlf : Nat) (mrt : Nat) (mpb : Nat) (mop : Nat) (mtz : Int) (mta : Nat) (moa : Nat) (mrl : Int) (mrh : Int) (mno : Bool) (mlo : Int) (mhi : Int) (mo1 : Nat) (mo2 : Nat) (mo3 : Nat) (mo4 : Nat) (mms : Int) (mex : Int) (mgd : Bool) (mon : Bool) (ot : Int → Int) (L : List Int) (i : Nat) (hi : i < 43) (hn : (L.length : Int) + (strLen i : Int) ≤ 200) : CT l D classes (tyl E) (EVX E) y_Mo_putText (Cond.code y_Mo_putText b_Mo_putText 3 none :: TB) (rmK 4 0 0 85) 0 0 [.ref h, .ref (E.2.2.1 i)] [(moa, .inl (E.1, 200, .inl (ia (Wr ot 0 L)))), (h, .inr (9, [.ref mlf, .ref mrt, .ref mpb, .ref mop, .int (iI mtz), .ref mta, .int (iI (L.length : Int)), .ref moa, .long (lI mrl), .long (lI mrh), .int (bI mno), .long (lI mlo), .long (lI mhi), .ref mo1, .ref mo2, .ref mo3, .ref mo4, .int (iI mms), .int (iI mex), .int (bI mgd), .int (bI mon)]))] (S := List Int) (fun u => [(moa, .inl (E.1, 200, .inl (ia (Wr ot 0 u)))), (h, .inr (9, [.ref mlf, .ref mrt, .ref mpb, .ref mop, .int (iI mtz), .ref mta, .int (iI (u.length : Int)), .ref moa, .long (lI mrl), .long (lI mrh), .int (bI mno), .long (lI mlo), .long (lI mhi), .ref mo1, .ref mo2, .ref mo3, .ref mo4, .int (iI mms), .int (iI mex), .int (bI mgd), .int (bI mon)]))]) (fun _ => none) (fun u => (u = L ++ strByt.getD i [])) := by
  refine CT.ofv (eok E) (by decide) rfl (Nat.le_of_ble_eq_true rfl) ?_
  intro p e s m args below meth c A Q ls B hmn hP hD hS hl ret
  have B : Bd l D classes (tyl E) (EVX E) p m c b_Mo_putText 3 s args (Cond.code y_Mo_putText b_Mo_putText 3 none :: TB) R_Mo A := B
  obtain ⟨⟨hx, hb, hml, hown, hts⟩, hX, hK, hE, hA⟩ := id B
  have hl : lv_has ls 3 [(0, .ref h), (1, .ref (E.2.2.1 i))] := hl
  have hP : va_P D classes [(moa, .inl (E.1, 200, .inl (ia (Wr ot 0 L)))), (h, .inr (9, [.ref mlf, .ref mrt, .ref mpb, .ref mop, .int (iI mtz), .ref mta, .int (iI (L.length : Int)), .ref moa, .long (lI mrl), .long (lI mrh), .int (bI mno), .long (lI mlo), .long (lI mhi), .ref mo1, .ref mo2, .ref mo3, .ref mo4, .int (iI mms), .int (iI mex), .int (bI mgd), .int (bI mon)]))] s.heap := hP
  have hD : va_D A [(moa, .inl (E.1, 200, .inl (ia (Wr ot 0 L)))), (h, .inr (9, [.ref mlf, .ref mrt, .ref mpb, .ref mop, .int (iI mtz), .ref mta, .int (iI (L.length : Int)), .ref moa, .long (lI mrl), .long (lI mrh), .int (bI mno), .long (lI mlo), .long (lI mhi), .ref mo1, .ref mo2, .ref mo3, .ref mo4, .int (iI mms), .int (iI mex), .int (bI mgd), .int (bI mon)]))] := hD
  have hsl := strLen_all i hi
  have K_2 : ∀ (fuel2 : Nat) (k : Int) (M : List Int) (hk : 0 ≤ k ∧ k ≤ (strLen i : Int)) (hM : M = L ++ (strByt.getD i []).take (Int.toNat k)) (hm : (M.length : Int) = (L.length : Int) + k) (hf2 : (strLen i : Int) - k < (fuel2 : Int)) (ls : Array Slot) (H : Heap) (locs : List Loc), lv_has ls 3 [(0, .ref h), (1, .ref (E.2.2.1 i)), (2, .int (iI k))] → va_P D classes [(moa, .inl (E.1, 200, .inl (ia (Wr ot 0 M)))), (h, .inr (9, [.ref mlf, .ref mrt, .ref mpb, .ref mop, .int (iI mtz), .ref mta, .int (iI (M.length : Int)), .ref moa, .long (lI mrl), .long (lI mrh), .int (bI mno), .long (lI mlo), .long (lI mhi), .ref mo1, .ref mo2, .ref mo3, .ref mo4, .int (iI mms), .int (iI mex), .int (bI mgd), .int (bI mon)]))] H → va_D A [(moa, .inl (E.1, 200, .inl (ia (Wr ot 0 M)))), (h, .inr (9, [.ref mlf, .ref mrt, .ref mpb, .ref mop, .int (iI mtz), .ref mta, .int (iI (M.length : Int)), .ref moa, .long (lI mrl), .long (lI mrh), .int (bI mno), .long (lI mlo), .long (lI mhi), .ref mo1, .ref mo2, .ref mo3, .ref mo4, .int (iI mms), .int (iI mex), .int (bI mgd), .int (bI mon)]))] → va_S A s.heap H locs → W p l e (rmK 4 0 0 85) s m args below meth c H locs 0 0 Q (F0 m 2 ls []) := by
    intro fuel2
    induction fuel2 with
    | zero =>
      intro k M hk hM hm hf2 ls H locs hl hP hD hS
      exfalso; omega
    | succ fuel2 ih2 =>
      intro k M hk hM hm hf2 ls H locs hl hP hD hS
      have hsc := strCh_rng i k
      refine lv_iload_n hx hb d_Mo_putText_2 rfl (lv_at hl 2 rfl) ?_
      refine lv_aload_n hx hb d_Mo_putText_3 rfl (lv_at hl 1 rfl) ?_
      refine wk_callO (As := []) (rest := [.int (iI k)]) (wr := [(moa, .inl (E.1, 200, .inl (ia (Wr ot 0 M)))), (h, .inr (9, [.ref mlf, .ref mrt, .ref mpb, .ref mop, .int (iI mtz), .ref mta, .int (iI (M.length : Int)), .ref moa, .long (lI mrl), .long (lI mrh), .int (bI mno), .long (lI mlo), .long (lI mhi), .ref mo1, .ref mo2, .ref mo3, .ref mo4, .int (iI mms), .int (iI mex), .int (bI mgd), .int (bI mon)]))]) B gTB cl_Mo_160 (c_JStr_length l D E i (by omega)) ⟨⟨rfl, rfl⟩, Nat.le_of_ble_eq_true rfl, Nat.le_of_ble_eq_true rfl⟩ hP hD hS [] [0, 1] rfl rfl (by decide) (va_O_at (hE.2.2.1 i hi).1 hS) ⟨hl.2.1, hl.1⟩ rfl (Nat.le_of_ble_eq_true rfl) d_Mo_putText_4 ⟨Nat.le_of_ble_eq_true rfl, Nat.le_of_ble_eq_true rfl⟩ rfl (fun r_1 H locs hw hP hD hS => ?_)
      have hP : va_P D classes [(moa, .inl (E.1, 200, .inl (ia (Wr ot 0 M)))), (h, .inr (9, [.ref mlf, .ref mrt, .ref mpb, .ref mop, .int (iI mtz), .ref mta, .int (iI (M.length : Int)), .ref moa, .long (lI mrl), .long (lI mrh), .int (bI mno), .long (lI mlo), .long (lI mhi), .ref mo1, .ref mo2, .ref mo3, .ref mo4, .int (iI mms), .int (iI mex), .int (bI mgd), .int (bI mon)]))] H := hP
      have hD : va_D A [(moa, .inl (E.1, 200, .inl (ia (Wr ot 0 M)))), (h, .inr (9, [.ref mlf, .ref mrt, .ref mpb, .ref mop, .int (iI mtz), .ref mta, .int (iI (M.length : Int)), .ref moa, .long (lI mrl), .long (lI mrh), .int (bI mno), .long (lI mlo), .long (lI mhi), .ref mo1, .ref mo2, .ref mo3, .ref mo4, .int (iI mms), .int (iI mex), .int (bI mgd), .int (bI mon)]))] := hD
      have hw : (r_1 = (strLen i : Int)) := hw
      have hr_2 := hw
      refine W.cs (g := F0 m 7 ls [.int (iI r_1), .int (iI k)]) (cells' := 0) (slots' := 0) rfl rfl ?_
      subst hr_2
      refine wi_icmp_ge (tgt := 25) hx hb d_Mo_putText_7 (by decide) (by omega) (by omega) (fun c_3 => ?_) (fun c_3 => ?_)
      · skip
        exact ret M _ _ _ _ d_Mo_putText_25 (show (M = L ++ strByt.getD i []) from (by rw [hM, List.take_of_length_le (by unfold strLen at *; omega)])) (hP.sub [0, 1] rfl) (hD.sub [0, 1] (by decide) rfl) hS
      · skip
        refine lv_aload_n hx hb d_Mo_putText_10 rfl (lv_at hl 0 rfl) ?_
        refine lv_aload_n hx hb d_Mo_putText_11 rfl (lv_at hl 1 rfl) ?_
        refine lv_iload_n hx hb d_Mo_putText_12 rfl (lv_at hl 2 rfl) ?_
        refine wk_callO (As := [.int (iI k)]) (rest := [.ref h]) (wr := [(moa, .inl (E.1, 200, .inl (ia (Wr ot 0 M)))), (h, .inr (9, [.ref mlf, .ref mrt, .ref mpb, .ref mop, .int (iI mtz), .ref mta, .int (iI (M.length : Int)), .ref moa, .long (lI mrl), .long (lI mrh), .int (bI mno), .long (lI mlo), .long (lI mhi), .ref mo1, .ref mo2, .ref mo3, .ref mo4, .int (iI mms), .int (iI mex), .int (bI mgd), .int (bI mon)]))]) B gTB cl_Mo_165 (c_JStr_charAt l D E i k (by omega) (by omega)) ⟨⟨rfl, rfl⟩, Nat.le_of_ble_eq_true rfl, Nat.le_of_ble_eq_true rfl⟩ hP hD hS [] [0, 1] rfl rfl (by decide) (va_O_at (hE.2.2.1 i hi).1 hS) ⟨hl.2.1, hl.1⟩ rfl (Nat.le_of_ble_eq_true rfl) d_Mo_putText_13 ⟨Nat.le_of_ble_eq_true rfl, Nat.le_of_ble_eq_true rfl⟩ rfl (fun r_4 H locs hw hP hD hS => ?_)
        have hP : va_P D classes [(moa, .inl (E.1, 200, .inl (ia (Wr ot 0 M)))), (h, .inr (9, [.ref mlf, .ref mrt, .ref mpb, .ref mop, .int (iI mtz), .ref mta, .int (iI (M.length : Int)), .ref moa, .long (lI mrl), .long (lI mrh), .int (bI mno), .long (lI mlo), .long (lI mhi), .ref mo1, .ref mo2, .ref mo3, .ref mo4, .int (iI mms), .int (iI mex), .int (bI mgd), .int (bI mon)]))] H := hP
        have hD : va_D A [(moa, .inl (E.1, 200, .inl (ia (Wr ot 0 M)))), (h, .inr (9, [.ref mlf, .ref mrt, .ref mpb, .ref mop, .int (iI mtz), .ref mta, .int (iI (M.length : Int)), .ref moa, .long (lI mrl), .long (lI mrh), .int (bI mno), .long (lI mlo), .long (lI mhi), .ref mo1, .ref mo2, .ref mo3, .ref mo4, .int (iI mms), .int (iI mex), .int (bI mgd), .int (bI mon)]))] := hD
        have hw : (r_4 = strCh i k) := hw
        have hr_5 := hw
        refine W.cs (g := F0 m 16 ls [.int (iI r_4), .ref h]) (cells' := 0) (slots' := 0) rfl rfl ?_
        subst hr_5
        refine wk_callV (As := [.int (iI (strCh i k))]) (rest := []) (wr := []) B gTB cl_Mo_289 (c_Mo_put l D E h mlf mrt mpb mop mtz mta moa mrl mrh mno mlo mhi mo1 mo2 mo3 mo4 mms mex mgd mon ot M (strCh i k) (by (try simp only [List.length_append, List.length_cons, List.length_nil]); omega)) ⟨⟨rfl, rfl⟩, Nat.le_of_ble_eq_true rfl, Nat.le_of_ble_eq_true rfl⟩ hP hD hS [0, 1] [] rfl rfl (by decide) 1 rfl rfl rfl ⟨hl.2.1, hl.1⟩ rfl (Nat.le_of_ble_eq_true rfl) d_Mo_putText_16 ⟨Nat.le_of_ble_eq_true rfl, Nat.le_of_ble_eq_true rfl⟩ rfl (fun u H locs hw hP hD hS => ?_)
        have hP : va_P D classes [(moa, .inl (E.1, 200, .inl (ia (Wr ot 0 (M ++ [(strCh i k)]))))), (h, .inr (9, [.ref mlf, .ref mrt, .ref mpb, .ref mop, .int (iI mtz), .ref mta, .int (iI ((M ++ [(strCh i k)]).length : Int)), .ref moa, .long (lI mrl), .long (lI mrh), .int (bI mno), .long (lI mlo), .long (lI mhi), .ref mo1, .ref mo2, .ref mo3, .ref mo4, .int (iI mms), .int (iI mex), .int (bI mgd), .int (bI mon)]))] H := hP
        have hD : va_D A [(moa, .inl (E.1, 200, .inl (ia (Wr ot 0 (M ++ [(strCh i k)]))))), (h, .inr (9, [.ref mlf, .ref mrt, .ref mpb, .ref mop, .int (iI mtz), .ref mta, .int (iI ((M ++ [(strCh i k)]).length : Int)), .ref moa, .long (lI mrl), .long (lI mrh), .int (bI mno), .long (lI mlo), .long (lI mhi), .ref mo1, .ref mo2, .ref mo3, .ref mo4, .int (iI mms), .int (iI mex), .int (bI mgd), .int (bI mon)]))] := hD
        refine W.cs (g := F0 m 19 ls []) (cells' := 0) (slots' := 0) rfl rfl ?_
        refine wi_iinc (v := k + 1) (lv' := [(2, .int (iI (k + 1))), (0, .ref h), (1, .ref (E.2.2.1 i))]) hx hb d_Mo_putText_19 hl (k := 2) rfl rfl (by decide) rfl (fun ls hl => ?_)
        refine lv_goto (tgt := 2) hx hb d_Mo_putText_22 (by decide) ?_
        exact ih2 (k + 1) (M ++ [(strCh i k)]) (by omega) (pt_s (by unfold strLen at *; omega) hM) (by (try simp only [List.length_append, List.length_cons, List.length_nil]); omega) (by omega) _ _ _ (lv_sub hl [1, 2, 0] rfl) (hP.sub [0, 1] rfl) (hD.sub [0, 1] (by decide) rfl) hS
  refine wi_iconst (n := 0) hx hb d_Mo_putText_0 ?_
  refine lv_istore_n (lv' := [(2, .int (iI 0)), (0, .ref h), (1, .ref (E.2.2.1 i))]) hx hb d_Mo_putText_1 rfl hl (by decide) rfl (fun ls hl => ?_)
  exact K_2 (((strLen i : Int) - 0 : Int).toNat + 1) 0 L (by omega) (by rw [show Int.toNat 0 = 0 from rfl, List.take_zero, List.append_nil]) (by omega) (by omega) _ _ _ (lv_sub hl [1, 2, 0] rfl) (hP.sub [0, 1] rfl) (hD.sub [0, 1] (by decide) rfl) hS
set_option maxHeartbeats 4000000 in
set_option maxRecDepth 100000 in
theorem c_Mo_putNumber (l : Launch) (D : va_G) (E : EVt) (h : Nat) (mlf : Nat) (mrt : Nat) (mpb : Nat) (mop : Nat) (mtz : Int) (mta : Nat) (moa : Nat) (mrl : Int) (mrh : Int) (mno : Bool) (mlo : Int) (mhi : Int) (mo1 : Nat) (mo2 : Nat) (mo3 : Nat) (mo4 : Nat) (mms : Int) (mex : Int) (mgd : Bool) (mon : Bool) (ot : Int → Int) (L : List Int) (v : Int) (hv : -10000 < v ∧ v < 10000) (hL : (L.length : Int) + 5 ≤ 200) : CT l D classes (tyl E) (EVX E) y_Mo_putNumber (Cond.code y_Mo_putNumber b_Mo_putNumber 7 none :: TB) (rmK 1 0 0 21) 0 0 [.ref h, .long (lI v)] [(moa, .inl (E.1, 200, .inl (ia (Wr ot 0 L)))), (h, .inr (9, [.ref mlf, .ref mrt, .ref mpb, .ref mop, .int (iI mtz), .ref mta, .int (iI (L.length : Int)), .ref moa, .long (lI mrl), .long (lI mrh), .int (bI mno), .long (lI mlo), .long (lI mhi), .ref mo1, .ref mo2, .ref mo3, .ref mo4, .int (iI mms), .int (iI mex), .int (bI mgd), .int (bI mon)]))] (S := List Int) (fun u => [(moa, .inl (E.1, 200, .inl (ia (Wr ot 0 u)))), (h, .inr (9, [.ref mlf, .ref mrt, .ref mpb, .ref mop, .int (iI mtz), .ref mta, .int (iI (u.length : Int)), .ref moa, .long (lI mrl), .long (lI mrh), .int (bI mno), .long (lI mlo), .long (lI mhi), .ref mo1, .ref mo2, .ref mo3, .ref mo4, .int (iI mms), .int (iI mex), .int (bI mgd), .int (bI mon)]))]) (fun _ => none) (fun u => (u = L ++ EXT v)) := by
  refine CT.ofv (eok E) (by decide) rfl (Nat.le_of_ble_eq_true rfl) ?_
  intro p e s m args below meth c A Q ls B hmn hP hD hS hl ret
  have B : Bd l D classes (tyl E) (EVX E) p m c b_Mo_putNumber 7 s args (Cond.code y_Mo_putNumber b_Mo_putNumber 7 none :: TB) R_Mo A := B
  obtain ⟨⟨hx, hb, hml, hown, hts⟩, hX, hK, hE, hA⟩ := id B
  have hl : lv_has ls 7 [(0, .ref h), (1, .long (lI v))] := hl
  have hP : va_P D classes [(moa, .inl (E.1, 200, .inl (ia (Wr ot 0 L)))), (h, .inr (9, [.ref mlf, .ref mrt, .ref mpb, .ref mop, .int (iI mtz), .ref mta, .int (iI (L.length : Int)), .ref moa, .long (lI mrl), .long (lI mrh), .int (bI mno), .long (lI mlo), .long (lI mhi), .ref mo1, .ref mo2, .ref mo3, .ref mo4, .int (iI mms), .int (iI mex), .int (bI mgd), .int (bI mon)]))] s.heap := hP
  have hD : va_D A [(moa, .inl (E.1, 200, .inl (ia (Wr ot 0 L)))), (h, .inr (9, [.ref mlf, .ref mrt, .ref mpb, .ref mop, .int (iI mtz), .ref mta, .int (iI (L.length : Int)), .ref moa, .long (lI mrl), .long (lI mrh), .int (bI mno), .long (lI mlo), .long (lI mhi), .ref mo1, .ref mo2, .ref mo3, .ref mo4, .int (iI mms), .int (iI mex), .int (bI mgd), .int (bI mon)]))] := hD
  have hab : 0 ≤ absZ v ∧ absZ v < 10000 := by unfold absZ; split <;> omega
  have K_42 : ∀ (fuel42 : Nat) (rs : Int) (un : Int) (k : Nat) (M : List Int) (hrs : 0 ≤ rs ∧ rs < 10000) (hU : U10 k un) (hEE : L ++ EXT v = M ++ dF k un rs true) (hm : (M.length : Int) + (k : Int) ≤ (L.length : Int) + 5) (hf42 : un < (fuel42 : Int)) (ls : Array Slot) (H : Heap) (locs : List Loc), lv_has ls 7 [(0, .ref h), (1, .long (lI v)), (3, .long (lI rs)), (5, .long (lI un))] → va_P D classes [(moa, .inl (E.1, 200, .inl (ia (Wr ot 0 M)))), (h, .inr (9, [.ref mlf, .ref mrt, .ref mpb, .ref mop, .int (iI mtz), .ref mta, .int (iI (M.length : Int)), .ref moa, .long (lI mrl), .long (lI mrh), .int (bI mno), .long (lI mlo), .long (lI mhi), .ref mo1, .ref mo2, .ref mo3, .ref mo4, .int (iI mms), .int (iI mex), .int (bI mgd), .int (bI mon)]))] H → va_D A [(moa, .inl (E.1, 200, .inl (ia (Wr ot 0 M)))), (h, .inr (9, [.ref mlf, .ref mrt, .ref mpb, .ref mop, .int (iI mtz), .ref mta, .int (iI (M.length : Int)), .ref moa, .long (lI mrl), .long (lI mrh), .int (bI mno), .long (lI mlo), .long (lI mhi), .ref mo1, .ref mo2, .ref mo3, .ref mo4, .int (iI mms), .int (iI mex), .int (bI mgd), .int (bI mon)]))] → va_S A s.heap H locs → W p l e (rmK 1 0 0 21) s m args below meth c H locs 0 0 Q (F0 m 42 ls []) := by
    intro fuel42
    induction fuel42 with
    | zero =>
      intro rs un k M hrs hU hEE hm hf42 ls H locs hl hP hD hS
      exfalso; have := U10_r hU; omega
    | succ fuel42 ih42 =>
      intro rs un k M hrs hU hEE hm hf42 ls H locs hl hP hD hS
      have hur := U10_r hU
      refine lv_lload hx hb d_Mo_putNumber_42 (lv_at hl 3 rfl) ?_
      refine wi_lconst (z := 0) hx hb d_Mo_putNumber_44 (by decide) ?_
      refine wi_lcmp hx hb (by omega) (by omega) d_Mo_putNumber_45 ?_
      refine wi_if_le (tgt := 77) hx hb d_Mo_putNumber_46 (by decide) (by have := cmpZ_rng un 0; omega) (fun c_1 => ?_) (fun c_1 => ?_)
      · skip
        have c_1 := cmpZ_le.mp c_1
        have hk0 := U10_e hU (by omega)
        subst hk0
        exact ret M _ _ _ _ d_Mo_putNumber_77 (show (M = L ++ EXT v) from (by rw [hEE]; exact (List.append_nil _).symm)) (hP.sub [0, 1] rfl) (hD.sub [0, 1] (by decide) rfl) hS
      · skip
        have c_1 := cmpZ_gt.mp c_1
        obtain ⟨k9, hk9, hU9⟩ := U10_s hU (by omega)
        subst hk9
        have hdv := dv_r (y := rs) (u := un) hrs.1 (by omega)
        refine lv_aload_n hx hb d_Mo_putNumber_49 rfl (lv_at hl 0 rfl) ?_
        refine wi_ldc2 hx hb 48 hown (tb_h hts tw_Mo_constantLong_296) (by decide) d_Mo_putNumber_50 ?_
        refine lv_lload_n hx hb d_Mo_putNumber_53 rfl (lv_at hl 2 rfl) ?_
        refine lv_lload hx hb d_Mo_putNumber_54 (lv_at hl 3 rfl) ?_
        refine wi_ldiv hx hb d_Mo_putNumber_56 (by omega) (by omega) ?_
        refine wi_ldc2 hx hb 10 hown (tb_h hts tw_Mo_constantLong_294) (by decide) d_Mo_putNumber_57 ?_
        refine wi_lrem hx hb d_Mo_putNumber_60 (by omega) (by omega) ?_
        refine wi_ladd hx hb d_Mo_putNumber_61 ?_
        refine wi_l2i hx hb d_Mo_putNumber_62 ?_
        refine wk_callV (As := [.int (iI (48 + ((rs / un) % 10)))]) (rest := []) (wr := []) B gTB cl_Mo_289 (c_Mo_put l D E h mlf mrt mpb mop mtz mta moa mrl mrh mno mlo mhi mo1 mo2 mo3 mo4 mms mex mgd mon ot M (48 + ((rs / un) % 10)) (by (try simp only [List.length_append, List.length_cons, List.length_nil]); omega)) ⟨⟨rfl, rfl⟩, Nat.le_of_ble_eq_true rfl, Nat.le_of_ble_eq_true rfl⟩ hP hD hS [0, 1] [] rfl rfl (by decide) 1 rfl rfl rfl ⟨hl.2.1, hl.1⟩ rfl (Nat.le_of_ble_eq_true rfl) d_Mo_putNumber_63 ⟨Nat.le_of_ble_eq_true rfl, Nat.le_of_ble_eq_true rfl⟩ rfl (fun u H locs hw hP hD hS => ?_)
        have hP : va_P D classes [(moa, .inl (E.1, 200, .inl (ia (Wr ot 0 (M ++ [(48 + ((rs / un) % 10))]))))), (h, .inr (9, [.ref mlf, .ref mrt, .ref mpb, .ref mop, .int (iI mtz), .ref mta, .int (iI ((M ++ [(48 + ((rs / un) % 10))]).length : Int)), .ref moa, .long (lI mrl), .long (lI mrh), .int (bI mno), .long (lI mlo), .long (lI mhi), .ref mo1, .ref mo2, .ref mo3, .ref mo4, .int (iI mms), .int (iI mex), .int (bI mgd), .int (bI mon)]))] H := hP
        have hD : va_D A [(moa, .inl (E.1, 200, .inl (ia (Wr ot 0 (M ++ [(48 + ((rs / un) % 10))]))))), (h, .inr (9, [.ref mlf, .ref mrt, .ref mpb, .ref mop, .int (iI mtz), .ref mta, .int (iI ((M ++ [(48 + ((rs / un) % 10))]).length : Int)), .ref moa, .long (lI mrl), .long (lI mrh), .int (bI mno), .long (lI mlo), .long (lI mhi), .ref mo1, .ref mo2, .ref mo3, .ref mo4, .int (iI mms), .int (iI mex), .int (bI mgd), .int (bI mon)]))] := hD
        refine W.cs (g := F0 m 66 ls []) (cells' := 0) (slots' := 0) rfl rfl ?_
        refine lv_lload hx hb d_Mo_putNumber_66 (lv_at hl 3 rfl) ?_
        refine wi_ldc2 hx hb 10 hown (tb_h hts tw_Mo_constantLong_294) (by decide) d_Mo_putNumber_68 ?_
        refine wi_ldiv hx hb d_Mo_putNumber_71 (by omega) (by omega) ?_
        refine lv_lstore (lv' := [(5, .long (lI (un / 10))), (0, .ref h), (1, .long (lI v)), (3, .long (lI rs))]) hx hb d_Mo_putNumber_72 hl (by decide) rfl (fun ls hl => ?_)
        refine lv_goto (tgt := 42) hx hb d_Mo_putNumber_74 (by decide) ?_
        exact ih42 rs (un / 10) k9 (M ++ [(48 + ((rs / un) % 10))]) (hrs) (hU9) (by rw [hEE, dF_y (Or.inl rfl)]; exact ap_c) (by (try simp only [List.length_append, List.length_cons, List.length_nil]); omega) (by omega) _ _ _ (lv_sub hl [1, 2, 3, 0] rfl) (hP.sub [0, 1] rfl) (hD.sub [0, 1] (by decide) rfl) hS
  have K_20 : ∀ (fuel20 : Nat) (rs : Int) (un : Int) (k : Nat) (M : List Int) (hrs : rs = absZ v) (hU : U10 k un) (hun : 0 < un ∧ (un = 1 ∨ un ≤ rs)) (hEE : L ++ EXT v = M ++ dF 4 1000 (absZ v) false) (hm : (M.length : Int) ≤ (L.length : Int) + 1) (hf20 : 10000 - un < (fuel20 : Int)) (ls : Array Slot) (H : Heap) (locs : List Loc), lv_has ls 7 [(0, .ref h), (1, .long (lI v)), (3, .long (lI rs)), (5, .long (lI un))] → va_P D classes [(moa, .inl (E.1, 200, .inl (ia (Wr ot 0 M)))), (h, .inr (9, [.ref mlf, .ref mrt, .ref mpb, .ref mop, .int (iI mtz), .ref mta, .int (iI (M.length : Int)), .ref moa, .long (lI mrl), .long (lI mrh), .int (bI mno), .long (lI mlo), .long (lI mhi), .ref mo1, .ref mo2, .ref mo3, .ref mo4, .int (iI mms), .int (iI mex), .int (bI mgd), .int (bI mon)]))] H → va_D A [(moa, .inl (E.1, 200, .inl (ia (Wr ot 0 M)))), (h, .inr (9, [.ref mlf, .ref mrt, .ref mpb, .ref mop, .int (iI mtz), .ref mta, .int (iI (M.length : Int)), .ref moa, .long (lI mrl), .long (lI mrh), .int (bI mno), .long (lI mlo), .long (lI mhi), .ref mo1, .ref mo2, .ref mo3, .ref mo4, .int (iI mms), .int (iI mex), .int (bI mgd), .int (bI mon)]))] → va_S A s.heap H locs → W p l e (rmK 1 0 0 21) s m args below meth c H locs 0 0 Q (F0 m 20 ls []) := by
    intro fuel20
    induction fuel20 with
    | zero =>
      intro rs un k M hrs hU hun hEE hm hf20 ls H locs hl hP hD hS
      exfalso; have := U10_r hU; omega
    | succ fuel20 ih20 =>
      intro rs un k M hrs hU hun hEE hm hf20 ls H locs hl hP hD hS
      have hur := U10_r hU
      have hdv := dv_r (y := rs) (u := un) (by omega) hun.1
      have h99 := dv_9 (y := rs) hun.1
      refine lv_lload_n hx hb d_Mo_putNumber_20 rfl (lv_at hl 2 rfl) ?_
      refine lv_lload hx hb d_Mo_putNumber_21 (lv_at hl 3 rfl) ?_
      refine wi_ldiv hx hb d_Mo_putNumber_23 (by omega) (by omega) ?_
      refine wi_ldc2 hx hb 9 hown (tb_h hts tw_Mo_constantLong_292) (by decide) d_Mo_putNumber_24 ?_
      refine wi_lcmp hx hb (by omega) (by omega) d_Mo_putNumber_27 ?_
      refine wi_if_le (tgt := 42) hx hb d_Mo_putNumber_28 (by decide) (by have := cmpZ_rng (rs / un) 9; omega) (fun c_2 => ?_) (fun c_2 => ?_)
      · skip
        have c_2 := cmpZ_le.mp c_2
        exact K_42 ((un : Int).toNat + 1) rs un k M (by omega) (hU) (by rw [hEE, ← hrs, dF_eq hU hun.1 hun.2 (by omega) (by omega)]) (by unfold U10 at hU; omega) (by omega) _ _ _ (lv_sub hl [0, 1, 2, 3] rfl) (hP.sub [0, 1] rfl) (hD.sub [0, 1] (by decide) rfl) hS
      · skip
        have c_2 := cmpZ_gt.mp c_2
        refine wi_ldc2 hx hb 10 hown (tb_h hts tw_Mo_constantLong_294) (by decide) d_Mo_putNumber_31 ?_
        refine lv_lload hx hb d_Mo_putNumber_34 (lv_at hl 3 rfl) ?_
        refine wi_lmul hx hb d_Mo_putNumber_36 ?_
        refine lv_lstore (lv' := [(5, .long (lI (10 * un))), (0, .ref h), (1, .long (lI v)), (3, .long (lI rs))]) hx hb d_Mo_putNumber_37 hl (by decide) rfl (fun ls hl => ?_)
        refine lv_goto (tgt := 20) hx hb d_Mo_putNumber_39 (by decide) ?_
        exact ih20 rs (10 * un) (k + 1) M (hrs) (U10_up hU hun.1 (h99.mp c_2) (by omega)) (by have := h99.mp c_2; omega) (hEE) (by omega) (by omega) _ _ _ (lv_sub hl [1, 2, 3, 0] rfl) (hP.sub [0, 1] rfl) (hD.sub [0, 1] (by decide) rfl) hS
  refine lv_lload_n hx hb d_Mo_putNumber_0 rfl (lv_at hl 1 rfl) ?_
  refine lv_lstore_n (lv' := [(3, .long (lI v)), (0, .ref h), (1, .long (lI v))]) hx hb d_Mo_putNumber_1 rfl hl (by decide) rfl (fun ls hl => ?_)
  refine lv_lload_n hx hb d_Mo_putNumber_2 rfl (lv_at hl 0 rfl) ?_
  refine wi_lconst (z := 0) hx hb d_Mo_putNumber_3 (by decide) ?_
  refine wi_lcmp hx hb (by omega) (by omega) d_Mo_putNumber_4 ?_
  refine wi_if_ge (tgt := 17) hx hb d_Mo_putNumber_5 (by decide) (by have := cmpZ_rng v 0; omega) (fun c_3 => ?_) (fun c_3 => ?_)
  · skip
    have c_3 := cmpZ_ge.mp c_3
    refine wi_lconst (z := 1) hx hb d_Mo_putNumber_17 (by decide) ?_
    refine lv_lstore (lv' := [(5, .long (lI 1)), (3, .long (lI v)), (0, .ref h), (1, .long (lI v))]) hx hb d_Mo_putNumber_18 hl (by decide) rfl (fun ls hl => ?_)
    exact K_20 ((10000 - 1 : Int).toNat + 1) v 1 1 L (by unfold absZ; first | (rw [if_neg (by omega)]) | (rw [if_pos (by omega)])) (Or.inr (Or.inr (Or.inr (Or.inl ⟨rfl, rfl⟩)))) (by omega) (by first | exact EXT_n (by omega) L | exact EXT_p (by omega) L) (by (try simp only [List.length_append, List.length_cons, List.length_nil]); omega) (by omega) _ _ _ (lv_sub hl [2, 3, 1, 0] rfl) (hP.sub [0, 1] rfl) (hD.sub [0, 1] (by decide) rfl) hS
  · skip
    have c_3 := cmpZ_lt.mp c_3
    refine lv_aload_n hx hb d_Mo_putNumber_8 rfl (lv_at hl 1 rfl) ?_
    refine wi_bipush hx hb d_Mo_putNumber_9 (by decide) ?_
    refine wk_callV (As := [.int (iI 45)]) (rest := []) (wr := []) B gTB cl_Mo_289 (c_Mo_put l D E h mlf mrt mpb mop mtz mta moa mrl mrh mno mlo mhi mo1 mo2 mo3 mo4 mms mex mgd mon ot L 45 (by (try simp only [List.length_append, List.length_cons, List.length_nil]); omega)) ⟨⟨rfl, rfl⟩, Nat.le_of_ble_eq_true rfl, Nat.le_of_ble_eq_true rfl⟩ hP hD hS [0, 1] [] rfl rfl (by decide) 1 rfl rfl rfl ⟨hl.2.1, hl.1⟩ rfl (Nat.le_of_ble_eq_true rfl) d_Mo_putNumber_11 ⟨Nat.le_of_ble_eq_true rfl, Nat.le_of_ble_eq_true rfl⟩ rfl (fun u H locs hw hP hD hS => ?_)
    have hP : va_P D classes [(moa, .inl (E.1, 200, .inl (ia (Wr ot 0 (L ++ [45]))))), (h, .inr (9, [.ref mlf, .ref mrt, .ref mpb, .ref mop, .int (iI mtz), .ref mta, .int (iI ((L ++ [45]).length : Int)), .ref moa, .long (lI mrl), .long (lI mrh), .int (bI mno), .long (lI mlo), .long (lI mhi), .ref mo1, .ref mo2, .ref mo3, .ref mo4, .int (iI mms), .int (iI mex), .int (bI mgd), .int (bI mon)]))] H := hP
    have hD : va_D A [(moa, .inl (E.1, 200, .inl (ia (Wr ot 0 (L ++ [45]))))), (h, .inr (9, [.ref mlf, .ref mrt, .ref mpb, .ref mop, .int (iI mtz), .ref mta, .int (iI ((L ++ [45]).length : Int)), .ref moa, .long (lI mrl), .long (lI mrh), .int (bI mno), .long (lI mlo), .long (lI mhi), .ref mo1, .ref mo2, .ref mo3, .ref mo4, .int (iI mms), .int (iI mex), .int (bI mgd), .int (bI mon)]))] := hD
    refine W.cs (g := F0 m 14 ls []) (cells' := 0) (slots' := 0) rfl rfl ?_
    refine lv_lload_n hx hb d_Mo_putNumber_14 rfl (lv_at hl 0 rfl) ?_
    refine wi_lneg hx hb d_Mo_putNumber_15 ?_
    refine lv_lstore_n (lv' := [(3, .long (lI (-v))), (0, .ref h), (1, .long (lI v))]) hx hb d_Mo_putNumber_16 rfl hl (by decide) rfl (fun ls hl => ?_)
    refine wi_lconst (z := 1) hx hb d_Mo_putNumber_17 (by decide) ?_
    refine lv_lstore (lv' := [(5, .long (lI 1)), (3, .long (lI (-v))), (0, .ref h), (1, .long (lI v))]) hx hb d_Mo_putNumber_18 hl (by decide) rfl (fun ls hl => ?_)
    exact K_20 ((10000 - 1 : Int).toNat + 1) (-v) 1 1 (L ++ [45]) (by unfold absZ; first | (rw [if_neg (by omega)]) | (rw [if_pos (by omega)])) (Or.inr (Or.inr (Or.inr (Or.inl ⟨rfl, rfl⟩)))) (by omega) (by first | exact EXT_n (by omega) L | exact EXT_p (by omega) L) (by (try simp only [List.length_append, List.length_cons, List.length_nil]); omega) (by omega) _ _ _ (lv_sub hl [2, 3, 1, 0] rfl) (hP.sub [0, 1] rfl) (hD.sub [0, 1] (by decide) rfl) hS
set_option maxHeartbeats 4000000 in
set_option maxRecDepth 100000 in
theorem c_Mo_putExact (l : Launch) (D : va_G) (E : EVt) (h : Nat) (mlf : Nat) (mrt : Nat) (mpb : Nat) (mop : Nat) (mtz : Int) (mta : Nat) (moa : Nat) (mrl : Int) (mrh : Int) (mno : Bool) (mlo : Int) (mhi : Int) (mo1 : Nat) (mo2 : Nat) (mo3 : Nat) (mo4 : Nat) (mms : Int) (mex : Int) (mgd : Bool) (mon : Bool) (ot : Int → Int) (L : List Int) (sz : Int) (hL : (L.length : Int) + 23 ≤ 200) (hsz : 0 ≤ sz ∧ sz < 9218868437227405312) : CT l D classes (tyl E) (EVX E) y_Mo_putExact (Cond.code y_Mo_putExact b_Mo_putExact 7 none :: TB) (rmK 5 0 0 107) 0 0 [.ref h, .long (lI sz)] [(moa, .inl (E.1, 200, .inl (ia (Wr ot 0 L)))), (h, .inr (9, [.ref mlf, .ref mrt, .ref mpb, .ref mop, .int (iI mtz), .ref mta, .int (iI (L.length : Int)), .ref moa, .long (lI mrl), .long (lI mrh), .int (bI mno), .long (lI mlo), .long (lI mhi), .ref mo1, .ref mo2, .ref mo3, .ref mo4, .int (iI mms), .int (iI mex), .int (bI mgd), .int (bI mon)]))] (S := List Int) (fun u => [(moa, .inl (E.1, 200, .inl (ia (Wr ot 0 u)))), (h, .inr (9, [.ref mlf, .ref mrt, .ref mpb, .ref mop, .int (iI mtz), .ref mta, .int (iI (u.length : Int)), .ref moa, .long (lI mrl), .long (lI mrh), .int (bI mno), .long (lI mlo), .long (lI mhi), .ref mo1, .ref mo2, .ref mo3, .ref mo4, .int (iI mms), .int (iI mex), .int (bI mgd), .int (bI mon)]))]) (fun _ => none) (fun u => (u = L ++ B16 sz)) := by
  refine CT.ofv (eok E) (by decide) rfl (Nat.le_of_ble_eq_true rfl) ?_
  intro p e s m args below meth c A Q ls B hmn hP hD hS hl ret
  have B : Bd l D classes (tyl E) (EVX E) p m c b_Mo_putExact 7 s args (Cond.code y_Mo_putExact b_Mo_putExact 7 none :: TB) R_Mo A := B
  obtain ⟨⟨hx, hb, hml, hown, hts⟩, hX, hK, hE, hA⟩ := id B
  have hl : lv_has ls 7 [(0, .ref h), (1, .long (lI sz))] := hl
  have hP : va_P D classes [(moa, .inl (E.1, 200, .inl (ia (Wr ot 0 L)))), (h, .inr (9, [.ref mlf, .ref mrt, .ref mpb, .ref mop, .int (iI mtz), .ref mta, .int (iI (L.length : Int)), .ref moa, .long (lI mrl), .long (lI mrh), .int (bI mno), .long (lI mlo), .long (lI mhi), .ref mo1, .ref mo2, .ref mo3, .ref mo4, .int (iI mms), .int (iI mex), .int (bI mgd), .int (bI mon)]))] s.heap := hP
  have hD : va_D A [(moa, .inl (E.1, 200, .inl (ia (Wr ot 0 L)))), (h, .inr (9, [.ref mlf, .ref mrt, .ref mpb, .ref mop, .int (iI mtz), .ref mta, .int (iI (L.length : Int)), .ref moa, .long (lI mrl), .long (lI mrh), .int (bI mno), .long (lI mlo), .long (lI mhi), .ref mo1, .ref mo2, .ref mo3, .ref mo4, .int (iI mms), .int (iI mex), .int (bI mgd), .int (bI mon)]))] := hD
  have K_28 : ∀ (fuel28 : Nat) (sf : Int) (k : Nat) (M : List Int) (hs : sf = 4 * (k : Int) - 4) (hk : k ≤ 13) (hEE : L ++ B16 sz = M ++ (hF sz k ++ ([112] ++ EXT (max (sz / 4503599627370496) 1 - 1023)))) (hm : (M.length : Int) + (k : Int) ≤ (L.length : Int) + 17) (hf28 : sf + 4 < (fuel28 : Int)) (ls : Array Slot) (H : Heap) (locs : List Loc), lv_has ls 7 [(0, .ref h), (1, .long (lI sz)), (3, .long (lI (sz / 4503599627370496))), (5, .int (iI sf))] → va_P D classes [(moa, .inl (E.1, 200, .inl (ia (Wr ot 0 M)))), (h, .inr (9, [.ref mlf, .ref mrt, .ref mpb, .ref mop, .int (iI mtz), .ref mta, .int (iI (M.length : Int)), .ref moa, .long (lI mrl), .long (lI mrh), .int (bI mno), .long (lI mlo), .long (lI mhi), .ref mo1, .ref mo2, .ref mo3, .ref mo4, .int (iI mms), .int (iI mex), .int (bI mgd), .int (bI mon)]))] H → va_D A [(moa, .inl (E.1, 200, .inl (ia (Wr ot 0 M)))), (h, .inr (9, [.ref mlf, .ref mrt, .ref mpb, .ref mop, .int (iI mtz), .ref mta, .int (iI (M.length : Int)), .ref moa, .long (lI mrl), .long (lI mrh), .int (bI mno), .long (lI mlo), .long (lI mhi), .ref mo1, .ref mo2, .ref mo3, .ref mo4, .int (iI mms), .int (iI mex), .int (bI mgd), .int (bI mon)]))] → va_S A s.heap H locs → W p l e (rmK 5 0 0 107) s m args below meth c H locs 0 0 Q (F0 m 28 ls []) := by
    intro fuel28
    induction fuel28 with
    | zero =>
      intro sf k M hs hk hEE hm hf28 ls H locs hl hP hD hS
      exfalso; omega
    | succ fuel28 ih28 =>
      intro sf k M hs hk hEE hm hf28 ls H locs hl hP hD hS
      refine lv_iload hx hb d_Mo_putExact_28 (lv_at hl 3 rfl) ?_
      refine wi_if_lt (tgt := 74) hx hb d_Mo_putExact_30 (by decide) (by omega) (fun c_1 => ?_) (fun c_1 => ?_)
      · skip
        refine lv_aload_n hx hb d_Mo_putExact_74 rfl (lv_at hl 0 rfl) ?_
        refine wi_bipush hx hb d_Mo_putExact_75 (by decide) ?_
        refine wk_callV (As := [.int (iI 112)]) (rest := []) (wr := []) B gTB cl_Mo_289 (c_Mo_put l D E h mlf mrt mpb mop mtz mta moa mrl mrh mno mlo mhi mo1 mo2 mo3 mo4 mms mex mgd mon ot M 112 (by (try simp only [List.length_append, List.length_cons, List.length_nil]); omega)) ⟨⟨rfl, rfl⟩, Nat.le_of_ble_eq_true rfl, Nat.le_of_ble_eq_true rfl⟩ hP hD hS [0, 1] [] rfl rfl (by decide) 1 rfl rfl rfl ⟨hl.2.1, hl.1⟩ rfl (Nat.le_of_ble_eq_true rfl) d_Mo_putExact_77 ⟨Nat.le_of_ble_eq_true rfl, Nat.le_of_ble_eq_true rfl⟩ rfl (fun u H locs hw hP hD hS => ?_)
        have hP : va_P D classes [(moa, .inl (E.1, 200, .inl (ia (Wr ot 0 (M ++ [112]))))), (h, .inr (9, [.ref mlf, .ref mrt, .ref mpb, .ref mop, .int (iI mtz), .ref mta, .int (iI ((M ++ [112]).length : Int)), .ref moa, .long (lI mrl), .long (lI mrh), .int (bI mno), .long (lI mlo), .long (lI mhi), .ref mo1, .ref mo2, .ref mo3, .ref mo4, .int (iI mms), .int (iI mex), .int (bI mgd), .int (bI mon)]))] H := hP
        have hD : va_D A [(moa, .inl (E.1, 200, .inl (ia (Wr ot 0 (M ++ [112]))))), (h, .inr (9, [.ref mlf, .ref mrt, .ref mpb, .ref mop, .int (iI mtz), .ref mta, .int (iI ((M ++ [112]).length : Int)), .ref moa, .long (lI mrl), .long (lI mrh), .int (bI mno), .long (lI mlo), .long (lI mhi), .ref mo1, .ref mo2, .ref mo3, .ref mo4, .int (iI mms), .int (iI mex), .int (bI mgd), .int (bI mon)]))] := hD
        refine W.cs (g := F0 m 80 ls []) (cells' := 0) (slots' := 0) rfl rfl ?_
        refine lv_aload_n hx hb d_Mo_putExact_80 rfl (lv_at hl 0 rfl) ?_
        refine lv_lload_n hx hb d_Mo_putExact_81 rfl (lv_at hl 2 rfl) ?_
        refine wi_lconst (z := 0) hx hb d_Mo_putExact_82 (by decide) ?_
        refine wi_lcmp hx hb (by omega) (by omega) d_Mo_putExact_83 ?_
        refine wi_if_ne (tgt := 93) hx hb d_Mo_putExact_84 (by decide) (by have := cmpZ_rng (sz / 4503599627370496) 0; omega) (fun c_2 => ?_) (fun c_2 => ?_)
        · skip
          have c_2 := cmpZ_ne.mp c_2
          refine lv_lload_n hx hb d_Mo_putExact_93 rfl (lv_at hl 2 rfl) ?_
          refine wi_ldc2 hx hb 1023 hown (tb_h hts tw_Mo_constantLong_340) (by decide) d_Mo_putExact_94 ?_
          refine wi_lsub hx hb d_Mo_putExact_97 ?_
          refine wk_callV (As := [.long (lI (sz / 4503599627370496 - 1023))]) (rest := []) (wr := []) B gTB cl_Mo_342 (c_Mo_putNumber l D E h mlf mrt mpb mop mtz mta moa mrl mrh mno mlo mhi mo1 mo2 mo3 mo4 mms mex mgd mon ot (M ++ [112]) (sz / 4503599627370496 - 1023) (by omega) (by (try simp only [List.length_append, List.length_cons, List.length_nil]); omega)) ⟨⟨rfl, rfl⟩, Nat.le_of_ble_eq_true rfl, Nat.le_of_ble_eq_true rfl⟩ hP hD hS [0, 1] [] rfl rfl (by decide) 1 rfl rfl rfl ⟨hl.2.1, hl.1⟩ rfl (Nat.le_of_ble_eq_true rfl) d_Mo_putExact_98 ⟨Nat.le_of_ble_eq_true rfl, Nat.le_of_ble_eq_true rfl⟩ rfl (fun L2_3 H locs hw hP hD hS => ?_)
          have hP : va_P D classes [(moa, .inl (E.1, 200, .inl (ia (Wr ot 0 L2_3)))), (h, .inr (9, [.ref mlf, .ref mrt, .ref mpb, .ref mop, .int (iI mtz), .ref mta, .int (iI (L2_3.length : Int)), .ref moa, .long (lI mrl), .long (lI mrh), .int (bI mno), .long (lI mlo), .long (lI mhi), .ref mo1, .ref mo2, .ref mo3, .ref mo4, .int (iI mms), .int (iI mex), .int (bI mgd), .int (bI mon)]))] H := hP
          have hD : va_D A [(moa, .inl (E.1, 200, .inl (ia (Wr ot 0 L2_3)))), (h, .inr (9, [.ref mlf, .ref mrt, .ref mpb, .ref mop, .int (iI mtz), .ref mta, .int (iI (L2_3.length : Int)), .ref moa, .long (lI mrl), .long (lI mrh), .int (bI mno), .long (lI mlo), .long (lI mhi), .ref mo1, .ref mo2, .ref mo3, .ref mo4, .int (iI mms), .int (iI mex), .int (bI mgd), .int (bI mon)]))] := hD
          have hw : (L2_3 = (M ++ [112]) ++ EXT (sz / 4503599627370496 - 1023)) := hw
          have hL9 := hw
          refine W.cs (g := F0 m 101 ls []) (cells' := 0) (slots' := 0) rfl rfl ?_
          subst hL9
          refine W.eq (g2 := F0 m 101 ls []) rfl ?_
          exact ret ((M ++ [112]) ++ EXT (sz / 4503599627370496 - 1023)) _ _ _ _ d_Mo_putExact_101 (show (((M ++ [112]) ++ EXT (sz / 4503599627370496 - 1023)) = L ++ B16 sz) from (by rw [hEE, show k = 0 by omega]; simp only [hF, List.nil_append, List.append_assoc]; congr 3; omega)) (hP.sub [0, 1] rfl) (hD.sub [0, 1] (by decide) rfl) hS
        · skip
          have c_2 := cmpZ_eq.mp c_2
          refine wi_ldc2 hx hb (-1022) hown (tb_h hts tw_Mo_constantLong_338) (by decide) d_Mo_putExact_87 ?_
          refine lv_goto (tgt := 98) hx hb d_Mo_putExact_90 (by decide) ?_
          refine wk_callV (As := [.long (lI (-1022))]) (rest := []) (wr := []) B gTB cl_Mo_342 (c_Mo_putNumber l D E h mlf mrt mpb mop mtz mta moa mrl mrh mno mlo mhi mo1 mo2 mo3 mo4 mms mex mgd mon ot (M ++ [112]) (-1022) (by omega) (by (try simp only [List.length_append, List.length_cons, List.length_nil]); omega)) ⟨⟨rfl, rfl⟩, Nat.le_of_ble_eq_true rfl, Nat.le_of_ble_eq_true rfl⟩ hP hD hS [0, 1] [] rfl rfl (by decide) 1 rfl rfl rfl ⟨hl.2.1, hl.1⟩ rfl (Nat.le_of_ble_eq_true rfl) d_Mo_putExact_98 ⟨Nat.le_of_ble_eq_true rfl, Nat.le_of_ble_eq_true rfl⟩ rfl (fun L2_4 H locs hw hP hD hS => ?_)
          have hP : va_P D classes [(moa, .inl (E.1, 200, .inl (ia (Wr ot 0 L2_4)))), (h, .inr (9, [.ref mlf, .ref mrt, .ref mpb, .ref mop, .int (iI mtz), .ref mta, .int (iI (L2_4.length : Int)), .ref moa, .long (lI mrl), .long (lI mrh), .int (bI mno), .long (lI mlo), .long (lI mhi), .ref mo1, .ref mo2, .ref mo3, .ref mo4, .int (iI mms), .int (iI mex), .int (bI mgd), .int (bI mon)]))] H := hP
          have hD : va_D A [(moa, .inl (E.1, 200, .inl (ia (Wr ot 0 L2_4)))), (h, .inr (9, [.ref mlf, .ref mrt, .ref mpb, .ref mop, .int (iI mtz), .ref mta, .int (iI (L2_4.length : Int)), .ref moa, .long (lI mrl), .long (lI mrh), .int (bI mno), .long (lI mlo), .long (lI mhi), .ref mo1, .ref mo2, .ref mo3, .ref mo4, .int (iI mms), .int (iI mex), .int (bI mgd), .int (bI mon)]))] := hD
          have hw : (L2_4 = (M ++ [112]) ++ EXT (-1022)) := hw
          have hL9 := hw
          refine W.cs (g := F0 m 101 ls []) (cells' := 0) (slots' := 0) rfl rfl ?_
          subst hL9
          refine W.eq (g2 := F0 m 101 ls []) rfl ?_
          exact ret ((M ++ [112]) ++ EXT (-1022)) _ _ _ _ d_Mo_putExact_101 (show (((M ++ [112]) ++ EXT (-1022)) = L ++ B16 sz) from (by rw [hEE, show k = 0 by omega]; simp only [hF, List.nil_append, List.append_assoc]; congr 3; omega)) (hP.sub [0, 1] rfl) (hD.sub [0, 1] (by decide) rfl) hS
      · skip
        obtain ⟨k9, hk9⟩ : ∃ k9 : Nat, k = k9 + 1 := ⟨k - 1, by omega⟩
        subst hk9
        refine lv_lload_n hx hb d_Mo_putExact_33 rfl (lv_at hl 1 rfl) ?_
        refine lv_iload hx hb d_Mo_putExact_34 (lv_at hl 3 rfl) ?_
        refine wi_lushr hx hb sf.toNat ((16 : Int) ^ k9) (pow16 (by omega)) (by omega) (by omega) (by omega) d_Mo_putExact_36 ?_
        refine wi_ldc2 hx hb 15 hown (tb_h hts tw_Mo_constantLong_336) (by decide) d_Mo_putExact_37 ?_
        refine wi_lmask hx hb 4 16 (by decide +kernel) (by decide) (by decide) d_Mo_putExact_40 ?_
        refine wi_l2i hx hb d_Mo_putExact_41 ?_
        refine lv_istore (lv' := [(6, .int (iI ((sz / ((16 : Int) ^ k9)) % 16))), (0, .ref h), (1, .long (lI sz)), (3, .long (lI (sz / 4503599627370496))), (5, .int (iI sf))]) hx hb d_Mo_putExact_42 hl (by decide) rfl (fun ls hl => ?_)
        refine lv_aload_n hx hb d_Mo_putExact_44 rfl (lv_at hl 1 rfl) ?_
        refine lv_iload hx hb d_Mo_putExact_45 (lv_at hl 0 rfl) ?_
        refine wi_bipush hx hb d_Mo_putExact_47 (by decide) ?_
        refine wi_icmp_ge (tgt := 60) hx hb d_Mo_putExact_49 (by decide) (by omega) (by omega) (fun c_5 => ?_) (fun c_5 => ?_)
        · skip
          refine wi_bipush hx hb d_Mo_putExact_60 (by decide) ?_
          refine lv_iload hx hb d_Mo_putExact_62 (lv_at hl 0 rfl) ?_
          refine wi_iadd hx hb d_Mo_putExact_64 ?_
          refine wk_callV (As := [.int (iI (87 + ((sz / ((16 : Int) ^ k9)) % 16)))]) (rest := []) (wr := []) B gTB cl_Mo_289 (c_Mo_put l D E h mlf mrt mpb mop mtz mta moa mrl mrh mno mlo mhi mo1 mo2 mo3 mo4 mms mex mgd mon ot M (87 + ((sz / ((16 : Int) ^ k9)) % 16)) (by (try simp only [List.length_append, List.length_cons, List.length_nil]); omega)) ⟨⟨rfl, rfl⟩, Nat.le_of_ble_eq_true rfl, Nat.le_of_ble_eq_true rfl⟩ hP hD hS [0, 1] [] rfl rfl (by decide) 1 rfl rfl rfl ⟨hl.2.1, hl.1⟩ rfl (Nat.le_of_ble_eq_true rfl) d_Mo_putExact_65 ⟨Nat.le_of_ble_eq_true rfl, Nat.le_of_ble_eq_true rfl⟩ rfl (fun u H locs hw hP hD hS => ?_)
          have hP : va_P D classes [(moa, .inl (E.1, 200, .inl (ia (Wr ot 0 (M ++ [(87 + ((sz / ((16 : Int) ^ k9)) % 16))]))))), (h, .inr (9, [.ref mlf, .ref mrt, .ref mpb, .ref mop, .int (iI mtz), .ref mta, .int (iI ((M ++ [(87 + ((sz / ((16 : Int) ^ k9)) % 16))]).length : Int)), .ref moa, .long (lI mrl), .long (lI mrh), .int (bI mno), .long (lI mlo), .long (lI mhi), .ref mo1, .ref mo2, .ref mo3, .ref mo4, .int (iI mms), .int (iI mex), .int (bI mgd), .int (bI mon)]))] H := hP
          have hD : va_D A [(moa, .inl (E.1, 200, .inl (ia (Wr ot 0 (M ++ [(87 + ((sz / ((16 : Int) ^ k9)) % 16))]))))), (h, .inr (9, [.ref mlf, .ref mrt, .ref mpb, .ref mop, .int (iI mtz), .ref mta, .int (iI ((M ++ [(87 + ((sz / ((16 : Int) ^ k9)) % 16))]).length : Int)), .ref moa, .long (lI mrl), .long (lI mrh), .int (bI mno), .long (lI mlo), .long (lI mhi), .ref mo1, .ref mo2, .ref mo3, .ref mo4, .int (iI mms), .int (iI mex), .int (bI mgd), .int (bI mon)]))] := hD
          refine W.cs (g := F0 m 68 ls []) (cells' := 0) (slots' := 0) rfl rfl ?_
          refine wi_iinc (v := sf + (-4)) (lv' := [(5, .int (iI (sf + (-4)))), (6, .int (iI ((sz / ((16 : Int) ^ k9)) % 16))), (0, .ref h), (1, .long (lI sz)), (3, .long (lI (sz / 4503599627370496)))]) hx hb d_Mo_putExact_68 hl (k := 4) rfl rfl (by decide) rfl (fun ls hl => ?_)
          refine lv_goto (tgt := 28) hx hb d_Mo_putExact_71 (by decide) ?_
          exact ih28 (sf + (-4)) k9 (M ++ [(87 + ((sz / ((16 : Int) ^ k9)) % 16))]) (by omega) (by omega) (by rw [hEE, hF_s]; congr 3; unfold hxc; first | (rw [if_pos (by omega)]) | (rw [if_neg (by omega)])) (by (try simp only [List.length_append, List.length_cons, List.length_nil]); omega) (by omega) _ _ _ (lv_sub hl [2, 3, 4, 0] rfl) (hP.sub [0, 1] rfl) (hD.sub [0, 1] (by decide) rfl) hS
        · skip
          refine wi_bipush hx hb d_Mo_putExact_52 (by decide) ?_
          refine lv_iload hx hb d_Mo_putExact_54 (lv_at hl 0 rfl) ?_
          refine wi_iadd hx hb d_Mo_putExact_56 ?_
          refine lv_goto (tgt := 65) hx hb d_Mo_putExact_57 (by decide) ?_
          refine wk_callV (As := [.int (iI (48 + ((sz / ((16 : Int) ^ k9)) % 16)))]) (rest := []) (wr := []) B gTB cl_Mo_289 (c_Mo_put l D E h mlf mrt mpb mop mtz mta moa mrl mrh mno mlo mhi mo1 mo2 mo3 mo4 mms mex mgd mon ot M (48 + ((sz / ((16 : Int) ^ k9)) % 16)) (by (try simp only [List.length_append, List.length_cons, List.length_nil]); omega)) ⟨⟨rfl, rfl⟩, Nat.le_of_ble_eq_true rfl, Nat.le_of_ble_eq_true rfl⟩ hP hD hS [0, 1] [] rfl rfl (by decide) 1 rfl rfl rfl ⟨hl.2.1, hl.1⟩ rfl (Nat.le_of_ble_eq_true rfl) d_Mo_putExact_65 ⟨Nat.le_of_ble_eq_true rfl, Nat.le_of_ble_eq_true rfl⟩ rfl (fun u H locs hw hP hD hS => ?_)
          have hP : va_P D classes [(moa, .inl (E.1, 200, .inl (ia (Wr ot 0 (M ++ [(48 + ((sz / ((16 : Int) ^ k9)) % 16))]))))), (h, .inr (9, [.ref mlf, .ref mrt, .ref mpb, .ref mop, .int (iI mtz), .ref mta, .int (iI ((M ++ [(48 + ((sz / ((16 : Int) ^ k9)) % 16))]).length : Int)), .ref moa, .long (lI mrl), .long (lI mrh), .int (bI mno), .long (lI mlo), .long (lI mhi), .ref mo1, .ref mo2, .ref mo3, .ref mo4, .int (iI mms), .int (iI mex), .int (bI mgd), .int (bI mon)]))] H := hP
          have hD : va_D A [(moa, .inl (E.1, 200, .inl (ia (Wr ot 0 (M ++ [(48 + ((sz / ((16 : Int) ^ k9)) % 16))]))))), (h, .inr (9, [.ref mlf, .ref mrt, .ref mpb, .ref mop, .int (iI mtz), .ref mta, .int (iI ((M ++ [(48 + ((sz / ((16 : Int) ^ k9)) % 16))]).length : Int)), .ref moa, .long (lI mrl), .long (lI mrh), .int (bI mno), .long (lI mlo), .long (lI mhi), .ref mo1, .ref mo2, .ref mo3, .ref mo4, .int (iI mms), .int (iI mex), .int (bI mgd), .int (bI mon)]))] := hD
          refine W.cs (g := F0 m 68 ls []) (cells' := 0) (slots' := 0) rfl rfl ?_
          refine wi_iinc (v := sf + (-4)) (lv' := [(5, .int (iI (sf + (-4)))), (6, .int (iI ((sz / ((16 : Int) ^ k9)) % 16))), (0, .ref h), (1, .long (lI sz)), (3, .long (lI (sz / 4503599627370496)))]) hx hb d_Mo_putExact_68 hl (k := 4) rfl rfl (by decide) rfl (fun ls hl => ?_)
          refine lv_goto (tgt := 28) hx hb d_Mo_putExact_71 (by decide) ?_
          exact ih28 (sf + (-4)) k9 (M ++ [(48 + ((sz / ((16 : Int) ^ k9)) % 16))]) (by omega) (by omega) (by rw [hEE, hF_s]; congr 3; unfold hxc; first | (rw [if_pos (by omega)]) | (rw [if_neg (by omega)])) (by (try simp only [List.length_append, List.length_cons, List.length_nil]); omega) (by omega) _ _ _ (lv_sub hl [2, 3, 4, 0] rfl) (hP.sub [0, 1] rfl) (hD.sub [0, 1] (by decide) rfl) hS
  refine lv_lload_n hx hb d_Mo_putExact_0 rfl (lv_at hl 1 rfl) ?_
  refine wi_bipush hx hb d_Mo_putExact_1 (by decide) ?_
  refine wi_lushr hx hb 52 4503599627370496 (by decide +kernel) rfl (by decide) (by omega) d_Mo_putExact_3 ?_
  refine lv_lstore_n (lv' := [(3, .long (lI (sz / 4503599627370496))), (0, .ref h), (1, .long (lI sz))]) hx hb d_Mo_putExact_4 rfl hl (by decide) rfl (fun ls hl => ?_)
  refine lv_aload_n hx hb d_Mo_putExact_5 rfl (lv_at hl 1 rfl) ?_
  refine lv_lload_n hx hb d_Mo_putExact_6 rfl (lv_at hl 0 rfl) ?_
  refine wi_lconst (z := 0) hx hb d_Mo_putExact_7 (by decide) ?_
  refine wi_lcmp hx hb (by omega) (by omega) d_Mo_putExact_8 ?_
  refine wi_if_ne (tgt := 18) hx hb d_Mo_putExact_9 (by decide) (by have := cmpZ_rng (sz / 4503599627370496) 0; omega) (fun c_6 => ?_) (fun c_6 => ?_)
  · skip
    have c_6 := cmpZ_ne.mp c_6
    refine wk_ldcwS hx hb hown (sr_38 hE) d_Mo_putExact_18 ?_
    refine wk_callV (As := [.ref (E.2.2.1 38)]) (rest := []) (wr := []) B gTB cl_Mo_310 (c_Mo_putText l D E h mlf mrt mpb mop mtz mta moa mrl mrh mno mlo mhi mo1 mo2 mo3 mo4 mms mex mgd mon ot L 38 (by decide) (by rw [show strLen 38 = 4 from rfl]; (try simp only [List.length_append, List.length_cons, List.length_nil]); omega)) ⟨⟨rfl, rfl⟩, Nat.le_of_ble_eq_true rfl, Nat.le_of_ble_eq_true rfl⟩ hP hD hS [0, 1] [] rfl rfl (by decide) 1 rfl rfl rfl ⟨hl.2.1, hl.1⟩ rfl (Nat.le_of_ble_eq_true rfl) d_Mo_putExact_21 ⟨Nat.le_of_ble_eq_true rfl, Nat.le_of_ble_eq_true rfl⟩ rfl (fun L2_7 H locs hw hP hD hS => ?_)
    have hP : va_P D classes [(moa, .inl (E.1, 200, .inl (ia (Wr ot 0 L2_7)))), (h, .inr (9, [.ref mlf, .ref mrt, .ref mpb, .ref mop, .int (iI mtz), .ref mta, .int (iI (L2_7.length : Int)), .ref moa, .long (lI mrl), .long (lI mrh), .int (bI mno), .long (lI mlo), .long (lI mhi), .ref mo1, .ref mo2, .ref mo3, .ref mo4, .int (iI mms), .int (iI mex), .int (bI mgd), .int (bI mon)]))] H := hP
    have hD : va_D A [(moa, .inl (E.1, 200, .inl (ia (Wr ot 0 L2_7)))), (h, .inr (9, [.ref mlf, .ref mrt, .ref mpb, .ref mop, .int (iI mtz), .ref mta, .int (iI (L2_7.length : Int)), .ref moa, .long (lI mrl), .long (lI mrh), .int (bI mno), .long (lI mlo), .long (lI mhi), .ref mo1, .ref mo2, .ref mo3, .ref mo4, .int (iI mms), .int (iI mex), .int (bI mgd), .int (bI mon)]))] := hD
    have hw : (L2_7 = L ++ strByt.getD 38 []) := hw
    have hLt := hw
    refine W.cs (g := F0 m 24 ls []) (cells' := 0) (slots' := 0) rfl rfl ?_
    have hLt := hLt.symm
    subst hLt
    refine W.eq (g2 := F0 m 24 ls []) rfl ?_
    refine wi_bipush hx hb d_Mo_putExact_24 (by decide) ?_
    refine lv_istore (lv' := [(5, .int (iI 48)), (3, .long (lI (sz / 4503599627370496))), (0, .ref h), (1, .long (lI sz))]) hx hb d_Mo_putExact_26 hl (by decide) rfl (fun ls hl => ?_)
    exact K_28 ((48 + 4 : Int).toNat + 1) 48 13 (L ++ strByt.getD 38 []) (by decide) (by decide) (by unfold B16; rw [if_neg (by omega)]; rw [List.append_assoc]; rfl) (by simp only [List.length_append, show (strByt.getD 37 []).length = 4 from rfl, show (strByt.getD 38 []).length = 4 from rfl]; omega) (by omega) _ _ _ (lv_sub hl [2, 3, 1, 0] rfl) (hP.sub [0, 1] rfl) (hD.sub [0, 1] (by decide) rfl) hS
  · skip
    have c_6 := cmpZ_eq.mp c_6
    refine wk_ldcwS hx hb hown (sr_37 hE) d_Mo_putExact_12 ?_
    refine lv_goto (tgt := 21) hx hb d_Mo_putExact_15 (by decide) ?_
    refine wk_callV (As := [.ref (E.2.2.1 37)]) (rest := []) (wr := []) B gTB cl_Mo_310 (c_Mo_putText l D E h mlf mrt mpb mop mtz mta moa mrl mrh mno mlo mhi mo1 mo2 mo3 mo4 mms mex mgd mon ot L 37 (by decide) (by rw [show strLen 37 = 4 from rfl]; (try simp only [List.length_append, List.length_cons, List.length_nil]); omega)) ⟨⟨rfl, rfl⟩, Nat.le_of_ble_eq_true rfl, Nat.le_of_ble_eq_true rfl⟩ hP hD hS [0, 1] [] rfl rfl (by decide) 1 rfl rfl rfl ⟨hl.2.1, hl.1⟩ rfl (Nat.le_of_ble_eq_true rfl) d_Mo_putExact_21 ⟨Nat.le_of_ble_eq_true rfl, Nat.le_of_ble_eq_true rfl⟩ rfl (fun L2_8 H locs hw hP hD hS => ?_)
    have hP : va_P D classes [(moa, .inl (E.1, 200, .inl (ia (Wr ot 0 L2_8)))), (h, .inr (9, [.ref mlf, .ref mrt, .ref mpb, .ref mop, .int (iI mtz), .ref mta, .int (iI (L2_8.length : Int)), .ref moa, .long (lI mrl), .long (lI mrh), .int (bI mno), .long (lI mlo), .long (lI mhi), .ref mo1, .ref mo2, .ref mo3, .ref mo4, .int (iI mms), .int (iI mex), .int (bI mgd), .int (bI mon)]))] H := hP
    have hD : va_D A [(moa, .inl (E.1, 200, .inl (ia (Wr ot 0 L2_8)))), (h, .inr (9, [.ref mlf, .ref mrt, .ref mpb, .ref mop, .int (iI mtz), .ref mta, .int (iI (L2_8.length : Int)), .ref moa, .long (lI mrl), .long (lI mrh), .int (bI mno), .long (lI mlo), .long (lI mhi), .ref mo1, .ref mo2, .ref mo3, .ref mo4, .int (iI mms), .int (iI mex), .int (bI mgd), .int (bI mon)]))] := hD
    have hw : (L2_8 = L ++ strByt.getD 37 []) := hw
    have hLt := hw
    refine W.cs (g := F0 m 24 ls []) (cells' := 0) (slots' := 0) rfl rfl ?_
    have hLt := hLt.symm
    subst hLt
    refine W.eq (g2 := F0 m 24 ls []) rfl ?_
    refine wi_bipush hx hb d_Mo_putExact_24 (by decide) ?_
    refine lv_istore (lv' := [(5, .int (iI 48)), (3, .long (lI (sz / 4503599627370496))), (0, .ref h), (1, .long (lI sz))]) hx hb d_Mo_putExact_26 hl (by decide) rfl (fun ls hl => ?_)
    exact K_28 ((48 + 4 : Int).toNat + 1) 48 13 (L ++ strByt.getD 37 []) (by decide) (by decide) (by unfold B16; rw [if_pos (by omega)]; rw [List.append_assoc]; rfl) (by simp only [List.length_append, show (strByt.getD 37 []).length = 4 from rfl, show (strByt.getD 38 []).length = 4 from rfl]; omega) (by omega) _ _ _ (lv_sub hl [2, 3, 1, 0] rfl) (hP.sub [0, 1] rfl) (hD.sub [0, 1] (by decide) rfl) hS
set_option maxHeartbeats 4000000 in
set_option maxRecDepth 100000 in
theorem c_Mo_isInfinite (l : Launch) (D : va_G) (E : EVt) (f : Int) (hf : -9223372036854775808 ≤ f ∧ f < 9223372036854775808) : CT l D classes (tyl E) (EVX E) y_Mo_isInfinite (Cond.code y_Mo_isInfinite b_Mo_isInfinite 2 (some .boolean) :: TB) (rmK 0 0 0 0) 0 0 [.long (lI f)] [] (S := Bool) (fun _ => []) (fun u => some (.int (bI u))) (fun u => (u = decide (f % 9223372036854775808 = 9218868437227405312))) := by
  refine CT.ofz (fv := fun (u : Bool) => u) (eok E) (by decide) rfl (Nat.le_of_ble_eq_true rfl) ?_
  intro p e s m args below meth c A Q ls B hmn hP hD hS hl ret
  have B : Bd l D classes (tyl E) (EVX E) p m c b_Mo_isInfinite 2 s args (Cond.code y_Mo_isInfinite b_Mo_isInfinite 2 (some .boolean) :: TB) R_Mo A := B
  obtain ⟨⟨hx, hb, hml, hown, hts⟩, hX, hK, hE, hA⟩ := id B
  have hl : lv_has ls 2 [(0, .long (lI f))] := hl
  have hP : va_P D classes [] s.heap := hP
  have hD : va_D A [] := hD
  refine lv_lload_n hx hb d_Mo_isInfinite_0 rfl (lv_at hl 0 rfl) ?_
  refine wi_ldc2 hx hb 9223372036854775807 hown (tb_h hts tw_Mo_constantLong_55) (by decide) d_Mo_isInfinite_1 ?_
  refine wi_lmask hx hb 63 9223372036854775808 (by decide +kernel) (by decide) (by decide) d_Mo_isInfinite_4 ?_
  refine wi_ldc2 hx hb 9218868437227405312 hown (tb_h hts tw_Mo_constantLong_61) (by decide) d_Mo_isInfinite_5 ?_
  refine wi_lcmp hx hb (by omega) (by omega) d_Mo_isInfinite_8 ?_
  refine wi_if_ne (tgt := 16) hx hb d_Mo_isInfinite_9 (by decide) (by have := cmpZ_rng (f % 9223372036854775808) 9218868437227405312; omega) (fun c_1 => ?_) (fun c_1 => ?_)
  · skip
    have c_1 := cmpZ_ne.mp c_1
    refine wi_iconst (n := 0) hx hb d_Mo_isInfinite_16 ?_
    refine w_as0 ?_
    exact ret false _ _ _ _ d_Mo_isInfinite_17 (show (false = decide (f % 9223372036854775808 = 9218868437227405312)) from ((decide_eq_false (by omega)).symm)) (hP.sub [] rfl) (hD.sub [] (by decide) rfl) hS
  · skip
    have c_1 := cmpZ_eq.mp c_1
    refine wi_iconst (n := 1) hx hb d_Mo_isInfinite_12 ?_
    refine lv_goto (tgt := 17) hx hb d_Mo_isInfinite_13 (by decide) ?_
    refine w_as1 ?_
    exact ret true _ _ _ _ d_Mo_isInfinite_17 (show (true = decide (f % 9223372036854775808 = 9218868437227405312)) from ((decide_eq_true (by omega)).symm)) (hP.sub [] rfl) (hD.sub [] (by decide) rfl) hS
set_option maxHeartbeats 4000000 in
set_option maxRecDepth 100000 in
theorem c_Mo_isBounded (l : Launch) (D : va_G) (E : EVt) (h : Nat) (mlf : Nat) (mrt : Nat) (mpb : Nat) (mop : Nat) (mtz : Int) (mta : Nat) (moz : Int) (moa : Nat) (mrl : Int) (mrh : Int) (mno : Bool) (mlo : Int) (mhi : Int) (mo1 : Nat) (mo2 : Nat) (mo3 : Nat) (mo4 : Nat) (mms : Int) (mex : Int) (mgd : Bool) (mon : Bool) (hmlo : -9223372036854775808 ≤ mlo ∧ mlo < 9223372036854775808) (hmhi : -9223372036854775808 ≤ mhi ∧ mhi < 9223372036854775808) : CT l D classes (tyl E) (EVX E) y_Mo_isBounded (Cond.code y_Mo_isBounded b_Mo_isBounded 1 (some .boolean) :: TB) (rmK 1 0 0 21) 0 0 [.ref h] [(h, .inr (9, [.ref mlf, .ref mrt, .ref mpb, .ref mop, .int (iI mtz), .ref mta, .int (iI moz), .ref moa, .long (lI mrl), .long (lI mrh), .int (bI mno), .long (lI mlo), .long (lI mhi), .ref mo1, .ref mo2, .ref mo3, .ref mo4, .int (iI mms), .int (iI mex), .int (bI mgd), .int (bI mon)]))] (S := Bool) (fun _ => [(h, .inr (9, [.ref mlf, .ref mrt, .ref mpb, .ref mop, .int (iI mtz), .ref mta, .int (iI moz), .ref moa, .long (lI mrl), .long (lI mrh), .int (bI mno), .long (lI mlo), .long (lI mhi), .ref mo1, .ref mo2, .ref mo3, .ref mo4, .int (iI mms), .int (iI mex), .int (bI mgd), .int (bI mon)]))]) (fun u => some (.int (bI u))) (fun u => (u = true ↔ (mno = false ∧ mlo % 9223372036854775808 ≠ 9218868437227405312 ∧ mhi % 9223372036854775808 ≠ 9218868437227405312))) := by
  refine CT.ofz (fv := fun (u : Bool) => u) (eok E) (by decide) rfl (Nat.le_of_ble_eq_true rfl) ?_
  intro p e s m args below meth c A Q ls B hmn hP hD hS hl ret
  have B : Bd l D classes (tyl E) (EVX E) p m c b_Mo_isBounded 1 s args (Cond.code y_Mo_isBounded b_Mo_isBounded 1 (some .boolean) :: TB) R_Mo A := B
  obtain ⟨⟨hx, hb, hml, hown, hts⟩, hX, hK, hE, hA⟩ := id B
  have hl : lv_has ls 1 [(0, .ref h)] := hl
  have hP : va_P D classes [(h, .inr (9, [.ref mlf, .ref mrt, .ref mpb, .ref mop, .int (iI mtz), .ref mta, .int (iI moz), .ref moa, .long (lI mrl), .long (lI mrh), .int (bI mno), .long (lI mlo), .long (lI mhi), .ref mo1, .ref mo2, .ref mo3, .ref mo4, .int (iI mms), .int (iI mex), .int (bI mgd), .int (bI mon)]))] s.heap := hP
  have hD : va_D A [(h, .inr (9, [.ref mlf, .ref mrt, .ref mpb, .ref mop, .int (iI mtz), .ref mta, .int (iI moz), .ref moa, .long (lI mrl), .long (lI mrh), .int (bI mno), .long (lI mlo), .long (lI mhi), .ref mo1, .ref mo2, .ref mo3, .ref mo4, .int (iI mms), .int (iI mex), .int (bI mgd), .int (bI mon)]))] := hD
  refine lv_aload_n hx hb d_Mo_isBounded_0 rfl (lv_at hl 0 rfl) ?_
  refine wk_get B hP 0 rfl fl_Mo_140 (v := .int (bI mno)) rfl d_Mo_isBounded_1 ?_
  refine wb_if_ne (tgt := 31) hx hb d_Mo_isBounded_4 (by decide) (fun c_1 => ?_) (fun c_1 => ?_)
  · skip
    refine wi_iconst (n := 0) hx hb d_Mo_isBounded_31 ?_
    refine w_as0 ?_
    exact ret false _ _ _ _ d_Mo_isBounded_32 (show (false = true ↔ (mno = false ∧ mlo % 9223372036854775808 ≠ 9218868437227405312 ∧ mhi % 9223372036854775808 ≠ 9218868437227405312)) from (⟨fun z => (by cases z), fun z => by exfalso; first | exact z.2.2 (of_decide_eq_true c_7) | exact z.2.1 (of_decide_eq_true c_4) | (have y := z.1; rw [c_1] at y; cases y)⟩)) (hP.sub [0] rfl) (hD.sub [0] (by decide) rfl) hS
  · skip
    refine lv_aload_n hx hb d_Mo_isBounded_7 rfl (lv_at hl 0 rfl) ?_
    refine wk_get B hP 0 rfl fl_Mo_143 (v := .long (lI mlo)) rfl d_Mo_isBounded_8 ?_
    refine wk_callS (As := [.long (lI mlo)]) (rest := []) (wr := [(h, .inr (9, [.ref mlf, .ref mrt, .ref mpb, .ref mop, .int (iI mtz), .ref mta, .int (iI moz), .ref moa, .long (lI mrl), .long (lI mrh), .int (bI mno), .long (lI mlo), .long (lI mhi), .ref mo1, .ref mo2, .ref mo3, .ref mo4, .int (iI mms), .int (iI mex), .int (bI mgd), .int (bI mon)]))]) B gTB cl_Mo_146 (c_Mo_isInfinite l D E mlo (hmlo)) ⟨⟨rfl, rfl⟩, Nat.le_of_ble_eq_true rfl, Nat.le_of_ble_eq_true rfl⟩ hP hD hS [] [0] rfl rfl (by decide) ⟨hl.2.1, hl.1⟩ rfl (Nat.le_of_ble_eq_true rfl) d_Mo_isBounded_11 ⟨Nat.le_of_ble_eq_true rfl, Nat.le_of_ble_eq_true rfl⟩ rfl (fun r_2 H locs hw hP hD hS => ?_)
    have hP : va_P D classes [(h, .inr (9, [.ref mlf, .ref mrt, .ref mpb, .ref mop, .int (iI mtz), .ref mta, .int (iI moz), .ref moa, .long (lI mrl), .long (lI mrh), .int (bI mno), .long (lI mlo), .long (lI mhi), .ref mo1, .ref mo2, .ref mo3, .ref mo4, .int (iI mms), .int (iI mex), .int (bI mgd), .int (bI mon)]))] H := hP
    have hD : va_D A [(h, .inr (9, [.ref mlf, .ref mrt, .ref mpb, .ref mop, .int (iI mtz), .ref mta, .int (iI moz), .ref moa, .long (lI mrl), .long (lI mrh), .int (bI mno), .long (lI mlo), .long (lI mhi), .ref mo1, .ref mo2, .ref mo3, .ref mo4, .int (iI mms), .int (iI mex), .int (bI mgd), .int (bI mon)]))] := hD
    have hw : (r_2 = decide (mlo % 9223372036854775808 = 9218868437227405312)) := hw
    have hr_3 := hw
    refine W.cs (g := F0 m 14 ls [.int (bI r_2)]) (cells' := 0) (slots' := 0) rfl rfl ?_
    subst hr_3
    refine wb_if_ne (tgt := 31) hx hb d_Mo_isBounded_14 (by decide) (fun c_4 => ?_) (fun c_4 => ?_)
    · skip
      refine wi_iconst (n := 0) hx hb d_Mo_isBounded_31 ?_
      refine w_as0 ?_
      exact ret false _ _ _ _ d_Mo_isBounded_32 (show (false = true ↔ (mno = false ∧ mlo % 9223372036854775808 ≠ 9218868437227405312 ∧ mhi % 9223372036854775808 ≠ 9218868437227405312)) from (⟨fun z => (by cases z), fun z => by exfalso; first | exact z.2.2 (of_decide_eq_true c_7) | exact z.2.1 (of_decide_eq_true c_4) | (have y := z.1; rw [c_1] at y; cases y)⟩)) (hP.sub [0] rfl) (hD.sub [0] (by decide) rfl) hS
    · skip
      refine lv_aload_n hx hb d_Mo_isBounded_17 rfl (lv_at hl 0 rfl) ?_
      refine wk_get B hP 0 rfl fl_Mo_150 (v := .long (lI mhi)) rfl d_Mo_isBounded_18 ?_
      refine wk_callS (As := [.long (lI mhi)]) (rest := []) (wr := [(h, .inr (9, [.ref mlf, .ref mrt, .ref mpb, .ref mop, .int (iI mtz), .ref mta, .int (iI moz), .ref moa, .long (lI mrl), .long (lI mrh), .int (bI mno), .long (lI mlo), .long (lI mhi), .ref mo1, .ref mo2, .ref mo3, .ref mo4, .int (iI mms), .int (iI mex), .int (bI mgd), .int (bI mon)]))]) B gTB cl_Mo_146 (c_Mo_isInfinite l D E mhi (hmhi)) ⟨⟨rfl, rfl⟩, Nat.le_of_ble_eq_true rfl, Nat.le_of_ble_eq_true rfl⟩ hP hD hS [] [0] rfl rfl (by decide) ⟨hl.2.1, hl.1⟩ rfl (Nat.le_of_ble_eq_true rfl) d_Mo_isBounded_21 ⟨Nat.le_of_ble_eq_true rfl, Nat.le_of_ble_eq_true rfl⟩ rfl (fun r_5 H locs hw hP hD hS => ?_)
      have hP : va_P D classes [(h, .inr (9, [.ref mlf, .ref mrt, .ref mpb, .ref mop, .int (iI mtz), .ref mta, .int (iI moz), .ref moa, .long (lI mrl), .long (lI mrh), .int (bI mno), .long (lI mlo), .long (lI mhi), .ref mo1, .ref mo2, .ref mo3, .ref mo4, .int (iI mms), .int (iI mex), .int (bI mgd), .int (bI mon)]))] H := hP
      have hD : va_D A [(h, .inr (9, [.ref mlf, .ref mrt, .ref mpb, .ref mop, .int (iI mtz), .ref mta, .int (iI moz), .ref moa, .long (lI mrl), .long (lI mrh), .int (bI mno), .long (lI mlo), .long (lI mhi), .ref mo1, .ref mo2, .ref mo3, .ref mo4, .int (iI mms), .int (iI mex), .int (bI mgd), .int (bI mon)]))] := hD
      have hw : (r_5 = decide (mhi % 9223372036854775808 = 9218868437227405312)) := hw
      have hr_6 := hw
      refine W.cs (g := F0 m 24 ls [.int (bI r_5)]) (cells' := 0) (slots' := 0) rfl rfl ?_
      subst hr_6
      refine wb_if_ne (tgt := 31) hx hb d_Mo_isBounded_24 (by decide) (fun c_7 => ?_) (fun c_7 => ?_)
      · skip
        refine wi_iconst (n := 0) hx hb d_Mo_isBounded_31 ?_
        refine w_as0 ?_
        exact ret false _ _ _ _ d_Mo_isBounded_32 (show (false = true ↔ (mno = false ∧ mlo % 9223372036854775808 ≠ 9218868437227405312 ∧ mhi % 9223372036854775808 ≠ 9218868437227405312)) from (⟨fun z => (by cases z), fun z => by exfalso; first | exact z.2.2 (of_decide_eq_true c_7) | exact z.2.1 (of_decide_eq_true c_4) | (have y := z.1; rw [c_1] at y; cases y)⟩)) (hP.sub [0] rfl) (hD.sub [0] (by decide) rfl) hS
      · skip
        refine wi_iconst (n := 1) hx hb d_Mo_isBounded_27 ?_
        refine lv_goto (tgt := 32) hx hb d_Mo_isBounded_28 (by decide) ?_
        refine w_as1 ?_
        exact ret true _ _ _ _ d_Mo_isBounded_32 (show (true = true ↔ (mno = false ∧ mlo % 9223372036854775808 ≠ 9218868437227405312 ∧ mhi % 9223372036854775808 ≠ 9218868437227405312)) from (⟨fun _ => ⟨c_1, of_decide_eq_false c_4, of_decide_eq_false c_7⟩, fun _ => rfl⟩)) (hP.sub [0] rfl) (hD.sub [0] (by decide) rfl) hS
set_option maxHeartbeats 4000000 in
set_option maxRecDepth 100000 in
theorem c_Mo_strongest (l : Launch) (D : va_G) (E : EVt) (h : Nat) (mlf : Nat) (mrt : Nat) (mpb : Nat) (mop : Nat) (mtz : Int) (mta : Nat) (moz : Int) (moa : Nat) (mrl : Int) (mrh : Int) (mno : Bool) (mlo : Int) (mhi : Int) (mo1 : Nat) (mo2 : Nat) (mo3 : Nat) (mo4 : Nat) (mms : Int) (mex : Int) (mgd : Bool) (mon : Bool) (hmlo : -9223372036854775808 ≤ mlo ∧ mlo < 9223372036854775808) (hmhi : -9223372036854775808 ≤ mhi ∧ mhi < 9223372036854775808) : CT l D classes (tyl E) (EVX E) y_Mo_strongest (Cond.code y_Mo_strongest b_Mo_strongest 1 (some .int) :: TB) (rmK 2 0 0 41) 0 0 [.ref h] [(h, .inr (9, [.ref mlf, .ref mrt, .ref mpb, .ref mop, .int (iI mtz), .ref mta, .int (iI moz), .ref moa, .long (lI mrl), .long (lI mrh), .int (bI mno), .long (lI mlo), .long (lI mhi), .ref mo1, .ref mo2, .ref mo3, .ref mo4, .int (iI mms), .int (iI mex), .int (bI mgd), .int (bI mon)]))] (S := Int) (fun _ => [(h, .inr (9, [.ref mlf, .ref mrt, .ref mpb, .ref mop, .int (iI mtz), .ref mta, .int (iI moz), .ref moa, .long (lI mrl), .long (lI mrh), .int (bI mno), .long (lI mlo), .long (lI mhi), .ref mo1, .ref mo2, .ref mo3, .ref mo4, .int (iI mms), .int (iI mex), .int (bI mgd), .int (bI mon)]))]) (fun u => some (.int (iI u))) (fun u => ((mno = true ∧ u = 1) ∨ (mno = false ∧ mlo % 9223372036854775808 ≠ 9218868437227405312 ∧ mhi % 9223372036854775808 ≠ 9218868437227405312 ∧ u = 4) ∨ (mno = false ∧ (mlo % 9223372036854775808 = 9218868437227405312 ∨ mhi % 9223372036854775808 = 9218868437227405312) ∧ u = 3))) := by
  refine CT.ofi (fv := fun (u : Int) => u) (eok E) (by decide) rfl (Nat.le_of_ble_eq_true rfl) ?_
  intro p e s m args below meth c A Q ls B hmn hP hD hS hl ret
  have B : Bd l D classes (tyl E) (EVX E) p m c b_Mo_strongest 1 s args (Cond.code y_Mo_strongest b_Mo_strongest 1 (some .int) :: TB) R_Mo A := B
  obtain ⟨⟨hx, hb, hml, hown, hts⟩, hX, hK, hE, hA⟩ := id B
  have hl : lv_has ls 1 [(0, .ref h)] := hl
  have hP : va_P D classes [(h, .inr (9, [.ref mlf, .ref mrt, .ref mpb, .ref mop, .int (iI mtz), .ref mta, .int (iI moz), .ref moa, .long (lI mrl), .long (lI mrh), .int (bI mno), .long (lI mlo), .long (lI mhi), .ref mo1, .ref mo2, .ref mo3, .ref mo4, .int (iI mms), .int (iI mex), .int (bI mgd), .int (bI mon)]))] s.heap := hP
  have hD : va_D A [(h, .inr (9, [.ref mlf, .ref mrt, .ref mpb, .ref mop, .int (iI mtz), .ref mta, .int (iI moz), .ref moa, .long (lI mrl), .long (lI mrh), .int (bI mno), .long (lI mlo), .long (lI mhi), .ref mo1, .ref mo2, .ref mo3, .ref mo4, .int (iI mms), .int (iI mex), .int (bI mgd), .int (bI mon)]))] := hD
  refine lv_aload_n hx hb d_Mo_strongest_0 rfl (lv_at hl 0 rfl) ?_
  refine wk_get B hP 0 rfl fl_Mo_140 (v := .int (bI mno)) rfl d_Mo_strongest_1 ?_
  refine wb_if_eq (tgt := 11) hx hb d_Mo_strongest_4 (by decide) (fun c_1 => ?_) (fun c_1 => ?_)
  · skip
    refine lv_aload_n hx hb d_Mo_strongest_11 rfl (lv_at hl 0 rfl) ?_
    refine wk_callV (As := []) (rest := []) (wr := []) B gTB cl_Mo_153 (c_Mo_isBounded l D E h mlf mrt mpb mop mtz mta moz moa mrl mrh mno mlo mhi mo1 mo2 mo3 mo4 mms mex mgd mon (hmlo) (hmhi)) ⟨⟨rfl, rfl⟩, Nat.le_of_ble_eq_true rfl, Nat.le_of_ble_eq_true rfl⟩ hP hD hS [0] [] rfl rfl (by decide) 0 rfl rfl rfl ⟨hl.2.1, hl.1⟩ rfl (Nat.le_of_ble_eq_true rfl) d_Mo_strongest_12 ⟨Nat.le_of_ble_eq_true rfl, Nat.le_of_ble_eq_true rfl⟩ rfl (fun bd9 H locs hw hP hD hS => ?_)
    have hP : va_P D classes [(h, .inr (9, [.ref mlf, .ref mrt, .ref mpb, .ref mop, .int (iI mtz), .ref mta, .int (iI moz), .ref moa, .long (lI mrl), .long (lI mrh), .int (bI mno), .long (lI mlo), .long (lI mhi), .ref mo1, .ref mo2, .ref mo3, .ref mo4, .int (iI mms), .int (iI mex), .int (bI mgd), .int (bI mon)]))] H := hP
    have hD : va_D A [(h, .inr (9, [.ref mlf, .ref mrt, .ref mpb, .ref mop, .int (iI mtz), .ref mta, .int (iI moz), .ref moa, .long (lI mrl), .long (lI mrh), .int (bI mno), .long (lI mlo), .long (lI mhi), .ref mo1, .ref mo2, .ref mo3, .ref mo4, .int (iI mms), .int (iI mex), .int (bI mgd), .int (bI mon)]))] := hD
    have hw : (bd9 = true ↔ (mno = false ∧ mlo % 9223372036854775808 ≠ 9218868437227405312 ∧ mhi % 9223372036854775808 ≠ 9218868437227405312)) := hw
    have hbd := hw
    refine W.cs (g := F0 m 15 ls [.int (bI bd9)]) (cells' := 0) (slots' := 0) rfl rfl ?_
    refine wb_if_eq (tgt := 22) hx hb d_Mo_strongest_15 (by decide) (fun c_2 => ?_) (fun c_2 => ?_)
    · skip
      refine wi_iconst (n := 3) hx hb d_Mo_strongest_22 ?_
      exact ret 3 _ _ _ _ d_Mo_strongest_23 (show ((mno = true ∧ 3 = 1) ∨ (mno = false ∧ mlo % 9223372036854775808 ≠ 9218868437227405312 ∧ mhi % 9223372036854775808 ≠ 9218868437227405312 ∧ 3 = 4) ∨ (mno = false ∧ (mlo % 9223372036854775808 = 9218868437227405312 ∨ mhi % 9223372036854775808 = 9218868437227405312) ∧ 3 = 3)) from (Or.inr (Or.inr ⟨c_1, Decidable.byContradiction (fun z => by rw [hbd.mpr ⟨c_1, fun z1 => z (Or.inl z1), fun z1 => z (Or.inr z1)⟩] at c_2; cases c_2), rfl⟩))) (hP.sub [0] rfl) (hD.sub [0] (by decide) rfl) hS
    · skip
      refine wi_iconst (n := 4) hx hb d_Mo_strongest_18 ?_
      refine lv_goto (tgt := 23) hx hb d_Mo_strongest_19 (by decide) ?_
      exact ret 4 _ _ _ _ d_Mo_strongest_23 (show ((mno = true ∧ 4 = 1) ∨ (mno = false ∧ mlo % 9223372036854775808 ≠ 9218868437227405312 ∧ mhi % 9223372036854775808 ≠ 9218868437227405312 ∧ 4 = 4) ∨ (mno = false ∧ (mlo % 9223372036854775808 = 9218868437227405312 ∨ mhi % 9223372036854775808 = 9218868437227405312) ∧ 4 = 3)) from (Or.inr (Or.inl ⟨c_1, (hbd.mp c_2).2.1, (hbd.mp c_2).2.2, rfl⟩))) (hP.sub [0] rfl) (hD.sub [0] (by decide) rfl) hS
  · skip
    refine wi_iconst (n := 1) hx hb d_Mo_strongest_7 ?_
    refine lv_goto (tgt := 23) hx hb d_Mo_strongest_8 (by decide) ?_
    exact ret 1 _ _ _ _ d_Mo_strongest_23 (show ((mno = true ∧ 1 = 1) ∨ (mno = false ∧ mlo % 9223372036854775808 ≠ 9218868437227405312 ∧ mhi % 9223372036854775808 ≠ 9218868437227405312 ∧ 1 = 4) ∨ (mno = false ∧ (mlo % 9223372036854775808 = 9218868437227405312 ∨ mhi % 9223372036854775808 = 9218868437227405312) ∧ 1 = 3)) from (Or.inl ⟨c_1, rfl⟩)) (hP.sub [0] rfl) (hD.sub [0] (by decide) rfl) hS
set_option maxHeartbeats 4000000 in
set_option maxRecDepth 100000 in
theorem c_Mo_mayBe (l : Launch) (D : va_G) (E : EVt) (f : Int) (lb : Bool) (hf : -9223372036854775808 ≤ f ∧ f < 9223372036854775808) : CT l D classes (tyl E) (EVX E) y_Mo_mayBe (Cond.code y_Mo_mayBe b_Mo_mayBe 3 (some .boolean) :: TB) (rmK 0 0 0 0) 0 0 [.long (lI f), .int (bI lb)] [] (S := Bool) (fun _ => []) (fun u => some (.int (bI u))) (fun u => (u = true ↔ (f % 9223372036854775808 < 9218868437227405312 ∨ f = (if lb = true then -4503599627370496 else 9218868437227405312)))) := by
  refine CT.ofz (fv := fun (u : Bool) => u) (eok E) (by decide) rfl (Nat.le_of_ble_eq_true rfl) ?_
  intro p e s m args below meth c A Q ls B hmn hP hD hS hl ret
  have B : Bd l D classes (tyl E) (EVX E) p m c b_Mo_mayBe 3 s args (Cond.code y_Mo_mayBe b_Mo_mayBe 3 (some .boolean) :: TB) R_Mo A := B
  obtain ⟨⟨hx, hb, hml, hown, hts⟩, hX, hK, hE, hA⟩ := id B
  have hl : lv_has ls 3 [(0, .long (lI f)), (2, .int (bI lb))] := hl
  have hP : va_P D classes [] s.heap := hP
  have hD : va_D A [] := hD
  refine lv_lload_n hx hb d_Mo_mayBe_0 rfl (lv_at hl 0 rfl) ?_
  refine wi_ldc2 hx hb 9223372036854775807 hown (tb_h hts tw_Mo_constantLong_55) (by decide) d_Mo_mayBe_1 ?_
  refine wi_lmask hx hb 63 9223372036854775808 (by decide +kernel) (by decide) (by decide) d_Mo_mayBe_4 ?_
  refine wi_ldc2 hx hb 9218868437227405312 hown (tb_h hts tw_Mo_constantLong_61) (by decide) d_Mo_mayBe_5 ?_
  refine wi_lcmp hx hb (by omega) (by omega) d_Mo_mayBe_8 ?_
  refine wi_if_lt (tgt := 30) hx hb d_Mo_mayBe_9 (by decide) (by have := cmpZ_rng (f % 9223372036854775808) 9218868437227405312; omega) (fun c_1 => ?_) (fun c_1 => ?_)
  · skip
    have c_1 := cmpZ_lt.mp c_1
    refine wi_iconst (n := 1) hx hb d_Mo_mayBe_30 ?_
    refine lv_goto (tgt := 35) hx hb d_Mo_mayBe_31 (by decide) ?_
    refine w_as1 ?_
    exact ret true _ _ _ _ d_Mo_mayBe_35 (show (true = true ↔ (f % 9223372036854775808 < 9218868437227405312 ∨ f = (if lb = true then -4503599627370496 else 9218868437227405312))) from (⟨fun _ => by first | exact Or.inl (by omega) | exact Or.inr (by rw [NOCOND14]; first | (rw [if_pos rfl]; omega) | (rw [if_neg (by decide)]; omega)), fun _ => rfl⟩)) (hP.sub [] rfl) (hD.sub [] (by decide) rfl) hS
  · skip
    have c_1 := cmpZ_ge.mp c_1
    refine lv_lload_n hx hb d_Mo_mayBe_12 rfl (lv_at hl 0 rfl) ?_
    refine lv_iload_n hx hb d_Mo_mayBe_13 rfl (lv_at hl 1 rfl) ?_
    refine wb_if_eq (tgt := 23) hx hb d_Mo_mayBe_14 (by decide) (fun c_2 => ?_) (fun c_2 => ?_)
    · skip
      refine wi_ldc2 hx hb 9218868437227405312 hown (tb_h hts tw_Mo_constantLong_61) (by decide) d_Mo_mayBe_23 ?_
      refine wi_lcmp hx hb (by omega) (by omega) d_Mo_mayBe_26 ?_
      refine wi_if_ne (tgt := 34) hx hb d_Mo_mayBe_27 (by decide) (by have := cmpZ_rng f 9218868437227405312; omega) (fun c_3 => ?_) (fun c_3 => ?_)
      · skip
        have c_3 := cmpZ_ne.mp c_3
        refine wi_iconst (n := 0) hx hb d_Mo_mayBe_34 ?_
        refine w_as0 ?_
        exact ret false _ _ _ _ d_Mo_mayBe_35 (show (false = true ↔ (f % 9223372036854775808 < 9218868437227405312 ∨ f = (if lb = true then -4503599627370496 else 9218868437227405312))) from (⟨fun z => (by cases z), fun z => by exfalso; rw [c_2] at z; first | (rw [if_pos rfl] at z; omega) | (rw [if_neg (by decide)] at z; omega)⟩)) (hP.sub [] rfl) (hD.sub [] (by decide) rfl) hS
      · skip
        have c_3 := cmpZ_eq.mp c_3
        refine wi_iconst (n := 1) hx hb d_Mo_mayBe_30 ?_
        refine lv_goto (tgt := 35) hx hb d_Mo_mayBe_31 (by decide) ?_
        refine w_as1 ?_
        exact ret true _ _ _ _ d_Mo_mayBe_35 (show (true = true ↔ (f % 9223372036854775808 < 9218868437227405312 ∨ f = (if lb = true then -4503599627370496 else 9218868437227405312))) from (⟨fun _ => by first | exact Or.inl (by omega) | exact Or.inr (by rw [c_2]; first | (rw [if_pos rfl]; omega) | (rw [if_neg (by decide)]; omega)), fun _ => rfl⟩)) (hP.sub [] rfl) (hD.sub [] (by decide) rfl) hS
    · skip
      refine wi_ldc2 hx hb (-4503599627370496) hown (tb_h hts tw_Mo_constantLong_78) (by decide) d_Mo_mayBe_17 ?_
      refine lv_goto (tgt := 26) hx hb d_Mo_mayBe_20 (by decide) ?_
      refine wi_lcmp hx hb (by omega) (by omega) d_Mo_mayBe_26 ?_
      refine wi_if_ne (tgt := 34) hx hb d_Mo_mayBe_27 (by decide) (by have := cmpZ_rng f (-4503599627370496); omega) (fun c_4 => ?_) (fun c_4 => ?_)
      · skip
        have c_4 := cmpZ_ne.mp c_4
        refine wi_iconst (n := 0) hx hb d_Mo_mayBe_34 ?_
        refine w_as0 ?_
        exact ret false _ _ _ _ d_Mo_mayBe_35 (show (false = true ↔ (f % 9223372036854775808 < 9218868437227405312 ∨ f = (if lb = true then -4503599627370496 else 9218868437227405312))) from (⟨fun z => (by cases z), fun z => by exfalso; rw [c_2] at z; first | (rw [if_pos rfl] at z; omega) | (rw [if_neg (by decide)] at z; omega)⟩)) (hP.sub [] rfl) (hD.sub [] (by decide) rfl) hS
      · skip
        have c_4 := cmpZ_eq.mp c_4
        refine wi_iconst (n := 1) hx hb d_Mo_mayBe_30 ?_
        refine lv_goto (tgt := 35) hx hb d_Mo_mayBe_31 (by decide) ?_
        refine w_as1 ?_
        exact ret true _ _ _ _ d_Mo_mayBe_35 (show (true = true ↔ (f % 9223372036854775808 < 9218868437227405312 ∨ f = (if lb = true then -4503599627370496 else 9218868437227405312))) from (⟨fun _ => by first | exact Or.inl (by omega) | exact Or.inr (by rw [c_2]; first | (rw [if_pos rfl]; omega) | (rw [if_neg (by decide)]; omega)), fun _ => rfl⟩)) (hP.sub [] rfl) (hD.sub [] (by decide) rfl) hS
set_option maxHeartbeats 4000000 in
set_option maxRecDepth 100000 in
theorem c_Mo_plainZero (l : Launch) (D : va_G) (E : EVt) (f : Int) (hf : -9223372036854775808 ≤ f ∧ f < 9223372036854775808) : CT l D classes (tyl E) (EVX E) y_Mo_plainZero (Cond.code y_Mo_plainZero b_Mo_plainZero 2 (some .long) :: TB) (rmK 0 0 0 0) 0 0 [.long (lI f)] [] (S := Int) (fun _ => []) (fun u => some (.long (lI u))) (fun u => (u = wz f)) := by
  refine CT.ofl (fv := fun (u : Int) => u) (eok E) (by decide) rfl (Nat.le_of_ble_eq_true rfl) ?_
  intro p e s m args below meth c A Q ls B hmn hP hD hS hl ret
  have B : Bd l D classes (tyl E) (EVX E) p m c b_Mo_plainZero 2 s args (Cond.code y_Mo_plainZero b_Mo_plainZero 2 (some .long) :: TB) R_Mo A := B
  obtain ⟨⟨hx, hb, hml, hown, hts⟩, hX, hK, hE, hA⟩ := id B
  have hl : lv_has ls 2 [(0, .long (lI f))] := hl
  have hP : va_P D classes [] s.heap := hP
  have hD : va_D A [] := hD
  refine lv_lload_n hx hb d_Mo_plainZero_0 rfl (lv_at hl 0 rfl) ?_
  refine wi_ldc2 hx hb 9223372036854775807 hown (tb_h hts tw_Mo_constantLong_55) (by decide) d_Mo_plainZero_1 ?_
  refine wi_lmask hx hb 63 9223372036854775808 (by decide +kernel) (by decide) (by decide) d_Mo_plainZero_4 ?_
  refine wi_lconst (z := 0) hx hb d_Mo_plainZero_5 (by decide) ?_
  refine wi_lcmp hx hb (by omega) (by omega) d_Mo_plainZero_6 ?_
  refine wi_if_ne (tgt := 14) hx hb d_Mo_plainZero_7 (by decide) (by have := cmpZ_rng (f % 9223372036854775808) 0; omega) (fun c_1 => ?_) (fun c_1 => ?_)
  · skip
    have c_1 := cmpZ_ne.mp c_1
    refine lv_lload_n hx hb d_Mo_plainZero_14 rfl (lv_at hl 0 rfl) ?_
    exact ret f _ _ _ _ d_Mo_plainZero_15 (show (f = wz f) from (by unfold wz; split <;> omega)) (hP.sub [] rfl) (hD.sub [] (by decide) rfl) hS
  · skip
    have c_1 := cmpZ_eq.mp c_1
    refine wi_lconst (z := 0) hx hb d_Mo_plainZero_10 (by decide) ?_
    refine lv_goto (tgt := 15) hx hb d_Mo_plainZero_11 (by decide) ?_
    exact ret 0 _ _ _ _ d_Mo_plainZero_15 (show (0 = wz f) from (by unfold wz; split <;> omega)) (hP.sub [] rfl) (hD.sub [] (by decide) rfl) hS
set_option maxHeartbeats 4000000 in
set_option maxRecDepth 100000 in
theorem c_Mo_low (l : Launch) (D : va_G) (E : EVt) (h : Nat) (mlf : Nat) (mrt : Nat) (mpb : Nat) (mop : Nat) (mtz : Int) (mta : Nat) (moz : Int) (moa : Nat) (mrl : Int) (mrh : Int) (mno : Bool) (mlo : Int) (mhi : Int) (mo1 : Nat) (mo2 : Nat) (mo3 : Nat) (mo4 : Nat) (mms : Int) (mex : Int) (mgd : Bool) (mon : Bool)  : CT l D classes (tyl E) (EVX E) y_Mo_low (Cond.code y_Mo_low b_Mo_low 1 (some .long) :: TB) (rmK 0 0 0 0) 0 0 [.ref h] [(h, .inr (9, [.ref mlf, .ref mrt, .ref mpb, .ref mop, .int (iI mtz), .ref mta, .int (iI moz), .ref moa, .long (lI mrl), .long (lI mrh), .int (bI mno), .long (lI mlo), .long (lI mhi), .ref mo1, .ref mo2, .ref mo3, .ref mo4, .int (iI mms), .int (iI mex), .int (bI mgd), .int (bI mon)]))] (S := Int) (fun _ => [(h, .inr (9, [.ref mlf, .ref mrt, .ref mpb, .ref mop, .int (iI mtz), .ref mta, .int (iI moz), .ref moa, .long (lI mrl), .long (lI mrh), .int (bI mno), .long (lI mlo), .long (lI mhi), .ref mo1, .ref mo2, .ref mo3, .ref mo4, .int (iI mms), .int (iI mex), .int (bI mgd), .int (bI mon)]))]) (fun u => some (.long (lI u))) (fun u => (u = mrl)) := by
  refine CT.ofl (fv := fun (u : Int) => u) (eok E) (by decide) rfl (Nat.le_of_ble_eq_true rfl) ?_
  intro p e s m args below meth c A Q ls B hmn hP hD hS hl ret
  have B : Bd l D classes (tyl E) (EVX E) p m c b_Mo_low 1 s args (Cond.code y_Mo_low b_Mo_low 1 (some .long) :: TB) R_Mo A := B
  obtain ⟨⟨hx, hb, hml, hown, hts⟩, hX, hK, hE, hA⟩ := id B
  have hl : lv_has ls 1 [(0, .ref h)] := hl
  have hP : va_P D classes [(h, .inr (9, [.ref mlf, .ref mrt, .ref mpb, .ref mop, .int (iI mtz), .ref mta, .int (iI moz), .ref moa, .long (lI mrl), .long (lI mrh), .int (bI mno), .long (lI mlo), .long (lI mhi), .ref mo1, .ref mo2, .ref mo3, .ref mo4, .int (iI mms), .int (iI mex), .int (bI mgd), .int (bI mon)]))] s.heap := hP
  have hD : va_D A [(h, .inr (9, [.ref mlf, .ref mrt, .ref mpb, .ref mop, .int (iI mtz), .ref mta, .int (iI moz), .ref moa, .long (lI mrl), .long (lI mrh), .int (bI mno), .long (lI mlo), .long (lI mhi), .ref mo1, .ref mo2, .ref mo3, .ref mo4, .int (iI mms), .int (iI mex), .int (bI mgd), .int (bI mon)]))] := hD
  refine lv_aload_n hx hb d_Mo_low_0 rfl (lv_at hl 0 rfl) ?_
  refine wk_get B hP 0 rfl fl_Mo_116 (v := .long (lI mrl)) rfl d_Mo_low_1 ?_
  exact ret mrl _ _ _ _ d_Mo_low_4 (show (mrl = mrl) from rfl) (hP.sub [0] rfl) (hD.sub [0] (by decide) rfl) hS
set_option maxHeartbeats 4000000 in
set_option maxRecDepth 100000 in
theorem c_Mo_high (l : Launch) (D : va_G) (E : EVt) (h : Nat) (mlf : Nat) (mrt : Nat) (mpb : Nat) (mop : Nat) (mtz : Int) (mta : Nat) (moz : Int) (moa : Nat) (mrl : Int) (mrh : Int) (mno : Bool) (mlo : Int) (mhi : Int) (mo1 : Nat) (mo2 : Nat) (mo3 : Nat) (mo4 : Nat) (mms : Int) (mex : Int) (mgd : Bool) (mon : Bool)  : CT l D classes (tyl E) (EVX E) y_Mo_high (Cond.code y_Mo_high b_Mo_high 1 (some .long) :: TB) (rmK 0 0 0 0) 0 0 [.ref h] [(h, .inr (9, [.ref mlf, .ref mrt, .ref mpb, .ref mop, .int (iI mtz), .ref mta, .int (iI moz), .ref moa, .long (lI mrl), .long (lI mrh), .int (bI mno), .long (lI mlo), .long (lI mhi), .ref mo1, .ref mo2, .ref mo3, .ref mo4, .int (iI mms), .int (iI mex), .int (bI mgd), .int (bI mon)]))] (S := Int) (fun _ => [(h, .inr (9, [.ref mlf, .ref mrt, .ref mpb, .ref mop, .int (iI mtz), .ref mta, .int (iI moz), .ref moa, .long (lI mrl), .long (lI mrh), .int (bI mno), .long (lI mlo), .long (lI mhi), .ref mo1, .ref mo2, .ref mo3, .ref mo4, .int (iI mms), .int (iI mex), .int (bI mgd), .int (bI mon)]))]) (fun u => some (.long (lI u))) (fun u => (u = mrh)) := by
  refine CT.ofl (fv := fun (u : Int) => u) (eok E) (by decide) rfl (Nat.le_of_ble_eq_true rfl) ?_
  intro p e s m args below meth c A Q ls B hmn hP hD hS hl ret
  have B : Bd l D classes (tyl E) (EVX E) p m c b_Mo_high 1 s args (Cond.code y_Mo_high b_Mo_high 1 (some .long) :: TB) R_Mo A := B
  obtain ⟨⟨hx, hb, hml, hown, hts⟩, hX, hK, hE, hA⟩ := id B
  have hl : lv_has ls 1 [(0, .ref h)] := hl
  have hP : va_P D classes [(h, .inr (9, [.ref mlf, .ref mrt, .ref mpb, .ref mop, .int (iI mtz), .ref mta, .int (iI moz), .ref moa, .long (lI mrl), .long (lI mrh), .int (bI mno), .long (lI mlo), .long (lI mhi), .ref mo1, .ref mo2, .ref mo3, .ref mo4, .int (iI mms), .int (iI mex), .int (bI mgd), .int (bI mon)]))] s.heap := hP
  have hD : va_D A [(h, .inr (9, [.ref mlf, .ref mrt, .ref mpb, .ref mop, .int (iI mtz), .ref mta, .int (iI moz), .ref moa, .long (lI mrl), .long (lI mrh), .int (bI mno), .long (lI mlo), .long (lI mhi), .ref mo1, .ref mo2, .ref mo3, .ref mo4, .int (iI mms), .int (iI mex), .int (bI mgd), .int (bI mon)]))] := hD
  refine lv_aload_n hx hb d_Mo_high_0 rfl (lv_at hl 0 rfl) ?_
  refine wk_get B hP 0 rfl fl_Mo_120 (v := .long (lI mrh)) rfl d_Mo_high_1 ?_
  exact ret mrh _ _ _ _ d_Mo_high_4 (show (mrh = mrh) from rfl) (hP.sub [0] rfl) (hD.sub [0] (by decide) rfl) hS
