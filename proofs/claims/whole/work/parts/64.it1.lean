/-! IntervalText: small methods, feed, word, back -/
abbrev b_IT_strongestMark : ByteArray := prog_1_method_10_code
def y_IT_strongestMark : MethodName := ⟨"IntervalText", "strongestMark", "(JJ)I"⟩
abbrev b_IT_withoutZeroSign : ByteArray := prog_1_method_11_code
def y_IT_withoutZeroSign : MethodName := ⟨"IntervalText", "withoutZeroSign", "(J)J"⟩
abbrev b_IT_isNan : ByteArray := prog_1_method_13_code
def y_IT_isNan : MethodName := ⟨"IntervalText", "isNan", "(J)Z"⟩
abbrev b_IT_place : ByteArray := prog_1_method_14_code
def y_IT_place : MethodName := ⟨"IntervalText", "place", "(J)J"⟩
abbrev b_IT_areEnds : ByteArray := prog_1_method_12_code
def y_IT_areEnds : MethodName := ⟨"IntervalText", "areEnds", "(JJ)Z"⟩
abbrev b_IT_keep : ByteArray := prog_1_method_9_code
def y_IT_keep : MethodName := ⟨"IntervalText", "keep", "(JJI)I"⟩
abbrev b_IT_low : ByteArray := prog_1_method_4_code
def y_IT_low : MethodName := ⟨"IntervalText", "low", "()J"⟩
abbrev b_IT_high : ByteArray := prog_1_method_5_code
def y_IT_high : MethodName := ⟨"IntervalText", "high", "()J"⟩
abbrev b_IT_feed : ByteArray := prog_1_method_2_code
def y_IT_feed : MethodName := ⟨"IntervalText", "feed", "(JI)I"⟩
abbrev b_IT_word : ByteArray := prog_1_method_8_code
def y_IT_word : MethodName := ⟨"IntervalText", "word", "(I)J"⟩
abbrev b_IT_back : ByteArray := prog_1_method_7_code
def y_IT_back : MethodName := ⟨"IntervalText", "back", "()I"⟩
theorem d_IT_strongestMark_0 : decode b_IT_strongestMark 0 = .ok (.lload_n 0, 1) := by decide +kernel
theorem d_IT_strongestMark_1 : decode b_IT_strongestMark 1 = .ok (.ldc2_w 88, 3) := by decide +kernel
theorem d_IT_strongestMark_4 : decode b_IT_strongestMark 4 = .ok (.lcmp, 1) := by decide +kernel
theorem d_IT_strongestMark_5 : decode b_IT_strongestMark 5 = .ok (.ifCond .eq 11, 3) := by decide +kernel
theorem d_IT_strongestMark_8 : decode b_IT_strongestMark 8 = .ok (.lload_n 2, 1) := by decide +kernel
theorem d_IT_strongestMark_9 : decode b_IT_strongestMark 9 = .ok (.ldc2_w 86, 3) := by decide +kernel
theorem d_IT_strongestMark_12 : decode b_IT_strongestMark 12 = .ok (.lcmp, 1) := by decide +kernel
theorem d_IT_strongestMark_13 : decode b_IT_strongestMark 13 = .ok (.ifCond .ne 7, 3) := by decide +kernel
theorem d_IT_strongestMark_16 : decode b_IT_strongestMark 16 = .ok (.iconst 3, 1) := by decide +kernel
theorem d_IT_strongestMark_17 : decode b_IT_strongestMark 17 = .ok (.goto 4, 3) := by decide +kernel
theorem d_IT_strongestMark_20 : decode b_IT_strongestMark 20 = .ok (.iconst 4, 1) := by decide +kernel
theorem d_IT_strongestMark_21 : decode b_IT_strongestMark 21 = .ok (.ireturn, 1) := by decide +kernel
theorem d_IT_withoutZeroSign_0 : decode b_IT_withoutZeroSign 0 = .ok (.lload_n 0, 1) := by decide +kernel
theorem d_IT_withoutZeroSign_1 : decode b_IT_withoutZeroSign 1 = .ok (.ldc2_w 145, 3) := by decide +kernel
theorem d_IT_withoutZeroSign_4 : decode b_IT_withoutZeroSign 4 = .ok (.lcmp, 1) := by decide +kernel
theorem d_IT_withoutZeroSign_5 : decode b_IT_withoutZeroSign 5 = .ok (.ifCond .ne 7, 3) := by decide +kernel
theorem d_IT_withoutZeroSign_8 : decode b_IT_withoutZeroSign 8 = .ok (.lconst 0, 1) := by decide +kernel
theorem d_IT_withoutZeroSign_9 : decode b_IT_withoutZeroSign 9 = .ok (.goto 4, 3) := by decide +kernel
theorem d_IT_withoutZeroSign_12 : decode b_IT_withoutZeroSign 12 = .ok (.lload_n 0, 1) := by decide +kernel
theorem d_IT_withoutZeroSign_13 : decode b_IT_withoutZeroSign 13 = .ok (.lreturn, 1) := by decide +kernel
theorem d_IT_isNan_0 : decode b_IT_isNan 0 = .ok (.lload_n 0, 1) := by decide +kernel
theorem d_IT_isNan_1 : decode b_IT_isNan 1 = .ok (.ldc2_w 154, 3) := by decide +kernel
theorem d_IT_isNan_4 : decode b_IT_isNan 4 = .ok (.land, 1) := by decide +kernel
theorem d_IT_isNan_5 : decode b_IT_isNan 5 = .ok (.ldc2_w 86, 3) := by decide +kernel
theorem d_IT_isNan_8 : decode b_IT_isNan 8 = .ok (.lcmp, 1) := by decide +kernel
theorem d_IT_isNan_9 : decode b_IT_isNan 9 = .ok (.ifCond .le 7, 3) := by decide +kernel
theorem d_IT_isNan_12 : decode b_IT_isNan 12 = .ok (.iconst 1, 1) := by decide +kernel
theorem d_IT_isNan_13 : decode b_IT_isNan 13 = .ok (.goto 4, 3) := by decide +kernel
theorem d_IT_isNan_16 : decode b_IT_isNan 16 = .ok (.iconst 0, 1) := by decide +kernel
theorem d_IT_isNan_17 : decode b_IT_isNan 17 = .ok (.ireturn, 1) := by decide +kernel
theorem d_IT_place_0 : decode b_IT_place 0 = .ok (.lload_n 0, 1) := by decide +kernel
theorem d_IT_place_1 : decode b_IT_place 1 = .ok (.lconst 0, 1) := by decide +kernel
theorem d_IT_place_2 : decode b_IT_place 2 = .ok (.lcmp, 1) := by decide +kernel
theorem d_IT_place_3 : decode b_IT_place 3 = .ok (.ifCond .lt 7, 3) := by decide +kernel
theorem d_IT_place_6 : decode b_IT_place 6 = .ok (.lload_n 0, 1) := by decide +kernel
theorem d_IT_place_7 : decode b_IT_place 7 = .ok (.goto 9, 3) := by decide +kernel
theorem d_IT_place_10 : decode b_IT_place 10 = .ok (.lload_n 0, 1) := by decide +kernel
theorem d_IT_place_11 : decode b_IT_place 11 = .ok (.ldc2_w 154, 3) := by decide +kernel
theorem d_IT_place_14 : decode b_IT_place 14 = .ok (.land, 1) := by decide +kernel
theorem d_IT_place_15 : decode b_IT_place 15 = .ok (.lneg, 1) := by decide +kernel
theorem d_IT_place_16 : decode b_IT_place 16 = .ok (.lreturn, 1) := by decide +kernel
theorem d_IT_areEnds_0 : decode b_IT_areEnds 0 = .ok (.lload_n 0, 1) := by decide +kernel
theorem d_IT_areEnds_1 : decode b_IT_areEnds 1 = .ok (.invokestatic 147, 3) := by decide +kernel
theorem d_IT_areEnds_4 : decode b_IT_areEnds 4 = .ok (.ifCond .ne 42, 3) := by decide +kernel
theorem d_IT_areEnds_7 : decode b_IT_areEnds 7 = .ok (.lload_n 2, 1) := by decide +kernel
theorem d_IT_areEnds_8 : decode b_IT_areEnds 8 = .ok (.invokestatic 147, 3) := by decide +kernel
theorem d_IT_areEnds_11 : decode b_IT_areEnds 11 = .ok (.ifCond .ne 35, 3) := by decide +kernel
theorem d_IT_areEnds_14 : decode b_IT_areEnds 14 = .ok (.lload_n 0, 1) := by decide +kernel
theorem d_IT_areEnds_15 : decode b_IT_areEnds 15 = .ok (.ldc2_w 86, 3) := by decide +kernel
theorem d_IT_areEnds_18 : decode b_IT_areEnds 18 = .ok (.lcmp, 1) := by decide +kernel
theorem d_IT_areEnds_19 : decode b_IT_areEnds 19 = .ok (.ifCond .eq 27, 3) := by decide +kernel
theorem d_IT_areEnds_22 : decode b_IT_areEnds 22 = .ok (.lload_n 2, 1) := by decide +kernel
theorem d_IT_areEnds_23 : decode b_IT_areEnds 23 = .ok (.ldc2_w 88, 3) := by decide +kernel
theorem d_IT_areEnds_26 : decode b_IT_areEnds 26 = .ok (.lcmp, 1) := by decide +kernel
theorem d_IT_areEnds_27 : decode b_IT_areEnds 27 = .ok (.ifCond .eq 19, 3) := by decide +kernel
theorem d_IT_areEnds_30 : decode b_IT_areEnds 30 = .ok (.lload_n 0, 1) := by decide +kernel
theorem d_IT_areEnds_31 : decode b_IT_areEnds 31 = .ok (.invokestatic 151, 3) := by decide +kernel
theorem d_IT_areEnds_34 : decode b_IT_areEnds 34 = .ok (.lload_n 2, 1) := by decide +kernel
theorem d_IT_areEnds_35 : decode b_IT_areEnds 35 = .ok (.invokestatic 151, 3) := by decide +kernel
theorem d_IT_areEnds_38 : decode b_IT_areEnds 38 = .ok (.lcmp, 1) := by decide +kernel
theorem d_IT_areEnds_39 : decode b_IT_areEnds 39 = .ok (.ifCond .gt 7, 3) := by decide +kernel
theorem d_IT_areEnds_42 : decode b_IT_areEnds 42 = .ok (.iconst 1, 1) := by decide +kernel
theorem d_IT_areEnds_43 : decode b_IT_areEnds 43 = .ok (.goto 4, 3) := by decide +kernel
theorem d_IT_areEnds_46 : decode b_IT_areEnds 46 = .ok (.iconst 0, 1) := by decide +kernel
theorem d_IT_areEnds_47 : decode b_IT_areEnds 47 = .ok (.ireturn, 1) := by decide +kernel
theorem d_IT_keep_0 : decode b_IT_keep 0 = .ok (.aload_n 0, 1) := by decide +kernel
theorem d_IT_keep_1 : decode b_IT_keep 1 = .ok (.lload_n 1, 1) := by decide +kernel
theorem d_IT_keep_2 : decode b_IT_keep 2 = .ok (.putfield 46, 3) := by decide +kernel
theorem d_IT_keep_5 : decode b_IT_keep 5 = .ok (.aload_n 0, 1) := by decide +kernel
theorem d_IT_keep_6 : decode b_IT_keep 6 = .ok (.lload_n 3, 1) := by decide +kernel
theorem d_IT_keep_7 : decode b_IT_keep 7 = .ok (.putfield 50, 3) := by decide +kernel
theorem d_IT_keep_10 : decode b_IT_keep 10 = .ok (.iload 5, 2) := by decide +kernel
theorem d_IT_keep_12 : decode b_IT_keep 12 = .ok (.ireturn, 1) := by decide +kernel
theorem d_IT_low_0 : decode b_IT_low 0 = .ok (.aload_n 0, 1) := by decide +kernel
theorem d_IT_low_1 : decode b_IT_low 1 = .ok (.getfield 46, 3) := by decide +kernel
theorem d_IT_low_4 : decode b_IT_low 4 = .ok (.lreturn, 1) := by decide +kernel
theorem d_IT_high_0 : decode b_IT_high 0 = .ok (.aload_n 0, 1) := by decide +kernel
theorem d_IT_high_1 : decode b_IT_high 1 = .ok (.getfield 50, 3) := by decide +kernel
theorem d_IT_high_4 : decode b_IT_high 4 = .ok (.lreturn, 1) := by decide +kernel
theorem d_IT_feed_0 : decode b_IT_feed 0 = .ok (.iload_n 3, 1) := by decide +kernel
theorem d_IT_feed_1 : decode b_IT_feed 1 = .ok (.iconst 1, 1) := by decide +kernel
theorem d_IT_feed_2 : decode b_IT_feed 2 = .ok (.if_icmp .lt 9, 3) := by decide +kernel
theorem d_IT_feed_5 : decode b_IT_feed 5 = .ok (.iload_n 3, 1) := by decide +kernel
theorem d_IT_feed_6 : decode b_IT_feed 6 = .ok (.bipush 8, 2) := by decide +kernel
theorem d_IT_feed_8 : decode b_IT_feed 8 = .ok (.if_icmp .le 5, 3) := by decide +kernel
theorem d_IT_feed_11 : decode b_IT_feed 11 = .ok (.iconst (-1), 1) := by decide +kernel
theorem d_IT_feed_12 : decode b_IT_feed 12 = .ok (.ireturn, 1) := by decide +kernel
theorem d_IT_feed_13 : decode b_IT_feed 13 = .ok (.aload_n 0, 1) := by decide +kernel
theorem d_IT_feed_14 : decode b_IT_feed 14 = .ok (.getfield 14, 3) := by decide +kernel
theorem d_IT_feed_17 : decode b_IT_feed 17 = .ok (.getfield 53, 3) := by decide +kernel
theorem d_IT_feed_20 : decode b_IT_feed 20 = .ok (.iload_n 3, 1) := by decide +kernel
theorem d_IT_feed_21 : decode b_IT_feed 21 = .ok (.iadd, 1) := by decide +kernel
theorem d_IT_feed_22 : decode b_IT_feed 22 = .ok (.sipush 400, 3) := by decide +kernel
theorem d_IT_feed_25 : decode b_IT_feed 25 = .ok (.if_icmp .le 6, 3) := by decide +kernel
theorem d_IT_feed_28 : decode b_IT_feed 28 = .ok (.bipush (-2), 2) := by decide +kernel
theorem d_IT_feed_30 : decode b_IT_feed 30 = .ok (.ireturn, 1) := by decide +kernel
theorem d_IT_feed_31 : decode b_IT_feed 31 = .ok (.iconst 0, 1) := by decide +kernel
theorem d_IT_feed_32 : decode b_IT_feed 32 = .ok (.istore 4, 2) := by decide +kernel
theorem d_IT_feed_34 : decode b_IT_feed 34 = .ok (.iload 4, 2) := by decide +kernel
theorem d_IT_feed_36 : decode b_IT_feed 36 = .ok (.iload_n 3, 1) := by decide +kernel
theorem d_IT_feed_37 : decode b_IT_feed 37 = .ok (.if_icmp .ge 28, 3) := by decide +kernel
theorem d_IT_feed_40 : decode b_IT_feed 40 = .ok (.aload_n 0, 1) := by decide +kernel
theorem d_IT_feed_41 : decode b_IT_feed 41 = .ok (.getfield 14, 3) := by decide +kernel
theorem d_IT_feed_44 : decode b_IT_feed 44 = .ok (.lload_n 1, 1) := by decide +kernel
theorem d_IT_feed_45 : decode b_IT_feed 45 = .ok (.bipush 8, 2) := by decide +kernel
theorem d_IT_feed_47 : decode b_IT_feed 47 = .ok (.iload 4, 2) := by decide +kernel
theorem d_IT_feed_49 : decode b_IT_feed 49 = .ok (.imul, 1) := by decide +kernel
theorem d_IT_feed_50 : decode b_IT_feed 50 = .ok (.lushr, 1) := by decide +kernel
theorem d_IT_feed_51 : decode b_IT_feed 51 = .ok (.l2i, 1) := by decide +kernel
theorem d_IT_feed_52 : decode b_IT_feed 52 = .ok (.sipush 255, 3) := by decide +kernel
theorem d_IT_feed_55 : decode b_IT_feed 55 = .ok (.iand, 1) := by decide +kernel
theorem d_IT_feed_56 : decode b_IT_feed 56 = .ok (.invokevirtual 57, 3) := by decide +kernel
theorem d_IT_feed_59 : decode b_IT_feed 59 = .ok (.iinc 4 1, 3) := by decide +kernel
theorem d_IT_feed_62 : decode b_IT_feed 62 = .ok (.goto (-28), 3) := by decide +kernel
theorem d_IT_feed_65 : decode b_IT_feed 65 = .ok (.aload_n 0, 1) := by decide +kernel
theorem d_IT_feed_66 : decode b_IT_feed 66 = .ok (.getfield 14, 3) := by decide +kernel
theorem d_IT_feed_69 : decode b_IT_feed 69 = .ok (.getfield 53, 3) := by decide +kernel
theorem d_IT_feed_72 : decode b_IT_feed 72 = .ok (.ireturn, 1) := by decide +kernel
theorem d_IT_word_0 : decode b_IT_word 0 = .ok (.iload_n 1, 1) := by decide +kernel
theorem d_IT_word_1 : decode b_IT_word 1 = .ok (.ifCond .lt 9, 3) := by decide +kernel
theorem d_IT_word_4 : decode b_IT_word 4 = .ok (.iload_n 1, 1) := by decide +kernel
theorem d_IT_word_5 : decode b_IT_word 5 = .ok (.bipush 8, 2) := by decide +kernel
theorem d_IT_word_7 : decode b_IT_word 7 = .ok (.if_icmp .lt 5, 3) := by decide +kernel
theorem d_IT_word_10 : decode b_IT_word 10 = .ok (.lconst 0, 1) := by decide +kernel
theorem d_IT_word_11 : decode b_IT_word 11 = .ok (.lreturn, 1) := by decide +kernel
theorem d_IT_word_12 : decode b_IT_word 12 = .ok (.lconst 0, 1) := by decide +kernel
theorem d_IT_word_13 : decode b_IT_word 13 = .ok (.lstore_n 2, 1) := by decide +kernel
theorem d_IT_word_14 : decode b_IT_word 14 = .ok (.bipush 7, 2) := by decide +kernel
theorem d_IT_word_16 : decode b_IT_word 16 = .ok (.istore 4, 2) := by decide +kernel
theorem d_IT_word_18 : decode b_IT_word 18 = .ok (.iload 4, 2) := by decide +kernel
theorem d_IT_word_20 : decode b_IT_word 20 = .ok (.ifCond .lt 44, 3) := by decide +kernel
theorem d_IT_word_23 : decode b_IT_word 23 = .ok (.aload_n 0, 1) := by decide +kernel
theorem d_IT_word_24 : decode b_IT_word 24 = .ok (.getfield 18, 3) := by decide +kernel
theorem d_IT_word_27 : decode b_IT_word 27 = .ok (.bipush 8, 2) := by decide +kernel
theorem d_IT_word_29 : decode b_IT_word 29 = .ok (.iload_n 1, 1) := by decide +kernel
theorem d_IT_word_30 : decode b_IT_word 30 = .ok (.imul, 1) := by decide +kernel
theorem d_IT_word_31 : decode b_IT_word 31 = .ok (.iload 4, 2) := by decide +kernel
theorem d_IT_word_33 : decode b_IT_word 33 = .ok (.iadd, 1) := by decide +kernel
theorem d_IT_word_34 : decode b_IT_word 34 = .ok (.invokevirtual 141, 3) := by decide +kernel
theorem d_IT_word_37 : decode b_IT_word 37 = .ok (.istore 5, 2) := by decide +kernel
theorem d_IT_word_39 : decode b_IT_word 39 = .ok (.lload_n 2, 1) := by decide +kernel
theorem d_IT_word_40 : decode b_IT_word 40 = .ok (.bipush 8, 2) := by decide +kernel
theorem d_IT_word_42 : decode b_IT_word 42 = .ok (.lshl, 1) := by decide +kernel
theorem d_IT_word_43 : decode b_IT_word 43 = .ok (.iload 5, 2) := by decide +kernel
theorem d_IT_word_45 : decode b_IT_word 45 = .ok (.iconst (-1), 1) := by decide +kernel
theorem d_IT_word_46 : decode b_IT_word 46 = .ok (.if_icmp .ne 7, 3) := by decide +kernel
theorem d_IT_word_49 : decode b_IT_word 49 = .ok (.iconst 0, 1) := by decide +kernel
theorem d_IT_word_50 : decode b_IT_word 50 = .ok (.goto 5, 3) := by decide +kernel
theorem d_IT_word_53 : decode b_IT_word 53 = .ok (.iload 5, 2) := by decide +kernel
theorem d_IT_word_55 : decode b_IT_word 55 = .ok (.i2l, 1) := by decide +kernel
theorem d_IT_word_56 : decode b_IT_word 56 = .ok (.lor, 1) := by decide +kernel
theorem d_IT_word_57 : decode b_IT_word 57 = .ok (.lstore_n 2, 1) := by decide +kernel
theorem d_IT_word_58 : decode b_IT_word 58 = .ok (.iinc 4 (-1), 3) := by decide +kernel
theorem d_IT_word_61 : decode b_IT_word 61 = .ok (.goto (-43), 3) := by decide +kernel
theorem d_IT_word_64 : decode b_IT_word 64 = .ok (.lload_n 2, 1) := by decide +kernel
theorem d_IT_word_65 : decode b_IT_word 65 = .ok (.lreturn, 1) := by decide +kernel
theorem d_IT_back_0 : decode b_IT_back 0 = .ok (.aload_n 0, 1) := by decide +kernel
theorem d_IT_back_1 : decode b_IT_back 1 = .ok (.getfield 14, 3) := by decide +kernel
theorem d_IT_back_4 : decode b_IT_back 4 = .ok (.getfield 53, 3) := by decide +kernel
theorem d_IT_back_7 : decode b_IT_back 7 = .ok (.aload_n 0, 1) := by decide +kernel
theorem d_IT_back_8 : decode b_IT_back 8 = .ok (.getfield 18, 3) := by decide +kernel
theorem d_IT_back_11 : decode b_IT_back 11 = .ok (.getfield 53, 3) := by decide +kernel
theorem d_IT_back_14 : decode b_IT_back 14 = .ok (.iadd, 1) := by decide +kernel
theorem d_IT_back_15 : decode b_IT_back 15 = .ok (.sipush 400, 3) := by decide +kernel
theorem d_IT_back_18 : decode b_IT_back 18 = .ok (.if_icmp .le 6, 3) := by decide +kernel
theorem d_IT_back_21 : decode b_IT_back 21 = .ok (.bipush (-2), 2) := by decide +kernel
theorem d_IT_back_23 : decode b_IT_back 23 = .ok (.ireturn, 1) := by decide +kernel
theorem d_IT_back_24 : decode b_IT_back 24 = .ok (.iconst 0, 1) := by decide +kernel
theorem d_IT_back_25 : decode b_IT_back 25 = .ok (.istore_n 1, 1) := by decide +kernel
theorem d_IT_back_26 : decode b_IT_back 26 = .ok (.iload_n 1, 1) := by decide +kernel
theorem d_IT_back_27 : decode b_IT_back 27 = .ok (.aload_n 0, 1) := by decide +kernel
theorem d_IT_back_28 : decode b_IT_back 28 = .ok (.getfield 18, 3) := by decide +kernel
theorem d_IT_back_31 : decode b_IT_back 31 = .ok (.getfield 53, 3) := by decide +kernel
theorem d_IT_back_34 : decode b_IT_back 34 = .ok (.if_icmp .ge 24, 3) := by decide +kernel
theorem d_IT_back_37 : decode b_IT_back 37 = .ok (.aload_n 0, 1) := by decide +kernel
theorem d_IT_back_38 : decode b_IT_back 38 = .ok (.getfield 14, 3) := by decide +kernel
theorem d_IT_back_41 : decode b_IT_back 41 = .ok (.aload_n 0, 1) := by decide +kernel
theorem d_IT_back_42 : decode b_IT_back 42 = .ok (.getfield 18, 3) := by decide +kernel
theorem d_IT_back_45 : decode b_IT_back 45 = .ok (.iload_n 1, 1) := by decide +kernel
theorem d_IT_back_46 : decode b_IT_back 46 = .ok (.invokevirtual 141, 3) := by decide +kernel
theorem d_IT_back_49 : decode b_IT_back 49 = .ok (.invokevirtual 57, 3) := by decide +kernel
theorem d_IT_back_52 : decode b_IT_back 52 = .ok (.iinc 1 1, 3) := by decide +kernel
theorem d_IT_back_55 : decode b_IT_back 55 = .ok (.goto (-29), 3) := by decide +kernel
theorem d_IT_back_58 : decode b_IT_back 58 = .ok (.aload_n 0, 1) := by decide +kernel
theorem d_IT_back_59 : decode b_IT_back 59 = .ok (.getfield 14, 3) := by decide +kernel
theorem d_IT_back_62 : decode b_IT_back 62 = .ok (.getfield 53, 3) := by decide +kernel
theorem d_IT_back_65 : decode b_IT_back 65 = .ok (.ireturn, 1) := by decide +kernel
theorem fl_IT_14 : FLink TB classes "IntervalText" 14 R_IT F_IT 7 6 0 := ⟨rfl, by decide, i_IT, tb_t (List.mem_append_left _ (List.mem_of_getElem? (l := tables_1_1) (i := 183) rfl)) rfl⟩
theorem fl_IT_18 : FLink TB classes "IntervalText" 18 R_IT F_IT 7 6 1 := ⟨rfl, by decide, i_IT, tb_t (List.mem_append_left _ (List.mem_of_getElem? (l := tables_1_1) (i := 184) rfl)) rfl⟩
theorem fl_IT_46 : FLink TB classes "IntervalText" 46 R_IT F_IT 7 6 5 := ⟨rfl, by decide, i_IT, tb_t (List.mem_append_left _ (List.mem_of_getElem? (l := tables_1_1) (i := 188) rfl)) rfl⟩
theorem fl_IT_50 : FLink TB classes "IntervalText" 50 R_IT F_IT 7 6 6 := ⟨rfl, by decide, i_IT, tb_t (List.mem_append_left _ (List.mem_of_getElem? (l := tables_1_1) (i := 189) rfl)) rfl⟩
theorem fl_IT_53 : FLink TB classes "IntervalText" 53 R_Row F_Row 2 3 1 := ⟨rfl, by decide, i_Row, tb_t (List.mem_append_left _ (List.mem_of_getElem? (l := tables_1_1) (i := 33) rfl)) rfl⟩
theorem fp_IT_5 : FPut R_IT F_IT 7 5 .long false := ⟨e_IT, n_IT, rfl, by decide +kernel⟩
theorem fp_IT_6 : FPut R_IT F_IT 7 6 .long false := ⟨e_IT, n_IT, rfl, by decide +kernel⟩
theorem tw_IT_constantLong_86 : Cond.constantLong "IntervalText" 86 (9218868437227405312 : Int64) ∈ TB := tb_t (List.mem_append_right _ (List.mem_append_left _ (List.mem_of_getElem? (l := tables_1_2) (i := 212) rfl))) rfl
theorem tw_IT_constantLong_88 : Cond.constantLong "IntervalText" 88 (-4503599627370496 : Int64) ∈ TB := tb_t (List.mem_append_right _ (List.mem_append_left _ (List.mem_of_getElem? (l := tables_1_2) (i := 213) rfl))) rfl
theorem tw_IT_constantLong_145 : Cond.constantLong "IntervalText" 145 (-9223372036854775808 : Int64) ∈ TB := tb_t (List.mem_append_right _ (List.mem_append_right _ (List.mem_append_left _ (List.mem_of_getElem? (l := tables_1_3) (i := 18) rfl)))) rfl
theorem tw_IT_constantLong_154 : Cond.constantLong "IntervalText" 154 (9223372036854775807 : Int64) ∈ TB := tb_t (List.mem_append_right _ (List.mem_append_right _ (List.mem_append_left _ (List.mem_of_getElem? (l := tables_1_3) (i := 25) rfl)))) rfl
theorem cl_IT_147 : CLinkS TB "IntervalText" 147 y_IT_isNan b_IT_isNan 2 (some .boolean) 1 := ⟨⟨tb_t (List.mem_append_right _ (List.mem_append_right _ (List.mem_append_left _ (List.mem_of_getElem? (l := tables_1_3) (i := 22) rfl)))) rfl, tb_t (List.mem_append_left _ (List.mem_of_getElem? (l := tables_1_1) (i := 1) rfl)) rfl, tb_t (List.mem_append_right _ (List.mem_append_right _ (List.mem_append_left _ (List.mem_of_getElem? (l := tables_1_3) (i := 24) rfl)))) rfl, by decide +kernel, by decide +kernel, by decide +kernel⟩, tb_t (List.mem_append_right _ (List.mem_append_right _ (List.mem_append_left _ (List.mem_of_getElem? (l := tables_1_3) (i := 23) rfl)))) rfl⟩
theorem cl_IT_151 : CLinkS TB "IntervalText" 151 y_IT_place b_IT_place 2 (some .long) 1 := ⟨⟨tb_t (List.mem_append_right _ (List.mem_append_right _ (List.mem_append_left _ (List.mem_of_getElem? (l := tables_1_3) (i := 26) rfl)))) rfl, tb_t (List.mem_append_left _ (List.mem_of_getElem? (l := tables_1_1) (i := 1) rfl)) rfl, tb_t (List.mem_append_right _ (List.mem_append_right _ (List.mem_append_left _ (List.mem_of_getElem? (l := tables_1_3) (i := 28) rfl)))) rfl, by decide +kernel, by decide +kernel, by decide +kernel⟩, tb_t (List.mem_append_right _ (List.mem_append_right _ (List.mem_append_left _ (List.mem_of_getElem? (l := tables_1_3) (i := 27) rfl)))) rfl⟩
theorem cl_IT_57 : CLinkV TB "IntervalText" 57 "IntervalText$Row" y_Row_add b_Row_add 2 none 1 := ⟨⟨tb_t (List.mem_append_left _ (List.mem_of_getElem? (l := tables_1_1) (i := 209) rfl)) rfl, tb_t (List.mem_append_left _ (List.mem_of_getElem? (l := tables_1_1) (i := 2) rfl)) rfl, tb_t (List.mem_append_left _ (List.mem_of_getElem? (l := tables_1_1) (i := 212) rfl)) rfl, by decide +kernel, by decide +kernel, by decide +kernel⟩, tb_t (List.mem_append_left _ (List.mem_of_getElem? (l := tables_1_1) (i := 210) rfl)) rfl, tb_t (List.mem_append_left _ (List.mem_of_getElem? (l := tables_1_1) (i := 211) rfl)) rfl⟩
theorem cl_IT_141 : CLinkV TB "IntervalText" 141 "IntervalText$Row" y_Row_at b_Row_at 2 (some .int) 1 := ⟨⟨tb_t (List.mem_append_right _ (List.mem_append_right _ (List.mem_append_left _ (List.mem_of_getElem? (l := tables_1_3) (i := 97) rfl)))) rfl, tb_t (List.mem_append_left _ (List.mem_of_getElem? (l := tables_1_1) (i := 2) rfl)) rfl, tb_t (List.mem_append_left _ (List.mem_of_getElem? (l := tables_1_1) (i := 228) rfl)) rfl, by decide +kernel, by decide +kernel, by decide +kernel⟩, tb_t (List.mem_append_left _ (List.mem_of_getElem? (l := tables_1_1) (i := 226) rfl)) rfl, tb_t (List.mem_append_left _ (List.mem_of_getElem? (l := tables_1_1) (i := 227) rfl)) rfl⟩
set_option maxHeartbeats 4000000 in
set_option maxRecDepth 100000 in
theorem c_IT_strongestMark (l : Launch) (D : va_G) (E : EVt) (a1 : Int) (b1 : Int) (ha : -9223372036854775808 ≤ a1 ∧ a1 < 9223372036854775808) (hb1 : -9223372036854775808 ≤ b1 ∧ b1 < 9223372036854775808) : CT l D classes (tyl E) (EVX E) y_IT_strongestMark (Cond.code y_IT_strongestMark b_IT_strongestMark 4 (some .int) :: TB) (rmK 0 0 0 0) 0 0 [.long (lI a1), .long (lI b1)] [] (S := Int) (fun _ => []) (fun u => some (.int (iI u))) (fun u => (u = stm a1 b1)) := by
  refine CT.ofi (fv := fun (u : Int) => u) (eok E) (by decide) rfl (Nat.le_of_ble_eq_true rfl) ?_
  intro p e s m args below meth c A Q ls B hmn hP hD hS hl ret
  have B : Bd l D classes (tyl E) (EVX E) p m c b_IT_strongestMark 4 s args (Cond.code y_IT_strongestMark b_IT_strongestMark 4 (some .int) :: TB) R_IT A := B
  obtain ⟨⟨hx, hb, hml, hown, hts⟩, hX, hK, hE, hA⟩ := id B
  have hl : lv_has ls 4 [(0, .long (lI a1)), (2, .long (lI b1))] := hl
  have hP : va_P D classes [] s.heap := hP
  have hD : va_D A [] := hD
  refine lv_lload_n hx hb d_IT_strongestMark_0 rfl (lv_at hl 0 rfl) ?_
  refine wi_ldc2 hx hb (-4503599627370496) hown (tb_h hts tw_IT_constantLong_88) (by decide) d_IT_strongestMark_1 ?_
  refine wi_lcmp hx hb (by omega) (by omega) d_IT_strongestMark_4 ?_
  refine wi_if_eq (tgt := 16) hx hb d_IT_strongestMark_5 (by decide) (by have := cmpZ_rng a1 (-4503599627370496); omega) (fun c_1 => ?_) (fun c_1 => ?_)
  · skip
    have c_1 := cmpZ_eq.mp c_1
    refine wi_iconst (n := 3) hx hb d_IT_strongestMark_16 ?_
    refine lv_goto (tgt := 21) hx hb d_IT_strongestMark_17 (by decide) ?_
    exact ret 3 _ _ _ _ d_IT_strongestMark_21 (show (3 = stm a1 b1) from ((if_pos (by omega)).symm)) (hP.sub [] rfl) (hD.sub [] (by decide) rfl) hS
  · skip
    have c_1 := cmpZ_ne.mp c_1
    refine lv_lload_n hx hb d_IT_strongestMark_8 rfl (lv_at hl 1 rfl) ?_
    refine wi_ldc2 hx hb 9218868437227405312 hown (tb_h hts tw_IT_constantLong_86) (by decide) d_IT_strongestMark_9 ?_
    refine wi_lcmp hx hb (by omega) (by omega) d_IT_strongestMark_12 ?_
    refine wi_if_ne (tgt := 20) hx hb d_IT_strongestMark_13 (by decide) (by have := cmpZ_rng b1 9218868437227405312; omega) (fun c_2 => ?_) (fun c_2 => ?_)
    · skip
      have c_2 := cmpZ_ne.mp c_2
      refine wi_iconst (n := 4) hx hb d_IT_strongestMark_20 ?_
      exact ret 4 _ _ _ _ d_IT_strongestMark_21 (show (4 = stm a1 b1) from ((if_neg (by omega)).symm)) (hP.sub [] rfl) (hD.sub [] (by decide) rfl) hS
    · skip
      have c_2 := cmpZ_eq.mp c_2
      refine wi_iconst (n := 3) hx hb d_IT_strongestMark_16 ?_
      refine lv_goto (tgt := 21) hx hb d_IT_strongestMark_17 (by decide) ?_
      exact ret 3 _ _ _ _ d_IT_strongestMark_21 (show (3 = stm a1 b1) from ((if_pos (by omega)).symm)) (hP.sub [] rfl) (hD.sub [] (by decide) rfl) hS
set_option maxHeartbeats 4000000 in
set_option maxRecDepth 100000 in
theorem c_IT_withoutZeroSign (l : Launch) (D : va_G) (E : EVt) (f : Int) (hf : -9223372036854775808 ≤ f ∧ f < 9223372036854775808) : CT l D classes (tyl E) (EVX E) y_IT_withoutZeroSign (Cond.code y_IT_withoutZeroSign b_IT_withoutZeroSign 2 (some .long) :: TB) (rmK 0 0 0 0) 0 0 [.long (lI f)] [] (S := Int) (fun _ => []) (fun u => some (.long (lI u))) (fun u => (u = wz f)) := by
  refine CT.ofl (fv := fun (u : Int) => u) (eok E) (by decide) rfl (Nat.le_of_ble_eq_true rfl) ?_
  intro p e s m args below meth c A Q ls B hmn hP hD hS hl ret
  have B : Bd l D classes (tyl E) (EVX E) p m c b_IT_withoutZeroSign 2 s args (Cond.code y_IT_withoutZeroSign b_IT_withoutZeroSign 2 (some .long) :: TB) R_IT A := B
  obtain ⟨⟨hx, hb, hml, hown, hts⟩, hX, hK, hE, hA⟩ := id B
  have hl : lv_has ls 2 [(0, .long (lI f))] := hl
  have hP : va_P D classes [] s.heap := hP
  have hD : va_D A [] := hD
  refine lv_lload_n hx hb d_IT_withoutZeroSign_0 rfl (lv_at hl 0 rfl) ?_
  refine wi_ldc2 hx hb (-9223372036854775808) hown (tb_h hts tw_IT_constantLong_145) (by decide) d_IT_withoutZeroSign_1 ?_
  refine wi_lcmp hx hb (by omega) (by omega) d_IT_withoutZeroSign_4 ?_
  refine wi_if_ne (tgt := 12) hx hb d_IT_withoutZeroSign_5 (by decide) (by have := cmpZ_rng f (-9223372036854775808); omega) (fun c_1 => ?_) (fun c_1 => ?_)
  · skip
    have c_1 := cmpZ_ne.mp c_1
    refine lv_lload_n hx hb d_IT_withoutZeroSign_12 rfl (lv_at hl 0 rfl) ?_
    exact ret f _ _ _ _ d_IT_withoutZeroSign_13 (show (f = wz f) from ((if_neg (by omega)).symm)) (hP.sub [] rfl) (hD.sub [] (by decide) rfl) hS
  · skip
    have c_1 := cmpZ_eq.mp c_1
    refine wi_lconst (z := 0) hx hb d_IT_withoutZeroSign_8 (by decide) ?_
    refine lv_goto (tgt := 13) hx hb d_IT_withoutZeroSign_9 (by decide) ?_
    exact ret 0 _ _ _ _ d_IT_withoutZeroSign_13 (show (0 = wz f) from ((if_pos (by omega)).symm)) (hP.sub [] rfl) (hD.sub [] (by decide) rfl) hS
set_option maxHeartbeats 4000000 in
set_option maxRecDepth 100000 in
theorem c_IT_isNan (l : Launch) (D : va_G) (E : EVt) (f : Int) (hf : -9223372036854775808 ≤ f ∧ f < 9223372036854775808) : CT l D classes (tyl E) (EVX E) y_IT_isNan (Cond.code y_IT_isNan b_IT_isNan 2 (some .boolean) :: TB) (rmK 0 0 0 0) 0 0 [.long (lI f)] [] (S := Bool) (fun _ => []) (fun u => some (.int (bI u))) (fun u => (u = decide (9218868437227405312 < f % 9223372036854775808))) := by
  refine CT.ofz (fv := fun (u : Bool) => u) (eok E) (by decide) rfl (Nat.le_of_ble_eq_true rfl) ?_
  intro p e s m args below meth c A Q ls B hmn hP hD hS hl ret
  have B : Bd l D classes (tyl E) (EVX E) p m c b_IT_isNan 2 s args (Cond.code y_IT_isNan b_IT_isNan 2 (some .boolean) :: TB) R_IT A := B
  obtain ⟨⟨hx, hb, hml, hown, hts⟩, hX, hK, hE, hA⟩ := id B
  have hl : lv_has ls 2 [(0, .long (lI f))] := hl
  have hP : va_P D classes [] s.heap := hP
  have hD : va_D A [] := hD
  refine lv_lload_n hx hb d_IT_isNan_0 rfl (lv_at hl 0 rfl) ?_
  refine wi_ldc2 hx hb 9223372036854775807 hown (tb_h hts tw_IT_constantLong_154) (by decide) d_IT_isNan_1 ?_
  refine wi_lmask hx hb 63 9223372036854775808 (by decide +kernel) (by decide) (by decide) d_IT_isNan_4 ?_
  refine wi_ldc2 hx hb 9218868437227405312 hown (tb_h hts tw_IT_constantLong_86) (by decide) d_IT_isNan_5 ?_
  refine wi_lcmp hx hb (by omega) (by omega) d_IT_isNan_8 ?_
  refine wi_if_le (tgt := 16) hx hb d_IT_isNan_9 (by decide) (by have := cmpZ_rng (f % 9223372036854775808) 9218868437227405312; omega) (fun c_1 => ?_) (fun c_1 => ?_)
  · skip
    have c_1 := cmpZ_le.mp c_1
    refine wi_iconst (n := 0) hx hb d_IT_isNan_16 ?_
    refine w_as0 ?_
    exact ret false _ _ _ _ d_IT_isNan_17 (show (false = decide (9218868437227405312 < f % 9223372036854775808)) from ((decide_eq_false (by omega)).symm)) (hP.sub [] rfl) (hD.sub [] (by decide) rfl) hS
  · skip
    have c_1 := cmpZ_gt.mp c_1
    refine wi_iconst (n := 1) hx hb d_IT_isNan_12 ?_
    refine lv_goto (tgt := 17) hx hb d_IT_isNan_13 (by decide) ?_
    refine w_as1 ?_
    exact ret true _ _ _ _ d_IT_isNan_17 (show (true = decide (9218868437227405312 < f % 9223372036854775808)) from ((decide_eq_true (by omega)).symm)) (hP.sub [] rfl) (hD.sub [] (by decide) rfl) hS
set_option maxHeartbeats 4000000 in
set_option maxRecDepth 100000 in
theorem c_IT_place (l : Launch) (D : va_G) (E : EVt) (f : Int) (hf : -9223372036854775808 ≤ f ∧ f < 9223372036854775808) : CT l D classes (tyl E) (EVX E) y_IT_place (Cond.code y_IT_place b_IT_place 2 (some .long) :: TB) (rmK 0 0 0 0) 0 0 [.long (lI f)] [] (S := Int) (fun _ => []) (fun u => some (.long (lI u))) (fun u => (u = plc f)) := by
  refine CT.ofl (fv := fun (u : Int) => u) (eok E) (by decide) rfl (Nat.le_of_ble_eq_true rfl) ?_
  intro p e s m args below meth c A Q ls B hmn hP hD hS hl ret
  have B : Bd l D classes (tyl E) (EVX E) p m c b_IT_place 2 s args (Cond.code y_IT_place b_IT_place 2 (some .long) :: TB) R_IT A := B
  obtain ⟨⟨hx, hb, hml, hown, hts⟩, hX, hK, hE, hA⟩ := id B
  have hl : lv_has ls 2 [(0, .long (lI f))] := hl
  have hP : va_P D classes [] s.heap := hP
  have hD : va_D A [] := hD
  refine lv_lload_n hx hb d_IT_place_0 rfl (lv_at hl 0 rfl) ?_
  refine wi_lconst (z := 0) hx hb d_IT_place_1 (by decide) ?_
  refine wi_lcmp hx hb (by omega) (by omega) d_IT_place_2 ?_
  refine wi_if_lt (tgt := 10) hx hb d_IT_place_3 (by decide) (by have := cmpZ_rng f 0; omega) (fun c_1 => ?_) (fun c_1 => ?_)
  · skip
    have c_1 := cmpZ_lt.mp c_1
    refine lv_lload_n hx hb d_IT_place_10 rfl (lv_at hl 0 rfl) ?_
    refine wi_ldc2 hx hb 9223372036854775807 hown (tb_h hts tw_IT_constantLong_154) (by decide) d_IT_place_11 ?_
    refine wi_lmask hx hb 63 9223372036854775808 (by decide +kernel) (by decide) (by decide) d_IT_place_14 ?_
    refine wi_lneg hx hb d_IT_place_15 ?_
    exact ret (-(f % 9223372036854775808)) _ _ _ _ d_IT_place_16 (show ((-(f % 9223372036854775808)) = plc f) from ((if_neg (by omega)).symm)) (hP.sub [] rfl) (hD.sub [] (by decide) rfl) hS
  · skip
    have c_1 := cmpZ_ge.mp c_1
    refine lv_lload_n hx hb d_IT_place_6 rfl (lv_at hl 0 rfl) ?_
    refine lv_goto (tgt := 16) hx hb d_IT_place_7 (by decide) ?_
    exact ret f _ _ _ _ d_IT_place_16 (show (f = plc f) from ((if_pos (by omega)).symm)) (hP.sub [] rfl) (hD.sub [] (by decide) rfl) hS
set_option maxHeartbeats 4000000 in
set_option maxRecDepth 100000 in
theorem c_IT_areEnds (l : Launch) (D : va_G) (E : EVt) (a1 : Int) (b1 : Int) (ha : -9223372036854775808 ≤ a1 ∧ a1 < 9223372036854775808) (hb1 : -9223372036854775808 ≤ b1 ∧ b1 < 9223372036854775808) : CT l D classes (tyl E) (EVX E) y_IT_areEnds (Cond.code y_IT_areEnds b_IT_areEnds 4 (some .boolean) :: TB) (rmK 1 0 0 21) 0 0 [.long (lI a1), .long (lI b1)] [] (S := Bool) (fun _ => []) (fun u => some (.int (bI u))) (fun u => (u = true ↔ AEN a1 b1)) := by
  refine CT.ofz (fv := fun (u : Bool) => u) (eok E) (by decide) rfl (Nat.le_of_ble_eq_true rfl) ?_
  intro p e s m args below meth c A Q ls B hmn hP hD hS hl ret
  have B : Bd l D classes (tyl E) (EVX E) p m c b_IT_areEnds 4 s args (Cond.code y_IT_areEnds b_IT_areEnds 4 (some .boolean) :: TB) R_IT A := B
  obtain ⟨⟨hx, hb, hml, hown, hts⟩, hX, hK, hE, hA⟩ := id B
  have hl : lv_has ls 4 [(0, .long (lI a1)), (2, .long (lI b1))] := hl
  have hP : va_P D classes [] s.heap := hP
  have hD : va_D A [] := hD
  have hpa : -9223372036854775808 ≤ plc a1 ∧ plc a1 < 9223372036854775808 := by unfold plc; split <;> omega
  have hpb : -9223372036854775808 ≤ plc b1 ∧ plc b1 < 9223372036854775808 := by unfold plc; split <;> omega
  refine lv_lload_n hx hb d_IT_areEnds_0 rfl (lv_at hl 0 rfl) ?_
  refine wk_callS (As := [.long (lI a1)]) (rest := []) (wr := []) B gTB cl_IT_147 (c_IT_isNan l D E a1 (by omega)) ⟨⟨rfl, rfl⟩, Nat.le_of_ble_eq_true rfl, Nat.le_of_ble_eq_true rfl⟩ hP hD hS [] [] rfl rfl (by decide) ⟨hl.2.1, hl.1⟩ rfl (Nat.le_of_ble_eq_true rfl) d_IT_areEnds_1 ⟨Nat.le_of_ble_eq_true rfl, Nat.le_of_ble_eq_true rfl⟩ rfl (fun na H locs hw hP hD hS => ?_)
  have hP : va_P D classes [] H := hP
  have hD : va_D A [] := hD
  have hw : (na = decide (9218868437227405312 < a1 % 9223372036854775808)) := hw
  have hr_1 := hw
  refine W.cs (g := F0 m 4 ls [.int (bI na)]) (cells' := 0) (slots' := 0) rfl rfl ?_
  subst hr_1
  refine wb_if_ne (tgt := 46) hx hb d_IT_areEnds_4 (by decide) (fun c_2 => ?_) (fun c_2 => ?_)
  · skip
    refine wi_iconst (n := 0) hx hb d_IT_areEnds_46 ?_
    refine w_as0 ?_
    exact ret false _ _ _ _ d_IT_areEnds_47 (show (false = true ↔ AEN a1 b1) from (⟨fun z => (by cases z), fun z => by exfalso; obtain ⟨z1, z2, z3, z4, z5⟩ := z; first | (have := of_decide_eq_true c_2; omega) | (have := of_decide_eq_true c_4; omega) | omega⟩)) (hP.sub [] rfl) (hD.sub [] (by decide) rfl) hS
  · skip
    refine lv_lload_n hx hb d_IT_areEnds_7 rfl (lv_at hl 1 rfl) ?_
    refine wk_callS (As := [.long (lI b1)]) (rest := []) (wr := []) B gTB cl_IT_147 (c_IT_isNan l D E b1 (by omega)) ⟨⟨rfl, rfl⟩, Nat.le_of_ble_eq_true rfl, Nat.le_of_ble_eq_true rfl⟩ hP hD hS [] [] rfl rfl (by decide) ⟨hl.2.1, hl.1⟩ rfl (Nat.le_of_ble_eq_true rfl) d_IT_areEnds_8 ⟨Nat.le_of_ble_eq_true rfl, Nat.le_of_ble_eq_true rfl⟩ rfl (fun nb H locs hw hP hD hS => ?_)
    have hP : va_P D classes [] H := hP
    have hD : va_D A [] := hD
    have hw : (nb = decide (9218868437227405312 < b1 % 9223372036854775808)) := hw
    have hr_3 := hw
    refine W.cs (g := F0 m 11 ls [.int (bI nb)]) (cells' := 0) (slots' := 0) rfl rfl ?_
    subst hr_3
    refine wb_if_ne (tgt := 46) hx hb d_IT_areEnds_11 (by decide) (fun c_4 => ?_) (fun c_4 => ?_)
    · skip
      refine wi_iconst (n := 0) hx hb d_IT_areEnds_46 ?_
      refine w_as0 ?_
      exact ret false _ _ _ _ d_IT_areEnds_47 (show (false = true ↔ AEN a1 b1) from (⟨fun z => (by cases z), fun z => by exfalso; obtain ⟨z1, z2, z3, z4, z5⟩ := z; first | (have := of_decide_eq_true c_2; omega) | (have := of_decide_eq_true c_4; omega) | omega⟩)) (hP.sub [] rfl) (hD.sub [] (by decide) rfl) hS
    · skip
      refine lv_lload_n hx hb d_IT_areEnds_14 rfl (lv_at hl 0 rfl) ?_
      refine wi_ldc2 hx hb 9218868437227405312 hown (tb_h hts tw_IT_constantLong_86) (by decide) d_IT_areEnds_15 ?_
      refine wi_lcmp hx hb (by omega) (by omega) d_IT_areEnds_18 ?_
      refine wi_if_eq (tgt := 46) hx hb d_IT_areEnds_19 (by decide) (by have := cmpZ_rng a1 9218868437227405312; omega) (fun c_5 => ?_) (fun c_5 => ?_)
      · skip
        have c_5 := cmpZ_eq.mp c_5
        refine wi_iconst (n := 0) hx hb d_IT_areEnds_46 ?_
        refine w_as0 ?_
        exact ret false _ _ _ _ d_IT_areEnds_47 (show (false = true ↔ AEN a1 b1) from (⟨fun z => (by cases z), fun z => by exfalso; obtain ⟨z1, z2, z3, z4, z5⟩ := z; first | (have := of_decide_eq_true c_2; omega) | (have := of_decide_eq_true c_4; omega) | omega⟩)) (hP.sub [] rfl) (hD.sub [] (by decide) rfl) hS
      · skip
        have c_5 := cmpZ_ne.mp c_5
        refine lv_lload_n hx hb d_IT_areEnds_22 rfl (lv_at hl 1 rfl) ?_
        refine wi_ldc2 hx hb (-4503599627370496) hown (tb_h hts tw_IT_constantLong_88) (by decide) d_IT_areEnds_23 ?_
        refine wi_lcmp hx hb (by omega) (by omega) d_IT_areEnds_26 ?_
        refine wi_if_eq (tgt := 46) hx hb d_IT_areEnds_27 (by decide) (by have := cmpZ_rng b1 (-4503599627370496); omega) (fun c_6 => ?_) (fun c_6 => ?_)
        · skip
          have c_6 := cmpZ_eq.mp c_6
          refine wi_iconst (n := 0) hx hb d_IT_areEnds_46 ?_
          refine w_as0 ?_
          exact ret false _ _ _ _ d_IT_areEnds_47 (show (false = true ↔ AEN a1 b1) from (⟨fun z => (by cases z), fun z => by exfalso; obtain ⟨z1, z2, z3, z4, z5⟩ := z; first | (have := of_decide_eq_true c_2; omega) | (have := of_decide_eq_true c_4; omega) | omega⟩)) (hP.sub [] rfl) (hD.sub [] (by decide) rfl) hS
        · skip
          have c_6 := cmpZ_ne.mp c_6
          refine lv_lload_n hx hb d_IT_areEnds_30 rfl (lv_at hl 0 rfl) ?_
          refine wk_callS (As := [.long (lI a1)]) (rest := []) (wr := []) B gTB cl_IT_151 (c_IT_place l D E a1 (by omega)) ⟨⟨rfl, rfl⟩, Nat.le_of_ble_eq_true rfl, Nat.le_of_ble_eq_true rfl⟩ hP hD hS [] [] rfl rfl (by decide) ⟨hl.2.1, hl.1⟩ rfl (Nat.le_of_ble_eq_true rfl) d_IT_areEnds_31 ⟨Nat.le_of_ble_eq_true rfl, Nat.le_of_ble_eq_true rfl⟩ rfl (fun r_7 H locs hw hP hD hS => ?_)
          have hP : va_P D classes [] H := hP
          have hD : va_D A [] := hD
          have hw : (r_7 = plc a1) := hw
          have hr_8 := hw
          refine W.cs (g := F0 m 34 ls [.long (lI r_7)]) (cells' := 0) (slots' := 0) rfl rfl ?_
          subst hr_8
          refine lv_lload_n hx hb d_IT_areEnds_34 rfl (lv_at hl 1 rfl) ?_
          refine wk_callS (As := [.long (lI b1)]) (rest := [.long (lI (plc a1))]) (wr := []) B gTB cl_IT_151 (c_IT_place l D E b1 (by omega)) ⟨⟨rfl, rfl⟩, Nat.le_of_ble_eq_true rfl, Nat.le_of_ble_eq_true rfl⟩ hP hD hS [] [] rfl rfl (by decide) ⟨hl.2.1, hl.1⟩ rfl (Nat.le_of_ble_eq_true rfl) d_IT_areEnds_35 ⟨Nat.le_of_ble_eq_true rfl, Nat.le_of_ble_eq_true rfl⟩ rfl (fun r_9 H locs hw hP hD hS => ?_)
          have hP : va_P D classes [] H := hP
          have hD : va_D A [] := hD
          have hw : (r_9 = plc b1) := hw
          have hr_10 := hw
          refine W.cs (g := F0 m 38 ls [.long (lI r_9), .long (lI (plc a1))]) (cells' := 0) (slots' := 0) rfl rfl ?_
          subst hr_10
          refine wi_lcmp hx hb (by omega) (by omega) d_IT_areEnds_38 ?_
          refine wi_if_gt (tgt := 46) hx hb d_IT_areEnds_39 (by decide) (by have := cmpZ_rng (plc a1) (plc b1); omega) (fun c_11 => ?_) (fun c_11 => ?_)
          · skip
            have c_11 := cmpZ_gt.mp c_11
            refine wi_iconst (n := 0) hx hb d_IT_areEnds_46 ?_
            refine w_as0 ?_
            exact ret false _ _ _ _ d_IT_areEnds_47 (show (false = true ↔ AEN a1 b1) from (⟨fun z => (by cases z), fun z => by exfalso; obtain ⟨z1, z2, z3, z4, z5⟩ := z; first | (have := of_decide_eq_true c_2; omega) | (have := of_decide_eq_true c_4; omega) | omega⟩)) (hP.sub [] rfl) (hD.sub [] (by decide) rfl) hS
          · skip
            have c_11 := cmpZ_le.mp c_11
            refine wi_iconst (n := 1) hx hb d_IT_areEnds_42 ?_
            refine lv_goto (tgt := 47) hx hb d_IT_areEnds_43 (by decide) ?_
            refine w_as1 ?_
            exact ret true _ _ _ _ d_IT_areEnds_47 (show (true = true ↔ AEN a1 b1) from (⟨fun _ => ⟨by have := of_decide_eq_false c_2; omega, by have := of_decide_eq_false c_4; omega, by omega, by omega, by omega⟩, fun _ => rfl⟩)) (hP.sub [] rfl) (hD.sub [] (by decide) rfl) hS
set_option maxHeartbeats 4000000 in
set_option maxRecDepth 100000 in
theorem c_IT_keep (l : Launch) (D : va_G) (E : EVt) (h : Nat) (tp : Nat) (ou : Nat) (ar : Nat) (sc : Nat) (pr : Nat) (le : Int) (ge : Int) (a1 : Int) (b1 : Int) (mk : Int)  : CT l D classes (tyl E) (EVX E) y_IT_keep (Cond.code y_IT_keep b_IT_keep 6 (some .int) :: TB) (rmK 0 0 0 0) 0 0 [.ref h, .long (lI a1), .long (lI b1), .int (iI mk)] [(h, .inr (6, [.ref tp, .ref ou, .ref ar, .ref sc, .ref pr, .long (lI le), .long (lI ge)]))] (S := Unit) (fun _ => [(h, .inr (6, [.ref tp, .ref ou, .ref ar, .ref sc, .ref pr, .long (lI a1), .long (lI b1)]))]) (fun _ => some (.int (iI mk))) (fun _ => True) := by
  refine CT.ofi (fv := fun (_ : Unit) => mk) (eok E) (by decide) rfl (Nat.le_of_ble_eq_true rfl) ?_
  intro p e s m args below meth c A Q ls B hmn hP hD hS hl ret
  have B : Bd l D classes (tyl E) (EVX E) p m c b_IT_keep 6 s args (Cond.code y_IT_keep b_IT_keep 6 (some .int) :: TB) R_IT A := B
  obtain ⟨⟨hx, hb, hml, hown, hts⟩, hX, hK, hE, hA⟩ := id B
  have hl : lv_has ls 6 [(0, .ref h), (1, .long (lI a1)), (3, .long (lI b1)), (5, .int (iI mk))] := hl
  have hP : va_P D classes [(h, .inr (6, [.ref tp, .ref ou, .ref ar, .ref sc, .ref pr, .long (lI le), .long (lI ge)]))] s.heap := hP
  have hD : va_D A [(h, .inr (6, [.ref tp, .ref ou, .ref ar, .ref sc, .ref pr, .long (lI le), .long (lI ge)]))] := hD
  refine lv_aload_n hx hb d_IT_keep_0 rfl (lv_at hl 0 rfl) ?_
  refine lv_lload_n hx hb d_IT_keep_1 rfl (lv_at hl 1 rfl) ?_
  refine wk_put B hP hD hS 0 rfl fl_IT_46 fp_IT_5 (v := .long (lI a1)) rfl rfl (Nat.le_of_ble_eq_true rfl) d_IT_keep_2 (fun H locs hP hD hS => ?_)
  have hP : va_P D classes [(h, .inr (6, [.ref tp, .ref ou, .ref ar, .ref sc, .ref pr, .long (lI a1), .long (lI ge)]))] H := hP
  have hD : va_D A [(h, .inr (6, [.ref tp, .ref ou, .ref ar, .ref sc, .ref pr, .long (lI a1), .long (lI ge)]))] := hD
  refine lv_aload_n hx hb d_IT_keep_5 rfl (lv_at hl 0 rfl) ?_
  refine lv_lload_n hx hb d_IT_keep_6 rfl (lv_at hl 2 rfl) ?_
  refine wk_put B hP hD hS 0 rfl fl_IT_50 fp_IT_6 (v := .long (lI b1)) rfl rfl (Nat.le_of_ble_eq_true rfl) d_IT_keep_7 (fun H locs hP hD hS => ?_)
  have hP : va_P D classes [(h, .inr (6, [.ref tp, .ref ou, .ref ar, .ref sc, .ref pr, .long (lI a1), .long (lI b1)]))] H := hP
  have hD : va_D A [(h, .inr (6, [.ref tp, .ref ou, .ref ar, .ref sc, .ref pr, .long (lI a1), .long (lI b1)]))] := hD
  refine lv_iload hx hb d_IT_keep_10 (lv_at hl 3 rfl) ?_
  exact ret () _ _ _ _ d_IT_keep_12 trivial (hP.sub [0] rfl) (hD.sub [0] (by decide) rfl) hS
set_option maxHeartbeats 4000000 in
set_option maxRecDepth 100000 in
theorem c_IT_low (l : Launch) (D : va_G) (E : EVt) (h : Nat) (tp : Nat) (ou : Nat) (ar : Nat) (sc : Nat) (pr : Nat) (le : Int) (ge : Int)  : CT l D classes (tyl E) (EVX E) y_IT_low (Cond.code y_IT_low b_IT_low 1 (some .long) :: TB) (rmK 0 0 0 0) 0 0 [.ref h] [(h, .inr (6, [.ref tp, .ref ou, .ref ar, .ref sc, .ref pr, .long (lI le), .long (lI ge)]))] (S := Int) (fun _ => [(h, .inr (6, [.ref tp, .ref ou, .ref ar, .ref sc, .ref pr, .long (lI le), .long (lI ge)]))]) (fun u => some (.long (lI u))) (fun u => (u = le)) := by
  refine CT.ofl (fv := fun (u : Int) => u) (eok E) (by decide) rfl (Nat.le_of_ble_eq_true rfl) ?_
  intro p e s m args below meth c A Q ls B hmn hP hD hS hl ret
  have B : Bd l D classes (tyl E) (EVX E) p m c b_IT_low 1 s args (Cond.code y_IT_low b_IT_low 1 (some .long) :: TB) R_IT A := B
  obtain ⟨⟨hx, hb, hml, hown, hts⟩, hX, hK, hE, hA⟩ := id B
  have hl : lv_has ls 1 [(0, .ref h)] := hl
  have hP : va_P D classes [(h, .inr (6, [.ref tp, .ref ou, .ref ar, .ref sc, .ref pr, .long (lI le), .long (lI ge)]))] s.heap := hP
  have hD : va_D A [(h, .inr (6, [.ref tp, .ref ou, .ref ar, .ref sc, .ref pr, .long (lI le), .long (lI ge)]))] := hD
  refine lv_aload_n hx hb d_IT_low_0 rfl (lv_at hl 0 rfl) ?_
  refine wk_get B hP 0 rfl fl_IT_46 (v := .long (lI le)) rfl d_IT_low_1 ?_
  exact ret le _ _ _ _ d_IT_low_4 (show (le = le) from rfl) (hP.sub [0] rfl) (hD.sub [0] (by decide) rfl) hS
set_option maxHeartbeats 4000000 in
set_option maxRecDepth 100000 in
theorem c_IT_high (l : Launch) (D : va_G) (E : EVt) (h : Nat) (tp : Nat) (ou : Nat) (ar : Nat) (sc : Nat) (pr : Nat) (le : Int) (ge : Int)  : CT l D classes (tyl E) (EVX E) y_IT_high (Cond.code y_IT_high b_IT_high 1 (some .long) :: TB) (rmK 0 0 0 0) 0 0 [.ref h] [(h, .inr (6, [.ref tp, .ref ou, .ref ar, .ref sc, .ref pr, .long (lI le), .long (lI ge)]))] (S := Int) (fun _ => [(h, .inr (6, [.ref tp, .ref ou, .ref ar, .ref sc, .ref pr, .long (lI le), .long (lI ge)]))]) (fun u => some (.long (lI u))) (fun u => (u = ge)) := by
  refine CT.ofl (fv := fun (u : Int) => u) (eok E) (by decide) rfl (Nat.le_of_ble_eq_true rfl) ?_
  intro p e s m args below meth c A Q ls B hmn hP hD hS hl ret
  have B : Bd l D classes (tyl E) (EVX E) p m c b_IT_high 1 s args (Cond.code y_IT_high b_IT_high 1 (some .long) :: TB) R_IT A := B
  obtain ⟨⟨hx, hb, hml, hown, hts⟩, hX, hK, hE, hA⟩ := id B
  have hl : lv_has ls 1 [(0, .ref h)] := hl
  have hP : va_P D classes [(h, .inr (6, [.ref tp, .ref ou, .ref ar, .ref sc, .ref pr, .long (lI le), .long (lI ge)]))] s.heap := hP
  have hD : va_D A [(h, .inr (6, [.ref tp, .ref ou, .ref ar, .ref sc, .ref pr, .long (lI le), .long (lI ge)]))] := hD
  refine lv_aload_n hx hb d_IT_high_0 rfl (lv_at hl 0 rfl) ?_
  refine wk_get B hP 0 rfl fl_IT_50 (v := .long (lI ge)) rfl d_IT_high_1 ?_
  exact ret ge _ _ _ _ d_IT_high_4 (show (ge = ge) from rfl) (hP.sub [0] rfl) (hD.sub [0] (by decide) rfl) hS
set_option maxHeartbeats 4000000 in
set_option maxRecDepth 100000 in
theorem c_IT_feed (l : Launch) (D : va_G) (E : EVt) (h : Nat) (tp : Nat) (ou : Nat) (ar : Nat) (sc : Nat) (pr : Nat) (le : Int) (ge : Int) (ta : Nat) (t : Int → Int) (n : Int) (by9 : Int) (nn : Int) (hn : 0 ≤ n ∧ n ≤ 400) (hnn : -2147483648 ≤ nn ∧ nn < 2147483648) : CT l D classes (tyl E) (EVX E) y_IT_feed (Cond.code y_IT_feed b_IT_feed 5 (some .int) :: TB) (rmK 1 0 0 21) 0 0 [.ref h, .long (lI by9), .int (iI nn)] [(h, .inr (6, [.ref tp, .ref ou, .ref ar, .ref sc, .ref pr, .long (lI le), .long (lI ge)])), (tp, .inr (3, [.ref ta, .int (iI n)])), (ta, .inl (E.2.1, 400, .inl (ia t)))] (S := Int × Int × (Int → Int)) (fun u => [(h, .inr (6, [.ref tp, .ref ou, .ref ar, .ref sc, .ref pr, .long (lI le), .long (lI ge)])), (tp, .inr (3, [.ref ta, .int (iI u.2.1)])), (ta, .inl (E.2.1, 400, .inl (ia u.2.2)))]) (fun u => some (.int (iI u.1))) (fun u => (u.1 = FDr n nn) ∧ (u.2.1 = FDn n nn) ∧ (u.2.2 = FDt t n by9 nn)) := by
  refine CT.ofi (fv := fun (u : Int × Int × (Int → Int)) => u.1) (eok E) (by decide) rfl (Nat.le_of_ble_eq_true rfl) ?_
  intro p e s m args below meth c A Q ls B hmn hP hD hS hl ret
  have B : Bd l D classes (tyl E) (EVX E) p m c b_IT_feed 5 s args (Cond.code y_IT_feed b_IT_feed 5 (some .int) :: TB) R_IT A := B
  obtain ⟨⟨hx, hb, hml, hown, hts⟩, hX, hK, hE, hA⟩ := id B
  have hl : lv_has ls 5 [(0, .ref h), (1, .long (lI by9)), (3, .int (iI nn))] := hl
  have hP : va_P D classes [(h, .inr (6, [.ref tp, .ref ou, .ref ar, .ref sc, .ref pr, .long (lI le), .long (lI ge)])), (tp, .inr (3, [.ref ta, .int (iI n)])), (ta, .inl (E.2.1, 400, .inl (ia t)))] s.heap := hP
  have hD : va_D A [(h, .inr (6, [.ref tp, .ref ou, .ref ar, .ref sc, .ref pr, .long (lI le), .long (lI ge)])), (tp, .inr (3, [.ref ta, .int (iI n)])), (ta, .inl (E.2.1, 400, .inl (ia t)))] := hD
  have K_34 : ∀ (fuel34 : Nat) (i : Int) (n1 : Int) (t1 : Int → Int) (hi : 0 ≤ i ∧ i ≤ nn) (hk : 1 ≤ nn ∧ nn ≤ 8 ∧ n + nn ≤ 400) (hn1 : n1 = n + i) (ht1 : t1 = apZ t n i (byt by9)) (hf34 : nn - i < (fuel34 : Int)) (ls : Array Slot) (H : Heap) (locs : List Loc), lv_has ls 5 [(0, .ref h), (1, .long (lI by9)), (3, .int (iI nn)), (4, .int (iI i))] → va_P D classes [(h, .inr (6, [.ref tp, .ref ou, .ref ar, .ref sc, .ref pr, .long (lI le), .long (lI ge)])), (tp, .inr (3, [.ref ta, .int (iI n1)])), (ta, .inl (E.2.1, 400, .inl (ia t1)))] H → va_D A [(h, .inr (6, [.ref tp, .ref ou, .ref ar, .ref sc, .ref pr, .long (lI le), .long (lI ge)])), (tp, .inr (3, [.ref ta, .int (iI n1)])), (ta, .inl (E.2.1, 400, .inl (ia t1)))] → va_S A s.heap H locs → W p l e (rmK 1 0 0 21) s m args below meth c H locs 0 0 Q (F0 m 34 ls []) := by
    intro fuel34
    induction fuel34 with
    | zero =>
      intro i n1 t1 hi hk hn1 ht1 hf34 ls H locs hl hP hD hS
      exfalso; omega
    | succ fuel34 ih34 =>
      intro i n1 t1 hi hk hn1 ht1 hf34 ls H locs hl hP hD hS
      refine lv_iload hx hb d_IT_feed_34 (lv_at hl 3 rfl) ?_
      refine lv_iload_n hx hb d_IT_feed_36 rfl (lv_at hl 2 rfl) ?_
      refine wi_icmp_ge (tgt := 65) hx hb d_IT_feed_37 (by decide) (by omega) (by omega) (fun c_1 => ?_) (fun c_1 => ?_)
      · skip
        refine lv_aload_n hx hb d_IT_feed_65 rfl (lv_at hl 0 rfl) ?_
        refine wk_get B hP 0 rfl fl_IT_14 (v := .ref tp) rfl d_IT_feed_66 ?_
        refine wk_get B hP 1 rfl fl_IT_53 (v := .int (iI n1)) rfl d_IT_feed_69 ?_
        exact ret (n1, n1, t1) _ _ _ _ d_IT_feed_72 (show (n1 = FDr n nn) ∧ (n1 = FDn n nn) ∧ (t1 = FDt t n by9 nn) from ⟨by rw [(FD_3 (t := t) (x := by9) (by omega) (by omega)).1]; omega, by rw [(FD_3 (t := t) (x := by9) (by omega) (by omega)).2.1]; omega, by rw [(FD_3 (by omega) (by omega)).2.2, ht1, show i = nn by omega]⟩) (hP.sub [0, 1, 2] rfl) (hD.sub [0, 1, 2] (by decide) rfl) hS
      · skip
        refine lv_aload_n hx hb d_IT_feed_40 rfl (lv_at hl 0 rfl) ?_
        refine wk_get B hP 0 rfl fl_IT_14 (v := .ref tp) rfl d_IT_feed_41 ?_
        refine lv_lload_n hx hb d_IT_feed_44 rfl (lv_at hl 1 rfl) ?_
        refine wi_bipush hx hb d_IT_feed_45 (by decide) ?_
        refine lv_iload hx hb d_IT_feed_47 (lv_at hl 3 rfl) ?_
        refine wi_imul hx hb d_IT_feed_49 ?_
        refine wi_lushr2 hx hb (8 * i).toNat (P2 (8 * i)) rfl (by omega) (by omega) d_IT_feed_50 ?_
        refine wi_l2i hx hb d_IT_feed_51 ?_
        refine wi_sipush hx hb d_IT_feed_52 (by decide) ?_
        refine wi_imask hx hb 8 256 (by decide +kernel) (by decide) (by decide) d_IT_feed_55 ?_
        refine w_eqi (y := byt by9 i) (byt_u (by omega)) ?_
        refine W.eq (g2 := F0 m 56 ls [.int (iI (byt by9 i)), .ref tp]) rfl ?_
        refine wk_callV (As := [.int (iI (byt by9 i))]) (rest := []) (wr := [(h, .inr (6, [.ref tp, .ref ou, .ref ar, .ref sc, .ref pr, .long (lI le), .long (lI ge)]))]) B gTB cl_IT_57 (c_Row_add l D E tp ta 400 t1 n1 (byt by9 i) (by omega) (by decide) (by have := Int.emod_nonneg (by9 / P2 (8 * i)) (show (256 : Int) ≠ 0 by decide); have := Int.emod_lt_of_pos (by9 / P2 (8 * i)) (show (0 : Int) < 256 by decide); unfold byt; omega)) ⟨⟨rfl, rfl⟩, Nat.le_of_ble_eq_true rfl, Nat.le_of_ble_eq_true rfl⟩ hP hD hS [1, 2] [0] rfl rfl (by decide) 1 rfl rfl rfl ⟨hl.2.1, hl.1⟩ rfl (Nat.le_of_ble_eq_true rfl) d_IT_feed_56 ⟨Nat.le_of_ble_eq_true rfl, Nat.le_of_ble_eq_true rfl⟩ rfl (fun u H locs hw hP hD hS => ?_)
        have hP : va_P D classes [(h, .inr (6, [.ref tp, .ref ou, .ref ar, .ref sc, .ref pr, .long (lI le), .long (lI ge)])), (tp, .inr (3, [.ref ta, .int (iI (n1 + 1))])), (ta, .inl (E.2.1, 400, .inl (ia (upZ t1 n1 (byt by9 i)))))] H := hP
        have hD : va_D A [(h, .inr (6, [.ref tp, .ref ou, .ref ar, .ref sc, .ref pr, .long (lI le), .long (lI ge)])), (tp, .inr (3, [.ref ta, .int (iI (n1 + 1))])), (ta, .inl (E.2.1, 400, .inl (ia (upZ t1 n1 (byt by9 i)))))] := hD
        refine W.cs (g := F0 m 59 ls []) (cells' := 0) (slots' := 0) rfl rfl ?_
        refine wi_iinc (v := i + 1) (lv' := [(4, .int (iI (i + 1))), (0, .ref h), (1, .long (lI by9)), (3, .int (iI nn))]) hx hb d_IT_feed_59 hl (k := 3) rfl rfl (by decide) rfl (fun ls hl => ?_)
        refine lv_goto (tgt := 34) hx hb d_IT_feed_62 (by decide) ?_
        exact ih34 (i + 1) (n1 + 1) (upZ t1 n1 (byt by9 i)) (by omega) (hk) (by omega) (by rw [ht1, hn1]; exact apZ_s hi.1) (by omega) _ _ _ (lv_sub hl [1, 2, 3, 0] rfl) (hP.sub [0, 1, 2] rfl) (hD.sub [0, 1, 2] (by decide) rfl) hS
  refine lv_iload_n hx hb d_IT_feed_0 rfl (lv_at hl 2 rfl) ?_
  refine wi_iconst (n := 1) hx hb d_IT_feed_1 ?_
  refine wi_icmp_lt (tgt := 11) hx hb d_IT_feed_2 (by decide) (by omega) (by omega) (fun c_2 => ?_) (fun c_2 => ?_)
  · skip
    refine wi_iconst (n := -1) hx hb d_IT_feed_11 ?_
    exact ret (-1, n, t) _ _ _ _ d_IT_feed_12 (show ((-1) = FDr n nn) ∧ (n = FDn n nn) ∧ (t = FDt t n by9 nn) from ⟨(FD_1 (t := t) (x := by9) (by omega)).1.symm, (FD_1 (t := t) (x := by9) (by omega)).2.1.symm, (FD_1 (by omega)).2.2.symm⟩) (hP.sub [0, 1, 2] rfl) (hD.sub [0, 1, 2] (by decide) rfl) hS
  · skip
    refine lv_iload_n hx hb d_IT_feed_5 rfl (lv_at hl 2 rfl) ?_
    refine wi_bipush hx hb d_IT_feed_6 (by decide) ?_
    refine wi_icmp_le (tgt := 13) hx hb d_IT_feed_8 (by decide) (by omega) (by omega) (fun c_3 => ?_) (fun c_3 => ?_)
    · skip
      refine lv_aload_n hx hb d_IT_feed_13 rfl (lv_at hl 0 rfl) ?_
      refine wk_get B hP 0 rfl fl_IT_14 (v := .ref tp) rfl d_IT_feed_14 ?_
      refine wk_get B hP 1 rfl fl_IT_53 (v := .int (iI n)) rfl d_IT_feed_17 ?_
      refine lv_iload_n hx hb d_IT_feed_20 rfl (lv_at hl 2 rfl) ?_
      refine wi_iadd hx hb d_IT_feed_21 ?_
      refine wi_sipush hx hb d_IT_feed_22 (by decide) ?_
      refine wi_icmp_le (tgt := 31) hx hb d_IT_feed_25 (by decide) (by omega) (by omega) (fun c_4 => ?_) (fun c_4 => ?_)
      · skip
        refine wi_iconst (n := 0) hx hb d_IT_feed_31 ?_
        refine lv_istore (lv' := [(4, .int (iI 0)), (0, .ref h), (1, .long (lI by9)), (3, .int (iI nn))]) hx hb d_IT_feed_32 hl (by decide) rfl (fun ls hl => ?_)
        exact K_34 ((nn - 0 : Int).toNat + 1) 0 n t (by omega) (by omega) (by omega) ((apZ_0 t n _).symm) (by omega) _ _ _ (lv_sub hl [1, 2, 3, 0] rfl) (hP.sub [0, 1, 2] rfl) (hD.sub [0, 1, 2] (by decide) rfl) hS
      · skip
        refine wi_bipush hx hb d_IT_feed_28 (by decide) ?_
        exact ret (-2, n, t) _ _ _ _ d_IT_feed_30 (show ((-2) = FDr n nn) ∧ (n = FDn n nn) ∧ (t = FDt t n by9 nn) from ⟨(FD_2 (t := t) (x := by9) (by omega) (by omega)).1.symm, (FD_2 (t := t) (x := by9) (by omega) (by omega)).2.1.symm, (FD_2 (by omega) (by omega)).2.2.symm⟩) (hP.sub [0, 1, 2] rfl) (hD.sub [0, 1, 2] (by decide) rfl) hS
    · skip
      refine wi_iconst (n := -1) hx hb d_IT_feed_11 ?_
      exact ret (-1, n, t) _ _ _ _ d_IT_feed_12 (show ((-1) = FDr n nn) ∧ (n = FDn n nn) ∧ (t = FDt t n by9 nn) from ⟨(FD_1 (t := t) (x := by9) (by omega)).1.symm, (FD_1 (t := t) (x := by9) (by omega)).2.1.symm, (FD_1 (by omega)).2.2.symm⟩) (hP.sub [0, 1, 2] rfl) (hD.sub [0, 1, 2] (by decide) rfl) hS
set_option maxHeartbeats 4000000 in
set_option maxRecDepth 100000 in
theorem c_IT_word (l : Launch) (D : va_G) (E : EVt) (h : Nat) (tp : Nat) (ou : Nat) (ar : Nat) (sc : Nat) (pr : Nat) (le : Int) (ge : Int) (oc : Nat) (ot : Int → Int) (L : List Int) (i : Int) (hi : -2147483648 ≤ i ∧ i < 2147483648) (hL : (L.length : Int) ≤ 64) (hbL : BdL L) : CT l D classes (tyl E) (EVX E) y_IT_word (Cond.code y_IT_word b_IT_word 6 (some .long) :: TB) (rmK 1 0 0 21) 0 0 [.ref h, .int (iI i)] [(h, .inr (6, [.ref tp, .ref ou, .ref ar, .ref sc, .ref pr, .long (lI le), .long (lI ge)])), (oc, .inl (E.2.1, 64, .inl (ia (Wr ot 0 L)))), (ou, .inr (3, [.ref oc, .int (iI (L.length : Int))]))] (S := Int) (fun _ => [(h, .inr (6, [.ref tp, .ref ou, .ref ar, .ref sc, .ref pr, .long (lI le), .long (lI ge)])), (oc, .inl (E.2.1, 64, .inl (ia (Wr ot 0 L)))), (ou, .inr (3, [.ref oc, .int (iI (L.length : Int))]))]) (fun u => some (.long (lI u))) (fun u => (u = WRD L i)) := by
  refine CT.ofl (fv := fun (u : Int) => u) (eok E) (by decide) rfl (Nat.le_of_ble_eq_true rfl) ?_
  intro p e s m args below meth c A Q ls B hmn hP hD hS hl ret
  have B : Bd l D classes (tyl E) (EVX E) p m c b_IT_word 6 s args (Cond.code y_IT_word b_IT_word 6 (some .long) :: TB) R_IT A := B
  obtain ⟨⟨hx, hb, hml, hown, hts⟩, hX, hK, hE, hA⟩ := id B
  have hl : lv_has ls 6 [(0, .ref h), (1, .int (iI i))] := hl
  have hP : va_P D classes [(h, .inr (6, [.ref tp, .ref ou, .ref ar, .ref sc, .ref pr, .long (lI le), .long (lI ge)])), (oc, .inl (E.2.1, 64, .inl (ia (Wr ot 0 L)))), (ou, .inr (3, [.ref oc, .int (iI (L.length : Int))]))] s.heap := hP
  have hD : va_D A [(h, .inr (6, [.ref tp, .ref ou, .ref ar, .ref sc, .ref pr, .long (lI le), .long (lI ge)])), (oc, .inl (E.2.1, 64, .inl (ia (Wr ot 0 L)))), (ou, .inr (3, [.ref oc, .int (iI (L.length : Int))]))] := hD
  have K_18 : ∀ (fuel18 : Nat) (k : Int) (v : Int) (hk : -1 ≤ k ∧ k ≤ 7) (hi8 : 0 ≤ i ∧ i < 8) (hv : v = wvF L (8 * i) (7 - k).toNat) (hf18 : k + 1 < (fuel18 : Int)) (ls : Array Slot) (H : Heap) (locs : List Loc), lv_has ls 6 [(0, .ref h), (1, .int (iI i)), (2, .long (lI v)), (4, .int (iI k))] → va_P D classes [(h, .inr (6, [.ref tp, .ref ou, .ref ar, .ref sc, .ref pr, .long (lI le), .long (lI ge)])), (oc, .inl (E.2.1, 64, .inl (ia (Wr ot 0 L)))), (ou, .inr (3, [.ref oc, .int (iI (L.length : Int))]))] H → va_D A [(h, .inr (6, [.ref tp, .ref ou, .ref ar, .ref sc, .ref pr, .long (lI le), .long (lI ge)])), (oc, .inl (E.2.1, 64, .inl (ia (Wr ot 0 L)))), (ou, .inr (3, [.ref oc, .int (iI (L.length : Int))]))] → va_S A s.heap H locs → W p l e (rmK 1 0 0 21) s m args below meth c H locs 0 0 Q (F0 m 18 ls []) := by
    intro fuel18
    induction fuel18 with
    | zero =>
      intro k v hk hi8 hv hf18 ls H locs hl hP hD hS
      exfalso; omega
    | succ fuel18 ih18 =>
      intro k v hk hi8 hv hf18 ls H locs hl hP hD hS
      refine lv_iload hx hb d_IT_word_18 (lv_at hl 3 rfl) ?_
      refine wi_if_lt (tgt := 64) hx hb d_IT_word_20 (by decide) (by omega) (fun c_1 => ?_) (fun c_1 => ?_)
      · skip
        refine lv_lload_n hx hb d_IT_word_64 rfl (lv_at hl 2 rfl) ?_
        exact ret v _ _ _ _ d_IT_word_65 (show (v = WRD L i) from (by unfold WRD; rw [if_neg (by omega), hv, show (7 - k).toNat = 8 by omega])) (hP.sub [0, 1, 2] rfl) (hD.sub [0, 1, 2] (by decide) rfl) hS
      · skip
        refine lv_aload_n hx hb d_IT_word_23 rfl (lv_at hl 0 rfl) ?_
        refine wk_get B hP 0 rfl fl_IT_18 (v := .ref ou) rfl d_IT_word_24 ?_
        refine wi_bipush hx hb d_IT_word_27 (by decide) ?_
        refine lv_iload_n hx hb d_IT_word_29 rfl (lv_at hl 1 rfl) ?_
        refine wi_imul hx hb d_IT_word_30 ?_
        refine lv_iload hx hb d_IT_word_31 (lv_at hl 3 rfl) ?_
        refine wi_iadd hx hb d_IT_word_33 ?_
        refine wk_callV (As := [.int (iI (8 * i + k))]) (rest := []) (wr := [(h, .inr (6, [.ref tp, .ref ou, .ref ar, .ref sc, .ref pr, .long (lI le), .long (lI ge)]))]) B gTB cl_IT_141 (c_Row_at l D E ou oc 64 (Wr ot 0 L) (L.length : Int) (8 * i + k) (by omega) (by decide) (by omega)) ⟨⟨rfl, rfl⟩, Nat.le_of_ble_eq_true rfl, Nat.le_of_ble_eq_true rfl⟩ hP hD hS [2, 1] [0] rfl rfl (by decide) 2 rfl rfl rfl ⟨hl.2.1, hl.1⟩ rfl (Nat.le_of_ble_eq_true rfl) d_IT_word_34 ⟨Nat.le_of_ble_eq_true rfl, Nat.le_of_ble_eq_true rfl⟩ rfl (fun r9 H locs hw hP hD hS => ?_)
        have hP : va_P D classes [(h, .inr (6, [.ref tp, .ref ou, .ref ar, .ref sc, .ref pr, .long (lI le), .long (lI ge)])), (ou, .inr (3, [.ref oc, .int (iI (L.length : Int))])), (oc, .inl (E.2.1, 64, .inl (ia (Wr ot 0 L))))] H := hP
        have hD : va_D A [(h, .inr (6, [.ref tp, .ref ou, .ref ar, .ref sc, .ref pr, .long (lI le), .long (lI ge)])), (ou, .inr (3, [.ref oc, .int (iI (L.length : Int))])), (oc, .inl (E.2.1, 64, .inl (ia (Wr ot 0 L))))] := hD
        have hw : (r9 = rat (Wr ot 0 L) (L.length : Int) (8 * i + k)) := hw
        have hr9 := hw
        refine W.cs (g := F0 m 37 ls [.int (iI r9)]) (cells' := 0) (slots' := 0) rfl rfl ?_
        have hgb := BdL_at hbL (8 * i + k).toNat
        have hrg := wd_at (u := ot) (L := L) (j := 8 * i + k) (by omega)
        rw [← hr9] at hrg
        refine lv_istore (lv' := [(5, .int (iI r9)), (0, .ref h), (1, .int (iI i)), (2, .long (lI v)), (4, .int (iI k))]) hx hb d_IT_word_37 hl (by decide) rfl (fun ls hl => ?_)
        refine lv_lload_n hx hb d_IT_word_39 rfl (lv_at hl 3 rfl) ?_
        refine wi_bipush hx hb d_IT_word_40 (by decide) ?_
        refine wi_lshl hx hb 8 256 (by decide +kernel) rfl (by decide) d_IT_word_42 ?_
        refine lv_iload hx hb d_IT_word_43 (lv_at hl 0 rfl) ?_
        refine wi_iconst (n := -1) hx hb d_IT_word_45 ?_
        refine wi_icmp_ne (tgt := 53) hx hb d_IT_word_46 (by decide) (by omega) (by omega) (fun c_2 => ?_) (fun c_2 => ?_)
        · skip
          refine lv_iload hx hb d_IT_word_53 (lv_at hl 0 rfl) ?_
          refine wi_i2l hx hb (by omega) d_IT_word_55 ?_
          refine w_eql (y := L.getD (8 * i + k).toNat 0) (by omega) ?_
          refine W.eq (g2 := F0 m 56 ls [.long (lI (L.getD (8 * i + k).toNat 0)), .long (lI (v * 256))]) rfl ?_
          refine wi_lor hx hb 8 v (rfl) (by omega) d_IT_word_56 ?_
          refine lv_lstore_n (lv' := [(2, .long (lI (v * 256 + (L.getD (8 * i + k).toNat 0)))), (5, .int (iI r9)), (0, .ref h), (1, .int (iI i)), (4, .int (iI k))]) hx hb d_IT_word_57 rfl hl (by decide) rfl (fun ls hl => ?_)
          refine wi_iinc (v := k + (-1)) (lv' := [(4, .int (iI (k + (-1)))), (2, .long (lI (v * 256 + (L.getD (8 * i + k).toNat 0)))), (5, .int (iI r9)), (0, .ref h), (1, .int (iI i))]) hx hb d_IT_word_58 hl (k := 4) rfl rfl (by decide) rfl (fun ls hl => ?_)
          refine lv_goto (tgt := 18) hx hb d_IT_word_61 (by decide) ?_
          exact ih18 (k + (-1)) (v * 256 + (L.getD (8 * i + k).toNat 0)) (by omega) (hi8) (by rw [show (7 - (k + (-1))).toNat = (7 - k).toNat + 1 by omega, wvF, ← hv]; congr 3; omega) (by omega) _ _ _ (lv_sub hl [3, 4, 1, 0] rfl) (hP.sub [0, 2, 1] rfl) (hD.sub [0, 2, 1] (by decide) rfl) hS
        · skip
          refine wi_iconst (n := 0) hx hb d_IT_word_49 ?_
          refine lv_goto (tgt := 55) hx hb d_IT_word_50 (by decide) ?_
          refine wi_i2l hx hb (by omega) d_IT_word_55 ?_
          refine w_eql (y := L.getD (8 * i + k).toNat 0) (by omega) ?_
          refine W.eq (g2 := F0 m 56 ls [.long (lI (L.getD (8 * i + k).toNat 0)), .long (lI (v * 256))]) rfl ?_
          refine wi_lor hx hb 8 v (rfl) (by omega) d_IT_word_56 ?_
          refine lv_lstore_n (lv' := [(2, .long (lI (v * 256 + (L.getD (8 * i + k).toNat 0)))), (5, .int (iI r9)), (0, .ref h), (1, .int (iI i)), (4, .int (iI k))]) hx hb d_IT_word_57 rfl hl (by decide) rfl (fun ls hl => ?_)
          refine wi_iinc (v := k + (-1)) (lv' := [(4, .int (iI (k + (-1)))), (2, .long (lI (v * 256 + (L.getD (8 * i + k).toNat 0)))), (5, .int (iI r9)), (0, .ref h), (1, .int (iI i))]) hx hb d_IT_word_58 hl (k := 4) rfl rfl (by decide) rfl (fun ls hl => ?_)
          refine lv_goto (tgt := 18) hx hb d_IT_word_61 (by decide) ?_
          exact ih18 (k + (-1)) (v * 256 + (L.getD (8 * i + k).toNat 0)) (by omega) (hi8) (by rw [show (7 - (k + (-1))).toNat = (7 - k).toNat + 1 by omega, wvF, ← hv]; congr 3; omega) (by omega) _ _ _ (lv_sub hl [3, 4, 1, 0] rfl) (hP.sub [0, 2, 1] rfl) (hD.sub [0, 2, 1] (by decide) rfl) hS
  refine lv_iload_n hx hb d_IT_word_0 rfl (lv_at hl 1 rfl) ?_
  refine wi_if_lt (tgt := 10) hx hb d_IT_word_1 (by decide) (by omega) (fun c_3 => ?_) (fun c_3 => ?_)
  · skip
    refine wi_lconst (z := 0) hx hb d_IT_word_10 (by decide) ?_
    exact ret 0 _ _ _ _ d_IT_word_11 (show (0 = WRD L i) from ((if_pos (by omega)).symm)) (hP.sub [0, 1, 2] rfl) (hD.sub [0, 1, 2] (by decide) rfl) hS
  · skip
    refine lv_iload_n hx hb d_IT_word_4 rfl (lv_at hl 1 rfl) ?_
    refine wi_bipush hx hb d_IT_word_5 (by decide) ?_
    refine wi_icmp_lt (tgt := 12) hx hb d_IT_word_7 (by decide) (by omega) (by omega) (fun c_4 => ?_) (fun c_4 => ?_)
    · skip
      refine wi_lconst (z := 0) hx hb d_IT_word_12 (by decide) ?_
      refine lv_lstore_n (lv' := [(2, .long (lI 0)), (0, .ref h), (1, .int (iI i))]) hx hb d_IT_word_13 rfl hl (by decide) rfl (fun ls hl => ?_)
      refine wi_bipush hx hb d_IT_word_14 (by decide) ?_
      refine lv_istore (lv' := [(4, .int (iI 7)), (2, .long (lI 0)), (0, .ref h), (1, .int (iI i))]) hx hb d_IT_word_16 hl (by decide) rfl (fun ls hl => ?_)
      exact K_18 ((7 + 1 : Int).toNat + 1) 7 0 (by omega) (by omega) (rfl) (by omega) _ _ _ (lv_sub hl [2, 3, 1, 0] rfl) (hP.sub [0, 1, 2] rfl) (hD.sub [0, 1, 2] (by decide) rfl) hS
    · skip
      refine wi_lconst (z := 0) hx hb d_IT_word_10 (by decide) ?_
      exact ret 0 _ _ _ _ d_IT_word_11 (show (0 = WRD L i) from ((if_pos (by omega)).symm)) (hP.sub [0, 1, 2] rfl) (hD.sub [0, 1, 2] (by decide) rfl) hS
set_option maxHeartbeats 4000000 in
set_option maxRecDepth 100000 in
theorem c_IT_back (l : Launch) (D : va_G) (E : EVt) (h : Nat) (tp : Nat) (ou : Nat) (ar : Nat) (sc : Nat) (pr : Nat) (le : Int) (ge : Int) (ta : Nat) (t : Int → Int) (n : Int) (oc : Nat) (ot : Int → Int) (L : List Int) (hn : 0 ≤ n ∧ n ≤ 400) (hL : (L.length : Int) ≤ 64) (hbL : BdL L) : CT l D classes (tyl E) (EVX E) y_IT_back (Cond.code y_IT_back b_IT_back 2 (some .int) :: TB) (rmK 1 0 0 21) 0 0 [.ref h] [(h, .inr (6, [.ref tp, .ref ou, .ref ar, .ref sc, .ref pr, .long (lI le), .long (lI ge)])), (tp, .inr (3, [.ref ta, .int (iI n)])), (ta, .inl (E.2.1, 400, .inl (ia t))), (oc, .inl (E.2.1, 64, .inl (ia (Wr ot 0 L)))), (ou, .inr (3, [.ref oc, .int (iI (L.length : Int))]))] (S := Int × Int × (Int → Int)) (fun u => [(h, .inr (6, [.ref tp, .ref ou, .ref ar, .ref sc, .ref pr, .long (lI le), .long (lI ge)])), (tp, .inr (3, [.ref ta, .int (iI u.2.1)])), (ta, .inl (E.2.1, 400, .inl (ia u.2.2))), (oc, .inl (E.2.1, 64, .inl (ia (Wr ot 0 L)))), (ou, .inr (3, [.ref oc, .int (iI (L.length : Int))]))]) (fun u => some (.int (iI u.1))) (fun u => (u.1 = if 400 < n + (L.length : Int) then -2 else n + (L.length : Int)) ∧ (u.2.1 = if 400 < n + (L.length : Int) then n else n + (L.length : Int)) ∧ (u.2.2 = if 400 < n + (L.length : Int) then t else Wr t n L)) := by
  refine CT.ofi (fv := fun (u : Int × Int × (Int → Int)) => u.1) (eok E) (by decide) rfl (Nat.le_of_ble_eq_true rfl) ?_
  intro p e s m args below meth c A Q ls B hmn hP hD hS hl ret
  have B : Bd l D classes (tyl E) (EVX E) p m c b_IT_back 2 s args (Cond.code y_IT_back b_IT_back 2 (some .int) :: TB) R_IT A := B
  obtain ⟨⟨hx, hb, hml, hown, hts⟩, hX, hK, hE, hA⟩ := id B
  have hl : lv_has ls 2 [(0, .ref h)] := hl
  have hP : va_P D classes [(h, .inr (6, [.ref tp, .ref ou, .ref ar, .ref sc, .ref pr, .long (lI le), .long (lI ge)])), (tp, .inr (3, [.ref ta, .int (iI n)])), (ta, .inl (E.2.1, 400, .inl (ia t))), (oc, .inl (E.2.1, 64, .inl (ia (Wr ot 0 L)))), (ou, .inr (3, [.ref oc, .int (iI (L.length : Int))]))] s.heap := hP
  have hD : va_D A [(h, .inr (6, [.ref tp, .ref ou, .ref ar, .ref sc, .ref pr, .long (lI le), .long (lI ge)])), (tp, .inr (3, [.ref ta, .int (iI n)])), (ta, .inl (E.2.1, 400, .inl (ia t))), (oc, .inl (E.2.1, 64, .inl (ia (Wr ot 0 L)))), (ou, .inr (3, [.ref oc, .int (iI (L.length : Int))]))] := hD
  have K_26 : ∀ (fuel26 : Nat) (i : Int) (n1 : Int) (t1 : Int → Int) (hi : 0 ≤ i ∧ i ≤ (L.length : Int)) (hk : n + (L.length : Int) ≤ 400) (hn1 : n1 = n + i) (ht1 : t1 = apZ t n i (fun j => L.getD j.toNat 0)) (hf26 : (L.length : Int) - i < (fuel26 : Int)) (ls : Array Slot) (H : Heap) (locs : List Loc), lv_has ls 2 [(0, .ref h), (1, .int (iI i))] → va_P D classes [(h, .inr (6, [.ref tp, .ref ou, .ref ar, .ref sc, .ref pr, .long (lI le), .long (lI ge)])), (tp, .inr (3, [.ref ta, .int (iI n1)])), (ta, .inl (E.2.1, 400, .inl (ia t1))), (oc, .inl (E.2.1, 64, .inl (ia (Wr ot 0 L)))), (ou, .inr (3, [.ref oc, .int (iI (L.length : Int))]))] H → va_D A [(h, .inr (6, [.ref tp, .ref ou, .ref ar, .ref sc, .ref pr, .long (lI le), .long (lI ge)])), (tp, .inr (3, [.ref ta, .int (iI n1)])), (ta, .inl (E.2.1, 400, .inl (ia t1))), (oc, .inl (E.2.1, 64, .inl (ia (Wr ot 0 L)))), (ou, .inr (3, [.ref oc, .int (iI (L.length : Int))]))] → va_S A s.heap H locs → W p l e (rmK 1 0 0 21) s m args below meth c H locs 0 0 Q (F0 m 26 ls []) := by
    intro fuel26
    induction fuel26 with
    | zero =>
      intro i n1 t1 hi hk hn1 ht1 hf26 ls H locs hl hP hD hS
      exfalso; omega
    | succ fuel26 ih26 =>
      intro i n1 t1 hi hk hn1 ht1 hf26 ls H locs hl hP hD hS
      refine lv_iload_n hx hb d_IT_back_26 rfl (lv_at hl 1 rfl) ?_
      refine lv_aload_n hx hb d_IT_back_27 rfl (lv_at hl 0 rfl) ?_
      refine wk_get B hP 0 rfl fl_IT_18 (v := .ref ou) rfl d_IT_back_28 ?_
      refine wk_get B hP 4 rfl fl_IT_53 (v := .int (iI (L.length : Int))) rfl d_IT_back_31 ?_
      refine wi_icmp_ge (tgt := 58) hx hb d_IT_back_34 (by decide) (by omega) (by omega) (fun c_1 => ?_) (fun c_1 => ?_)
      · skip
        refine lv_aload_n hx hb d_IT_back_58 rfl (lv_at hl 0 rfl) ?_
        refine wk_get B hP 0 rfl fl_IT_14 (v := .ref tp) rfl d_IT_back_59 ?_
        refine wk_get B hP 1 rfl fl_IT_53 (v := .int (iI n1)) rfl d_IT_back_62 ?_
        exact ret (n1, n1, t1) _ _ _ _ d_IT_back_65 (show (n1 = if 400 < n + (L.length : Int) then -2 else n + (L.length : Int)) ∧ (n1 = if 400 < n + (L.length : Int) then n else n + (L.length : Int)) ∧ (t1 = if 400 < n + (L.length : Int) then t else Wr t n L) from ⟨by rw [if_neg (by omega)]; omega, by rw [if_neg (by omega)]; omega, by rw [if_neg (by omega), ht1, show i = (L.length : Int) by omega]; rfl⟩) (hP.sub [0, 1, 2, 3, 4] rfl) (hD.sub [0, 1, 2, 3, 4] (by decide) rfl) hS
      · skip
        refine lv_aload_n hx hb d_IT_back_37 rfl (lv_at hl 0 rfl) ?_
        refine wk_get B hP 0 rfl fl_IT_14 (v := .ref tp) rfl d_IT_back_38 ?_
        refine lv_aload_n hx hb d_IT_back_41 rfl (lv_at hl 0 rfl) ?_
        refine wk_get B hP 0 rfl fl_IT_18 (v := .ref ou) rfl d_IT_back_42 ?_
        refine lv_iload_n hx hb d_IT_back_45 rfl (lv_at hl 1 rfl) ?_
        refine wk_callV (As := [.int (iI i)]) (rest := [.ref tp]) (wr := [(h, .inr (6, [.ref tp, .ref ou, .ref ar, .ref sc, .ref pr, .long (lI le), .long (lI ge)])), (tp, .inr (3, [.ref ta, .int (iI n1)])), (ta, .inl (E.2.1, 400, .inl (ia t1)))]) B gTB cl_IT_141 (c_Row_at l D E ou oc 64 (Wr ot 0 L) (L.length : Int) i (by omega) (by decide) (by omega)) ⟨⟨rfl, rfl⟩, Nat.le_of_ble_eq_true rfl, Nat.le_of_ble_eq_true rfl⟩ hP hD hS [4, 3] [0, 1, 2] rfl rfl (by decide) 4 rfl rfl rfl ⟨hl.2.1, hl.1⟩ rfl (Nat.le_of_ble_eq_true rfl) d_IT_back_46 ⟨Nat.le_of_ble_eq_true rfl, Nat.le_of_ble_eq_true rfl⟩ rfl (fun r9 H locs hw hP hD hS => ?_)
        have hP : va_P D classes [(h, .inr (6, [.ref tp, .ref ou, .ref ar, .ref sc, .ref pr, .long (lI le), .long (lI ge)])), (tp, .inr (3, [.ref ta, .int (iI n1)])), (ta, .inl (E.2.1, 400, .inl (ia t1))), (ou, .inr (3, [.ref oc, .int (iI (L.length : Int))])), (oc, .inl (E.2.1, 64, .inl (ia (Wr ot 0 L))))] H := hP
        have hD : va_D A [(h, .inr (6, [.ref tp, .ref ou, .ref ar, .ref sc, .ref pr, .long (lI le), .long (lI ge)])), (tp, .inr (3, [.ref ta, .int (iI n1)])), (ta, .inl (E.2.1, 400, .inl (ia t1))), (ou, .inr (3, [.ref oc, .int (iI (L.length : Int))])), (oc, .inl (E.2.1, 64, .inl (ia (Wr ot 0 L))))] := hD
        have hw : (r9 = rat (Wr ot 0 L) (L.length : Int) i) := hw
        have hr9 := hw
        refine W.cs (g := F0 m 49 ls [.int (iI r9), .ref tp]) (cells' := 0) (slots' := 0) rfl rfl ?_
        have hgb := BdL_at hbL i.toNat
        have hrg := wd_at (u := ot) (L := L) (j := i) (by omega)
        rw [← hr9] at hrg
        have hr8 : r9 = L.getD i.toNat 0 := by omega
        refine wk_callV (As := [.int (iI r9)]) (rest := []) (wr := [(h, .inr (6, [.ref tp, .ref ou, .ref ar, .ref sc, .ref pr, .long (lI le), .long (lI ge)])), (ou, .inr (3, [.ref oc, .int (iI (L.length : Int))])), (oc, .inl (E.2.1, 64, .inl (ia (Wr ot 0 L))))]) B gTB cl_IT_57 (c_Row_add l D E tp ta 400 t1 n1 r9 (by omega) (by decide) (by omega)) ⟨⟨rfl, rfl⟩, Nat.le_of_ble_eq_true rfl, Nat.le_of_ble_eq_true rfl⟩ hP hD hS [1, 2] [0, 3, 4] rfl rfl (by decide) 1 rfl rfl rfl ⟨hl.2.1, hl.1⟩ rfl (Nat.le_of_ble_eq_true rfl) d_IT_back_49 ⟨Nat.le_of_ble_eq_true rfl, Nat.le_of_ble_eq_true rfl⟩ rfl (fun u H locs hw hP hD hS => ?_)
        have hP : va_P D classes [(h, .inr (6, [.ref tp, .ref ou, .ref ar, .ref sc, .ref pr, .long (lI le), .long (lI ge)])), (ou, .inr (3, [.ref oc, .int (iI (L.length : Int))])), (oc, .inl (E.2.1, 64, .inl (ia (Wr ot 0 L)))), (tp, .inr (3, [.ref ta, .int (iI (n1 + 1))])), (ta, .inl (E.2.1, 400, .inl (ia (upZ t1 n1 r9))))] H := hP
        have hD : va_D A [(h, .inr (6, [.ref tp, .ref ou, .ref ar, .ref sc, .ref pr, .long (lI le), .long (lI ge)])), (ou, .inr (3, [.ref oc, .int (iI (L.length : Int))])), (oc, .inl (E.2.1, 64, .inl (ia (Wr ot 0 L)))), (tp, .inr (3, [.ref ta, .int (iI (n1 + 1))])), (ta, .inl (E.2.1, 400, .inl (ia (upZ t1 n1 r9))))] := hD
        refine W.cs (g := F0 m 52 ls []) (cells' := 0) (slots' := 0) rfl rfl ?_
        refine wi_iinc (v := i + 1) (lv' := [(1, .int (iI (i + 1))), (0, .ref h)]) hx hb d_IT_back_52 hl (k := 1) rfl rfl (by decide) rfl (fun ls hl => ?_)
        refine lv_goto (tgt := 26) hx hb d_IT_back_55 (by decide) ?_
        exact ih26 (i + 1) (n1 + 1) (upZ t1 n1 r9) (by omega) (hk) (by omega) (by rw [ht1, hn1, hr8]; exact apZ_s (ch := fun j => L.getD j.toNat 0) hi.1) (by omega) _ _ _ (lv_sub hl [1, 0] rfl) (hP.sub [0, 3, 4, 2, 1] rfl) (hD.sub [0, 3, 4, 2, 1] (by decide) rfl) hS
  refine lv_aload_n hx hb d_IT_back_0 rfl (lv_at hl 0 rfl) ?_
  refine wk_get B hP 0 rfl fl_IT_14 (v := .ref tp) rfl d_IT_back_1 ?_
  refine wk_get B hP 1 rfl fl_IT_53 (v := .int (iI n)) rfl d_IT_back_4 ?_
  refine lv_aload_n hx hb d_IT_back_7 rfl (lv_at hl 0 rfl) ?_
  refine wk_get B hP 0 rfl fl_IT_18 (v := .ref ou) rfl d_IT_back_8 ?_
  refine wk_get B hP 4 rfl fl_IT_53 (v := .int (iI (L.length : Int))) rfl d_IT_back_11 ?_
  refine wi_iadd hx hb d_IT_back_14 ?_
  refine wi_sipush hx hb d_IT_back_15 (by decide) ?_
  refine wi_icmp_le (tgt := 24) hx hb d_IT_back_18 (by decide) (by omega) (by omega) (fun c_2 => ?_) (fun c_2 => ?_)
  · skip
    refine wi_iconst (n := 0) hx hb d_IT_back_24 ?_
    refine lv_istore_n (lv' := [(1, .int (iI 0)), (0, .ref h)]) hx hb d_IT_back_25 rfl hl (by decide) rfl (fun ls hl => ?_)
    exact K_26 (((L.length : Int) - 0 : Int).toNat + 1) 0 n t (by omega) (by omega) (by omega) ((apZ_0 t n _).symm) (by omega) _ _ _ (lv_sub hl [1, 0] rfl) (hP.sub [0, 1, 2, 3, 4] rfl) (hD.sub [0, 1, 2, 3, 4] (by decide) rfl) hS
  · skip
    refine wi_bipush hx hb d_IT_back_21 (by decide) ?_
    exact ret (-2, n, t) _ _ _ _ d_IT_back_23 (show ((-2) = if 400 < n + (L.length : Int) then -2 else n + (L.length : Int)) ∧ (n = if 400 < n + (L.length : Int) then n else n + (L.length : Int)) ∧ (t = if 400 < n + (L.length : Int) then t else Wr t n L) from ⟨(if_pos (by omega)).symm, (if_pos (by omega)).symm, (if_pos (by omega)).symm⟩) (hP.sub [0, 1, 2, 3, 4] rfl) (hD.sub [0, 1, 2, 3, 4] (by decide) rfl) hS
