/-! Natural: timesPlus, plus, takeFrom, minusTimes -/
abbrev b_Natural_timesPlus : ByteArray := prog_3_method_7_code
def y_Natural_timesPlus : MethodName := ⟨"IntervalText$Natural", "timesPlus", "(II)V"⟩
abbrev b_Natural_plus : ByteArray := prog_3_method_9_code
def y_Natural_plus : MethodName := ⟨"IntervalText$Natural", "plus", "(LIntervalText$Natural;)V"⟩
abbrev b_Natural_takeFrom : ByteArray := prog_3_method_11_code
def y_Natural_takeFrom : MethodName := ⟨"IntervalText$Natural", "takeFrom", "(LIntervalText$Natural;)V"⟩
abbrev b_Natural_minusTimes : ByteArray := prog_3_method_10_code
def y_Natural_minusTimes : MethodName := ⟨"IntervalText$Natural", "minusTimes", "(LIntervalText$Natural;JI)V"⟩
theorem d_Natural_timesPlus_0 : decode b_Natural_timesPlus 0 = .ok (.iload_n 2, 1) := by decide +kernel
theorem d_Natural_timesPlus_1 : decode b_Natural_timesPlus 1 = .ok (.i2l, 1) := by decide +kernel
theorem d_Natural_timesPlus_2 : decode b_Natural_timesPlus 2 = .ok (.lstore_n 3, 1) := by decide +kernel
theorem d_Natural_timesPlus_3 : decode b_Natural_timesPlus 3 = .ok (.iconst 0, 1) := by decide +kernel
theorem d_Natural_timesPlus_4 : decode b_Natural_timesPlus 4 = .ok (.istore 5, 2) := by decide +kernel
theorem d_Natural_timesPlus_6 : decode b_Natural_timesPlus 6 = .ok (.iload 5, 2) := by decide +kernel
theorem d_Natural_timesPlus_8 : decode b_Natural_timesPlus 8 = .ok (.aload_n 0, 1) := by decide +kernel
theorem d_Natural_timesPlus_9 : decode b_Natural_timesPlus 9 = .ok (.getfield 15, 3) := by decide +kernel
theorem d_Natural_timesPlus_12 : decode b_Natural_timesPlus 12 = .ok (.if_icmp .ge 49, 3) := by decide +kernel
theorem d_Natural_timesPlus_15 : decode b_Natural_timesPlus 15 = .ok (.iload 5, 2) := by decide +kernel
theorem d_Natural_timesPlus_17 : decode b_Natural_timesPlus 17 = .ok (.sipush 224, 3) := by decide +kernel
theorem d_Natural_timesPlus_20 : decode b_Natural_timesPlus 20 = .ok (.if_icmp .ge 41, 3) := by decide +kernel
theorem d_Natural_timesPlus_23 : decode b_Natural_timesPlus 23 = .ok (.lload_n 3, 1) := by decide +kernel
theorem d_Natural_timesPlus_24 : decode b_Natural_timesPlus 24 = .ok (.aload_n 0, 1) := by decide +kernel
theorem d_Natural_timesPlus_25 : decode b_Natural_timesPlus 25 = .ok (.getfield 9, 3) := by decide +kernel
theorem d_Natural_timesPlus_28 : decode b_Natural_timesPlus 28 = .ok (.iload 5, 2) := by decide +kernel
theorem d_Natural_timesPlus_30 : decode b_Natural_timesPlus 30 = .ok (.iaload, 1) := by decide +kernel
theorem d_Natural_timesPlus_31 : decode b_Natural_timesPlus 31 = .ok (.i2l, 1) := by decide +kernel
theorem d_Natural_timesPlus_32 : decode b_Natural_timesPlus 32 = .ok (.iload_n 1, 1) := by decide +kernel
theorem d_Natural_timesPlus_33 : decode b_Natural_timesPlus 33 = .ok (.i2l, 1) := by decide +kernel
theorem d_Natural_timesPlus_34 : decode b_Natural_timesPlus 34 = .ok (.lmul, 1) := by decide +kernel
theorem d_Natural_timesPlus_35 : decode b_Natural_timesPlus 35 = .ok (.ladd, 1) := by decide +kernel
theorem d_Natural_timesPlus_36 : decode b_Natural_timesPlus 36 = .ok (.lstore_n 3, 1) := by decide +kernel
theorem d_Natural_timesPlus_37 : decode b_Natural_timesPlus 37 = .ok (.aload_n 0, 1) := by decide +kernel
theorem d_Natural_timesPlus_38 : decode b_Natural_timesPlus 38 = .ok (.getfield 9, 3) := by decide +kernel
theorem d_Natural_timesPlus_41 : decode b_Natural_timesPlus 41 = .ok (.iload 5, 2) := by decide +kernel
theorem d_Natural_timesPlus_43 : decode b_Natural_timesPlus 43 = .ok (.lload_n 3, 1) := by decide +kernel
theorem d_Natural_timesPlus_44 : decode b_Natural_timesPlus 44 = .ok (.ldc2_w 19, 3) := by decide +kernel
theorem d_Natural_timesPlus_47 : decode b_Natural_timesPlus 47 = .ok (.land, 1) := by decide +kernel
theorem d_Natural_timesPlus_48 : decode b_Natural_timesPlus 48 = .ok (.l2i, 1) := by decide +kernel
theorem d_Natural_timesPlus_49 : decode b_Natural_timesPlus 49 = .ok (.iastore, 1) := by decide +kernel
theorem d_Natural_timesPlus_50 : decode b_Natural_timesPlus 50 = .ok (.lload_n 3, 1) := by decide +kernel
theorem d_Natural_timesPlus_51 : decode b_Natural_timesPlus 51 = .ok (.bipush 30, 2) := by decide +kernel
theorem d_Natural_timesPlus_53 : decode b_Natural_timesPlus 53 = .ok (.lshr, 1) := by decide +kernel
theorem d_Natural_timesPlus_54 : decode b_Natural_timesPlus 54 = .ok (.lstore_n 3, 1) := by decide +kernel
theorem d_Natural_timesPlus_55 : decode b_Natural_timesPlus 55 = .ok (.iinc 5 1, 3) := by decide +kernel
theorem d_Natural_timesPlus_58 : decode b_Natural_timesPlus 58 = .ok (.goto (-52), 3) := by decide +kernel
theorem d_Natural_timesPlus_61 : decode b_Natural_timesPlus 61 = .ok (.lload_n 3, 1) := by decide +kernel
theorem d_Natural_timesPlus_62 : decode b_Natural_timesPlus 62 = .ok (.lconst 0, 1) := by decide +kernel
theorem d_Natural_timesPlus_63 : decode b_Natural_timesPlus 63 = .ok (.lcmp, 1) := by decide +kernel
theorem d_Natural_timesPlus_64 : decode b_Natural_timesPlus 64 = .ok (.ifCond .le 41, 3) := by decide +kernel
theorem d_Natural_timesPlus_67 : decode b_Natural_timesPlus 67 = .ok (.aload_n 0, 1) := by decide +kernel
theorem d_Natural_timesPlus_68 : decode b_Natural_timesPlus 68 = .ok (.getfield 15, 3) := by decide +kernel
theorem d_Natural_timesPlus_71 : decode b_Natural_timesPlus 71 = .ok (.ifCond .lt 34, 3) := by decide +kernel
theorem d_Natural_timesPlus_74 : decode b_Natural_timesPlus 74 = .ok (.aload_n 0, 1) := by decide +kernel
theorem d_Natural_timesPlus_75 : decode b_Natural_timesPlus 75 = .ok (.getfield 15, 3) := by decide +kernel
theorem d_Natural_timesPlus_78 : decode b_Natural_timesPlus 78 = .ok (.sipush 224, 3) := by decide +kernel
theorem d_Natural_timesPlus_81 : decode b_Natural_timesPlus 81 = .ok (.if_icmp .ge 24, 3) := by decide +kernel
theorem d_Natural_timesPlus_84 : decode b_Natural_timesPlus 84 = .ok (.aload_n 0, 1) := by decide +kernel
theorem d_Natural_timesPlus_85 : decode b_Natural_timesPlus 85 = .ok (.getfield 9, 3) := by decide +kernel
theorem d_Natural_timesPlus_88 : decode b_Natural_timesPlus 88 = .ok (.aload_n 0, 1) := by decide +kernel
theorem d_Natural_timesPlus_89 : decode b_Natural_timesPlus 89 = .ok (.getfield 15, 3) := by decide +kernel
theorem d_Natural_timesPlus_92 : decode b_Natural_timesPlus 92 = .ok (.lload_n 3, 1) := by decide +kernel
theorem d_Natural_timesPlus_93 : decode b_Natural_timesPlus 93 = .ok (.l2i, 1) := by decide +kernel
theorem d_Natural_timesPlus_94 : decode b_Natural_timesPlus 94 = .ok (.iastore, 1) := by decide +kernel
theorem d_Natural_timesPlus_95 : decode b_Natural_timesPlus 95 = .ok (.aload_n 0, 1) := by decide +kernel
theorem d_Natural_timesPlus_96 : decode b_Natural_timesPlus 96 = .ok (.dup, 1) := by decide +kernel
theorem d_Natural_timesPlus_97 : decode b_Natural_timesPlus 97 = .ok (.getfield 15, 3) := by decide +kernel
theorem d_Natural_timesPlus_100 : decode b_Natural_timesPlus 100 = .ok (.iconst 1, 1) := by decide +kernel
theorem d_Natural_timesPlus_101 : decode b_Natural_timesPlus 101 = .ok (.iadd, 1) := by decide +kernel
theorem d_Natural_timesPlus_102 : decode b_Natural_timesPlus 102 = .ok (.putfield 15, 3) := by decide +kernel
theorem d_Natural_timesPlus_105 : decode b_Natural_timesPlus 105 = .ok (.return_, 1) := by decide +kernel
theorem d_Natural_plus_0 : decode b_Natural_plus 0 = .ok (.aload_n 0, 1) := by decide +kernel
theorem d_Natural_plus_1 : decode b_Natural_plus 1 = .ok (.getfield 15, 3) := by decide +kernel
theorem d_Natural_plus_4 : decode b_Natural_plus 4 = .ok (.aload_n 1, 1) := by decide +kernel
theorem d_Natural_plus_5 : decode b_Natural_plus 5 = .ok (.getfield 15, 3) := by decide +kernel
theorem d_Natural_plus_8 : decode b_Natural_plus 8 = .ok (.invokestatic 38, 3) := by decide +kernel
theorem d_Natural_plus_11 : decode b_Natural_plus 11 = .ok (.iconst 1, 1) := by decide +kernel
theorem d_Natural_plus_12 : decode b_Natural_plus 12 = .ok (.iadd, 1) := by decide +kernel
theorem d_Natural_plus_13 : decode b_Natural_plus 13 = .ok (.sipush 224, 3) := by decide +kernel
theorem d_Natural_plus_16 : decode b_Natural_plus 16 = .ok (.invokestatic 28, 3) := by decide +kernel
theorem d_Natural_plus_19 : decode b_Natural_plus 19 = .ok (.istore_n 2, 1) := by decide +kernel
theorem d_Natural_plus_20 : decode b_Natural_plus 20 = .ok (.lconst 0, 1) := by decide +kernel
theorem d_Natural_plus_21 : decode b_Natural_plus 21 = .ok (.lstore_n 3, 1) := by decide +kernel
theorem d_Natural_plus_22 : decode b_Natural_plus 22 = .ok (.iconst 0, 1) := by decide +kernel
theorem d_Natural_plus_23 : decode b_Natural_plus 23 = .ok (.istore 5, 2) := by decide +kernel
theorem d_Natural_plus_25 : decode b_Natural_plus 25 = .ok (.iload 5, 2) := by decide +kernel
theorem d_Natural_plus_27 : decode b_Natural_plus 27 = .ok (.iload_n 2, 1) := by decide +kernel
theorem d_Natural_plus_28 : decode b_Natural_plus 28 = .ok (.if_icmp .ge 45, 3) := by decide +kernel
theorem d_Natural_plus_31 : decode b_Natural_plus 31 = .ok (.lload_n 3, 1) := by decide +kernel
theorem d_Natural_plus_32 : decode b_Natural_plus 32 = .ok (.aload_n 0, 1) := by decide +kernel
theorem d_Natural_plus_33 : decode b_Natural_plus 33 = .ok (.iload 5, 2) := by decide +kernel
theorem d_Natural_plus_35 : decode b_Natural_plus 35 = .ok (.invokevirtual 21, 3) := by decide +kernel
theorem d_Natural_plus_38 : decode b_Natural_plus 38 = .ok (.i2l, 1) := by decide +kernel
theorem d_Natural_plus_39 : decode b_Natural_plus 39 = .ok (.aload_n 1, 1) := by decide +kernel
theorem d_Natural_plus_40 : decode b_Natural_plus 40 = .ok (.iload 5, 2) := by decide +kernel
theorem d_Natural_plus_42 : decode b_Natural_plus 42 = .ok (.invokevirtual 21, 3) := by decide +kernel
theorem d_Natural_plus_45 : decode b_Natural_plus 45 = .ok (.i2l, 1) := by decide +kernel
theorem d_Natural_plus_46 : decode b_Natural_plus 46 = .ok (.ladd, 1) := by decide +kernel
theorem d_Natural_plus_47 : decode b_Natural_plus 47 = .ok (.ladd, 1) := by decide +kernel
theorem d_Natural_plus_48 : decode b_Natural_plus 48 = .ok (.lstore_n 3, 1) := by decide +kernel
theorem d_Natural_plus_49 : decode b_Natural_plus 49 = .ok (.aload_n 0, 1) := by decide +kernel
theorem d_Natural_plus_50 : decode b_Natural_plus 50 = .ok (.getfield 9, 3) := by decide +kernel
theorem d_Natural_plus_53 : decode b_Natural_plus 53 = .ok (.iload 5, 2) := by decide +kernel
theorem d_Natural_plus_55 : decode b_Natural_plus 55 = .ok (.lload_n 3, 1) := by decide +kernel
theorem d_Natural_plus_56 : decode b_Natural_plus 56 = .ok (.ldc2_w 19, 3) := by decide +kernel
theorem d_Natural_plus_59 : decode b_Natural_plus 59 = .ok (.land, 1) := by decide +kernel
theorem d_Natural_plus_60 : decode b_Natural_plus 60 = .ok (.l2i, 1) := by decide +kernel
theorem d_Natural_plus_61 : decode b_Natural_plus 61 = .ok (.iastore, 1) := by decide +kernel
theorem d_Natural_plus_62 : decode b_Natural_plus 62 = .ok (.lload_n 3, 1) := by decide +kernel
theorem d_Natural_plus_63 : decode b_Natural_plus 63 = .ok (.bipush 30, 2) := by decide +kernel
theorem d_Natural_plus_65 : decode b_Natural_plus 65 = .ok (.lshr, 1) := by decide +kernel
theorem d_Natural_plus_66 : decode b_Natural_plus 66 = .ok (.lstore_n 3, 1) := by decide +kernel
theorem d_Natural_plus_67 : decode b_Natural_plus 67 = .ok (.iinc 5 1, 3) := by decide +kernel
theorem d_Natural_plus_70 : decode b_Natural_plus 70 = .ok (.goto (-45), 3) := by decide +kernel
theorem d_Natural_plus_73 : decode b_Natural_plus 73 = .ok (.aload_n 0, 1) := by decide +kernel
theorem d_Natural_plus_74 : decode b_Natural_plus 74 = .ok (.iload_n 2, 1) := by decide +kernel
theorem d_Natural_plus_75 : decode b_Natural_plus 75 = .ok (.invokevirtual 41, 3) := by decide +kernel
theorem d_Natural_plus_78 : decode b_Natural_plus 78 = .ok (.return_, 1) := by decide +kernel
theorem d_Natural_takeFrom_0 : decode b_Natural_takeFrom 0 = .ok (.aload_n 1, 1) := by decide +kernel
theorem d_Natural_takeFrom_1 : decode b_Natural_takeFrom 1 = .ok (.getfield 15, 3) := by decide +kernel
theorem d_Natural_takeFrom_4 : decode b_Natural_takeFrom 4 = .ok (.sipush 224, 3) := by decide +kernel
theorem d_Natural_takeFrom_7 : decode b_Natural_takeFrom 7 = .ok (.invokestatic 28, 3) := by decide +kernel
theorem d_Natural_takeFrom_10 : decode b_Natural_takeFrom 10 = .ok (.istore_n 2, 1) := by decide +kernel
theorem d_Natural_takeFrom_11 : decode b_Natural_takeFrom 11 = .ok (.lconst 0, 1) := by decide +kernel
theorem d_Natural_takeFrom_12 : decode b_Natural_takeFrom 12 = .ok (.lstore_n 3, 1) := by decide +kernel
theorem d_Natural_takeFrom_13 : decode b_Natural_takeFrom 13 = .ok (.iconst 0, 1) := by decide +kernel
theorem d_Natural_takeFrom_14 : decode b_Natural_takeFrom 14 = .ok (.istore 5, 2) := by decide +kernel
theorem d_Natural_takeFrom_16 : decode b_Natural_takeFrom 16 = .ok (.iload 5, 2) := by decide +kernel
theorem d_Natural_takeFrom_18 : decode b_Natural_takeFrom 18 = .ok (.iload_n 2, 1) := by decide +kernel
theorem d_Natural_takeFrom_19 : decode b_Natural_takeFrom 19 = .ok (.if_icmp .ge 45, 3) := by decide +kernel
theorem d_Natural_takeFrom_22 : decode b_Natural_takeFrom 22 = .ok (.lload_n 3, 1) := by decide +kernel
theorem d_Natural_takeFrom_23 : decode b_Natural_takeFrom 23 = .ok (.aload_n 1, 1) := by decide +kernel
theorem d_Natural_takeFrom_24 : decode b_Natural_takeFrom 24 = .ok (.iload 5, 2) := by decide +kernel
theorem d_Natural_takeFrom_26 : decode b_Natural_takeFrom 26 = .ok (.invokevirtual 21, 3) := by decide +kernel
theorem d_Natural_takeFrom_29 : decode b_Natural_takeFrom 29 = .ok (.i2l, 1) := by decide +kernel
theorem d_Natural_takeFrom_30 : decode b_Natural_takeFrom 30 = .ok (.aload_n 0, 1) := by decide +kernel
theorem d_Natural_takeFrom_31 : decode b_Natural_takeFrom 31 = .ok (.iload 5, 2) := by decide +kernel
theorem d_Natural_takeFrom_33 : decode b_Natural_takeFrom 33 = .ok (.invokevirtual 21, 3) := by decide +kernel
theorem d_Natural_takeFrom_36 : decode b_Natural_takeFrom 36 = .ok (.i2l, 1) := by decide +kernel
theorem d_Natural_takeFrom_37 : decode b_Natural_takeFrom 37 = .ok (.lsub, 1) := by decide +kernel
theorem d_Natural_takeFrom_38 : decode b_Natural_takeFrom 38 = .ok (.ladd, 1) := by decide +kernel
theorem d_Natural_takeFrom_39 : decode b_Natural_takeFrom 39 = .ok (.lstore_n 3, 1) := by decide +kernel
theorem d_Natural_takeFrom_40 : decode b_Natural_takeFrom 40 = .ok (.aload_n 0, 1) := by decide +kernel
theorem d_Natural_takeFrom_41 : decode b_Natural_takeFrom 41 = .ok (.getfield 9, 3) := by decide +kernel
theorem d_Natural_takeFrom_44 : decode b_Natural_takeFrom 44 = .ok (.iload 5, 2) := by decide +kernel
theorem d_Natural_takeFrom_46 : decode b_Natural_takeFrom 46 = .ok (.lload_n 3, 1) := by decide +kernel
theorem d_Natural_takeFrom_47 : decode b_Natural_takeFrom 47 = .ok (.ldc2_w 19, 3) := by decide +kernel
theorem d_Natural_takeFrom_50 : decode b_Natural_takeFrom 50 = .ok (.land, 1) := by decide +kernel
theorem d_Natural_takeFrom_51 : decode b_Natural_takeFrom 51 = .ok (.l2i, 1) := by decide +kernel
theorem d_Natural_takeFrom_52 : decode b_Natural_takeFrom 52 = .ok (.iastore, 1) := by decide +kernel
theorem d_Natural_takeFrom_53 : decode b_Natural_takeFrom 53 = .ok (.lload_n 3, 1) := by decide +kernel
theorem d_Natural_takeFrom_54 : decode b_Natural_takeFrom 54 = .ok (.bipush 30, 2) := by decide +kernel
theorem d_Natural_takeFrom_56 : decode b_Natural_takeFrom 56 = .ok (.lshr, 1) := by decide +kernel
theorem d_Natural_takeFrom_57 : decode b_Natural_takeFrom 57 = .ok (.lstore_n 3, 1) := by decide +kernel
theorem d_Natural_takeFrom_58 : decode b_Natural_takeFrom 58 = .ok (.iinc 5 1, 3) := by decide +kernel
theorem d_Natural_takeFrom_61 : decode b_Natural_takeFrom 61 = .ok (.goto (-45), 3) := by decide +kernel
theorem d_Natural_takeFrom_64 : decode b_Natural_takeFrom 64 = .ok (.aload_n 0, 1) := by decide +kernel
theorem d_Natural_takeFrom_65 : decode b_Natural_takeFrom 65 = .ok (.iload_n 2, 1) := by decide +kernel
theorem d_Natural_takeFrom_66 : decode b_Natural_takeFrom 66 = .ok (.invokevirtual 41, 3) := by decide +kernel
theorem d_Natural_takeFrom_69 : decode b_Natural_takeFrom 69 = .ok (.return_, 1) := by decide +kernel
theorem d_Natural_minusTimes_0 : decode b_Natural_minusTimes 0 = .ok (.lconst 0, 1) := by decide +kernel
theorem d_Natural_minusTimes_1 : decode b_Natural_minusTimes 1 = .ok (.lstore 5, 2) := by decide +kernel
theorem d_Natural_minusTimes_3 : decode b_Natural_minusTimes 3 = .ok (.iload 4, 2) := by decide +kernel
theorem d_Natural_minusTimes_5 : decode b_Natural_minusTimes 5 = .ok (.iconst 0, 1) := by decide +kernel
theorem d_Natural_minusTimes_6 : decode b_Natural_minusTimes 6 = .ok (.invokestatic 38, 3) := by decide +kernel
theorem d_Natural_minusTimes_9 : decode b_Natural_minusTimes 9 = .ok (.istore 7, 2) := by decide +kernel
theorem d_Natural_minusTimes_11 : decode b_Natural_minusTimes 11 = .ok (.iload 7, 2) := by decide +kernel
theorem d_Natural_minusTimes_13 : decode b_Natural_minusTimes 13 = .ok (.aload_n 0, 1) := by decide +kernel
theorem d_Natural_minusTimes_14 : decode b_Natural_minusTimes 14 = .ok (.getfield 15, 3) := by decide +kernel
theorem d_Natural_minusTimes_17 : decode b_Natural_minusTimes 17 = .ok (.if_icmp .ge 64, 3) := by decide +kernel
theorem d_Natural_minusTimes_20 : decode b_Natural_minusTimes 20 = .ok (.iload 7, 2) := by decide +kernel
theorem d_Natural_minusTimes_22 : decode b_Natural_minusTimes 22 = .ok (.sipush 224, 3) := by decide +kernel
theorem d_Natural_minusTimes_25 : decode b_Natural_minusTimes 25 = .ok (.if_icmp .ge 56, 3) := by decide +kernel
theorem d_Natural_minusTimes_28 : decode b_Natural_minusTimes 28 = .ok (.lload 5, 2) := by decide +kernel
theorem d_Natural_minusTimes_30 : decode b_Natural_minusTimes 30 = .ok (.aload_n 0, 1) := by decide +kernel
theorem d_Natural_minusTimes_31 : decode b_Natural_minusTimes 31 = .ok (.getfield 9, 3) := by decide +kernel
theorem d_Natural_minusTimes_34 : decode b_Natural_minusTimes 34 = .ok (.iload 7, 2) := by decide +kernel
theorem d_Natural_minusTimes_36 : decode b_Natural_minusTimes 36 = .ok (.iaload, 1) := by decide +kernel
theorem d_Natural_minusTimes_37 : decode b_Natural_minusTimes 37 = .ok (.i2l, 1) := by decide +kernel
theorem d_Natural_minusTimes_38 : decode b_Natural_minusTimes 38 = .ok (.lload_n 2, 1) := by decide +kernel
theorem d_Natural_minusTimes_39 : decode b_Natural_minusTimes 39 = .ok (.aload_n 1, 1) := by decide +kernel
theorem d_Natural_minusTimes_40 : decode b_Natural_minusTimes 40 = .ok (.iload 7, 2) := by decide +kernel
theorem d_Natural_minusTimes_42 : decode b_Natural_minusTimes 42 = .ok (.iload 4, 2) := by decide +kernel
theorem d_Natural_minusTimes_44 : decode b_Natural_minusTimes 44 = .ok (.isub, 1) := by decide +kernel
theorem d_Natural_minusTimes_45 : decode b_Natural_minusTimes 45 = .ok (.invokevirtual 21, 3) := by decide +kernel
theorem d_Natural_minusTimes_48 : decode b_Natural_minusTimes 48 = .ok (.i2l, 1) := by decide +kernel
theorem d_Natural_minusTimes_49 : decode b_Natural_minusTimes 49 = .ok (.lmul, 1) := by decide +kernel
theorem d_Natural_minusTimes_50 : decode b_Natural_minusTimes 50 = .ok (.lsub, 1) := by decide +kernel
theorem d_Natural_minusTimes_51 : decode b_Natural_minusTimes 51 = .ok (.ladd, 1) := by decide +kernel
theorem d_Natural_minusTimes_52 : decode b_Natural_minusTimes 52 = .ok (.lstore 5, 2) := by decide +kernel
theorem d_Natural_minusTimes_54 : decode b_Natural_minusTimes 54 = .ok (.aload_n 0, 1) := by decide +kernel
theorem d_Natural_minusTimes_55 : decode b_Natural_minusTimes 55 = .ok (.getfield 9, 3) := by decide +kernel
theorem d_Natural_minusTimes_58 : decode b_Natural_minusTimes 58 = .ok (.iload 7, 2) := by decide +kernel
theorem d_Natural_minusTimes_60 : decode b_Natural_minusTimes 60 = .ok (.lload 5, 2) := by decide +kernel
theorem d_Natural_minusTimes_62 : decode b_Natural_minusTimes 62 = .ok (.ldc2_w 19, 3) := by decide +kernel
theorem d_Natural_minusTimes_65 : decode b_Natural_minusTimes 65 = .ok (.land, 1) := by decide +kernel
theorem d_Natural_minusTimes_66 : decode b_Natural_minusTimes 66 = .ok (.l2i, 1) := by decide +kernel
theorem d_Natural_minusTimes_67 : decode b_Natural_minusTimes 67 = .ok (.iastore, 1) := by decide +kernel
theorem d_Natural_minusTimes_68 : decode b_Natural_minusTimes 68 = .ok (.lload 5, 2) := by decide +kernel
theorem d_Natural_minusTimes_70 : decode b_Natural_minusTimes 70 = .ok (.bipush 30, 2) := by decide +kernel
theorem d_Natural_minusTimes_72 : decode b_Natural_minusTimes 72 = .ok (.lshr, 1) := by decide +kernel
theorem d_Natural_minusTimes_73 : decode b_Natural_minusTimes 73 = .ok (.lstore 5, 2) := by decide +kernel
theorem d_Natural_minusTimes_75 : decode b_Natural_minusTimes 75 = .ok (.iinc 7 1, 3) := by decide +kernel
theorem d_Natural_minusTimes_78 : decode b_Natural_minusTimes 78 = .ok (.goto (-67), 3) := by decide +kernel
theorem d_Natural_minusTimes_81 : decode b_Natural_minusTimes 81 = .ok (.aload_n 0, 1) := by decide +kernel
theorem d_Natural_minusTimes_82 : decode b_Natural_minusTimes 82 = .ok (.aload_n 0, 1) := by decide +kernel
theorem d_Natural_minusTimes_83 : decode b_Natural_minusTimes 83 = .ok (.getfield 15, 3) := by decide +kernel
theorem d_Natural_minusTimes_86 : decode b_Natural_minusTimes 86 = .ok (.invokevirtual 41, 3) := by decide +kernel
theorem d_Natural_minusTimes_89 : decode b_Natural_minusTimes 89 = .ok (.return_, 1) := by decide +kernel
theorem tm_Natural_28 : Cond.methodLink "IntervalText$Natural" 28 Lib.Math.min.name ∈ TB ∧ Cond.static Lib.Math.min.name ∈ TB ∧ Cond.initialized "java/lang/Math" ∈ TB ∧ Cond.code Lib.Math.min.name Lib.Math.min.code 2 (some .int) ∈ TB := ⟨tb_t (List.mem_append_right _ (List.mem_append_left _ (List.mem_of_getElem? (l := tables_1_2) (i := 119) rfl))) rfl, tb_t (List.mem_append_right _ (List.mem_append_left _ (List.mem_of_getElem? (l := tables_1_2) (i := 120) rfl))) rfl, tb_t (List.mem_append_left _ (List.mem_of_getElem? (l := tables_1_1) (i := 15) rfl)) rfl, tb_t (List.mem_append_right _ (List.mem_append_left _ (List.mem_of_getElem? (l := tables_1_2) (i := 121) rfl))) rfl⟩
theorem tm_Natural_38 : Cond.methodLink "IntervalText$Natural" 38 Lib.Math.max.name ∈ TB ∧ Cond.static Lib.Math.max.name ∈ TB ∧ Cond.initialized "java/lang/Math" ∈ TB ∧ Cond.code Lib.Math.max.name Lib.Math.max.code 2 (some .int) ∈ TB := ⟨tb_t (List.mem_append_right _ (List.mem_append_left _ (List.mem_of_getElem? (l := tables_1_2) (i := 185) rfl))) rfl, tb_t (List.mem_append_right _ (List.mem_append_left _ (List.mem_of_getElem? (l := tables_1_2) (i := 186) rfl))) rfl, tb_t (List.mem_append_left _ (List.mem_of_getElem? (l := tables_1_1) (i := 15) rfl)) rfl, tb_t (List.mem_append_right _ (List.mem_append_left _ (List.mem_of_getElem? (l := tables_1_2) (i := 187) rfl))) rfl⟩
theorem cl_Natural_41 : CLinkV TB "IntervalText$Natural" 41 "IntervalText$Natural" y_Natural_trim b_Natural_trim 2 none 1 := ⟨⟨tb_t (List.mem_append_right _ (List.mem_append_left _ (List.mem_of_getElem? (l := tables_1_2) (i := 154) rfl))) rfl, tb_t (List.mem_append_left _ (List.mem_of_getElem? (l := tables_1_1) (i := 4) rfl)) rfl, tb_t (List.mem_append_right _ (List.mem_append_left _ (List.mem_of_getElem? (l := tables_1_2) (i := 157) rfl))) rfl, by decide +kernel, by decide +kernel, by decide +kernel⟩, tb_t (List.mem_append_right _ (List.mem_append_left _ (List.mem_of_getElem? (l := tables_1_2) (i := 156) rfl))) rfl, tb_p 11 rfl⟩
set_option maxHeartbeats 4000000 in
set_option maxRecDepth 100000 in
theorem c_Natural_timesPlus (l : Launch) (D : va_G) (E : EVt) (h : Nat) (a : Nat) (g : Int → Int) (k : Int) (x : Int) (y : Int) (v : Int) (hN : NatOK g k v) (hx1 : 1 ≤ x ∧ x < 1073741824) (hy1 : 0 ≤ y ∧ y < 1073741824) (hf1 : v * x + y < PB 224) : CT l D classes (tyl E) (EVX E) y_Natural_timesPlus (Cond.code y_Natural_timesPlus b_Natural_timesPlus 6 none :: TB) (rmK 0 0 0 0) 0 0 [.ref h, .int (iI x), .int (iI y)] [(h, .inr (0, [.ref a, .int (iI k)])), (a, .inl (E.1, 224, .inl (ia g)))] (S := (Int → Int) × Int) (fun u => [(h, .inr (0, [.ref a, .int (iI u.2)])), (a, .inl (E.1, 224, .inl (ia u.1)))]) (fun _ => none) (fun u => (NatOK u.1 u.2 (v * x + y))) := by
  refine CT.ofv (eok E) (by decide) rfl (Nat.le_of_ble_eq_true rfl) ?_
  intro p e s m args below meth c A Q ls B hmn hP hD hS hl ret
  have B : Bd l D classes (tyl E) (EVX E) p m c b_Natural_timesPlus 6 s args (Cond.code y_Natural_timesPlus b_Natural_timesPlus 6 none :: TB) R_Natural A := B
  obtain ⟨⟨hx, hb, hml, hown, hts⟩, hX, hK, hE, hA⟩ := id B
  have hl : lv_has ls 6 [(0, .ref h), (1, .int (iI x)), (2, .int (iI y))] := hl
  have hP : va_P D classes [(h, .inr (0, [.ref a, .int (iI k)])), (a, .inl (E.1, 224, .inl (ia g)))] s.heap := hP
  have hD : va_D A [(h, .inr (0, [.ref a, .int (iI k)])), (a, .inl (E.1, 224, .inl (ia g)))] := hD
  have hk := hN.k
  have K_6 : ∀ (fuel6 : Nat) (i : Int) (cy : Int) (g1 : Int → Int) (ht : TPI g k x y g1 i cy) (hf6 : k - i < (fuel6 : Int)) (ls : Array Slot) (H : Heap) (locs : List Loc), lv_has ls 6 [(0, .ref h), (1, .int (iI x)), (3, .long (lI cy)), (5, .int (iI i))] → va_P D classes [(h, .inr (0, [.ref a, .int (iI k)])), (a, .inl (E.1, 224, .inl (ia g1)))] H → va_D A [(h, .inr (0, [.ref a, .int (iI k)])), (a, .inl (E.1, 224, .inl (ia g1)))] → va_S A s.heap H locs → W p l e (rmK 0 0 0 0) s m args below meth c H locs 0 0 Q (F0 m 6 ls []) := by
    intro fuel6
    induction fuel6 with
    | zero =>
      intro i cy g1 ht hf6 ls H locs hl hP hD hS
      have := ht.1; exfalso; omega
    | succ fuel6 ih6 =>
      intro i cy g1 ht hf6 ls H locs hl hP hD hS
      have hk := hN.k
      obtain ⟨ht1, ht2, ht3, ht4, ht5⟩ := id ht
      refine lv_iload hx hb d_Natural_timesPlus_6 (lv_at hl 3 rfl) ?_
      refine lv_aload_n hx hb d_Natural_timesPlus_8 rfl (lv_at hl 0 rfl) ?_
      refine wk_get B hP 0 rfl fl_Natural_15 (v := .int (iI k)) rfl d_Natural_timesPlus_9 ?_
      refine wi_icmp_ge (tgt := 61) hx hb d_Natural_timesPlus_12 (by decide) (by omega) (by omega) (fun c_1 => ?_) (fun c_1 => ?_)
      · skip
        have hik : i = k := by omega
        rw [hik] at ht
        refine lv_lload_n hx hb d_Natural_timesPlus_61 rfl (lv_at hl 2 rfl) ?_
        refine wi_lconst (z := 0) hx hb d_Natural_timesPlus_62 (by decide) ?_
        refine wi_lcmp hx hb (by omega) (by omega) d_Natural_timesPlus_63 ?_
        refine wi_if_le (tgt := 105) hx hb d_Natural_timesPlus_64 (by decide) (by have := cmpZ_rng cy 0; omega) (fun c_2 => ?_) (fun c_2 => ?_)
        · skip
          have c_2 := cmpZ_le.mp c_2
          exact ret (g1, k) _ _ _ _ d_Natural_timesPlus_105 (show (NatOK g1 k (v * x + y)) from ((TPI_end hN hx1 hy1.1 ht).1 (by omega))) (hP.sub [0, 1] rfl) (hD.sub [0, 1] (by decide) rfl) hS
        · skip
          have c_2 := cmpZ_gt.mp c_2
          refine lv_aload_n hx hb d_Natural_timesPlus_67 rfl (lv_at hl 0 rfl) ?_
          refine wk_get B hP 0 rfl fl_Natural_15 (v := .int (iI k)) rfl d_Natural_timesPlus_68 ?_
          refine wi_if_lt (tgt := 105) hx hb d_Natural_timesPlus_71 (by decide) (by omega) (fun c_3 => by exfalso; omega) (fun c_3 => ?_)
          refine lv_aload_n hx hb d_Natural_timesPlus_74 rfl (lv_at hl 0 rfl) ?_
          refine wk_get B hP 0 rfl fl_Natural_15 (v := .int (iI k)) rfl d_Natural_timesPlus_75 ?_
          refine wi_sipush hx hb d_Natural_timesPlus_78 (by decide) ?_
          refine wi_icmp_ge (tgt := 105) hx hb d_Natural_timesPlus_81 (by decide) (by omega) (by omega) (fun c_4 => by exfalso; have := (TPI_end hN hx1 hy1.1 ht).2.2 hf1 c_2; omega) (fun c_4 => ?_)
          refine lv_aload_n hx hb d_Natural_timesPlus_84 rfl (lv_at hl 0 rfl) ?_
          refine wk_get B hP 0 rfl fl_Natural_9 (v := .ref a) rfl d_Natural_timesPlus_85 ?_
          refine lv_aload_n hx hb d_Natural_timesPlus_88 rfl (lv_at hl 0 rfl) ?_
          refine wk_get B hP 0 rfl fl_Natural_15 (v := .int (iI k)) rfl d_Natural_timesPlus_89 ?_
          refine lv_lload_n hx hb d_Natural_timesPlus_92 rfl (lv_at hl 2 rfl) ?_
          refine wi_l2i hx hb d_Natural_timesPlus_93 ?_
          refine wi_iast hx hb hK hP hD hS 1 0 rfl rfl (by omega) (by omega) d_Natural_timesPlus_94 (fun H locs hP hD hS => ?_)
          have hP : va_P D classes [(h, .inr (0, [.ref a, .int (iI k)])), (a, .inl (E.1, 224, .inl (ia (upZ g1 k cy))))] H := hP
          have hD : va_D A [(h, .inr (0, [.ref a, .int (iI k)])), (a, .inl (E.1, 224, .inl (ia (upZ g1 k cy))))] := hD
          refine lv_aload_n hx hb d_Natural_timesPlus_95 rfl (lv_at hl 0 rfl) ?_
          refine lv_dup hx hb d_Natural_timesPlus_96 rfl ?_
          refine wk_get B hP 0 rfl fl_Natural_15 (v := .int (iI k)) rfl d_Natural_timesPlus_97 ?_
          refine wi_iconst (n := 1) hx hb d_Natural_timesPlus_100 ?_
          refine wi_iadd hx hb d_Natural_timesPlus_101 ?_
          refine wk_put B hP hD hS 0 rfl fl_Natural_15 fp_Natural_1 (v := .int (iI (k + 1))) rfl rfl (Nat.le_of_ble_eq_true rfl) d_Natural_timesPlus_102 (fun H locs hP hD hS => ?_)
          have hP : va_P D classes [(h, .inr (0, [.ref a, .int (iI (k + 1))])), (a, .inl (E.1, 224, .inl (ia (upZ g1 k cy))))] H := hP
          have hD : va_D A [(h, .inr (0, [.ref a, .int (iI (k + 1))])), (a, .inl (E.1, 224, .inl (ia (upZ g1 k cy))))] := hD
          exact ret (upZ g1 k cy, k + 1) _ _ _ _ d_Natural_timesPlus_105 (show (NatOK (upZ g1 k cy) (k + 1) (v * x + y)) from ((TPI_end hN hx1 hy1.1 ht).2.1 (by omega) (by omega))) (hP.sub [0, 1] rfl) (hD.sub [0, 1] (by decide) rfl) hS
      · skip
        refine lv_iload hx hb d_Natural_timesPlus_15 (lv_at hl 3 rfl) ?_
        refine wi_sipush hx hb d_Natural_timesPlus_17 (by decide) ?_
        refine wi_icmp_ge (tgt := 61) hx hb d_Natural_timesPlus_20 (by decide) (by omega) (by omega) (fun c_5 => by exfalso; omega) (fun c_5 => ?_)
        have hr := TPI_rng hN.2.1 (by omega) ht (by omega)
        have hd1 := hN.2.1 i (by omega) (by omega)
        have hg1 := ht2 i (by omega) (by omega)
        refine lv_lload_n hx hb d_Natural_timesPlus_23 rfl (lv_at hl 2 rfl) ?_
        refine lv_aload_n hx hb d_Natural_timesPlus_24 rfl (lv_at hl 0 rfl) ?_
        refine wk_get B hP 0 rfl fl_Natural_9 (v := .ref a) rfl d_Natural_timesPlus_25 ?_
        refine lv_iload hx hb d_Natural_timesPlus_28 (lv_at hl 3 rfl) ?_
        refine wi_iald hx hb hK hP 1 0 rfl rfl (by omega) (by omega) d_Natural_timesPlus_30 ?_
        refine wi_i2l hx hb (by rw [hg1]; omega) d_Natural_timesPlus_31 ?_
        refine lv_iload_n hx hb d_Natural_timesPlus_32 rfl (lv_at hl 1 rfl) ?_
        refine wi_i2l hx hb (by omega) d_Natural_timesPlus_33 ?_
        refine wi_lmul hx hb d_Natural_timesPlus_34 ?_
        refine wi_ladd hx hb d_Natural_timesPlus_35 ?_
        refine lv_lstore_n (lv' := [(3, .long (lI (cy + ((g1 i) * x)))), (0, .ref h), (1, .int (iI x)), (5, .int (iI i))]) hx hb d_Natural_timesPlus_36 rfl hl (by decide) rfl (fun ls hl => ?_)
        refine lv_aload_n hx hb d_Natural_timesPlus_37 rfl (lv_at hl 1 rfl) ?_
        refine wk_get B hP 0 rfl fl_Natural_9 (v := .ref a) rfl d_Natural_timesPlus_38 ?_
        refine lv_iload hx hb d_Natural_timesPlus_41 (lv_at hl 3 rfl) ?_
        refine lv_lload_n hx hb d_Natural_timesPlus_43 rfl (lv_at hl 0 rfl) ?_
        refine wi_ldc2 hx hb 1073741823 hown (tb_h hts tw_Natural_constantLong_19) (by decide) d_Natural_timesPlus_44 ?_
        refine wi_lmask hx hb 30 1073741824 (by decide +kernel) (by decide) (by decide) d_Natural_timesPlus_47 ?_
        refine wi_l2i hx hb d_Natural_timesPlus_48 ?_
        refine wi_iast hx hb hK hP hD hS 1 0 rfl rfl (by omega) (by omega) d_Natural_timesPlus_49 (fun H locs hP hD hS => ?_)
        have hP : va_P D classes [(h, .inr (0, [.ref a, .int (iI k)])), (a, .inl (E.1, 224, .inl (ia (upZ g1 i ((cy + ((g1 i) * x)) % 1073741824)))))] H := hP
        have hD : va_D A [(h, .inr (0, [.ref a, .int (iI k)])), (a, .inl (E.1, 224, .inl (ia (upZ g1 i ((cy + ((g1 i) * x)) % 1073741824)))))] := hD
        refine lv_lload_n hx hb d_Natural_timesPlus_50 rfl (lv_at hl 0 rfl) ?_
        refine wi_bipush hx hb d_Natural_timesPlus_51 (by decide) ?_
        refine wi_lshr hx hb 30 1073741824 (by decide +kernel) rfl (by decide) (by omega) d_Natural_timesPlus_53 ?_
        refine lv_lstore_n (lv' := [(3, .long (lI ((cy + ((g1 i) * x)) / 1073741824))), (0, .ref h), (1, .int (iI x)), (5, .int (iI i))]) hx hb d_Natural_timesPlus_54 rfl hl (by decide) rfl (fun ls hl => ?_)
        refine wi_iinc (v := i + 1) (lv' := [(5, .int (iI (i + 1))), (3, .long (lI ((cy + ((g1 i) * x)) / 1073741824))), (0, .ref h), (1, .int (iI x))]) hx hb d_Natural_timesPlus_55 hl (k := 3) rfl rfl (by decide) rfl (fun ls hl => ?_)
        refine lv_goto (tgt := 6) hx hb d_Natural_timesPlus_58 (by decide) ?_
        exact ih6 (i + 1) ((cy + ((g1 i) * x)) / 1073741824) (upZ g1 i ((cy + ((g1 i) * x)) % 1073741824)) (TPI_s hN.2.1 (by omega) ht (by omega)) (by omega) _ _ _ (lv_sub hl [2, 3, 1, 0] rfl) (hP.sub [0, 1] rfl) (hD.sub [0, 1] (by decide) rfl) hS
  refine lv_iload_n hx hb d_Natural_timesPlus_0 rfl (lv_at hl 2 rfl) ?_
  refine wi_i2l hx hb (by omega) d_Natural_timesPlus_1 ?_
  refine lv_lstore_n (lv' := [(3, .long (lI y)), (0, .ref h), (1, .int (iI x)), (2, .int (iI y))]) hx hb d_Natural_timesPlus_2 rfl hl (by decide) rfl (fun ls hl => ?_)
  refine wi_iconst (n := 0) hx hb d_Natural_timesPlus_3 ?_
  refine lv_istore (lv' := [(5, .int (iI 0)), (3, .long (lI y)), (0, .ref h), (1, .int (iI x)), (2, .int (iI y))]) hx hb d_Natural_timesPlus_4 hl (by decide) rfl (fun ls hl => ?_)
  exact K_6 ((k - 0 : Int).toNat + 1) 0 y g (TPI_0 hk.1 hy1) (by omega) _ _ _ (lv_sub hl [2, 3, 1, 0] rfl) (hP.sub [0, 1] rfl) (hD.sub [0, 1] (by decide) rfl) hS
set_option maxHeartbeats 4000000 in
set_option maxRecDepth 100000 in
theorem c_Natural_plus (l : Launch) (D : va_G) (E : EVt) (h : Nat) (a : Nat) (g : Int → Int) (k : Int) (h2 : Nat) (a2 : Nat) (g2 : Int → Int) (k2 : Int) (v : Int) (w : Int) (hN : NatOK g k v) (hM : NatOK g2 k2 w) (hf1 : v + w < PB 224) : CT l D classes (tyl E) (EVX E) y_Natural_plus (Cond.code y_Natural_plus b_Natural_plus 6 none :: TB) (rmK 1 0 0 30) 0 0 [.ref h, .ref h2] [(h, .inr (0, [.ref a, .int (iI k)])), (a, .inl (E.1, 224, .inl (ia g))), (h2, .inr (0, [.ref a2, .int (iI k2)])), (a2, .inl (E.1, 224, .inl (ia g2)))] (S := (Int → Int) × Int) (fun u => [(h, .inr (0, [.ref a, .int (iI u.2)])), (a, .inl (E.1, 224, .inl (ia u.1))), (h2, .inr (0, [.ref a2, .int (iI k2)])), (a2, .inl (E.1, 224, .inl (ia g2)))]) (fun _ => none) (fun u => (NatOK u.1 u.2 (v + w))) := by
  refine CT.ofv (eok E) (by decide) rfl (Nat.le_of_ble_eq_true rfl) ?_
  intro p e s m args below meth c A Q ls B hmn hP hD hS hl ret
  have B : Bd l D classes (tyl E) (EVX E) p m c b_Natural_plus 6 s args (Cond.code y_Natural_plus b_Natural_plus 6 none :: TB) R_Natural A := B
  obtain ⟨⟨hx, hb, hml, hown, hts⟩, hX, hK, hE, hA⟩ := id B
  have hl : lv_has ls 6 [(0, .ref h), (1, .ref h2)] := hl
  have hP : va_P D classes [(h, .inr (0, [.ref a, .int (iI k)])), (a, .inl (E.1, 224, .inl (ia g))), (h2, .inr (0, [.ref a2, .int (iI k2)])), (a2, .inl (E.1, 224, .inl (ia g2)))] s.heap := hP
  have hD : va_D A [(h, .inr (0, [.ref a, .int (iI k)])), (a, .inl (E.1, 224, .inl (ia g))), (h2, .inr (0, [.ref a2, .int (iI k2)])), (a2, .inl (E.1, 224, .inl (ia g2)))] := hD
  have hk := hN.k
  have hk2 := hM.k
  have K_25 : ∀ (fuel25 : Nat) (i : Int) (cy : Int) (g1 : Int → Int) (hi : 0 ≤ i ∧ i ≤ min (max k k2 + 1) 224) (hC : CL g (fun j => lgx g k j + lgx g2 k2 j) 0 0 g1 i cy) (hcy : 0 ≤ cy ∧ cy ≤ 1) (hf25 : 224 - i < (fuel25 : Int)) (ls : Array Slot) (H : Heap) (locs : List Loc), lv_has ls 6 [(0, .ref h), (1, .ref h2), (2, .int (iI (min (max k k2 + 1) 224))), (3, .long (lI cy)), (5, .int (iI i))] → va_P D classes [(h, .inr (0, [.ref a, .int (iI k)])), (a, .inl (E.1, 224, .inl (ia g1))), (h2, .inr (0, [.ref a2, .int (iI k2)])), (a2, .inl (E.1, 224, .inl (ia g2)))] H → va_D A [(h, .inr (0, [.ref a, .int (iI k)])), (a, .inl (E.1, 224, .inl (ia g1))), (h2, .inr (0, [.ref a2, .int (iI k2)])), (a2, .inl (E.1, 224, .inl (ia g2)))] → va_S A s.heap H locs → W p l e (rmK 1 0 0 30) s m args below meth c H locs 0 0 Q (F0 m 25 ls []) := by
    intro fuel25
    induction fuel25 with
    | zero =>
      intro i cy g1 hi hC hcy hf25 ls H locs hl hP hD hS
      exfalso; omega
    | succ fuel25 ih25 =>
      intro i cy g1 hi hC hcy hf25 ls H locs hl hP hD hS
      have hk := hN.k
      have hk2 := hM.k
      have hb2 := lgx_bd hM.2.1 i
      have hb1 := lgx_bd hN.2.1 i
      have hb3 := lgx_keep (k := k) (fun z => hC.2.1 i z (Or.inr (Int.le_refl _)))
      rw [← hb3] at hb1
      refine lv_iload hx hb d_Natural_plus_25 (lv_at hl 4 rfl) ?_
      refine lv_iload_n hx hb d_Natural_plus_27 rfl (lv_at hl 2 rfl) ?_
      refine wi_icmp_ge (tgt := 73) hx hb d_Natural_plus_28 (by decide) (by omega) (by omega) (fun c_1 => ?_) (fun c_1 => ?_)
      · skip
        have hin : i = min (max k k2 + 1) 224 := by omega
        subst hin
        obtain ⟨hD9, hV9⟩ := plus_val hN hM hf1 rfl hC
        refine lv_aload_n hx hb d_Natural_plus_73 rfl (lv_at hl 0 rfl) ?_
        refine lv_iload_n hx hb d_Natural_plus_74 rfl (lv_at hl 2 rfl) ?_
        refine wk_callV (As := [.int (iI (min (max k k2 + 1) 224))]) (rest := []) (wr := [(h2, .inr (0, [.ref a2, .int (iI k2)])), (a2, .inl (E.1, 224, .inl (ia g2)))]) B gTB cl_Natural_41 (c_Natural_trim l D E h a g1 k (min (max k k2 + 1) 224) (by omega) (hD9)) ⟨⟨rfl, rfl⟩, Nat.le_of_ble_eq_true rfl, Nat.le_of_ble_eq_true rfl⟩ hP hD hS [0, 1] [2, 3] rfl rfl (by decide) 0 rfl rfl rfl ⟨hl.2.1, hl.1⟩ rfl (Nat.le_of_ble_eq_true rfl) d_Natural_plus_75 ⟨Nat.le_of_ble_eq_true rfl, Nat.le_of_ble_eq_true rfl⟩ rfl (fun k2_2 H locs hw hP hD hS => ?_)
        have hP : va_P D classes [(h2, .inr (0, [.ref a2, .int (iI k2)])), (a2, .inl (E.1, 224, .inl (ia g2))), (h, .inr (0, [.ref a, .int (iI k2_2)])), (a, .inl (E.1, 224, .inl (ia g1)))] H := hP
        have hD : va_D A [(h2, .inr (0, [.ref a2, .int (iI k2)])), (a2, .inl (E.1, 224, .inl (ia g2))), (h, .inr (0, [.ref a, .int (iI k2_2)])), (a, .inl (E.1, 224, .inl (ia g1)))] := hD
        have hw : (NatOK g1 k2_2 (NV g1 (min (max k k2 + 1) 224))) := hw
        have hM_3 := hw
        refine W.cs (g := F0 m 78 ls []) (cells' := 0) (slots' := 0) rfl rfl ?_
        exact ret (g1, k2_2) _ _ _ _ d_Natural_plus_78 (show (NatOK g1 k2_2 (v + w)) from (by rw [← hV9]; exact hM_3)) (hP.sub [2, 3, 0, 1] rfl) (hD.sub [2, 3, 0, 1] (by decide) rfl) hS
      · skip
        refine lv_lload_n hx hb d_Natural_plus_31 rfl (lv_at hl 3 rfl) ?_
        refine lv_aload_n hx hb d_Natural_plus_32 rfl (lv_at hl 0 rfl) ?_
        refine lv_iload hx hb d_Natural_plus_33 (lv_at hl 4 rfl) ?_
        refine wk_callV (As := [.int (iI i)]) (rest := [.long (lI cy)]) (wr := [(h2, .inr (0, [.ref a2, .int (iI k2)])), (a2, .inl (E.1, 224, .inl (ia g2)))]) B gTB cl_Natural_21 (c_Natural_limb l D E h a g1 k i (hk) (by omega)) ⟨⟨rfl, rfl⟩, Nat.le_of_ble_eq_true rfl, Nat.le_of_ble_eq_true rfl⟩ hP hD hS [0, 1] [2, 3] rfl rfl (by decide) 0 rfl rfl rfl ⟨hl.2.1, hl.1⟩ rfl (Nat.le_of_ble_eq_true rfl) d_Natural_plus_35 ⟨Nat.le_of_ble_eq_true rfl, Nat.le_of_ble_eq_true rfl⟩ rfl (fun r_4 H locs hw hP hD hS => ?_)
        have hP : va_P D classes [(h2, .inr (0, [.ref a2, .int (iI k2)])), (a2, .inl (E.1, 224, .inl (ia g2))), (h, .inr (0, [.ref a, .int (iI k)])), (a, .inl (E.1, 224, .inl (ia g1)))] H := hP
        have hD : va_D A [(h2, .inr (0, [.ref a2, .int (iI k2)])), (a2, .inl (E.1, 224, .inl (ia g2))), (h, .inr (0, [.ref a, .int (iI k)])), (a, .inl (E.1, 224, .inl (ia g1)))] := hD
        have hw : (r_4 = lgx g1 k i) := hw
        have hr_5 := hw
        refine W.cs (g := F0 m 38 ls [.int (iI r_4), .long (lI cy)]) (cells' := 0) (slots' := 0) rfl rfl ?_
        subst hr_5
        refine wi_i2l hx hb (by omega) d_Natural_plus_38 ?_
        refine lv_aload_n hx hb d_Natural_plus_39 rfl (lv_at hl 1 rfl) ?_
        refine lv_iload hx hb d_Natural_plus_40 (lv_at hl 4 rfl) ?_
        refine wk_callV (As := [.int (iI i)]) (rest := [.long (lI (lgx g1 k i)), .long (lI cy)]) (wr := [(h, .inr (0, [.ref a, .int (iI k)])), (a, .inl (E.1, 224, .inl (ia g1)))]) B gTB cl_Natural_21 (c_Natural_limb l D E h2 a2 g2 k2 i (hk2) (by omega)) ⟨⟨rfl, rfl⟩, Nat.le_of_ble_eq_true rfl, Nat.le_of_ble_eq_true rfl⟩ hP hD hS [0, 1] [2, 3] rfl rfl (by decide) 0 rfl rfl rfl ⟨hl.2.1, hl.1⟩ rfl (Nat.le_of_ble_eq_true rfl) d_Natural_plus_42 ⟨Nat.le_of_ble_eq_true rfl, Nat.le_of_ble_eq_true rfl⟩ rfl (fun r_6 H locs hw hP hD hS => ?_)
        have hP : va_P D classes [(h, .inr (0, [.ref a, .int (iI k)])), (a, .inl (E.1, 224, .inl (ia g1))), (h2, .inr (0, [.ref a2, .int (iI k2)])), (a2, .inl (E.1, 224, .inl (ia g2)))] H := hP
        have hD : va_D A [(h, .inr (0, [.ref a, .int (iI k)])), (a, .inl (E.1, 224, .inl (ia g1))), (h2, .inr (0, [.ref a2, .int (iI k2)])), (a2, .inl (E.1, 224, .inl (ia g2)))] := hD
        have hw : (r_6 = lgx g2 k2 i) := hw
        have hr_7 := hw
        refine W.cs (g := F0 m 45 ls [.int (iI r_6), .long (lI (lgx g1 k i)), .long (lI cy)]) (cells' := 0) (slots' := 0) rfl rfl ?_
        subst hr_7
        refine wi_i2l hx hb (by omega) d_Natural_plus_45 ?_
        refine wi_ladd hx hb d_Natural_plus_46 ?_
        refine wi_ladd hx hb d_Natural_plus_47 ?_
        refine lv_lstore_n (lv' := [(3, .long (lI (cy + (lgx g1 k i + (lgx g2 k2 i))))), (0, .ref h), (1, .ref h2), (2, .int (iI (min (max k k2 + 1) 224))), (5, .int (iI i))]) hx hb d_Natural_plus_48 rfl hl (by decide) rfl (fun ls hl => ?_)
        refine lv_aload_n hx hb d_Natural_plus_49 rfl (lv_at hl 1 rfl) ?_
        refine wk_get B hP 0 rfl fl_Natural_9 (v := .ref a) rfl d_Natural_plus_50 ?_
        refine lv_iload hx hb d_Natural_plus_53 (lv_at hl 4 rfl) ?_
        refine lv_lload_n hx hb d_Natural_plus_55 rfl (lv_at hl 0 rfl) ?_
        refine wi_ldc2 hx hb 1073741823 hown (tb_h hts tw_Natural_constantLong_19) (by decide) d_Natural_plus_56 ?_
        refine wi_lmask hx hb 30 1073741824 (by decide +kernel) (by decide) (by decide) d_Natural_plus_59 ?_
        refine wi_l2i hx hb d_Natural_plus_60 ?_
        refine wi_iast hx hb hK hP hD hS 1 0 rfl rfl (by omega) (by omega) d_Natural_plus_61 (fun H locs hP hD hS => ?_)
        have hP : va_P D classes [(h, .inr (0, [.ref a, .int (iI k)])), (a, .inl (E.1, 224, .inl (ia (upZ g1 i ((cy + (lgx g1 k i + (lgx g2 k2 i))) % 1073741824))))), (h2, .inr (0, [.ref a2, .int (iI k2)])), (a2, .inl (E.1, 224, .inl (ia g2)))] H := hP
        have hD : va_D A [(h, .inr (0, [.ref a, .int (iI k)])), (a, .inl (E.1, 224, .inl (ia (upZ g1 i ((cy + (lgx g1 k i + (lgx g2 k2 i))) % 1073741824))))), (h2, .inr (0, [.ref a2, .int (iI k2)])), (a2, .inl (E.1, 224, .inl (ia g2)))] := hD
        refine lv_lload_n hx hb d_Natural_plus_62 rfl (lv_at hl 0 rfl) ?_
        refine wi_bipush hx hb d_Natural_plus_63 (by decide) ?_
        refine wi_lshr hx hb 30 1073741824 (by decide +kernel) rfl (by decide) (by omega) d_Natural_plus_65 ?_
        refine lv_lstore_n (lv' := [(3, .long (lI ((cy + (lgx g1 k i + (lgx g2 k2 i))) / 1073741824))), (0, .ref h), (1, .ref h2), (2, .int (iI (min (max k k2 + 1) 224))), (5, .int (iI i))]) hx hb d_Natural_plus_66 rfl hl (by decide) rfl (fun ls hl => ?_)
        refine wi_iinc (v := i + 1) (lv' := [(5, .int (iI (i + 1))), (3, .long (lI ((cy + (lgx g1 k i + (lgx g2 k2 i))) / 1073741824))), (0, .ref h), (1, .ref h2), (2, .int (iI (min (max k k2 + 1) 224)))]) hx hb d_Natural_plus_67 hl (k := 4) rfl rfl (by decide) rfl (fun ls hl => ?_)
        refine lv_goto (tgt := 25) hx hb d_Natural_plus_70 (by decide) ?_
        exact ih25 (i + 1) ((cy + (lgx g1 k i + (lgx g2 k2 i))) / 1073741824) (upZ g1 i ((cy + (lgx g1 k i + (lgx g2 k2 i))) % 1073741824)) (by omega) (plus_s hC) (by omega) (by omega) _ _ _ (lv_sub hl [2, 3, 4, 1, 0] rfl) (hP.sub [0, 1, 2, 3] rfl) (hD.sub [0, 1, 2, 3] (by decide) rfl) hS
  refine lv_aload_n hx hb d_Natural_plus_0 rfl (lv_at hl 0 rfl) ?_
  refine wk_get B hP 0 rfl fl_Natural_15 (v := .int (iI k)) rfl d_Natural_plus_1 ?_
  refine lv_aload_n hx hb d_Natural_plus_4 rfl (lv_at hl 1 rfl) ?_
  refine wk_get B hP 2 rfl fl_Natural_15 (v := .int (iI k2)) rfl d_Natural_plus_5 ?_
  refine wi_mmax hx hb hown (hml.trans hl.1.symm) (tb_h hts tm_Natural_38.1) (tb_h hts tm_Natural_38.2.1) (tb_h hts tm_Natural_38.2.2.1) (tb_h hts tm_Natural_38.2.2.2) (Nat.le_of_ble_eq_true rfl) (Nat.le_of_ble_eq_true rfl) ⟨Nat.le_of_ble_eq_true rfl, Nat.le_of_ble_eq_true rfl⟩ (by omega) (by omega) d_Natural_plus_8 ?_
  refine wi_iconst (n := 1) hx hb d_Natural_plus_11 ?_
  refine wi_iadd hx hb d_Natural_plus_12 ?_
  refine wi_sipush hx hb d_Natural_plus_13 (by decide) ?_
  refine wi_mmin hx hb hown (hml.trans hl.1.symm) (tb_h hts tm_Natural_28.1) (tb_h hts tm_Natural_28.2.1) (tb_h hts tm_Natural_28.2.2.1) (tb_h hts tm_Natural_28.2.2.2) (Nat.le_of_ble_eq_true rfl) (Nat.le_of_ble_eq_true rfl) ⟨Nat.le_of_ble_eq_true rfl, Nat.le_of_ble_eq_true rfl⟩ (by omega) (by omega) d_Natural_plus_16 ?_
  refine lv_istore_n (lv' := [(2, .int (iI (min (max k k2 + 1) 224))), (0, .ref h), (1, .ref h2)]) hx hb d_Natural_plus_19 rfl hl (by decide) rfl (fun ls hl => ?_)
  refine wi_lconst (z := 0) hx hb d_Natural_plus_20 (by decide) ?_
  refine lv_lstore_n (lv' := [(3, .long (lI 0)), (2, .int (iI (min (max k k2 + 1) 224))), (0, .ref h), (1, .ref h2)]) hx hb d_Natural_plus_21 rfl hl (by decide) rfl (fun ls hl => ?_)
  refine wi_iconst (n := 0) hx hb d_Natural_plus_22 ?_
  refine lv_istore (lv' := [(5, .int (iI 0)), (3, .long (lI 0)), (2, .int (iI (min (max k k2 + 1) 224))), (0, .ref h), (1, .ref h2)]) hx hb d_Natural_plus_23 hl (by decide) rfl (fun ls hl => ?_)
  exact K_25 ((224 - 0 : Int).toNat + 1) 0 0 g (by omega) (CL_0 (Int.le_refl _)) (by omega) (by omega) _ _ _ (lv_sub hl [3, 4, 2, 1, 0] rfl) (hP.sub [0, 1, 2, 3] rfl) (hD.sub [0, 1, 2, 3] (by decide) rfl) hS
set_option maxHeartbeats 4000000 in
set_option maxRecDepth 100000 in
theorem c_Natural_takeFrom (l : Launch) (D : va_G) (E : EVt) (h : Nat) (a : Nat) (g : Int → Int) (k : Int) (h2 : Nat) (a2 : Nat) (g2 : Int → Int) (k2 : Int) (v : Int) (w : Int) (hN : NatOK g k v) (hM : NatOK g2 k2 w) (hle : v ≤ w) : CT l D classes (tyl E) (EVX E) y_Natural_takeFrom (Cond.code y_Natural_takeFrom b_Natural_takeFrom 6 none :: TB) (rmK 1 0 0 30) 0 0 [.ref h, .ref h2] [(h, .inr (0, [.ref a, .int (iI k)])), (a, .inl (E.1, 224, .inl (ia g))), (h2, .inr (0, [.ref a2, .int (iI k2)])), (a2, .inl (E.1, 224, .inl (ia g2)))] (S := (Int → Int) × Int) (fun u => [(h, .inr (0, [.ref a, .int (iI u.2)])), (a, .inl (E.1, 224, .inl (ia u.1))), (h2, .inr (0, [.ref a2, .int (iI k2)])), (a2, .inl (E.1, 224, .inl (ia g2)))]) (fun _ => none) (fun u => (NatOK u.1 u.2 (w - v))) := by
  refine CT.ofv (eok E) (by decide) rfl (Nat.le_of_ble_eq_true rfl) ?_
  intro p e s m args below meth c A Q ls B hmn hP hD hS hl ret
  have B : Bd l D classes (tyl E) (EVX E) p m c b_Natural_takeFrom 6 s args (Cond.code y_Natural_takeFrom b_Natural_takeFrom 6 none :: TB) R_Natural A := B
  obtain ⟨⟨hx, hb, hml, hown, hts⟩, hX, hK, hE, hA⟩ := id B
  have hl : lv_has ls 6 [(0, .ref h), (1, .ref h2)] := hl
  have hP : va_P D classes [(h, .inr (0, [.ref a, .int (iI k)])), (a, .inl (E.1, 224, .inl (ia g))), (h2, .inr (0, [.ref a2, .int (iI k2)])), (a2, .inl (E.1, 224, .inl (ia g2)))] s.heap := hP
  have hD : va_D A [(h, .inr (0, [.ref a, .int (iI k)])), (a, .inl (E.1, 224, .inl (ia g))), (h2, .inr (0, [.ref a2, .int (iI k2)])), (a2, .inl (E.1, 224, .inl (ia g2)))] := hD
  have hk := hN.k
  have hk2 := hM.k
  have K_16 : ∀ (fuel16 : Nat) (i : Int) (cy : Int) (g1 : Int → Int) (hi : 0 ≤ i ∧ i ≤ k2) (hC : CL g (fun j => lgx g2 k2 j - lgx g k j) 0 0 g1 i cy) (hcy : -1 ≤ cy ∧ cy ≤ 0) (hf16 : 224 - i < (fuel16 : Int)) (ls : Array Slot) (H : Heap) (locs : List Loc), lv_has ls 6 [(0, .ref h), (1, .ref h2), (2, .int (iI (min k2 224))), (3, .long (lI cy)), (5, .int (iI i))] → va_P D classes [(h, .inr (0, [.ref a, .int (iI k)])), (a, .inl (E.1, 224, .inl (ia g1))), (h2, .inr (0, [.ref a2, .int (iI k2)])), (a2, .inl (E.1, 224, .inl (ia g2)))] H → va_D A [(h, .inr (0, [.ref a, .int (iI k)])), (a, .inl (E.1, 224, .inl (ia g1))), (h2, .inr (0, [.ref a2, .int (iI k2)])), (a2, .inl (E.1, 224, .inl (ia g2)))] → va_S A s.heap H locs → W p l e (rmK 1 0 0 30) s m args below meth c H locs 0 0 Q (F0 m 16 ls []) := by
    intro fuel16
    induction fuel16 with
    | zero =>
      intro i cy g1 hi hC hcy hf16 ls H locs hl hP hD hS
      have := hM.k; exfalso; omega
    | succ fuel16 ih16 =>
      intro i cy g1 hi hC hcy hf16 ls H locs hl hP hD hS
      have hk := hN.k
      have hk2 := hM.k
      have hb2 := lgx_bd hM.2.1 i
      have hb1 := lgx_bd hN.2.1 i
      have hb3 := lgx_keep (k := k) (fun z => hC.2.1 i z (Or.inr (Int.le_refl _)))
      rw [← hb3] at hb1
      refine lv_iload hx hb d_Natural_takeFrom_16 (lv_at hl 4 rfl) ?_
      refine lv_iload_n hx hb d_Natural_takeFrom_18 rfl (lv_at hl 2 rfl) ?_
      refine wi_icmp_ge (tgt := 64) hx hb d_Natural_takeFrom_19 (by decide) (by omega) (by omega) (fun c_1 => ?_) (fun c_1 => ?_)
      · skip
        have hin : i = k2 := by omega
        rw [hin] at hC
        obtain ⟨hD9, hV9⟩ := take_val hN hM hle hC
        refine lv_aload_n hx hb d_Natural_takeFrom_64 rfl (lv_at hl 0 rfl) ?_
        refine lv_iload_n hx hb d_Natural_takeFrom_65 rfl (lv_at hl 2 rfl) ?_
        refine wk_callV (As := [.int (iI (min k2 224))]) (rest := []) (wr := [(h2, .inr (0, [.ref a2, .int (iI k2)])), (a2, .inl (E.1, 224, .inl (ia g2)))]) B gTB cl_Natural_41 (c_Natural_trim l D E h a g1 k (min k2 224) (by omega) (by rw [show min k2 224 = k2 by omega]; exact hD9)) ⟨⟨rfl, rfl⟩, Nat.le_of_ble_eq_true rfl, Nat.le_of_ble_eq_true rfl⟩ hP hD hS [0, 1] [2, 3] rfl rfl (by decide) 0 rfl rfl rfl ⟨hl.2.1, hl.1⟩ rfl (Nat.le_of_ble_eq_true rfl) d_Natural_takeFrom_66 ⟨Nat.le_of_ble_eq_true rfl, Nat.le_of_ble_eq_true rfl⟩ rfl (fun k2_2 H locs hw hP hD hS => ?_)
        have hP : va_P D classes [(h2, .inr (0, [.ref a2, .int (iI k2)])), (a2, .inl (E.1, 224, .inl (ia g2))), (h, .inr (0, [.ref a, .int (iI k2_2)])), (a, .inl (E.1, 224, .inl (ia g1)))] H := hP
        have hD : va_D A [(h2, .inr (0, [.ref a2, .int (iI k2)])), (a2, .inl (E.1, 224, .inl (ia g2))), (h, .inr (0, [.ref a, .int (iI k2_2)])), (a, .inl (E.1, 224, .inl (ia g1)))] := hD
        have hw : (NatOK g1 k2_2 (NV g1 (min k2 224))) := hw
        have hM_3 := hw
        refine W.cs (g := F0 m 69 ls []) (cells' := 0) (slots' := 0) rfl rfl ?_
        exact ret (g1, k2_2) _ _ _ _ d_Natural_takeFrom_69 (show (NatOK g1 k2_2 (w - v)) from (by rw [← hV9, show NV g1 k2 = NV g1 (min k2 224) by rw [show min k2 224 = k2 by omega]]; exact hM_3)) (hP.sub [2, 3, 0, 1] rfl) (hD.sub [2, 3, 0, 1] (by decide) rfl) hS
      · skip
        refine lv_lload_n hx hb d_Natural_takeFrom_22 rfl (lv_at hl 3 rfl) ?_
        refine lv_aload_n hx hb d_Natural_takeFrom_23 rfl (lv_at hl 1 rfl) ?_
        refine lv_iload hx hb d_Natural_takeFrom_24 (lv_at hl 4 rfl) ?_
        refine wk_callV (As := [.int (iI i)]) (rest := [.long (lI cy)]) (wr := [(h, .inr (0, [.ref a, .int (iI k)])), (a, .inl (E.1, 224, .inl (ia g1)))]) B gTB cl_Natural_21 (c_Natural_limb l D E h2 a2 g2 k2 i (hk2) (by omega)) ⟨⟨rfl, rfl⟩, Nat.le_of_ble_eq_true rfl, Nat.le_of_ble_eq_true rfl⟩ hP hD hS [2, 3] [0, 1] rfl rfl (by decide) 2 rfl rfl rfl ⟨hl.2.1, hl.1⟩ rfl (Nat.le_of_ble_eq_true rfl) d_Natural_takeFrom_26 ⟨Nat.le_of_ble_eq_true rfl, Nat.le_of_ble_eq_true rfl⟩ rfl (fun r_4 H locs hw hP hD hS => ?_)
        have hP : va_P D classes [(h, .inr (0, [.ref a, .int (iI k)])), (a, .inl (E.1, 224, .inl (ia g1))), (h2, .inr (0, [.ref a2, .int (iI k2)])), (a2, .inl (E.1, 224, .inl (ia g2)))] H := hP
        have hD : va_D A [(h, .inr (0, [.ref a, .int (iI k)])), (a, .inl (E.1, 224, .inl (ia g1))), (h2, .inr (0, [.ref a2, .int (iI k2)])), (a2, .inl (E.1, 224, .inl (ia g2)))] := hD
        have hw : (r_4 = lgx g2 k2 i) := hw
        have hr_5 := hw
        refine W.cs (g := F0 m 29 ls [.int (iI r_4), .long (lI cy)]) (cells' := 0) (slots' := 0) rfl rfl ?_
        subst hr_5
        refine wi_i2l hx hb (by omega) d_Natural_takeFrom_29 ?_
        refine lv_aload_n hx hb d_Natural_takeFrom_30 rfl (lv_at hl 0 rfl) ?_
        refine lv_iload hx hb d_Natural_takeFrom_31 (lv_at hl 4 rfl) ?_
        refine wk_callV (As := [.int (iI i)]) (rest := [.long (lI (lgx g2 k2 i)), .long (lI cy)]) (wr := [(h2, .inr (0, [.ref a2, .int (iI k2)])), (a2, .inl (E.1, 224, .inl (ia g2)))]) B gTB cl_Natural_21 (c_Natural_limb l D E h a g1 k i (hk) (by omega)) ⟨⟨rfl, rfl⟩, Nat.le_of_ble_eq_true rfl, Nat.le_of_ble_eq_true rfl⟩ hP hD hS [0, 1] [2, 3] rfl rfl (by decide) 0 rfl rfl rfl ⟨hl.2.1, hl.1⟩ rfl (Nat.le_of_ble_eq_true rfl) d_Natural_takeFrom_33 ⟨Nat.le_of_ble_eq_true rfl, Nat.le_of_ble_eq_true rfl⟩ rfl (fun r_6 H locs hw hP hD hS => ?_)
        have hP : va_P D classes [(h2, .inr (0, [.ref a2, .int (iI k2)])), (a2, .inl (E.1, 224, .inl (ia g2))), (h, .inr (0, [.ref a, .int (iI k)])), (a, .inl (E.1, 224, .inl (ia g1)))] H := hP
        have hD : va_D A [(h2, .inr (0, [.ref a2, .int (iI k2)])), (a2, .inl (E.1, 224, .inl (ia g2))), (h, .inr (0, [.ref a, .int (iI k)])), (a, .inl (E.1, 224, .inl (ia g1)))] := hD
        have hw : (r_6 = lgx g1 k i) := hw
        have hr_7 := hw
        refine W.cs (g := F0 m 36 ls [.int (iI r_6), .long (lI (lgx g2 k2 i)), .long (lI cy)]) (cells' := 0) (slots' := 0) rfl rfl ?_
        subst hr_7
        refine wi_i2l hx hb (by omega) d_Natural_takeFrom_36 ?_
        refine wi_lsub hx hb d_Natural_takeFrom_37 ?_
        refine wi_ladd hx hb d_Natural_takeFrom_38 ?_
        refine lv_lstore_n (lv' := [(3, .long (lI (cy + (lgx g2 k2 i - (lgx g1 k i))))), (0, .ref h), (1, .ref h2), (2, .int (iI (min k2 224))), (5, .int (iI i))]) hx hb d_Natural_takeFrom_39 rfl hl (by decide) rfl (fun ls hl => ?_)
        refine lv_aload_n hx hb d_Natural_takeFrom_40 rfl (lv_at hl 1 rfl) ?_
        refine wk_get B hP 2 rfl fl_Natural_9 (v := .ref a) rfl d_Natural_takeFrom_41 ?_
        refine lv_iload hx hb d_Natural_takeFrom_44 (lv_at hl 4 rfl) ?_
        refine lv_lload_n hx hb d_Natural_takeFrom_46 rfl (lv_at hl 0 rfl) ?_
        refine wi_ldc2 hx hb 1073741823 hown (tb_h hts tw_Natural_constantLong_19) (by decide) d_Natural_takeFrom_47 ?_
        refine wi_lmask hx hb 30 1073741824 (by decide +kernel) (by decide) (by decide) d_Natural_takeFrom_50 ?_
        refine wi_l2i hx hb d_Natural_takeFrom_51 ?_
        refine wi_iast hx hb hK hP hD hS 3 0 rfl rfl (by omega) (by omega) d_Natural_takeFrom_52 (fun H locs hP hD hS => ?_)
        have hP : va_P D classes [(h2, .inr (0, [.ref a2, .int (iI k2)])), (a2, .inl (E.1, 224, .inl (ia g2))), (h, .inr (0, [.ref a, .int (iI k)])), (a, .inl (E.1, 224, .inl (ia (upZ g1 i ((cy + (lgx g2 k2 i - (lgx g1 k i))) % 1073741824)))))] H := hP
        have hD : va_D A [(h2, .inr (0, [.ref a2, .int (iI k2)])), (a2, .inl (E.1, 224, .inl (ia g2))), (h, .inr (0, [.ref a, .int (iI k)])), (a, .inl (E.1, 224, .inl (ia (upZ g1 i ((cy + (lgx g2 k2 i - (lgx g1 k i))) % 1073741824)))))] := hD
        refine lv_lload_n hx hb d_Natural_takeFrom_53 rfl (lv_at hl 0 rfl) ?_
        refine wi_bipush hx hb d_Natural_takeFrom_54 (by decide) ?_
        refine wi_lshr hx hb 30 1073741824 (by decide +kernel) rfl (by decide) (by omega) d_Natural_takeFrom_56 ?_
        refine lv_lstore_n (lv' := [(3, .long (lI ((cy + (lgx g2 k2 i - (lgx g1 k i))) / 1073741824))), (0, .ref h), (1, .ref h2), (2, .int (iI (min k2 224))), (5, .int (iI i))]) hx hb d_Natural_takeFrom_57 rfl hl (by decide) rfl (fun ls hl => ?_)
        refine wi_iinc (v := i + 1) (lv' := [(5, .int (iI (i + 1))), (3, .long (lI ((cy + (lgx g2 k2 i - (lgx g1 k i))) / 1073741824))), (0, .ref h), (1, .ref h2), (2, .int (iI (min k2 224)))]) hx hb d_Natural_takeFrom_58 hl (k := 4) rfl rfl (by decide) rfl (fun ls hl => ?_)
        refine lv_goto (tgt := 16) hx hb d_Natural_takeFrom_61 (by decide) ?_
        exact ih16 (i + 1) ((cy + (lgx g2 k2 i - (lgx g1 k i))) / 1073741824) (upZ g1 i ((cy + (lgx g2 k2 i - (lgx g1 k i))) % 1073741824)) (by omega) (take_s hC) (by omega) (by omega) _ _ _ (lv_sub hl [2, 3, 4, 1, 0] rfl) (hP.sub [2, 3, 0, 1] rfl) (hD.sub [2, 3, 0, 1] (by decide) rfl) hS
  refine lv_aload_n hx hb d_Natural_takeFrom_0 rfl (lv_at hl 1 rfl) ?_
  refine wk_get B hP 2 rfl fl_Natural_15 (v := .int (iI k2)) rfl d_Natural_takeFrom_1 ?_
  refine wi_sipush hx hb d_Natural_takeFrom_4 (by decide) ?_
  refine wi_mmin hx hb hown (hml.trans hl.1.symm) (tb_h hts tm_Natural_28.1) (tb_h hts tm_Natural_28.2.1) (tb_h hts tm_Natural_28.2.2.1) (tb_h hts tm_Natural_28.2.2.2) (Nat.le_of_ble_eq_true rfl) (Nat.le_of_ble_eq_true rfl) ⟨Nat.le_of_ble_eq_true rfl, Nat.le_of_ble_eq_true rfl⟩ (by omega) (by omega) d_Natural_takeFrom_7 ?_
  refine lv_istore_n (lv' := [(2, .int (iI (min k2 224))), (0, .ref h), (1, .ref h2)]) hx hb d_Natural_takeFrom_10 rfl hl (by decide) rfl (fun ls hl => ?_)
  refine wi_lconst (z := 0) hx hb d_Natural_takeFrom_11 (by decide) ?_
  refine lv_lstore_n (lv' := [(3, .long (lI 0)), (2, .int (iI (min k2 224))), (0, .ref h), (1, .ref h2)]) hx hb d_Natural_takeFrom_12 rfl hl (by decide) rfl (fun ls hl => ?_)
  refine wi_iconst (n := 0) hx hb d_Natural_takeFrom_13 ?_
  refine lv_istore (lv' := [(5, .int (iI 0)), (3, .long (lI 0)), (2, .int (iI (min k2 224))), (0, .ref h), (1, .ref h2)]) hx hb d_Natural_takeFrom_14 hl (by decide) rfl (fun ls hl => ?_)
  exact K_16 ((224 - 0 : Int).toNat + 1) 0 0 g (by omega) (CL_0 (Int.le_refl _)) (by omega) (by omega) _ _ _ (lv_sub hl [3, 4, 2, 1, 0] rfl) (hP.sub [0, 1, 2, 3] rfl) (hD.sub [0, 1, 2, 3] (by decide) rfl) hS
set_option maxHeartbeats 4000000 in
set_option maxRecDepth 100000 in
theorem c_Natural_minusTimes (l : Launch) (D : va_G) (E : EVt) (h : Nat) (a : Nat) (g : Int → Int) (k : Int) (h2 : Nat) (a2 : Nat) (g2 : Int → Int) (k2 : Int) (t : Int) (up : Int) (v : Int) (w : Int) (hN : NatOK g k v) (hM : NatOK g2 k2 w) (ht : 0 ≤ t ∧ t ≤ 4294967296) (hup : 0 ≤ up ∧ up ≤ 224) (hle : t * w * PB up ≤ v) : CT l D classes (tyl E) (EVX E) y_Natural_minusTimes (Cond.code y_Natural_minusTimes b_Natural_minusTimes 8 none :: TB) (rmK 1 0 0 30) 0 0 [.ref h, .ref h2, .long (lI t), .int (iI up)] [(h, .inr (0, [.ref a, .int (iI k)])), (a, .inl (E.1, 224, .inl (ia g))), (h2, .inr (0, [.ref a2, .int (iI k2)])), (a2, .inl (E.1, 224, .inl (ia g2)))] (S := (Int → Int) × Int) (fun u => [(h, .inr (0, [.ref a, .int (iI u.2)])), (a, .inl (E.1, 224, .inl (ia u.1))), (h2, .inr (0, [.ref a2, .int (iI k2)])), (a2, .inl (E.1, 224, .inl (ia g2)))]) (fun _ => none) (fun u => (NatOK u.1 u.2 (v - t * w * PB up))) := by
  refine CT.ofv (eok E) (by decide) rfl (Nat.le_of_ble_eq_true rfl) ?_
  intro p e s m args below meth c A Q ls B hmn hP hD hS hl ret
  have B : Bd l D classes (tyl E) (EVX E) p m c b_Natural_minusTimes 8 s args (Cond.code y_Natural_minusTimes b_Natural_minusTimes 8 none :: TB) R_Natural A := B
  obtain ⟨⟨hx, hb, hml, hown, hts⟩, hX, hK, hE, hA⟩ := id B
  have hl : lv_has ls 8 [(0, .ref h), (1, .ref h2), (2, .long (lI t)), (4, .int (iI up))] := hl
  have hP : va_P D classes [(h, .inr (0, [.ref a, .int (iI k)])), (a, .inl (E.1, 224, .inl (ia g))), (h2, .inr (0, [.ref a2, .int (iI k2)])), (a2, .inl (E.1, 224, .inl (ia g2)))] s.heap := hP
  have hD : va_D A [(h, .inr (0, [.ref a, .int (iI k)])), (a, .inl (E.1, 224, .inl (ia g))), (h2, .inr (0, [.ref a2, .int (iI k2)])), (a2, .inl (E.1, 224, .inl (ia g2)))] := hD
  have hk := hN.k
  have hk2 := hM.k
  have K_11 : ∀ (fuel11 : Nat) (i : Int) (cy : Int) (g1 : Int → Int) (hi : up ≤ i ∧ (i ≤ k ∨ (i = up ∧ g1 = g))) (hC : CL g (fun j => g j - t * lgx g2 k2 (j - up)) up 0 g1 i cy) (hcy : -4294967296 ≤ cy ∧ cy ≤ 0) (hf11 : 448 - i < (fuel11 : Int)) (ls : Array Slot) (H : Heap) (locs : List Loc), lv_has ls 8 [(0, .ref h), (1, .ref h2), (2, .long (lI t)), (4, .int (iI up)), (5, .long (lI cy)), (7, .int (iI i))] → va_P D classes [(h, .inr (0, [.ref a, .int (iI k)])), (a, .inl (E.1, 224, .inl (ia g1))), (h2, .inr (0, [.ref a2, .int (iI k2)])), (a2, .inl (E.1, 224, .inl (ia g2)))] H → va_D A [(h, .inr (0, [.ref a, .int (iI k)])), (a, .inl (E.1, 224, .inl (ia g1))), (h2, .inr (0, [.ref a2, .int (iI k2)])), (a2, .inl (E.1, 224, .inl (ia g2)))] → va_S A s.heap H locs → W p l e (rmK 1 0 0 30) s m args below meth c H locs 0 0 Q (F0 m 11 ls []) := by
    intro fuel11
    induction fuel11 with
    | zero =>
      intro i cy g1 hi hC hcy hf11 ls H locs hl hP hD hS
      have := hN.k; exfalso; omega
    | succ fuel11 ih11 =>
      intro i cy g1 hi hC hcy hf11 ls H locs hl hP hD hS
      have hk := hN.k
      have hk2 := hM.k
      have hb2 := lgx_bd hM.2.1 (i - up)
      have hp1 := Int.mul_nonneg ht.1 hb2.1
      have hp2 : t * lgx g2 k2 (i - up) ≤ 4294967296 * 1073741823 := Int.mul_le_mul ht.2 (by omega) hb2.1 (by decide)
      have hg1 := hC.2.1 i (by omega) (Or.inr (Int.le_refl _))
      refine lv_iload hx hb d_Natural_minusTimes_11 (lv_at hl 5 rfl) ?_
      refine lv_aload_n hx hb d_Natural_minusTimes_13 rfl (lv_at hl 0 rfl) ?_
      refine wk_get B hP 0 rfl fl_Natural_15 (v := .int (iI k)) rfl d_Natural_minusTimes_14 ?_
      refine wi_icmp_ge (tgt := 81) hx hb d_Natural_minusTimes_17 (by decide) (by omega) (by omega) (fun c_1 => ?_) (fun c_1 => ?_)
      · skip
        have hV9 : Dg g1 k ∧ NV g1 k = v - t * w * PB up := by
          by_cases huk : up ≤ k
          · have hin : i = k := by omega
            subst hin
            exact mt_val hN hM ht.1 hup.1 hle huk hC
          · have hgg : g1 = g := (hi.2.resolve_left (by omega)).2
            rw [hgg, mt_none hN hM ht.1 hle (by omega), hN.2.2.2]; exact ⟨hN.2.1, rfl⟩
        refine lv_aload_n hx hb d_Natural_minusTimes_81 rfl (lv_at hl 0 rfl) ?_
        refine lv_aload_n hx hb d_Natural_minusTimes_82 rfl (lv_at hl 0 rfl) ?_
        refine wk_get B hP 0 rfl fl_Natural_15 (v := .int (iI k)) rfl d_Natural_minusTimes_83 ?_
        refine wk_callV (As := [.int (iI k)]) (rest := []) (wr := [(h2, .inr (0, [.ref a2, .int (iI k2)])), (a2, .inl (E.1, 224, .inl (ia g2)))]) B gTB cl_Natural_41 (c_Natural_trim l D E h a g1 k k (hk) (hV9.1)) ⟨⟨rfl, rfl⟩, Nat.le_of_ble_eq_true rfl, Nat.le_of_ble_eq_true rfl⟩ hP hD hS [0, 1] [2, 3] rfl rfl (by decide) 0 rfl rfl rfl ⟨hl.2.1, hl.1⟩ rfl (Nat.le_of_ble_eq_true rfl) d_Natural_minusTimes_86 ⟨Nat.le_of_ble_eq_true rfl, Nat.le_of_ble_eq_true rfl⟩ rfl (fun k2_2 H locs hw hP hD hS => ?_)
        have hP : va_P D classes [(h2, .inr (0, [.ref a2, .int (iI k2)])), (a2, .inl (E.1, 224, .inl (ia g2))), (h, .inr (0, [.ref a, .int (iI k2_2)])), (a, .inl (E.1, 224, .inl (ia g1)))] H := hP
        have hD : va_D A [(h2, .inr (0, [.ref a2, .int (iI k2)])), (a2, .inl (E.1, 224, .inl (ia g2))), (h, .inr (0, [.ref a, .int (iI k2_2)])), (a, .inl (E.1, 224, .inl (ia g1)))] := hD
        have hw : (NatOK g1 k2_2 (NV g1 k)) := hw
        have hM_3 := hw
        refine W.cs (g := F0 m 89 ls []) (cells' := 0) (slots' := 0) rfl rfl ?_
        exact ret (g1, k2_2) _ _ _ _ d_Natural_minusTimes_89 (show (NatOK g1 k2_2 (v - t * w * PB up)) from (by rw [← hV9.2]; exact hM_3)) (hP.sub [2, 3, 0, 1] rfl) (hD.sub [2, 3, 0, 1] (by decide) rfl) hS
      · skip
        refine lv_iload hx hb d_Natural_minusTimes_20 (lv_at hl 5 rfl) ?_
        refine wi_sipush hx hb d_Natural_minusTimes_22 (by decide) ?_
        refine wi_icmp_ge (tgt := 81) hx hb d_Natural_minusTimes_25 (by decide) (by omega) (by omega) (fun c_4 => by exfalso; omega) (fun c_4 => ?_)
        have hd1 := hN.2.1 i (by omega) (by omega)
        rw [← hg1] at hd1
        refine lv_lload hx hb d_Natural_minusTimes_28 (lv_at hl 4 rfl) ?_
        refine lv_aload_n hx hb d_Natural_minusTimes_30 rfl (lv_at hl 0 rfl) ?_
        refine wk_get B hP 0 rfl fl_Natural_9 (v := .ref a) rfl d_Natural_minusTimes_31 ?_
        refine lv_iload hx hb d_Natural_minusTimes_34 (lv_at hl 5 rfl) ?_
        refine wi_iald hx hb hK hP 1 0 rfl rfl (by omega) (by omega) d_Natural_minusTimes_36 ?_
        refine wi_i2l hx hb (by omega) d_Natural_minusTimes_37 ?_
        refine lv_lload_n hx hb d_Natural_minusTimes_38 rfl (lv_at hl 2 rfl) ?_
        refine lv_aload_n hx hb d_Natural_minusTimes_39 rfl (lv_at hl 1 rfl) ?_
        refine lv_iload hx hb d_Natural_minusTimes_40 (lv_at hl 5 rfl) ?_
        refine lv_iload hx hb d_Natural_minusTimes_42 (lv_at hl 3 rfl) ?_
        refine wi_isub hx hb d_Natural_minusTimes_44 ?_
        refine wk_callV (As := [.int (iI (i - up))]) (rest := [.long (lI t), .long (lI (g1 i)), .long (lI cy)]) (wr := [(h, .inr (0, [.ref a, .int (iI k)])), (a, .inl (E.1, 224, .inl (ia g1)))]) B gTB cl_Natural_21 (c_Natural_limb l D E h2 a2 g2 k2 (i - up) (hk2) (by omega)) ⟨⟨rfl, rfl⟩, Nat.le_of_ble_eq_true rfl, Nat.le_of_ble_eq_true rfl⟩ hP hD hS [2, 3] [0, 1] rfl rfl (by decide) 2 rfl rfl rfl ⟨hl.2.1, hl.1⟩ rfl (Nat.le_of_ble_eq_true rfl) d_Natural_minusTimes_45 ⟨Nat.le_of_ble_eq_true rfl, Nat.le_of_ble_eq_true rfl⟩ rfl (fun r_5 H locs hw hP hD hS => ?_)
        have hP : va_P D classes [(h, .inr (0, [.ref a, .int (iI k)])), (a, .inl (E.1, 224, .inl (ia g1))), (h2, .inr (0, [.ref a2, .int (iI k2)])), (a2, .inl (E.1, 224, .inl (ia g2)))] H := hP
        have hD : va_D A [(h, .inr (0, [.ref a, .int (iI k)])), (a, .inl (E.1, 224, .inl (ia g1))), (h2, .inr (0, [.ref a2, .int (iI k2)])), (a2, .inl (E.1, 224, .inl (ia g2)))] := hD
        have hw : (r_5 = lgx g2 k2 (i - up)) := hw
        have hr_6 := hw
        refine W.cs (g := F0 m 48 ls [.int (iI r_5), .long (lI t), .long (lI (g1 i)), .long (lI cy)]) (cells' := 0) (slots' := 0) rfl rfl ?_
        subst hr_6
        refine wi_i2l hx hb (by omega) d_Natural_minusTimes_48 ?_
        refine wi_lmul hx hb d_Natural_minusTimes_49 ?_
        refine wi_lsub hx hb d_Natural_minusTimes_50 ?_
        refine wi_ladd hx hb d_Natural_minusTimes_51 ?_
        refine lv_lstore (lv' := [(5, .long (lI (cy + (g1 i - (t * (lgx g2 k2 (i - up))))))), (0, .ref h), (1, .ref h2), (2, .long (lI t)), (4, .int (iI up)), (7, .int (iI i))]) hx hb d_Natural_minusTimes_52 hl (by decide) rfl (fun ls hl => ?_)
        refine lv_aload_n hx hb d_Natural_minusTimes_54 rfl (lv_at hl 1 rfl) ?_
        refine wk_get B hP 0 rfl fl_Natural_9 (v := .ref a) rfl d_Natural_minusTimes_55 ?_
        refine lv_iload hx hb d_Natural_minusTimes_58 (lv_at hl 5 rfl) ?_
        refine lv_lload hx hb d_Natural_minusTimes_60 (lv_at hl 0 rfl) ?_
        refine wi_ldc2 hx hb 1073741823 hown (tb_h hts tw_Natural_constantLong_19) (by decide) d_Natural_minusTimes_62 ?_
        refine wi_lmask hx hb 30 1073741824 (by decide +kernel) (by decide) (by decide) d_Natural_minusTimes_65 ?_
        refine wi_l2i hx hb d_Natural_minusTimes_66 ?_
        refine wi_iast hx hb hK hP hD hS 1 0 rfl rfl (by omega) (by omega) d_Natural_minusTimes_67 (fun H locs hP hD hS => ?_)
        have hP : va_P D classes [(h, .inr (0, [.ref a, .int (iI k)])), (a, .inl (E.1, 224, .inl (ia (upZ g1 i ((cy + (g1 i - (t * (lgx g2 k2 (i - up))))) % 1073741824))))), (h2, .inr (0, [.ref a2, .int (iI k2)])), (a2, .inl (E.1, 224, .inl (ia g2)))] H := hP
        have hD : va_D A [(h, .inr (0, [.ref a, .int (iI k)])), (a, .inl (E.1, 224, .inl (ia (upZ g1 i ((cy + (g1 i - (t * (lgx g2 k2 (i - up))))) % 1073741824))))), (h2, .inr (0, [.ref a2, .int (iI k2)])), (a2, .inl (E.1, 224, .inl (ia g2)))] := hD
        refine lv_lload hx hb d_Natural_minusTimes_68 (lv_at hl 0 rfl) ?_
        refine wi_bipush hx hb d_Natural_minusTimes_70 (by decide) ?_
        refine wi_lshr hx hb 30 1073741824 (by decide +kernel) rfl (by decide) (by omega) d_Natural_minusTimes_72 ?_
        refine lv_lstore (lv' := [(5, .long (lI ((cy + (g1 i - (t * (lgx g2 k2 (i - up))))) / 1073741824))), (0, .ref h), (1, .ref h2), (2, .long (lI t)), (4, .int (iI up)), (7, .int (iI i))]) hx hb d_Natural_minusTimes_73 hl (by decide) rfl (fun ls hl => ?_)
        refine wi_iinc (v := i + 1) (lv' := [(7, .int (iI (i + 1))), (5, .long (lI ((cy + (g1 i - (t * (lgx g2 k2 (i - up))))) / 1073741824))), (0, .ref h), (1, .ref h2), (2, .long (lI t)), (4, .int (iI up))]) hx hb d_Natural_minusTimes_75 hl (k := 5) rfl rfl (by decide) rfl (fun ls hl => ?_)
        refine lv_goto (tgt := 11) hx hb d_Natural_minusTimes_78 (by decide) ?_
        exact ih11 (i + 1) ((cy + (g1 i - (t * (lgx g2 k2 (i - up))))) / 1073741824) (upZ g1 i ((cy + (g1 i - (t * (lgx g2 k2 (i - up))))) % 1073741824)) (⟨by omega, Or.inl (by omega)⟩) (mt_s hC) (by omega) (by omega) _ _ _ (lv_sub hl [2, 3, 4, 5, 1, 0] rfl) (hP.sub [0, 1, 2, 3] rfl) (hD.sub [0, 1, 2, 3] (by decide) rfl) hS
  refine wi_lconst (z := 0) hx hb d_Natural_minusTimes_0 (by decide) ?_
  refine lv_lstore (lv' := [(5, .long (lI 0)), (0, .ref h), (1, .ref h2), (2, .long (lI t)), (4, .int (iI up))]) hx hb d_Natural_minusTimes_1 hl (by decide) rfl (fun ls hl => ?_)
  refine lv_iload hx hb d_Natural_minusTimes_3 (lv_at hl 4 rfl) ?_
  refine wi_iconst (n := 0) hx hb d_Natural_minusTimes_5 ?_
  refine wi_mmax hx hb hown (hml.trans hl.1.symm) (tb_h hts tm_Natural_38.1) (tb_h hts tm_Natural_38.2.1) (tb_h hts tm_Natural_38.2.2.1) (tb_h hts tm_Natural_38.2.2.2) (Nat.le_of_ble_eq_true rfl) (Nat.le_of_ble_eq_true rfl) ⟨Nat.le_of_ble_eq_true rfl, Nat.le_of_ble_eq_true rfl⟩ (by omega) (by omega) d_Natural_minusTimes_6 ?_
  refine lv_istore (lv' := [(7, .int (iI (max up 0))), (5, .long (lI 0)), (0, .ref h), (1, .ref h2), (2, .long (lI t)), (4, .int (iI up))]) hx hb d_Natural_minusTimes_9 hl (by decide) rfl (fun ls hl => ?_)
  exact K_11 ((448 - (max up 0) : Int).toNat + 1) (max up 0) 0 g (⟨by omega, Or.inr ⟨by omega, rfl⟩⟩) (by rw [show max up 0 = up by omega]; exact CL_0 hup.1) (by omega) (by omega) _ _ _ (lv_sub hl [2, 3, 4, 5, 1, 0] rfl) (hP.sub [0, 1, 2, 3] rfl) (hD.sub [0, 1, 2, 3] (by decide) rfl) hS
