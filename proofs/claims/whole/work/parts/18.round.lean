/-! Arithmetic.roundedSize, rounded -/
abbrev b_Arithmetic_roundedSize : ByteArray := prog_2_method_7_code
def y_Arithmetic_roundedSize : MethodName := ⟨"IntervalText$Arithmetic", "roundedSize", "(LIntervalText$Ratio;Z)J"⟩
abbrev b_Arithmetic_rounded : ByteArray := prog_2_method_6_code
def y_Arithmetic_rounded : MethodName := ⟨"IntervalText$Arithmetic", "rounded", "(LIntervalText$Ratio;Z)J"⟩
theorem d_Arithmetic_roundedSize_0 : decode b_Arithmetic_roundedSize 0 = .ok (.aload_n 1, 1) := by decide +kernel
theorem d_Arithmetic_roundedSize_1 : decode b_Arithmetic_roundedSize 1 = .ok (.getfield 39, 3) := by decide +kernel
theorem d_Arithmetic_roundedSize_4 : decode b_Arithmetic_roundedSize 4 = .ok (.invokevirtual 53, 3) := by decide +kernel
theorem d_Arithmetic_roundedSize_7 : decode b_Arithmetic_roundedSize 7 = .ok (.aload_n 1, 1) := by decide +kernel
theorem d_Arithmetic_roundedSize_8 : decode b_Arithmetic_roundedSize 8 = .ok (.getfield 42, 3) := by decide +kernel
theorem d_Arithmetic_roundedSize_11 : decode b_Arithmetic_roundedSize 11 = .ok (.invokevirtual 53, 3) := by decide +kernel
theorem d_Arithmetic_roundedSize_14 : decode b_Arithmetic_roundedSize 14 = .ok (.isub, 1) := by decide +kernel
theorem d_Arithmetic_roundedSize_15 : decode b_Arithmetic_roundedSize 15 = .ok (.aload_n 1, 1) := by decide +kernel
theorem d_Arithmetic_roundedSize_16 : decode b_Arithmetic_roundedSize 16 = .ok (.getfield 49, 3) := by decide +kernel
theorem d_Arithmetic_roundedSize_19 : decode b_Arithmetic_roundedSize 19 = .ok (.iadd, 1) := by decide +kernel
theorem d_Arithmetic_roundedSize_20 : decode b_Arithmetic_roundedSize 20 = .ok (.istore_n 3, 1) := by decide +kernel
theorem d_Arithmetic_roundedSize_21 : decode b_Arithmetic_roundedSize 21 = .ok (.iload_n 3, 1) := by decide +kernel
theorem d_Arithmetic_roundedSize_22 : decode b_Arithmetic_roundedSize 22 = .ok (.sipush 1025, 3) := by decide +kernel
theorem d_Arithmetic_roundedSize_25 : decode b_Arithmetic_roundedSize 25 = .ok (.if_icmp .le 17, 3) := by decide +kernel
theorem d_Arithmetic_roundedSize_28 : decode b_Arithmetic_roundedSize 28 = .ok (.iload_n 2, 1) := by decide +kernel
theorem d_Arithmetic_roundedSize_29 : decode b_Arithmetic_roundedSize 29 = .ok (.ifCond .eq 9, 3) := by decide +kernel
theorem d_Arithmetic_roundedSize_32 : decode b_Arithmetic_roundedSize 32 = .ok (.ldc2_w 91, 3) := by decide +kernel
theorem d_Arithmetic_roundedSize_35 : decode b_Arithmetic_roundedSize 35 = .ok (.goto 6, 3) := by decide +kernel
theorem d_Arithmetic_roundedSize_38 : decode b_Arithmetic_roundedSize 38 = .ok (.ldc2_w 93, 3) := by decide +kernel
theorem d_Arithmetic_roundedSize_41 : decode b_Arithmetic_roundedSize 41 = .ok (.lreturn, 1) := by decide +kernel
theorem d_Arithmetic_roundedSize_42 : decode b_Arithmetic_roundedSize 42 = .ok (.iload_n 3, 1) := by decide +kernel
theorem d_Arithmetic_roundedSize_43 : decode b_Arithmetic_roundedSize 43 = .ok (.sipush (-1075), 3) := by decide +kernel
theorem d_Arithmetic_roundedSize_46 : decode b_Arithmetic_roundedSize 46 = .ok (.if_icmp .ge 13, 3) := by decide +kernel
theorem d_Arithmetic_roundedSize_49 : decode b_Arithmetic_roundedSize 49 = .ok (.iload_n 2, 1) := by decide +kernel
theorem d_Arithmetic_roundedSize_50 : decode b_Arithmetic_roundedSize 50 = .ok (.ifCond .eq 7, 3) := by decide +kernel
theorem d_Arithmetic_roundedSize_53 : decode b_Arithmetic_roundedSize 53 = .ok (.lconst 1, 1) := by decide +kernel
theorem d_Arithmetic_roundedSize_54 : decode b_Arithmetic_roundedSize 54 = .ok (.goto 4, 3) := by decide +kernel
theorem d_Arithmetic_roundedSize_57 : decode b_Arithmetic_roundedSize 57 = .ok (.lconst 0, 1) := by decide +kernel
theorem d_Arithmetic_roundedSize_58 : decode b_Arithmetic_roundedSize 58 = .ok (.lreturn, 1) := by decide +kernel
theorem d_Arithmetic_roundedSize_59 : decode b_Arithmetic_roundedSize 59 = .ok (.iload_n 3, 1) := by decide +kernel
theorem d_Arithmetic_roundedSize_60 : decode b_Arithmetic_roundedSize 60 = .ok (.bipush 52, 2) := by decide +kernel
theorem d_Arithmetic_roundedSize_62 : decode b_Arithmetic_roundedSize 62 = .ok (.isub, 1) := by decide +kernel
theorem d_Arithmetic_roundedSize_63 : decode b_Arithmetic_roundedSize 63 = .ok (.iconst 1, 1) := by decide +kernel
theorem d_Arithmetic_roundedSize_64 : decode b_Arithmetic_roundedSize 64 = .ok (.isub, 1) := by decide +kernel
theorem d_Arithmetic_roundedSize_65 : decode b_Arithmetic_roundedSize 65 = .ok (.sipush (-1074), 3) := by decide +kernel
theorem d_Arithmetic_roundedSize_68 : decode b_Arithmetic_roundedSize 68 = .ok (.invokestatic 95, 3) := by decide +kernel
theorem d_Arithmetic_roundedSize_71 : decode b_Arithmetic_roundedSize 71 = .ok (.istore 4, 2) := by decide +kernel
theorem d_Arithmetic_roundedSize_73 : decode b_Arithmetic_roundedSize 73 = .ok (.aload_n 0, 1) := by decide +kernel
theorem d_Arithmetic_roundedSize_74 : decode b_Arithmetic_roundedSize 74 = .ok (.aload_n 1, 1) := by decide +kernel
theorem d_Arithmetic_roundedSize_75 : decode b_Arithmetic_roundedSize 75 = .ok (.iload 4, 2) := by decide +kernel
theorem d_Arithmetic_roundedSize_77 : decode b_Arithmetic_roundedSize 77 = .ok (.invokevirtual 101, 3) := by decide +kernel
theorem d_Arithmetic_roundedSize_80 : decode b_Arithmetic_roundedSize 80 = .ok (.aload_n 0, 1) := by decide +kernel
theorem d_Arithmetic_roundedSize_81 : decode b_Arithmetic_roundedSize 81 = .ok (.getfield 21, 3) := by decide +kernel
theorem d_Arithmetic_roundedSize_84 : decode b_Arithmetic_roundedSize 84 = .ok (.lstore 5, 2) := by decide +kernel
theorem d_Arithmetic_roundedSize_86 : decode b_Arithmetic_roundedSize 86 = .ok (.lload 5, 2) := by decide +kernel
theorem d_Arithmetic_roundedSize_88 : decode b_Arithmetic_roundedSize 88 = .ok (.ldc2_w 105, 3) := by decide +kernel
theorem d_Arithmetic_roundedSize_91 : decode b_Arithmetic_roundedSize 91 = .ok (.lcmp, 1) := by decide +kernel
theorem d_Arithmetic_roundedSize_92 : decode b_Arithmetic_roundedSize 92 = .ok (.ifCond .lt 37, 3) := by decide +kernel
theorem d_Arithmetic_roundedSize_95 : decode b_Arithmetic_roundedSize 95 = .ok (.aload_n 0, 1) := by decide +kernel
theorem d_Arithmetic_roundedSize_96 : decode b_Arithmetic_roundedSize 96 = .ok (.aload_n 0, 1) := by decide +kernel
theorem d_Arithmetic_roundedSize_97 : decode b_Arithmetic_roundedSize 97 = .ok (.getfield 25, 3) := by decide +kernel
theorem d_Arithmetic_roundedSize_100 : decode b_Arithmetic_roundedSize 100 = .ok (.ifCond .ne 12, 3) := by decide +kernel
theorem d_Arithmetic_roundedSize_103 : decode b_Arithmetic_roundedSize 103 = .ok (.lload 5, 2) := by decide +kernel
theorem d_Arithmetic_roundedSize_105 : decode b_Arithmetic_roundedSize 105 = .ok (.lconst 1, 1) := by decide +kernel
theorem d_Arithmetic_roundedSize_106 : decode b_Arithmetic_roundedSize 106 = .ok (.land, 1) := by decide +kernel
theorem d_Arithmetic_roundedSize_107 : decode b_Arithmetic_roundedSize 107 = .ok (.lconst 0, 1) := by decide +kernel
theorem d_Arithmetic_roundedSize_108 : decode b_Arithmetic_roundedSize 108 = .ok (.lcmp, 1) := by decide +kernel
theorem d_Arithmetic_roundedSize_109 : decode b_Arithmetic_roundedSize 109 = .ok (.ifCond .eq 7, 3) := by decide +kernel
theorem d_Arithmetic_roundedSize_112 : decode b_Arithmetic_roundedSize 112 = .ok (.iconst 1, 1) := by decide +kernel
theorem d_Arithmetic_roundedSize_113 : decode b_Arithmetic_roundedSize 113 = .ok (.goto 4, 3) := by decide +kernel
theorem d_Arithmetic_roundedSize_116 : decode b_Arithmetic_roundedSize 116 = .ok (.iconst 0, 1) := by decide +kernel
theorem d_Arithmetic_roundedSize_117 : decode b_Arithmetic_roundedSize 117 = .ok (.putfield 25, 3) := by decide +kernel
theorem d_Arithmetic_roundedSize_120 : decode b_Arithmetic_roundedSize 120 = .ok (.lload 5, 2) := by decide +kernel
theorem d_Arithmetic_roundedSize_122 : decode b_Arithmetic_roundedSize 122 = .ok (.iconst 1, 1) := by decide +kernel
theorem d_Arithmetic_roundedSize_123 : decode b_Arithmetic_roundedSize 123 = .ok (.lshr, 1) := by decide +kernel
theorem d_Arithmetic_roundedSize_124 : decode b_Arithmetic_roundedSize 124 = .ok (.lstore 5, 2) := by decide +kernel
theorem d_Arithmetic_roundedSize_126 : decode b_Arithmetic_roundedSize 126 = .ok (.iinc 4 1, 3) := by decide +kernel
theorem d_Arithmetic_roundedSize_129 : decode b_Arithmetic_roundedSize 129 = .ok (.iload 4, 2) := by decide +kernel
theorem d_Arithmetic_roundedSize_131 : decode b_Arithmetic_roundedSize 131 = .ok (.sipush 971, 3) := by decide +kernel
theorem d_Arithmetic_roundedSize_134 : decode b_Arithmetic_roundedSize 134 = .ok (.if_icmp .le 17, 3) := by decide +kernel
theorem d_Arithmetic_roundedSize_137 : decode b_Arithmetic_roundedSize 137 = .ok (.iload_n 2, 1) := by decide +kernel
theorem d_Arithmetic_roundedSize_138 : decode b_Arithmetic_roundedSize 138 = .ok (.ifCond .eq 9, 3) := by decide +kernel
theorem d_Arithmetic_roundedSize_141 : decode b_Arithmetic_roundedSize 141 = .ok (.ldc2_w 91, 3) := by decide +kernel
theorem d_Arithmetic_roundedSize_144 : decode b_Arithmetic_roundedSize 144 = .ok (.goto 6, 3) := by decide +kernel
theorem d_Arithmetic_roundedSize_147 : decode b_Arithmetic_roundedSize 147 = .ok (.ldc2_w 93, 3) := by decide +kernel
theorem d_Arithmetic_roundedSize_150 : decode b_Arithmetic_roundedSize 150 = .ok (.lreturn, 1) := by decide +kernel
theorem d_Arithmetic_roundedSize_151 : decode b_Arithmetic_roundedSize 151 = .ok (.iload 4, 2) := by decide +kernel
theorem d_Arithmetic_roundedSize_153 : decode b_Arithmetic_roundedSize 153 = .ok (.sipush (-1074), 3) := by decide +kernel
theorem d_Arithmetic_roundedSize_156 : decode b_Arithmetic_roundedSize 156 = .ok (.isub, 1) := by decide +kernel
theorem d_Arithmetic_roundedSize_157 : decode b_Arithmetic_roundedSize 157 = .ok (.i2l, 1) := by decide +kernel
theorem d_Arithmetic_roundedSize_158 : decode b_Arithmetic_roundedSize 158 = .ok (.bipush 52, 2) := by decide +kernel
theorem d_Arithmetic_roundedSize_160 : decode b_Arithmetic_roundedSize 160 = .ok (.lshl, 1) := by decide +kernel
theorem d_Arithmetic_roundedSize_161 : decode b_Arithmetic_roundedSize 161 = .ok (.lload 5, 2) := by decide +kernel
theorem d_Arithmetic_roundedSize_163 : decode b_Arithmetic_roundedSize 163 = .ok (.ladd, 1) := by decide +kernel
theorem d_Arithmetic_roundedSize_164 : decode b_Arithmetic_roundedSize 164 = .ok (.aload_n 0, 1) := by decide +kernel
theorem d_Arithmetic_roundedSize_165 : decode b_Arithmetic_roundedSize 165 = .ok (.getfield 25, 3) := by decide +kernel
theorem d_Arithmetic_roundedSize_168 : decode b_Arithmetic_roundedSize 168 = .ok (.ifCond .eq 11, 3) := by decide +kernel
theorem d_Arithmetic_roundedSize_171 : decode b_Arithmetic_roundedSize 171 = .ok (.iload_n 2, 1) := by decide +kernel
theorem d_Arithmetic_roundedSize_172 : decode b_Arithmetic_roundedSize 172 = .ok (.ifCond .eq 7, 3) := by decide +kernel
theorem d_Arithmetic_roundedSize_175 : decode b_Arithmetic_roundedSize 175 = .ok (.iconst 1, 1) := by decide +kernel
theorem d_Arithmetic_roundedSize_176 : decode b_Arithmetic_roundedSize 176 = .ok (.goto 4, 3) := by decide +kernel
theorem d_Arithmetic_roundedSize_179 : decode b_Arithmetic_roundedSize 179 = .ok (.iconst 0, 1) := by decide +kernel
theorem d_Arithmetic_roundedSize_180 : decode b_Arithmetic_roundedSize 180 = .ok (.i2l, 1) := by decide +kernel
theorem d_Arithmetic_roundedSize_181 : decode b_Arithmetic_roundedSize 181 = .ok (.ladd, 1) := by decide +kernel
theorem d_Arithmetic_roundedSize_182 : decode b_Arithmetic_roundedSize 182 = .ok (.lreturn, 1) := by decide +kernel
theorem d_Arithmetic_rounded_0 : decode b_Arithmetic_rounded 0 = .ok (.aload_n 1, 1) := by decide +kernel
theorem d_Arithmetic_rounded_1 : decode b_Arithmetic_rounded 1 = .ok (.invokevirtual 29, 3) := by decide +kernel
theorem d_Arithmetic_rounded_4 : decode b_Arithmetic_rounded 4 = .ok (.ifCond .ne 5, 3) := by decide +kernel
theorem d_Arithmetic_rounded_7 : decode b_Arithmetic_rounded 7 = .ok (.lconst 0, 1) := by decide +kernel
theorem d_Arithmetic_rounded_8 : decode b_Arithmetic_rounded 8 = .ok (.lreturn, 1) := by decide +kernel
theorem d_Arithmetic_rounded_9 : decode b_Arithmetic_rounded 9 = .ok (.aload_n 0, 1) := by decide +kernel
theorem d_Arithmetic_rounded_10 : decode b_Arithmetic_rounded 10 = .ok (.aload_n 1, 1) := by decide +kernel
theorem d_Arithmetic_rounded_11 : decode b_Arithmetic_rounded 11 = .ok (.iload_n 2, 1) := by decide +kernel
theorem d_Arithmetic_rounded_12 : decode b_Arithmetic_rounded 12 = .ok (.aload_n 1, 1) := by decide +kernel
theorem d_Arithmetic_rounded_13 : decode b_Arithmetic_rounded 13 = .ok (.getfield 82, 3) := by decide +kernel
theorem d_Arithmetic_rounded_16 : decode b_Arithmetic_rounded 16 = .ok (.if_icmp .eq 7, 3) := by decide +kernel
theorem d_Arithmetic_rounded_19 : decode b_Arithmetic_rounded 19 = .ok (.iconst 1, 1) := by decide +kernel
theorem d_Arithmetic_rounded_20 : decode b_Arithmetic_rounded 20 = .ok (.goto 4, 3) := by decide +kernel
theorem d_Arithmetic_rounded_23 : decode b_Arithmetic_rounded 23 = .ok (.iconst 0, 1) := by decide +kernel
theorem d_Arithmetic_rounded_24 : decode b_Arithmetic_rounded 24 = .ok (.invokevirtual 85, 3) := by decide +kernel
theorem d_Arithmetic_rounded_27 : decode b_Arithmetic_rounded 27 = .ok (.lstore_n 3, 1) := by decide +kernel
theorem d_Arithmetic_rounded_28 : decode b_Arithmetic_rounded 28 = .ok (.aload_n 1, 1) := by decide +kernel
theorem d_Arithmetic_rounded_29 : decode b_Arithmetic_rounded 29 = .ok (.getfield 82, 3) := by decide +kernel
theorem d_Arithmetic_rounded_32 : decode b_Arithmetic_rounded 32 = .ok (.ifCond .eq 17, 3) := by decide +kernel
theorem d_Arithmetic_rounded_35 : decode b_Arithmetic_rounded 35 = .ok (.lload_n 3, 1) := by decide +kernel
theorem d_Arithmetic_rounded_36 : decode b_Arithmetic_rounded 36 = .ok (.lconst 0, 1) := by decide +kernel
theorem d_Arithmetic_rounded_37 : decode b_Arithmetic_rounded 37 = .ok (.lcmp, 1) := by decide +kernel
theorem d_Arithmetic_rounded_38 : decode b_Arithmetic_rounded 38 = .ok (.ifCond .eq 11, 3) := by decide +kernel
theorem d_Arithmetic_rounded_41 : decode b_Arithmetic_rounded 41 = .ok (.lload_n 3, 1) := by decide +kernel
theorem d_Arithmetic_rounded_42 : decode b_Arithmetic_rounded 42 = .ok (.ldc2_w 89, 3) := by decide +kernel
theorem d_Arithmetic_rounded_45 : decode b_Arithmetic_rounded 45 = .ok (.lor, 1) := by decide +kernel
theorem d_Arithmetic_rounded_46 : decode b_Arithmetic_rounded 46 = .ok (.goto 4, 3) := by decide +kernel
theorem d_Arithmetic_rounded_49 : decode b_Arithmetic_rounded 49 = .ok (.lload_n 3, 1) := by decide +kernel
theorem d_Arithmetic_rounded_50 : decode b_Arithmetic_rounded 50 = .ok (.lreturn, 1) := by decide +kernel
theorem fl_Arithmetic_82 : FLink TB classes "IntervalText$Arithmetic" 82 R_Ratio F_Ratio 4 1 2 := ⟨rfl, by decide, i_Ratio, tb_t (List.mem_append_left _ (List.mem_of_getElem? (l := tables_1_1) (i := 106) rfl)) rfl⟩
theorem tm_Arithmetic_95 : Cond.methodLink "IntervalText$Arithmetic" 95 Lib.Math.max.name ∈ TB ∧ Cond.static Lib.Math.max.name ∈ TB ∧ Cond.initialized "java/lang/Math" ∈ TB ∧ Cond.code Lib.Math.max.name Lib.Math.max.code 2 (some .int) ∈ TB := ⟨tb_t (List.mem_append_right _ (List.mem_append_left _ (List.mem_of_getElem? (l := tables_1_2) (i := 224) rfl))) rfl, tb_t (List.mem_append_right _ (List.mem_append_left _ (List.mem_of_getElem? (l := tables_1_2) (i := 186) rfl))) rfl, tb_t (List.mem_append_left _ (List.mem_of_getElem? (l := tables_1_1) (i := 15) rfl)) rfl, tb_t (List.mem_append_right _ (List.mem_append_left _ (List.mem_of_getElem? (l := tables_1_2) (i := 187) rfl))) rfl⟩
theorem tw_Arithmetic_constantLong_89 : Cond.constantLong "IntervalText$Arithmetic" 89 (-9223372036854775808 : Int64) ∈ TB := tb_t (List.mem_append_right _ (List.mem_append_left _ (List.mem_of_getElem? (l := tables_1_2) (i := 237) rfl))) rfl
theorem tw_Arithmetic_constantLong_91 : Cond.constantLong "IntervalText$Arithmetic" 91 (9218868437227405312 : Int64) ∈ TB := tb_t (List.mem_append_right _ (List.mem_append_left _ (List.mem_of_getElem? (l := tables_1_2) (i := 222) rfl))) rfl
theorem tw_Arithmetic_constantLong_93 : Cond.constantLong "IntervalText$Arithmetic" 93 (9218868437227405311 : Int64) ∈ TB := tb_t (List.mem_append_right _ (List.mem_append_left _ (List.mem_of_getElem? (l := tables_1_2) (i := 223) rfl))) rfl
theorem tw_Arithmetic_constantLong_105 : Cond.constantLong "IntervalText$Arithmetic" 105 (9007199254740992 : Int64) ∈ TB := tb_t (List.mem_append_right _ (List.mem_append_left _ (List.mem_of_getElem? (l := tables_1_2) (i := 236) rfl))) rfl
theorem cl_Arithmetic_85 : CLinkV TB "IntervalText$Arithmetic" 85 "IntervalText$Arithmetic" y_Arithmetic_roundedSize b_Arithmetic_roundedSize 7 (some .long) 2 := ⟨⟨tb_t (List.mem_append_right _ (List.mem_append_left _ (List.mem_of_getElem? (l := tables_1_2) (i := 218) rfl))) rfl, tb_t (List.mem_append_left _ (List.mem_of_getElem? (l := tables_1_1) (i := 3) rfl)) rfl, tb_t (List.mem_append_right _ (List.mem_append_left _ (List.mem_of_getElem? (l := tables_1_2) (i := 221) rfl))) rfl, by decide +kernel, by decide +kernel, by decide +kernel⟩, tb_t (List.mem_append_right _ (List.mem_append_left _ (List.mem_of_getElem? (l := tables_1_2) (i := 220) rfl))) rfl, tb_p 13 rfl⟩
theorem cl_Arithmetic_101 : CLinkV TB "IntervalText$Arithmetic" 101 "IntervalText$Arithmetic" y_Arithmetic_divide b_Arithmetic_divide 12 none 2 := ⟨⟨tb_t (List.mem_append_right _ (List.mem_append_left _ (List.mem_of_getElem? (l := tables_1_2) (i := 225) rfl))) rfl, tb_t (List.mem_append_left _ (List.mem_of_getElem? (l := tables_1_1) (i := 3) rfl)) rfl, tb_t (List.mem_append_right _ (List.mem_append_left _ (List.mem_of_getElem? (l := tables_1_2) (i := 228) rfl))) rfl, by decide +kernel, by decide +kernel, by decide +kernel⟩, tb_t (List.mem_append_right _ (List.mem_append_left _ (List.mem_of_getElem? (l := tables_1_2) (i := 226) rfl))) rfl, tb_t (List.mem_append_right _ (List.mem_append_left _ (List.mem_of_getElem? (l := tables_1_2) (i := 227) rfl))) rfl⟩
set_option maxHeartbeats 4000000 in
set_option maxRecDepth 100000 in
theorem c_Arithmetic_roundedSize (l : Launch) (D : va_G) (E : EVt) (h : Nat) (ln : Nat) (la : Nat) (rn : Nat) (ra : Nat) (lg : Int → Int) (rg : Int → Int) (lk : Int) (rk : Int) (quo : Int) (inx : Bool) (h1 : Nat) (tn1 : Nat) (ta1 : Nat) (bn1 : Nat) (ba1 : Nat) (tg1 : Int → Int) (bg1 : Int → Int) (tk1 : Int) (bk1 : Int) (pw1 : Int) (neg1 : Bool) (aw : Bool) (v : Int) (b : Int) (hT : NatOK tg1 tk1 v) (hB : NatOK bg1 bk1 b) (hb0 : 0 < b) (hp1 : -100000 ≤ pw1 ∧ pw1 ≤ 100000) (hvb : v < P2 6600) (hbb : b < P2 6600) (hv0 : 0 < v) : CT l D classes (tyl E) (EVX E) y_Arithmetic_roundedSize (Cond.code y_Arithmetic_roundedSize b_Arithmetic_roundedSize 7 (some .long) :: TB) (rmK 4 0 0 110) 0 0 [.ref h, .ref h1, .int (bI aw)] [(h, .inr (2, [.ref ln, .ref rn, .long (lI quo), .int (bI inx)])), (ln, .inr (0, [.ref la, .int (iI lk)])), (la, .inl (E.1, 224, .inl (ia lg))), (rn, .inr (0, [.ref ra, .int (iI rk)])), (ra, .inl (E.1, 224, .inl (ia rg))), (h1, .inr (1, [.ref tn1, .ref bn1, .int (bI neg1), .int (iI pw1)])), (tn1, .inr (0, [.ref ta1, .int (iI tk1)])), (ta1, .inl (E.1, 224, .inl (ia tg1))), (bn1, .inr (0, [.ref ba1, .int (iI bk1)])), (ba1, .inl (E.1, 224, .inl (ia bg1)))] (S := (Int → Int) × (Int → Int) × Int × Int × Int × Bool × Int) (fun u => [(h, .inr (2, [.ref ln, .ref rn, .long (lI u.2.2.2.2.1), .int (bI u.2.2.2.2.2.1)])), (ln, .inr (0, [.ref la, .int (iI u.2.2.1)])), (la, .inl (E.1, 224, .inl (ia u.1))), (rn, .inr (0, [.ref ra, .int (iI u.2.2.2.1)])), (ra, .inl (E.1, 224, .inl (ia u.2.1))), (h1, .inr (1, [.ref tn1, .ref bn1, .int (bI neg1), .int (iI pw1)])), (tn1, .inr (0, [.ref ta1, .int (iI tk1)])), (ta1, .inl (E.1, 224, .inl (ia tg1))), (bn1, .inr (0, [.ref ba1, .int (iI bk1)])), (ba1, .inl (E.1, 224, .inl (ia bg1)))]) (fun u => some (.long (lI u.2.2.2.2.2.2))) (fun u => (RSZ aw u.2.2.2.2.2.2 v b pw1)) := by
  refine CT.ofl (fv := fun (u : (Int → Int) × (Int → Int) × Int × Int × Int × Bool × Int) => u.2.2.2.2.2.2) (eok E) (by decide) rfl (Nat.le_of_ble_eq_true rfl) ?_
  intro p e s m args below meth c A Q ls B hmn hP hD hS hl ret
  have B : Bd l D classes (tyl E) (EVX E) p m c b_Arithmetic_roundedSize 7 s args (Cond.code y_Arithmetic_roundedSize b_Arithmetic_roundedSize 7 (some .long) :: TB) R_Arithmetic A := B
  obtain ⟨⟨hx, hb, hml, hown, hts⟩, hX, hK, hE, hA⟩ := id B
  have hl : lv_has ls 7 [(0, .ref h), (1, .ref h1), (2, .int (bI aw))] := hl
  have hP : va_P D classes [(h, .inr (2, [.ref ln, .ref rn, .long (lI quo), .int (bI inx)])), (ln, .inr (0, [.ref la, .int (iI lk)])), (la, .inl (E.1, 224, .inl (ia lg))), (rn, .inr (0, [.ref ra, .int (iI rk)])), (ra, .inl (E.1, 224, .inl (ia rg))), (h1, .inr (1, [.ref tn1, .ref bn1, .int (bI neg1), .int (iI pw1)])), (tn1, .inr (0, [.ref ta1, .int (iI tk1)])), (ta1, .inl (E.1, 224, .inl (ia tg1))), (bn1, .inr (0, [.ref ba1, .int (iI bk1)])), (ba1, .inl (E.1, 224, .inl (ia bg1)))] s.heap := hP
  have hD : va_D A [(h, .inr (2, [.ref ln, .ref rn, .long (lI quo), .int (bI inx)])), (ln, .inr (0, [.ref la, .int (iI lk)])), (la, .inl (E.1, 224, .inl (ia lg))), (rn, .inr (0, [.ref ra, .int (iI rk)])), (ra, .inl (E.1, 224, .inl (ia rg))), (h1, .inr (1, [.ref tn1, .ref bn1, .int (bI neg1), .int (iI pw1)])), (tn1, .inr (0, [.ref ta1, .int (iI tk1)])), (ta1, .inl (E.1, 224, .inl (ia tg1))), (bn1, .inr (0, [.ref ba1, .int (iI bk1)])), (ba1, .inl (E.1, 224, .inl (ia bg1)))] := hD
  have K_129 : ∀ (w : Int) (u : Int) (q4 : Int) (in4 : Bool) (lg4 : Int → Int) (rg4 : Int → Int) (lk4 : Int) (rk4 : Int) (hRSI : RSI v b pw1 w u in4) (ls : Array Slot) (H : Heap) (locs : List Loc), lv_has ls 7 [(0, .ref h), (1, .ref h1), (2, .int (bI aw)), (4, .int (iI u)), (5, .long (lI w))] → va_P D classes [(h, .inr (2, [.ref ln, .ref rn, .long (lI q4), .int (bI in4)])), (ln, .inr (0, [.ref la, .int (iI lk4)])), (la, .inl (E.1, 224, .inl (ia lg4))), (rn, .inr (0, [.ref ra, .int (iI rk4)])), (ra, .inl (E.1, 224, .inl (ia rg4))), (h1, .inr (1, [.ref tn1, .ref bn1, .int (bI neg1), .int (iI pw1)])), (tn1, .inr (0, [.ref ta1, .int (iI tk1)])), (ta1, .inl (E.1, 224, .inl (ia tg1))), (bn1, .inr (0, [.ref ba1, .int (iI bk1)])), (ba1, .inl (E.1, 224, .inl (ia bg1)))] H → va_D A [(h, .inr (2, [.ref ln, .ref rn, .long (lI q4), .int (bI in4)])), (ln, .inr (0, [.ref la, .int (iI lk4)])), (la, .inl (E.1, 224, .inl (ia lg4))), (rn, .inr (0, [.ref ra, .int (iI rk4)])), (ra, .inl (E.1, 224, .inl (ia rg4))), (h1, .inr (1, [.ref tn1, .ref bn1, .int (bI neg1), .int (iI pw1)])), (tn1, .inr (0, [.ref ta1, .int (iI tk1)])), (ta1, .inl (E.1, 224, .inl (ia tg1))), (bn1, .inr (0, [.ref ba1, .int (iI bk1)])), (ba1, .inl (E.1, 224, .inl (ia bg1)))] → va_S A s.heap H locs → W p l e (rmK 4 0 0 110) s m args below meth c H locs 0 0 Q (F0 m 129 ls []) := by
    intro w u q4 in4 lg4 rg4 lk4 rk4 hRSI ls H locs hl hP hD hS
    have hu4 := hRSI.2.2.2
    have hw4 := hRSI.2.2.1
    refine lv_iload hx hb d_Arithmetic_roundedSize_129 (lv_at hl 3 rfl) ?_
    refine wi_sipush hx hb d_Arithmetic_roundedSize_131 (by decide) ?_
    refine wi_icmp_le (tgt := 151) hx hb d_Arithmetic_roundedSize_134 (by decide) (by omega) (by omega) (fun c_1 => ?_) (fun c_1 => ?_)
    · skip
      refine lv_iload hx hb d_Arithmetic_roundedSize_151 (lv_at hl 3 rfl) ?_
      refine wi_sipush hx hb d_Arithmetic_roundedSize_153 (by decide) ?_
      refine wi_isub hx hb d_Arithmetic_roundedSize_156 ?_
      refine wi_i2l hx hb (by omega) d_Arithmetic_roundedSize_157 ?_
      refine wi_bipush hx hb d_Arithmetic_roundedSize_158 (by decide) ?_
      refine wi_lshl hx hb 52 4503599627370496 (by decide +kernel) rfl (by decide) d_Arithmetic_roundedSize_160 ?_
      refine lv_lload hx hb d_Arithmetic_roundedSize_161 (lv_at hl 4 rfl) ?_
      refine wi_ladd hx hb d_Arithmetic_roundedSize_163 ?_
      refine lv_aload_n hx hb d_Arithmetic_roundedSize_164 rfl (lv_at hl 0 rfl) ?_
      refine wk_get B hP 0 rfl fl_Arithmetic_25 (v := .int (bI in4)) rfl d_Arithmetic_roundedSize_165 ?_
      refine wb_if_eq (tgt := 179) hx hb d_Arithmetic_roundedSize_168 (by decide) (fun c_2 => ?_) (fun c_2 => ?_)
      · skip
        refine wi_iconst (n := 0) hx hb d_Arithmetic_roundedSize_179 ?_
        refine wi_i2l hx hb (by omega) d_Arithmetic_roundedSize_180 ?_
        refine wi_ladd hx hb d_Arithmetic_roundedSize_181 ?_
        exact ret (lg4, rg4, lk4, rk4, q4, in4, (u - (-1074)) * 4503599627370496 + w + 0) _ _ _ _ d_Arithmetic_roundedSize_182 (show (RSZ aw ((u - (-1074)) * 4503599627370496 + w + 0) v b pw1) from (RSZ_fin hRSI hv0 hb0 (by omega) (by first | (rw [c_2, c_3]; rfl) | (rw [c_2]; rfl)))) (hP.sub [0, 1, 2, 3, 4, 5, 6, 7, 8, 9] rfl) (hD.sub [0, 1, 2, 3, 4, 5, 6, 7, 8, 9] (by decide) rfl) hS
      · skip
        refine lv_iload_n hx hb d_Arithmetic_roundedSize_171 rfl (lv_at hl 2 rfl) ?_
        refine wb_if_eq (tgt := 179) hx hb d_Arithmetic_roundedSize_172 (by decide) (fun c_3 => ?_) (fun c_3 => ?_)
        · skip
          refine wi_iconst (n := 0) hx hb d_Arithmetic_roundedSize_179 ?_
          refine wi_i2l hx hb (by omega) d_Arithmetic_roundedSize_180 ?_
          refine wi_ladd hx hb d_Arithmetic_roundedSize_181 ?_
          exact ret (lg4, rg4, lk4, rk4, q4, in4, (u - (-1074)) * 4503599627370496 + w + 0) _ _ _ _ d_Arithmetic_roundedSize_182 (show (RSZ aw ((u - (-1074)) * 4503599627370496 + w + 0) v b pw1) from (RSZ_fin hRSI hv0 hb0 (by omega) (by first | (rw [c_2, c_3]; rfl) | (rw [c_2]; rfl)))) (hP.sub [0, 1, 2, 3, 4, 5, 6, 7, 8, 9] rfl) (hD.sub [0, 1, 2, 3, 4, 5, 6, 7, 8, 9] (by decide) rfl) hS
        · skip
          refine wi_iconst (n := 1) hx hb d_Arithmetic_roundedSize_175 ?_
          refine lv_goto (tgt := 180) hx hb d_Arithmetic_roundedSize_176 (by decide) ?_
          refine wi_i2l hx hb (by omega) d_Arithmetic_roundedSize_180 ?_
          refine wi_ladd hx hb d_Arithmetic_roundedSize_181 ?_
          exact ret (lg4, rg4, lk4, rk4, q4, in4, (u - (-1074)) * 4503599627370496 + w + 1) _ _ _ _ d_Arithmetic_roundedSize_182 (show (RSZ aw ((u - (-1074)) * 4503599627370496 + w + 1) v b pw1) from (RSZ_fin hRSI hv0 hb0 (by omega) (by first | (rw [c_2, c_3]; rfl) | (rw [c_2]; rfl)))) (hP.sub [0, 1, 2, 3, 4, 5, 6, 7, 8, 9] rfl) (hD.sub [0, 1, 2, 3, 4, 5, 6, 7, 8, 9] (by decide) rfl) hS
    · skip
      refine lv_iload_n hx hb d_Arithmetic_roundedSize_137 rfl (lv_at hl 2 rfl) ?_
      refine wb_if_eq (tgt := 147) hx hb d_Arithmetic_roundedSize_138 (by decide) (fun c_4 => ?_) (fun c_4 => ?_)
      · skip
        refine wi_ldc2 hx hb 9218868437227405311 hown (tb_h hts tw_Arithmetic_constantLong_93) (by decide) d_Arithmetic_roundedSize_147 ?_
        exact ret (lg4, rg4, lk4, rk4, q4, in4, 9218868437227405311) _ _ _ _ d_Arithmetic_roundedSize_150 (show (RSZ aw 9218868437227405311 v b pw1) from (RSZ_f c_4 (RSI_over hRSI hb0 (by omega)).1)) (hP.sub [0, 1, 2, 3, 4, 5, 6, 7, 8, 9] rfl) (hD.sub [0, 1, 2, 3, 4, 5, 6, 7, 8, 9] (by decide) rfl) hS
      · skip
        refine wi_ldc2 hx hb 9218868437227405312 hown (tb_h hts tw_Arithmetic_constantLong_91) (by decide) d_Arithmetic_roundedSize_141 ?_
        refine lv_goto (tgt := 150) hx hb d_Arithmetic_roundedSize_144 (by decide) ?_
        exact ret (lg4, rg4, lk4, rk4, q4, in4, 9218868437227405312) _ _ _ _ d_Arithmetic_roundedSize_150 (show (RSZ aw 9218868437227405312 v b pw1) from (RSZ_t c_4 (RSI_over hRSI hb0 (by omega)).2)) (hP.sub [0, 1, 2, 3, 4, 5, 6, 7, 8, 9] rfl) (hD.sub [0, 1, 2, 3, 4, 5, 6, 7, 8, 9] (by decide) rfl) hS
  refine lv_aload_n hx hb d_Arithmetic_roundedSize_0 rfl (lv_at hl 1 rfl) ?_
  refine wk_get B hP 5 rfl fl_Arithmetic_39 (v := .ref tn1) rfl d_Arithmetic_roundedSize_1 ?_
  refine wk_callV (As := []) (rest := []) (wr := [(h, .inr (2, [.ref ln, .ref rn, .long (lI quo), .int (bI inx)])), (ln, .inr (0, [.ref la, .int (iI lk)])), (la, .inl (E.1, 224, .inl (ia lg))), (rn, .inr (0, [.ref ra, .int (iI rk)])), (ra, .inl (E.1, 224, .inl (ia rg))), (h1, .inr (1, [.ref tn1, .ref bn1, .int (bI neg1), .int (iI pw1)])), (bn1, .inr (0, [.ref ba1, .int (iI bk1)])), (ba1, .inl (E.1, 224, .inl (ia bg1)))]) B gTB cl_Arithmetic_53 (c_Natural_bits l D E tn1 ta1 tg1 tk1 v (hT)) ⟨⟨rfl, rfl⟩, Nat.le_of_ble_eq_true rfl, Nat.le_of_ble_eq_true rfl⟩ hP hD hS [6, 7] [0, 1, 2, 3, 4, 5, 8, 9] rfl rfl (by decide) 6 rfl rfl rfl ⟨hl.2.1, hl.1⟩ rfl (Nat.le_of_ble_eq_true rfl) d_Arithmetic_roundedSize_4 ⟨Nat.le_of_ble_eq_true rfl, Nat.le_of_ble_eq_true rfl⟩ rfl (fun r1 H locs hw hP hD hS => ?_)
  have hP : va_P D classes [(h, .inr (2, [.ref ln, .ref rn, .long (lI quo), .int (bI inx)])), (ln, .inr (0, [.ref la, .int (iI lk)])), (la, .inl (E.1, 224, .inl (ia lg))), (rn, .inr (0, [.ref ra, .int (iI rk)])), (ra, .inl (E.1, 224, .inl (ia rg))), (h1, .inr (1, [.ref tn1, .ref bn1, .int (bI neg1), .int (iI pw1)])), (bn1, .inr (0, [.ref ba1, .int (iI bk1)])), (ba1, .inl (E.1, 224, .inl (ia bg1))), (tn1, .inr (0, [.ref ta1, .int (iI tk1)])), (ta1, .inl (E.1, 224, .inl (ia tg1)))] H := hP
  have hD : va_D A [(h, .inr (2, [.ref ln, .ref rn, .long (lI quo), .int (bI inx)])), (ln, .inr (0, [.ref la, .int (iI lk)])), (la, .inl (E.1, 224, .inl (ia lg))), (rn, .inr (0, [.ref ra, .int (iI rk)])), (ra, .inl (E.1, 224, .inl (ia rg))), (h1, .inr (1, [.ref tn1, .ref bn1, .int (bI neg1), .int (iI pw1)])), (bn1, .inr (0, [.ref ba1, .int (iI bk1)])), (ba1, .inl (E.1, 224, .inl (ia bg1))), (tn1, .inr (0, [.ref ta1, .int (iI tk1)])), (ta1, .inl (E.1, 224, .inl (ia tg1)))] := hD
  have hw : (BL v r1) ∧ (0 ≤ r1 ∧ r1 ≤ 6720) := hw
  obtain ⟨hr1, hr10⟩ := hw
  refine W.cs (g := F0 m 7 ls [.int (iI r1)]) (cells' := 0) (slots' := 0) rfl rfl ?_
  refine lv_aload_n hx hb d_Arithmetic_roundedSize_7 rfl (lv_at hl 1 rfl) ?_
  refine wk_get B hP 5 rfl fl_Arithmetic_42 (v := .ref bn1) rfl d_Arithmetic_roundedSize_8 ?_
  refine wk_callV (As := []) (rest := [.int (iI r1)]) (wr := [(h, .inr (2, [.ref ln, .ref rn, .long (lI quo), .int (bI inx)])), (ln, .inr (0, [.ref la, .int (iI lk)])), (la, .inl (E.1, 224, .inl (ia lg))), (rn, .inr (0, [.ref ra, .int (iI rk)])), (ra, .inl (E.1, 224, .inl (ia rg))), (h1, .inr (1, [.ref tn1, .ref bn1, .int (bI neg1), .int (iI pw1)])), (tn1, .inr (0, [.ref ta1, .int (iI tk1)])), (ta1, .inl (E.1, 224, .inl (ia tg1)))]) B gTB cl_Arithmetic_53 (c_Natural_bits l D E bn1 ba1 bg1 bk1 b (hB)) ⟨⟨rfl, rfl⟩, Nat.le_of_ble_eq_true rfl, Nat.le_of_ble_eq_true rfl⟩ hP hD hS [6, 7] [0, 1, 2, 3, 4, 5, 8, 9] rfl rfl (by decide) 6 rfl rfl rfl ⟨hl.2.1, hl.1⟩ rfl (Nat.le_of_ble_eq_true rfl) d_Arithmetic_roundedSize_11 ⟨Nat.le_of_ble_eq_true rfl, Nat.le_of_ble_eq_true rfl⟩ rfl (fun r2 H locs hw hP hD hS => ?_)
  have hP : va_P D classes [(h, .inr (2, [.ref ln, .ref rn, .long (lI quo), .int (bI inx)])), (ln, .inr (0, [.ref la, .int (iI lk)])), (la, .inl (E.1, 224, .inl (ia lg))), (rn, .inr (0, [.ref ra, .int (iI rk)])), (ra, .inl (E.1, 224, .inl (ia rg))), (h1, .inr (1, [.ref tn1, .ref bn1, .int (bI neg1), .int (iI pw1)])), (tn1, .inr (0, [.ref ta1, .int (iI tk1)])), (ta1, .inl (E.1, 224, .inl (ia tg1))), (bn1, .inr (0, [.ref ba1, .int (iI bk1)])), (ba1, .inl (E.1, 224, .inl (ia bg1)))] H := hP
  have hD : va_D A [(h, .inr (2, [.ref ln, .ref rn, .long (lI quo), .int (bI inx)])), (ln, .inr (0, [.ref la, .int (iI lk)])), (la, .inl (E.1, 224, .inl (ia lg))), (rn, .inr (0, [.ref ra, .int (iI rk)])), (ra, .inl (E.1, 224, .inl (ia rg))), (h1, .inr (1, [.ref tn1, .ref bn1, .int (bI neg1), .int (iI pw1)])), (tn1, .inr (0, [.ref ta1, .int (iI tk1)])), (ta1, .inl (E.1, 224, .inl (ia tg1))), (bn1, .inr (0, [.ref ba1, .int (iI bk1)])), (ba1, .inl (E.1, 224, .inl (ia bg1)))] := hD
  have hw : (BL b r2) ∧ (0 ≤ r2 ∧ r2 ≤ 6720) := hw
  obtain ⟨hr2, hr20⟩ := hw
  refine W.cs (g := F0 m 14 ls [.int (iI r2), .int (iI r1)]) (cells' := 0) (slots' := 0) rfl rfl ?_
  refine wi_isub hx hb d_Arithmetic_roundedSize_14 ?_
  refine lv_aload_n hx hb d_Arithmetic_roundedSize_15 rfl (lv_at hl 1 rfl) ?_
  refine wk_get B hP 5 rfl fl_Arithmetic_49 (v := .int (iI pw1)) rfl d_Arithmetic_roundedSize_16 ?_
  refine wi_iadd hx hb d_Arithmetic_roundedSize_19 ?_
  refine lv_istore_n (lv' := [(3, .int (iI (r1 - r2 + pw1))), (0, .ref h), (1, .ref h1), (2, .int (bI aw))]) hx hb d_Arithmetic_roundedSize_20 rfl hl (by decide) rfl (fun ls hl => ?_)
  refine lv_iload_n hx hb d_Arithmetic_roundedSize_21 rfl (lv_at hl 0 rfl) ?_
  refine wi_sipush hx hb d_Arithmetic_roundedSize_22 (by decide) ?_
  refine wi_icmp_le (tgt := 42) hx hb d_Arithmetic_roundedSize_25 (by decide) (by omega) (by omega) (fun c_5 => ?_) (fun c_5 => ?_)
  · skip
    refine lv_iload_n hx hb d_Arithmetic_roundedSize_42 rfl (lv_at hl 0 rfl) ?_
    refine wi_sipush hx hb d_Arithmetic_roundedSize_43 (by decide) ?_
    refine wi_icmp_ge (tgt := 59) hx hb d_Arithmetic_roundedSize_46 (by decide) (by omega) (by omega) (fun c_6 => ?_) (fun c_6 => ?_)
    · skip
      refine lv_iload_n hx hb d_Arithmetic_roundedSize_59 rfl (lv_at hl 0 rfl) ?_
      refine wi_bipush hx hb d_Arithmetic_roundedSize_60 (by decide) ?_
      refine wi_isub hx hb d_Arithmetic_roundedSize_62 ?_
      refine wi_iconst (n := 1) hx hb d_Arithmetic_roundedSize_63 ?_
      refine wi_isub hx hb d_Arithmetic_roundedSize_64 ?_
      refine wi_sipush hx hb d_Arithmetic_roundedSize_65 (by decide) ?_
      obtain ⟨u0, hu0⟩ : ∃ z, z = max (r1 - r2 + pw1 - 52 - 1) (-1074) := ⟨_, rfl⟩
      have hla := BL_le hr1 hv0 hvb
      have hlb := BL_le hr2 hb0 hbb
      obtain ⟨n1, n2, n3, n4⟩ := rs_unit hv0 hb0 hr1 hr2 hla hlb (by omega) hu0
      refine wi_mmax hx hb hown (hml.trans hl.1.symm) (tb_h hts tm_Arithmetic_95.1) (tb_h hts tm_Arithmetic_95.2.1) (tb_h hts tm_Arithmetic_95.2.2.1) (tb_h hts tm_Arithmetic_95.2.2.2) (Nat.le_of_ble_eq_true rfl) (Nat.le_of_ble_eq_true rfl) ⟨Nat.le_of_ble_eq_true rfl, Nat.le_of_ble_eq_true rfl⟩ (by omega) (by omega) d_Arithmetic_roundedSize_68 ?_
      refine w_eqi (y := u0) (hu0.symm) ?_
      refine W.eq (g2 := F0 m 71 ls [.int (iI u0)]) rfl ?_
      refine lv_istore (lv' := [(4, .int (iI u0)), (3, .int (iI (r1 - r2 + pw1))), (0, .ref h), (1, .ref h1), (2, .int (bI aw))]) hx hb d_Arithmetic_roundedSize_71 hl (by decide) rfl (fun ls hl => ?_)
      refine lv_aload_n hx hb d_Arithmetic_roundedSize_73 rfl (lv_at hl 2 rfl) ?_
      refine lv_aload_n hx hb d_Arithmetic_roundedSize_74 rfl (lv_at hl 3 rfl) ?_
      refine lv_iload hx hb d_Arithmetic_roundedSize_75 (lv_at hl 0 rfl) ?_
      refine wk_callV (As := [.ref h1, .int (iI u0)]) (rest := []) (wr := []) B gTB cl_Arithmetic_101 (c_Arithmetic_divide l D E h ln la rn ra lg rg lk rk quo inx h1 tn1 ta1 bn1 ba1 tg1 bg1 tk1 bk1 pw1 neg1 u0 v b (hT) (hB) (by omega) (by omega) (by omega) (n1) (n2) (by have := Int.mul_pos hb0 (P2_pos (u0 - pw1)); omega)) ⟨⟨rfl, rfl⟩, Nat.le_of_ble_eq_true rfl, Nat.le_of_ble_eq_true rfl⟩ hP hD hS [0, 1, 2, 3, 4, 5, 6, 7, 8, 9] [] rfl rfl (by decide) 0 rfl rfl rfl ⟨hl.2.1, hl.1⟩ rfl (Nat.le_of_ble_eq_true rfl) d_Arithmetic_roundedSize_77 ⟨Nat.le_of_ble_eq_true rfl, Nat.le_of_ble_eq_true rfl⟩ rfl (fun u H locs hw hP hD hS => ?_)
      obtain ⟨lg3_7, rg3_8, lk3_9, rk3_10, q3, in3⟩ := u
      have hP : va_P D classes [(h, .inr (2, [.ref ln, .ref rn, .long (lI q3), .int (bI in3)])), (ln, .inr (0, [.ref la, .int (iI lk3_9)])), (la, .inl (E.1, 224, .inl (ia lg3_7))), (rn, .inr (0, [.ref ra, .int (iI rk3_10)])), (ra, .inl (E.1, 224, .inl (ia rg3_8))), (h1, .inr (1, [.ref tn1, .ref bn1, .int (bI neg1), .int (iI pw1)])), (tn1, .inr (0, [.ref ta1, .int (iI tk1)])), (ta1, .inl (E.1, 224, .inl (ia tg1))), (bn1, .inr (0, [.ref ba1, .int (iI bk1)])), (ba1, .inl (E.1, 224, .inl (ia bg1)))] H := hP
      have hD : va_D A [(h, .inr (2, [.ref ln, .ref rn, .long (lI q3), .int (bI in3)])), (ln, .inr (0, [.ref la, .int (iI lk3_9)])), (la, .inl (E.1, 224, .inl (ia lg3_7))), (rn, .inr (0, [.ref ra, .int (iI rk3_10)])), (ra, .inl (E.1, 224, .inl (ia rg3_8))), (h1, .inr (1, [.ref tn1, .ref bn1, .int (bI neg1), .int (iI pw1)])), (tn1, .inr (0, [.ref ta1, .int (iI tk1)])), (ta1, .inl (E.1, 224, .inl (ia tg1))), (bn1, .inr (0, [.ref ba1, .int (iI bk1)])), (ba1, .inl (E.1, 224, .inl (ia bg1)))] := hD
      have hw : (q3 = v * P2 (pw1 - u0) / (b * P2 (u0 - pw1))) ∧ (in3 = true ↔ v * P2 (pw1 - u0) % (b * P2 (u0 - pw1)) ≠ 0) := hw
      obtain ⟨hq3, hi3⟩ := hw
      refine W.cs (g := F0 m 80 ls []) (cells' := 0) (slots' := 0) rfl rfl ?_
      have hR0 : 0 < b * P2 (u0 - pw1) := Int.mul_pos hb0 (P2_pos _)
      have hwr := rs_w hR0 (Int.mul_nonneg (by omega) (by have := P2_pos (pw1 - u0); omega)) hq3 n3
      refine lv_aload_n hx hb d_Arithmetic_roundedSize_80 rfl (lv_at hl 2 rfl) ?_
      refine wk_get B hP 0 rfl fl_Arithmetic_21 (v := .long (lI q3)) rfl d_Arithmetic_roundedSize_81 ?_
      refine lv_lstore (lv' := [(5, .long (lI q3)), (4, .int (iI u0)), (3, .int (iI (r1 - r2 + pw1))), (0, .ref h), (1, .ref h1), (2, .int (bI aw))]) hx hb d_Arithmetic_roundedSize_84 hl (by decide) rfl (fun ls hl => ?_)
      refine lv_lload hx hb d_Arithmetic_roundedSize_86 (lv_at hl 0 rfl) ?_
      refine wi_ldc2 hx hb 9007199254740992 hown (tb_h hts tw_Arithmetic_constantLong_105) (by decide) d_Arithmetic_roundedSize_88 ?_
      refine wi_lcmp hx hb (by omega) (by omega) d_Arithmetic_roundedSize_91 ?_
      refine wi_if_lt (tgt := 129) hx hb d_Arithmetic_roundedSize_92 (by decide) (by have := cmpZ_rng q3 9007199254740992; omega) (fun c_11 => ?_) (fun c_11 => ?_)
      · skip
        have c_11 := cmpZ_lt.mp c_11
        exact K_129 q3 u0 q3 in3 lg3_7 rg3_8 lk3_9 rk3_10 (RSI_of hb0 hv0 (by omega) hq3 hi3 n4 (by omega)) _ _ _ (lv_sub hl [3, 4, 5, 1, 0] rfl) (hP.sub [0, 1, 2, 3, 4, 5, 6, 7, 8, 9] rfl) (hD.sub [0, 1, 2, 3, 4, 5, 6, 7, 8, 9] (by decide) rfl) hS
      · skip
        have c_11 := cmpZ_ge.mp c_11
        refine lv_aload_n hx hb d_Arithmetic_roundedSize_95 rfl (lv_at hl 3 rfl) ?_
        refine lv_aload_n hx hb d_Arithmetic_roundedSize_96 rfl (lv_at hl 3 rfl) ?_
        refine wk_get B hP 0 rfl fl_Arithmetic_25 (v := .int (bI in3)) rfl d_Arithmetic_roundedSize_97 ?_
        refine wb_if_ne (tgt := 112) hx hb d_Arithmetic_roundedSize_100 (by decide) (fun c_12 => ?_) (fun c_12 => ?_)
        · skip
          refine wi_iconst (n := 1) hx hb d_Arithmetic_roundedSize_112 ?_
          refine lv_goto (tgt := 117) hx hb d_Arithmetic_roundedSize_113 (by decide) ?_
          refine w_as1 ?_
          refine wk_put B hP hD hS 0 rfl fl_Arithmetic_25 fp_Arithmetic_3 (v := .int (bI true)) (bI_nar _) (bI_fit _) (Nat.le_of_ble_eq_true rfl) d_Arithmetic_roundedSize_117 (fun H locs hP hD hS => ?_)
          have hP : va_P D classes [(h, .inr (2, [.ref ln, .ref rn, .long (lI q3), .int (bI true)])), (ln, .inr (0, [.ref la, .int (iI lk3_9)])), (la, .inl (E.1, 224, .inl (ia lg3_7))), (rn, .inr (0, [.ref ra, .int (iI rk3_10)])), (ra, .inl (E.1, 224, .inl (ia rg3_8))), (h1, .inr (1, [.ref tn1, .ref bn1, .int (bI neg1), .int (iI pw1)])), (tn1, .inr (0, [.ref ta1, .int (iI tk1)])), (ta1, .inl (E.1, 224, .inl (ia tg1))), (bn1, .inr (0, [.ref ba1, .int (iI bk1)])), (ba1, .inl (E.1, 224, .inl (ia bg1)))] H := hP
          have hD : va_D A [(h, .inr (2, [.ref ln, .ref rn, .long (lI q3), .int (bI true)])), (ln, .inr (0, [.ref la, .int (iI lk3_9)])), (la, .inl (E.1, 224, .inl (ia lg3_7))), (rn, .inr (0, [.ref ra, .int (iI rk3_10)])), (ra, .inl (E.1, 224, .inl (ia rg3_8))), (h1, .inr (1, [.ref tn1, .ref bn1, .int (bI neg1), .int (iI pw1)])), (tn1, .inr (0, [.ref ta1, .int (iI tk1)])), (ta1, .inl (E.1, 224, .inl (ia tg1))), (bn1, .inr (0, [.ref ba1, .int (iI bk1)])), (ba1, .inl (E.1, 224, .inl (ia bg1)))] := hD
          refine lv_lload hx hb d_Arithmetic_roundedSize_120 (lv_at hl 0 rfl) ?_
          refine wi_iconst (n := 1) hx hb d_Arithmetic_roundedSize_122 ?_
          refine wi_lshr hx hb 1 2 (by decide +kernel) rfl (by decide) (by omega) d_Arithmetic_roundedSize_123 ?_
          refine lv_lstore (lv' := [(5, .long (lI (q3 / 2))), (4, .int (iI u0)), (3, .int (iI (r1 - r2 + pw1))), (0, .ref h), (1, .ref h1), (2, .int (bI aw))]) hx hb d_Arithmetic_roundedSize_124 hl (by decide) rfl (fun ls hl => ?_)
          refine wi_iinc (v := u0 + 1) (lv' := [(4, .int (iI (u0 + 1))), (5, .long (lI (q3 / 2))), (3, .int (iI (r1 - r2 + pw1))), (0, .ref h), (1, .ref h1), (2, .int (bI aw))]) hx hb d_Arithmetic_roundedSize_126 hl (k := 1) rfl rfl (by decide) rfl (fun ls hl => ?_)
          exact K_129 (q3 / 2) (u0 + 1) q3 true lg3_7 rg3_8 lk3_9 rk3_10 (RSI_of2 hb0 (by omega) hq3 hi3 (by omega) (by first | exact RSI_ja c_12 | exact RSI_jb c_13 | exact RSI_jc c_12 c_13)) _ _ _ (lv_sub hl [3, 4, 5, 0, 1] rfl) (hP.sub [0, 1, 2, 3, 4, 5, 6, 7, 8, 9] rfl) (hD.sub [0, 1, 2, 3, 4, 5, 6, 7, 8, 9] (by decide) rfl) hS
        · skip
          refine lv_lload hx hb d_Arithmetic_roundedSize_103 (lv_at hl 0 rfl) ?_
          refine wi_lconst (z := 1) hx hb d_Arithmetic_roundedSize_105 (by decide) ?_
          refine wi_lmask hx hb 1 2 (by decide +kernel) (by decide) (by decide) d_Arithmetic_roundedSize_106 ?_
          refine wi_lconst (z := 0) hx hb d_Arithmetic_roundedSize_107 (by decide) ?_
          refine wi_lcmp hx hb (by omega) (by omega) d_Arithmetic_roundedSize_108 ?_
          refine wi_if_eq (tgt := 116) hx hb d_Arithmetic_roundedSize_109 (by decide) (by have := cmpZ_rng (q3 % 2) 0; omega) (fun c_13 => ?_) (fun c_13 => ?_)
          · skip
            have c_13 := cmpZ_eq.mp c_13
            refine wi_iconst (n := 0) hx hb d_Arithmetic_roundedSize_116 ?_
            refine w_as0 ?_
            refine wk_put B hP hD hS 0 rfl fl_Arithmetic_25 fp_Arithmetic_3 (v := .int (bI false)) (bI_nar _) (bI_fit _) (Nat.le_of_ble_eq_true rfl) d_Arithmetic_roundedSize_117 (fun H locs hP hD hS => ?_)
            have hP : va_P D classes [(h, .inr (2, [.ref ln, .ref rn, .long (lI q3), .int (bI false)])), (ln, .inr (0, [.ref la, .int (iI lk3_9)])), (la, .inl (E.1, 224, .inl (ia lg3_7))), (rn, .inr (0, [.ref ra, .int (iI rk3_10)])), (ra, .inl (E.1, 224, .inl (ia rg3_8))), (h1, .inr (1, [.ref tn1, .ref bn1, .int (bI neg1), .int (iI pw1)])), (tn1, .inr (0, [.ref ta1, .int (iI tk1)])), (ta1, .inl (E.1, 224, .inl (ia tg1))), (bn1, .inr (0, [.ref ba1, .int (iI bk1)])), (ba1, .inl (E.1, 224, .inl (ia bg1)))] H := hP
            have hD : va_D A [(h, .inr (2, [.ref ln, .ref rn, .long (lI q3), .int (bI false)])), (ln, .inr (0, [.ref la, .int (iI lk3_9)])), (la, .inl (E.1, 224, .inl (ia lg3_7))), (rn, .inr (0, [.ref ra, .int (iI rk3_10)])), (ra, .inl (E.1, 224, .inl (ia rg3_8))), (h1, .inr (1, [.ref tn1, .ref bn1, .int (bI neg1), .int (iI pw1)])), (tn1, .inr (0, [.ref ta1, .int (iI tk1)])), (ta1, .inl (E.1, 224, .inl (ia tg1))), (bn1, .inr (0, [.ref ba1, .int (iI bk1)])), (ba1, .inl (E.1, 224, .inl (ia bg1)))] := hD
            refine lv_lload hx hb d_Arithmetic_roundedSize_120 (lv_at hl 0 rfl) ?_
            refine wi_iconst (n := 1) hx hb d_Arithmetic_roundedSize_122 ?_
            refine wi_lshr hx hb 1 2 (by decide +kernel) rfl (by decide) (by omega) d_Arithmetic_roundedSize_123 ?_
            refine lv_lstore (lv' := [(5, .long (lI (q3 / 2))), (4, .int (iI u0)), (3, .int (iI (r1 - r2 + pw1))), (0, .ref h), (1, .ref h1), (2, .int (bI aw))]) hx hb d_Arithmetic_roundedSize_124 hl (by decide) rfl (fun ls hl => ?_)
            refine wi_iinc (v := u0 + 1) (lv' := [(4, .int (iI (u0 + 1))), (5, .long (lI (q3 / 2))), (3, .int (iI (r1 - r2 + pw1))), (0, .ref h), (1, .ref h1), (2, .int (bI aw))]) hx hb d_Arithmetic_roundedSize_126 hl (k := 1) rfl rfl (by decide) rfl (fun ls hl => ?_)
            exact K_129 (q3 / 2) (u0 + 1) q3 false lg3_7 rg3_8 lk3_9 rk3_10 (RSI_of2 hb0 (by omega) hq3 hi3 (by omega) (by first | exact RSI_ja c_12 | exact RSI_jb c_13 | exact RSI_jc c_12 c_13)) _ _ _ (lv_sub hl [3, 4, 5, 0, 1] rfl) (hP.sub [0, 1, 2, 3, 4, 5, 6, 7, 8, 9] rfl) (hD.sub [0, 1, 2, 3, 4, 5, 6, 7, 8, 9] (by decide) rfl) hS
          · skip
            have c_13 := cmpZ_ne.mp c_13
            refine wi_iconst (n := 1) hx hb d_Arithmetic_roundedSize_112 ?_
            refine lv_goto (tgt := 117) hx hb d_Arithmetic_roundedSize_113 (by decide) ?_
            refine w_as1 ?_
            refine wk_put B hP hD hS 0 rfl fl_Arithmetic_25 fp_Arithmetic_3 (v := .int (bI true)) (bI_nar _) (bI_fit _) (Nat.le_of_ble_eq_true rfl) d_Arithmetic_roundedSize_117 (fun H locs hP hD hS => ?_)
            have hP : va_P D classes [(h, .inr (2, [.ref ln, .ref rn, .long (lI q3), .int (bI true)])), (ln, .inr (0, [.ref la, .int (iI lk3_9)])), (la, .inl (E.1, 224, .inl (ia lg3_7))), (rn, .inr (0, [.ref ra, .int (iI rk3_10)])), (ra, .inl (E.1, 224, .inl (ia rg3_8))), (h1, .inr (1, [.ref tn1, .ref bn1, .int (bI neg1), .int (iI pw1)])), (tn1, .inr (0, [.ref ta1, .int (iI tk1)])), (ta1, .inl (E.1, 224, .inl (ia tg1))), (bn1, .inr (0, [.ref ba1, .int (iI bk1)])), (ba1, .inl (E.1, 224, .inl (ia bg1)))] H := hP
            have hD : va_D A [(h, .inr (2, [.ref ln, .ref rn, .long (lI q3), .int (bI true)])), (ln, .inr (0, [.ref la, .int (iI lk3_9)])), (la, .inl (E.1, 224, .inl (ia lg3_7))), (rn, .inr (0, [.ref ra, .int (iI rk3_10)])), (ra, .inl (E.1, 224, .inl (ia rg3_8))), (h1, .inr (1, [.ref tn1, .ref bn1, .int (bI neg1), .int (iI pw1)])), (tn1, .inr (0, [.ref ta1, .int (iI tk1)])), (ta1, .inl (E.1, 224, .inl (ia tg1))), (bn1, .inr (0, [.ref ba1, .int (iI bk1)])), (ba1, .inl (E.1, 224, .inl (ia bg1)))] := hD
            refine lv_lload hx hb d_Arithmetic_roundedSize_120 (lv_at hl 0 rfl) ?_
            refine wi_iconst (n := 1) hx hb d_Arithmetic_roundedSize_122 ?_
            refine wi_lshr hx hb 1 2 (by decide +kernel) rfl (by decide) (by omega) d_Arithmetic_roundedSize_123 ?_
            refine lv_lstore (lv' := [(5, .long (lI (q3 / 2))), (4, .int (iI u0)), (3, .int (iI (r1 - r2 + pw1))), (0, .ref h), (1, .ref h1), (2, .int (bI aw))]) hx hb d_Arithmetic_roundedSize_124 hl (by decide) rfl (fun ls hl => ?_)
            refine wi_iinc (v := u0 + 1) (lv' := [(4, .int (iI (u0 + 1))), (5, .long (lI (q3 / 2))), (3, .int (iI (r1 - r2 + pw1))), (0, .ref h), (1, .ref h1), (2, .int (bI aw))]) hx hb d_Arithmetic_roundedSize_126 hl (k := 1) rfl rfl (by decide) rfl (fun ls hl => ?_)
            exact K_129 (q3 / 2) (u0 + 1) q3 true lg3_7 rg3_8 lk3_9 rk3_10 (RSI_of2 hb0 (by omega) hq3 hi3 (by omega) (by first | exact RSI_ja c_12 | exact RSI_jb c_13 | exact RSI_jc c_12 c_13)) _ _ _ (lv_sub hl [3, 4, 5, 0, 1] rfl) (hP.sub [0, 1, 2, 3, 4, 5, 6, 7, 8, 9] rfl) (hD.sub [0, 1, 2, 3, 4, 5, 6, 7, 8, 9] (by decide) rfl) hS
    · skip
      refine lv_iload_n hx hb d_Arithmetic_roundedSize_49 rfl (lv_at hl 3 rfl) ?_
      refine wb_if_eq (tgt := 57) hx hb d_Arithmetic_roundedSize_50 (by decide) (fun c_14 => ?_) (fun c_14 => ?_)
      · skip
        refine wi_lconst (z := 0) hx hb d_Arithmetic_roundedSize_57 (by decide) ?_
        exact ret (lg, rg, lk, rk, quo, inx, 0) _ _ _ _ d_Arithmetic_roundedSize_58 (show (RSZ aw 0 v b pw1) from (RSZ_f c_14 (rs_near hv0 hb0 hr1 hr2 (by omega)).1)) (hP.sub [0, 1, 2, 3, 4, 5, 6, 7, 8, 9] rfl) (hD.sub [0, 1, 2, 3, 4, 5, 6, 7, 8, 9] (by decide) rfl) hS
      · skip
        refine wi_lconst (z := 1) hx hb d_Arithmetic_roundedSize_53 (by decide) ?_
        refine lv_goto (tgt := 58) hx hb d_Arithmetic_roundedSize_54 (by decide) ?_
        exact ret (lg, rg, lk, rk, quo, inx, 1) _ _ _ _ d_Arithmetic_roundedSize_58 (show (RSZ aw 1 v b pw1) from (RSZ_t c_14 (rs_near hv0 hb0 hr1 hr2 (by omega)).2)) (hP.sub [0, 1, 2, 3, 4, 5, 6, 7, 8, 9] rfl) (hD.sub [0, 1, 2, 3, 4, 5, 6, 7, 8, 9] (by decide) rfl) hS
  · skip
    refine lv_iload_n hx hb d_Arithmetic_roundedSize_28 rfl (lv_at hl 3 rfl) ?_
    refine wb_if_eq (tgt := 38) hx hb d_Arithmetic_roundedSize_29 (by decide) (fun c_15 => ?_) (fun c_15 => ?_)
    · skip
      refine wi_ldc2 hx hb 9218868437227405311 hown (tb_h hts tw_Arithmetic_constantLong_93) (by decide) d_Arithmetic_roundedSize_38 ?_
      exact ret (lg, rg, lk, rk, quo, inx, 9218868437227405311) _ _ _ _ d_Arithmetic_roundedSize_41 (show (RSZ aw 9218868437227405311 v b pw1) from (RSZ_f c_15 (rs_over hb0 (rs_far hv0 hb0 hr1 hr2 (by omega))).1)) (hP.sub [0, 1, 2, 3, 4, 5, 6, 7, 8, 9] rfl) (hD.sub [0, 1, 2, 3, 4, 5, 6, 7, 8, 9] (by decide) rfl) hS
    · skip
      refine wi_ldc2 hx hb 9218868437227405312 hown (tb_h hts tw_Arithmetic_constantLong_91) (by decide) d_Arithmetic_roundedSize_32 ?_
      refine lv_goto (tgt := 41) hx hb d_Arithmetic_roundedSize_35 (by decide) ?_
      exact ret (lg, rg, lk, rk, quo, inx, 9218868437227405312) _ _ _ _ d_Arithmetic_roundedSize_41 (show (RSZ aw 9218868437227405312 v b pw1) from (RSZ_t c_15 (rs_over hb0 (rs_far hv0 hb0 hr1 hr2 (by omega))).2)) (hP.sub [0, 1, 2, 3, 4, 5, 6, 7, 8, 9] rfl) (hD.sub [0, 1, 2, 3, 4, 5, 6, 7, 8, 9] (by decide) rfl) hS
set_option maxHeartbeats 4000000 in
set_option maxRecDepth 100000 in
theorem c_Arithmetic_rounded (l : Launch) (D : va_G) (E : EVt) (h : Nat) (ln : Nat) (la : Nat) (rn : Nat) (ra : Nat) (lg : Int → Int) (rg : Int → Int) (lk : Int) (rk : Int) (quo : Int) (inx : Bool) (h1 : Nat) (tn1 : Nat) (ta1 : Nat) (bn1 : Nat) (ba1 : Nat) (tg1 : Int → Int) (bg1 : Int → Int) (tk1 : Int) (bk1 : Int) (pw1 : Int) (neg1 : Bool) (up : Bool) (v : Int) (b : Int) (hT : NatOK tg1 tk1 v) (hB : NatOK bg1 bk1 b) (hb0 : 0 < b) (hp1 : -100000 ≤ pw1 ∧ pw1 ≤ 100000) (hvb : v < P2 6600) (hbb : b < P2 6600) : CT l D classes (tyl E) (EVX E) y_Arithmetic_rounded (Cond.code y_Arithmetic_rounded b_Arithmetic_rounded 5 (some .long) :: TB) (rmK 5 0 0 136) 0 0 [.ref h, .ref h1, .int (bI up)] [(h, .inr (2, [.ref ln, .ref rn, .long (lI quo), .int (bI inx)])), (ln, .inr (0, [.ref la, .int (iI lk)])), (la, .inl (E.1, 224, .inl (ia lg))), (rn, .inr (0, [.ref ra, .int (iI rk)])), (ra, .inl (E.1, 224, .inl (ia rg))), (h1, .inr (1, [.ref tn1, .ref bn1, .int (bI neg1), .int (iI pw1)])), (tn1, .inr (0, [.ref ta1, .int (iI tk1)])), (ta1, .inl (E.1, 224, .inl (ia tg1))), (bn1, .inr (0, [.ref ba1, .int (iI bk1)])), (ba1, .inl (E.1, 224, .inl (ia bg1)))] (S := (Int → Int) × (Int → Int) × Int × Int × Int × Bool × Int) (fun u => [(h, .inr (2, [.ref ln, .ref rn, .long (lI u.2.2.2.2.1), .int (bI u.2.2.2.2.2.1)])), (ln, .inr (0, [.ref la, .int (iI u.2.2.1)])), (la, .inl (E.1, 224, .inl (ia u.1))), (rn, .inr (0, [.ref ra, .int (iI u.2.2.2.1)])), (ra, .inl (E.1, 224, .inl (ia u.2.1))), (h1, .inr (1, [.ref tn1, .ref bn1, .int (bI neg1), .int (iI pw1)])), (tn1, .inr (0, [.ref ta1, .int (iI tk1)])), (ta1, .inl (E.1, 224, .inl (ia tg1))), (bn1, .inr (0, [.ref ba1, .int (iI bk1)])), (ba1, .inl (E.1, 224, .inl (ia bg1)))]) (fun u => some (.long (lI u.2.2.2.2.2.2))) (fun u => (RND up neg1 v b pw1 u.2.2.2.2.2.2)) := by
  refine CT.ofl (fv := fun (u : (Int → Int) × (Int → Int) × Int × Int × Int × Bool × Int) => u.2.2.2.2.2.2) (eok E) (by decide) rfl (Nat.le_of_ble_eq_true rfl) ?_
  intro p e s m args below meth c A Q ls B hmn hP hD hS hl ret
  have B : Bd l D classes (tyl E) (EVX E) p m c b_Arithmetic_rounded 5 s args (Cond.code y_Arithmetic_rounded b_Arithmetic_rounded 5 (some .long) :: TB) R_Arithmetic A := B
  obtain ⟨⟨hx, hb, hml, hown, hts⟩, hX, hK, hE, hA⟩ := id B
  have hl : lv_has ls 5 [(0, .ref h), (1, .ref h1), (2, .int (bI up))] := hl
  have hP : va_P D classes [(h, .inr (2, [.ref ln, .ref rn, .long (lI quo), .int (bI inx)])), (ln, .inr (0, [.ref la, .int (iI lk)])), (la, .inl (E.1, 224, .inl (ia lg))), (rn, .inr (0, [.ref ra, .int (iI rk)])), (ra, .inl (E.1, 224, .inl (ia rg))), (h1, .inr (1, [.ref tn1, .ref bn1, .int (bI neg1), .int (iI pw1)])), (tn1, .inr (0, [.ref ta1, .int (iI tk1)])), (ta1, .inl (E.1, 224, .inl (ia tg1))), (bn1, .inr (0, [.ref ba1, .int (iI bk1)])), (ba1, .inl (E.1, 224, .inl (ia bg1)))] s.heap := hP
  have hD : va_D A [(h, .inr (2, [.ref ln, .ref rn, .long (lI quo), .int (bI inx)])), (ln, .inr (0, [.ref la, .int (iI lk)])), (la, .inl (E.1, 224, .inl (ia lg))), (rn, .inr (0, [.ref ra, .int (iI rk)])), (ra, .inl (E.1, 224, .inl (ia rg))), (h1, .inr (1, [.ref tn1, .ref bn1, .int (bI neg1), .int (iI pw1)])), (tn1, .inr (0, [.ref ta1, .int (iI tk1)])), (ta1, .inl (E.1, 224, .inl (ia tg1))), (bn1, .inr (0, [.ref ba1, .int (iI bk1)])), (ba1, .inl (E.1, 224, .inl (ia bg1)))] := hD
  have hc1 := sgnR_cases (n := neg1) hT.bd.1
  have hn1 := sgnR_rng neg1 v
  refine lv_aload_n hx hb d_Arithmetic_rounded_0 rfl (lv_at hl 1 rfl) ?_
  refine wk_callV (As := []) (rest := []) (wr := [(h, .inr (2, [.ref ln, .ref rn, .long (lI quo), .int (bI inx)])), (ln, .inr (0, [.ref la, .int (iI lk)])), (la, .inl (E.1, 224, .inl (ia lg))), (rn, .inr (0, [.ref ra, .int (iI rk)])), (ra, .inl (E.1, 224, .inl (ia rg))), (bn1, .inr (0, [.ref ba1, .int (iI bk1)])), (ba1, .inl (E.1, 224, .inl (ia bg1)))]) B gTB cl_Arithmetic_29 (c_Ratio_sign l D E h1 tn1 ta1 bn1 tg1 tk1 pw1 v neg1 (hT)) ⟨⟨rfl, rfl⟩, Nat.le_of_ble_eq_true rfl, Nat.le_of_ble_eq_true rfl⟩ hP hD hS [5, 6, 7] [0, 1, 2, 3, 4, 8, 9] rfl rfl (by decide) 5 rfl rfl rfl ⟨hl.2.1, hl.1⟩ rfl (Nat.le_of_ble_eq_true rfl) d_Arithmetic_rounded_1 ⟨Nat.le_of_ble_eq_true rfl, Nat.le_of_ble_eq_true rfl⟩ rfl (fun r_1 H locs hw hP hD hS => ?_)
  have hP : va_P D classes [(h, .inr (2, [.ref ln, .ref rn, .long (lI quo), .int (bI inx)])), (ln, .inr (0, [.ref la, .int (iI lk)])), (la, .inl (E.1, 224, .inl (ia lg))), (rn, .inr (0, [.ref ra, .int (iI rk)])), (ra, .inl (E.1, 224, .inl (ia rg))), (bn1, .inr (0, [.ref ba1, .int (iI bk1)])), (ba1, .inl (E.1, 224, .inl (ia bg1))), (h1, .inr (1, [.ref tn1, .ref bn1, .int (bI neg1), .int (iI pw1)])), (tn1, .inr (0, [.ref ta1, .int (iI tk1)])), (ta1, .inl (E.1, 224, .inl (ia tg1)))] H := hP
  have hD : va_D A [(h, .inr (2, [.ref ln, .ref rn, .long (lI quo), .int (bI inx)])), (ln, .inr (0, [.ref la, .int (iI lk)])), (la, .inl (E.1, 224, .inl (ia lg))), (rn, .inr (0, [.ref ra, .int (iI rk)])), (ra, .inl (E.1, 224, .inl (ia rg))), (bn1, .inr (0, [.ref ba1, .int (iI bk1)])), (ba1, .inl (E.1, 224, .inl (ia bg1))), (h1, .inr (1, [.ref tn1, .ref bn1, .int (bI neg1), .int (iI pw1)])), (tn1, .inr (0, [.ref ta1, .int (iI tk1)])), (ta1, .inl (E.1, 224, .inl (ia tg1)))] := hD
  have hw : (r_1 = sgnR neg1 v) := hw
  have hr_2 := hw
  refine W.cs (g := F0 m 4 ls [.int (iI r_1)]) (cells' := 0) (slots' := 0) rfl rfl ?_
  subst hr_2
  refine wi_if_ne (tgt := 9) hx hb d_Arithmetic_rounded_4 (by decide) (by omega) (fun c_3 => ?_) (fun c_3 => ?_)
  · skip
    refine lv_aload_n hx hb d_Arithmetic_rounded_9 rfl (lv_at hl 0 rfl) ?_
    refine lv_aload_n hx hb d_Arithmetic_rounded_10 rfl (lv_at hl 1 rfl) ?_
    refine lv_iload_n hx hb d_Arithmetic_rounded_11 rfl (lv_at hl 2 rfl) ?_
    refine lv_aload_n hx hb d_Arithmetic_rounded_12 rfl (lv_at hl 1 rfl) ?_
    refine wk_get B hP 7 rfl fl_Arithmetic_82 (v := .int (bI neg1)) rfl d_Arithmetic_rounded_13 ?_
    refine wb_icmp_eq (tgt := 23) hx hb d_Arithmetic_rounded_16 (by decide) (fun c_4 => ?_) (fun c_4 => ?_)
    · skip
      refine wi_iconst (n := 0) hx hb d_Arithmetic_rounded_23 ?_
      refine w_as0 ?_
      refine wk_callV (As := [.ref h1, .int (bI false)]) (rest := []) (wr := []) B gTB cl_Arithmetic_85 (c_Arithmetic_roundedSize l D E h ln la rn ra lg rg lk rk quo inx h1 tn1 ta1 bn1 ba1 tg1 bg1 tk1 bk1 pw1 neg1 false v b (hT) (hB) (by omega) (by omega) (by omega) (by omega) (by omega)) ⟨⟨rfl, rfl⟩, Nat.le_of_ble_eq_true rfl, Nat.le_of_ble_eq_true rfl⟩ hP hD hS [0, 1, 2, 3, 4, 7, 8, 9, 5, 6] [] rfl rfl (by decide) 0 rfl rfl rfl ⟨hl.2.1, hl.1⟩ rfl (Nat.le_of_ble_eq_true rfl) d_Arithmetic_rounded_24 ⟨Nat.le_of_ble_eq_true rfl, Nat.le_of_ble_eq_true rfl⟩ rfl (fun u H locs hw hP hD hS => ?_)
      obtain ⟨lg3_5, rg3_6, lk3_7, rk3_8, q3_9, in3_10, rs⟩ := u
      have hP : va_P D classes [(h, .inr (2, [.ref ln, .ref rn, .long (lI q3_9), .int (bI in3_10)])), (ln, .inr (0, [.ref la, .int (iI lk3_7)])), (la, .inl (E.1, 224, .inl (ia lg3_5))), (rn, .inr (0, [.ref ra, .int (iI rk3_8)])), (ra, .inl (E.1, 224, .inl (ia rg3_6))), (h1, .inr (1, [.ref tn1, .ref bn1, .int (bI neg1), .int (iI pw1)])), (tn1, .inr (0, [.ref ta1, .int (iI tk1)])), (ta1, .inl (E.1, 224, .inl (ia tg1))), (bn1, .inr (0, [.ref ba1, .int (iI bk1)])), (ba1, .inl (E.1, 224, .inl (ia bg1)))] H := hP
      have hD : va_D A [(h, .inr (2, [.ref ln, .ref rn, .long (lI q3_9), .int (bI in3_10)])), (ln, .inr (0, [.ref la, .int (iI lk3_7)])), (la, .inl (E.1, 224, .inl (ia lg3_5))), (rn, .inr (0, [.ref ra, .int (iI rk3_8)])), (ra, .inl (E.1, 224, .inl (ia rg3_6))), (h1, .inr (1, [.ref tn1, .ref bn1, .int (bI neg1), .int (iI pw1)])), (tn1, .inr (0, [.ref ta1, .int (iI tk1)])), (ta1, .inl (E.1, 224, .inl (ia tg1))), (bn1, .inr (0, [.ref ba1, .int (iI bk1)])), (ba1, .inl (E.1, 224, .inl (ia bg1)))] := hD
      have hw : (RSZ false rs v b pw1) := hw
      have hrs := hw
      refine W.cs (g := F0 m 27 ls [.long (lI rs)]) (cells' := 0) (slots' := 0) rfl rfl ?_
      have hrr := RSZ_rng hrs
      refine lv_lstore_n (lv' := [(3, .long (lI rs)), (0, .ref h), (1, .ref h1), (2, .int (bI up))]) hx hb d_Arithmetic_rounded_27 rfl hl (by decide) rfl (fun ls hl => ?_)
      refine lv_aload_n hx hb d_Arithmetic_rounded_28 rfl (lv_at hl 2 rfl) ?_
      refine wk_get B hP 5 rfl fl_Arithmetic_82 (v := .int (bI neg1)) rfl d_Arithmetic_rounded_29 ?_
      refine wb_if_eq (tgt := 49) hx hb d_Arithmetic_rounded_32 (by decide) (fun c_11 => ?_) (fun c_11 => ?_)
      · skip
        refine lv_lload_n hx hb d_Arithmetic_rounded_49 rfl (lv_at hl 0 rfl) ?_
        exact ret (lg3_5, rg3_6, lk3_7, rk3_8, q3_9, in3_10, rs) _ _ _ _ d_Arithmetic_rounded_50 (show (RND up neg1 v b pw1 rs) from (RND_of (by omega) (by first | exact bne_t c_4 | exact bne_f c_4) hrs (by first | exact (FL_f c_11).symm | exact (FL_0 c_20).symm))) (hP.sub [0, 1, 2, 3, 4, 5, 6, 7, 8, 9] rfl) (hD.sub [0, 1, 2, 3, 4, 5, 6, 7, 8, 9] (by decide) rfl) hS
      · skip
        refine lv_lload_n hx hb d_Arithmetic_rounded_35 rfl (lv_at hl 0 rfl) ?_
        refine wi_lconst (z := 0) hx hb d_Arithmetic_rounded_36 (by decide) ?_
        refine wi_lcmp hx hb (by omega) (by omega) d_Arithmetic_rounded_37 ?_
        refine wi_if_eq (tgt := 49) hx hb d_Arithmetic_rounded_38 (by decide) (by have := cmpZ_rng rs 0; omega) (fun c_12 => ?_) (fun c_12 => ?_)
        · skip
          have c_12 := cmpZ_eq.mp c_12
          refine lv_lload_n hx hb d_Arithmetic_rounded_49 rfl (lv_at hl 0 rfl) ?_
          exact ret (lg3_5, rg3_6, lk3_7, rk3_8, q3_9, in3_10, rs) _ _ _ _ d_Arithmetic_rounded_50 (show (RND up neg1 v b pw1 rs) from (RND_of (by omega) (by first | exact bne_t c_4 | exact bne_f c_4) hrs (by first | exact (FL_f c_11).symm | exact (FL_0 c_12).symm))) (hP.sub [0, 1, 2, 3, 4, 5, 6, 7, 8, 9] rfl) (hD.sub [0, 1, 2, 3, 4, 5, 6, 7, 8, 9] (by decide) rfl) hS
        · skip
          have c_12 := cmpZ_ne.mp c_12
          refine lv_lload_n hx hb d_Arithmetic_rounded_41 rfl (lv_at hl 0 rfl) ?_
          refine wi_ldc2 hx hb (-9223372036854775808) hown (tb_h hts tw_Arithmetic_constantLong_89) (by decide) d_Arithmetic_rounded_42 ?_
          refine wi_lor2 hx hb 63 (-1) (by decide) (by omega) d_Arithmetic_rounded_45 ?_
          refine lv_goto (tgt := 50) hx hb d_Arithmetic_rounded_46 (by decide) ?_
          exact ret (lg3_5, rg3_6, lk3_7, rk3_8, q3_9, in3_10, rs + (-9223372036854775808)) _ _ _ _ d_Arithmetic_rounded_50 (show (RND up neg1 v b pw1 (rs + (-9223372036854775808))) from (RND_of (by omega) (by first | exact bne_t c_4 | exact bne_f c_4) hrs ((FL_t c_11 c_12).symm))) (hP.sub [0, 1, 2, 3, 4, 5, 6, 7, 8, 9] rfl) (hD.sub [0, 1, 2, 3, 4, 5, 6, 7, 8, 9] (by decide) rfl) hS
    · skip
      refine wi_iconst (n := 1) hx hb d_Arithmetic_rounded_19 ?_
      refine lv_goto (tgt := 24) hx hb d_Arithmetic_rounded_20 (by decide) ?_
      refine w_as1 ?_
      refine wk_callV (As := [.ref h1, .int (bI true)]) (rest := []) (wr := []) B gTB cl_Arithmetic_85 (c_Arithmetic_roundedSize l D E h ln la rn ra lg rg lk rk quo inx h1 tn1 ta1 bn1 ba1 tg1 bg1 tk1 bk1 pw1 neg1 true v b (hT) (hB) (by omega) (by omega) (by omega) (by omega) (by omega)) ⟨⟨rfl, rfl⟩, Nat.le_of_ble_eq_true rfl, Nat.le_of_ble_eq_true rfl⟩ hP hD hS [0, 1, 2, 3, 4, 7, 8, 9, 5, 6] [] rfl rfl (by decide) 0 rfl rfl rfl ⟨hl.2.1, hl.1⟩ rfl (Nat.le_of_ble_eq_true rfl) d_Arithmetic_rounded_24 ⟨Nat.le_of_ble_eq_true rfl, Nat.le_of_ble_eq_true rfl⟩ rfl (fun u H locs hw hP hD hS => ?_)
      obtain ⟨lg3_13, rg3_14, lk3_15, rk3_16, q3_17, in3_18, rs⟩ := u
      have hP : va_P D classes [(h, .inr (2, [.ref ln, .ref rn, .long (lI q3_17), .int (bI in3_18)])), (ln, .inr (0, [.ref la, .int (iI lk3_15)])), (la, .inl (E.1, 224, .inl (ia lg3_13))), (rn, .inr (0, [.ref ra, .int (iI rk3_16)])), (ra, .inl (E.1, 224, .inl (ia rg3_14))), (h1, .inr (1, [.ref tn1, .ref bn1, .int (bI neg1), .int (iI pw1)])), (tn1, .inr (0, [.ref ta1, .int (iI tk1)])), (ta1, .inl (E.1, 224, .inl (ia tg1))), (bn1, .inr (0, [.ref ba1, .int (iI bk1)])), (ba1, .inl (E.1, 224, .inl (ia bg1)))] H := hP
      have hD : va_D A [(h, .inr (2, [.ref ln, .ref rn, .long (lI q3_17), .int (bI in3_18)])), (ln, .inr (0, [.ref la, .int (iI lk3_15)])), (la, .inl (E.1, 224, .inl (ia lg3_13))), (rn, .inr (0, [.ref ra, .int (iI rk3_16)])), (ra, .inl (E.1, 224, .inl (ia rg3_14))), (h1, .inr (1, [.ref tn1, .ref bn1, .int (bI neg1), .int (iI pw1)])), (tn1, .inr (0, [.ref ta1, .int (iI tk1)])), (ta1, .inl (E.1, 224, .inl (ia tg1))), (bn1, .inr (0, [.ref ba1, .int (iI bk1)])), (ba1, .inl (E.1, 224, .inl (ia bg1)))] := hD
      have hw : (RSZ true rs v b pw1) := hw
      have hrs := hw
      refine W.cs (g := F0 m 27 ls [.long (lI rs)]) (cells' := 0) (slots' := 0) rfl rfl ?_
      have hrr := RSZ_rng hrs
      refine lv_lstore_n (lv' := [(3, .long (lI rs)), (0, .ref h), (1, .ref h1), (2, .int (bI up))]) hx hb d_Arithmetic_rounded_27 rfl hl (by decide) rfl (fun ls hl => ?_)
      refine lv_aload_n hx hb d_Arithmetic_rounded_28 rfl (lv_at hl 2 rfl) ?_
      refine wk_get B hP 5 rfl fl_Arithmetic_82 (v := .int (bI neg1)) rfl d_Arithmetic_rounded_29 ?_
      refine wb_if_eq (tgt := 49) hx hb d_Arithmetic_rounded_32 (by decide) (fun c_19 => ?_) (fun c_19 => ?_)
      · skip
        refine lv_lload_n hx hb d_Arithmetic_rounded_49 rfl (lv_at hl 0 rfl) ?_
        exact ret (lg3_13, rg3_14, lk3_15, rk3_16, q3_17, in3_18, rs) _ _ _ _ d_Arithmetic_rounded_50 (show (RND up neg1 v b pw1 rs) from (RND_of (by omega) (by first | exact bne_t c_4 | exact bne_f c_4) hrs (by first | exact (FL_f c_19).symm | exact (FL_0 c_12).symm))) (hP.sub [0, 1, 2, 3, 4, 5, 6, 7, 8, 9] rfl) (hD.sub [0, 1, 2, 3, 4, 5, 6, 7, 8, 9] (by decide) rfl) hS
      · skip
        refine lv_lload_n hx hb d_Arithmetic_rounded_35 rfl (lv_at hl 0 rfl) ?_
        refine wi_lconst (z := 0) hx hb d_Arithmetic_rounded_36 (by decide) ?_
        refine wi_lcmp hx hb (by omega) (by omega) d_Arithmetic_rounded_37 ?_
        refine wi_if_eq (tgt := 49) hx hb d_Arithmetic_rounded_38 (by decide) (by have := cmpZ_rng rs 0; omega) (fun c_20 => ?_) (fun c_20 => ?_)
        · skip
          have c_20 := cmpZ_eq.mp c_20
          refine lv_lload_n hx hb d_Arithmetic_rounded_49 rfl (lv_at hl 0 rfl) ?_
          exact ret (lg3_13, rg3_14, lk3_15, rk3_16, q3_17, in3_18, rs) _ _ _ _ d_Arithmetic_rounded_50 (show (RND up neg1 v b pw1 rs) from (RND_of (by omega) (by first | exact bne_t c_4 | exact bne_f c_4) hrs (by first | exact (FL_f c_19).symm | exact (FL_0 c_20).symm))) (hP.sub [0, 1, 2, 3, 4, 5, 6, 7, 8, 9] rfl) (hD.sub [0, 1, 2, 3, 4, 5, 6, 7, 8, 9] (by decide) rfl) hS
        · skip
          have c_20 := cmpZ_ne.mp c_20
          refine lv_lload_n hx hb d_Arithmetic_rounded_41 rfl (lv_at hl 0 rfl) ?_
          refine wi_ldc2 hx hb (-9223372036854775808) hown (tb_h hts tw_Arithmetic_constantLong_89) (by decide) d_Arithmetic_rounded_42 ?_
          refine wi_lor2 hx hb 63 (-1) (by decide) (by omega) d_Arithmetic_rounded_45 ?_
          refine lv_goto (tgt := 50) hx hb d_Arithmetic_rounded_46 (by decide) ?_
          exact ret (lg3_13, rg3_14, lk3_15, rk3_16, q3_17, in3_18, rs + (-9223372036854775808)) _ _ _ _ d_Arithmetic_rounded_50 (show (RND up neg1 v b pw1 (rs + (-9223372036854775808))) from (RND_of (by omega) (by first | exact bne_t c_4 | exact bne_f c_4) hrs ((FL_t c_19 c_20).symm))) (hP.sub [0, 1, 2, 3, 4, 5, 6, 7, 8, 9] rfl) (hD.sub [0, 1, 2, 3, 4, 5, 6, 7, 8, 9] (by decide) rfl) hS
  · skip
    refine wi_lconst (z := 0) hx hb d_Arithmetic_rounded_7 (by decide) ?_
    exact ret (lg, rg, lk, rk, quo, inx, 0) _ _ _ _ d_Arithmetic_rounded_8 (show (RND up neg1 v b pw1 0) from (Or.inl ⟨by omega, rfl⟩)) (hP.sub [0, 1, 2, 3, 4, 7, 8, 9, 5, 6] rfl) (hD.sub [0, 1, 2, 3, 4, 7, 8, 9, 5, 6] (by decide) rfl) hS
