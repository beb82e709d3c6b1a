/-! Scanner: takeNumber -/
abbrev b_Scanner_takeNumber : ByteArray := prog_7_method_9_code
def y_Scanner_takeNumber : MethodName := ⟨"IntervalText$Scanner", "takeNumber", "(LIntervalText$Ratio;)Z"⟩
theorem d_Scanner_takeNumber_0 : decode b_Scanner_takeNumber 0 = .ok (.aload_n 1, 1) := by decide +kernel
theorem d_Scanner_takeNumber_1 : decode b_Scanner_takeNumber 1 = .ok (.aload_n 0, 1) := by decide +kernel
theorem d_Scanner_takeNumber_2 : decode b_Scanner_takeNumber 2 = .ok (.invokevirtual 121, 3) := by decide +kernel
theorem d_Scanner_takeNumber_5 : decode b_Scanner_takeNumber 5 = .ok (.invokevirtual 124, 3) := by decide +kernel
theorem d_Scanner_takeNumber_8 : decode b_Scanner_takeNumber 8 = .ok (.aload_n 0, 1) := by decide +kernel
theorem d_Scanner_takeNumber_9 : decode b_Scanner_takeNumber 9 = .ok (.ldc 128, 2) := by decide +kernel
theorem d_Scanner_takeNumber_11 : decode b_Scanner_takeNumber 11 = .ok (.invokevirtual 76, 3) := by decide +kernel
theorem d_Scanner_takeNumber_14 : decode b_Scanner_takeNumber 14 = .ok (.istore_n 2, 1) := by decide +kernel
theorem d_Scanner_takeNumber_15 : decode b_Scanner_takeNumber 15 = .ok (.aload_n 0, 1) := by decide +kernel
theorem d_Scanner_takeNumber_16 : decode b_Scanner_takeNumber 16 = .ok (.aload_n 1, 1) := by decide +kernel
theorem d_Scanner_takeNumber_17 : decode b_Scanner_takeNumber 17 = .ok (.getfield 130, 3) := by decide +kernel
theorem d_Scanner_takeNumber_20 : decode b_Scanner_takeNumber 20 = .ok (.iload_n 2, 1) := by decide +kernel
theorem d_Scanner_takeNumber_21 : decode b_Scanner_takeNumber 21 = .ok (.ifCond .eq 8, 3) := by decide +kernel
theorem d_Scanner_takeNumber_24 : decode b_Scanner_takeNumber 24 = .ok (.bipush 16, 2) := by decide +kernel
theorem d_Scanner_takeNumber_26 : decode b_Scanner_takeNumber 26 = .ok (.goto 5, 3) := by decide +kernel
theorem d_Scanner_takeNumber_29 : decode b_Scanner_takeNumber 29 = .ok (.bipush 10, 2) := by decide +kernel
theorem d_Scanner_takeNumber_31 : decode b_Scanner_takeNumber 31 = .ok (.iconst 1, 1) := by decide +kernel
theorem d_Scanner_takeNumber_32 : decode b_Scanner_takeNumber 32 = .ok (.invokevirtual 133, 3) := by decide +kernel
theorem d_Scanner_takeNumber_35 : decode b_Scanner_takeNumber 35 = .ok (.ifCond .ne 5, 3) := by decide +kernel
theorem d_Scanner_takeNumber_38 : decode b_Scanner_takeNumber 38 = .ok (.iconst 0, 1) := by decide +kernel
theorem d_Scanner_takeNumber_39 : decode b_Scanner_takeNumber 39 = .ok (.ireturn, 1) := by decide +kernel
theorem d_Scanner_takeNumber_40 : decode b_Scanner_takeNumber 40 = .ok (.iload_n 2, 1) := by decide +kernel
theorem d_Scanner_takeNumber_41 : decode b_Scanner_takeNumber 41 = .ok (.ifCond .eq 29, 3) := by decide +kernel
theorem d_Scanner_takeNumber_44 : decode b_Scanner_takeNumber 44 = .ok (.aload_n 0, 1) := by decide +kernel
theorem d_Scanner_takeNumber_45 : decode b_Scanner_takeNumber 45 = .ok (.bipush 112, 2) := by decide +kernel
theorem d_Scanner_takeNumber_47 : decode b_Scanner_takeNumber 47 = .ok (.iconst 4, 1) := by decide +kernel
theorem d_Scanner_takeNumber_48 : decode b_Scanner_takeNumber 48 = .ok (.iconst 0, 1) := by decide +kernel
theorem d_Scanner_takeNumber_49 : decode b_Scanner_takeNumber 49 = .ok (.invokevirtual 137, 3) := by decide +kernel
theorem d_Scanner_takeNumber_52 : decode b_Scanner_takeNumber 52 = .ok (.istore_n 3, 1) := by decide +kernel
theorem d_Scanner_takeNumber_53 : decode b_Scanner_takeNumber 53 = .ok (.aload_n 1, 1) := by decide +kernel
theorem d_Scanner_takeNumber_54 : decode b_Scanner_takeNumber 54 = .ok (.aload_n 0, 1) := by decide +kernel
theorem d_Scanner_takeNumber_55 : decode b_Scanner_takeNumber 55 = .ok (.getfield 141, 3) := by decide +kernel
theorem d_Scanner_takeNumber_58 : decode b_Scanner_takeNumber 58 = .ok (.iconst 4, 1) := by decide +kernel
theorem d_Scanner_takeNumber_59 : decode b_Scanner_takeNumber 59 = .ok (.aload_n 0, 1) := by decide +kernel
theorem d_Scanner_takeNumber_60 : decode b_Scanner_takeNumber 60 = .ok (.getfield 144, 3) := by decide +kernel
theorem d_Scanner_takeNumber_63 : decode b_Scanner_takeNumber 63 = .ok (.imul, 1) := by decide +kernel
theorem d_Scanner_takeNumber_64 : decode b_Scanner_takeNumber 64 = .ok (.isub, 1) := by decide +kernel
theorem d_Scanner_takeNumber_65 : decode b_Scanner_takeNumber 65 = .ok (.putfield 147, 3) := by decide +kernel
theorem d_Scanner_takeNumber_68 : decode b_Scanner_takeNumber 68 = .ok (.iload_n 3, 1) := by decide +kernel
theorem d_Scanner_takeNumber_69 : decode b_Scanner_takeNumber 69 = .ok (.ireturn, 1) := by decide +kernel
theorem d_Scanner_takeNumber_70 : decode b_Scanner_takeNumber 70 = .ok (.aload_n 0, 1) := by decide +kernel
theorem d_Scanner_takeNumber_71 : decode b_Scanner_takeNumber 71 = .ok (.getfield 150, 3) := by decide +kernel
theorem d_Scanner_takeNumber_74 : decode b_Scanner_takeNumber 74 = .ok (.ifCond .ne 42, 3) := by decide +kernel
theorem d_Scanner_takeNumber_77 : decode b_Scanner_takeNumber 77 = .ok (.aload_n 0, 1) := by decide +kernel
theorem d_Scanner_takeNumber_78 : decode b_Scanner_takeNumber 78 = .ok (.ldc 153, 2) := by decide +kernel
theorem d_Scanner_takeNumber_80 : decode b_Scanner_takeNumber 80 = .ok (.invokevirtual 76, 3) := by decide +kernel
theorem d_Scanner_takeNumber_83 : decode b_Scanner_takeNumber 83 = .ok (.ifCond .eq 33, 3) := by decide +kernel
theorem d_Scanner_takeNumber_86 : decode b_Scanner_takeNumber 86 = .ok (.aload_n 0, 1) := by decide +kernel
theorem d_Scanner_takeNumber_87 : decode b_Scanner_takeNumber 87 = .ok (.aload_n 1, 1) := by decide +kernel
theorem d_Scanner_takeNumber_88 : decode b_Scanner_takeNumber 88 = .ok (.getfield 155, 3) := by decide +kernel
theorem d_Scanner_takeNumber_91 : decode b_Scanner_takeNumber 91 = .ok (.bipush 10, 2) := by decide +kernel
theorem d_Scanner_takeNumber_93 : decode b_Scanner_takeNumber 93 = .ok (.iconst 0, 1) := by decide +kernel
theorem d_Scanner_takeNumber_94 : decode b_Scanner_takeNumber 94 = .ok (.invokevirtual 133, 3) := by decide +kernel
theorem d_Scanner_takeNumber_97 : decode b_Scanner_takeNumber 97 = .ok (.ifCond .eq 17, 3) := by decide +kernel
theorem d_Scanner_takeNumber_100 : decode b_Scanner_takeNumber 100 = .ok (.aload_n 1, 1) := by decide +kernel
theorem d_Scanner_takeNumber_101 : decode b_Scanner_takeNumber 101 = .ok (.getfield 155, 3) := by decide +kernel
theorem d_Scanner_takeNumber_104 : decode b_Scanner_takeNumber 104 = .ok (.getfield 158, 3) := by decide +kernel
theorem d_Scanner_takeNumber_107 : decode b_Scanner_takeNumber 107 = .ok (.ifCond .le 7, 3) := by decide +kernel
theorem d_Scanner_takeNumber_110 : decode b_Scanner_takeNumber 110 = .ok (.iconst 1, 1) := by decide +kernel
theorem d_Scanner_takeNumber_111 : decode b_Scanner_takeNumber 111 = .ok (.goto 4, 3) := by decide +kernel
theorem d_Scanner_takeNumber_114 : decode b_Scanner_takeNumber 114 = .ok (.iconst 0, 1) := by decide +kernel
theorem d_Scanner_takeNumber_115 : decode b_Scanner_takeNumber 115 = .ok (.ireturn, 1) := by decide +kernel
theorem d_Scanner_takeNumber_116 : decode b_Scanner_takeNumber 116 = .ok (.aload_n 0, 1) := by decide +kernel
theorem d_Scanner_takeNumber_117 : decode b_Scanner_takeNumber 117 = .ok (.bipush 101, 2) := by decide +kernel
theorem d_Scanner_takeNumber_119 : decode b_Scanner_takeNumber 119 = .ok (.iconst 3, 1) := by decide +kernel
theorem d_Scanner_takeNumber_120 : decode b_Scanner_takeNumber 120 = .ok (.iconst 1, 1) := by decide +kernel
theorem d_Scanner_takeNumber_121 : decode b_Scanner_takeNumber 121 = .ok (.invokevirtual 137, 3) := by decide +kernel
theorem d_Scanner_takeNumber_124 : decode b_Scanner_takeNumber 124 = .ok (.istore_n 3, 1) := by decide +kernel
theorem d_Scanner_takeNumber_125 : decode b_Scanner_takeNumber 125 = .ok (.aload_n 1, 1) := by decide +kernel
theorem d_Scanner_takeNumber_126 : decode b_Scanner_takeNumber 126 = .ok (.aload_n 0, 1) := by decide +kernel
theorem d_Scanner_takeNumber_127 : decode b_Scanner_takeNumber 127 = .ok (.getfield 141, 3) := by decide +kernel
theorem d_Scanner_takeNumber_130 : decode b_Scanner_takeNumber 130 = .ok (.aload_n 0, 1) := by decide +kernel
theorem d_Scanner_takeNumber_131 : decode b_Scanner_takeNumber 131 = .ok (.getfield 144, 3) := by decide +kernel
theorem d_Scanner_takeNumber_134 : decode b_Scanner_takeNumber 134 = .ok (.isub, 1) := by decide +kernel
theorem d_Scanner_takeNumber_135 : decode b_Scanner_takeNumber 135 = .ok (.invokevirtual 159, 3) := by decide +kernel
theorem d_Scanner_takeNumber_138 : decode b_Scanner_takeNumber 138 = .ok (.iload_n 3, 1) := by decide +kernel
theorem d_Scanner_takeNumber_139 : decode b_Scanner_takeNumber 139 = .ok (.ireturn, 1) := by decide +kernel
theorem fl_Scanner_130 : FLink TB classes "IntervalText$Scanner" 130 R_Ratio F_Ratio 4 1 0 := ⟨rfl, by decide, i_Ratio, tb_t (List.mem_append_left _ (List.mem_of_getElem? (l := tables_1_1) (i := 101) rfl)) rfl⟩
theorem fl_Scanner_147 : FLink TB classes "IntervalText$Scanner" 147 R_Ratio F_Ratio 4 1 3 := ⟨rfl, by decide, i_Ratio, tb_t (List.mem_append_left _ (List.mem_of_getElem? (l := tables_1_1) (i := 110) rfl)) rfl⟩
theorem fl_Scanner_155 : FLink TB classes "IntervalText$Scanner" 155 R_Ratio F_Ratio 4 1 1 := ⟨rfl, by decide, i_Ratio, tb_t (List.mem_append_left _ (List.mem_of_getElem? (l := tables_1_1) (i := 104) rfl)) rfl⟩
theorem fl_Scanner_158 : FLink TB classes "IntervalText$Scanner" 158 R_Natural F_Natural 2 0 1 := ⟨rfl, by decide, i_Natural, tb_t (List.mem_append_left _ (List.mem_of_getElem? (l := tables_1_1) (i := 57) rfl)) rfl⟩
theorem cl_Scanner_76 : CLinkV TB "IntervalText$Scanner" 76 "IntervalText$Scanner" y_Scanner_takeWord b_Scanner_takeWord 3 (some .boolean) 1 := ⟨⟨tb_t (List.mem_append_right _ (List.mem_append_left _ (List.mem_of_getElem? (l := tables_1_2) (i := 9) rfl))) rfl, tb_t (List.mem_append_left _ (List.mem_of_getElem? (l := tables_1_1) (i := 5) rfl)) rfl, tb_t (List.mem_append_right _ (List.mem_append_left _ (List.mem_of_getElem? (l := tables_1_2) (i := 12) rfl))) rfl, by decide +kernel, by decide +kernel, by decide +kernel⟩, tb_t (List.mem_append_right _ (List.mem_append_left _ (List.mem_of_getElem? (l := tables_1_2) (i := 11) rfl))) rfl, tb_p 2 rfl⟩
theorem cl_Scanner_124 : CLinkV TB "IntervalText$Scanner" 124 "IntervalText$Ratio" y_Ratio_startWhole b_Ratio_startWhole 2 none 1 := ⟨⟨tb_t (List.mem_append_right _ (List.mem_append_left _ (List.mem_of_getElem? (l := tables_1_2) (i := 86) rfl))) rfl, tb_t (List.mem_append_left _ (List.mem_of_getElem? (l := tables_1_1) (i := 6) rfl)) rfl, tb_t (List.mem_append_right _ (List.mem_append_left _ (List.mem_of_getElem? (l := tables_1_2) (i := 89) rfl))) rfl, by decide +kernel, by decide +kernel, by decide +kernel⟩, tb_t (List.mem_append_right _ (List.mem_append_left _ (List.mem_of_getElem? (l := tables_1_2) (i := 87) rfl))) rfl, tb_t (List.mem_append_right _ (List.mem_append_left _ (List.mem_of_getElem? (l := tables_1_2) (i := 88) rfl))) rfl⟩
theorem cl_Scanner_133 : CLinkV TB "IntervalText$Scanner" 133 "IntervalText$Scanner" y_Scanner_takeDigits b_Scanner_takeDigits 8 (some .boolean) 3 := ⟨⟨tb_t (List.mem_append_right _ (List.mem_append_left _ (List.mem_of_getElem? (l := tables_1_2) (i := 91) rfl))) rfl, tb_t (List.mem_append_left _ (List.mem_of_getElem? (l := tables_1_1) (i := 5) rfl)) rfl, tb_t (List.mem_append_right _ (List.mem_append_left _ (List.mem_of_getElem? (l := tables_1_2) (i := 94) rfl))) rfl, by decide +kernel, by decide +kernel, by decide +kernel⟩, tb_t (List.mem_append_right _ (List.mem_append_left _ (List.mem_of_getElem? (l := tables_1_2) (i := 93) rfl))) rfl, tb_p 8 rfl⟩
theorem cl_Scanner_137 : CLinkV TB "IntervalText$Scanner" 137 "IntervalText$Scanner" y_Scanner_takeExponent b_Scanner_takeExponent 6 (some .boolean) 3 := ⟨⟨tb_t (List.mem_append_right _ (List.mem_append_left _ (List.mem_of_getElem? (l := tables_1_2) (i := 104) rfl))) rfl, tb_t (List.mem_append_left _ (List.mem_of_getElem? (l := tables_1_1) (i := 5) rfl)) rfl, tb_t (List.mem_append_right _ (List.mem_append_left _ (List.mem_of_getElem? (l := tables_1_2) (i := 107) rfl))) rfl, by decide +kernel, by decide +kernel, by decide +kernel⟩, tb_t (List.mem_append_right _ (List.mem_append_left _ (List.mem_of_getElem? (l := tables_1_2) (i := 106) rfl))) rfl, tb_p 9 rfl⟩
theorem cl_Scanner_159 : CLinkV TB "IntervalText$Scanner" 159 "IntervalText$Ratio" y_Ratio_timesPowerOfTen b_Ratio_timesPowerOfTen 2 none 1 := ⟨⟨tb_t (List.mem_append_right _ (List.mem_append_left _ (List.mem_of_getElem? (l := tables_1_2) (i := 109) rfl))) rfl, tb_t (List.mem_append_left _ (List.mem_of_getElem? (l := tables_1_1) (i := 6) rfl)) rfl, tb_t (List.mem_append_right _ (List.mem_append_left _ (List.mem_of_getElem? (l := tables_1_2) (i := 112) rfl))) rfl, by decide +kernel, by decide +kernel, by decide +kernel⟩, tb_t (List.mem_append_right _ (List.mem_append_left _ (List.mem_of_getElem? (l := tables_1_2) (i := 110) rfl))) rfl, tb_t (List.mem_append_right _ (List.mem_append_left _ (List.mem_of_getElem? (l := tables_1_2) (i := 111) rfl))) rfl⟩
set_option maxHeartbeats 4000000 in
set_option maxRecDepth 100000 in
theorem c_Scanner_takeNumber (l : Launch) (D : va_G) (E : EVt) (h : Nat) (tp : Nat) (ar : Nat) (f1 : Nat) (f2 : Nat) (rd : Nat) (em : Bool) (ob : Bool) (oa : Bool) (pos : Int) (fr : Int) (ex : Int) (hp : Bool) (ta : Nat) (t : Int → Int) (n : Int) (h1 : Nat) (tn1 : Nat) (tb1 : Nat) (bn1 : Nat) (ba1 : Nat) (tg1 : Int → Int) (bg1 : Int → Int) (tk1 : Int) (bk1 : Int) (pw1 : Int) (neg1 : Bool) (hn : 0 ≤ n ∧ n ≤ 400) (hT : Tx t n) (hpos : 0 ≤ pos ∧ pos ≤ n) : CT l D classes (tyl E) (EVX E) y_Scanner_takeNumber (Cond.code y_Scanner_takeNumber b_Scanner_takeNumber 4 (some .boolean) :: TB) (rmK 5 0 0 107) 0 0 [.ref h, .ref h1] [(h, .inr (4, [.ref tp, .ref ar, .ref f1, .ref f2, .ref rd, .int (bI em), .int (bI ob), .int (bI oa), .int (iI pos), .int (iI fr), .int (iI ex), .int (bI hp)])), (tp, .inr (3, [.ref ta, .int (iI n)])), (ta, .inl (E.2.1, 400, .inl (ia t))), (h1, .inr (1, [.ref tn1, .ref bn1, .int (bI neg1), .int (iI pw1)])), (tn1, .inr (0, [.ref tb1, .int (iI tk1)])), (tb1, .inl (E.1, 224, .inl (ia tg1))), (bn1, .inr (0, [.ref ba1, .int (iI bk1)])), (ba1, .inl (E.1, 224, .inl (ia bg1)))] (S := Int × Int × Int × Bool × Bool × (Int → Int) × (Int → Int) × Int × Int × Int × Int × Int × Bool) (fun u => [(h, .inr (4, [.ref tp, .ref ar, .ref f1, .ref f2, .ref rd, .int (bI em), .int (bI ob), .int (bI oa), .int (iI u.1), .int (iI u.2.1), .int (iI u.2.2.1), .int (bI u.2.2.2.1)])), (tp, .inr (3, [.ref ta, .int (iI n)])), (ta, .inl (E.2.1, 400, .inl (ia t))), (h1, .inr (1, [.ref tn1, .ref bn1, .int (bI u.2.2.2.2.1), .int (iI u.2.2.2.2.2.2.2.2.2.1)])), (tn1, .inr (0, [.ref tb1, .int (iI u.2.2.2.2.2.2.2.1)])), (tb1, .inl (E.1, 224, .inl (ia u.2.2.2.2.2.1))), (bn1, .inr (0, [.ref ba1, .int (iI u.2.2.2.2.2.2.2.2.1)])), (ba1, .inl (E.1, 224, .inl (ia u.2.2.2.2.2.2.1)))]) (fun u => some (.int (bI u.2.2.2.2.2.2.2.2.2.2.2.2))) (fun u => (u.2.2.2.2.2.2.2.2.2.2.2.2 = (NUM t n pos).1) ∧ (pos ≤ u.1 ∧ u.1 ≤ n) ∧ (u.2.2.2.2.2.2.2.2.2.2.2.2 = true → (NatOK u.2.2.2.2.2.1 u.2.2.2.2.2.2.2.1 u.2.2.2.2.2.2.2.2.2.2.1 ∧ NatOK u.2.2.2.2.2.2.1 u.2.2.2.2.2.2.2.2.1 u.2.2.2.2.2.2.2.2.2.2.2.1) ∧ 0 < u.2.2.2.2.2.2.2.2.2.2.2.1 ∧ NUM t n pos = (true, u.1, u.2.2.2.2.1, u.2.2.2.2.2.2.2.2.2.2.1, u.2.2.2.2.2.2.2.2.2.2.2.1, u.2.2.2.2.2.2.2.2.2.1) ∧ (u.2.2.2.2.2.2.2.2.2.2.1 < P2 (4 * (u.1 - pos) + 2340) ∧ u.2.2.2.2.2.2.2.2.2.2.2.1 < P2 (4 * (u.1 - pos) + 2340)) ∧ (-12000 < u.2.2.2.2.2.2.2.2.2.1 ∧ u.2.2.2.2.2.2.2.2.2.1 < 12000))) := by
  refine CT.ofz (fv := fun (u : Int × Int × Int × Bool × Bool × (Int → Int) × (Int → Int) × Int × Int × Int × Int × Int × Bool) => u.2.2.2.2.2.2.2.2.2.2.2.2) (eok E) (by decide) rfl (Nat.le_of_ble_eq_true rfl) ?_
  intro p e s m args below meth c A Q ls B hmn hP hD hS hl ret
  have B : Bd l D classes (tyl E) (EVX E) p m c b_Scanner_takeNumber 4 s args (Cond.code y_Scanner_takeNumber b_Scanner_takeNumber 4 (some .boolean) :: TB) R_Scanner A := B
  obtain ⟨⟨hx, hb, hml, hown, hts⟩, hX, hK, hE, hA⟩ := id B
  have hl : lv_has ls 4 [(0, .ref h), (1, .ref h1)] := hl
  have hP : va_P D classes [(h, .inr (4, [.ref tp, .ref ar, .ref f1, .ref f2, .ref rd, .int (bI em), .int (bI ob), .int (bI oa), .int (iI pos), .int (iI fr), .int (iI ex), .int (bI hp)])), (tp, .inr (3, [.ref ta, .int (iI n)])), (ta, .inl (E.2.1, 400, .inl (ia t))), (h1, .inr (1, [.ref tn1, .ref bn1, .int (bI neg1), .int (iI pw1)])), (tn1, .inr (0, [.ref tb1, .int (iI tk1)])), (tb1, .inl (E.1, 224, .inl (ia tg1))), (bn1, .inr (0, [.ref ba1, .int (iI bk1)])), (ba1, .inl (E.1, 224, .inl (ia bg1)))] s.heap := hP
  have hD : va_D A [(h, .inr (4, [.ref tp, .ref ar, .ref f1, .ref f2, .ref rd, .int (bI em), .int (bI ob), .int (bI oa), .int (iI pos), .int (iI fr), .int (iI ex), .int (bI hp)])), (tp, .inr (3, [.ref ta, .int (iI n)])), (ta, .inl (E.2.1, 400, .inl (ia t))), (h1, .inr (1, [.ref tn1, .ref bn1, .int (bI neg1), .int (iI pw1)])), (tn1, .inr (0, [.ref tb1, .int (iI tk1)])), (tb1, .inl (E.1, 224, .inl (ia tg1))), (bn1, .inr (0, [.ref ba1, .int (iI bk1)])), (ba1, .inl (E.1, 224, .inl (ia bg1)))] := hD
  have hs6 : (strLen 6 : Int) = 2 := rfl
  have hs7 : (strLen 7 : Int) = 1 := rfl
  refine lv_aload_n hx hb d_Scanner_takeNumber_0 rfl (lv_at hl 1 rfl) ?_
  refine lv_aload_n hx hb d_Scanner_takeNumber_1 rfl (lv_at hl 0 rfl) ?_
  refine wk_callV (As := []) (rest := [.ref h1]) (wr := [(h1, .inr (1, [.ref tn1, .ref bn1, .int (bI neg1), .int (iI pw1)])), (tn1, .inr (0, [.ref tb1, .int (iI tk1)])), (tb1, .inl (E.1, 224, .inl (ia tg1))), (bn1, .inr (0, [.ref ba1, .int (iI bk1)])), (ba1, .inl (E.1, 224, .inl (ia bg1)))]) B gTB cl_Scanner_121 (c_Scanner_takeSign l D E h tp ar f1 f2 rd em ob oa pos fr ex hp ta t n (by omega) (hT) (by omega)) ⟨⟨rfl, rfl⟩, Nat.le_of_ble_eq_true rfl, Nat.le_of_ble_eq_true rfl⟩ hP hD hS [0, 1, 2] [3, 4, 5, 6, 7] rfl rfl (by decide) 0 rfl rfl rfl ⟨hl.2.1, hl.1⟩ rfl (Nat.le_of_ble_eq_true rfl) d_Scanner_takeNumber_2 ⟨Nat.le_of_ble_eq_true rfl, Nat.le_of_ble_eq_true rfl⟩ rfl (fun u H locs hw hP hD hS => ?_)
  obtain ⟨q1, r_1⟩ := u
  have hP : va_P D classes [(h1, .inr (1, [.ref tn1, .ref bn1, .int (bI neg1), .int (iI pw1)])), (tn1, .inr (0, [.ref tb1, .int (iI tk1)])), (tb1, .inl (E.1, 224, .inl (ia tg1))), (bn1, .inr (0, [.ref ba1, .int (iI bk1)])), (ba1, .inl (E.1, 224, .inl (ia bg1))), (h, .inr (4, [.ref tp, .ref ar, .ref f1, .ref f2, .ref rd, .int (bI em), .int (bI ob), .int (bI oa), .int (iI q1), .int (iI fr), .int (iI ex), .int (bI hp)])), (tp, .inr (3, [.ref ta, .int (iI n)])), (ta, .inl (E.2.1, 400, .inl (ia t)))] H := hP
  have hD : va_D A [(h1, .inr (1, [.ref tn1, .ref bn1, .int (bI neg1), .int (iI pw1)])), (tn1, .inr (0, [.ref tb1, .int (iI tk1)])), (tb1, .inl (E.1, 224, .inl (ia tg1))), (bn1, .inr (0, [.ref ba1, .int (iI bk1)])), (ba1, .inl (E.1, 224, .inl (ia bg1))), (h, .inr (4, [.ref tp, .ref ar, .ref f1, .ref f2, .ref rd, .int (bI em), .int (bI ob), .int (bI oa), .int (iI q1), .int (iI fr), .int (iI ex), .int (bI hp)])), (tp, .inr (3, [.ref ta, .int (iI n)])), (ta, .inl (E.2.1, 400, .inl (ia t)))] := hD
  have hw : (r_1 = sgN t n pos) ∧ (q1 = sgP t n pos) ∧ (pos ≤ q1 ∧ q1 ≤ n) := hw
  obtain ⟨hr_2, hq1, hq12⟩ := hw
  refine W.cs (g := F0 m 5 ls [.int (bI r_1), .ref h1]) (cells' := 0) (slots' := 0) rfl rfl ?_
  subst hr_2
  subst hq1
  refine W.eq (g2 := F0 m 5 ls [.int (bI (sgN t n pos)), .ref h1]) rfl ?_
  refine wk_callV (As := [.int (bI (sgN t n pos))]) (rest := []) (wr := [(tn1, .inr (0, [.ref tb1, .int (iI tk1)])), (tb1, .inl (E.1, 224, .inl (ia tg1))), (h, .inr (4, [.ref tp, .ref ar, .ref f1, .ref f2, .ref rd, .int (bI em), .int (bI ob), .int (bI oa), .int (iI (sgP t n pos)), .int (iI fr), .int (iI ex), .int (bI hp)])), (tp, .inr (3, [.ref ta, .int (iI n)])), (ta, .inl (E.2.1, 400, .inl (ia t)))]) B gTB cl_Scanner_124 (c_Ratio_startWhole l D E h1 tn1 bn1 ba1 bg1 bk1 pw1 neg1 (sgN t n pos) ) ⟨⟨rfl, rfl⟩, Nat.le_of_ble_eq_true rfl, Nat.le_of_ble_eq_true rfl⟩ hP hD hS [0, 3, 4] [1, 2, 5, 6, 7] rfl rfl (by decide) 0 rfl rfl rfl ⟨hl.2.1, hl.1⟩ rfl (Nat.le_of_ble_eq_true rfl) d_Scanner_takeNumber_5 ⟨Nat.le_of_ble_eq_true rfl, Nat.le_of_ble_eq_true rfl⟩ rfl (fun u H locs hw hP hD hS => ?_)
  obtain ⟨bg2_3, bk2_4⟩ := u
  have hP : va_P D classes [(tn1, .inr (0, [.ref tb1, .int (iI tk1)])), (tb1, .inl (E.1, 224, .inl (ia tg1))), (h, .inr (4, [.ref tp, .ref ar, .ref f1, .ref f2, .ref rd, .int (bI em), .int (bI ob), .int (bI oa), .int (iI (sgP t n pos)), .int (iI fr), .int (iI ex), .int (bI hp)])), (tp, .inr (3, [.ref ta, .int (iI n)])), (ta, .inl (E.2.1, 400, .inl (ia t))), (h1, .inr (1, [.ref tn1, .ref bn1, .int (bI (sgN t n pos)), .int (iI 0)])), (bn1, .inr (0, [.ref ba1, .int (iI bk2_4)])), (ba1, .inl (E.1, 224, .inl (ia bg2_3)))] H := hP
  have hD : va_D A [(tn1, .inr (0, [.ref tb1, .int (iI tk1)])), (tb1, .inl (E.1, 224, .inl (ia tg1))), (h, .inr (4, [.ref tp, .ref ar, .ref f1, .ref f2, .ref rd, .int (bI em), .int (bI ob), .int (bI oa), .int (iI (sgP t n pos)), .int (iI fr), .int (iI ex), .int (bI hp)])), (tp, .inr (3, [.ref ta, .int (iI n)])), (ta, .inl (E.2.1, 400, .inl (ia t))), (h1, .inr (1, [.ref tn1, .ref bn1, .int (bI (sgN t n pos)), .int (iI 0)])), (bn1, .inr (0, [.ref ba1, .int (iI bk2_4)])), (ba1, .inl (E.1, 224, .inl (ia bg2_3)))] := hD
  have hw : (NatOK bg2_3 bk2_4 1) := hw
  have hBB := hw
  refine W.cs (g := F0 m 8 ls []) (cells' := 0) (slots' := 0) rfl rfl ?_
  refine lv_aload_n hx hb d_Scanner_takeNumber_8 rfl (lv_at hl 0 rfl) ?_
  refine va_ldcS hx hb hown (sr_6 hE) d_Scanner_takeNumber_9 ?_
  refine wk_callV (As := [.ref (E.2.2.1 6)]) (rest := []) (wr := [(tn1, .inr (0, [.ref tb1, .int (iI tk1)])), (tb1, .inl (E.1, 224, .inl (ia tg1))), (h1, .inr (1, [.ref tn1, .ref bn1, .int (bI (sgN t n pos)), .int (iI 0)])), (bn1, .inr (0, [.ref ba1, .int (iI bk2_4)])), (ba1, .inl (E.1, 224, .inl (ia bg2_3)))]) B gTB cl_Scanner_76 (c_Scanner_takeWord l D E h tp ar f1 f2 rd em ob oa (sgP t n pos) fr ex hp ta t n 6 (by omega) (hT) (by omega) (by omega)) ⟨⟨rfl, rfl⟩, Nat.le_of_ble_eq_true rfl, Nat.le_of_ble_eq_true rfl⟩ hP hD hS [2, 3, 4] [0, 1, 5, 6, 7] rfl rfl (by decide) 2 rfl rfl rfl ⟨hl.2.1, hl.1⟩ rfl (Nat.le_of_ble_eq_true rfl) d_Scanner_takeNumber_11 ⟨Nat.le_of_ble_eq_true rfl, Nat.le_of_ble_eq_true rfl⟩ rfl (fun u H locs hw hP hD hS => ?_)
  obtain ⟨qw, r_5⟩ := u
  have hP : va_P D classes [(tn1, .inr (0, [.ref tb1, .int (iI tk1)])), (tb1, .inl (E.1, 224, .inl (ia tg1))), (h1, .inr (1, [.ref tn1, .ref bn1, .int (bI (sgN t n pos)), .int (iI 0)])), (bn1, .inr (0, [.ref ba1, .int (iI bk2_4)])), (ba1, .inl (E.1, 224, .inl (ia bg2_3))), (h, .inr (4, [.ref tp, .ref ar, .ref f1, .ref f2, .ref rd, .int (bI em), .int (bI ob), .int (bI oa), .int (iI qw), .int (iI fr), .int (iI ex), .int (bI hp)])), (tp, .inr (3, [.ref ta, .int (iI n)])), (ta, .inl (E.2.1, 400, .inl (ia t)))] H := hP
  have hD : va_D A [(tn1, .inr (0, [.ref tb1, .int (iI tk1)])), (tb1, .inl (E.1, 224, .inl (ia tg1))), (h1, .inr (1, [.ref tn1, .ref bn1, .int (bI (sgN t n pos)), .int (iI 0)])), (bn1, .inr (0, [.ref ba1, .int (iI bk2_4)])), (ba1, .inl (E.1, 224, .inl (ia bg2_3))), (h, .inr (4, [.ref tp, .ref ar, .ref f1, .ref f2, .ref rd, .int (bI em), .int (bI ob), .int (bI oa), .int (iI qw), .int (iI fr), .int (iI ex), .int (bI hp)])), (tp, .inr (3, [.ref ta, .int (iI n)])), (ta, .inl (E.2.1, 400, .inl (ia t)))] := hD
  have hw : (r_5 = wdB t n (sgP t n pos) 6) ∧ (qw = wq t n (sgP t n pos) 6) ∧ ((sgP t n pos) ≤ qw ∧ qw ≤ n) := hw
  obtain ⟨hr_6, hqw, hqw2⟩ := hw
  refine W.cs (g := F0 m 14 ls [.int (bI r_5)]) (cells' := 0) (slots' := 0) rfl rfl ?_
  subst hr_6
  refine lv_istore_n (lv' := [(2, .int (bI (wdB t n (sgP t n pos) 6))), (0, .ref h), (1, .ref h1)]) hx hb d_Scanner_takeNumber_14 rfl hl (by decide) rfl (fun ls hl => ?_)
  refine lv_aload_n hx hb d_Scanner_takeNumber_15 rfl (lv_at hl 1 rfl) ?_
  refine lv_aload_n hx hb d_Scanner_takeNumber_16 rfl (lv_at hl 2 rfl) ?_
  refine wk_get B hP 2 rfl fl_Scanner_130 (v := .ref tn1) rfl d_Scanner_takeNumber_17 ?_
  refine lv_iload_n hx hb d_Scanner_takeNumber_20 rfl (lv_at hl 0 rfl) ?_
  refine wb_if_eq (tgt := 29) hx hb d_Scanner_takeNumber_21 (by decide) (fun c_7 => ?_) (fun c_7 => ?_)
  · skip
    rw [wq_f c_7] at hqw
    subst hqw
    refine wi_bipush hx hb d_Scanner_takeNumber_29 (by decide) ?_
    refine wi_iconst (n := 1) hx hb d_Scanner_takeNumber_31 ?_
    refine w_as1 ?_
    refine wk_callV (As := [.ref tn1, .int (iI 10), .int (bI true)]) (rest := []) (wr := [(h1, .inr (1, [.ref tn1, .ref bn1, .int (bI (sgN t n pos)), .int (iI 0)])), (bn1, .inr (0, [.ref ba1, .int (iI bk2_4)])), (ba1, .inl (E.1, 224, .inl (ia bg2_3)))]) B gTB cl_Scanner_133 (c_Scanner_takeDigits l D E h tp ar f1 f2 rd em ob oa (sgP t n pos) fr ex hp ta t n tn1 tb1 tg1 tk1 10 true (by omega) (hT) (by omega) (by omega)) ⟨⟨rfl, rfl⟩, Nat.le_of_ble_eq_true rfl, Nat.le_of_ble_eq_true rfl⟩ hP hD hS [5, 6, 7, 0, 1] [2, 3, 4] rfl rfl (by decide) 5 rfl rfl rfl ⟨hl.2.1, hl.1⟩ rfl (Nat.le_of_ble_eq_true rfl) d_Scanner_takeNumber_32 ⟨Nat.le_of_ble_eq_true rfl, Nat.le_of_ble_eq_true rfl⟩ rfl (fun u H locs hw hP hD hS => ?_)
    obtain ⟨qdA, fdA, pdA, g2_8, k2_9, r_10⟩ := u
    have hP : va_P D classes [(h1, .inr (1, [.ref tn1, .ref bn1, .int (bI (sgN t n pos)), .int (iI 0)])), (bn1, .inr (0, [.ref ba1, .int (iI bk2_4)])), (ba1, .inl (E.1, 224, .inl (ia bg2_3))), (h, .inr (4, [.ref tp, .ref ar, .ref f1, .ref f2, .ref rd, .int (bI em), .int (bI ob), .int (bI oa), .int (iI qdA), .int (iI fdA), .int (iI ex), .int (bI pdA)])), (tp, .inr (3, [.ref ta, .int (iI n)])), (ta, .inl (E.2.1, 400, .inl (ia t))), (tn1, .inr (0, [.ref tb1, .int (iI k2_9)])), (tb1, .inl (E.1, 224, .inl (ia g2_8)))] H := hP
    have hD : va_D A [(h1, .inr (1, [.ref tn1, .ref bn1, .int (bI (sgN t n pos)), .int (iI 0)])), (bn1, .inr (0, [.ref ba1, .int (iI bk2_4)])), (ba1, .inl (E.1, 224, .inl (ia bg2_3))), (h, .inr (4, [.ref tp, .ref ar, .ref f1, .ref f2, .ref rd, .int (bI em), .int (bI ob), .int (bI oa), .int (iI qdA), .int (iI fdA), .int (iI ex), .int (bI pdA)])), (tp, .inr (3, [.ref ta, .int (iI n)])), (ta, .inl (E.2.1, 400, .inl (ia t))), (tn1, .inr (0, [.ref tb1, .int (iI k2_9)])), (tb1, .inl (E.1, 224, .inl (ia g2_8)))] := hD
    have hw : (NatOK g2_8 k2_9 (DGs t n 10 true (sgP t n pos) (0, 0, 0, false)).2.1) ∧ (qdA = (DGs t n 10 true (sgP t n pos) (0, 0, 0, false)).1) ∧ (r_10 = decide (0 < (DGs t n 10 true (sgP t n pos) (0, 0, 0, false)).2.2.1)) ∧ (fdA = (DGs t n 10 true (sgP t n pos) (0, 0, 0, false)).2.2.2.1) ∧ (pdA = (DGs t n 10 true (sgP t n pos) (0, 0, 0, false)).2.2.2.2) ∧ ((sgP t n pos) ≤ qdA ∧ qdA ≤ n) ∧ (0 ≤ fdA ∧ fdA ≤ (DGs t n 10 true (sgP t n pos) (0, 0, 0, false)).2.2.1 ∧ (DGs t n 10 true (sgP t n pos) (0, 0, 0, false)).2.2.1 ≤ qdA - (sgP t n pos)) ∧ (0 ≤ (DGs t n 10 true (sgP t n pos) (0, 0, 0, false)).2.1 ∧ (DGs t n 10 true (sgP t n pos) (0, 0, 0, false)).2.1 < P2 (4 * (DGs t n 10 true (sgP t n pos) (0, 0, 0, false)).2.2.1)) := hw
    obtain ⟨hMA, hqA, hr_11, hfr2A, hhp2A, hq2A, hb2A, hv2A⟩ := hw
    refine W.cs (g := F0 m 35 ls [.int (bI r_10)]) (cells' := 0) (slots' := 0) rfl rfl ?_
    subst hr_11
    obtain ⟨vdA, cdA, hDeA⟩ : ∃ v9 c9, DGs t n 10 true (sgP t n pos) (0, 0, 0, false) = (qdA, v9, c9, fdA, pdA) := ⟨(DGs t n 10 true (sgP t n pos) (0, 0, 0, false)).2.1, (DGs t n 10 true (sgP t n pos) (0, 0, 0, false)).2.2.1, by rw [hqA, hfr2A, hhp2A]⟩
    rw [hDeA] at hMA hb2A hv2A ⊢
    have hMA : NatOK g2_8 k2_9 vdA := hMA
    have hb2A : 0 ≤ fdA ∧ fdA ≤ cdA ∧ cdA ≤ qdA - (sgP t n pos) := hb2A
    have hv2A : 0 ≤ vdA ∧ vdA < P2 (4 * cdA) := hv2A
    refine W.eq (g2 := F0 m 35 ls [.int (bI (decide (0 < cdA)))]) rfl ?_
    refine wb_if_ne (tgt := 40) hx hb d_Scanner_takeNumber_35 (by decide) (fun c_12 => ?_) (fun c_12 => ?_)
    · skip
      refine lv_iload_n hx hb d_Scanner_takeNumber_40 rfl (lv_at hl 0 rfl) ?_
      refine wb_if_eq (tgt := 70) hx hb d_Scanner_takeNumber_41 (by decide) (fun c_13 => ?_) (fun c_13 => by exfalso; rw [c_7] at c_13; cases c_13)
      refine lv_aload_n hx hb d_Scanner_takeNumber_70 rfl (lv_at hl 1 rfl) ?_
      refine wk_get B hP 3 rfl fl_Scanner_150 (v := .int (bI pdA)) rfl d_Scanner_takeNumber_71 ?_
      refine wb_if_ne (tgt := 116) hx hb d_Scanner_takeNumber_74 (by decide) (fun c_14 => ?_) (fun c_14 => ?_)
      · skip
        refine lv_aload_n hx hb d_Scanner_takeNumber_116 rfl (lv_at hl 1 rfl) ?_
        refine wi_bipush hx hb d_Scanner_takeNumber_117 (by decide) ?_
        refine wi_iconst (n := 3) hx hb d_Scanner_takeNumber_119 ?_
        refine wi_iconst (n := 1) hx hb d_Scanner_takeNumber_120 ?_
        refine w_as1 ?_
        refine wk_callV (As := [.int (iI 101), .int (iI 3), .int (bI true)]) (rest := []) (wr := [(h1, .inr (1, [.ref tn1, .ref bn1, .int (bI (sgN t n pos)), .int (iI 0)])), (bn1, .inr (0, [.ref ba1, .int (iI bk2_4)])), (ba1, .inl (E.1, 224, .inl (ia bg2_3))), (tn1, .inr (0, [.ref tb1, .int (iI k2_9)])), (tb1, .inl (E.1, 224, .inl (ia g2_8)))]) B gTB cl_Scanner_137 (c_Scanner_takeExponent l D E h tp ar f1 f2 rd em ob oa qdA fdA ex pdA ta t n 101 3 true (by omega) (hT) (by omega) (by omega) (by omega)) ⟨⟨rfl, rfl⟩, Nat.le_of_ble_eq_true rfl, Nat.le_of_ble_eq_true rfl⟩ hP hD hS [3, 4, 5] [0, 1, 2, 6, 7] rfl rfl (by decide) 3 rfl rfl rfl ⟨hl.2.1, hl.1⟩ rfl (Nat.le_of_ble_eq_true rfl) d_Scanner_takeNumber_121 ⟨Nat.le_of_ble_eq_true rfl, Nat.le_of_ble_eq_true rfl⟩ rfl (fun u H locs hw hP hD hS => ?_)
        obtain ⟨qe, exv, r_15⟩ := u
        have hP : va_P D classes [(h1, .inr (1, [.ref tn1, .ref bn1, .int (bI (sgN t n pos)), .int (iI 0)])), (bn1, .inr (0, [.ref ba1, .int (iI bk2_4)])), (ba1, .inl (E.1, 224, .inl (ia bg2_3))), (tn1, .inr (0, [.ref tb1, .int (iI k2_9)])), (tb1, .inl (E.1, 224, .inl (ia g2_8))), (h, .inr (4, [.ref tp, .ref ar, .ref f1, .ref f2, .ref rd, .int (bI em), .int (bI ob), .int (bI oa), .int (iI qe), .int (iI fdA), .int (iI exv), .int (bI pdA)])), (tp, .inr (3, [.ref ta, .int (iI n)])), (ta, .inl (E.2.1, 400, .inl (ia t)))] H := hP
        have hD : va_D A [(h1, .inr (1, [.ref tn1, .ref bn1, .int (bI (sgN t n pos)), .int (iI 0)])), (bn1, .inr (0, [.ref ba1, .int (iI bk2_4)])), (ba1, .inl (E.1, 224, .inl (ia bg2_3))), (tn1, .inr (0, [.ref tb1, .int (iI k2_9)])), (tb1, .inl (E.1, 224, .inl (ia g2_8))), (h, .inr (4, [.ref tp, .ref ar, .ref f1, .ref f2, .ref rd, .int (bI em), .int (bI ob), .int (bI oa), .int (iI qe), .int (iI fdA), .int (iI exv), .int (bI pdA)])), (tp, .inr (3, [.ref ta, .int (iI n)])), (ta, .inl (E.2.1, 400, .inl (ia t)))] := hD
        have hw : (r_15 = (EXP t n 101 (Int.toNat 3) true qdA).1) ∧ (qe = (EXP t n 101 (Int.toNat 3) true qdA).2.1) ∧ (exv = (EXP t n 101 (Int.toNat 3) true qdA).2.2) ∧ (qdA ≤ qe ∧ qe ≤ n) ∧ (-10000 < exv ∧ exv < 10000) := hw
        obtain ⟨hr_16, hqe, hxe, hqe2, hxe3⟩ := hw
        refine W.cs (g := F0 m 124 ls [.int (bI r_15)]) (cells' := 0) (slots' := 0) rfl rfl ?_
        subst hr_16
        refine lv_istore_n (lv' := [(3, .int (bI ((EXP t n 101 (Int.toNat 3) true qdA).1))), (2, .int (bI (wdB t n (sgP t n pos) 6))), (0, .ref h), (1, .ref h1)]) hx hb d_Scanner_takeNumber_124 rfl hl (by decide) rfl (fun ls hl => ?_)
        have hx9 := EXP_3 hxe
        have hsz1 := (num_size (len := qe - pos) hv2A (by omega) (exv - fdA) (by omega)).2
        have hsz2 := (num_bot (len := qe - pos) (e := -(exv - fdA)) (by omega) (by omega)).2
        refine lv_aload_n hx hb d_Scanner_takeNumber_125 rfl (lv_at hl 3 rfl) ?_
        refine lv_aload_n hx hb d_Scanner_takeNumber_126 rfl (lv_at hl 2 rfl) ?_
        refine wk_get B hP 5 rfl fl_Scanner_141 (v := .int (iI exv)) rfl d_Scanner_takeNumber_127 ?_
        refine lv_aload_n hx hb d_Scanner_takeNumber_130 rfl (lv_at hl 2 rfl) ?_
        refine wk_get B hP 5 rfl fl_Scanner_144 (v := .int (iI fdA)) rfl d_Scanner_takeNumber_131 ?_
        refine wi_isub hx hb d_Scanner_takeNumber_134 ?_
        refine wk_callV (As := [.int (iI (exv - fdA))]) (rest := []) (wr := [(h, .inr (4, [.ref tp, .ref ar, .ref f1, .ref f2, .ref rd, .int (bI em), .int (bI ob), .int (bI oa), .int (iI qe), .int (iI fdA), .int (iI exv), .int (bI pdA)])), (tp, .inr (3, [.ref ta, .int (iI n)])), (ta, .inl (E.2.1, 400, .inl (ia t)))]) B gTB cl_Scanner_159 (c_Ratio_timesPowerOfTen l D E h1 tn1 tb1 bn1 ba1 g2_8 bg2_3 k2_9 bk2_4 0 (sgN t n pos) (exv - fdA) vdA 1 (hMA) (hBB) (by omega) (by omega) (num_fit hsz1 (by omega)) (by rw [Int.one_mul]; exact num_fit hsz2 (by omega))) ⟨⟨rfl, rfl⟩, Nat.le_of_ble_eq_true rfl, Nat.le_of_ble_eq_true rfl⟩ hP hD hS [0, 3, 4, 1, 2] [5, 6, 7] rfl rfl (by decide) 0 rfl rfl rfl ⟨hl.2.1, hl.1⟩ rfl (Nat.le_of_ble_eq_true rfl) d_Scanner_takeNumber_135 ⟨Nat.le_of_ble_eq_true rfl, Nat.le_of_ble_eq_true rfl⟩ rfl (fun u H locs hw hP hD hS => ?_)
        obtain ⟨tg3_17, bg3_18, tk3_19, bk3_20⟩ := u
        have hP : va_P D classes [(h, .inr (4, [.ref tp, .ref ar, .ref f1, .ref f2, .ref rd, .int (bI em), .int (bI ob), .int (bI oa), .int (iI qe), .int (iI fdA), .int (iI exv), .int (bI pdA)])), (tp, .inr (3, [.ref ta, .int (iI n)])), (ta, .inl (E.2.1, 400, .inl (ia t))), (h1, .inr (1, [.ref tn1, .ref bn1, .int (bI (sgN t n pos)), .int (iI (0 + (exv - fdA)))])), (tn1, .inr (0, [.ref tb1, .int (iI tk3_19)])), (tb1, .inl (E.1, 224, .inl (ia tg3_17))), (bn1, .inr (0, [.ref ba1, .int (iI bk3_20)])), (ba1, .inl (E.1, 224, .inl (ia bg3_18)))] H := hP
        have hD : va_D A [(h, .inr (4, [.ref tp, .ref ar, .ref f1, .ref f2, .ref rd, .int (bI em), .int (bI ob), .int (bI oa), .int (iI qe), .int (iI fdA), .int (iI exv), .int (bI pdA)])), (tp, .inr (3, [.ref ta, .int (iI n)])), (ta, .inl (E.2.1, 400, .inl (ia t))), (h1, .inr (1, [.ref tn1, .ref bn1, .int (bI (sgN t n pos)), .int (iI (0 + (exv - fdA)))])), (tn1, .inr (0, [.ref tb1, .int (iI tk3_19)])), (tb1, .inl (E.1, 224, .inl (ia tg3_17))), (bn1, .inr (0, [.ref ba1, .int (iI bk3_20)])), (ba1, .inl (E.1, 224, .inl (ia bg3_18)))] := hD
        have hw : (NatOK tg3_17 tk3_19 (vdA * P5 (exv - fdA))) ∧ (NatOK bg3_18 bk3_20 (1 * P5 (-(exv - fdA)))) := hw
        obtain ⟨hT9, hB9⟩ := hw
        refine W.cs (g := F0 m 138 ls []) (cells' := 0) (slots' := 0) rfl rfl ?_
        refine lv_iload_n hx hb d_Scanner_takeNumber_138 rfl (lv_at hl 0 rfl) ?_
        exact ret (qe, fdA, exv, pdA, sgN t n pos, tg3_17, bg3_18, tk3_19, bk3_20, 0 + (exv - fdA), vdA * P5 (exv - fdA), P5 (-(exv - fdA)), (EXP t n 101 (Int.toNat 3) true qdA).1) _ _ _ _ d_Scanner_takeNumber_139 (show (((EXP t n 101 (Int.toNat 3) true qdA).1) = (NUM t n pos).1) ∧ (pos ≤ qe ∧ qe ≤ n) ∧ (((EXP t n 101 (Int.toNat 3) true qdA).1) = true → (NatOK tg3_17 tk3_19 (vdA * P5 (exv - fdA)) ∧ NatOK bg3_18 bk3_20 (P5 (-(exv - fdA)))) ∧ 0 < (P5 (-(exv - fdA))) ∧ NUM t n pos = (true, qe, (sgN t n pos), (vdA * P5 (exv - fdA)), (P5 (-(exv - fdA))), (0 + (exv - fdA))) ∧ ((vdA * P5 (exv - fdA)) < P2 (4 * (qe - pos) + 2340) ∧ (P5 (-(exv - fdA))) < P2 (4 * (qe - pos) + 2340)) ∧ (-12000 < (0 + (exv - fdA)) ∧ (0 + (exv - fdA)) < 12000)) from ⟨by rw [NUM_d c_7 hDeA (of_decide_eq_true c_12) (by first | exact Or.inl c_14 | exact Or.inr c_23)], by omega, fun z => ⟨⟨hT9, by rw [Int.one_mul] at hB9; exact hB9⟩, P5_pos _, by rw [NUM_d c_7 hDeA (of_decide_eq_true c_12) (by first | exact Or.inl c_14 | exact Or.inr c_23), z, ← hqe, ← hxe, Int.zero_add], ⟨hsz1, hsz2⟩, by omega⟩⟩) (hP.sub [0, 1, 2, 3, 4, 5, 6, 7] rfl) (hD.sub [0, 1, 2, 3, 4, 5, 6, 7] (by decide) rfl) hS
      · skip
        refine lv_aload_n hx hb d_Scanner_takeNumber_77 rfl (lv_at hl 1 rfl) ?_
        refine va_ldcS hx hb hown (sr_7 hE) d_Scanner_takeNumber_78 ?_
        refine wk_callV (As := [.ref (E.2.2.1 7)]) (rest := []) (wr := [(h1, .inr (1, [.ref tn1, .ref bn1, .int (bI (sgN t n pos)), .int (iI 0)])), (bn1, .inr (0, [.ref ba1, .int (iI bk2_4)])), (ba1, .inl (E.1, 224, .inl (ia bg2_3))), (tn1, .inr (0, [.ref tb1, .int (iI k2_9)])), (tb1, .inl (E.1, 224, .inl (ia g2_8)))]) B gTB cl_Scanner_76 (c_Scanner_takeWord l D E h tp ar f1 f2 rd em ob oa qdA fdA ex pdA ta t n 7 (by omega) (hT) (by omega) (by omega)) ⟨⟨rfl, rfl⟩, Nat.le_of_ble_eq_true rfl, Nat.le_of_ble_eq_true rfl⟩ hP hD hS [3, 4, 5] [0, 1, 2, 6, 7] rfl rfl (by decide) 3 rfl rfl rfl ⟨hl.2.1, hl.1⟩ rfl (Nat.le_of_ble_eq_true rfl) d_Scanner_takeNumber_80 ⟨Nat.le_of_ble_eq_true rfl, Nat.le_of_ble_eq_true rfl⟩ rfl (fun u H locs hw hP hD hS => ?_)
        obtain ⟨qs, r_21⟩ := u
        have hP : va_P D classes [(h1, .inr (1, [.ref tn1, .ref bn1, .int (bI (sgN t n pos)), .int (iI 0)])), (bn1, .inr (0, [.ref ba1, .int (iI bk2_4)])), (ba1, .inl (E.1, 224, .inl (ia bg2_3))), (tn1, .inr (0, [.ref tb1, .int (iI k2_9)])), (tb1, .inl (E.1, 224, .inl (ia g2_8))), (h, .inr (4, [.ref tp, .ref ar, .ref f1, .ref f2, .ref rd, .int (bI em), .int (bI ob), .int (bI oa), .int (iI qs), .int (iI fdA), .int (iI ex), .int (bI pdA)])), (tp, .inr (3, [.ref ta, .int (iI n)])), (ta, .inl (E.2.1, 400, .inl (ia t)))] H := hP
        have hD : va_D A [(h1, .inr (1, [.ref tn1, .ref bn1, .int (bI (sgN t n pos)), .int (iI 0)])), (bn1, .inr (0, [.ref ba1, .int (iI bk2_4)])), (ba1, .inl (E.1, 224, .inl (ia bg2_3))), (tn1, .inr (0, [.ref tb1, .int (iI k2_9)])), (tb1, .inl (E.1, 224, .inl (ia g2_8))), (h, .inr (4, [.ref tp, .ref ar, .ref f1, .ref f2, .ref rd, .int (bI em), .int (bI ob), .int (bI oa), .int (iI qs), .int (iI fdA), .int (iI ex), .int (bI pdA)])), (tp, .inr (3, [.ref ta, .int (iI n)])), (ta, .inl (E.2.1, 400, .inl (ia t)))] := hD
        have hw : (r_21 = wdB t n qdA 7) ∧ (qs = wq t n qdA 7) ∧ (qdA ≤ qs ∧ qs ≤ n) := hw
        obtain ⟨hr_22, hqs, hqs2⟩ := hw
        refine W.cs (g := F0 m 83 ls [.int (bI r_21)]) (cells' := 0) (slots' := 0) rfl rfl ?_
        subst hr_22
        refine wb_if_eq (tgt := 116) hx hb d_Scanner_takeNumber_83 (by decide) (fun c_23 => ?_) (fun c_23 => ?_)
        · skip
          rw [wq_f c_23] at hqs
          have hqs := hqs.symm
          subst hqs
          refine lv_aload_n hx hb d_Scanner_takeNumber_116 rfl (lv_at hl 1 rfl) ?_
          refine wi_bipush hx hb d_Scanner_takeNumber_117 (by decide) ?_
          refine wi_iconst (n := 3) hx hb d_Scanner_takeNumber_119 ?_
          refine wi_iconst (n := 1) hx hb d_Scanner_takeNumber_120 ?_
          refine w_as1 ?_
          refine wk_callV (As := [.int (iI 101), .int (iI 3), .int (bI true)]) (rest := []) (wr := [(h1, .inr (1, [.ref tn1, .ref bn1, .int (bI (sgN t n pos)), .int (iI 0)])), (bn1, .inr (0, [.ref ba1, .int (iI bk2_4)])), (ba1, .inl (E.1, 224, .inl (ia bg2_3))), (tn1, .inr (0, [.ref tb1, .int (iI k2_9)])), (tb1, .inl (E.1, 224, .inl (ia g2_8)))]) B gTB cl_Scanner_137 (c_Scanner_takeExponent l D E h tp ar f1 f2 rd em ob oa qdA fdA ex pdA ta t n 101 3 true (by omega) (hT) (by omega) (by omega) (by omega)) ⟨⟨rfl, rfl⟩, Nat.le_of_ble_eq_true rfl, Nat.le_of_ble_eq_true rfl⟩ hP hD hS [5, 6, 7] [0, 1, 2, 3, 4] rfl rfl (by decide) 5 rfl rfl rfl ⟨hl.2.1, hl.1⟩ rfl (Nat.le_of_ble_eq_true rfl) d_Scanner_takeNumber_121 ⟨Nat.le_of_ble_eq_true rfl, Nat.le_of_ble_eq_true rfl⟩ rfl (fun u H locs hw hP hD hS => ?_)
          obtain ⟨qe, exv, r_24⟩ := u
          have hP : va_P D classes [(h1, .inr (1, [.ref tn1, .ref bn1, .int (bI (sgN t n pos)), .int (iI 0)])), (bn1, .inr (0, [.ref ba1, .int (iI bk2_4)])), (ba1, .inl (E.1, 224, .inl (ia bg2_3))), (tn1, .inr (0, [.ref tb1, .int (iI k2_9)])), (tb1, .inl (E.1, 224, .inl (ia g2_8))), (h, .inr (4, [.ref tp, .ref ar, .ref f1, .ref f2, .ref rd, .int (bI em), .int (bI ob), .int (bI oa), .int (iI qe), .int (iI fdA), .int (iI exv), .int (bI pdA)])), (tp, .inr (3, [.ref ta, .int (iI n)])), (ta, .inl (E.2.1, 400, .inl (ia t)))] H := hP
          have hD : va_D A [(h1, .inr (1, [.ref tn1, .ref bn1, .int (bI (sgN t n pos)), .int (iI 0)])), (bn1, .inr (0, [.ref ba1, .int (iI bk2_4)])), (ba1, .inl (E.1, 224, .inl (ia bg2_3))), (tn1, .inr (0, [.ref tb1, .int (iI k2_9)])), (tb1, .inl (E.1, 224, .inl (ia g2_8))), (h, .inr (4, [.ref tp, .ref ar, .ref f1, .ref f2, .ref rd, .int (bI em), .int (bI ob), .int (bI oa), .int (iI qe), .int (iI fdA), .int (iI exv), .int (bI pdA)])), (tp, .inr (3, [.ref ta, .int (iI n)])), (ta, .inl (E.2.1, 400, .inl (ia t)))] := hD
          have hw : (r_24 = (EXP t n 101 (Int.toNat 3) true qdA).1) ∧ (qe = (EXP t n 101 (Int.toNat 3) true qdA).2.1) ∧ (exv = (EXP t n 101 (Int.toNat 3) true qdA).2.2) ∧ (qdA ≤ qe ∧ qe ≤ n) ∧ (-10000 < exv ∧ exv < 10000) := hw
          obtain ⟨hr_25, hqe, hxe, hqe2, hxe3⟩ := hw
          refine W.cs (g := F0 m 124 ls [.int (bI r_24)]) (cells' := 0) (slots' := 0) rfl rfl ?_
          subst hr_25
          refine lv_istore_n (lv' := [(3, .int (bI ((EXP t n 101 (Int.toNat 3) true qdA).1))), (2, .int (bI (wdB t n (sgP t n pos) 6))), (0, .ref h), (1, .ref h1)]) hx hb d_Scanner_takeNumber_124 rfl hl (by decide) rfl (fun ls hl => ?_)
          have hx9 := EXP_3 hxe
          have hsz1 := (num_size (len := qe - pos) hv2A (by omega) (exv - fdA) (by omega)).2
          have hsz2 := (num_bot (len := qe - pos) (e := -(exv - fdA)) (by omega) (by omega)).2
          refine lv_aload_n hx hb d_Scanner_takeNumber_125 rfl (lv_at hl 3 rfl) ?_
          refine lv_aload_n hx hb d_Scanner_takeNumber_126 rfl (lv_at hl 2 rfl) ?_
          refine wk_get B hP 5 rfl fl_Scanner_141 (v := .int (iI exv)) rfl d_Scanner_takeNumber_127 ?_
          refine lv_aload_n hx hb d_Scanner_takeNumber_130 rfl (lv_at hl 2 rfl) ?_
          refine wk_get B hP 5 rfl fl_Scanner_144 (v := .int (iI fdA)) rfl d_Scanner_takeNumber_131 ?_
          refine wi_isub hx hb d_Scanner_takeNumber_134 ?_
          refine wk_callV (As := [.int (iI (exv - fdA))]) (rest := []) (wr := [(h, .inr (4, [.ref tp, .ref ar, .ref f1, .ref f2, .ref rd, .int (bI em), .int (bI ob), .int (bI oa), .int (iI qe), .int (iI fdA), .int (iI exv), .int (bI pdA)])), (tp, .inr (3, [.ref ta, .int (iI n)])), (ta, .inl (E.2.1, 400, .inl (ia t)))]) B gTB cl_Scanner_159 (c_Ratio_timesPowerOfTen l D E h1 tn1 tb1 bn1 ba1 g2_8 bg2_3 k2_9 bk2_4 0 (sgN t n pos) (exv - fdA) vdA 1 (hMA) (hBB) (by omega) (by omega) (num_fit hsz1 (by omega)) (by rw [Int.one_mul]; exact num_fit hsz2 (by omega))) ⟨⟨rfl, rfl⟩, Nat.le_of_ble_eq_true rfl, Nat.le_of_ble_eq_true rfl⟩ hP hD hS [0, 3, 4, 1, 2] [5, 6, 7] rfl rfl (by decide) 0 rfl rfl rfl ⟨hl.2.1, hl.1⟩ rfl (Nat.le_of_ble_eq_true rfl) d_Scanner_takeNumber_135 ⟨Nat.le_of_ble_eq_true rfl, Nat.le_of_ble_eq_true rfl⟩ rfl (fun u H locs hw hP hD hS => ?_)
          obtain ⟨tg3_26, bg3_27, tk3_28, bk3_29⟩ := u
          have hP : va_P D classes [(h, .inr (4, [.ref tp, .ref ar, .ref f1, .ref f2, .ref rd, .int (bI em), .int (bI ob), .int (bI oa), .int (iI qe), .int (iI fdA), .int (iI exv), .int (bI pdA)])), (tp, .inr (3, [.ref ta, .int (iI n)])), (ta, .inl (E.2.1, 400, .inl (ia t))), (h1, .inr (1, [.ref tn1, .ref bn1, .int (bI (sgN t n pos)), .int (iI (0 + (exv - fdA)))])), (tn1, .inr (0, [.ref tb1, .int (iI tk3_28)])), (tb1, .inl (E.1, 224, .inl (ia tg3_26))), (bn1, .inr (0, [.ref ba1, .int (iI bk3_29)])), (ba1, .inl (E.1, 224, .inl (ia bg3_27)))] H := hP
          have hD : va_D A [(h, .inr (4, [.ref tp, .ref ar, .ref f1, .ref f2, .ref rd, .int (bI em), .int (bI ob), .int (bI oa), .int (iI qe), .int (iI fdA), .int (iI exv), .int (bI pdA)])), (tp, .inr (3, [.ref ta, .int (iI n)])), (ta, .inl (E.2.1, 400, .inl (ia t))), (h1, .inr (1, [.ref tn1, .ref bn1, .int (bI (sgN t n pos)), .int (iI (0 + (exv - fdA)))])), (tn1, .inr (0, [.ref tb1, .int (iI tk3_28)])), (tb1, .inl (E.1, 224, .inl (ia tg3_26))), (bn1, .inr (0, [.ref ba1, .int (iI bk3_29)])), (ba1, .inl (E.1, 224, .inl (ia bg3_27)))] := hD
          have hw : (NatOK tg3_26 tk3_28 (vdA * P5 (exv - fdA))) ∧ (NatOK bg3_27 bk3_29 (1 * P5 (-(exv - fdA)))) := hw
          obtain ⟨hT9, hB9⟩ := hw
          refine W.cs (g := F0 m 138 ls []) (cells' := 0) (slots' := 0) rfl rfl ?_
          refine lv_iload_n hx hb d_Scanner_takeNumber_138 rfl (lv_at hl 0 rfl) ?_
          exact ret (qe, fdA, exv, pdA, sgN t n pos, tg3_26, bg3_27, tk3_28, bk3_29, 0 + (exv - fdA), vdA * P5 (exv - fdA), P5 (-(exv - fdA)), (EXP t n 101 (Int.toNat 3) true qdA).1) _ _ _ _ d_Scanner_takeNumber_139 (show (((EXP t n 101 (Int.toNat 3) true qdA).1) = (NUM t n pos).1) ∧ (pos ≤ qe ∧ qe ≤ n) ∧ (((EXP t n 101 (Int.toNat 3) true qdA).1) = true → (NatOK tg3_26 tk3_28 (vdA * P5 (exv - fdA)) ∧ NatOK bg3_27 bk3_29 (P5 (-(exv - fdA)))) ∧ 0 < (P5 (-(exv - fdA))) ∧ NUM t n pos = (true, qe, (sgN t n pos), (vdA * P5 (exv - fdA)), (P5 (-(exv - fdA))), (0 + (exv - fdA))) ∧ ((vdA * P5 (exv - fdA)) < P2 (4 * (qe - pos) + 2340) ∧ (P5 (-(exv - fdA))) < P2 (4 * (qe - pos) + 2340)) ∧ (-12000 < (0 + (exv - fdA)) ∧ (0 + (exv - fdA)) < 12000)) from ⟨by rw [NUM_d c_7 hDeA (of_decide_eq_true c_12) (by first | exact Or.inl c_14 | exact Or.inr c_23)], by omega, fun z => ⟨⟨hT9, by rw [Int.one_mul] at hB9; exact hB9⟩, P5_pos _, by rw [NUM_d c_7 hDeA (of_decide_eq_true c_12) (by first | exact Or.inl c_14 | exact Or.inr c_23), z, ← hqe, ← hxe, Int.zero_add], ⟨hsz1, hsz2⟩, by omega⟩⟩) (hP.sub [0, 1, 2, 3, 4, 5, 6, 7] rfl) (hD.sub [0, 1, 2, 3, 4, 5, 6, 7] (by decide) rfl) hS
        · skip
          rw [wq_t c_23] at hqs
          subst hqs
          refine lv_aload_n hx hb d_Scanner_takeNumber_86 rfl (lv_at hl 1 rfl) ?_
          refine lv_aload_n hx hb d_Scanner_takeNumber_87 rfl (lv_at hl 2 rfl) ?_
          refine wk_get B hP 0 rfl fl_Scanner_155 (v := .ref bn1) rfl d_Scanner_takeNumber_88 ?_
          refine wi_bipush hx hb d_Scanner_takeNumber_91 (by decide) ?_
          refine wi_iconst (n := 0) hx hb d_Scanner_takeNumber_93 ?_
          refine w_as0 ?_
          refine wk_callV (As := [.ref bn1, .int (iI 10), .int (bI false)]) (rest := []) (wr := [(h1, .inr (1, [.ref tn1, .ref bn1, .int (bI (sgN t n pos)), .int (iI 0)])), (tn1, .inr (0, [.ref tb1, .int (iI k2_9)])), (tb1, .inl (E.1, 224, .inl (ia g2_8)))]) B gTB cl_Scanner_133 (c_Scanner_takeDigits l D E h tp ar f1 f2 rd em ob oa (qdA + (strLen 7 : Int)) fdA ex pdA ta t n bn1 ba1 bg2_3 bk2_4 10 false (by omega) (hT) (by omega) (by omega)) ⟨⟨rfl, rfl⟩, Nat.le_of_ble_eq_true rfl, Nat.le_of_ble_eq_true rfl⟩ hP hD hS [5, 6, 7, 1, 2] [0, 3, 4] rfl rfl (by decide) 5 rfl rfl rfl ⟨hl.2.1, hl.1⟩ rfl (Nat.le_of_ble_eq_true rfl) d_Scanner_takeNumber_94 ⟨Nat.le_of_ble_eq_true rfl, Nat.le_of_ble_eq_true rfl⟩ rfl (fun u H locs hw hP hD hS => ?_)
          obtain ⟨qdC, fdC, pdC, g2_30, k2_31, r_32⟩ := u
          have hP : va_P D classes [(h1, .inr (1, [.ref tn1, .ref bn1, .int (bI (sgN t n pos)), .int (iI 0)])), (tn1, .inr (0, [.ref tb1, .int (iI k2_9)])), (tb1, .inl (E.1, 224, .inl (ia g2_8))), (h, .inr (4, [.ref tp, .ref ar, .ref f1, .ref f2, .ref rd, .int (bI em), .int (bI ob), .int (bI oa), .int (iI qdC), .int (iI fdC), .int (iI ex), .int (bI pdC)])), (tp, .inr (3, [.ref ta, .int (iI n)])), (ta, .inl (E.2.1, 400, .inl (ia t))), (bn1, .inr (0, [.ref ba1, .int (iI k2_31)])), (ba1, .inl (E.1, 224, .inl (ia g2_30)))] H := hP
          have hD : va_D A [(h1, .inr (1, [.ref tn1, .ref bn1, .int (bI (sgN t n pos)), .int (iI 0)])), (tn1, .inr (0, [.ref tb1, .int (iI k2_9)])), (tb1, .inl (E.1, 224, .inl (ia g2_8))), (h, .inr (4, [.ref tp, .ref ar, .ref f1, .ref f2, .ref rd, .int (bI em), .int (bI ob), .int (bI oa), .int (iI qdC), .int (iI fdC), .int (iI ex), .int (bI pdC)])), (tp, .inr (3, [.ref ta, .int (iI n)])), (ta, .inl (E.2.1, 400, .inl (ia t))), (bn1, .inr (0, [.ref ba1, .int (iI k2_31)])), (ba1, .inl (E.1, 224, .inl (ia g2_30)))] := hD
          have hw : (NatOK g2_30 k2_31 (DGs t n 10 false (qdA + (strLen 7 : Int)) (0, 0, 0, false)).2.1) ∧ (qdC = (DGs t n 10 false (qdA + (strLen 7 : Int)) (0, 0, 0, false)).1) ∧ (r_32 = decide (0 < (DGs t n 10 false (qdA + (strLen 7 : Int)) (0, 0, 0, false)).2.2.1)) ∧ (fdC = (DGs t n 10 false (qdA + (strLen 7 : Int)) (0, 0, 0, false)).2.2.2.1) ∧ (pdC = (DGs t n 10 false (qdA + (strLen 7 : Int)) (0, 0, 0, false)).2.2.2.2) ∧ ((qdA + (strLen 7 : Int)) ≤ qdC ∧ qdC ≤ n) ∧ (0 ≤ fdC ∧ fdC ≤ (DGs t n 10 false (qdA + (strLen 7 : Int)) (0, 0, 0, false)).2.2.1 ∧ (DGs t n 10 false (qdA + (strLen 7 : Int)) (0, 0, 0, false)).2.2.1 ≤ qdC - (qdA + (strLen 7 : Int))) ∧ (0 ≤ (DGs t n 10 false (qdA + (strLen 7 : Int)) (0, 0, 0, false)).2.1 ∧ (DGs t n 10 false (qdA + (strLen 7 : Int)) (0, 0, 0, false)).2.1 < P2 (4 * (DGs t n 10 false (qdA + (strLen 7 : Int)) (0, 0, 0, false)).2.2.1)) := hw
          obtain ⟨hMC, hqC, hr_33, hfr2C, hhp2C, hq2C, hb2C, hv2C⟩ := hw
          refine W.cs (g := F0 m 97 ls [.int (bI r_32)]) (cells' := 0) (slots' := 0) rfl rfl ?_
          subst hr_33
          obtain ⟨vdC, cdC, hDeC⟩ : ∃ v9 c9, DGs t n 10 false (qdA + (strLen 7 : Int)) (0, 0, 0, false) = (qdC, v9, c9, fdC, pdC) := ⟨(DGs t n 10 false (qdA + (strLen 7 : Int)) (0, 0, 0, false)).2.1, (DGs t n 10 false (qdA + (strLen 7 : Int)) (0, 0, 0, false)).2.2.1, by rw [hqC, hfr2C, hhp2C]⟩
          rw [hDeC] at hMC hb2C hv2C ⊢
          have hMC : NatOK g2_30 k2_31 vdC := hMC
          have hb2C : 0 ≤ fdC ∧ fdC ≤ cdC ∧ cdC ≤ qdC - (qdA + (strLen 7 : Int)) := hb2C
          have hv2C : 0 ≤ vdC ∧ vdC < P2 (4 * cdC) := hv2C
          refine W.eq (g2 := F0 m 97 ls [.int (bI (decide (0 < cdC)))]) rfl ?_
          refine wb_if_eq (tgt := 114) hx hb d_Scanner_takeNumber_97 (by decide) (fun c_34 => ?_) (fun c_34 => ?_)
          · skip
            refine wi_iconst (n := 0) hx hb d_Scanner_takeNumber_114 ?_
            refine w_as0 ?_
            exact ret (qdC, fdC, ex, pdC, sgN t n pos, g2_8, g2_30, k2_9, k2_31, 0, 0, 0, false) _ _ _ _ d_Scanner_takeNumber_115 (show (false = (NUM t n pos).1) ∧ (pos ≤ qdC ∧ qdC ≤ n) ∧ (false = true → (NatOK g2_8 k2_9 0 ∧ NatOK g2_30 k2_31 0) ∧ 0 < 0 ∧ NUM t n pos = (true, qdC, (sgN t n pos), 0, 0, 0) ∧ (0 < P2 (4 * (qdC - pos) + 2340) ∧ 0 < P2 (4 * (qdC - pos) + 2340)) ∧ (-12000 < 0 ∧ 0 < 12000)) from ⟨(NUM_rf c_7 hDeA (of_decide_eq_true c_12) c_14 c_23 hDeC (by first | exact Or.inl (of_decide_eq_false c_34) | exact Or.inr (by omega))).symm, by omega, fun z => (by cases z)⟩) (hP.sub [3, 4, 5, 0, 1, 2, 6, 7] rfl) (hD.sub [3, 4, 5, 0, 1, 2, 6, 7] (by decide) rfl) hS
          · skip
            have hkC := hMC.k
            have hzC := hMC.zero
            have hnC := hMC.bd
            refine lv_aload_n hx hb d_Scanner_takeNumber_100 rfl (lv_at hl 2 rfl) ?_
            refine wk_get B hP 0 rfl fl_Scanner_155 (v := .ref bn1) rfl d_Scanner_takeNumber_101 ?_
            refine wk_get B hP 6 rfl fl_Scanner_158 (v := .int (iI k2_31)) rfl d_Scanner_takeNumber_104 ?_
            refine wi_if_le (tgt := 114) hx hb d_Scanner_takeNumber_107 (by decide) (by omega) (fun c_35 => ?_) (fun c_35 => ?_)
            · skip
              refine wi_iconst (n := 0) hx hb d_Scanner_takeNumber_114 ?_
              refine w_as0 ?_
              exact ret (qdC, fdC, ex, pdC, sgN t n pos, g2_8, g2_30, k2_9, k2_31, 0, 0, 0, false) _ _ _ _ d_Scanner_takeNumber_115 (show (false = (NUM t n pos).1) ∧ (pos ≤ qdC ∧ qdC ≤ n) ∧ (false = true → (NatOK g2_8 k2_9 0 ∧ NatOK g2_30 k2_31 0) ∧ 0 < 0 ∧ NUM t n pos = (true, qdC, (sgN t n pos), 0, 0, 0) ∧ (0 < P2 (4 * (qdC - pos) + 2340) ∧ 0 < P2 (4 * (qdC - pos) + 2340)) ∧ (-12000 < 0 ∧ 0 < 12000)) from ⟨(NUM_rf c_7 hDeA (of_decide_eq_true c_12) c_14 c_23 hDeC (by first | exact Or.inl (of_decide_eq_false c_34) | exact Or.inr (by omega))).symm, by omega, fun z => (by cases z)⟩) (hP.sub [3, 4, 5, 0, 1, 2, 6, 7] rfl) (hD.sub [3, 4, 5, 0, 1, 2, 6, 7] (by decide) rfl) hS
            · skip
              refine wi_iconst (n := 1) hx hb d_Scanner_takeNumber_110 ?_
              refine lv_goto (tgt := 115) hx hb d_Scanner_takeNumber_111 (by decide) ?_
              refine w_as1 ?_
              exact ret (qdC, fdC, ex, pdC, sgN t n pos, g2_8, g2_30, k2_9, k2_31, 0, vdA, vdC, true) _ _ _ _ d_Scanner_takeNumber_115 (show (true = (NUM t n pos).1) ∧ (pos ≤ qdC ∧ qdC ≤ n) ∧ (true = true → (NatOK g2_8 k2_9 vdA ∧ NatOK g2_30 k2_31 vdC) ∧ 0 < vdC ∧ NUM t n pos = (true, qdC, (sgN t n pos), vdA, vdC, 0) ∧ (vdA < P2 (4 * (qdC - pos) + 2340) ∧ vdC < P2 (4 * (qdC - pos) + 2340)) ∧ (-12000 < 0 ∧ 0 < 12000)) from ⟨by rw [NUM_rt c_7 hDeA (of_decide_eq_true c_12) c_14 c_23 hDeC (of_decide_eq_true c_34) (by omega)], by omega, fun z => ⟨⟨hMA, hMC⟩, by omega, NUM_rt c_7 hDeA (of_decide_eq_true c_12) c_14 c_23 hDeC (of_decide_eq_true c_34) (by omega), ⟨num_mono hv2A.2 (by omega), num_mono hv2C.2 (by omega)⟩, by omega⟩⟩) (hP.sub [3, 4, 5, 0, 1, 2, 6, 7] rfl) (hD.sub [3, 4, 5, 0, 1, 2, 6, 7] (by decide) rfl) hS
    · skip
      refine wi_iconst (n := 0) hx hb d_Scanner_takeNumber_38 ?_
      refine w_as0 ?_
      exact ret (qdA, fdA, ex, pdA, sgN t n pos, g2_8, bg2_3, k2_9, bk2_4, 0, 0, 0, false) _ _ _ _ d_Scanner_takeNumber_39 (show (false = (NUM t n pos).1) ∧ (pos ≤ qdA ∧ qdA ≤ n) ∧ (false = true → (NatOK g2_8 k2_9 0 ∧ NatOK bg2_3 bk2_4 0) ∧ 0 < 0 ∧ NUM t n pos = (true, qdA, (sgN t n pos), 0, 0, 0) ∧ (0 < P2 (4 * (qdA - pos) + 2340) ∧ 0 < P2 (4 * (qdA - pos) + 2340)) ∧ (-12000 < 0 ∧ 0 < 12000)) from ⟨(NUM_d0 c_7 (by rw [hDeA]; exact of_decide_eq_false c_12)).symm, by omega, fun z => (by cases z)⟩) (hP.sub [3, 4, 5, 0, 6, 7, 1, 2] rfl) (hD.sub [3, 4, 5, 0, 6, 7, 1, 2] (by decide) rfl) hS
  · skip
    rw [wq_t c_7] at hqw
    subst hqw
    refine wi_bipush hx hb d_Scanner_takeNumber_24 (by decide) ?_
    refine lv_goto (tgt := 31) hx hb d_Scanner_takeNumber_26 (by decide) ?_
    refine wi_iconst (n := 1) hx hb d_Scanner_takeNumber_31 ?_
    refine w_as1 ?_
    refine wk_callV (As := [.ref tn1, .int (iI 16), .int (bI true)]) (rest := []) (wr := [(h1, .inr (1, [.ref tn1, .ref bn1, .int (bI (sgN t n pos)), .int (iI 0)])), (bn1, .inr (0, [.ref ba1, .int (iI bk2_4)])), (ba1, .inl (E.1, 224, .inl (ia bg2_3)))]) B gTB cl_Scanner_133 (c_Scanner_takeDigits l D E h tp ar f1 f2 rd em ob oa (sgP t n pos + (strLen 6 : Int)) fr ex hp ta t n tn1 tb1 tg1 tk1 16 true (by omega) (hT) (by omega) (by omega)) ⟨⟨rfl, rfl⟩, Nat.le_of_ble_eq_true rfl, Nat.le_of_ble_eq_true rfl⟩ hP hD hS [5, 6, 7, 0, 1] [2, 3, 4] rfl rfl (by decide) 5 rfl rfl rfl ⟨hl.2.1, hl.1⟩ rfl (Nat.le_of_ble_eq_true rfl) d_Scanner_takeNumber_32 ⟨Nat.le_of_ble_eq_true rfl, Nat.le_of_ble_eq_true rfl⟩ rfl (fun u H locs hw hP hD hS => ?_)
    obtain ⟨qdA, fdA, pdA, g2_36, k2_37, r_38⟩ := u
    have hP : va_P D classes [(h1, .inr (1, [.ref tn1, .ref bn1, .int (bI (sgN t n pos)), .int (iI 0)])), (bn1, .inr (0, [.ref ba1, .int (iI bk2_4)])), (ba1, .inl (E.1, 224, .inl (ia bg2_3))), (h, .inr (4, [.ref tp, .ref ar, .ref f1, .ref f2, .ref rd, .int (bI em), .int (bI ob), .int (bI oa), .int (iI qdA), .int (iI fdA), .int (iI ex), .int (bI pdA)])), (tp, .inr (3, [.ref ta, .int (iI n)])), (ta, .inl (E.2.1, 400, .inl (ia t))), (tn1, .inr (0, [.ref tb1, .int (iI k2_37)])), (tb1, .inl (E.1, 224, .inl (ia g2_36)))] H := hP
    have hD : va_D A [(h1, .inr (1, [.ref tn1, .ref bn1, .int (bI (sgN t n pos)), .int (iI 0)])), (bn1, .inr (0, [.ref ba1, .int (iI bk2_4)])), (ba1, .inl (E.1, 224, .inl (ia bg2_3))), (h, .inr (4, [.ref tp, .ref ar, .ref f1, .ref f2, .ref rd, .int (bI em), .int (bI ob), .int (bI oa), .int (iI qdA), .int (iI fdA), .int (iI ex), .int (bI pdA)])), (tp, .inr (3, [.ref ta, .int (iI n)])), (ta, .inl (E.2.1, 400, .inl (ia t))), (tn1, .inr (0, [.ref tb1, .int (iI k2_37)])), (tb1, .inl (E.1, 224, .inl (ia g2_36)))] := hD
    have hw : (NatOK g2_36 k2_37 (DGs t n 16 true (sgP t n pos + (strLen 6 : Int)) (0, 0, 0, false)).2.1) ∧ (qdA = (DGs t n 16 true (sgP t n pos + (strLen 6 : Int)) (0, 0, 0, false)).1) ∧ (r_38 = decide (0 < (DGs t n 16 true (sgP t n pos + (strLen 6 : Int)) (0, 0, 0, false)).2.2.1)) ∧ (fdA = (DGs t n 16 true (sgP t n pos + (strLen 6 : Int)) (0, 0, 0, false)).2.2.2.1) ∧ (pdA = (DGs t n 16 true (sgP t n pos + (strLen 6 : Int)) (0, 0, 0, false)).2.2.2.2) ∧ ((sgP t n pos + (strLen 6 : Int)) ≤ qdA ∧ qdA ≤ n) ∧ (0 ≤ fdA ∧ fdA ≤ (DGs t n 16 true (sgP t n pos + (strLen 6 : Int)) (0, 0, 0, false)).2.2.1 ∧ (DGs t n 16 true (sgP t n pos + (strLen 6 : Int)) (0, 0, 0, false)).2.2.1 ≤ qdA - (sgP t n pos + (strLen 6 : Int))) ∧ (0 ≤ (DGs t n 16 true (sgP t n pos + (strLen 6 : Int)) (0, 0, 0, false)).2.1 ∧ (DGs t n 16 true (sgP t n pos + (strLen 6 : Int)) (0, 0, 0, false)).2.1 < P2 (4 * (DGs t n 16 true (sgP t n pos + (strLen 6 : Int)) (0, 0, 0, false)).2.2.1)) := hw
    obtain ⟨hMA, hqA, hr_39, hfr2A, hhp2A, hq2A, hb2A, hv2A⟩ := hw
    refine W.cs (g := F0 m 35 ls [.int (bI r_38)]) (cells' := 0) (slots' := 0) rfl rfl ?_
    subst hr_39
    obtain ⟨vdA, cdA, hDeA⟩ : ∃ v9 c9, DGs t n 16 true (sgP t n pos + (strLen 6 : Int)) (0, 0, 0, false) = (qdA, v9, c9, fdA, pdA) := ⟨(DGs t n 16 true (sgP t n pos + (strLen 6 : Int)) (0, 0, 0, false)).2.1, (DGs t n 16 true (sgP t n pos + (strLen 6 : Int)) (0, 0, 0, false)).2.2.1, by rw [hqA, hfr2A, hhp2A]⟩
    rw [hDeA] at hMA hb2A hv2A ⊢
    have hMA : NatOK g2_36 k2_37 vdA := hMA
    have hb2A : 0 ≤ fdA ∧ fdA ≤ cdA ∧ cdA ≤ qdA - (sgP t n pos + (strLen 6 : Int)) := hb2A
    have hv2A : 0 ≤ vdA ∧ vdA < P2 (4 * cdA) := hv2A
    refine W.eq (g2 := F0 m 35 ls [.int (bI (decide (0 < cdA)))]) rfl ?_
    refine wb_if_ne (tgt := 40) hx hb d_Scanner_takeNumber_35 (by decide) (fun c_40 => ?_) (fun c_40 => ?_)
    · skip
      refine lv_iload_n hx hb d_Scanner_takeNumber_40 rfl (lv_at hl 0 rfl) ?_
      refine wb_if_eq (tgt := 70) hx hb d_Scanner_takeNumber_41 (by decide) (fun c_41 => by exfalso; rw [c_7] at c_41; cases c_41) (fun c_41 => ?_)
      refine lv_aload_n hx hb d_Scanner_takeNumber_44 rfl (lv_at hl 1 rfl) ?_
      refine wi_bipush hx hb d_Scanner_takeNumber_45 (by decide) ?_
      refine wi_iconst (n := 4) hx hb d_Scanner_takeNumber_47 ?_
      refine wi_iconst (n := 0) hx hb d_Scanner_takeNumber_48 ?_
      refine w_as0 ?_
      refine wk_callV (As := [.int (iI 112), .int (iI 4), .int (bI false)]) (rest := []) (wr := [(h1, .inr (1, [.ref tn1, .ref bn1, .int (bI (sgN t n pos)), .int (iI 0)])), (bn1, .inr (0, [.ref ba1, .int (iI bk2_4)])), (ba1, .inl (E.1, 224, .inl (ia bg2_3))), (tn1, .inr (0, [.ref tb1, .int (iI k2_37)])), (tb1, .inl (E.1, 224, .inl (ia g2_36)))]) B gTB cl_Scanner_137 (c_Scanner_takeExponent l D E h tp ar f1 f2 rd em ob oa qdA fdA ex pdA ta t n 112 4 false (by omega) (hT) (by omega) (by omega) (by omega)) ⟨⟨rfl, rfl⟩, Nat.le_of_ble_eq_true rfl, Nat.le_of_ble_eq_true rfl⟩ hP hD hS [3, 4, 5] [0, 1, 2, 6, 7] rfl rfl (by decide) 3 rfl rfl rfl ⟨hl.2.1, hl.1⟩ rfl (Nat.le_of_ble_eq_true rfl) d_Scanner_takeNumber_49 ⟨Nat.le_of_ble_eq_true rfl, Nat.le_of_ble_eq_true rfl⟩ rfl (fun u H locs hw hP hD hS => ?_)
      obtain ⟨qe, exv, r_42⟩ := u
      have hP : va_P D classes [(h1, .inr (1, [.ref tn1, .ref bn1, .int (bI (sgN t n pos)), .int (iI 0)])), (bn1, .inr (0, [.ref ba1, .int (iI bk2_4)])), (ba1, .inl (E.1, 224, .inl (ia bg2_3))), (tn1, .inr (0, [.ref tb1, .int (iI k2_37)])), (tb1, .inl (E.1, 224, .inl (ia g2_36))), (h, .inr (4, [.ref tp, .ref ar, .ref f1, .ref f2, .ref rd, .int (bI em), .int (bI ob), .int (bI oa), .int (iI qe), .int (iI fdA), .int (iI exv), .int (bI pdA)])), (tp, .inr (3, [.ref ta, .int (iI n)])), (ta, .inl (E.2.1, 400, .inl (ia t)))] H := hP
      have hD : va_D A [(h1, .inr (1, [.ref tn1, .ref bn1, .int (bI (sgN t n pos)), .int (iI 0)])), (bn1, .inr (0, [.ref ba1, .int (iI bk2_4)])), (ba1, .inl (E.1, 224, .inl (ia bg2_3))), (tn1, .inr (0, [.ref tb1, .int (iI k2_37)])), (tb1, .inl (E.1, 224, .inl (ia g2_36))), (h, .inr (4, [.ref tp, .ref ar, .ref f1, .ref f2, .ref rd, .int (bI em), .int (bI ob), .int (bI oa), .int (iI qe), .int (iI fdA), .int (iI exv), .int (bI pdA)])), (tp, .inr (3, [.ref ta, .int (iI n)])), (ta, .inl (E.2.1, 400, .inl (ia t)))] := hD
      have hw : (r_42 = (EXP t n 112 (Int.toNat 4) false qdA).1) ∧ (qe = (EXP t n 112 (Int.toNat 4) false qdA).2.1) ∧ (exv = (EXP t n 112 (Int.toNat 4) false qdA).2.2) ∧ (qdA ≤ qe ∧ qe ≤ n) ∧ (-10000 < exv ∧ exv < 10000) := hw
      obtain ⟨hr_43, hqe, hxe, hqe2, hxe3⟩ := hw
      refine W.cs (g := F0 m 52 ls [.int (bI r_42)]) (cells' := 0) (slots' := 0) rfl rfl ?_
      subst hr_43
      refine lv_istore_n (lv' := [(3, .int (bI ((EXP t n 112 (Int.toNat 4) false qdA).1))), (2, .int (bI (wdB t n (sgP t n pos) 6))), (0, .ref h), (1, .ref h1)]) hx hb d_Scanner_takeNumber_52 rfl hl (by decide) rfl (fun ls hl => ?_)
      refine lv_aload_n hx hb d_Scanner_takeNumber_53 rfl (lv_at hl 3 rfl) ?_
      refine lv_aload_n hx hb d_Scanner_takeNumber_54 rfl (lv_at hl 2 rfl) ?_
      refine wk_get B hP 5 rfl fl_Scanner_141 (v := .int (iI exv)) rfl d_Scanner_takeNumber_55 ?_
      refine wi_iconst (n := 4) hx hb d_Scanner_takeNumber_58 ?_
      refine lv_aload_n hx hb d_Scanner_takeNumber_59 rfl (lv_at hl 2 rfl) ?_
      refine wk_get B hP 5 rfl fl_Scanner_144 (v := .int (iI fdA)) rfl d_Scanner_takeNumber_60 ?_
      refine wi_imul hx hb d_Scanner_takeNumber_63 ?_
      refine wi_isub hx hb d_Scanner_takeNumber_64 ?_
      refine wk_put B hP hD hS 0 rfl fl_Scanner_147 fp_Ratio_3 (v := .int (iI (exv - (4 * fdA)))) rfl rfl (Nat.le_of_ble_eq_true rfl) d_Scanner_takeNumber_65 (fun H locs hP hD hS => ?_)
      have hP : va_P D classes [(h1, .inr (1, [.ref tn1, .ref bn1, .int (bI (sgN t n pos)), .int (iI (exv - (4 * fdA)))])), (bn1, .inr (0, [.ref ba1, .int (iI bk2_4)])), (ba1, .inl (E.1, 224, .inl (ia bg2_3))), (tn1, .inr (0, [.ref tb1, .int (iI k2_37)])), (tb1, .inl (E.1, 224, .inl (ia g2_36))), (h, .inr (4, [.ref tp, .ref ar, .ref f1, .ref f2, .ref rd, .int (bI em), .int (bI ob), .int (bI oa), .int (iI qe), .int (iI fdA), .int (iI exv), .int (bI pdA)])), (tp, .inr (3, [.ref ta, .int (iI n)])), (ta, .inl (E.2.1, 400, .inl (ia t)))] H := hP
      have hD : va_D A [(h1, .inr (1, [.ref tn1, .ref bn1, .int (bI (sgN t n pos)), .int (iI (exv - (4 * fdA)))])), (bn1, .inr (0, [.ref ba1, .int (iI bk2_4)])), (ba1, .inl (E.1, 224, .inl (ia bg2_3))), (tn1, .inr (0, [.ref tb1, .int (iI k2_37)])), (tb1, .inl (E.1, 224, .inl (ia g2_36))), (h, .inr (4, [.ref tp, .ref ar, .ref f1, .ref f2, .ref rd, .int (bI em), .int (bI ob), .int (bI oa), .int (iI qe), .int (iI fdA), .int (iI exv), .int (bI pdA)])), (tp, .inr (3, [.ref ta, .int (iI n)])), (ta, .inl (E.2.1, 400, .inl (ia t)))] := hD
      refine lv_iload_n hx hb d_Scanner_takeNumber_68 rfl (lv_at hl 0 rfl) ?_
      exact ret (qe, fdA, exv, pdA, sgN t n pos, g2_36, bg2_3, k2_37, bk2_4, exv - (4 * fdA), vdA, 1, (EXP t n 112 (Int.toNat 4) false qdA).1) _ _ _ _ d_Scanner_takeNumber_69 (show (((EXP t n 112 (Int.toNat 4) false qdA).1) = (NUM t n pos).1) ∧ (pos ≤ qe ∧ qe ≤ n) ∧ (((EXP t n 112 (Int.toNat 4) false qdA).1) = true → (NatOK g2_36 k2_37 vdA ∧ NatOK bg2_3 bk2_4 1) ∧ 0 < 1 ∧ NUM t n pos = (true, qe, (sgN t n pos), vdA, 1, (exv - (4 * fdA))) ∧ (vdA < P2 (4 * (qe - pos) + 2340) ∧ 1 < P2 (4 * (qe - pos) + 2340)) ∧ (-12000 < (exv - (4 * fdA)) ∧ (exv - (4 * fdA)) < 12000)) from ⟨by rw [NUM_h c_7 hDeA (of_decide_eq_true c_40)], by omega, fun z => ⟨⟨hMA, hBB⟩, by decide, by rw [NUM_h c_7 hDeA (of_decide_eq_true c_40), z, ← hqe, ← hxe], ⟨num_mono hv2A.2 (by omega), num_one (by omega)⟩, by omega⟩⟩) (hP.sub [5, 6, 7, 0, 3, 4, 1, 2] rfl) (hD.sub [5, 6, 7, 0, 3, 4, 1, 2] (by decide) rfl) hS
    · skip
      refine wi_iconst (n := 0) hx hb d_Scanner_takeNumber_38 ?_
      refine w_as0 ?_
      exact ret (qdA, fdA, ex, pdA, sgN t n pos, g2_36, bg2_3, k2_37, bk2_4, 0, 0, 0, false) _ _ _ _ d_Scanner_takeNumber_39 (show (false = (NUM t n pos).1) ∧ (pos ≤ qdA ∧ qdA ≤ n) ∧ (false = true → (NatOK g2_36 k2_37 0 ∧ NatOK bg2_3 bk2_4 0) ∧ 0 < 0 ∧ NUM t n pos = (true, qdA, (sgN t n pos), 0, 0, 0) ∧ (0 < P2 (4 * (qdA - pos) + 2340) ∧ 0 < P2 (4 * (qdA - pos) + 2340)) ∧ (-12000 < 0 ∧ 0 < 12000)) from ⟨(NUM_h0 c_7 (by rw [hDeA]; exact of_decide_eq_false c_40)).symm, by omega, fun z => (by cases z)⟩) (hP.sub [3, 4, 5, 0, 6, 7, 1, 2] rfl) (hD.sub [3, 4, 5, 0, 6, 7, 1, 2] (by decide) rfl) hS
