/-! Scanner: isBlank, digitOf, peek, takeBlanks, takeWord, takeSign -/
abbrev b_Scanner_isBlank : ByteArray := prog_7_method_17_code
def y_Scanner_isBlank : MethodName := ⟨"IntervalText$Scanner", "isBlank", "(I)Z"⟩
abbrev b_Scanner_digitOf : ByteArray := prog_7_method_18_code
def y_Scanner_digitOf : MethodName := ⟨"IntervalText$Scanner", "digitOf", "(I)I"⟩
abbrev b_Scanner_peek : ByteArray := prog_7_method_16_code
def y_Scanner_peek : MethodName := ⟨"IntervalText$Scanner", "peek", "()I"⟩
abbrev b_Scanner_takeBlanks : ByteArray := prog_7_method_15_code
def y_Scanner_takeBlanks : MethodName := ⟨"IntervalText$Scanner", "takeBlanks", "()V"⟩
abbrev b_Scanner_takeWord : ByteArray := prog_7_method_14_code
def y_Scanner_takeWord : MethodName := ⟨"IntervalText$Scanner", "takeWord", "(Ljava/lang/String;)Z"⟩
abbrev b_Scanner_takeSign : ByteArray := prog_7_method_11_code
def y_Scanner_takeSign : MethodName := ⟨"IntervalText$Scanner", "takeSign", "()Z"⟩
theorem d_Scanner_isBlank_0 : decode b_Scanner_isBlank 0 = .ok (.iload_n 0, 1) := by decide +kernel
theorem d_Scanner_isBlank_1 : decode b_Scanner_isBlank 1 = .ok (.bipush 32, 2) := by decide +kernel
theorem d_Scanner_isBlank_3 : decode b_Scanner_isBlank 3 = .ok (.if_icmp .eq 9, 3) := by decide +kernel
theorem d_Scanner_isBlank_6 : decode b_Scanner_isBlank 6 = .ok (.iload_n 0, 1) := by decide +kernel
theorem d_Scanner_isBlank_7 : decode b_Scanner_isBlank 7 = .ok (.bipush 9, 2) := by decide +kernel
theorem d_Scanner_isBlank_9 : decode b_Scanner_isBlank 9 = .ok (.if_icmp .ne 7, 3) := by decide +kernel
theorem d_Scanner_isBlank_12 : decode b_Scanner_isBlank 12 = .ok (.iconst 1, 1) := by decide +kernel
theorem d_Scanner_isBlank_13 : decode b_Scanner_isBlank 13 = .ok (.goto 4, 3) := by decide +kernel
theorem d_Scanner_isBlank_16 : decode b_Scanner_isBlank 16 = .ok (.iconst 0, 1) := by decide +kernel
theorem d_Scanner_isBlank_17 : decode b_Scanner_isBlank 17 = .ok (.ireturn, 1) := by decide +kernel
theorem d_Scanner_digitOf_0 : decode b_Scanner_digitOf 0 = .ok (.iload_n 0, 1) := by decide +kernel
theorem d_Scanner_digitOf_1 : decode b_Scanner_digitOf 1 = .ok (.bipush 48, 2) := by decide +kernel
theorem d_Scanner_digitOf_3 : decode b_Scanner_digitOf 3 = .ok (.if_icmp .lt 14, 3) := by decide +kernel
theorem d_Scanner_digitOf_6 : decode b_Scanner_digitOf 6 = .ok (.iload_n 0, 1) := by decide +kernel
theorem d_Scanner_digitOf_7 : decode b_Scanner_digitOf 7 = .ok (.bipush 57, 2) := by decide +kernel
theorem d_Scanner_digitOf_9 : decode b_Scanner_digitOf 9 = .ok (.if_icmp .gt 8, 3) := by decide +kernel
theorem d_Scanner_digitOf_12 : decode b_Scanner_digitOf 12 = .ok (.iload_n 0, 1) := by decide +kernel
theorem d_Scanner_digitOf_13 : decode b_Scanner_digitOf 13 = .ok (.bipush 48, 2) := by decide +kernel
theorem d_Scanner_digitOf_15 : decode b_Scanner_digitOf 15 = .ok (.isub, 1) := by decide +kernel
theorem d_Scanner_digitOf_16 : decode b_Scanner_digitOf 16 = .ok (.ireturn, 1) := by decide +kernel
theorem d_Scanner_digitOf_17 : decode b_Scanner_digitOf 17 = .ok (.iload_n 0, 1) := by decide +kernel
theorem d_Scanner_digitOf_18 : decode b_Scanner_digitOf 18 = .ok (.bipush 97, 2) := by decide +kernel
theorem d_Scanner_digitOf_20 : decode b_Scanner_digitOf 20 = .ok (.if_icmp .lt 19, 3) := by decide +kernel
theorem d_Scanner_digitOf_23 : decode b_Scanner_digitOf 23 = .ok (.iload_n 0, 1) := by decide +kernel
theorem d_Scanner_digitOf_24 : decode b_Scanner_digitOf 24 = .ok (.bipush 102, 2) := by decide +kernel
theorem d_Scanner_digitOf_26 : decode b_Scanner_digitOf 26 = .ok (.if_icmp .gt 13, 3) := by decide +kernel
theorem d_Scanner_digitOf_29 : decode b_Scanner_digitOf 29 = .ok (.iload_n 0, 1) := by decide +kernel
theorem d_Scanner_digitOf_30 : decode b_Scanner_digitOf 30 = .ok (.bipush 97, 2) := by decide +kernel
theorem d_Scanner_digitOf_32 : decode b_Scanner_digitOf 32 = .ok (.isub, 1) := by decide +kernel
theorem d_Scanner_digitOf_33 : decode b_Scanner_digitOf 33 = .ok (.bipush 10, 2) := by decide +kernel
theorem d_Scanner_digitOf_35 : decode b_Scanner_digitOf 35 = .ok (.iadd, 1) := by decide +kernel
theorem d_Scanner_digitOf_36 : decode b_Scanner_digitOf 36 = .ok (.goto 5, 3) := by decide +kernel
theorem d_Scanner_digitOf_39 : decode b_Scanner_digitOf 39 = .ok (.bipush 16, 2) := by decide +kernel
theorem d_Scanner_digitOf_41 : decode b_Scanner_digitOf 41 = .ok (.ireturn, 1) := by decide +kernel
theorem d_Scanner_peek_0 : decode b_Scanner_peek 0 = .ok (.aload_n 0, 1) := by decide +kernel
theorem d_Scanner_peek_1 : decode b_Scanner_peek 1 = .ok (.getfield 9, 3) := by decide +kernel
theorem d_Scanner_peek_4 : decode b_Scanner_peek 4 = .ok (.aload_n 0, 1) := by decide +kernel
theorem d_Scanner_peek_5 : decode b_Scanner_peek 5 = .ok (.getfield 53, 3) := by decide +kernel
theorem d_Scanner_peek_8 : decode b_Scanner_peek 8 = .ok (.invokevirtual 45, 3) := by decide +kernel
theorem d_Scanner_peek_11 : decode b_Scanner_peek 11 = .ok (.ireturn, 1) := by decide +kernel
theorem d_Scanner_takeBlanks_0 : decode b_Scanner_takeBlanks 0 = .ok (.aload_n 0, 1) := by decide +kernel
theorem d_Scanner_takeBlanks_1 : decode b_Scanner_takeBlanks 1 = .ok (.getfield 53, 3) := by decide +kernel
theorem d_Scanner_takeBlanks_4 : decode b_Scanner_takeBlanks 4 = .ok (.aload_n 0, 1) := by decide +kernel
theorem d_Scanner_takeBlanks_5 : decode b_Scanner_takeBlanks 5 = .ok (.getfield 9, 3) := by decide +kernel
theorem d_Scanner_takeBlanks_8 : decode b_Scanner_takeBlanks 8 = .ok (.getfield 41, 3) := by decide +kernel
theorem d_Scanner_takeBlanks_11 : decode b_Scanner_takeBlanks 11 = .ok (.if_icmp .ge 26, 3) := by decide +kernel
theorem d_Scanner_takeBlanks_14 : decode b_Scanner_takeBlanks 14 = .ok (.aload_n 0, 1) := by decide +kernel
theorem d_Scanner_takeBlanks_15 : decode b_Scanner_takeBlanks 15 = .ok (.invokevirtual 68, 3) := by decide +kernel
theorem d_Scanner_takeBlanks_18 : decode b_Scanner_takeBlanks 18 = .ok (.invokestatic 49, 3) := by decide +kernel
theorem d_Scanner_takeBlanks_21 : decode b_Scanner_takeBlanks 21 = .ok (.ifCond .eq 16, 3) := by decide +kernel
theorem d_Scanner_takeBlanks_24 : decode b_Scanner_takeBlanks 24 = .ok (.aload_n 0, 1) := by decide +kernel
theorem d_Scanner_takeBlanks_25 : decode b_Scanner_takeBlanks 25 = .ok (.dup, 1) := by decide +kernel
theorem d_Scanner_takeBlanks_26 : decode b_Scanner_takeBlanks 26 = .ok (.getfield 53, 3) := by decide +kernel
theorem d_Scanner_takeBlanks_29 : decode b_Scanner_takeBlanks 29 = .ok (.iconst 1, 1) := by decide +kernel
theorem d_Scanner_takeBlanks_30 : decode b_Scanner_takeBlanks 30 = .ok (.iadd, 1) := by decide +kernel
theorem d_Scanner_takeBlanks_31 : decode b_Scanner_takeBlanks 31 = .ok (.putfield 53, 3) := by decide +kernel
theorem d_Scanner_takeBlanks_34 : decode b_Scanner_takeBlanks 34 = .ok (.goto (-34), 3) := by decide +kernel
theorem d_Scanner_takeBlanks_37 : decode b_Scanner_takeBlanks 37 = .ok (.return_, 1) := by decide +kernel
theorem d_Scanner_takeWord_0 : decode b_Scanner_takeWord 0 = .ok (.iconst 0, 1) := by decide +kernel
theorem d_Scanner_takeWord_1 : decode b_Scanner_takeWord 1 = .ok (.istore_n 2, 1) := by decide +kernel
theorem d_Scanner_takeWord_2 : decode b_Scanner_takeWord 2 = .ok (.iload_n 2, 1) := by decide +kernel
theorem d_Scanner_takeWord_3 : decode b_Scanner_takeWord 3 = .ok (.aload_n 1, 1) := by decide +kernel
theorem d_Scanner_takeWord_4 : decode b_Scanner_takeWord 4 = .ok (.invokevirtual 185, 3) := by decide +kernel
theorem d_Scanner_takeWord_7 : decode b_Scanner_takeWord 7 = .ok (.if_icmp .ge 32, 3) := by decide +kernel
theorem d_Scanner_takeWord_10 : decode b_Scanner_takeWord 10 = .ok (.aload_n 0, 1) := by decide +kernel
theorem d_Scanner_takeWord_11 : decode b_Scanner_takeWord 11 = .ok (.getfield 9, 3) := by decide +kernel
theorem d_Scanner_takeWord_14 : decode b_Scanner_takeWord 14 = .ok (.aload_n 0, 1) := by decide +kernel
theorem d_Scanner_takeWord_15 : decode b_Scanner_takeWord 15 = .ok (.getfield 53, 3) := by decide +kernel
theorem d_Scanner_takeWord_18 : decode b_Scanner_takeWord 18 = .ok (.iload_n 2, 1) := by decide +kernel
theorem d_Scanner_takeWord_19 : decode b_Scanner_takeWord 19 = .ok (.iadd, 1) := by decide +kernel
theorem d_Scanner_takeWord_20 : decode b_Scanner_takeWord 20 = .ok (.invokevirtual 45, 3) := by decide +kernel
theorem d_Scanner_takeWord_23 : decode b_Scanner_takeWord 23 = .ok (.aload_n 1, 1) := by decide +kernel
theorem d_Scanner_takeWord_24 : decode b_Scanner_takeWord 24 = .ok (.iload_n 2, 1) := by decide +kernel
theorem d_Scanner_takeWord_25 : decode b_Scanner_takeWord 25 = .ok (.invokevirtual 190, 3) := by decide +kernel
theorem d_Scanner_takeWord_28 : decode b_Scanner_takeWord 28 = .ok (.if_icmp .eq 5, 3) := by decide +kernel
theorem d_Scanner_takeWord_31 : decode b_Scanner_takeWord 31 = .ok (.iconst 0, 1) := by decide +kernel
theorem d_Scanner_takeWord_32 : decode b_Scanner_takeWord 32 = .ok (.ireturn, 1) := by decide +kernel
theorem d_Scanner_takeWord_33 : decode b_Scanner_takeWord 33 = .ok (.iinc 2 1, 3) := by decide +kernel
theorem d_Scanner_takeWord_36 : decode b_Scanner_takeWord 36 = .ok (.goto (-34), 3) := by decide +kernel
theorem d_Scanner_takeWord_39 : decode b_Scanner_takeWord 39 = .ok (.aload_n 0, 1) := by decide +kernel
theorem d_Scanner_takeWord_40 : decode b_Scanner_takeWord 40 = .ok (.dup, 1) := by decide +kernel
theorem d_Scanner_takeWord_41 : decode b_Scanner_takeWord 41 = .ok (.getfield 53, 3) := by decide +kernel
theorem d_Scanner_takeWord_44 : decode b_Scanner_takeWord 44 = .ok (.aload_n 1, 1) := by decide +kernel
theorem d_Scanner_takeWord_45 : decode b_Scanner_takeWord 45 = .ok (.invokevirtual 185, 3) := by decide +kernel
theorem d_Scanner_takeWord_48 : decode b_Scanner_takeWord 48 = .ok (.iadd, 1) := by decide +kernel
theorem d_Scanner_takeWord_49 : decode b_Scanner_takeWord 49 = .ok (.putfield 53, 3) := by decide +kernel
theorem d_Scanner_takeWord_52 : decode b_Scanner_takeWord 52 = .ok (.iconst 1, 1) := by decide +kernel
theorem d_Scanner_takeWord_53 : decode b_Scanner_takeWord 53 = .ok (.ireturn, 1) := by decide +kernel
theorem d_Scanner_takeSign_0 : decode b_Scanner_takeSign 0 = .ok (.aload_n 0, 1) := by decide +kernel
theorem d_Scanner_takeSign_1 : decode b_Scanner_takeSign 1 = .ok (.invokevirtual 68, 3) := by decide +kernel
theorem d_Scanner_takeSign_4 : decode b_Scanner_takeSign 4 = .ok (.bipush 45, 2) := by decide +kernel
theorem d_Scanner_takeSign_6 : decode b_Scanner_takeSign 6 = .ok (.if_icmp .ne 7, 3) := by decide +kernel
theorem d_Scanner_takeSign_9 : decode b_Scanner_takeSign 9 = .ok (.iconst 1, 1) := by decide +kernel
theorem d_Scanner_takeSign_10 : decode b_Scanner_takeSign 10 = .ok (.goto 4, 3) := by decide +kernel
theorem d_Scanner_takeSign_13 : decode b_Scanner_takeSign 13 = .ok (.iconst 0, 1) := by decide +kernel
theorem d_Scanner_takeSign_14 : decode b_Scanner_takeSign 14 = .ok (.istore_n 1, 1) := by decide +kernel
theorem d_Scanner_takeSign_15 : decode b_Scanner_takeSign 15 = .ok (.iload_n 1, 1) := by decide +kernel
theorem d_Scanner_takeSign_16 : decode b_Scanner_takeSign 16 = .ok (.ifCond .ne 12, 3) := by decide +kernel
theorem d_Scanner_takeSign_19 : decode b_Scanner_takeSign 19 = .ok (.aload_n 0, 1) := by decide +kernel
theorem d_Scanner_takeSign_20 : decode b_Scanner_takeSign 20 = .ok (.invokevirtual 68, 3) := by decide +kernel
theorem d_Scanner_takeSign_23 : decode b_Scanner_takeSign 23 = .ok (.bipush 43, 2) := by decide +kernel
theorem d_Scanner_takeSign_25 : decode b_Scanner_takeSign 25 = .ok (.if_icmp .ne 13, 3) := by decide +kernel
theorem d_Scanner_takeSign_28 : decode b_Scanner_takeSign 28 = .ok (.aload_n 0, 1) := by decide +kernel
theorem d_Scanner_takeSign_29 : decode b_Scanner_takeSign 29 = .ok (.dup, 1) := by decide +kernel
theorem d_Scanner_takeSign_30 : decode b_Scanner_takeSign 30 = .ok (.getfield 53, 3) := by decide +kernel
theorem d_Scanner_takeSign_33 : decode b_Scanner_takeSign 33 = .ok (.iconst 1, 1) := by decide +kernel
theorem d_Scanner_takeSign_34 : decode b_Scanner_takeSign 34 = .ok (.iadd, 1) := by decide +kernel
theorem d_Scanner_takeSign_35 : decode b_Scanner_takeSign 35 = .ok (.putfield 53, 3) := by decide +kernel
theorem d_Scanner_takeSign_38 : decode b_Scanner_takeSign 38 = .ok (.iload_n 1, 1) := by decide +kernel
theorem d_Scanner_takeSign_39 : decode b_Scanner_takeSign 39 = .ok (.ireturn, 1) := by decide +kernel
theorem fl_Scanner_9 : FLink TB classes "IntervalText$Scanner" 9 R_Scanner F_Scanner 12 4 0 := ⟨rfl, by decide, i_Scanner, tb_t (List.mem_append_left _ (List.mem_of_getElem? (l := tables_1_1) (i := 122) rfl)) rfl⟩
theorem fl_Scanner_41 : FLink TB classes "IntervalText$Scanner" 41 R_Row F_Row 2 3 1 := ⟨rfl, by decide, i_Row, tb_t (List.mem_append_left _ (List.mem_of_getElem? (l := tables_1_1) (i := 32) rfl)) rfl⟩
theorem fl_Scanner_53 : FLink TB classes "IntervalText$Scanner" 53 R_Scanner F_Scanner 12 4 8 := ⟨rfl, by decide, i_Scanner, tb_t (List.mem_append_left _ (List.mem_of_getElem? (l := tables_1_1) (i := 135) rfl)) rfl⟩
theorem fp_Scanner_8 : FPut R_Scanner F_Scanner 12 8 .int false := ⟨e_Scanner, n_Scanner, rfl, by decide +kernel⟩
theorem cl_Scanner_49 : CLinkS TB "IntervalText$Scanner" 49 y_Scanner_isBlank b_Scanner_isBlank 1 (some .boolean) 1 := ⟨⟨tb_t (List.mem_append_left _ (List.mem_of_getElem? (l := tables_1_1) (i := 229) rfl)) rfl, tb_t (List.mem_append_left _ (List.mem_of_getElem? (l := tables_1_1) (i := 5) rfl)) rfl, tb_t (List.mem_append_left _ (List.mem_of_getElem? (l := tables_1_1) (i := 231) rfl)) rfl, by decide +kernel, by decide +kernel, by decide +kernel⟩, tb_t (List.mem_append_left _ (List.mem_of_getElem? (l := tables_1_1) (i := 230) rfl)) rfl⟩
theorem cl_Scanner_45 : CLinkV TB "IntervalText$Scanner" 45 "IntervalText$Row" y_Row_at b_Row_at 2 (some .int) 1 := ⟨⟨tb_t (List.mem_append_left _ (List.mem_of_getElem? (l := tables_1_1) (i := 225) rfl)) rfl, tb_t (List.mem_append_left _ (List.mem_of_getElem? (l := tables_1_1) (i := 2) rfl)) rfl, tb_t (List.mem_append_left _ (List.mem_of_getElem? (l := tables_1_1) (i := 228) rfl)) rfl, by decide +kernel, by decide +kernel, by decide +kernel⟩, tb_t (List.mem_append_left _ (List.mem_of_getElem? (l := tables_1_1) (i := 226) rfl)) rfl, tb_t (List.mem_append_left _ (List.mem_of_getElem? (l := tables_1_1) (i := 227) rfl)) rfl⟩
theorem cl_Scanner_68 : CLinkV TB "IntervalText$Scanner" 68 "IntervalText$Scanner" y_Scanner_peek b_Scanner_peek 1 (some .int) 0 := ⟨⟨tb_t (List.mem_append_left _ (List.mem_of_getElem? (l := tables_1_1) (i := 236) rfl)) rfl, tb_t (List.mem_append_left _ (List.mem_of_getElem? (l := tables_1_1) (i := 5) rfl)) rfl, tb_t (List.mem_append_left _ (List.mem_of_getElem? (l := tables_1_1) (i := 239) rfl)) rfl, by decide +kernel, by decide +kernel, by decide +kernel⟩, tb_t (List.mem_append_left _ (List.mem_of_getElem? (l := tables_1_1) (i := 238) rfl)) rfl, tb_p 1 rfl⟩
theorem cl_Scanner_185 : CLinkV TB "IntervalText$Scanner" 185 "java/lang/String" y_JStr_length b_JStr_length 1 (some .int) 0 := ⟨⟨tb_t (List.mem_append_right _ (List.mem_append_left _ (List.mem_of_getElem? (l := tables_1_2) (i := 13) rfl))) rfl, tb_t (List.mem_append_left _ (List.mem_of_getElem? (l := tables_1_1) (i := 11) rfl)) rfl, tb_t (List.mem_append_right _ (List.mem_append_left _ (List.mem_of_getElem? (l := tables_1_2) (i := 16) rfl))) rfl, by decide +kernel, by decide +kernel, by decide +kernel⟩, tb_t (List.mem_append_right _ (List.mem_append_left _ (List.mem_of_getElem? (l := tables_1_2) (i := 14) rfl))) rfl, tb_t (List.mem_append_right _ (List.mem_append_left _ (List.mem_of_getElem? (l := tables_1_2) (i := 15) rfl))) rfl⟩
theorem cl_Scanner_190 : CLinkV TB "IntervalText$Scanner" 190 "java/lang/String" y_JStr_charAt b_JStr_charAt 2 (some .char) 1 := ⟨⟨tb_t (List.mem_append_right _ (List.mem_append_left _ (List.mem_of_getElem? (l := tables_1_2) (i := 23) rfl))) rfl, tb_t (List.mem_append_left _ (List.mem_of_getElem? (l := tables_1_1) (i := 11) rfl)) rfl, tb_t (List.mem_append_right _ (List.mem_append_left _ (List.mem_of_getElem? (l := tables_1_2) (i := 26) rfl))) rfl, by decide +kernel, by decide +kernel, by decide +kernel⟩, tb_t (List.mem_append_right _ (List.mem_append_left _ (List.mem_of_getElem? (l := tables_1_2) (i := 24) rfl))) rfl, tb_t (List.mem_append_right _ (List.mem_append_left _ (List.mem_of_getElem? (l := tables_1_2) (i := 25) rfl))) rfl⟩
set_option maxHeartbeats 4000000 in
set_option maxRecDepth 100000 in
theorem c_Scanner_isBlank (l : Launch) (D : va_G) (E : EVt) (x : Int) (hx1 : -1 ≤ x ∧ x < 65536) : CT l D classes (tyl E) (EVX E) y_Scanner_isBlank (Cond.code y_Scanner_isBlank b_Scanner_isBlank 1 (some .boolean) :: TB) (rmK 0 0 0 0) 0 0 [.int (iI x)] [] (S := Bool) (fun _ => []) (fun u => some (.int (bI u))) (fun u => (u = blk x)) := by
  refine CT.ofz (fv := fun (u : Bool) => u) (eok E) (by decide) rfl (Nat.le_of_ble_eq_true rfl) ?_
  intro p e s m args below meth c A Q ls B hmn hP hD hS hl ret
  have B : Bd l D classes (tyl E) (EVX E) p m c b_Scanner_isBlank 1 s args (Cond.code y_Scanner_isBlank b_Scanner_isBlank 1 (some .boolean) :: TB) R_Scanner A := B
  obtain ⟨⟨hx, hb, hml, hown, hts⟩, hX, hK, hE, hA⟩ := id B
  have hl : lv_has ls 1 [(0, .int (iI x))] := hl
  have hP : va_P D classes [] s.heap := hP
  have hD : va_D A [] := hD
  refine lv_iload_n hx hb d_Scanner_isBlank_0 rfl (lv_at hl 0 rfl) ?_
  refine wi_bipush hx hb d_Scanner_isBlank_1 (by decide) ?_
  refine wi_icmp_eq (tgt := 12) hx hb d_Scanner_isBlank_3 (by decide) (by omega) (by omega) (fun c_1 => ?_) (fun c_1 => ?_)
  · skip
    refine wi_iconst (n := 1) hx hb d_Scanner_isBlank_12 ?_
    refine lv_goto (tgt := 17) hx hb d_Scanner_isBlank_13 (by decide) ?_
    refine w_as1 ?_
    exact ret true _ _ _ _ d_Scanner_isBlank_17 (show (true = blk x) from (by unfold blk; rw [decide_eq_true (by omega)])) (hP.sub [] rfl) (hD.sub [] (by decide) rfl) hS
  · skip
    refine lv_iload_n hx hb d_Scanner_isBlank_6 rfl (lv_at hl 0 rfl) ?_
    refine wi_bipush hx hb d_Scanner_isBlank_7 (by decide) ?_
    refine wi_icmp_ne (tgt := 16) hx hb d_Scanner_isBlank_9 (by decide) (by omega) (by omega) (fun c_2 => ?_) (fun c_2 => ?_)
    · skip
      refine wi_iconst (n := 0) hx hb d_Scanner_isBlank_16 ?_
      refine w_as0 ?_
      exact ret false _ _ _ _ d_Scanner_isBlank_17 (show (false = blk x) from (by unfold blk; rw [decide_eq_false (by omega)])) (hP.sub [] rfl) (hD.sub [] (by decide) rfl) hS
    · skip
      refine wi_iconst (n := 1) hx hb d_Scanner_isBlank_12 ?_
      refine lv_goto (tgt := 17) hx hb d_Scanner_isBlank_13 (by decide) ?_
      refine w_as1 ?_
      exact ret true _ _ _ _ d_Scanner_isBlank_17 (show (true = blk x) from (by unfold blk; rw [decide_eq_true (by omega)])) (hP.sub [] rfl) (hD.sub [] (by decide) rfl) hS
set_option maxHeartbeats 4000000 in
set_option maxRecDepth 100000 in
theorem c_Scanner_digitOf (l : Launch) (D : va_G) (E : EVt) (x : Int) (hx1 : -1 ≤ x ∧ x < 65536) : CT l D classes (tyl E) (EVX E) y_Scanner_digitOf (Cond.code y_Scanner_digitOf b_Scanner_digitOf 1 (some .int) :: TB) (rmK 0 0 0 0) 0 0 [.int (iI x)] [] (S := Int) (fun _ => []) (fun u => some (.int (iI u))) (fun u => (u = dig x)) := by
  refine CT.ofi (fv := fun (u : Int) => u) (eok E) (by decide) rfl (Nat.le_of_ble_eq_true rfl) ?_
  intro p e s m args below meth c A Q ls B hmn hP hD hS hl ret
  have B : Bd l D classes (tyl E) (EVX E) p m c b_Scanner_digitOf 1 s args (Cond.code y_Scanner_digitOf b_Scanner_digitOf 1 (some .int) :: TB) R_Scanner A := B
  obtain ⟨⟨hx, hb, hml, hown, hts⟩, hX, hK, hE, hA⟩ := id B
  have hl : lv_has ls 1 [(0, .int (iI x))] := hl
  have hP : va_P D classes [] s.heap := hP
  have hD : va_D A [] := hD
  refine lv_iload_n hx hb d_Scanner_digitOf_0 rfl (lv_at hl 0 rfl) ?_
  refine wi_bipush hx hb d_Scanner_digitOf_1 (by decide) ?_
  refine wi_icmp_lt (tgt := 17) hx hb d_Scanner_digitOf_3 (by decide) (by omega) (by omega) (fun c_1 => ?_) (fun c_1 => ?_)
  · skip
    refine lv_iload_n hx hb d_Scanner_digitOf_17 rfl (lv_at hl 0 rfl) ?_
    refine wi_bipush hx hb d_Scanner_digitOf_18 (by decide) ?_
    refine wi_icmp_lt (tgt := 39) hx hb d_Scanner_digitOf_20 (by decide) (by omega) (by omega) (fun c_2 => ?_) (fun c_2 => ?_)
    · skip
      refine wi_bipush hx hb d_Scanner_digitOf_39 (by decide) ?_
      exact ret 16 _ _ _ _ d_Scanner_digitOf_41 (show (16 = dig x) from (by unfold dig; rw [if_neg (by omega), if_neg (by omega)])) (hP.sub [] rfl) (hD.sub [] (by decide) rfl) hS
    · skip
      refine lv_iload_n hx hb d_Scanner_digitOf_23 rfl (lv_at hl 0 rfl) ?_
      refine wi_bipush hx hb d_Scanner_digitOf_24 (by decide) ?_
      refine wi_icmp_gt (tgt := 39) hx hb d_Scanner_digitOf_26 (by decide) (by omega) (by omega) (fun c_3 => ?_) (fun c_3 => ?_)
      · skip
        refine wi_bipush hx hb d_Scanner_digitOf_39 (by decide) ?_
        exact ret 16 _ _ _ _ d_Scanner_digitOf_41 (show (16 = dig x) from (by unfold dig; rw [if_neg (by omega), if_neg (by omega)])) (hP.sub [] rfl) (hD.sub [] (by decide) rfl) hS
      · skip
        refine lv_iload_n hx hb d_Scanner_digitOf_29 rfl (lv_at hl 0 rfl) ?_
        refine wi_bipush hx hb d_Scanner_digitOf_30 (by decide) ?_
        refine wi_isub hx hb d_Scanner_digitOf_32 ?_
        refine wi_bipush hx hb d_Scanner_digitOf_33 (by decide) ?_
        refine wi_iadd hx hb d_Scanner_digitOf_35 ?_
        refine lv_goto (tgt := 41) hx hb d_Scanner_digitOf_36 (by decide) ?_
        exact ret (x - 97 + 10) _ _ _ _ d_Scanner_digitOf_41 (show ((x - 97 + 10) = dig x) from (by unfold dig; rw [if_neg (by omega), if_pos (by omega)])) (hP.sub [] rfl) (hD.sub [] (by decide) rfl) hS
  · skip
    refine lv_iload_n hx hb d_Scanner_digitOf_6 rfl (lv_at hl 0 rfl) ?_
    refine wi_bipush hx hb d_Scanner_digitOf_7 (by decide) ?_
    refine wi_icmp_gt (tgt := 17) hx hb d_Scanner_digitOf_9 (by decide) (by omega) (by omega) (fun c_4 => ?_) (fun c_4 => ?_)
    · skip
      refine lv_iload_n hx hb d_Scanner_digitOf_17 rfl (lv_at hl 0 rfl) ?_
      refine wi_bipush hx hb d_Scanner_digitOf_18 (by decide) ?_
      refine wi_icmp_lt (tgt := 39) hx hb d_Scanner_digitOf_20 (by decide) (by omega) (by omega) (fun c_5 => ?_) (fun c_5 => ?_)
      · skip
        refine wi_bipush hx hb d_Scanner_digitOf_39 (by decide) ?_
        exact ret 16 _ _ _ _ d_Scanner_digitOf_41 (show (16 = dig x) from (by unfold dig; rw [if_neg (by omega), if_neg (by omega)])) (hP.sub [] rfl) (hD.sub [] (by decide) rfl) hS
      · skip
        refine lv_iload_n hx hb d_Scanner_digitOf_23 rfl (lv_at hl 0 rfl) ?_
        refine wi_bipush hx hb d_Scanner_digitOf_24 (by decide) ?_
        refine wi_icmp_gt (tgt := 39) hx hb d_Scanner_digitOf_26 (by decide) (by omega) (by omega) (fun c_6 => ?_) (fun c_6 => ?_)
        · skip
          refine wi_bipush hx hb d_Scanner_digitOf_39 (by decide) ?_
          exact ret 16 _ _ _ _ d_Scanner_digitOf_41 (show (16 = dig x) from (by unfold dig; rw [if_neg (by omega), if_neg (by omega)])) (hP.sub [] rfl) (hD.sub [] (by decide) rfl) hS
        · skip
          refine lv_iload_n hx hb d_Scanner_digitOf_29 rfl (lv_at hl 0 rfl) ?_
          refine wi_bipush hx hb d_Scanner_digitOf_30 (by decide) ?_
          refine wi_isub hx hb d_Scanner_digitOf_32 ?_
          refine wi_bipush hx hb d_Scanner_digitOf_33 (by decide) ?_
          refine wi_iadd hx hb d_Scanner_digitOf_35 ?_
          refine lv_goto (tgt := 41) hx hb d_Scanner_digitOf_36 (by decide) ?_
          exact ret (x - 97 + 10) _ _ _ _ d_Scanner_digitOf_41 (show ((x - 97 + 10) = dig x) from (by unfold dig; rw [if_neg (by omega), if_pos (by omega)])) (hP.sub [] rfl) (hD.sub [] (by decide) rfl) hS
    · skip
      refine lv_iload_n hx hb d_Scanner_digitOf_12 rfl (lv_at hl 0 rfl) ?_
      refine wi_bipush hx hb d_Scanner_digitOf_13 (by decide) ?_
      refine wi_isub hx hb d_Scanner_digitOf_15 ?_
      exact ret (x - 48) _ _ _ _ d_Scanner_digitOf_16 (show ((x - 48) = dig x) from (by unfold dig; rw [if_pos (by omega)])) (hP.sub [] rfl) (hD.sub [] (by decide) rfl) hS
set_option maxHeartbeats 4000000 in
set_option maxRecDepth 100000 in
theorem c_Scanner_peek (l : Launch) (D : va_G) (E : EVt) (h : Nat) (tp : Nat) (ar : Nat) (f1 : Nat) (f2 : Nat) (rd : Nat) (em : Bool) (ob : Bool) (oa : Bool) (pos : Int) (fr : Int) (ex : Int) (hp : Bool) (ta : Nat) (t : Int → Int) (n : Int) (hn : 0 ≤ n ∧ n ≤ 400) (hT : Tx t n) (hpos : 0 ≤ pos ∧ pos ≤ n) : CT l D classes (tyl E) (EVX E) y_Scanner_peek (Cond.code y_Scanner_peek b_Scanner_peek 1 (some .int) :: TB) (rmK 1 0 0 21) 0 0 [.ref h] [(h, .inr (4, [.ref tp, .ref ar, .ref f1, .ref f2, .ref rd, .int (bI em), .int (bI ob), .int (bI oa), .int (iI pos), .int (iI fr), .int (iI ex), .int (bI hp)])), (tp, .inr (3, [.ref ta, .int (iI n)])), (ta, .inl (E.2.1, 400, .inl (ia t)))] (S := Int) (fun _ => [(h, .inr (4, [.ref tp, .ref ar, .ref f1, .ref f2, .ref rd, .int (bI em), .int (bI ob), .int (bI oa), .int (iI pos), .int (iI fr), .int (iI ex), .int (bI hp)])), (tp, .inr (3, [.ref ta, .int (iI n)])), (ta, .inl (E.2.1, 400, .inl (ia t)))]) (fun u => some (.int (iI u))) (fun u => (u = rat t n pos)) := by
  refine CT.ofi (fv := fun (u : Int) => u) (eok E) (by decide) rfl (Nat.le_of_ble_eq_true rfl) ?_
  intro p e s m args below meth c A Q ls B hmn hP hD hS hl ret
  have B : Bd l D classes (tyl E) (EVX E) p m c b_Scanner_peek 1 s args (Cond.code y_Scanner_peek b_Scanner_peek 1 (some .int) :: TB) R_Scanner A := B
  obtain ⟨⟨hx, hb, hml, hown, hts⟩, hX, hK, hE, hA⟩ := id B
  have hl : lv_has ls 1 [(0, .ref h)] := hl
  have hP : va_P D classes [(h, .inr (4, [.ref tp, .ref ar, .ref f1, .ref f2, .ref rd, .int (bI em), .int (bI ob), .int (bI oa), .int (iI pos), .int (iI fr), .int (iI ex), .int (bI hp)])), (tp, .inr (3, [.ref ta, .int (iI n)])), (ta, .inl (E.2.1, 400, .inl (ia t)))] s.heap := hP
  have hD : va_D A [(h, .inr (4, [.ref tp, .ref ar, .ref f1, .ref f2, .ref rd, .int (bI em), .int (bI ob), .int (bI oa), .int (iI pos), .int (iI fr), .int (iI ex), .int (bI hp)])), (tp, .inr (3, [.ref ta, .int (iI n)])), (ta, .inl (E.2.1, 400, .inl (ia t)))] := hD
  refine lv_aload_n hx hb d_Scanner_peek_0 rfl (lv_at hl 0 rfl) ?_
  refine wk_get B hP 0 rfl fl_Scanner_9 (v := .ref tp) rfl d_Scanner_peek_1 ?_
  refine lv_aload_n hx hb d_Scanner_peek_4 rfl (lv_at hl 0 rfl) ?_
  refine wk_get B hP 0 rfl fl_Scanner_53 (v := .int (iI pos)) rfl d_Scanner_peek_5 ?_
  refine wk_callV (As := [.int (iI pos)]) (rest := []) (wr := [(h, .inr (4, [.ref tp, .ref ar, .ref f1, .ref f2, .ref rd, .int (bI em), .int (bI ob), .int (bI oa), .int (iI pos), .int (iI fr), .int (iI ex), .int (bI hp)]))]) B gTB cl_Scanner_45 (c_Row_at l D E tp ta 400 t n pos (by omega) (by omega) (by omega)) ⟨⟨rfl, rfl⟩, Nat.le_of_ble_eq_true rfl, Nat.le_of_ble_eq_true rfl⟩ hP hD hS [1, 2] [0] rfl rfl (by decide) 1 rfl rfl rfl ⟨hl.2.1, hl.1⟩ rfl (Nat.le_of_ble_eq_true rfl) d_Scanner_peek_8 ⟨Nat.le_of_ble_eq_true rfl, Nat.le_of_ble_eq_true rfl⟩ rfl (fun r_1 H locs hw hP hD hS => ?_)
  have hP : va_P D classes [(h, .inr (4, [.ref tp, .ref ar, .ref f1, .ref f2, .ref rd, .int (bI em), .int (bI ob), .int (bI oa), .int (iI pos), .int (iI fr), .int (iI ex), .int (bI hp)])), (tp, .inr (3, [.ref ta, .int (iI n)])), (ta, .inl (E.2.1, 400, .inl (ia t)))] H := hP
  have hD : va_D A [(h, .inr (4, [.ref tp, .ref ar, .ref f1, .ref f2, .ref rd, .int (bI em), .int (bI ob), .int (bI oa), .int (iI pos), .int (iI fr), .int (iI ex), .int (bI hp)])), (tp, .inr (3, [.ref ta, .int (iI n)])), (ta, .inl (E.2.1, 400, .inl (ia t)))] := hD
  have hw : (r_1 = rat t n pos) := hw
  have hr_2 := hw
  refine W.cs (g := F0 m 11 ls [.int (iI r_1)]) (cells' := 0) (slots' := 0) rfl rfl ?_
  subst hr_2
  exact ret (rat t n pos) _ _ _ _ d_Scanner_peek_11 (show ((rat t n pos) = rat t n pos) from rfl) (hP.sub [0, 1, 2] rfl) (hD.sub [0, 1, 2] (by decide) rfl) hS
set_option maxHeartbeats 4000000 in
set_option maxRecDepth 100000 in
theorem c_Scanner_takeBlanks (l : Launch) (D : va_G) (E : EVt) (h : Nat) (tp : Nat) (ar : Nat) (f1 : Nat) (f2 : Nat) (rd : Nat) (em : Bool) (ob : Bool) (oa : Bool) (pos : Int) (fr : Int) (ex : Int) (hp : Bool) (ta : Nat) (t : Int → Int) (n : Int) (hn : 0 ≤ n ∧ n ≤ 400) (hT : Tx t n) (hpos : 0 ≤ pos ∧ pos ≤ n) : CT l D classes (tyl E) (EVX E) y_Scanner_takeBlanks (Cond.code y_Scanner_takeBlanks b_Scanner_takeBlanks 1 none :: TB) (rmK 2 0 0 41) 0 0 [.ref h] [(h, .inr (4, [.ref tp, .ref ar, .ref f1, .ref f2, .ref rd, .int (bI em), .int (bI ob), .int (bI oa), .int (iI pos), .int (iI fr), .int (iI ex), .int (bI hp)])), (tp, .inr (3, [.ref ta, .int (iI n)])), (ta, .inl (E.2.1, 400, .inl (ia t)))] (S := Int) (fun u => [(h, .inr (4, [.ref tp, .ref ar, .ref f1, .ref f2, .ref rd, .int (bI em), .int (bI ob), .int (bI oa), .int (iI u), .int (iI fr), .int (iI ex), .int (bI hp)])), (tp, .inr (3, [.ref ta, .int (iI n)])), (ta, .inl (E.2.1, 400, .inl (ia t)))]) (fun _ => none) (fun u => (u = sk t n pos) ∧ (pos ≤ u ∧ u ≤ n)) := by
  refine CT.ofv (eok E) (by decide) rfl (Nat.le_of_ble_eq_true rfl) ?_
  intro p e s m args below meth c A Q ls B hmn hP hD hS hl ret
  have B : Bd l D classes (tyl E) (EVX E) p m c b_Scanner_takeBlanks 1 s args (Cond.code y_Scanner_takeBlanks b_Scanner_takeBlanks 1 none :: TB) R_Scanner A := B
  obtain ⟨⟨hx, hb, hml, hown, hts⟩, hX, hK, hE, hA⟩ := id B
  have hl : lv_has ls 1 [(0, .ref h)] := hl
  have hP : va_P D classes [(h, .inr (4, [.ref tp, .ref ar, .ref f1, .ref f2, .ref rd, .int (bI em), .int (bI ob), .int (bI oa), .int (iI pos), .int (iI fr), .int (iI ex), .int (bI hp)])), (tp, .inr (3, [.ref ta, .int (iI n)])), (ta, .inl (E.2.1, 400, .inl (ia t)))] s.heap := hP
  have hD : va_D A [(h, .inr (4, [.ref tp, .ref ar, .ref f1, .ref f2, .ref rd, .int (bI em), .int (bI ob), .int (bI oa), .int (iI pos), .int (iI fr), .int (iI ex), .int (bI hp)])), (tp, .inr (3, [.ref ta, .int (iI n)])), (ta, .inl (E.2.1, 400, .inl (ia t)))] := hD
  have K_0 : ∀ (fuel0 : Nat) (p1 : Int) (hp1 : pos ≤ p1 ∧ p1 ≤ n) (hsk : sk t n pos = sk t n p1) (hf0 : n - p1 < (fuel0 : Int)) (ls : Array Slot) (H : Heap) (locs : List Loc), lv_has ls 1 [(0, .ref h)] → va_P D classes [(h, .inr (4, [.ref tp, .ref ar, .ref f1, .ref f2, .ref rd, .int (bI em), .int (bI ob), .int (bI oa), .int (iI p1), .int (iI fr), .int (iI ex), .int (bI hp)])), (tp, .inr (3, [.ref ta, .int (iI n)])), (ta, .inl (E.2.1, 400, .inl (ia t)))] H → va_D A [(h, .inr (4, [.ref tp, .ref ar, .ref f1, .ref f2, .ref rd, .int (bI em), .int (bI ob), .int (bI oa), .int (iI p1), .int (iI fr), .int (iI ex), .int (bI hp)])), (tp, .inr (3, [.ref ta, .int (iI n)])), (ta, .inl (E.2.1, 400, .inl (ia t)))] → va_S A s.heap H locs → W p l e (rmK 2 0 0 41) s m args below meth c H locs 0 0 Q (F0 m 0 ls []) := by
    intro fuel0
    induction fuel0 with
    | zero =>
      intro p1 hp1 hsk hf0 ls H locs hl hP hD hS
      exfalso; omega
    | succ fuel0 ih0 =>
      intro p1 hp1 hsk hf0 ls H locs hl hP hD hS
      have hrr := rat_rng hT p1
      refine lv_aload_n hx hb d_Scanner_takeBlanks_0 rfl (lv_at hl 0 rfl) ?_
      refine wk_get B hP 0 rfl fl_Scanner_53 (v := .int (iI p1)) rfl d_Scanner_takeBlanks_1 ?_
      refine lv_aload_n hx hb d_Scanner_takeBlanks_4 rfl (lv_at hl 0 rfl) ?_
      refine wk_get B hP 0 rfl fl_Scanner_9 (v := .ref tp) rfl d_Scanner_takeBlanks_5 ?_
      refine wk_get B hP 1 rfl fl_Scanner_41 (v := .int (iI n)) rfl d_Scanner_takeBlanks_8 ?_
      refine wi_icmp_ge (tgt := 37) hx hb d_Scanner_takeBlanks_11 (by decide) (by omega) (by omega) (fun c_1 => ?_) (fun c_1 => ?_)
      · skip
        exact ret p1 _ _ _ _ d_Scanner_takeBlanks_37 (show (p1 = sk t n pos) ∧ (pos ≤ p1 ∧ p1 ≤ n) from ⟨by rw [hsk, sk_stop (fun z => by first | (exact absurd z.1 (by omega)) | (have z2 := z.2; rw [rat_in (by omega), z2] at c_6; cases c_6))], by omega⟩) (hP.sub [0, 1, 2] rfl) (hD.sub [0, 1, 2] (by decide) rfl) hS
      · skip
        refine lv_aload_n hx hb d_Scanner_takeBlanks_14 rfl (lv_at hl 0 rfl) ?_
        refine wk_callV (As := []) (rest := []) (wr := []) B gTB cl_Scanner_68 (c_Scanner_peek l D E h tp ar f1 f2 rd em ob oa p1 fr ex hp ta t n (by omega) (hT) (by omega)) ⟨⟨rfl, rfl⟩, Nat.le_of_ble_eq_true rfl, Nat.le_of_ble_eq_true rfl⟩ hP hD hS [0, 1, 2] [] rfl rfl (by decide) 0 rfl rfl rfl ⟨hl.2.1, hl.1⟩ rfl (Nat.le_of_ble_eq_true rfl) d_Scanner_takeBlanks_15 ⟨Nat.le_of_ble_eq_true rfl, Nat.le_of_ble_eq_true rfl⟩ rfl (fun r_2 H locs hw hP hD hS => ?_)
        have hP : va_P D classes [(h, .inr (4, [.ref tp, .ref ar, .ref f1, .ref f2, .ref rd, .int (bI em), .int (bI ob), .int (bI oa), .int (iI p1), .int (iI fr), .int (iI ex), .int (bI hp)])), (tp, .inr (3, [.ref ta, .int (iI n)])), (ta, .inl (E.2.1, 400, .inl (ia t)))] H := hP
        have hD : va_D A [(h, .inr (4, [.ref tp, .ref ar, .ref f1, .ref f2, .ref rd, .int (bI em), .int (bI ob), .int (bI oa), .int (iI p1), .int (iI fr), .int (iI ex), .int (bI hp)])), (tp, .inr (3, [.ref ta, .int (iI n)])), (ta, .inl (E.2.1, 400, .inl (ia t)))] := hD
        have hw : (r_2 = rat t n p1) := hw
        have hr_3 := hw
        refine W.cs (g := F0 m 18 ls [.int (iI r_2)]) (cells' := 0) (slots' := 0) rfl rfl ?_
        subst hr_3
        refine wk_callS (As := [.int (iI (rat t n p1))]) (rest := []) (wr := [(h, .inr (4, [.ref tp, .ref ar, .ref f1, .ref f2, .ref rd, .int (bI em), .int (bI ob), .int (bI oa), .int (iI p1), .int (iI fr), .int (iI ex), .int (bI hp)])), (tp, .inr (3, [.ref ta, .int (iI n)])), (ta, .inl (E.2.1, 400, .inl (ia t)))]) B gTB cl_Scanner_49 (c_Scanner_isBlank l D E (rat t n p1) (by omega)) ⟨⟨rfl, rfl⟩, Nat.le_of_ble_eq_true rfl, Nat.le_of_ble_eq_true rfl⟩ hP hD hS [] [0, 1, 2] rfl rfl (by decide) ⟨hl.2.1, hl.1⟩ rfl (Nat.le_of_ble_eq_true rfl) d_Scanner_takeBlanks_18 ⟨Nat.le_of_ble_eq_true rfl, Nat.le_of_ble_eq_true rfl⟩ rfl (fun r_4 H locs hw hP hD hS => ?_)
        have hP : va_P D classes [(h, .inr (4, [.ref tp, .ref ar, .ref f1, .ref f2, .ref rd, .int (bI em), .int (bI ob), .int (bI oa), .int (iI p1), .int (iI fr), .int (iI ex), .int (bI hp)])), (tp, .inr (3, [.ref ta, .int (iI n)])), (ta, .inl (E.2.1, 400, .inl (ia t)))] H := hP
        have hD : va_D A [(h, .inr (4, [.ref tp, .ref ar, .ref f1, .ref f2, .ref rd, .int (bI em), .int (bI ob), .int (bI oa), .int (iI p1), .int (iI fr), .int (iI ex), .int (bI hp)])), (tp, .inr (3, [.ref ta, .int (iI n)])), (ta, .inl (E.2.1, 400, .inl (ia t)))] := hD
        have hw : (r_4 = blk (rat t n p1)) := hw
        have hr_5 := hw
        refine W.cs (g := F0 m 21 ls [.int (bI r_4)]) (cells' := 0) (slots' := 0) rfl rfl ?_
        subst hr_5
        refine wb_if_eq (tgt := 37) hx hb d_Scanner_takeBlanks_21 (by decide) (fun c_6 => ?_) (fun c_6 => ?_)
        · skip
          exact ret p1 _ _ _ _ d_Scanner_takeBlanks_37 (show (p1 = sk t n pos) ∧ (pos ≤ p1 ∧ p1 ≤ n) from ⟨by rw [hsk, sk_stop (fun z => by first | (exact absurd z.1 (by omega)) | (have z2 := z.2; rw [rat_in (by omega), z2] at c_6; cases c_6))], by omega⟩) (hP.sub [0, 1, 2] rfl) (hD.sub [0, 1, 2] (by decide) rfl) hS
        · skip
          refine lv_aload_n hx hb d_Scanner_takeBlanks_24 rfl (lv_at hl 0 rfl) ?_
          refine lv_dup hx hb d_Scanner_takeBlanks_25 rfl ?_
          refine wk_get B hP 0 rfl fl_Scanner_53 (v := .int (iI p1)) rfl d_Scanner_takeBlanks_26 ?_
          refine wi_iconst (n := 1) hx hb d_Scanner_takeBlanks_29 ?_
          refine wi_iadd hx hb d_Scanner_takeBlanks_30 ?_
          refine wk_put B hP hD hS 0 rfl fl_Scanner_53 fp_Scanner_8 (v := .int (iI (p1 + 1))) rfl rfl (Nat.le_of_ble_eq_true rfl) d_Scanner_takeBlanks_31 (fun H locs hP hD hS => ?_)
          have hP : va_P D classes [(h, .inr (4, [.ref tp, .ref ar, .ref f1, .ref f2, .ref rd, .int (bI em), .int (bI ob), .int (bI oa), .int (iI (p1 + 1)), .int (iI fr), .int (iI ex), .int (bI hp)])), (tp, .inr (3, [.ref ta, .int (iI n)])), (ta, .inl (E.2.1, 400, .inl (ia t)))] H := hP
          have hD : va_D A [(h, .inr (4, [.ref tp, .ref ar, .ref f1, .ref f2, .ref rd, .int (bI em), .int (bI ob), .int (bI oa), .int (iI (p1 + 1)), .int (iI fr), .int (iI ex), .int (bI hp)])), (tp, .inr (3, [.ref ta, .int (iI n)])), (ta, .inl (E.2.1, 400, .inl (ia t)))] := hD
          refine lv_goto (tgt := 0) hx hb d_Scanner_takeBlanks_34 (by decide) ?_
          exact ih0 (p1 + 1) (by omega) (by rw [hsk]; exact sk_step (by omega) (by rw [rat_in (by omega)] at c_6; exact c_6)) (by omega) _ _ _ (lv_sub hl [0] rfl) (hP.sub [0, 1, 2] rfl) (hD.sub [0, 1, 2] (by decide) rfl) hS
  exact K_0 ((n - pos : Int).toNat + 1) pos (by omega) (rfl) (by omega) _ _ _ (lv_sub hl [0] rfl) (hP.sub [0, 1, 2] rfl) (hD.sub [0, 1, 2] (by decide) rfl) hS
set_option maxHeartbeats 4000000 in
set_option maxRecDepth 100000 in
theorem c_Scanner_takeWord (l : Launch) (D : va_G) (E : EVt) (h : Nat) (tp : Nat) (ar : Nat) (f1 : Nat) (f2 : Nat) (rd : Nat) (em : Bool) (ob : Bool) (oa : Bool) (pos : Int) (fr : Int) (ex : Int) (hp : Bool) (ta : Nat) (t : Int → Int) (n : Int) (i : Nat) (hn : 0 ≤ n ∧ n ≤ 400) (hT : Tx t n) (hpos : 0 ≤ pos ∧ pos ≤ n) (hi : i < 43) : CT l D classes (tyl E) (EVX E) y_Scanner_takeWord (Cond.code y_Scanner_takeWord b_Scanner_takeWord 3 (some .boolean) :: TB) (rmK 4 0 0 85) 0 0 [.ref h, .ref (E.2.2.1 i)] [(h, .inr (4, [.ref tp, .ref ar, .ref f1, .ref f2, .ref rd, .int (bI em), .int (bI ob), .int (bI oa), .int (iI pos), .int (iI fr), .int (iI ex), .int (bI hp)])), (tp, .inr (3, [.ref ta, .int (iI n)])), (ta, .inl (E.2.1, 400, .inl (ia t)))] (S := Int × Bool) (fun u => [(h, .inr (4, [.ref tp, .ref ar, .ref f1, .ref f2, .ref rd, .int (bI em), .int (bI ob), .int (bI oa), .int (iI u.1), .int (iI fr), .int (iI ex), .int (bI hp)])), (tp, .inr (3, [.ref ta, .int (iI n)])), (ta, .inl (E.2.1, 400, .inl (ia t)))]) (fun u => some (.int (bI u.2))) (fun u => (u.2 = wdB t n pos i) ∧ (u.1 = wq t n pos i) ∧ (pos ≤ u.1 ∧ u.1 ≤ n)) := by
  refine CT.ofz (fv := fun (u : Int × Bool) => u.2) (eok E) (by decide) rfl (Nat.le_of_ble_eq_true rfl) ?_
  intro p e s m args below meth c A Q ls B hmn hP hD hS hl ret
  have B : Bd l D classes (tyl E) (EVX E) p m c b_Scanner_takeWord 3 s args (Cond.code y_Scanner_takeWord b_Scanner_takeWord 3 (some .boolean) :: TB) R_Scanner A := B
  obtain ⟨⟨hx, hb, hml, hown, hts⟩, hX, hK, hE, hA⟩ := id B
  have hl : lv_has ls 3 [(0, .ref h), (1, .ref (E.2.2.1 i))] := hl
  have hP : va_P D classes [(h, .inr (4, [.ref tp, .ref ar, .ref f1, .ref f2, .ref rd, .int (bI em), .int (bI ob), .int (bI oa), .int (iI pos), .int (iI fr), .int (iI ex), .int (bI hp)])), (tp, .inr (3, [.ref ta, .int (iI n)])), (ta, .inl (E.2.1, 400, .inl (ia t)))] s.heap := hP
  have hD : va_D A [(h, .inr (4, [.ref tp, .ref ar, .ref f1, .ref f2, .ref rd, .int (bI em), .int (bI ob), .int (bI oa), .int (iI pos), .int (iI fr), .int (iI ex), .int (bI hp)])), (tp, .inr (3, [.ref ta, .int (iI n)])), (ta, .inl (E.2.1, 400, .inl (ia t)))] := hD
  have hsl := strLen_all i hi
  have K_2 : ∀ (fuel2 : Nat) (k : Int) (hk : 0 ≤ k ∧ k ≤ (strLen i : Int)) (hpk : pos + k ≤ n) (hww : wdB t n pos i = wdL t n (pos + k) ((strByt.getD i []).drop k.toNat)) (hf2 : (strLen i : Int) - k < (fuel2 : Int)) (ls : Array Slot) (H : Heap) (locs : List Loc), lv_has ls 3 [(0, .ref h), (1, .ref (E.2.2.1 i)), (2, .int (iI k))] → va_P D classes [(h, .inr (4, [.ref tp, .ref ar, .ref f1, .ref f2, .ref rd, .int (bI em), .int (bI ob), .int (bI oa), .int (iI pos), .int (iI fr), .int (iI ex), .int (bI hp)])), (tp, .inr (3, [.ref ta, .int (iI n)])), (ta, .inl (E.2.1, 400, .inl (ia t)))] H → va_D A [(h, .inr (4, [.ref tp, .ref ar, .ref f1, .ref f2, .ref rd, .int (bI em), .int (bI ob), .int (bI oa), .int (iI pos), .int (iI fr), .int (iI ex), .int (bI hp)])), (tp, .inr (3, [.ref ta, .int (iI n)])), (ta, .inl (E.2.1, 400, .inl (ia t)))] → va_S A s.heap H locs → W p l e (rmK 4 0 0 85) s m args below meth c H locs 0 0 Q (F0 m 2 ls []) := by
    intro fuel2
    induction fuel2 with
    | zero =>
      intro k hk hpk hww hf2 ls H locs hl hP hD hS
      exfalso; omega
    | succ fuel2 ih2 =>
      intro k hk hpk hww hf2 ls H locs hl hP hD hS
      have hrr := rat_rng hT (pos + k)
      have hsc := strCh_rng i k
      refine lv_iload_n hx hb d_Scanner_takeWord_2 rfl (lv_at hl 2 rfl) ?_
      refine lv_aload_n hx hb d_Scanner_takeWord_3 rfl (lv_at hl 1 rfl) ?_
      refine wk_callO (As := []) (rest := [.int (iI k)]) (wr := [(h, .inr (4, [.ref tp, .ref ar, .ref f1, .ref f2, .ref rd, .int (bI em), .int (bI ob), .int (bI oa), .int (iI pos), .int (iI fr), .int (iI ex), .int (bI hp)])), (tp, .inr (3, [.ref ta, .int (iI n)])), (ta, .inl (E.2.1, 400, .inl (ia t)))]) B gTB cl_Scanner_185 (c_JStr_length l D E i (by omega)) ⟨⟨rfl, rfl⟩, Nat.le_of_ble_eq_true rfl, Nat.le_of_ble_eq_true rfl⟩ hP hD hS [] [0, 1, 2] rfl rfl (by decide) (va_O_at (hE.2.2.1 i hi).1 hS) ⟨hl.2.1, hl.1⟩ rfl (Nat.le_of_ble_eq_true rfl) d_Scanner_takeWord_4 ⟨Nat.le_of_ble_eq_true rfl, Nat.le_of_ble_eq_true rfl⟩ rfl (fun r_1 H locs hw hP hD hS => ?_)
      have hP : va_P D classes [(h, .inr (4, [.ref tp, .ref ar, .ref f1, .ref f2, .ref rd, .int (bI em), .int (bI ob), .int (bI oa), .int (iI pos), .int (iI fr), .int (iI ex), .int (bI hp)])), (tp, .inr (3, [.ref ta, .int (iI n)])), (ta, .inl (E.2.1, 400, .inl (ia t)))] H := hP
      have hD : va_D A [(h, .inr (4, [.ref tp, .ref ar, .ref f1, .ref f2, .ref rd, .int (bI em), .int (bI ob), .int (bI oa), .int (iI pos), .int (iI fr), .int (iI ex), .int (bI hp)])), (tp, .inr (3, [.ref ta, .int (iI n)])), (ta, .inl (E.2.1, 400, .inl (ia t)))] := hD
      have hw : (r_1 = (strLen i : Int)) := hw
      have hr_2 := hw
      refine W.cs (g := F0 m 7 ls [.int (iI r_1), .int (iI k)]) (cells' := 0) (slots' := 0) rfl rfl ?_
      subst hr_2
      refine wi_icmp_ge (tgt := 39) hx hb d_Scanner_takeWord_7 (by decide) (by omega) (by omega) (fun c_3 => ?_) (fun c_3 => ?_)
      · skip
        have hwt : wdB t n pos i = true := by
          rw [hww, List.drop_eq_nil_of_le (by unfold strLen at hk c_3; omega)]; rfl
        refine lv_aload_n hx hb d_Scanner_takeWord_39 rfl (lv_at hl 0 rfl) ?_
        refine lv_dup hx hb d_Scanner_takeWord_40 rfl ?_
        refine wk_get B hP 0 rfl fl_Scanner_53 (v := .int (iI pos)) rfl d_Scanner_takeWord_41 ?_
        refine lv_aload_n hx hb d_Scanner_takeWord_44 rfl (lv_at hl 1 rfl) ?_
        refine wk_callO (As := []) (rest := [.int (iI pos), .ref h]) (wr := [(h, .inr (4, [.ref tp, .ref ar, .ref f1, .ref f2, .ref rd, .int (bI em), .int (bI ob), .int (bI oa), .int (iI pos), .int (iI fr), .int (iI ex), .int (bI hp)])), (tp, .inr (3, [.ref ta, .int (iI n)])), (ta, .inl (E.2.1, 400, .inl (ia t)))]) B gTB cl_Scanner_185 (c_JStr_length l D E i (by omega)) ⟨⟨rfl, rfl⟩, Nat.le_of_ble_eq_true rfl, Nat.le_of_ble_eq_true rfl⟩ hP hD hS [] [0, 1, 2] rfl rfl (by decide) (va_O_at (hE.2.2.1 i hi).1 hS) ⟨hl.2.1, hl.1⟩ rfl (Nat.le_of_ble_eq_true rfl) d_Scanner_takeWord_45 ⟨Nat.le_of_ble_eq_true rfl, Nat.le_of_ble_eq_true rfl⟩ rfl (fun r_4 H locs hw hP hD hS => ?_)
        have hP : va_P D classes [(h, .inr (4, [.ref tp, .ref ar, .ref f1, .ref f2, .ref rd, .int (bI em), .int (bI ob), .int (bI oa), .int (iI pos), .int (iI fr), .int (iI ex), .int (bI hp)])), (tp, .inr (3, [.ref ta, .int (iI n)])), (ta, .inl (E.2.1, 400, .inl (ia t)))] H := hP
        have hD : va_D A [(h, .inr (4, [.ref tp, .ref ar, .ref f1, .ref f2, .ref rd, .int (bI em), .int (bI ob), .int (bI oa), .int (iI pos), .int (iI fr), .int (iI ex), .int (bI hp)])), (tp, .inr (3, [.ref ta, .int (iI n)])), (ta, .inl (E.2.1, 400, .inl (ia t)))] := hD
        have hw : (r_4 = (strLen i : Int)) := hw
        have hr_5 := hw
        refine W.cs (g := F0 m 48 ls [.int (iI r_4), .int (iI pos), .ref h]) (cells' := 0) (slots' := 0) rfl rfl ?_
        subst hr_5
        refine wi_iadd hx hb d_Scanner_takeWord_48 ?_
        refine wk_put B hP hD hS 0 rfl fl_Scanner_53 fp_Scanner_8 (v := .int (iI (pos + (strLen i : Int)))) rfl rfl (Nat.le_of_ble_eq_true rfl) d_Scanner_takeWord_49 (fun H locs hP hD hS => ?_)
        have hP : va_P D classes [(h, .inr (4, [.ref tp, .ref ar, .ref f1, .ref f2, .ref rd, .int (bI em), .int (bI ob), .int (bI oa), .int (iI (pos + (strLen i : Int))), .int (iI fr), .int (iI ex), .int (bI hp)])), (tp, .inr (3, [.ref ta, .int (iI n)])), (ta, .inl (E.2.1, 400, .inl (ia t)))] H := hP
        have hD : va_D A [(h, .inr (4, [.ref tp, .ref ar, .ref f1, .ref f2, .ref rd, .int (bI em), .int (bI ob), .int (bI oa), .int (iI (pos + (strLen i : Int))), .int (iI fr), .int (iI ex), .int (bI hp)])), (tp, .inr (3, [.ref ta, .int (iI n)])), (ta, .inl (E.2.1, 400, .inl (ia t)))] := hD
        refine wi_iconst (n := 1) hx hb d_Scanner_takeWord_52 ?_
        refine w_as1 ?_
        exact ret (pos + (strLen i : Int), true) _ _ _ _ d_Scanner_takeWord_53 (show (true = wdB t n pos i) ∧ ((pos + (strLen i : Int)) = wq t n pos i) ∧ (pos ≤ (pos + (strLen i : Int)) ∧ (pos + (strLen i : Int)) ≤ n) from ⟨hwt.symm, (wq_t hwt).symm, by omega⟩) (hP.sub [0, 1, 2] rfl) (hD.sub [0, 1, 2] (by decide) rfl) hS
      · skip
        refine lv_aload_n hx hb d_Scanner_takeWord_10 rfl (lv_at hl 0 rfl) ?_
        refine wk_get B hP 0 rfl fl_Scanner_9 (v := .ref tp) rfl d_Scanner_takeWord_11 ?_
        refine lv_aload_n hx hb d_Scanner_takeWord_14 rfl (lv_at hl 0 rfl) ?_
        refine wk_get B hP 0 rfl fl_Scanner_53 (v := .int (iI pos)) rfl d_Scanner_takeWord_15 ?_
        refine lv_iload_n hx hb d_Scanner_takeWord_18 rfl (lv_at hl 2 rfl) ?_
        refine wi_iadd hx hb d_Scanner_takeWord_19 ?_
        refine wk_callV (As := [.int (iI (pos + k))]) (rest := []) (wr := [(h, .inr (4, [.ref tp, .ref ar, .ref f1, .ref f2, .ref rd, .int (bI em), .int (bI ob), .int (bI oa), .int (iI pos), .int (iI fr), .int (iI ex), .int (bI hp)]))]) B gTB cl_Scanner_45 (c_Row_at l D E tp ta 400 t n (pos + k) (by omega) (by omega) (by omega)) ⟨⟨rfl, rfl⟩, Nat.le_of_ble_eq_true rfl, Nat.le_of_ble_eq_true rfl⟩ hP hD hS [1, 2] [0] rfl rfl (by decide) 1 rfl rfl rfl ⟨hl.2.1, hl.1⟩ rfl (Nat.le_of_ble_eq_true rfl) d_Scanner_takeWord_20 ⟨Nat.le_of_ble_eq_true rfl, Nat.le_of_ble_eq_true rfl⟩ rfl (fun r_6 H locs hw hP hD hS => ?_)
        have hP : va_P D classes [(h, .inr (4, [.ref tp, .ref ar, .ref f1, .ref f2, .ref rd, .int (bI em), .int (bI ob), .int (bI oa), .int (iI pos), .int (iI fr), .int (iI ex), .int (bI hp)])), (tp, .inr (3, [.ref ta, .int (iI n)])), (ta, .inl (E.2.1, 400, .inl (ia t)))] H := hP
        have hD : va_D A [(h, .inr (4, [.ref tp, .ref ar, .ref f1, .ref f2, .ref rd, .int (bI em), .int (bI ob), .int (bI oa), .int (iI pos), .int (iI fr), .int (iI ex), .int (bI hp)])), (tp, .inr (3, [.ref ta, .int (iI n)])), (ta, .inl (E.2.1, 400, .inl (ia t)))] := hD
        have hw : (r_6 = rat t n (pos + k)) := hw
        have hr_7 := hw
        refine W.cs (g := F0 m 23 ls [.int (iI r_6)]) (cells' := 0) (slots' := 0) rfl rfl ?_
        subst hr_7
        refine lv_aload_n hx hb d_Scanner_takeWord_23 rfl (lv_at hl 1 rfl) ?_
        refine lv_iload_n hx hb d_Scanner_takeWord_24 rfl (lv_at hl 2 rfl) ?_
        refine wk_callO (As := [.int (iI k)]) (rest := [.int (iI (rat t n (pos + k)))]) (wr := [(h, .inr (4, [.ref tp, .ref ar, .ref f1, .ref f2, .ref rd, .int (bI em), .int (bI ob), .int (bI oa), .int (iI pos), .int (iI fr), .int (iI ex), .int (bI hp)])), (tp, .inr (3, [.ref ta, .int (iI n)])), (ta, .inl (E.2.1, 400, .inl (ia t)))]) B gTB cl_Scanner_190 (c_JStr_charAt l D E i k (by omega) (by omega)) ⟨⟨rfl, rfl⟩, Nat.le_of_ble_eq_true rfl, Nat.le_of_ble_eq_true rfl⟩ hP hD hS [] [0, 1, 2] rfl rfl (by decide) (va_O_at (hE.2.2.1 i hi).1 hS) ⟨hl.2.1, hl.1⟩ rfl (Nat.le_of_ble_eq_true rfl) d_Scanner_takeWord_25 ⟨Nat.le_of_ble_eq_true rfl, Nat.le_of_ble_eq_true rfl⟩ rfl (fun r_8 H locs hw hP hD hS => ?_)
        have hP : va_P D classes [(h, .inr (4, [.ref tp, .ref ar, .ref f1, .ref f2, .ref rd, .int (bI em), .int (bI ob), .int (bI oa), .int (iI pos), .int (iI fr), .int (iI ex), .int (bI hp)])), (tp, .inr (3, [.ref ta, .int (iI n)])), (ta, .inl (E.2.1, 400, .inl (ia t)))] H := hP
        have hD : va_D A [(h, .inr (4, [.ref tp, .ref ar, .ref f1, .ref f2, .ref rd, .int (bI em), .int (bI ob), .int (bI oa), .int (iI pos), .int (iI fr), .int (iI ex), .int (bI hp)])), (tp, .inr (3, [.ref ta, .int (iI n)])), (ta, .inl (E.2.1, 400, .inl (ia t)))] := hD
        have hw : (r_8 = strCh i k) := hw
        have hr_9 := hw
        refine W.cs (g := F0 m 28 ls [.int (iI r_8), .int (iI (rat t n (pos + k)))]) (cells' := 0) (slots' := 0) rfl rfl ?_
        subst hr_9
        refine wi_icmp_eq (tgt := 33) hx hb d_Scanner_takeWord_28 (by decide) (by omega) (by omega) (fun c_10 => ?_) (fun c_10 => ?_)
        · skip
          have hnn := rat_neg (t := t) (n := n) (i := pos + k) (by rw [c_10]; omega)
          refine wi_iinc (v := k + 1) (lv' := [(2, .int (iI (k + 1))), (0, .ref h), (1, .ref (E.2.2.1 i))]) hx hb d_Scanner_takeWord_33 hl (k := 2) rfl rfl (by decide) rfl (fun ls hl => ?_)
          refine lv_goto (tgt := 2) hx hb d_Scanner_takeWord_36 (by decide) ?_
          exact ih2 (k + 1) (by omega) (by omega) (by rw [hww, str_drop (by omega), wdL, decide_eq_true c_10, Bool.true_and, Int.add_assoc]) (by omega) _ _ _ (lv_sub hl [1, 2, 0] rfl) (hP.sub [0, 1, 2] rfl) (hD.sub [0, 1, 2] (by decide) rfl) hS
        · skip
          have hwf : wdB t n pos i = false := by
            rw [hww, str_drop (by omega), wdL, decide_eq_false c_10]; rfl
          refine wi_iconst (n := 0) hx hb d_Scanner_takeWord_31 ?_
          refine w_as0 ?_
          exact ret (pos, false) _ _ _ _ d_Scanner_takeWord_32 (show (false = wdB t n pos i) ∧ (pos = wq t n pos i) ∧ (pos ≤ pos ∧ pos ≤ n) from ⟨hwf.symm, (wq_f hwf).symm, by omega⟩) (hP.sub [0, 1, 2] rfl) (hD.sub [0, 1, 2] (by decide) rfl) hS
  refine wi_iconst (n := 0) hx hb d_Scanner_takeWord_0 ?_
  refine lv_istore_n (lv' := [(2, .int (iI 0)), (0, .ref h), (1, .ref (E.2.2.1 i))]) hx hb d_Scanner_takeWord_1 rfl hl (by decide) rfl (fun ls hl => ?_)
  exact K_2 (((strLen i : Int) - 0 : Int).toNat + 1) 0 (by omega) (by omega) (by rw [Int.add_zero]; rfl) (by omega) _ _ _ (lv_sub hl [1, 2, 0] rfl) (hP.sub [0, 1, 2] rfl) (hD.sub [0, 1, 2] (by decide) rfl) hS
set_option maxHeartbeats 4000000 in
set_option maxRecDepth 100000 in
theorem c_Scanner_takeSign (l : Launch) (D : va_G) (E : EVt) (h : Nat) (tp : Nat) (ar : Nat) (f1 : Nat) (f2 : Nat) (rd : Nat) (em : Bool) (ob : Bool) (oa : Bool) (pos : Int) (fr : Int) (ex : Int) (hp : Bool) (ta : Nat) (t : Int → Int) (n : Int) (hn : 0 ≤ n ∧ n ≤ 400) (hT : Tx t n) (hpos : 0 ≤ pos ∧ pos ≤ n) : CT l D classes (tyl E) (EVX E) y_Scanner_takeSign (Cond.code y_Scanner_takeSign b_Scanner_takeSign 2 (some .boolean) :: TB) (rmK 2 0 0 41) 0 0 [.ref h] [(h, .inr (4, [.ref tp, .ref ar, .ref f1, .ref f2, .ref rd, .int (bI em), .int (bI ob), .int (bI oa), .int (iI pos), .int (iI fr), .int (iI ex), .int (bI hp)])), (tp, .inr (3, [.ref ta, .int (iI n)])), (ta, .inl (E.2.1, 400, .inl (ia t)))] (S := Int × Bool) (fun u => [(h, .inr (4, [.ref tp, .ref ar, .ref f1, .ref f2, .ref rd, .int (bI em), .int (bI ob), .int (bI oa), .int (iI u.1), .int (iI fr), .int (iI ex), .int (bI hp)])), (tp, .inr (3, [.ref ta, .int (iI n)])), (ta, .inl (E.2.1, 400, .inl (ia t)))]) (fun u => some (.int (bI u.2))) (fun u => (u.2 = sgN t n pos) ∧ (u.1 = sgP t n pos) ∧ (pos ≤ u.1 ∧ u.1 ≤ n)) := by
  refine CT.ofz (fv := fun (u : Int × Bool) => u.2) (eok E) (by decide) rfl (Nat.le_of_ble_eq_true rfl) ?_
  intro p e s m args below meth c A Q ls B hmn hP hD hS hl ret
  have B : Bd l D classes (tyl E) (EVX E) p m c b_Scanner_takeSign 2 s args (Cond.code y_Scanner_takeSign b_Scanner_takeSign 2 (some .boolean) :: TB) R_Scanner A := B
  obtain ⟨⟨hx, hb, hml, hown, hts⟩, hX, hK, hE, hA⟩ := id B
  have hl : lv_has ls 2 [(0, .ref h)] := hl
  have hP : va_P D classes [(h, .inr (4, [.ref tp, .ref ar, .ref f1, .ref f2, .ref rd, .int (bI em), .int (bI ob), .int (bI oa), .int (iI pos), .int (iI fr), .int (iI ex), .int (bI hp)])), (tp, .inr (3, [.ref ta, .int (iI n)])), (ta, .inl (E.2.1, 400, .inl (ia t)))] s.heap := hP
  have hD : va_D A [(h, .inr (4, [.ref tp, .ref ar, .ref f1, .ref f2, .ref rd, .int (bI em), .int (bI ob), .int (bI oa), .int (iI pos), .int (iI fr), .int (iI ex), .int (bI hp)])), (tp, .inr (3, [.ref ta, .int (iI n)])), (ta, .inl (E.2.1, 400, .inl (ia t)))] := hD
  have hrr := rat_rng hT pos
  refine lv_aload_n hx hb d_Scanner_takeSign_0 rfl (lv_at hl 0 rfl) ?_
  refine wk_callV (As := []) (rest := []) (wr := []) B gTB cl_Scanner_68 (c_Scanner_peek l D E h tp ar f1 f2 rd em ob oa pos fr ex hp ta t n (by omega) (hT) (by omega)) ⟨⟨rfl, rfl⟩, Nat.le_of_ble_eq_true rfl, Nat.le_of_ble_eq_true rfl⟩ hP hD hS [0, 1, 2] [] rfl rfl (by decide) 0 rfl rfl rfl ⟨hl.2.1, hl.1⟩ rfl (Nat.le_of_ble_eq_true rfl) d_Scanner_takeSign_1 ⟨Nat.le_of_ble_eq_true rfl, Nat.le_of_ble_eq_true rfl⟩ rfl (fun r_1 H locs hw hP hD hS => ?_)
  have hP : va_P D classes [(h, .inr (4, [.ref tp, .ref ar, .ref f1, .ref f2, .ref rd, .int (bI em), .int (bI ob), .int (bI oa), .int (iI pos), .int (iI fr), .int (iI ex), .int (bI hp)])), (tp, .inr (3, [.ref ta, .int (iI n)])), (ta, .inl (E.2.1, 400, .inl (ia t)))] H := hP
  have hD : va_D A [(h, .inr (4, [.ref tp, .ref ar, .ref f1, .ref f2, .ref rd, .int (bI em), .int (bI ob), .int (bI oa), .int (iI pos), .int (iI fr), .int (iI ex), .int (bI hp)])), (tp, .inr (3, [.ref ta, .int (iI n)])), (ta, .inl (E.2.1, 400, .inl (ia t)))] := hD
  have hw : (r_1 = rat t n pos) := hw
  have hr_2 := hw
  refine W.cs (g := F0 m 4 ls [.int (iI r_1)]) (cells' := 0) (slots' := 0) rfl rfl ?_
  subst hr_2
  refine wi_bipush hx hb d_Scanner_takeSign_4 (by decide) ?_
  refine wi_icmp_ne (tgt := 13) hx hb d_Scanner_takeSign_6 (by decide) (by omega) (by omega) (fun c_3 => ?_) (fun c_3 => ?_)
  · skip
    refine wi_iconst (n := 0) hx hb d_Scanner_takeSign_13 ?_
    refine w_as0 ?_
    refine lv_istore_n (lv' := [(1, .int (bI false)), (0, .ref h)]) hx hb d_Scanner_takeSign_14 rfl hl (by decide) rfl (fun ls hl => ?_)
    refine lv_iload_n hx hb d_Scanner_takeSign_15 rfl (lv_at hl 0 rfl) ?_
    refine wb_if_ne (tgt := 28) hx hb d_Scanner_takeSign_16 (by decide) (fun c_4 => by exfalso; exact absurd c_4 (by decide)) (fun c_4 => ?_)
    refine lv_aload_n hx hb d_Scanner_takeSign_19 rfl (lv_at hl 1 rfl) ?_
    refine wk_callV (As := []) (rest := []) (wr := []) B gTB cl_Scanner_68 (c_Scanner_peek l D E h tp ar f1 f2 rd em ob oa pos fr ex hp ta t n (by omega) (hT) (by omega)) ⟨⟨rfl, rfl⟩, Nat.le_of_ble_eq_true rfl, Nat.le_of_ble_eq_true rfl⟩ hP hD hS [0, 1, 2] [] rfl rfl (by decide) 0 rfl rfl rfl ⟨hl.2.1, hl.1⟩ rfl (Nat.le_of_ble_eq_true rfl) d_Scanner_takeSign_20 ⟨Nat.le_of_ble_eq_true rfl, Nat.le_of_ble_eq_true rfl⟩ rfl (fun r_5 H locs hw hP hD hS => ?_)
    have hP : va_P D classes [(h, .inr (4, [.ref tp, .ref ar, .ref f1, .ref f2, .ref rd, .int (bI em), .int (bI ob), .int (bI oa), .int (iI pos), .int (iI fr), .int (iI ex), .int (bI hp)])), (tp, .inr (3, [.ref ta, .int (iI n)])), (ta, .inl (E.2.1, 400, .inl (ia t)))] H := hP
    have hD : va_D A [(h, .inr (4, [.ref tp, .ref ar, .ref f1, .ref f2, .ref rd, .int (bI em), .int (bI ob), .int (bI oa), .int (iI pos), .int (iI fr), .int (iI ex), .int (bI hp)])), (tp, .inr (3, [.ref ta, .int (iI n)])), (ta, .inl (E.2.1, 400, .inl (ia t)))] := hD
    have hw : (r_5 = rat t n pos) := hw
    have hr_6 := hw
    refine W.cs (g := F0 m 23 ls [.int (iI r_5)]) (cells' := 0) (slots' := 0) rfl rfl ?_
    subst hr_6
    refine wi_bipush hx hb d_Scanner_takeSign_23 (by decide) ?_
    refine wi_icmp_ne (tgt := 38) hx hb d_Scanner_takeSign_25 (by decide) (by omega) (by omega) (fun c_7 => ?_) (fun c_7 => ?_)
    · skip
      refine lv_iload_n hx hb d_Scanner_takeSign_38 rfl (lv_at hl 0 rfl) ?_
      exact ret (pos, false) _ _ _ _ d_Scanner_takeSign_39 (show (false = sgN t n pos) ∧ (pos = sgP t n pos) ∧ (pos ≤ pos ∧ pos ≤ n) from ⟨by unfold sgN; rw [decide_eq_false (by omega)], by unfold sgP; rw [if_neg (by omega)], by omega⟩) (hP.sub [0, 1, 2] rfl) (hD.sub [0, 1, 2] (by decide) rfl) hS
    · skip
      have hnn := rat_neg (t := t) (n := n) (i := pos) (by omega)
      refine lv_aload_n hx hb d_Scanner_takeSign_28 rfl (lv_at hl 1 rfl) ?_
      refine lv_dup hx hb d_Scanner_takeSign_29 rfl ?_
      refine wk_get B hP 0 rfl fl_Scanner_53 (v := .int (iI pos)) rfl d_Scanner_takeSign_30 ?_
      refine wi_iconst (n := 1) hx hb d_Scanner_takeSign_33 ?_
      refine wi_iadd hx hb d_Scanner_takeSign_34 ?_
      refine wk_put B hP hD hS 0 rfl fl_Scanner_53 fp_Scanner_8 (v := .int (iI (pos + 1))) rfl rfl (Nat.le_of_ble_eq_true rfl) d_Scanner_takeSign_35 (fun H locs hP hD hS => ?_)
      have hP : va_P D classes [(h, .inr (4, [.ref tp, .ref ar, .ref f1, .ref f2, .ref rd, .int (bI em), .int (bI ob), .int (bI oa), .int (iI (pos + 1)), .int (iI fr), .int (iI ex), .int (bI hp)])), (tp, .inr (3, [.ref ta, .int (iI n)])), (ta, .inl (E.2.1, 400, .inl (ia t)))] H := hP
      have hD : va_D A [(h, .inr (4, [.ref tp, .ref ar, .ref f1, .ref f2, .ref rd, .int (bI em), .int (bI ob), .int (bI oa), .int (iI (pos + 1)), .int (iI fr), .int (iI ex), .int (bI hp)])), (tp, .inr (3, [.ref ta, .int (iI n)])), (ta, .inl (E.2.1, 400, .inl (ia t)))] := hD
      refine lv_iload_n hx hb d_Scanner_takeSign_38 rfl (lv_at hl 0 rfl) ?_
      exact ret (pos + 1, false) _ _ _ _ d_Scanner_takeSign_39 (show (false = sgN t n pos) ∧ ((pos + 1) = sgP t n pos) ∧ (pos ≤ (pos + 1) ∧ (pos + 1) ≤ n) from ⟨by unfold sgN; rw [decide_eq_false (by omega)], by unfold sgP; rw [if_pos (by omega)], by omega⟩) (hP.sub [0, 1, 2] rfl) (hD.sub [0, 1, 2] (by decide) rfl) hS
  · skip
    refine wi_iconst (n := 1) hx hb d_Scanner_takeSign_9 ?_
    refine lv_goto (tgt := 14) hx hb d_Scanner_takeSign_10 (by decide) ?_
    refine w_as1 ?_
    refine lv_istore_n (lv' := [(1, .int (bI true)), (0, .ref h)]) hx hb d_Scanner_takeSign_14 rfl hl (by decide) rfl (fun ls hl => ?_)
    refine lv_iload_n hx hb d_Scanner_takeSign_15 rfl (lv_at hl 0 rfl) ?_
    refine wb_if_ne (tgt := 28) hx hb d_Scanner_takeSign_16 (by decide) (fun c_8 => ?_) (fun c_8 => by exfalso; exact absurd c_8 (by decide))
    have hnn := rat_neg (t := t) (n := n) (i := pos) (by omega)
    refine lv_aload_n hx hb d_Scanner_takeSign_28 rfl (lv_at hl 1 rfl) ?_
    refine lv_dup hx hb d_Scanner_takeSign_29 rfl ?_
    refine wk_get B hP 0 rfl fl_Scanner_53 (v := .int (iI pos)) rfl d_Scanner_takeSign_30 ?_
    refine wi_iconst (n := 1) hx hb d_Scanner_takeSign_33 ?_
    refine wi_iadd hx hb d_Scanner_takeSign_34 ?_
    refine wk_put B hP hD hS 0 rfl fl_Scanner_53 fp_Scanner_8 (v := .int (iI (pos + 1))) rfl rfl (Nat.le_of_ble_eq_true rfl) d_Scanner_takeSign_35 (fun H locs hP hD hS => ?_)
    have hP : va_P D classes [(h, .inr (4, [.ref tp, .ref ar, .ref f1, .ref f2, .ref rd, .int (bI em), .int (bI ob), .int (bI oa), .int (iI (pos + 1)), .int (iI fr), .int (iI ex), .int (bI hp)])), (tp, .inr (3, [.ref ta, .int (iI n)])), (ta, .inl (E.2.1, 400, .inl (ia t)))] H := hP
    have hD : va_D A [(h, .inr (4, [.ref tp, .ref ar, .ref f1, .ref f2, .ref rd, .int (bI em), .int (bI ob), .int (bI oa), .int (iI (pos + 1)), .int (iI fr), .int (iI ex), .int (bI hp)])), (tp, .inr (3, [.ref ta, .int (iI n)])), (ta, .inl (E.2.1, 400, .inl (ia t)))] := hD
    refine lv_iload_n hx hb d_Scanner_takeSign_38 rfl (lv_at hl 0 rfl) ?_
    exact ret (pos + 1, true) _ _ _ _ d_Scanner_takeSign_39 (show (true = sgN t n pos) ∧ ((pos + 1) = sgP t n pos) ∧ (pos ≤ (pos + 1) ∧ (pos + 1) ≤ n) from ⟨by unfold sgN; rw [decide_eq_true (by omega)], by unfold sgP; rw [if_pos (by omega)], by omega⟩) (hP.sub [0, 1, 2] rfl) (hD.sub [0, 1, 2] (by decide) rfl) hS
