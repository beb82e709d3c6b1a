/-! String.length, charAt; Row.addText -/
abbrev b_JStr_coder : ByteArray := prog_13_method_152_code
def y_JStr_coder : MethodName := ⟨"java/lang/String", "coder", "()B"⟩
abbrev b_JStr_isLatin1 : ByteArray := prog_13_method_154_code
def y_JStr_isLatin1 : MethodName := ⟨"java/lang/String", "isLatin1", "()Z"⟩
abbrev b_JStr_length : ByteArray := prog_13_method_54_code
def y_JStr_length : MethodName := ⟨"java/lang/String", "length", "()I"⟩
abbrev b_JPre_checkIndex : ByteArray := prog_16_method_11_code
def y_JPre_checkIndex : MethodName := ⟨"jdk/internal/util/Preconditions", "checkIndex", "(IILjava/util/function/BiFunction;)I"⟩
abbrev b_JStr_checkIndex : ByteArray := prog_13_method_155_code
def y_JStr_checkIndex : MethodName := ⟨"java/lang/String", "checkIndex", "(II)V"⟩
abbrev b_JLat_charAt : ByteArray := prog_14_method_2_code
def y_JLat_charAt : MethodName := ⟨"java/lang/StringLatin1", "charAt", "([BI)C"⟩
abbrev b_JStr_charAt : ByteArray := prog_13_method_56_code
def y_JStr_charAt : MethodName := ⟨"java/lang/String", "charAt", "(I)C"⟩
abbrev b_Row_addText : ByteArray := prog_6_method_4_code
def y_Row_addText : MethodName := ⟨"IntervalText$Row", "addText", "(Ljava/lang/String;)V"⟩
theorem d_JStr_coder_0 : decode b_JStr_coder 0 = .ok (.getstatic 38, 3) := by decide +kernel
theorem d_JStr_coder_3 : decode b_JStr_coder 3 = .ok (.ifCond .eq 10, 3) := by decide +kernel
theorem d_JStr_coder_6 : decode b_JStr_coder 6 = .ok (.aload_n 0, 1) := by decide +kernel
theorem d_JStr_coder_7 : decode b_JStr_coder 7 = .ok (.getfield 15, 3) := by decide +kernel
theorem d_JStr_coder_10 : decode b_JStr_coder 10 = .ok (.goto 4, 3) := by decide +kernel
theorem d_JStr_coder_13 : decode b_JStr_coder 13 = .ok (.iconst 1, 1) := by decide +kernel
theorem d_JStr_coder_14 : decode b_JStr_coder 14 = .ok (.ireturn, 1) := by decide +kernel
theorem d_JStr_isLatin1_0 : decode b_JStr_isLatin1 0 = .ok (.getstatic 38, 3) := by decide +kernel
theorem d_JStr_isLatin1_3 : decode b_JStr_isLatin1 3 = .ok (.ifCond .eq 14, 3) := by decide +kernel
theorem d_JStr_isLatin1_6 : decode b_JStr_isLatin1 6 = .ok (.aload_n 0, 1) := by decide +kernel
theorem d_JStr_isLatin1_7 : decode b_JStr_isLatin1 7 = .ok (.getfield 15, 3) := by decide +kernel
theorem d_JStr_isLatin1_10 : decode b_JStr_isLatin1 10 = .ok (.ifCond .ne 7, 3) := by decide +kernel
theorem d_JStr_isLatin1_13 : decode b_JStr_isLatin1 13 = .ok (.iconst 1, 1) := by decide +kernel
theorem d_JStr_isLatin1_14 : decode b_JStr_isLatin1 14 = .ok (.goto 4, 3) := by decide +kernel
theorem d_JStr_isLatin1_17 : decode b_JStr_isLatin1 17 = .ok (.iconst 0, 1) := by decide +kernel
theorem d_JStr_isLatin1_18 : decode b_JStr_isLatin1 18 = .ok (.ireturn, 1) := by decide +kernel
theorem d_JStr_length_0 : decode b_JStr_length 0 = .ok (.aload_n 0, 1) := by decide +kernel
theorem d_JStr_length_1 : decode b_JStr_length 1 = .ok (.getfield 9, 3) := by decide +kernel
theorem d_JStr_length_4 : decode b_JStr_length 4 = .ok (.arraylength, 1) := by decide +kernel
theorem d_JStr_length_5 : decode b_JStr_length 5 = .ok (.aload_n 0, 1) := by decide +kernel
theorem d_JStr_length_6 : decode b_JStr_length 6 = .ok (.invokevirtual 335, 3) := by decide +kernel
theorem d_JStr_length_9 : decode b_JStr_length 9 = .ok (.ishr, 1) := by decide +kernel
theorem d_JStr_length_10 : decode b_JStr_length 10 = .ok (.ireturn, 1) := by decide +kernel
theorem d_JPre_checkIndex_0 : decode b_JPre_checkIndex 0 = .ok (.iload_n 0, 1) := by decide +kernel
theorem d_JPre_checkIndex_1 : decode b_JPre_checkIndex 1 = .ok (.ifCond .lt 8, 3) := by decide +kernel
theorem d_JPre_checkIndex_4 : decode b_JPre_checkIndex 4 = .ok (.iload_n 0, 1) := by decide +kernel
theorem d_JPre_checkIndex_5 : decode b_JPre_checkIndex 5 = .ok (.iload_n 1, 1) := by decide +kernel
theorem d_JPre_checkIndex_6 : decode b_JPre_checkIndex 6 = .ok (.if_icmp .lt 10, 3) := by decide +kernel
theorem d_JPre_checkIndex_9 : decode b_JPre_checkIndex 9 = .ok (.aload_n 2, 1) := by decide +kernel
theorem d_JPre_checkIndex_10 : decode b_JPre_checkIndex 10 = .ok (.iload_n 0, 1) := by decide +kernel
theorem d_JPre_checkIndex_11 : decode b_JPre_checkIndex 11 = .ok (.iload_n 1, 1) := by decide +kernel
theorem d_JPre_checkIndex_12 : decode b_JPre_checkIndex 12 = .ok (.invokestatic 95, 3) := by decide +kernel
theorem d_JPre_checkIndex_15 : decode b_JPre_checkIndex 15 = .ok (.athrow, 1) := by decide +kernel
theorem d_JPre_checkIndex_16 : decode b_JPre_checkIndex 16 = .ok (.iload_n 0, 1) := by decide +kernel
theorem d_JPre_checkIndex_17 : decode b_JPre_checkIndex 17 = .ok (.ireturn, 1) := by decide +kernel
theorem d_JStr_checkIndex_0 : decode b_JStr_checkIndex 0 = .ok (.iload_n 0, 1) := by decide +kernel
theorem d_JStr_checkIndex_1 : decode b_JStr_checkIndex 1 = .ok (.iload_n 1, 1) := by decide +kernel
theorem d_JStr_checkIndex_2 : decode b_JStr_checkIndex 2 = .ok (.getstatic 1053, 3) := by decide +kernel
theorem d_JStr_checkIndex_5 : decode b_JStr_checkIndex 5 = .ok (.invokestatic 1059, 3) := by decide +kernel
theorem d_JStr_checkIndex_8 : decode b_JStr_checkIndex 8 = .ok (.pop, 1) := by decide +kernel
theorem d_JStr_checkIndex_9 : decode b_JStr_checkIndex 9 = .ok (.return_, 1) := by decide +kernel
theorem d_JLat_charAt_0 : decode b_JLat_charAt 0 = .ok (.iload_n 1, 1) := by decide +kernel
theorem d_JLat_charAt_1 : decode b_JLat_charAt 1 = .ok (.aload_n 0, 1) := by decide +kernel
theorem d_JLat_charAt_2 : decode b_JLat_charAt 2 = .ok (.arraylength, 1) := by decide +kernel
theorem d_JLat_charAt_3 : decode b_JLat_charAt 3 = .ok (.invokestatic 9, 3) := by decide +kernel
theorem d_JLat_charAt_6 : decode b_JLat_charAt 6 = .ok (.aload_n 0, 1) := by decide +kernel
theorem d_JLat_charAt_7 : decode b_JLat_charAt 7 = .ok (.iload_n 1, 1) := by decide +kernel
theorem d_JLat_charAt_8 : decode b_JLat_charAt 8 = .ok (.baload, 1) := by decide +kernel
theorem d_JLat_charAt_9 : decode b_JLat_charAt 9 = .ok (.sipush 255, 3) := by decide +kernel
theorem d_JLat_charAt_12 : decode b_JLat_charAt 12 = .ok (.iand, 1) := by decide +kernel
theorem d_JLat_charAt_13 : decode b_JLat_charAt 13 = .ok (.i2c, 1) := by decide +kernel
theorem d_JLat_charAt_14 : decode b_JLat_charAt 14 = .ok (.ireturn, 1) := by decide +kernel
theorem d_JStr_charAt_0 : decode b_JStr_charAt 0 = .ok (.aload_n 0, 1) := by decide +kernel
theorem d_JStr_charAt_1 : decode b_JStr_charAt 1 = .ok (.invokevirtual 492, 3) := by decide +kernel
theorem d_JStr_charAt_4 : decode b_JStr_charAt 4 = .ok (.ifCond .eq 12, 3) := by decide +kernel
theorem d_JStr_charAt_7 : decode b_JStr_charAt 7 = .ok (.aload_n 0, 1) := by decide +kernel
theorem d_JStr_charAt_8 : decode b_JStr_charAt 8 = .ok (.getfield 9, 3) := by decide +kernel
theorem d_JStr_charAt_11 : decode b_JStr_charAt 11 = .ok (.iload_n 1, 1) := by decide +kernel
theorem d_JStr_charAt_12 : decode b_JStr_charAt 12 = .ok (.invokestatic 495, 3) := by decide +kernel
theorem d_JStr_charAt_15 : decode b_JStr_charAt 15 = .ok (.ireturn, 1) := by decide +kernel
theorem d_Row_addText_0 : decode b_Row_addText 0 = .ok (.iconst 0, 1) := by decide +kernel
theorem d_Row_addText_1 : decode b_Row_addText 1 = .ok (.istore_n 2, 1) := by decide +kernel
theorem d_Row_addText_2 : decode b_Row_addText 2 = .ok (.iload_n 2, 1) := by decide +kernel
theorem d_Row_addText_3 : decode b_Row_addText 3 = .ok (.aload_n 1, 1) := by decide +kernel
theorem d_Row_addText_4 : decode b_Row_addText 4 = .ok (.invokevirtual 19, 3) := by decide +kernel
theorem d_Row_addText_7 : decode b_Row_addText 7 = .ok (.if_icmp .ge 18, 3) := by decide +kernel
theorem d_Row_addText_10 : decode b_Row_addText 10 = .ok (.aload_n 0, 1) := by decide +kernel
theorem d_Row_addText_11 : decode b_Row_addText 11 = .ok (.aload_n 1, 1) := by decide +kernel
theorem d_Row_addText_12 : decode b_Row_addText 12 = .ok (.iload_n 2, 1) := by decide +kernel
theorem d_Row_addText_13 : decode b_Row_addText 13 = .ok (.invokevirtual 25, 3) := by decide +kernel
theorem d_Row_addText_16 : decode b_Row_addText 16 = .ok (.invokevirtual 29, 3) := by decide +kernel
theorem d_Row_addText_19 : decode b_Row_addText 19 = .ok (.iinc 2 1, 3) := by decide +kernel
theorem d_Row_addText_22 : decode b_Row_addText 22 = .ok (.goto (-20), 3) := by decide +kernel
theorem d_Row_addText_25 : decode b_Row_addText 25 = .ok (.return_, 1) := by decide +kernel
theorem cl_Row_19 : CLinkV TB "IntervalText$Row" 19 "java/lang/String" y_JStr_length b_JStr_length 1 (some .int) 0 := ⟨⟨tb_t (List.mem_append_right _ (List.mem_append_right _ (List.mem_append_left _ (List.mem_of_getElem? (l := tables_1_3) (i := 34) rfl)))) rfl, tb_t (List.mem_append_left _ (List.mem_of_getElem? (l := tables_1_1) (i := 11) rfl)) rfl, tb_t (List.mem_append_right _ (List.mem_append_left _ (List.mem_of_getElem? (l := tables_1_2) (i := 16) rfl))) rfl, by decide +kernel, by decide +kernel, by decide +kernel⟩, tb_t (List.mem_append_right _ (List.mem_append_left _ (List.mem_of_getElem? (l := tables_1_2) (i := 14) rfl))) rfl, tb_t (List.mem_append_right _ (List.mem_append_left _ (List.mem_of_getElem? (l := tables_1_2) (i := 15) rfl))) rfl⟩
theorem cl_Row_25 : CLinkV TB "IntervalText$Row" 25 "java/lang/String" y_JStr_charAt b_JStr_charAt 2 (some .char) 1 := ⟨⟨tb_t (List.mem_append_right _ (List.mem_append_right _ (List.mem_append_left _ (List.mem_of_getElem? (l := tables_1_3) (i := 35) rfl)))) rfl, tb_t (List.mem_append_left _ (List.mem_of_getElem? (l := tables_1_1) (i := 11) rfl)) rfl, tb_t (List.mem_append_right _ (List.mem_append_left _ (List.mem_of_getElem? (l := tables_1_2) (i := 26) rfl))) rfl, by decide +kernel, by decide +kernel, by decide +kernel⟩, tb_t (List.mem_append_right _ (List.mem_append_left _ (List.mem_of_getElem? (l := tables_1_2) (i := 24) rfl))) rfl, tb_t (List.mem_append_right _ (List.mem_append_left _ (List.mem_of_getElem? (l := tables_1_2) (i := 25) rfl))) rfl⟩
theorem cl_Row_29 : CLinkV TB "IntervalText$Row" 29 "IntervalText$Row" y_Row_add b_Row_add 2 none 1 := ⟨⟨tb_t (List.mem_append_right _ (List.mem_append_right _ (List.mem_append_left _ (List.mem_of_getElem? (l := tables_1_3) (i := 36) rfl)))) rfl, tb_t (List.mem_append_left _ (List.mem_of_getElem? (l := tables_1_1) (i := 2) rfl)) rfl, tb_t (List.mem_append_left _ (List.mem_of_getElem? (l := tables_1_1) (i := 212) rfl)) rfl, by decide +kernel, by decide +kernel, by decide +kernel⟩, tb_t (List.mem_append_left _ (List.mem_of_getElem? (l := tables_1_1) (i := 210) rfl)) rfl, tb_t (List.mem_append_left _ (List.mem_of_getElem? (l := tables_1_1) (i := 211) rfl)) rfl⟩
theorem cl_JStr_495 : CLinkS TB "java/lang/String" 495 y_JLat_charAt b_JLat_charAt 2 (some .char) 2 := ⟨⟨tb_t (List.mem_append_right _ (List.mem_append_left _ (List.mem_of_getElem? (l := tables_1_2) (i := 31) rfl))) rfl, tb_t (List.mem_append_left _ (List.mem_of_getElem? (l := tables_1_1) (i := 12) rfl)) rfl, tb_t (List.mem_append_right _ (List.mem_append_left _ (List.mem_of_getElem? (l := tables_1_2) (i := 33) rfl))) rfl, by decide +kernel, by decide +kernel, by decide +kernel⟩, tb_t (List.mem_append_right _ (List.mem_append_left _ (List.mem_of_getElem? (l := tables_1_2) (i := 32) rfl))) rfl⟩
theorem cl_JStr_1059 : CLinkS TB "java/lang/String" 1059 y_JPre_checkIndex b_JPre_checkIndex 3 (some .int) 3 := ⟨⟨tb_t (List.mem_append_right _ (List.mem_append_left _ (List.mem_of_getElem? (l := tables_1_2) (i := 39) rfl))) rfl, tb_t (List.mem_append_left _ (List.mem_of_getElem? (l := tables_1_1) (i := 13) rfl)) rfl, tb_t (List.mem_append_right _ (List.mem_append_left _ (List.mem_of_getElem? (l := tables_1_2) (i := 41) rfl))) rfl, by decide +kernel, by decide +kernel, by decide +kernel⟩, tb_t (List.mem_append_right _ (List.mem_append_left _ (List.mem_of_getElem? (l := tables_1_2) (i := 40) rfl))) rfl⟩
theorem cl_JStr_335 : CLinkV TB "java/lang/String" 335 "java/lang/String" y_JStr_coder b_JStr_coder 1 (some .byte) 0 := ⟨⟨tb_t (List.mem_append_right _ (List.mem_append_left _ (List.mem_of_getElem? (l := tables_1_2) (i := 17) rfl))) rfl, tb_t (List.mem_append_left _ (List.mem_of_getElem? (l := tables_1_1) (i := 11) rfl)) rfl, tb_t (List.mem_append_right _ (List.mem_append_left _ (List.mem_of_getElem? (l := tables_1_2) (i := 20) rfl))) rfl, by decide +kernel, by decide +kernel, by decide +kernel⟩, tb_t (List.mem_append_right _ (List.mem_append_left _ (List.mem_of_getElem? (l := tables_1_2) (i := 18) rfl))) rfl, tb_t (List.mem_append_right _ (List.mem_append_left _ (List.mem_of_getElem? (l := tables_1_2) (i := 19) rfl))) rfl⟩
theorem cl_JStr_492 : CLinkV TB "java/lang/String" 492 "java/lang/String" y_JStr_isLatin1 b_JStr_isLatin1 1 (some .boolean) 0 := ⟨⟨tb_t (List.mem_append_right _ (List.mem_append_left _ (List.mem_of_getElem? (l := tables_1_2) (i := 27) rfl))) rfl, tb_t (List.mem_append_left _ (List.mem_of_getElem? (l := tables_1_1) (i := 11) rfl)) rfl, tb_t (List.mem_append_right _ (List.mem_append_left _ (List.mem_of_getElem? (l := tables_1_2) (i := 30) rfl))) rfl, by decide +kernel, by decide +kernel, by decide +kernel⟩, tb_t (List.mem_append_right _ (List.mem_append_left _ (List.mem_of_getElem? (l := tables_1_2) (i := 28) rfl))) rfl, tb_t (List.mem_append_right _ (List.mem_append_left _ (List.mem_of_getElem? (l := tables_1_2) (i := 29) rfl))) rfl⟩
theorem cl_JLat_9 : CLinkS TB "java/lang/StringLatin1" 9 y_JStr_checkIndex b_JStr_checkIndex 2 none 2 := ⟨⟨tb_t (List.mem_append_right _ (List.mem_append_left _ (List.mem_of_getElem? (l := tables_1_2) (i := 34) rfl))) rfl, tb_t (List.mem_append_left _ (List.mem_of_getElem? (l := tables_1_1) (i := 11) rfl)) rfl, tb_t (List.mem_append_right _ (List.mem_append_left _ (List.mem_of_getElem? (l := tables_1_2) (i := 36) rfl))) rfl, by decide +kernel, by decide +kernel, by decide +kernel⟩, tb_t (List.mem_append_right _ (List.mem_append_left _ (List.mem_of_getElem? (l := tables_1_2) (i := 35) rfl))) rfl⟩
set_option maxHeartbeats 4000000 in
set_option maxRecDepth 100000 in
theorem c_JStr_coder (l : Launch) (D : va_G) (E : EVt) (i : Nat) (hi : i < 43) : CT l D classes (tyl E) (EVX E) y_JStr_coder (Cond.code y_JStr_coder b_JStr_coder 1 (some .byte) :: TB) (rmK 0 0 0 0) 0 0 [.ref (E.2.2.1 i)] [] (S := Int) (fun _ => []) (fun u => some (.int (iI u))) (fun u => (u = 0)) := by
  refine CT.ofn (fv := fun (u : Int) => u) (eok E) (by decide) rfl (Nat.le_of_ble_eq_true rfl) (fun u hu => by rw [hu]; decide) ?_
  intro p e s m args below meth c A Q ls B hmn hP hD hS hl ret
  have B : Bd l D classes (tyl E) (EVX E) p m c b_JStr_coder 1 s args (Cond.code y_JStr_coder b_JStr_coder 1 (some .byte) :: TB) "java/lang/String" A := B
  obtain ⟨⟨hx, hb, hml, hown, hts⟩, hX, hK, hE, hA⟩ := id B
  have hl : lv_has ls 1 [(0, .ref (E.2.2.1 i))] := hl
  have hP : va_P D classes [] s.heap := hP
  have hD : va_D A [] := hD
  refine va_gets hx hb hE.2.2.2.1 hS hown (tb_h hts (tb_t (List.mem_append_right _ (List.mem_append_left _ (List.mem_of_getElem? (l := tables_1_2) (i := 21) rfl))) rfl)) (fun _ h => h) d_JStr_coder_0 ?_
  refine wb_if_eq (tgt := 13) hx hb d_JStr_coder_3 (by decide) (fun c_1 => by exfalso; exact absurd c_1 (by decide)) (fun c_1 => ?_)
  refine lv_aload_n hx hb d_JStr_coder_6 rfl (lv_at hl 0 rfl) ?_
  refine vk_getf hx hb (hE.2.2.1 i hi).2.1 hS hown (tb_h hts (tb_t (List.mem_append_right _ (List.mem_append_right _ (List.mem_append_right _ (List.mem_append_right _ (List.mem_of_getElem? (l := tables_1_5) (i := 10) rfl))))) rfl)) (fun _ h => h) d_JStr_coder_7 ?_
  refine lv_goto (tgt := 14) hx hb d_JStr_coder_10 (by decide) ?_
  exact ret 0 _ _ _ _ d_JStr_coder_14 (show (0 = 0) from rfl) (hP.sub [] rfl) (hD.sub [] (by decide) rfl) hS
set_option maxHeartbeats 4000000 in
set_option maxRecDepth 100000 in
theorem c_JStr_isLatin1 (l : Launch) (D : va_G) (E : EVt) (i : Nat) (hi : i < 43) : CT l D classes (tyl E) (EVX E) y_JStr_isLatin1 (Cond.code y_JStr_isLatin1 b_JStr_isLatin1 1 (some .boolean) :: TB) (rmK 0 0 0 0) 0 0 [.ref (E.2.2.1 i)] [] (S := Bool) (fun _ => []) (fun u => some (.int (bI u))) (fun u => (u = true)) := by
  refine CT.ofz (fv := fun (u : Bool) => u) (eok E) (by decide) rfl (Nat.le_of_ble_eq_true rfl) ?_
  intro p e s m args below meth c A Q ls B hmn hP hD hS hl ret
  have B : Bd l D classes (tyl E) (EVX E) p m c b_JStr_isLatin1 1 s args (Cond.code y_JStr_isLatin1 b_JStr_isLatin1 1 (some .boolean) :: TB) "java/lang/String" A := B
  obtain ⟨⟨hx, hb, hml, hown, hts⟩, hX, hK, hE, hA⟩ := id B
  have hl : lv_has ls 1 [(0, .ref (E.2.2.1 i))] := hl
  have hP : va_P D classes [] s.heap := hP
  have hD : va_D A [] := hD
  refine va_gets hx hb hE.2.2.2.1 hS hown (tb_h hts (tb_t (List.mem_append_right _ (List.mem_append_left _ (List.mem_of_getElem? (l := tables_1_2) (i := 21) rfl))) rfl)) (fun _ h => h) d_JStr_isLatin1_0 ?_
  refine wb_if_eq (tgt := 17) hx hb d_JStr_isLatin1_3 (by decide) (fun c_1 => by exfalso; exact absurd c_1 (by decide)) (fun c_1 => ?_)
  refine lv_aload_n hx hb d_JStr_isLatin1_6 rfl (lv_at hl 0 rfl) ?_
  refine vk_getf hx hb (hE.2.2.1 i hi).2.1 hS hown (tb_h hts (tb_t (List.mem_append_right _ (List.mem_append_right _ (List.mem_append_right _ (List.mem_append_right _ (List.mem_of_getElem? (l := tables_1_5) (i := 10) rfl))))) rfl)) (fun _ h => h) d_JStr_isLatin1_7 ?_
  refine wi_if_ne (tgt := 17) hx hb d_JStr_isLatin1_10 (by decide) (by omega) (fun c_2 => by exfalso; omega) (fun c_2 => ?_)
  refine wi_iconst (n := 1) hx hb d_JStr_isLatin1_13 ?_
  refine lv_goto (tgt := 18) hx hb d_JStr_isLatin1_14 (by decide) ?_
  refine w_as1 ?_
  exact ret true _ _ _ _ d_JStr_isLatin1_18 (show (true = true) from rfl) (hP.sub [] rfl) (hD.sub [] (by decide) rfl) hS
set_option maxHeartbeats 4000000 in
set_option maxRecDepth 100000 in
theorem c_JStr_length (l : Launch) (D : va_G) (E : EVt) (i : Nat) (hi : i < 43) : CT l D classes (tyl E) (EVX E) y_JStr_length (Cond.code y_JStr_length b_JStr_length 1 (some .int) :: TB) (rmK 1 0 0 20) 0 0 [.ref (E.2.2.1 i)] [] (S := Int) (fun _ => []) (fun u => some (.int (iI u))) (fun u => (u = (strLen i : Int))) := by
  refine CT.ofi (fv := fun (u : Int) => u) (eok E) (by decide) rfl (Nat.le_of_ble_eq_true rfl) ?_
  intro p e s m args below meth c A Q ls B hmn hP hD hS hl ret
  have B : Bd l D classes (tyl E) (EVX E) p m c b_JStr_length 1 s args (Cond.code y_JStr_length b_JStr_length 1 (some .int) :: TB) "java/lang/String" A := B
  obtain ⟨⟨hx, hb, hml, hown, hts⟩, hX, hK, hE, hA⟩ := id B
  have hl : lv_has ls 1 [(0, .ref (E.2.2.1 i))] := hl
  have hP : va_P D classes [] s.heap := hP
  have hD : va_D A [] := hD
  refine lv_aload_n hx hb d_JStr_length_0 rfl (lv_at hl 0 rfl) ?_
  refine vk_getf hx hb (hE.2.2.1 i hi).2.2.1 hS hown (tb_h hts (tb_t (List.mem_append_right _ (List.mem_append_right _ (List.mem_append_right _ (List.mem_append_right _ (List.mem_of_getElem? (l := tables_1_5) (i := 9) rfl))))) rfl)) (fun _ h => h) d_JStr_length_1 ?_
  refine va_tlen hx hb (hE.2.2.1 i hi).2.2.2 hS (v := iI ((strLen i : Nat) : Int)) (iI_nat _) d_JStr_length_4 ?_
  refine lv_aload_n hx hb d_JStr_length_5 rfl (lv_at hl 0 rfl) ?_
  refine wk_callO (As := []) (rest := [.int (iI (strLen i : Int))]) (wr := []) B gTB cl_JStr_335 (c_JStr_coder l D E i (by omega)) ⟨⟨rfl, rfl⟩, Nat.le_of_ble_eq_true rfl, Nat.le_of_ble_eq_true rfl⟩ hP hD hS [] [] rfl rfl (by decide) (va_O_at (hE.2.2.1 i hi).1 hS) ⟨hl.2.1, hl.1⟩ rfl (Nat.le_of_ble_eq_true rfl) d_JStr_length_6 ⟨Nat.le_of_ble_eq_true rfl, Nat.le_of_ble_eq_true rfl⟩ rfl (fun r_1 H locs hw hP hD hS => ?_)
  have hP : va_P D classes [] H := hP
  have hD : va_D A [] := hD
  have hw : (r_1 = 0) := hw
  have hr_2 := hw
  refine W.cs (g := F0 m 9 ls [.int (iI r_1), .int (iI (strLen i : Int))]) (cells' := 0) (slots' := 0) rfl rfl ?_
  subst hr_2
  refine wi_ishr hx hb 0 1 (by decide +kernel) rfl (by decide) (by have := strLen_all i hi; omega) d_JStr_length_9 ?_
  refine w_eqi (y := (strLen i : Int)) (Int.ediv_one _) ?_
  refine W.eq (g2 := F0 m 10 ls [.int (iI (strLen i : Int))]) rfl ?_
  exact ret (strLen i : Int) _ _ _ _ d_JStr_length_10 (show ((strLen i : Int) = (strLen i : Int)) from rfl) (hP.sub [] rfl) (hD.sub [] (by decide) rfl) hS
set_option maxHeartbeats 4000000 in
set_option maxRecDepth 100000 in
theorem c_JPre_checkIndex_n (l : Launch) (D : va_G) (E : EVt) (k : Int) (n : Int) (hk : 0 ≤ k ∧ k < n) (hn : n < 2147483648) : CT l D classes (tyl E) (EVX E) y_JPre_checkIndex (Cond.code y_JPre_checkIndex b_JPre_checkIndex 3 (some .int) :: TB) (rmK 0 0 0 0) 0 0 [.int (iI k), .int (iI n), .null] [] (S := Unit) (fun _ => []) (fun _ => some (.int (iI k))) (fun _ => True) := by
  refine CT.ofi (fv := fun (_ : Unit) => k) (eok E) (by decide) rfl (Nat.le_of_ble_eq_true rfl) ?_
  intro p e s m args below meth c A Q ls B hmn hP hD hS hl ret
  have B : Bd l D classes (tyl E) (EVX E) p m c b_JPre_checkIndex 3 s args (Cond.code y_JPre_checkIndex b_JPre_checkIndex 3 (some .int) :: TB) "jdk/internal/util/Preconditions" A := B
  obtain ⟨⟨hx, hb, hml, hown, hts⟩, hX, hK, hE, hA⟩ := id B
  have hl : lv_has ls 3 [(0, .int (iI k)), (1, .int (iI n)), (2, .null)] := hl
  have hP : va_P D classes [] s.heap := hP
  have hD : va_D A [] := hD
  refine lv_iload_n hx hb d_JPre_checkIndex_0 rfl (lv_at hl 0 rfl) ?_
  refine wi_if_lt (tgt := 9) hx hb d_JPre_checkIndex_1 (by decide) (by omega) (fun c_1 => by exfalso; omega) (fun c_1 => ?_)
  refine lv_iload_n hx hb d_JPre_checkIndex_4 rfl (lv_at hl 0 rfl) ?_
  refine lv_iload_n hx hb d_JPre_checkIndex_5 rfl (lv_at hl 1 rfl) ?_
  refine wi_icmp_lt (tgt := 16) hx hb d_JPre_checkIndex_6 (by decide) (by omega) (by omega) (fun c_2 => ?_) (fun c_2 => by exfalso; omega)
  refine lv_iload_n hx hb d_JPre_checkIndex_16 rfl (lv_at hl 0 rfl) ?_
  exact ret () _ _ _ _ d_JPre_checkIndex_17 trivial (hP.sub [] rfl) (hD.sub [] (by decide) rfl) hS
set_option maxHeartbeats 4000000 in
set_option maxRecDepth 100000 in
theorem c_JPre_checkIndex_r (l : Launch) (D : va_G) (E : EVt) (k : Int) (n : Int) (fa : Nat) (hk : 0 ≤ k ∧ k < n) (hn : n < 2147483648) : CT l D classes (tyl E) (EVX E) y_JPre_checkIndex (Cond.code y_JPre_checkIndex b_JPre_checkIndex 3 (some .int) :: TB) (rmK 0 0 0 0) 0 0 [.int (iI k), .int (iI n), .ref fa] [] (S := Unit) (fun _ => []) (fun _ => some (.int (iI k))) (fun _ => True) := by
  refine CT.ofi (fv := fun (_ : Unit) => k) (eok E) (by decide) rfl (Nat.le_of_ble_eq_true rfl) ?_
  intro p e s m args below meth c A Q ls B hmn hP hD hS hl ret
  have B : Bd l D classes (tyl E) (EVX E) p m c b_JPre_checkIndex 3 s args (Cond.code y_JPre_checkIndex b_JPre_checkIndex 3 (some .int) :: TB) "jdk/internal/util/Preconditions" A := B
  obtain ⟨⟨hx, hb, hml, hown, hts⟩, hX, hK, hE, hA⟩ := id B
  have hl : lv_has ls 3 [(0, .int (iI k)), (1, .int (iI n)), (2, .ref fa)] := hl
  have hP : va_P D classes [] s.heap := hP
  have hD : va_D A [] := hD
  refine lv_iload_n hx hb d_JPre_checkIndex_0 rfl (lv_at hl 0 rfl) ?_
  refine wi_if_lt (tgt := 9) hx hb d_JPre_checkIndex_1 (by decide) (by omega) (fun c_1 => by exfalso; omega) (fun c_1 => ?_)
  refine lv_iload_n hx hb d_JPre_checkIndex_4 rfl (lv_at hl 0 rfl) ?_
  refine lv_iload_n hx hb d_JPre_checkIndex_5 rfl (lv_at hl 1 rfl) ?_
  refine wi_icmp_lt (tgt := 16) hx hb d_JPre_checkIndex_6 (by decide) (by omega) (by omega) (fun c_2 => ?_) (fun c_2 => by exfalso; omega)
  refine lv_iload_n hx hb d_JPre_checkIndex_16 rfl (lv_at hl 0 rfl) ?_
  exact ret () _ _ _ _ d_JPre_checkIndex_17 trivial (hP.sub [] rfl) (hD.sub [] (by decide) rfl) hS
set_option maxHeartbeats 4000000 in
set_option maxRecDepth 100000 in
theorem c_JStr_checkIndex (l : Launch) (D : va_G) (E : EVt) (k : Int) (n : Int) (hk : 0 ≤ k ∧ k < n) (hn : n < 2147483648) : CT l D classes (tyl E) (EVX E) y_JStr_checkIndex (Cond.code y_JStr_checkIndex b_JStr_checkIndex 2 none :: TB) (rmK 1 0 0 22) 0 0 [.int (iI k), .int (iI n)] [] (S := Unit) (fun _ => []) (fun _ => none) (fun _ => True) := by
  refine CT.ofv (eok E) (by decide) rfl (Nat.le_of_ble_eq_true rfl) ?_
  intro p e s m args below meth c A Q ls B hmn hP hD hS hl ret
  have B : Bd l D classes (tyl E) (EVX E) p m c b_JStr_checkIndex 2 s args (Cond.code y_JStr_checkIndex b_JStr_checkIndex 2 none :: TB) "java/lang/String" A := B
  obtain ⟨⟨hx, hb, hml, hown, hts⟩, hX, hK, hE, hA⟩ := id B
  have hl : lv_has ls 2 [(0, .int (iI k)), (1, .int (iI n))] := hl
  have hP : va_P D classes [] s.heap := hP
  have hD : va_D A [] := hD
  refine lv_iload_n hx hb d_JStr_checkIndex_0 rfl (lv_at hl 0 rfl) ?_
  refine lv_iload_n hx hb d_JStr_checkIndex_1 rfl (lv_at hl 1 rfl) ?_
  obtain ⟨hZf, hfm⟩ := hE.2.2.2.2.2.2
  rcases hfm with hfm | ⟨fa, hfm⟩
  · rw [hfm] at hZf
    refine va_gets hx hb hZf hS hown (tb_h hts (tb_t (List.mem_append_right _ (List.mem_append_left _ (List.mem_of_getElem? (l := tables_1_2) (i := 37) rfl))) rfl)) (fun _ h => h) d_JStr_checkIndex_2 ?_
    refine wk_callS (As := [.int (iI k), .int (iI n), .null]) (rest := []) (wr := []) B gTB cl_JStr_1059 (c_JPre_checkIndex_n l D E k n (by omega) (by omega)) ⟨⟨rfl, rfl⟩, Nat.le_of_ble_eq_true rfl, Nat.le_of_ble_eq_true rfl⟩ hP hD hS [] [] rfl rfl (by decide) ⟨hl.2.1, hl.1⟩ rfl (Nat.le_of_ble_eq_true rfl) d_JStr_checkIndex_5 ⟨Nat.le_of_ble_eq_true rfl, Nat.le_of_ble_eq_true rfl⟩ rfl (fun u H locs hw hP hD hS => ?_)
    have hP : va_P D classes [] H := hP
    have hD : va_D A [] := hD
    refine W.cs (g := F0 m 8 ls [.int (iI k)]) (cells' := 0) (slots' := 0) rfl rfl ?_
    refine lv_pop hx hb d_JStr_checkIndex_8 rfl ?_
    exact ret () _ _ _ _ d_JStr_checkIndex_9 trivial (hP.sub [] rfl) (hD.sub [] (by decide) rfl) hS
  · rw [hfm] at hZf
    refine va_gets hx hb hZf hS hown (tb_h hts (tb_t (List.mem_append_right _ (List.mem_append_left _ (List.mem_of_getElem? (l := tables_1_2) (i := 37) rfl))) rfl)) (fun _ h => h) d_JStr_checkIndex_2 ?_
    refine wk_callS (As := [.int (iI k), .int (iI n), .ref fa]) (rest := []) (wr := []) B gTB cl_JStr_1059 (c_JPre_checkIndex_r l D E k n fa (by omega) (by omega)) ⟨⟨rfl, rfl⟩, Nat.le_of_ble_eq_true rfl, Nat.le_of_ble_eq_true rfl⟩ hP hD hS [] [] rfl rfl (by decide) ⟨hl.2.1, hl.1⟩ rfl (Nat.le_of_ble_eq_true rfl) d_JStr_checkIndex_5 ⟨Nat.le_of_ble_eq_true rfl, Nat.le_of_ble_eq_true rfl⟩ rfl (fun u H locs hw hP hD hS => ?_)
    have hP : va_P D classes [] H := hP
    have hD : va_D A [] := hD
    refine W.cs (g := F0 m 8 ls [.int (iI k)]) (cells' := 0) (slots' := 0) rfl rfl ?_
    refine lv_pop hx hb d_JStr_checkIndex_8 rfl ?_
    exact ret () _ _ _ _ d_JStr_checkIndex_9 trivial (hP.sub [] rfl) (hD.sub [] (by decide) rfl) hS
set_option maxHeartbeats 4000000 in
set_option maxRecDepth 100000 in
theorem c_JLat_charAt (l : Launch) (D : va_G) (E : EVt) (i : Nat) (k : Int) (hi : i < 43) (hk : 0 ≤ k ∧ k < (strLen i : Int)) : CT l D classes (tyl E) (EVX E) y_JLat_charAt (Cond.code y_JLat_charAt b_JLat_charAt 2 (some .char) :: TB) (rmK 2 0 0 43) 0 0 [.ref (E.2.2.2.1 i), .int (iI k)] [] (S := Int) (fun _ => []) (fun u => some (.int (iI u))) (fun u => (u = strCh i k)) := by
  refine CT.ofn (fv := fun (u : Int) => u) (eok E) (by decide) rfl (Nat.le_of_ble_eq_true rfl) (fun u hu => by have := strCh_rng i k; rw [hu]; exact iI_narc (by omega)) ?_
  intro p e s m args below meth c A Q ls B hmn hP hD hS hl ret
  have B : Bd l D classes (tyl E) (EVX E) p m c b_JLat_charAt 2 s args (Cond.code y_JLat_charAt b_JLat_charAt 2 (some .char) :: TB) "java/lang/StringLatin1" A := B
  obtain ⟨⟨hx, hb, hml, hown, hts⟩, hX, hK, hE, hA⟩ := id B
  have hl : lv_has ls 2 [(0, .ref (E.2.2.2.1 i)), (1, .int (iI k))] := hl
  have hP : va_P D classes [] s.heap := hP
  have hD : va_D A [] := hD
  have hsl := strLen_all i hi
  have hsc := strCh_rng i k
  refine lv_iload_n hx hb d_JLat_charAt_0 rfl (lv_at hl 1 rfl) ?_
  refine lv_aload_n hx hb d_JLat_charAt_1 rfl (lv_at hl 0 rfl) ?_
  refine va_tlen hx hb (hE.2.2.1 i hi).2.2.2 hS (v := iI ((strLen i : Nat) : Int)) (iI_nat _) d_JLat_charAt_2 ?_
  refine wk_callS (As := [.int (iI k), .int (iI (strLen i : Int))]) (rest := []) (wr := []) B gTB cl_JLat_9 (c_JStr_checkIndex l D E k (strLen i : Int) (by omega) (by omega)) ⟨⟨rfl, rfl⟩, Nat.le_of_ble_eq_true rfl, Nat.le_of_ble_eq_true rfl⟩ hP hD hS [] [] rfl rfl (by decide) ⟨hl.2.1, hl.1⟩ rfl (Nat.le_of_ble_eq_true rfl) d_JLat_charAt_3 ⟨Nat.le_of_ble_eq_true rfl, Nat.le_of_ble_eq_true rfl⟩ rfl (fun u H locs hw hP hD hS => ?_)
  have hP : va_P D classes [] H := hP
  have hD : va_D A [] := hD
  refine W.cs (g := F0 m 6 ls []) (cells' := 0) (slots' := 0) rfl rfl ?_
  refine lv_aload_n hx hb d_JLat_charAt_6 rfl (lv_at hl 0 rfl) ?_
  refine lv_iload_n hx hb d_JLat_charAt_7 rfl (lv_at hl 1 rfl) ?_
  refine va_tb hx hb (hE.2.2.1 i hi).2.2.2 hS (iI_in (by omega) (by omega)) (v := .int (iI (strCh i k))) (by rw [iI_clamp (by omega), Int.toNat_of_nonneg (by omega)]) d_JLat_charAt_8 ?_
  refine wi_sipush hx hb d_JLat_charAt_9 (by decide) ?_
  refine wi_imask hx hb 8 256 (by decide +kernel) (by decide) (by decide) d_JLat_charAt_12 ?_
  refine w_eqi (y := strCh i k) (by omega) ?_
  refine W.eq (g2 := F0 m 13 ls [.int (iI (strCh i k))]) rfl ?_
  refine wi_i2c hx hb (by omega) d_JLat_charAt_13 ?_
  exact ret (strCh i k) _ _ _ _ d_JLat_charAt_14 (show ((strCh i k) = strCh i k) from rfl) (hP.sub [] rfl) (hD.sub [] (by decide) rfl) hS
set_option maxHeartbeats 4000000 in
set_option maxRecDepth 100000 in
theorem c_JStr_charAt (l : Launch) (D : va_G) (E : EVt) (i : Nat) (k : Int) (hi : i < 43) (hk : 0 ≤ k ∧ k < (strLen i : Int)) : CT l D classes (tyl E) (EVX E) y_JStr_charAt (Cond.code y_JStr_charAt b_JStr_charAt 2 (some .char) :: TB) (rmK 3 0 0 64) 0 0 [.ref (E.2.2.1 i), .int (iI k)] [] (S := Int) (fun _ => []) (fun u => some (.int (iI u))) (fun u => (u = strCh i k)) := by
  refine CT.ofn (fv := fun (u : Int) => u) (eok E) (by decide) rfl (Nat.le_of_ble_eq_true rfl) (fun u hu => by have := strCh_rng i k; rw [hu]; exact iI_narc (by omega)) ?_
  intro p e s m args below meth c A Q ls B hmn hP hD hS hl ret
  have B : Bd l D classes (tyl E) (EVX E) p m c b_JStr_charAt 2 s args (Cond.code y_JStr_charAt b_JStr_charAt 2 (some .char) :: TB) "java/lang/String" A := B
  obtain ⟨⟨hx, hb, hml, hown, hts⟩, hX, hK, hE, hA⟩ := id B
  have hl : lv_has ls 2 [(0, .ref (E.2.2.1 i)), (1, .int (iI k))] := hl
  have hP : va_P D classes [] s.heap := hP
  have hD : va_D A [] := hD
  refine lv_aload_n hx hb d_JStr_charAt_0 rfl (lv_at hl 0 rfl) ?_
  refine wk_callO (As := []) (rest := []) (wr := []) B gTB cl_JStr_492 (c_JStr_isLatin1 l D E i (by omega)) ⟨⟨rfl, rfl⟩, Nat.le_of_ble_eq_true rfl, Nat.le_of_ble_eq_true rfl⟩ hP hD hS [] [] rfl rfl (by decide) (va_O_at (hE.2.2.1 i hi).1 hS) ⟨hl.2.1, hl.1⟩ rfl (Nat.le_of_ble_eq_true rfl) d_JStr_charAt_1 ⟨Nat.le_of_ble_eq_true rfl, Nat.le_of_ble_eq_true rfl⟩ rfl (fun r_1 H locs hw hP hD hS => ?_)
  have hP : va_P D classes [] H := hP
  have hD : va_D A [] := hD
  have hw : (r_1 = true) := hw
  have hr_2 := hw
  refine W.cs (g := F0 m 4 ls [.int (bI r_1)]) (cells' := 0) (slots' := 0) rfl rfl ?_
  subst hr_2
  refine wb_if_eq (tgt := 16) hx hb d_JStr_charAt_4 (by decide) (fun c_3 => by exfalso; exact absurd c_3 (by decide)) (fun c_3 => ?_)
  refine lv_aload_n hx hb d_JStr_charAt_7 rfl (lv_at hl 0 rfl) ?_
  refine vk_getf hx hb (hE.2.2.1 i hi).2.2.1 hS hown (tb_h hts (tb_t (List.mem_append_right _ (List.mem_append_right _ (List.mem_append_right _ (List.mem_append_right _ (List.mem_of_getElem? (l := tables_1_5) (i := 9) rfl))))) rfl)) (fun _ h => h) d_JStr_charAt_8 ?_
  refine lv_iload_n hx hb d_JStr_charAt_11 rfl (lv_at hl 1 rfl) ?_
  refine wk_callS (As := [.ref (E.2.2.2.1 i), .int (iI k)]) (rest := []) (wr := []) B gTB cl_JStr_495 (c_JLat_charAt l D E i k (by omega) (by omega)) ⟨⟨rfl, rfl⟩, Nat.le_of_ble_eq_true rfl, Nat.le_of_ble_eq_true rfl⟩ hP hD hS [] [] rfl rfl (by decide) ⟨hl.2.1, hl.1⟩ rfl (Nat.le_of_ble_eq_true rfl) d_JStr_charAt_12 ⟨Nat.le_of_ble_eq_true rfl, Nat.le_of_ble_eq_true rfl⟩ rfl (fun r_4 H locs hw hP hD hS => ?_)
  have hP : va_P D classes [] H := hP
  have hD : va_D A [] := hD
  have hw : (r_4 = strCh i k) := hw
  have hr_5 := hw
  refine W.cs (g := F0 m 15 ls [.int (iI r_4)]) (cells' := 0) (slots' := 0) rfl rfl ?_
  subst hr_5
  exact ret (strCh i k) _ _ _ _ d_JStr_charAt_15 (show ((strCh i k) = strCh i k) from rfl) (hP.sub [] rfl) (hD.sub [] (by decide) rfl) hS
set_option maxHeartbeats 4000000 in
set_option maxRecDepth 100000 in
theorem c_Row_addText (l : Launch) (D : va_G) (E : EVt) (h : Nat) (a : Nat) (N : Nat) (t : Int → Int) (n : Int) (i : Nat) (hi : i < 43) (hn : 0 ≤ n ∧ n + (strLen i : Int) ≤ (N : Int)) (hN : N < 65536) : CT l D classes (tyl E) (EVX E) y_Row_addText (Cond.code y_Row_addText b_Row_addText 3 none :: TB) (rmK 4 0 0 85) 0 0 [.ref h, .ref (E.2.2.1 i)] [(h, .inr (3, [.ref a, .int (iI n)])), (a, .inl (E.2.1, N, .inl (ia t)))] (S := (Int → Int) × Int) (fun u => [(h, .inr (3, [.ref a, .int (iI u.2)])), (a, .inl (E.2.1, N, .inl (ia u.1)))]) (fun _ => none) (fun u => (u.1 = apZ t n (strLen i) (strCh i)) ∧ (u.2 = n + (strLen i : Int))) := by
  refine CT.ofv (eok E) (by decide) rfl (Nat.le_of_ble_eq_true rfl) ?_
  intro p e s m args below meth c A Q ls B hmn hP hD hS hl ret
  have B : Bd l D classes (tyl E) (EVX E) p m c b_Row_addText 3 s args (Cond.code y_Row_addText b_Row_addText 3 none :: TB) R_Row A := B
  obtain ⟨⟨hx, hb, hml, hown, hts⟩, hX, hK, hE, hA⟩ := id B
  have hl : lv_has ls 3 [(0, .ref h), (1, .ref (E.2.2.1 i))] := hl
  have hP : va_P D classes [(h, .inr (3, [.ref a, .int (iI n)])), (a, .inl (E.2.1, N, .inl (ia t)))] s.heap := hP
  have hD : va_D A [(h, .inr (3, [.ref a, .int (iI n)])), (a, .inl (E.2.1, N, .inl (ia t)))] := hD
  have hsl := strLen_all i hi
  have K_2 : ∀ (fuel2 : Nat) (k : Int) (m1 : Int) (t1 : Int → Int) (hk : 0 ≤ k ∧ k ≤ (strLen i : Int)) (hm : m1 = n + k) (ht1 : t1 = apZ t n k (strCh i)) (hf2 : (strLen i : Int) - k < (fuel2 : Int)) (ls : Array Slot) (H : Heap) (locs : List Loc), lv_has ls 3 [(0, .ref h), (1, .ref (E.2.2.1 i)), (2, .int (iI k))] → va_P D classes [(h, .inr (3, [.ref a, .int (iI m1)])), (a, .inl (E.2.1, N, .inl (ia t1)))] H → va_D A [(h, .inr (3, [.ref a, .int (iI m1)])), (a, .inl (E.2.1, N, .inl (ia t1)))] → va_S A s.heap H locs → W p l e (rmK 4 0 0 85) s m args below meth c H locs 0 0 Q (F0 m 2 ls []) := by
    intro fuel2
    induction fuel2 with
    | zero =>
      intro k m1 t1 hk hm ht1 hf2 ls H locs hl hP hD hS
      exfalso; omega
    | succ fuel2 ih2 =>
      intro k m1 t1 hk hm ht1 hf2 ls H locs hl hP hD hS
      have hsc := strCh_rng i k
      refine lv_iload_n hx hb d_Row_addText_2 rfl (lv_at hl 2 rfl) ?_
      refine lv_aload_n hx hb d_Row_addText_3 rfl (lv_at hl 1 rfl) ?_
      refine wk_callO (As := []) (rest := [.int (iI k)]) (wr := [(h, .inr (3, [.ref a, .int (iI m1)])), (a, .inl (E.2.1, N, .inl (ia t1)))]) B gTB cl_Row_19 (c_JStr_length l D E i (by omega)) ⟨⟨rfl, rfl⟩, Nat.le_of_ble_eq_true rfl, Nat.le_of_ble_eq_true rfl⟩ hP hD hS [] [0, 1] rfl rfl (by decide) (va_O_at (hE.2.2.1 i hi).1 hS) ⟨hl.2.1, hl.1⟩ rfl (Nat.le_of_ble_eq_true rfl) d_Row_addText_4 ⟨Nat.le_of_ble_eq_true rfl, Nat.le_of_ble_eq_true rfl⟩ rfl (fun r_1 H locs hw hP hD hS => ?_)
      have hP : va_P D classes [(h, .inr (3, [.ref a, .int (iI m1)])), (a, .inl (E.2.1, N, .inl (ia t1)))] H := hP
      have hD : va_D A [(h, .inr (3, [.ref a, .int (iI m1)])), (a, .inl (E.2.1, N, .inl (ia t1)))] := hD
      have hw : (r_1 = (strLen i : Int)) := hw
      have hr_2 := hw
      refine W.cs (g := F0 m 7 ls [.int (iI r_1), .int (iI k)]) (cells' := 0) (slots' := 0) rfl rfl ?_
      subst hr_2
      refine wi_icmp_ge (tgt := 25) hx hb d_Row_addText_7 (by decide) (by omega) (by omega) (fun c_3 => ?_) (fun c_3 => ?_)
      · skip
        exact ret (t1, m1) _ _ _ _ d_Row_addText_25 (show (t1 = apZ t n (strLen i) (strCh i)) ∧ (m1 = n + (strLen i : Int)) from ⟨by rw [ht1, show k = (strLen i : Int) by omega], by omega⟩) (hP.sub [0, 1] rfl) (hD.sub [0, 1] (by decide) rfl) hS
      · skip
        refine lv_aload_n hx hb d_Row_addText_10 rfl (lv_at hl 0 rfl) ?_
        refine lv_aload_n hx hb d_Row_addText_11 rfl (lv_at hl 1 rfl) ?_
        refine lv_iload_n hx hb d_Row_addText_12 rfl (lv_at hl 2 rfl) ?_
        refine wk_callO (As := [.int (iI k)]) (rest := [.ref h]) (wr := [(h, .inr (3, [.ref a, .int (iI m1)])), (a, .inl (E.2.1, N, .inl (ia t1)))]) B gTB cl_Row_25 (c_JStr_charAt l D E i k (by omega) (by omega)) ⟨⟨rfl, rfl⟩, Nat.le_of_ble_eq_true rfl, Nat.le_of_ble_eq_true rfl⟩ hP hD hS [] [0, 1] rfl rfl (by decide) (va_O_at (hE.2.2.1 i hi).1 hS) ⟨hl.2.1, hl.1⟩ rfl (Nat.le_of_ble_eq_true rfl) d_Row_addText_13 ⟨Nat.le_of_ble_eq_true rfl, Nat.le_of_ble_eq_true rfl⟩ rfl (fun r_4 H locs hw hP hD hS => ?_)
        have hP : va_P D classes [(h, .inr (3, [.ref a, .int (iI m1)])), (a, .inl (E.2.1, N, .inl (ia t1)))] H := hP
        have hD : va_D A [(h, .inr (3, [.ref a, .int (iI m1)])), (a, .inl (E.2.1, N, .inl (ia t1)))] := hD
        have hw : (r_4 = strCh i k) := hw
        have hr_5 := hw
        refine W.cs (g := F0 m 16 ls [.int (iI r_4), .ref h]) (cells' := 0) (slots' := 0) rfl rfl ?_
        subst hr_5
        refine wk_callV (As := [.int (iI (strCh i k))]) (rest := []) (wr := []) B gTB cl_Row_29 (c_Row_add l D E h a N t1 m1 (strCh i k) (by omega) (by omega) (by omega)) ⟨⟨rfl, rfl⟩, Nat.le_of_ble_eq_true rfl, Nat.le_of_ble_eq_true rfl⟩ hP hD hS [0, 1] [] rfl rfl (by decide) 0 rfl rfl rfl ⟨hl.2.1, hl.1⟩ rfl (Nat.le_of_ble_eq_true rfl) d_Row_addText_16 ⟨Nat.le_of_ble_eq_true rfl, Nat.le_of_ble_eq_true rfl⟩ rfl (fun u H locs hw hP hD hS => ?_)
        have hP : va_P D classes [(h, .inr (3, [.ref a, .int (iI (m1 + 1))])), (a, .inl (E.2.1, N, .inl (ia (upZ t1 m1 (strCh i k)))))] H := hP
        have hD : va_D A [(h, .inr (3, [.ref a, .int (iI (m1 + 1))])), (a, .inl (E.2.1, N, .inl (ia (upZ t1 m1 (strCh i k)))))] := hD
        refine W.cs (g := F0 m 19 ls []) (cells' := 0) (slots' := 0) rfl rfl ?_
        refine wi_iinc (v := k + 1) (lv' := [(2, .int (iI (k + 1))), (0, .ref h), (1, .ref (E.2.2.1 i))]) hx hb d_Row_addText_19 hl (k := 2) rfl rfl (by decide) rfl (fun ls hl => ?_)
        refine lv_goto (tgt := 2) hx hb d_Row_addText_22 (by decide) ?_
        exact ih2 (k + 1) (m1 + 1) (upZ t1 m1 (strCh i k)) (by omega) (by omega) (by rw [ht1, hm]; exact apZ_s hk.1) (by omega) _ _ _ (lv_sub hl [1, 2, 0] rfl) (hP.sub [0, 1] rfl) (hD.sub [0, 1] (by decide) rfl) hS
  refine wi_iconst (n := 0) hx hb d_Row_addText_0 ?_
  refine lv_istore_n (lv' := [(2, .int (iI 0)), (0, .ref h), (1, .ref (E.2.2.1 i))]) hx hb d_Row_addText_1 rfl hl (by decide) rfl (fun ls hl => ?_)
  exact K_2 (((strLen i : Int) - 0 : Int).toNat + 1) 0 n t (by omega) (by omega) ((apZ_0 t n (strCh i)).symm) (by omega) _ _ _ (lv_sub hl [1, 2, 0] rfl) (hP.sub [0, 1] rfl) (hD.sub [0, 1] (by decide) rfl) hS
