/-! markText; Scanner: takeClose, takeInfinity, isAtBracket, start, takeMark -/
abbrev b_IT_markText : ByteArray := prog_1_method_15_code
def y_IT_markText : MethodName := ⟨"IntervalText", "markText", "(I)Ljava/lang/String;"⟩
abbrev b_Scanner_takeClose : ByteArray := prog_7_method_7_code
def y_Scanner_takeClose : MethodName := ⟨"IntervalText$Scanner", "takeClose", "()Z"⟩
abbrev b_Scanner_takeInfinity : ByteArray := prog_7_method_8_code
def y_Scanner_takeInfinity : MethodName := ⟨"IntervalText$Scanner", "takeInfinity", "(Ljava/lang/String;)Z"⟩
abbrev b_Scanner_isAtBracket : ByteArray := prog_7_method_3_code
def y_Scanner_isAtBracket : MethodName := ⟨"IntervalText$Scanner", "isAtBracket", "()Z"⟩
abbrev b_Scanner_start : ByteArray := prog_7_method_2_code
def y_Scanner_start : MethodName := ⟨"IntervalText$Scanner", "start", "()V"⟩
abbrev b_Scanner_takeMark : ByteArray := prog_7_method_4_code
def y_Scanner_takeMark : MethodName := ⟨"IntervalText$Scanner", "takeMark", "()I"⟩
theorem d_IT_markText_0 : decode b_IT_markText 0 = .ok (.iload_n 0, 1) := by decide +kernel
theorem d_IT_markText_1 : decode b_IT_markText 1 = .ok (.tableswitch 36 2 4 #[33, 30, 27], 27) := by decide +kernel
theorem d_IT_markText_28 : decode b_IT_markText 28 = .ok (.ldc 156, 2) := by decide +kernel
theorem d_IT_markText_30 : decode b_IT_markText 30 = .ok (.areturn, 1) := by decide +kernel
theorem d_IT_markText_31 : decode b_IT_markText 31 = .ok (.ldc 158, 2) := by decide +kernel
theorem d_IT_markText_33 : decode b_IT_markText 33 = .ok (.areturn, 1) := by decide +kernel
theorem d_IT_markText_34 : decode b_IT_markText 34 = .ok (.ldc 160, 2) := by decide +kernel
theorem d_IT_markText_36 : decode b_IT_markText 36 = .ok (.areturn, 1) := by decide +kernel
theorem d_IT_markText_37 : decode b_IT_markText 37 = .ok (.ldc 162, 2) := by decide +kernel
theorem d_IT_markText_39 : decode b_IT_markText 39 = .ok (.areturn, 1) := by decide +kernel
theorem d_Scanner_takeClose_0 : decode b_Scanner_takeClose 0 = .ok (.aload_n 0, 1) := by decide +kernel
theorem d_Scanner_takeClose_1 : decode b_Scanner_takeClose 1 = .ok (.invokevirtual 55, 3) := by decide +kernel
theorem d_Scanner_takeClose_4 : decode b_Scanner_takeClose 4 = .ok (.aload_n 0, 1) := by decide +kernel
theorem d_Scanner_takeClose_5 : decode b_Scanner_takeClose 5 = .ok (.ldc 117, 2) := by decide +kernel
theorem d_Scanner_takeClose_7 : decode b_Scanner_takeClose 7 = .ok (.invokevirtual 76, 3) := by decide +kernel
theorem d_Scanner_takeClose_10 : decode b_Scanner_takeClose 10 = .ok (.ireturn, 1) := by decide +kernel
theorem d_Scanner_takeInfinity_0 : decode b_Scanner_takeInfinity 0 = .ok (.aload_n 0, 1) := by decide +kernel
theorem d_Scanner_takeInfinity_1 : decode b_Scanner_takeInfinity 1 = .ok (.aload_n 1, 1) := by decide +kernel
theorem d_Scanner_takeInfinity_2 : decode b_Scanner_takeInfinity 2 = .ok (.invokevirtual 76, 3) := by decide +kernel
theorem d_Scanner_takeInfinity_5 : decode b_Scanner_takeInfinity 5 = .ok (.ifCond .ne 5, 3) := by decide +kernel
theorem d_Scanner_takeInfinity_8 : decode b_Scanner_takeInfinity 8 = .ok (.iconst 0, 1) := by decide +kernel
theorem d_Scanner_takeInfinity_9 : decode b_Scanner_takeInfinity 9 = .ok (.ireturn, 1) := by decide +kernel
theorem d_Scanner_takeInfinity_10 : decode b_Scanner_takeInfinity 10 = .ok (.aload_n 0, 1) := by decide +kernel
theorem d_Scanner_takeInfinity_11 : decode b_Scanner_takeInfinity 11 = .ok (.ldc 119, 2) := by decide +kernel
theorem d_Scanner_takeInfinity_13 : decode b_Scanner_takeInfinity 13 = .ok (.invokevirtual 76, 3) := by decide +kernel
theorem d_Scanner_takeInfinity_16 : decode b_Scanner_takeInfinity 16 = .ok (.pop, 1) := by decide +kernel
theorem d_Scanner_takeInfinity_17 : decode b_Scanner_takeInfinity 17 = .ok (.iconst 1, 1) := by decide +kernel
theorem d_Scanner_takeInfinity_18 : decode b_Scanner_takeInfinity 18 = .ok (.ireturn, 1) := by decide +kernel
theorem d_Scanner_isAtBracket_0 : decode b_Scanner_isAtBracket 0 = .ok (.aload_n 0, 1) := by decide +kernel
theorem d_Scanner_isAtBracket_1 : decode b_Scanner_isAtBracket 1 = .ok (.invokevirtual 68, 3) := by decide +kernel
theorem d_Scanner_isAtBracket_4 : decode b_Scanner_isAtBracket 4 = .ok (.bipush 91, 2) := by decide +kernel
theorem d_Scanner_isAtBracket_6 : decode b_Scanner_isAtBracket 6 = .ok (.if_icmp .ne 7, 3) := by decide +kernel
theorem d_Scanner_isAtBracket_9 : decode b_Scanner_isAtBracket 9 = .ok (.iconst 1, 1) := by decide +kernel
theorem d_Scanner_isAtBracket_10 : decode b_Scanner_isAtBracket 10 = .ok (.goto 4, 3) := by decide +kernel
theorem d_Scanner_isAtBracket_13 : decode b_Scanner_isAtBracket 13 = .ok (.iconst 0, 1) := by decide +kernel
theorem d_Scanner_isAtBracket_14 : decode b_Scanner_isAtBracket 14 = .ok (.ireturn, 1) := by decide +kernel
theorem d_Scanner_start_0 : decode b_Scanner_start 0 = .ok (.aload_n 0, 1) := by decide +kernel
theorem d_Scanner_start_1 : decode b_Scanner_start 1 = .ok (.getfield 9, 3) := by decide +kernel
theorem d_Scanner_start_4 : decode b_Scanner_start 4 = .ok (.invokevirtual 36, 3) := by decide +kernel
theorem d_Scanner_start_7 : decode b_Scanner_start 7 = .ok (.aload_n 0, 1) := by decide +kernel
theorem d_Scanner_start_8 : decode b_Scanner_start 8 = .ok (.getfield 9, 3) := by decide +kernel
theorem d_Scanner_start_11 : decode b_Scanner_start 11 = .ok (.getfield 41, 3) := by decide +kernel
theorem d_Scanner_start_14 : decode b_Scanner_start 14 = .ok (.ifCond .le 41, 3) := by decide +kernel
theorem d_Scanner_start_17 : decode b_Scanner_start 17 = .ok (.aload_n 0, 1) := by decide +kernel
theorem d_Scanner_start_18 : decode b_Scanner_start 18 = .ok (.getfield 9, 3) := by decide +kernel
theorem d_Scanner_start_21 : decode b_Scanner_start 21 = .ok (.aload_n 0, 1) := by decide +kernel
theorem d_Scanner_start_22 : decode b_Scanner_start 22 = .ok (.getfield 9, 3) := by decide +kernel
theorem d_Scanner_start_25 : decode b_Scanner_start 25 = .ok (.getfield 41, 3) := by decide +kernel
theorem d_Scanner_start_28 : decode b_Scanner_start 28 = .ok (.iconst 1, 1) := by decide +kernel
theorem d_Scanner_start_29 : decode b_Scanner_start 29 = .ok (.isub, 1) := by decide +kernel
theorem d_Scanner_start_30 : decode b_Scanner_start 30 = .ok (.invokevirtual 45, 3) := by decide +kernel
theorem d_Scanner_start_33 : decode b_Scanner_start 33 = .ok (.invokestatic 49, 3) := by decide +kernel
theorem d_Scanner_start_36 : decode b_Scanner_start 36 = .ok (.ifCond .eq 19, 3) := by decide +kernel
theorem d_Scanner_start_39 : decode b_Scanner_start 39 = .ok (.aload_n 0, 1) := by decide +kernel
theorem d_Scanner_start_40 : decode b_Scanner_start 40 = .ok (.getfield 9, 3) := by decide +kernel
theorem d_Scanner_start_43 : decode b_Scanner_start 43 = .ok (.dup, 1) := by decide +kernel
theorem d_Scanner_start_44 : decode b_Scanner_start 44 = .ok (.getfield 41, 3) := by decide +kernel
theorem d_Scanner_start_47 : decode b_Scanner_start 47 = .ok (.iconst 1, 1) := by decide +kernel
theorem d_Scanner_start_48 : decode b_Scanner_start 48 = .ok (.isub, 1) := by decide +kernel
theorem d_Scanner_start_49 : decode b_Scanner_start 49 = .ok (.putfield 41, 3) := by decide +kernel
theorem d_Scanner_start_52 : decode b_Scanner_start 52 = .ok (.goto (-45), 3) := by decide +kernel
theorem d_Scanner_start_55 : decode b_Scanner_start 55 = .ok (.aload_n 0, 1) := by decide +kernel
theorem d_Scanner_start_56 : decode b_Scanner_start 56 = .ok (.iconst 0, 1) := by decide +kernel
theorem d_Scanner_start_57 : decode b_Scanner_start 57 = .ok (.putfield 53, 3) := by decide +kernel
theorem d_Scanner_start_60 : decode b_Scanner_start 60 = .ok (.aload_n 0, 1) := by decide +kernel
theorem d_Scanner_start_61 : decode b_Scanner_start 61 = .ok (.invokevirtual 55, 3) := by decide +kernel
theorem d_Scanner_start_64 : decode b_Scanner_start 64 = .ok (.aload_n 0, 1) := by decide +kernel
theorem d_Scanner_start_65 : decode b_Scanner_start 65 = .ok (.iconst 0, 1) := by decide +kernel
theorem d_Scanner_start_66 : decode b_Scanner_start 66 = .ok (.putfield 58, 3) := by decide +kernel
theorem d_Scanner_start_69 : decode b_Scanner_start 69 = .ok (.aload_n 0, 1) := by decide +kernel
theorem d_Scanner_start_70 : decode b_Scanner_start 70 = .ok (.iconst 0, 1) := by decide +kernel
theorem d_Scanner_start_71 : decode b_Scanner_start 71 = .ok (.putfield 62, 3) := by decide +kernel
theorem d_Scanner_start_74 : decode b_Scanner_start 74 = .ok (.aload_n 0, 1) := by decide +kernel
theorem d_Scanner_start_75 : decode b_Scanner_start 75 = .ok (.iconst 0, 1) := by decide +kernel
theorem d_Scanner_start_76 : decode b_Scanner_start 76 = .ok (.putfield 65, 3) := by decide +kernel
theorem d_Scanner_start_79 : decode b_Scanner_start 79 = .ok (.return_, 1) := by decide +kernel
theorem d_Scanner_takeMark_0 : decode b_Scanner_takeMark 0 = .ok (.aload_n 0, 1) := by decide +kernel
theorem d_Scanner_takeMark_1 : decode b_Scanner_takeMark 1 = .ok (.getfield 58, 3) := by decide +kernel
theorem d_Scanner_takeMark_4 : decode b_Scanner_takeMark 4 = .ok (.ifCond .eq 7, 3) := by decide +kernel
theorem d_Scanner_takeMark_7 : decode b_Scanner_takeMark 7 = .ok (.iconst 1, 1) := by decide +kernel
theorem d_Scanner_takeMark_8 : decode b_Scanner_takeMark 8 = .ok (.goto 22, 3) := by decide +kernel
theorem d_Scanner_takeMark_11 : decode b_Scanner_takeMark 11 = .ok (.aload_n 0, 1) := by decide +kernel
theorem d_Scanner_takeMark_12 : decode b_Scanner_takeMark 12 = .ok (.getfield 62, 3) := by decide +kernel
theorem d_Scanner_takeMark_15 : decode b_Scanner_takeMark 15 = .ok (.ifCond .ne 10, 3) := by decide +kernel
theorem d_Scanner_takeMark_18 : decode b_Scanner_takeMark 18 = .ok (.aload_n 0, 1) := by decide +kernel
theorem d_Scanner_takeMark_19 : decode b_Scanner_takeMark 19 = .ok (.getfield 65, 3) := by decide +kernel
theorem d_Scanner_takeMark_22 : decode b_Scanner_takeMark 22 = .ok (.ifCond .eq 7, 3) := by decide +kernel
theorem d_Scanner_takeMark_25 : decode b_Scanner_takeMark 25 = .ok (.iconst 3, 1) := by decide +kernel
theorem d_Scanner_takeMark_26 : decode b_Scanner_takeMark 26 = .ok (.goto 4, 3) := by decide +kernel
theorem d_Scanner_takeMark_29 : decode b_Scanner_takeMark 29 = .ok (.iconst 4, 1) := by decide +kernel
theorem d_Scanner_takeMark_30 : decode b_Scanner_takeMark 30 = .ok (.istore_n 1, 1) := by decide +kernel
theorem d_Scanner_takeMark_31 : decode b_Scanner_takeMark 31 = .ok (.aload_n 0, 1) := by decide +kernel
theorem d_Scanner_takeMark_32 : decode b_Scanner_takeMark 32 = .ok (.getfield 53, 3) := by decide +kernel
theorem d_Scanner_takeMark_35 : decode b_Scanner_takeMark 35 = .ok (.aload_n 0, 1) := by decide +kernel
theorem d_Scanner_takeMark_36 : decode b_Scanner_takeMark 36 = .ok (.getfield 9, 3) := by decide +kernel
theorem d_Scanner_takeMark_39 : decode b_Scanner_takeMark 39 = .ok (.getfield 41, 3) := by decide +kernel
theorem d_Scanner_takeMark_42 : decode b_Scanner_takeMark 42 = .ok (.if_icmp .ne 5, 3) := by decide +kernel
theorem d_Scanner_takeMark_45 : decode b_Scanner_takeMark 45 = .ok (.iload_n 1, 1) := by decide +kernel
theorem d_Scanner_takeMark_46 : decode b_Scanner_takeMark 46 = .ok (.ireturn, 1) := by decide +kernel
theorem d_Scanner_takeMark_47 : decode b_Scanner_takeMark 47 = .ok (.iconst 1, 1) := by decide +kernel
theorem d_Scanner_takeMark_48 : decode b_Scanner_takeMark 48 = .ok (.istore_n 2, 1) := by decide +kernel
theorem d_Scanner_takeMark_49 : decode b_Scanner_takeMark 49 = .ok (.iload_n 2, 1) := by decide +kernel
theorem d_Scanner_takeMark_50 : decode b_Scanner_takeMark 50 = .ok (.iload_n 1, 1) := by decide +kernel
theorem d_Scanner_takeMark_51 : decode b_Scanner_takeMark 51 = .ok (.if_icmp .gt 40, 3) := by decide +kernel
theorem d_Scanner_takeMark_54 : decode b_Scanner_takeMark 54 = .ok (.aload_n 0, 1) := by decide +kernel
theorem d_Scanner_takeMark_55 : decode b_Scanner_takeMark 55 = .ok (.iload_n 2, 1) := by decide +kernel
theorem d_Scanner_takeMark_56 : decode b_Scanner_takeMark 56 = .ok (.invokestatic 72, 3) := by decide +kernel
theorem d_Scanner_takeMark_59 : decode b_Scanner_takeMark 59 = .ok (.invokevirtual 76, 3) := by decide +kernel
theorem d_Scanner_takeMark_62 : decode b_Scanner_takeMark 62 = .ok (.ifCond .eq 23, 3) := by decide +kernel
theorem d_Scanner_takeMark_65 : decode b_Scanner_takeMark 65 = .ok (.aload_n 0, 1) := by decide +kernel
theorem d_Scanner_takeMark_66 : decode b_Scanner_takeMark 66 = .ok (.getfield 53, 3) := by decide +kernel
theorem d_Scanner_takeMark_69 : decode b_Scanner_takeMark 69 = .ok (.aload_n 0, 1) := by decide +kernel
theorem d_Scanner_takeMark_70 : decode b_Scanner_takeMark 70 = .ok (.getfield 9, 3) := by decide +kernel
theorem d_Scanner_takeMark_73 : decode b_Scanner_takeMark 73 = .ok (.getfield 41, 3) := by decide +kernel
theorem d_Scanner_takeMark_76 : decode b_Scanner_takeMark 76 = .ok (.if_icmp .ne 7, 3) := by decide +kernel
theorem d_Scanner_takeMark_79 : decode b_Scanner_takeMark 79 = .ok (.iload_n 2, 1) := by decide +kernel
theorem d_Scanner_takeMark_80 : decode b_Scanner_takeMark 80 = .ok (.goto 4, 3) := by decide +kernel
theorem d_Scanner_takeMark_83 : decode b_Scanner_takeMark 83 = .ok (.iconst 0, 1) := by decide +kernel
theorem d_Scanner_takeMark_84 : decode b_Scanner_takeMark 84 = .ok (.ireturn, 1) := by decide +kernel
theorem d_Scanner_takeMark_85 : decode b_Scanner_takeMark 85 = .ok (.iinc 2 1, 3) := by decide +kernel
theorem d_Scanner_takeMark_88 : decode b_Scanner_takeMark 88 = .ok (.goto (-39), 3) := by decide +kernel
theorem d_Scanner_takeMark_91 : decode b_Scanner_takeMark 91 = .ok (.iconst 0, 1) := by decide +kernel
theorem d_Scanner_takeMark_92 : decode b_Scanner_takeMark 92 = .ok (.ireturn, 1) := by decide +kernel
theorem fl_Scanner_58 : FLink TB classes "IntervalText$Scanner" 58 R_Scanner F_Scanner 12 4 5 := ⟨rfl, by decide, i_Scanner, tb_t (List.mem_append_left _ (List.mem_of_getElem? (l := tables_1_1) (i := 129) rfl)) rfl⟩
theorem fl_Scanner_62 : FLink TB classes "IntervalText$Scanner" 62 R_Scanner F_Scanner 12 4 6 := ⟨rfl, by decide, i_Scanner, tb_t (List.mem_append_left _ (List.mem_of_getElem? (l := tables_1_1) (i := 131) rfl)) rfl⟩
theorem fl_Scanner_65 : FLink TB classes "IntervalText$Scanner" 65 R_Scanner F_Scanner 12 4 7 := ⟨rfl, by decide, i_Scanner, tb_t (List.mem_append_left _ (List.mem_of_getElem? (l := tables_1_1) (i := 133) rfl)) rfl⟩
theorem fp_Scanner_5 : FPut R_Scanner F_Scanner 12 5 .boolean false := ⟨e_Scanner, n_Scanner, rfl, by decide +kernel⟩
theorem fp_Scanner_6 : FPut R_Scanner F_Scanner 12 6 .boolean false := ⟨e_Scanner, n_Scanner, rfl, by decide +kernel⟩
theorem fp_Scanner_7 : FPut R_Scanner F_Scanner 12 7 .boolean false := ⟨e_Scanner, n_Scanner, rfl, by decide +kernel⟩
theorem cl_Scanner_72 : Cond.static y_IT_markText ∈ TB ∧ Cond.initialized y_IT_markText.cls ∈ TB ∧ Cond.code y_IT_markText b_IT_markText 1 (some (.object "java/lang/String")) ∈ TB ∧ y_IT_markText.cls ≠ "java/lang/invoke/MethodHandle" ∧ y_IT_markText.cls ≠ "java/lang/invoke/VarHandle" ∧ (parseMethodDescriptor y_IT_markText.desc).map (fun d => d.parameters.length) = some 1 := ⟨tb_t (List.mem_append_right _ (List.mem_append_left _ (List.mem_of_getElem? (l := tables_1_2) (i := 202) rfl))) rfl, tb_t (List.mem_append_left _ (List.mem_of_getElem? (l := tables_1_1) (i := 1) rfl)) rfl, tb_t (List.mem_append_right _ (List.mem_append_left _ (List.mem_of_getElem? (l := tables_1_2) (i := 203) rfl))) rfl, by decide +kernel, by decide +kernel, by decide +kernel⟩
theorem cl_Scanner_36 : CLinkV TB "IntervalText$Scanner" 36 "IntervalText$Row" y_Row_toLowerCase b_Row_toLowerCase 2 none 0 := ⟨⟨tb_t (List.mem_append_left _ (List.mem_of_getElem? (l := tables_1_1) (i := 221) rfl)) rfl, tb_t (List.mem_append_left _ (List.mem_of_getElem? (l := tables_1_1) (i := 2) rfl)) rfl, tb_t (List.mem_append_left _ (List.mem_of_getElem? (l := tables_1_1) (i := 224) rfl)) rfl, by decide +kernel, by decide +kernel, by decide +kernel⟩, tb_t (List.mem_append_left _ (List.mem_of_getElem? (l := tables_1_1) (i := 222) rfl)) rfl, tb_t (List.mem_append_left _ (List.mem_of_getElem? (l := tables_1_1) (i := 223) rfl)) rfl⟩
theorem cl_Scanner_55 : CLinkV TB "IntervalText$Scanner" 55 "IntervalText$Scanner" y_Scanner_takeBlanks b_Scanner_takeBlanks 1 none 0 := ⟨⟨tb_t (List.mem_append_left _ (List.mem_of_getElem? (l := tables_1_1) (i := 232) rfl)) rfl, tb_t (List.mem_append_left _ (List.mem_of_getElem? (l := tables_1_1) (i := 5) rfl)) rfl, tb_t (List.mem_append_left _ (List.mem_of_getElem? (l := tables_1_1) (i := 235) rfl)) rfl, by decide +kernel, by decide +kernel, by decide +kernel⟩, tb_t (List.mem_append_left _ (List.mem_of_getElem? (l := tables_1_1) (i := 234) rfl)) rfl, tb_p 0 rfl⟩
set_option maxHeartbeats 4000000 in
set_option maxRecDepth 100000 in
theorem c_IT_markText (l : Launch) (D : va_G) (E : EVt) (mk : Int) (hmk : 0 ≤ mk ∧ mk < 100) : CT l D classes (tyl E) (EVX E) y_IT_markText (Cond.code y_IT_markText b_IT_markText 1 (some (.object "java/lang/String")) :: TB) (rmK 0 0 0 0) 0 0 [.int (iI mk)] [] (S := Nat) (fun _ => []) (fun u => some (.ref u)) (fun u => (u = E.2.2.1 (mkI mk))) := by
  refine CT.ofr (fv := fun (u : Nat) => u) (eok E) (by decide) rfl (Nat.le_of_ble_eq_true rfl) (Or.inl ⟨_, rfl⟩) ?_
  intro p e s m args below meth c A Q ls B hmn hP hD hS hl ret
  have B : Bd l D classes (tyl E) (EVX E) p m c b_IT_markText 1 s args (Cond.code y_IT_markText b_IT_markText 1 (some (.object "java/lang/String")) :: TB) R_IT A := B
  obtain ⟨⟨hx, hb, hml, hown, hts⟩, hX, hK, hE, hA⟩ := id B
  have hl : lv_has ls 1 [(0, .int (iI mk))] := hl
  have hP : va_P D classes [] s.heap := hP
  have hD : va_D A [] := hD
  refine lv_iload_n hx hb d_IT_markText_0 rfl (lv_at hl 0 rfl) ?_
  rcases (show mk = 4 ∨ mk = 3 ∨ mk = 2 ∨ (mk < 2 ∨ 4 < mk) by omega) with z | z | z | z
  · skip
    refine lv_tableIn (dflt := 36) (lo := 2) (hi := 4) (offs := #[33, 30, 27]) (off := 27) (tgt := 28) hx hb d_IT_markText_1 (by rw [iI_toInt (by omega)]; omega) (by rw [iI_toInt (by omega)]; omega) (by rw [iI_toInt (by omega), z]; rfl) (by decide) ?_
    refine va_ldcS hx hb hown (hE.2.1 14 _ rfl) d_IT_markText_28 ?_
    exact ret (E.2.2.1 14) _ _ _ _ d_IT_markText_30 (show ((E.2.2.1 14) = E.2.2.1 (mkI mk)) from (by rw [z]; rfl)) (hP.sub [] rfl) (hD.sub [] (by decide) rfl) hS
  · skip
    refine lv_tableIn (dflt := 36) (lo := 2) (hi := 4) (offs := #[33, 30, 27]) (off := 30) (tgt := 31) hx hb d_IT_markText_1 (by rw [iI_toInt (by omega)]; omega) (by rw [iI_toInt (by omega)]; omega) (by rw [iI_toInt (by omega), z]; rfl) (by decide) ?_
    refine va_ldcS hx hb hown (hE.2.1 15 _ rfl) d_IT_markText_31 ?_
    exact ret (E.2.2.1 15) _ _ _ _ d_IT_markText_33 (show ((E.2.2.1 15) = E.2.2.1 (mkI mk)) from (by rw [z]; rfl)) (hP.sub [] rfl) (hD.sub [] (by decide) rfl) hS
  · skip
    refine lv_tableIn (dflt := 36) (lo := 2) (hi := 4) (offs := #[33, 30, 27]) (off := 33) (tgt := 34) hx hb d_IT_markText_1 (by rw [iI_toInt (by omega)]; omega) (by rw [iI_toInt (by omega)]; omega) (by rw [iI_toInt (by omega), z]; rfl) (by decide) ?_
    refine va_ldcS hx hb hown (hE.2.1 16 _ rfl) d_IT_markText_34 ?_
    exact ret (E.2.2.1 16) _ _ _ _ d_IT_markText_36 (show ((E.2.2.1 16) = E.2.2.1 (mkI mk)) from (by rw [z]; rfl)) (hP.sub [] rfl) (hD.sub [] (by decide) rfl) hS
  · skip
    refine lv_tableOut (dflt := 36) (lo := 2) (hi := 4) (offs := #[33, 30, 27]) (tgt := 37) hx hb d_IT_markText_1 (by rw [iI_toInt (by omega)]; omega) (by decide) ?_
    refine va_ldcS hx hb hown (hE.2.1 17 _ rfl) d_IT_markText_37 ?_
    exact ret (E.2.2.1 17) _ _ _ _ d_IT_markText_39 (show ((E.2.2.1 17) = E.2.2.1 (mkI mk)) from (by unfold mkI; rw [if_neg (by omega), if_neg (by omega), if_neg (by omega)])) (hP.sub [] rfl) (hD.sub [] (by decide) rfl) hS
set_option maxHeartbeats 4000000 in
set_option maxRecDepth 100000 in
theorem c_Scanner_takeClose (l : Launch) (D : va_G) (E : EVt) (h : Nat) (tp : Nat) (ar : Nat) (f1 : Nat) (f2 : Nat) (rd : Nat) (em : Bool) (ob : Bool) (oa : Bool) (pos : Int) (fr : Int) (ex : Int) (hp : Bool) (ta : Nat) (t : Int → Int) (n : Int) (hn : 0 ≤ n ∧ n ≤ 400) (hT : Tx t n) (hpos : 0 ≤ pos ∧ pos ≤ n) : CT l D classes (tyl E) (EVX E) y_Scanner_takeClose (Cond.code y_Scanner_takeClose b_Scanner_takeClose 1 (some .boolean) :: TB) (rmK 5 0 0 107) 0 0 [.ref h] [(h, .inr (4, [.ref tp, .ref ar, .ref f1, .ref f2, .ref rd, .int (bI em), .int (bI ob), .int (bI oa), .int (iI pos), .int (iI fr), .int (iI ex), .int (bI hp)])), (tp, .inr (3, [.ref ta, .int (iI n)])), (ta, .inl (E.2.1, 400, .inl (ia t)))] (S := Int × Bool) (fun u => [(h, .inr (4, [.ref tp, .ref ar, .ref f1, .ref f2, .ref rd, .int (bI em), .int (bI ob), .int (bI oa), .int (iI u.1), .int (iI fr), .int (iI ex), .int (bI hp)])), (tp, .inr (3, [.ref ta, .int (iI n)])), (ta, .inl (E.2.1, 400, .inl (ia t)))]) (fun u => some (.int (bI u.2))) (fun u => (u.2 = wdB t n (sk t n pos) 2) ∧ (u.1 = wq t n (sk t n pos) 2) ∧ (pos ≤ u.1 ∧ u.1 ≤ n)) := by
  refine CT.ofz (fv := fun (u : Int × Bool) => u.2) (eok E) (by decide) rfl (Nat.le_of_ble_eq_true rfl) ?_
  intro p e s m args below meth c A Q ls B hmn hP hD hS hl ret
  have B : Bd l D classes (tyl E) (EVX E) p m c b_Scanner_takeClose 1 s args (Cond.code y_Scanner_takeClose b_Scanner_takeClose 1 (some .boolean) :: TB) R_Scanner A := B
  obtain ⟨⟨hx, hb, hml, hown, hts⟩, hX, hK, hE, hA⟩ := id B
  have hl : lv_has ls 1 [(0, .ref h)] := hl
  have hP : va_P D classes [(h, .inr (4, [.ref tp, .ref ar, .ref f1, .ref f2, .ref rd, .int (bI em), .int (bI ob), .int (bI oa), .int (iI pos), .int (iI fr), .int (iI ex), .int (bI hp)])), (tp, .inr (3, [.ref ta, .int (iI n)])), (ta, .inl (E.2.1, 400, .inl (ia t)))] s.heap := hP
  have hD : va_D A [(h, .inr (4, [.ref tp, .ref ar, .ref f1, .ref f2, .ref rd, .int (bI em), .int (bI ob), .int (bI oa), .int (iI pos), .int (iI fr), .int (iI ex), .int (bI hp)])), (tp, .inr (3, [.ref ta, .int (iI n)])), (ta, .inl (E.2.1, 400, .inl (ia t)))] := hD
  refine lv_aload_n hx hb d_Scanner_takeClose_0 rfl (lv_at hl 0 rfl) ?_
  refine wk_callV (As := []) (rest := []) (wr := []) B gTB cl_Scanner_55 (c_Scanner_takeBlanks l D E h tp ar f1 f2 rd em ob oa pos fr ex hp ta t n (by omega) (hT) (by omega)) ⟨⟨rfl, rfl⟩, Nat.le_of_ble_eq_true rfl, Nat.le_of_ble_eq_true rfl⟩ hP hD hS [0, 1, 2] [] rfl rfl (by decide) 0 rfl rfl rfl ⟨hl.2.1, hl.1⟩ rfl (Nat.le_of_ble_eq_true rfl) d_Scanner_takeClose_1 ⟨Nat.le_of_ble_eq_true rfl, Nat.le_of_ble_eq_true rfl⟩ rfl (fun q1 H locs hw hP hD hS => ?_)
  have hP : va_P D classes [(h, .inr (4, [.ref tp, .ref ar, .ref f1, .ref f2, .ref rd, .int (bI em), .int (bI ob), .int (bI oa), .int (iI q1), .int (iI fr), .int (iI ex), .int (bI hp)])), (tp, .inr (3, [.ref ta, .int (iI n)])), (ta, .inl (E.2.1, 400, .inl (ia t)))] H := hP
  have hD : va_D A [(h, .inr (4, [.ref tp, .ref ar, .ref f1, .ref f2, .ref rd, .int (bI em), .int (bI ob), .int (bI oa), .int (iI q1), .int (iI fr), .int (iI ex), .int (bI hp)])), (tp, .inr (3, [.ref ta, .int (iI n)])), (ta, .inl (E.2.1, 400, .inl (ia t)))] := hD
  have hw : (q1 = sk t n pos) ∧ (pos ≤ q1 ∧ q1 ≤ n) := hw
  obtain ⟨hq1, hq12⟩ := hw
  refine W.cs (g := F0 m 4 ls []) (cells' := 0) (slots' := 0) rfl rfl ?_
  subst hq1
  refine W.eq (g2 := F0 m 4 ls []) rfl ?_
  refine lv_aload_n hx hb d_Scanner_takeClose_4 rfl (lv_at hl 0 rfl) ?_
  refine va_ldcS hx hb hown (hE.2.1 2 _ rfl) d_Scanner_takeClose_5 ?_
  refine wk_callV (As := [.ref (E.2.2.1 2)]) (rest := []) (wr := []) B gTB cl_Scanner_76 (c_Scanner_takeWord l D E h tp ar f1 f2 rd em ob oa (sk t n pos) fr ex hp ta t n 2 (by omega) (hT) (by omega) (by omega)) ⟨⟨rfl, rfl⟩, Nat.le_of_ble_eq_true rfl, Nat.le_of_ble_eq_true rfl⟩ hP hD hS [0, 1, 2] [] rfl rfl (by decide) 0 rfl rfl rfl ⟨hl.2.1, hl.1⟩ rfl (Nat.le_of_ble_eq_true rfl) d_Scanner_takeClose_7 ⟨Nat.le_of_ble_eq_true rfl, Nat.le_of_ble_eq_true rfl⟩ rfl (fun u H locs hw hP hD hS => ?_)
  obtain ⟨q2, r_1⟩ := u
  have hP : va_P D classes [(h, .inr (4, [.ref tp, .ref ar, .ref f1, .ref f2, .ref rd, .int (bI em), .int (bI ob), .int (bI oa), .int (iI q2), .int (iI fr), .int (iI ex), .int (bI hp)])), (tp, .inr (3, [.ref ta, .int (iI n)])), (ta, .inl (E.2.1, 400, .inl (ia t)))] H := hP
  have hD : va_D A [(h, .inr (4, [.ref tp, .ref ar, .ref f1, .ref f2, .ref rd, .int (bI em), .int (bI ob), .int (bI oa), .int (iI q2), .int (iI fr), .int (iI ex), .int (bI hp)])), (tp, .inr (3, [.ref ta, .int (iI n)])), (ta, .inl (E.2.1, 400, .inl (ia t)))] := hD
  have hw : (r_1 = wdB t n (sk t n pos) 2) ∧ (q2 = wq t n (sk t n pos) 2) ∧ ((sk t n pos) ≤ q2 ∧ q2 ≤ n) := hw
  obtain ⟨hr_2, hqq, hq2_3⟩ := hw
  refine W.cs (g := F0 m 10 ls [.int (bI r_1)]) (cells' := 0) (slots' := 0) rfl rfl ?_
  subst hr_2
  exact ret (q2, wdB t n (sk t n pos) 2) _ _ _ _ d_Scanner_takeClose_10 (show ((wdB t n (sk t n pos) 2) = wdB t n (sk t n pos) 2) ∧ (q2 = wq t n (sk t n pos) 2) ∧ (pos ≤ q2 ∧ q2 ≤ n) from ⟨rfl, hqq, by omega⟩) (hP.sub [0, 1, 2] rfl) (hD.sub [0, 1, 2] (by decide) rfl) hS
set_option maxHeartbeats 4000000 in
set_option maxRecDepth 100000 in
theorem c_Scanner_takeInfinity (l : Launch) (D : va_G) (E : EVt) (h : Nat) (tp : Nat) (ar : Nat) (f1 : Nat) (f2 : Nat) (rd : Nat) (em : Bool) (ob : Bool) (oa : Bool) (pos : Int) (fr : Int) (ex : Int) (hp : Bool) (ta : Nat) (t : Int → Int) (n : Int) (i : Nat) (hn : 0 ≤ n ∧ n ≤ 400) (hT : Tx t n) (hpos : 0 ≤ pos ∧ pos ≤ n) (hi : i < 43) : CT l D classes (tyl E) (EVX E) y_Scanner_takeInfinity (Cond.code y_Scanner_takeInfinity b_Scanner_takeInfinity 2 (some .boolean) :: TB) (rmK 5 0 0 107) 0 0 [.ref h, .ref (E.2.2.1 i)] [(h, .inr (4, [.ref tp, .ref ar, .ref f1, .ref f2, .ref rd, .int (bI em), .int (bI ob), .int (bI oa), .int (iI pos), .int (iI fr), .int (iI ex), .int (bI hp)])), (tp, .inr (3, [.ref ta, .int (iI n)])), (ta, .inl (E.2.1, 400, .inl (ia t)))] (S := Int × Bool) (fun u => [(h, .inr (4, [.ref tp, .ref ar, .ref f1, .ref f2, .ref rd, .int (bI em), .int (bI ob), .int (bI oa), .int (iI u.1), .int (iI fr), .int (iI ex), .int (bI hp)])), (tp, .inr (3, [.ref ta, .int (iI n)])), (ta, .inl (E.2.1, 400, .inl (ia t)))]) (fun u => some (.int (bI u.2))) (fun u => (u.2 = wdB t n pos i) ∧ (u.1 = infq t n pos i) ∧ (pos ≤ u.1 ∧ u.1 ≤ n)) := by
  refine CT.ofz (fv := fun (u : Int × Bool) => u.2) (eok E) (by decide) rfl (Nat.le_of_ble_eq_true rfl) ?_
  intro p e s m args below meth c A Q ls B hmn hP hD hS hl ret
  have B : Bd l D classes (tyl E) (EVX E) p m c b_Scanner_takeInfinity 2 s args (Cond.code y_Scanner_takeInfinity b_Scanner_takeInfinity 2 (some .boolean) :: TB) R_Scanner A := B
  obtain ⟨⟨hx, hb, hml, hown, hts⟩, hX, hK, hE, hA⟩ := id B
  have hl : lv_has ls 2 [(0, .ref h), (1, .ref (E.2.2.1 i))] := hl
  have hP : va_P D classes [(h, .inr (4, [.ref tp, .ref ar, .ref f1, .ref f2, .ref rd, .int (bI em), .int (bI ob), .int (bI oa), .int (iI pos), .int (iI fr), .int (iI ex), .int (bI hp)])), (tp, .inr (3, [.ref ta, .int (iI n)])), (ta, .inl (E.2.1, 400, .inl (ia t)))] s.heap := hP
  have hD : va_D A [(h, .inr (4, [.ref tp, .ref ar, .ref f1, .ref f2, .ref rd, .int (bI em), .int (bI ob), .int (bI oa), .int (iI pos), .int (iI fr), .int (iI ex), .int (bI hp)])), (tp, .inr (3, [.ref ta, .int (iI n)])), (ta, .inl (E.2.1, 400, .inl (ia t)))] := hD
  refine lv_aload_n hx hb d_Scanner_takeInfinity_0 rfl (lv_at hl 0 rfl) ?_
  refine lv_aload_n hx hb d_Scanner_takeInfinity_1 rfl (lv_at hl 1 rfl) ?_
  refine wk_callV (As := [.ref (E.2.2.1 i)]) (rest := []) (wr := []) B gTB cl_Scanner_76 (c_Scanner_takeWord l D E h tp ar f1 f2 rd em ob oa pos fr ex hp ta t n i (by omega) (hT) (by omega) (by omega)) ⟨⟨rfl, rfl⟩, Nat.le_of_ble_eq_true rfl, Nat.le_of_ble_eq_true rfl⟩ hP hD hS [0, 1, 2] [] rfl rfl (by decide) 0 rfl rfl rfl ⟨hl.2.1, hl.1⟩ rfl (Nat.le_of_ble_eq_true rfl) d_Scanner_takeInfinity_2 ⟨Nat.le_of_ble_eq_true rfl, Nat.le_of_ble_eq_true rfl⟩ rfl (fun u H locs hw hP hD hS => ?_)
  obtain ⟨q1, r_1⟩ := u
  have hP : va_P D classes [(h, .inr (4, [.ref tp, .ref ar, .ref f1, .ref f2, .ref rd, .int (bI em), .int (bI ob), .int (bI oa), .int (iI q1), .int (iI fr), .int (iI ex), .int (bI hp)])), (tp, .inr (3, [.ref ta, .int (iI n)])), (ta, .inl (E.2.1, 400, .inl (ia t)))] H := hP
  have hD : va_D A [(h, .inr (4, [.ref tp, .ref ar, .ref f1, .ref f2, .ref rd, .int (bI em), .int (bI ob), .int (bI oa), .int (iI q1), .int (iI fr), .int (iI ex), .int (bI hp)])), (tp, .inr (3, [.ref ta, .int (iI n)])), (ta, .inl (E.2.1, 400, .inl (ia t)))] := hD
  have hw : (r_1 = wdB t n pos i) ∧ (q1 = wq t n pos i) ∧ (pos ≤ q1 ∧ q1 ≤ n) := hw
  obtain ⟨hr_2, hq1, hq12⟩ := hw
  refine W.cs (g := F0 m 5 ls [.int (bI r_1)]) (cells' := 0) (slots' := 0) rfl rfl ?_
  subst hr_2
  refine wb_if_ne (tgt := 10) hx hb d_Scanner_takeInfinity_5 (by decide) (fun c_3 => ?_) (fun c_3 => ?_)
  · skip
    rw [wq_t c_3] at hq1
    subst hq1
    refine lv_aload_n hx hb d_Scanner_takeInfinity_10 rfl (lv_at hl 0 rfl) ?_
    refine va_ldcS hx hb hown (hE.2.1 5 _ rfl) d_Scanner_takeInfinity_11 ?_
    refine wk_callV (As := [.ref (E.2.2.1 5)]) (rest := []) (wr := []) B gTB cl_Scanner_76 (c_Scanner_takeWord l D E h tp ar f1 f2 rd em ob oa (pos + (strLen i : Int)) fr ex hp ta t n 5 (by omega) (hT) (by omega) (by omega)) ⟨⟨rfl, rfl⟩, Nat.le_of_ble_eq_true rfl, Nat.le_of_ble_eq_true rfl⟩ hP hD hS [0, 1, 2] [] rfl rfl (by decide) 0 rfl rfl rfl ⟨hl.2.1, hl.1⟩ rfl (Nat.le_of_ble_eq_true rfl) d_Scanner_takeInfinity_13 ⟨Nat.le_of_ble_eq_true rfl, Nat.le_of_ble_eq_true rfl⟩ rfl (fun u H locs hw hP hD hS => ?_)
    obtain ⟨q2, r_4⟩ := u
    have hP : va_P D classes [(h, .inr (4, [.ref tp, .ref ar, .ref f1, .ref f2, .ref rd, .int (bI em), .int (bI ob), .int (bI oa), .int (iI q2), .int (iI fr), .int (iI ex), .int (bI hp)])), (tp, .inr (3, [.ref ta, .int (iI n)])), (ta, .inl (E.2.1, 400, .inl (ia t)))] H := hP
    have hD : va_D A [(h, .inr (4, [.ref tp, .ref ar, .ref f1, .ref f2, .ref rd, .int (bI em), .int (bI ob), .int (bI oa), .int (iI q2), .int (iI fr), .int (iI ex), .int (bI hp)])), (tp, .inr (3, [.ref ta, .int (iI n)])), (ta, .inl (E.2.1, 400, .inl (ia t)))] := hD
    have hw : (r_4 = wdB t n (pos + (strLen i : Int)) 5) ∧ (q2 = wq t n (pos + (strLen i : Int)) 5) ∧ ((pos + (strLen i : Int)) ≤ q2 ∧ q2 ≤ n) := hw
    obtain ⟨hr_5, hqq, hqq2⟩ := hw
    refine W.cs (g := F0 m 16 ls [.int (bI r_4)]) (cells' := 0) (slots' := 0) rfl rfl ?_
    subst hr_5
    refine lv_pop hx hb d_Scanner_takeInfinity_16 rfl ?_
    refine wi_iconst (n := 1) hx hb d_Scanner_takeInfinity_17 ?_
    refine w_as1 ?_
    exact ret (q2, true) _ _ _ _ d_Scanner_takeInfinity_18 (show (true = wdB t n pos i) ∧ (q2 = infq t n pos i) ∧ (pos ≤ q2 ∧ q2 ≤ n) from ⟨c_3.symm, by unfold infq; rw [c_3, if_pos rfl]; exact hqq, by omega⟩) (hP.sub [0, 1, 2] rfl) (hD.sub [0, 1, 2] (by decide) rfl) hS
  · skip
    rw [wq_f c_3] at hq1
    have hq1 := hq1.symm
    subst hq1
    refine wi_iconst (n := 0) hx hb d_Scanner_takeInfinity_8 ?_
    refine w_as0 ?_
    exact ret (pos, false) _ _ _ _ d_Scanner_takeInfinity_9 (show (false = wdB t n pos i) ∧ (pos = infq t n pos i) ∧ (pos ≤ pos ∧ pos ≤ n) from ⟨c_3.symm, by unfold infq; rw [c_3]; rfl, by omega⟩) (hP.sub [0, 1, 2] rfl) (hD.sub [0, 1, 2] (by decide) rfl) hS
set_option maxHeartbeats 4000000 in
set_option maxRecDepth 100000 in
theorem c_Scanner_isAtBracket (l : Launch) (D : va_G) (E : EVt) (h : Nat) (tp : Nat) (ar : Nat) (f1 : Nat) (f2 : Nat) (rd : Nat) (em : Bool) (ob : Bool) (oa : Bool) (pos : Int) (fr : Int) (ex : Int) (hp : Bool) (ta : Nat) (t : Int → Int) (n : Int) (hn : 0 ≤ n ∧ n ≤ 400) (hT : Tx t n) (hpos : 0 ≤ pos ∧ pos ≤ n) : CT l D classes (tyl E) (EVX E) y_Scanner_isAtBracket (Cond.code y_Scanner_isAtBracket b_Scanner_isAtBracket 1 (some .boolean) :: TB) (rmK 2 0 0 41) 0 0 [.ref h] [(h, .inr (4, [.ref tp, .ref ar, .ref f1, .ref f2, .ref rd, .int (bI em), .int (bI ob), .int (bI oa), .int (iI pos), .int (iI fr), .int (iI ex), .int (bI hp)])), (tp, .inr (3, [.ref ta, .int (iI n)])), (ta, .inl (E.2.1, 400, .inl (ia t)))] (S := Bool) (fun _ => [(h, .inr (4, [.ref tp, .ref ar, .ref f1, .ref f2, .ref rd, .int (bI em), .int (bI ob), .int (bI oa), .int (iI pos), .int (iI fr), .int (iI ex), .int (bI hp)])), (tp, .inr (3, [.ref ta, .int (iI n)])), (ta, .inl (E.2.1, 400, .inl (ia t)))]) (fun u => some (.int (bI u))) (fun u => (u = decide (rat t n pos = 91))) := by
  refine CT.ofz (fv := fun (u : Bool) => u) (eok E) (by decide) rfl (Nat.le_of_ble_eq_true rfl) ?_
  intro p e s m args below meth c A Q ls B hmn hP hD hS hl ret
  have B : Bd l D classes (tyl E) (EVX E) p m c b_Scanner_isAtBracket 1 s args (Cond.code y_Scanner_isAtBracket b_Scanner_isAtBracket 1 (some .boolean) :: TB) R_Scanner A := B
  obtain ⟨⟨hx, hb, hml, hown, hts⟩, hX, hK, hE, hA⟩ := id B
  have hl : lv_has ls 1 [(0, .ref h)] := hl
  have hP : va_P D classes [(h, .inr (4, [.ref tp, .ref ar, .ref f1, .ref f2, .ref rd, .int (bI em), .int (bI ob), .int (bI oa), .int (iI pos), .int (iI fr), .int (iI ex), .int (bI hp)])), (tp, .inr (3, [.ref ta, .int (iI n)])), (ta, .inl (E.2.1, 400, .inl (ia t)))] s.heap := hP
  have hD : va_D A [(h, .inr (4, [.ref tp, .ref ar, .ref f1, .ref f2, .ref rd, .int (bI em), .int (bI ob), .int (bI oa), .int (iI pos), .int (iI fr), .int (iI ex), .int (bI hp)])), (tp, .inr (3, [.ref ta, .int (iI n)])), (ta, .inl (E.2.1, 400, .inl (ia t)))] := hD
  have hrr := rat_rng hT pos
  refine lv_aload_n hx hb d_Scanner_isAtBracket_0 rfl (lv_at hl 0 rfl) ?_
  refine wk_callV (As := []) (rest := []) (wr := []) B gTB cl_Scanner_68 (c_Scanner_peek l D E h tp ar f1 f2 rd em ob oa pos fr ex hp ta t n (by omega) (hT) (by omega)) ⟨⟨rfl, rfl⟩, Nat.le_of_ble_eq_true rfl, Nat.le_of_ble_eq_true rfl⟩ hP hD hS [0, 1, 2] [] rfl rfl (by decide) 0 rfl rfl rfl ⟨hl.2.1, hl.1⟩ rfl (Nat.le_of_ble_eq_true rfl) d_Scanner_isAtBracket_1 ⟨Nat.le_of_ble_eq_true rfl, Nat.le_of_ble_eq_true rfl⟩ rfl (fun r_1 H locs hw hP hD hS => ?_)
  have hP : va_P D classes [(h, .inr (4, [.ref tp, .ref ar, .ref f1, .ref f2, .ref rd, .int (bI em), .int (bI ob), .int (bI oa), .int (iI pos), .int (iI fr), .int (iI ex), .int (bI hp)])), (tp, .inr (3, [.ref ta, .int (iI n)])), (ta, .inl (E.2.1, 400, .inl (ia t)))] H := hP
  have hD : va_D A [(h, .inr (4, [.ref tp, .ref ar, .ref f1, .ref f2, .ref rd, .int (bI em), .int (bI ob), .int (bI oa), .int (iI pos), .int (iI fr), .int (iI ex), .int (bI hp)])), (tp, .inr (3, [.ref ta, .int (iI n)])), (ta, .inl (E.2.1, 400, .inl (ia t)))] := hD
  have hw : (r_1 = rat t n pos) := hw
  have hr_2 := hw
  refine W.cs (g := F0 m 4 ls [.int (iI r_1)]) (cells' := 0) (slots' := 0) rfl rfl ?_
  subst hr_2
  refine wi_bipush hx hb d_Scanner_isAtBracket_4 (by decide) ?_
  refine wi_icmp_ne (tgt := 13) hx hb d_Scanner_isAtBracket_6 (by decide) (by omega) (by omega) (fun c_3 => ?_) (fun c_3 => ?_)
  · skip
    refine wi_iconst (n := 0) hx hb d_Scanner_isAtBracket_13 ?_
    refine w_as0 ?_
    exact ret false _ _ _ _ d_Scanner_isAtBracket_14 (show (false = decide (rat t n pos = 91)) from ((decide_eq_false (by omega)).symm)) (hP.sub [0, 1, 2] rfl) (hD.sub [0, 1, 2] (by decide) rfl) hS
  · skip
    refine wi_iconst (n := 1) hx hb d_Scanner_isAtBracket_9 ?_
    refine lv_goto (tgt := 14) hx hb d_Scanner_isAtBracket_10 (by decide) ?_
    refine w_as1 ?_
    exact ret true _ _ _ _ d_Scanner_isAtBracket_14 (show (true = decide (rat t n pos = 91)) from ((decide_eq_true (by omega)).symm)) (hP.sub [0, 1, 2] rfl) (hD.sub [0, 1, 2] (by decide) rfl) hS
set_option maxHeartbeats 4000000 in
set_option maxRecDepth 100000 in
theorem c_Scanner_start (l : Launch) (D : va_G) (E : EVt) (h : Nat) (tp : Nat) (ar : Nat) (f1 : Nat) (f2 : Nat) (rd : Nat) (em : Bool) (ob : Bool) (oa : Bool) (pos : Int) (fr : Int) (ex : Int) (hp : Bool) (ta : Nat) (t : Int → Int) (n : Int) (hn : 0 ≤ n ∧ n ≤ 400) (hT : Tx t n) : CT l D classes (tyl E) (EVX E) y_Scanner_start (Cond.code y_Scanner_start b_Scanner_start 1 none :: TB) (rmK 3 0 0 61) 0 0 [.ref h] [(h, .inr (4, [.ref tp, .ref ar, .ref f1, .ref f2, .ref rd, .int (bI em), .int (bI ob), .int (bI oa), .int (iI pos), .int (iI fr), .int (iI ex), .int (bI hp)])), (tp, .inr (3, [.ref ta, .int (iI n)])), (ta, .inl (E.2.1, 400, .inl (ia t)))] (S := Int × Int × (Int → Int)) (fun u => [(h, .inr (4, [.ref tp, .ref ar, .ref f1, .ref f2, .ref rd, .int (bI false), .int (bI false), .int (bI false), .int (iI u.1), .int (iI fr), .int (iI ex), .int (bI hp)])), (tp, .inr (3, [.ref ta, .int (iI u.2.1)])), (ta, .inl (E.2.1, 400, .inl (ia u.2.2)))]) (fun _ => none) (fun u => (LowT t u.2.2 n n) ∧ (u.2.1 = trR u.2.2 n) ∧ (0 ≤ u.2.1 ∧ u.2.1 ≤ n) ∧ (u.1 = sk u.2.2 u.2.1 0) ∧ (0 ≤ u.1 ∧ u.1 ≤ u.2.1)) := by
  refine CT.ofv (eok E) (by decide) rfl (Nat.le_of_ble_eq_true rfl) ?_
  intro p e s m args below meth c A Q ls B hmn hP hD hS hl ret
  have B : Bd l D classes (tyl E) (EVX E) p m c b_Scanner_start 1 s args (Cond.code y_Scanner_start b_Scanner_start 1 none :: TB) R_Scanner A := B
  obtain ⟨⟨hx, hb, hml, hown, hts⟩, hX, hK, hE, hA⟩ := id B
  have hl : lv_has ls 1 [(0, .ref h)] := hl
  have hP : va_P D classes [(h, .inr (4, [.ref tp, .ref ar, .ref f1, .ref f2, .ref rd, .int (bI em), .int (bI ob), .int (bI oa), .int (iI pos), .int (iI fr), .int (iI ex), .int (bI hp)])), (tp, .inr (3, [.ref ta, .int (iI n)])), (ta, .inl (E.2.1, 400, .inl (ia t)))] s.heap := hP
  have hD : va_D A [(h, .inr (4, [.ref tp, .ref ar, .ref f1, .ref f2, .ref rd, .int (bI em), .int (bI ob), .int (bI oa), .int (iI pos), .int (iI fr), .int (iI ex), .int (bI hp)])), (tp, .inr (3, [.ref ta, .int (iI n)])), (ta, .inl (E.2.1, 400, .inl (ia t)))] := hD
  have K_7 : ∀ (fuel7 : Nat) (n1 : Int) (t1 : Int → Int) (hlo : LowT t t1 n n) (hn1 : 0 ≤ n1 ∧ n1 ≤ n) (htr : trR t1 n = trR t1 n1) (hf7 : n1 < (fuel7 : Int)) (ls : Array Slot) (H : Heap) (locs : List Loc), lv_has ls 1 [(0, .ref h)] → va_P D classes [(h, .inr (4, [.ref tp, .ref ar, .ref f1, .ref f2, .ref rd, .int (bI em), .int (bI ob), .int (bI oa), .int (iI pos), .int (iI fr), .int (iI ex), .int (bI hp)])), (tp, .inr (3, [.ref ta, .int (iI n1)])), (ta, .inl (E.2.1, 400, .inl (ia t1)))] H → va_D A [(h, .inr (4, [.ref tp, .ref ar, .ref f1, .ref f2, .ref rd, .int (bI em), .int (bI ob), .int (bI oa), .int (iI pos), .int (iI fr), .int (iI ex), .int (bI hp)])), (tp, .inr (3, [.ref ta, .int (iI n1)])), (ta, .inl (E.2.1, 400, .inl (ia t1)))] → va_S A s.heap H locs → W p l e (rmK 3 0 0 61) s m args below meth c H locs 0 0 Q (F0 m 7 ls []) := by
    intro fuel7
    induction fuel7 with
    | zero =>
      intro n1 t1 hlo hn1 htr hf7 ls H locs hl hP hD hS
      exfalso; omega
    | succ fuel7 ih7 =>
      intro n1 t1 hlo hn1 htr hf7 ls H locs hl hP hD hS
      have hT1 := LowT_Tx hlo hT
      have hrr := rat_rng (Tx_sub hT1 hn1.2) (n1 - 1)
      refine lv_aload_n hx hb d_Scanner_start_7 rfl (lv_at hl 0 rfl) ?_
      refine wk_get B hP 0 rfl fl_Scanner_9 (v := .ref tp) rfl d_Scanner_start_8 ?_
      refine wk_get B hP 1 rfl fl_Scanner_41 (v := .int (iI n1)) rfl d_Scanner_start_11 ?_
      refine wi_if_le (tgt := 55) hx hb d_Scanner_start_14 (by decide) (by omega) (fun c_1 => ?_) (fun c_1 => ?_)
      · skip
        have hte := trR_e (t := t1) hn1.1 (by first | exact Or.inl (by omega) | (rw [rat_in (by omega)] at c_6; exact Or.inr c_6))
        refine lv_aload_n hx hb d_Scanner_start_55 rfl (lv_at hl 0 rfl) ?_
        refine wi_iconst (n := 0) hx hb d_Scanner_start_56 ?_
        refine wk_put B hP hD hS 0 rfl fl_Scanner_53 fp_Scanner_8 (v := .int (iI 0)) rfl rfl (Nat.le_of_ble_eq_true rfl) d_Scanner_start_57 (fun H locs hP hD hS => ?_)
        have hP : va_P D classes [(h, .inr (4, [.ref tp, .ref ar, .ref f1, .ref f2, .ref rd, .int (bI em), .int (bI ob), .int (bI oa), .int (iI 0), .int (iI fr), .int (iI ex), .int (bI hp)])), (tp, .inr (3, [.ref ta, .int (iI n1)])), (ta, .inl (E.2.1, 400, .inl (ia t1)))] H := hP
        have hD : va_D A [(h, .inr (4, [.ref tp, .ref ar, .ref f1, .ref f2, .ref rd, .int (bI em), .int (bI ob), .int (bI oa), .int (iI 0), .int (iI fr), .int (iI ex), .int (bI hp)])), (tp, .inr (3, [.ref ta, .int (iI n1)])), (ta, .inl (E.2.1, 400, .inl (ia t1)))] := hD
        refine lv_aload_n hx hb d_Scanner_start_60 rfl (lv_at hl 0 rfl) ?_
        refine wk_callV (As := []) (rest := []) (wr := []) B gTB cl_Scanner_55 (c_Scanner_takeBlanks l D E h tp ar f1 f2 rd em ob oa 0 fr ex hp ta t1 n1 (by omega) (Tx_sub hT1 hn1.2) (by omega)) ⟨⟨rfl, rfl⟩, Nat.le_of_ble_eq_true rfl, Nat.le_of_ble_eq_true rfl⟩ hP hD hS [0, 1, 2] [] rfl rfl (by decide) 0 rfl rfl rfl ⟨hl.2.1, hl.1⟩ rfl (Nat.le_of_ble_eq_true rfl) d_Scanner_start_61 ⟨Nat.le_of_ble_eq_true rfl, Nat.le_of_ble_eq_true rfl⟩ rfl (fun q9 H locs hw hP hD hS => ?_)
        have hP : va_P D classes [(h, .inr (4, [.ref tp, .ref ar, .ref f1, .ref f2, .ref rd, .int (bI em), .int (bI ob), .int (bI oa), .int (iI q9), .int (iI fr), .int (iI ex), .int (bI hp)])), (tp, .inr (3, [.ref ta, .int (iI n1)])), (ta, .inl (E.2.1, 400, .inl (ia t1)))] H := hP
        have hD : va_D A [(h, .inr (4, [.ref tp, .ref ar, .ref f1, .ref f2, .ref rd, .int (bI em), .int (bI ob), .int (bI oa), .int (iI q9), .int (iI fr), .int (iI ex), .int (bI hp)])), (tp, .inr (3, [.ref ta, .int (iI n1)])), (ta, .inl (E.2.1, 400, .inl (ia t1)))] := hD
        have hw : (q9 = sk t1 n1 0) ∧ (0 ≤ q9 ∧ q9 ≤ n1) := hw
        obtain ⟨hq9, hq92⟩ := hw
        refine W.cs (g := F0 m 64 ls []) (cells' := 0) (slots' := 0) rfl rfl ?_
        refine lv_aload_n hx hb d_Scanner_start_64 rfl (lv_at hl 0 rfl) ?_
        refine wi_iconst (n := 0) hx hb d_Scanner_start_65 ?_
        refine w_as0 ?_
        refine wk_put B hP hD hS 0 rfl fl_Scanner_58 fp_Scanner_5 (v := .int (bI false)) (bI_nar _) (bI_fit _) (Nat.le_of_ble_eq_true rfl) d_Scanner_start_66 (fun H locs hP hD hS => ?_)
        have hP : va_P D classes [(h, .inr (4, [.ref tp, .ref ar, .ref f1, .ref f2, .ref rd, .int (bI false), .int (bI ob), .int (bI oa), .int (iI q9), .int (iI fr), .int (iI ex), .int (bI hp)])), (tp, .inr (3, [.ref ta, .int (iI n1)])), (ta, .inl (E.2.1, 400, .inl (ia t1)))] H := hP
        have hD : va_D A [(h, .inr (4, [.ref tp, .ref ar, .ref f1, .ref f2, .ref rd, .int (bI false), .int (bI ob), .int (bI oa), .int (iI q9), .int (iI fr), .int (iI ex), .int (bI hp)])), (tp, .inr (3, [.ref ta, .int (iI n1)])), (ta, .inl (E.2.1, 400, .inl (ia t1)))] := hD
        refine lv_aload_n hx hb d_Scanner_start_69 rfl (lv_at hl 0 rfl) ?_
        refine wi_iconst (n := 0) hx hb d_Scanner_start_70 ?_
        refine w_as0 ?_
        refine wk_put B hP hD hS 0 rfl fl_Scanner_62 fp_Scanner_6 (v := .int (bI false)) (bI_nar _) (bI_fit _) (Nat.le_of_ble_eq_true rfl) d_Scanner_start_71 (fun H locs hP hD hS => ?_)
        have hP : va_P D classes [(h, .inr (4, [.ref tp, .ref ar, .ref f1, .ref f2, .ref rd, .int (bI false), .int (bI false), .int (bI oa), .int (iI q9), .int (iI fr), .int (iI ex), .int (bI hp)])), (tp, .inr (3, [.ref ta, .int (iI n1)])), (ta, .inl (E.2.1, 400, .inl (ia t1)))] H := hP
        have hD : va_D A [(h, .inr (4, [.ref tp, .ref ar, .ref f1, .ref f2, .ref rd, .int (bI false), .int (bI false), .int (bI oa), .int (iI q9), .int (iI fr), .int (iI ex), .int (bI hp)])), (tp, .inr (3, [.ref ta, .int (iI n1)])), (ta, .inl (E.2.1, 400, .inl (ia t1)))] := hD
        refine lv_aload_n hx hb d_Scanner_start_74 rfl (lv_at hl 0 rfl) ?_
        refine wi_iconst (n := 0) hx hb d_Scanner_start_75 ?_
        refine w_as0 ?_
        refine wk_put B hP hD hS 0 rfl fl_Scanner_65 fp_Scanner_7 (v := .int (bI false)) (bI_nar _) (bI_fit _) (Nat.le_of_ble_eq_true rfl) d_Scanner_start_76 (fun H locs hP hD hS => ?_)
        have hP : va_P D classes [(h, .inr (4, [.ref tp, .ref ar, .ref f1, .ref f2, .ref rd, .int (bI false), .int (bI false), .int (bI false), .int (iI q9), .int (iI fr), .int (iI ex), .int (bI hp)])), (tp, .inr (3, [.ref ta, .int (iI n1)])), (ta, .inl (E.2.1, 400, .inl (ia t1)))] H := hP
        have hD : va_D A [(h, .inr (4, [.ref tp, .ref ar, .ref f1, .ref f2, .ref rd, .int (bI false), .int (bI false), .int (bI false), .int (iI q9), .int (iI fr), .int (iI ex), .int (bI hp)])), (tp, .inr (3, [.ref ta, .int (iI n1)])), (ta, .inl (E.2.1, 400, .inl (ia t1)))] := hD
        exact ret (q9, n1, t1) _ _ _ _ d_Scanner_start_79 (show (LowT t t1 n n) ∧ (n1 = trR t1 n) ∧ (0 ≤ n1 ∧ n1 ≤ n) ∧ (q9 = sk t1 n1 0) ∧ (0 ≤ q9 ∧ q9 ≤ n1) from ⟨hlo, by rw [htr, hte], by omega, hq9, by omega⟩) (hP.sub [0, 1, 2] rfl) (hD.sub [0, 1, 2] (by decide) rfl) hS
      · skip
        refine lv_aload_n hx hb d_Scanner_start_17 rfl (lv_at hl 0 rfl) ?_
        refine wk_get B hP 0 rfl fl_Scanner_9 (v := .ref tp) rfl d_Scanner_start_18 ?_
        refine lv_aload_n hx hb d_Scanner_start_21 rfl (lv_at hl 0 rfl) ?_
        refine wk_get B hP 0 rfl fl_Scanner_9 (v := .ref tp) rfl d_Scanner_start_22 ?_
        refine wk_get B hP 1 rfl fl_Scanner_41 (v := .int (iI n1)) rfl d_Scanner_start_25 ?_
        refine wi_iconst (n := 1) hx hb d_Scanner_start_28 ?_
        refine wi_isub hx hb d_Scanner_start_29 ?_
        refine wk_callV (As := [.int (iI (n1 - 1))]) (rest := []) (wr := [(h, .inr (4, [.ref tp, .ref ar, .ref f1, .ref f2, .ref rd, .int (bI em), .int (bI ob), .int (bI oa), .int (iI pos), .int (iI fr), .int (iI ex), .int (bI hp)]))]) B gTB cl_Scanner_45 (c_Row_at l D E tp ta 400 t1 n1 (n1 - 1) (by omega) (by omega) (by omega)) ⟨⟨rfl, rfl⟩, Nat.le_of_ble_eq_true rfl, Nat.le_of_ble_eq_true rfl⟩ hP hD hS [1, 2] [0] rfl rfl (by decide) 1 rfl rfl rfl ⟨hl.2.1, hl.1⟩ rfl (Nat.le_of_ble_eq_true rfl) d_Scanner_start_30 ⟨Nat.le_of_ble_eq_true rfl, Nat.le_of_ble_eq_true rfl⟩ rfl (fun r_2 H locs hw hP hD hS => ?_)
        have hP : va_P D classes [(h, .inr (4, [.ref tp, .ref ar, .ref f1, .ref f2, .ref rd, .int (bI em), .int (bI ob), .int (bI oa), .int (iI pos), .int (iI fr), .int (iI ex), .int (bI hp)])), (tp, .inr (3, [.ref ta, .int (iI n1)])), (ta, .inl (E.2.1, 400, .inl (ia t1)))] H := hP
        have hD : va_D A [(h, .inr (4, [.ref tp, .ref ar, .ref f1, .ref f2, .ref rd, .int (bI em), .int (bI ob), .int (bI oa), .int (iI pos), .int (iI fr), .int (iI ex), .int (bI hp)])), (tp, .inr (3, [.ref ta, .int (iI n1)])), (ta, .inl (E.2.1, 400, .inl (ia t1)))] := hD
        have hw : (r_2 = rat t1 n1 (n1 - 1)) := hw
        have hr_3 := hw
        refine W.cs (g := F0 m 33 ls [.int (iI r_2)]) (cells' := 0) (slots' := 0) rfl rfl ?_
        subst hr_3
        refine wk_callS (As := [.int (iI (rat t1 n1 (n1 - 1)))]) (rest := []) (wr := [(h, .inr (4, [.ref tp, .ref ar, .ref f1, .ref f2, .ref rd, .int (bI em), .int (bI ob), .int (bI oa), .int (iI pos), .int (iI fr), .int (iI ex), .int (bI hp)])), (tp, .inr (3, [.ref ta, .int (iI n1)])), (ta, .inl (E.2.1, 400, .inl (ia t1)))]) B gTB cl_Scanner_49 (c_Scanner_isBlank l D E (rat t1 n1 (n1 - 1)) (by omega)) ⟨⟨rfl, rfl⟩, Nat.le_of_ble_eq_true rfl, Nat.le_of_ble_eq_true rfl⟩ hP hD hS [] [0, 1, 2] rfl rfl (by decide) ⟨hl.2.1, hl.1⟩ rfl (Nat.le_of_ble_eq_true rfl) d_Scanner_start_33 ⟨Nat.le_of_ble_eq_true rfl, Nat.le_of_ble_eq_true rfl⟩ rfl (fun r_4 H locs hw hP hD hS => ?_)
        have hP : va_P D classes [(h, .inr (4, [.ref tp, .ref ar, .ref f1, .ref f2, .ref rd, .int (bI em), .int (bI ob), .int (bI oa), .int (iI pos), .int (iI fr), .int (iI ex), .int (bI hp)])), (tp, .inr (3, [.ref ta, .int (iI n1)])), (ta, .inl (E.2.1, 400, .inl (ia t1)))] H := hP
        have hD : va_D A [(h, .inr (4, [.ref tp, .ref ar, .ref f1, .ref f2, .ref rd, .int (bI em), .int (bI ob), .int (bI oa), .int (iI pos), .int (iI fr), .int (iI ex), .int (bI hp)])), (tp, .inr (3, [.ref ta, .int (iI n1)])), (ta, .inl (E.2.1, 400, .inl (ia t1)))] := hD
        have hw : (r_4 = blk (rat t1 n1 (n1 - 1))) := hw
        have hr_5 := hw
        refine W.cs (g := F0 m 36 ls [.int (bI r_4)]) (cells' := 0) (slots' := 0) rfl rfl ?_
        subst hr_5
        refine wb_if_eq (tgt := 55) hx hb d_Scanner_start_36 (by decide) (fun c_6 => ?_) (fun c_6 => ?_)
        · skip
          have hte := trR_e (t := t1) hn1.1 (by first | exact Or.inl (by omega) | (rw [rat_in (by omega)] at c_6; exact Or.inr c_6))
          refine lv_aload_n hx hb d_Scanner_start_55 rfl (lv_at hl 0 rfl) ?_
          refine wi_iconst (n := 0) hx hb d_Scanner_start_56 ?_
          refine wk_put B hP hD hS 0 rfl fl_Scanner_53 fp_Scanner_8 (v := .int (iI 0)) rfl rfl (Nat.le_of_ble_eq_true rfl) d_Scanner_start_57 (fun H locs hP hD hS => ?_)
          have hP : va_P D classes [(h, .inr (4, [.ref tp, .ref ar, .ref f1, .ref f2, .ref rd, .int (bI em), .int (bI ob), .int (bI oa), .int (iI 0), .int (iI fr), .int (iI ex), .int (bI hp)])), (tp, .inr (3, [.ref ta, .int (iI n1)])), (ta, .inl (E.2.1, 400, .inl (ia t1)))] H := hP
          have hD : va_D A [(h, .inr (4, [.ref tp, .ref ar, .ref f1, .ref f2, .ref rd, .int (bI em), .int (bI ob), .int (bI oa), .int (iI 0), .int (iI fr), .int (iI ex), .int (bI hp)])), (tp, .inr (3, [.ref ta, .int (iI n1)])), (ta, .inl (E.2.1, 400, .inl (ia t1)))] := hD
          refine lv_aload_n hx hb d_Scanner_start_60 rfl (lv_at hl 0 rfl) ?_
          refine wk_callV (As := []) (rest := []) (wr := []) B gTB cl_Scanner_55 (c_Scanner_takeBlanks l D E h tp ar f1 f2 rd em ob oa 0 fr ex hp ta t1 n1 (by omega) (Tx_sub hT1 hn1.2) (by omega)) ⟨⟨rfl, rfl⟩, Nat.le_of_ble_eq_true rfl, Nat.le_of_ble_eq_true rfl⟩ hP hD hS [0, 1, 2] [] rfl rfl (by decide) 0 rfl rfl rfl ⟨hl.2.1, hl.1⟩ rfl (Nat.le_of_ble_eq_true rfl) d_Scanner_start_61 ⟨Nat.le_of_ble_eq_true rfl, Nat.le_of_ble_eq_true rfl⟩ rfl (fun q9 H locs hw hP hD hS => ?_)
          have hP : va_P D classes [(h, .inr (4, [.ref tp, .ref ar, .ref f1, .ref f2, .ref rd, .int (bI em), .int (bI ob), .int (bI oa), .int (iI q9), .int (iI fr), .int (iI ex), .int (bI hp)])), (tp, .inr (3, [.ref ta, .int (iI n1)])), (ta, .inl (E.2.1, 400, .inl (ia t1)))] H := hP
          have hD : va_D A [(h, .inr (4, [.ref tp, .ref ar, .ref f1, .ref f2, .ref rd, .int (bI em), .int (bI ob), .int (bI oa), .int (iI q9), .int (iI fr), .int (iI ex), .int (bI hp)])), (tp, .inr (3, [.ref ta, .int (iI n1)])), (ta, .inl (E.2.1, 400, .inl (ia t1)))] := hD
          have hw : (q9 = sk t1 n1 0) ∧ (0 ≤ q9 ∧ q9 ≤ n1) := hw
          obtain ⟨hq9, hq92⟩ := hw
          refine W.cs (g := F0 m 64 ls []) (cells' := 0) (slots' := 0) rfl rfl ?_
          refine lv_aload_n hx hb d_Scanner_start_64 rfl (lv_at hl 0 rfl) ?_
          refine wi_iconst (n := 0) hx hb d_Scanner_start_65 ?_
          refine w_as0 ?_
          refine wk_put B hP hD hS 0 rfl fl_Scanner_58 fp_Scanner_5 (v := .int (bI false)) (bI_nar _) (bI_fit _) (Nat.le_of_ble_eq_true rfl) d_Scanner_start_66 (fun H locs hP hD hS => ?_)
          have hP : va_P D classes [(h, .inr (4, [.ref tp, .ref ar, .ref f1, .ref f2, .ref rd, .int (bI false), .int (bI ob), .int (bI oa), .int (iI q9), .int (iI fr), .int (iI ex), .int (bI hp)])), (tp, .inr (3, [.ref ta, .int (iI n1)])), (ta, .inl (E.2.1, 400, .inl (ia t1)))] H := hP
          have hD : va_D A [(h, .inr (4, [.ref tp, .ref ar, .ref f1, .ref f2, .ref rd, .int (bI false), .int (bI ob), .int (bI oa), .int (iI q9), .int (iI fr), .int (iI ex), .int (bI hp)])), (tp, .inr (3, [.ref ta, .int (iI n1)])), (ta, .inl (E.2.1, 400, .inl (ia t1)))] := hD
          refine lv_aload_n hx hb d_Scanner_start_69 rfl (lv_at hl 0 rfl) ?_
          refine wi_iconst (n := 0) hx hb d_Scanner_start_70 ?_
          refine w_as0 ?_
          refine wk_put B hP hD hS 0 rfl fl_Scanner_62 fp_Scanner_6 (v := .int (bI false)) (bI_nar _) (bI_fit _) (Nat.le_of_ble_eq_true rfl) d_Scanner_start_71 (fun H locs hP hD hS => ?_)
          have hP : va_P D classes [(h, .inr (4, [.ref tp, .ref ar, .ref f1, .ref f2, .ref rd, .int (bI false), .int (bI false), .int (bI oa), .int (iI q9), .int (iI fr), .int (iI ex), .int (bI hp)])), (tp, .inr (3, [.ref ta, .int (iI n1)])), (ta, .inl (E.2.1, 400, .inl (ia t1)))] H := hP
          have hD : va_D A [(h, .inr (4, [.ref tp, .ref ar, .ref f1, .ref f2, .ref rd, .int (bI false), .int (bI false), .int (bI oa), .int (iI q9), .int (iI fr), .int (iI ex), .int (bI hp)])), (tp, .inr (3, [.ref ta, .int (iI n1)])), (ta, .inl (E.2.1, 400, .inl (ia t1)))] := hD
          refine lv_aload_n hx hb d_Scanner_start_74 rfl (lv_at hl 0 rfl) ?_
          refine wi_iconst (n := 0) hx hb d_Scanner_start_75 ?_
          refine w_as0 ?_
          refine wk_put B hP hD hS 0 rfl fl_Scanner_65 fp_Scanner_7 (v := .int (bI false)) (bI_nar _) (bI_fit _) (Nat.le_of_ble_eq_true rfl) d_Scanner_start_76 (fun H locs hP hD hS => ?_)
          have hP : va_P D classes [(h, .inr (4, [.ref tp, .ref ar, .ref f1, .ref f2, .ref rd, .int (bI false), .int (bI false), .int (bI false), .int (iI q9), .int (iI fr), .int (iI ex), .int (bI hp)])), (tp, .inr (3, [.ref ta, .int (iI n1)])), (ta, .inl (E.2.1, 400, .inl (ia t1)))] H := hP
          have hD : va_D A [(h, .inr (4, [.ref tp, .ref ar, .ref f1, .ref f2, .ref rd, .int (bI false), .int (bI false), .int (bI false), .int (iI q9), .int (iI fr), .int (iI ex), .int (bI hp)])), (tp, .inr (3, [.ref ta, .int (iI n1)])), (ta, .inl (E.2.1, 400, .inl (ia t1)))] := hD
          exact ret (q9, n1, t1) _ _ _ _ d_Scanner_start_79 (show (LowT t t1 n n) ∧ (n1 = trR t1 n) ∧ (0 ≤ n1 ∧ n1 ≤ n) ∧ (q9 = sk t1 n1 0) ∧ (0 ≤ q9 ∧ q9 ≤ n1) from ⟨hlo, by rw [htr, hte], by omega, hq9, by omega⟩) (hP.sub [0, 1, 2] rfl) (hD.sub [0, 1, 2] (by decide) rfl) hS
        · skip
          refine lv_aload_n hx hb d_Scanner_start_39 rfl (lv_at hl 0 rfl) ?_
          refine wk_get B hP 0 rfl fl_Scanner_9 (v := .ref tp) rfl d_Scanner_start_40 ?_
          refine lv_dup hx hb d_Scanner_start_43 rfl ?_
          refine wk_get B hP 1 rfl fl_Scanner_41 (v := .int (iI n1)) rfl d_Scanner_start_44 ?_
          refine wi_iconst (n := 1) hx hb d_Scanner_start_47 ?_
          refine wi_isub hx hb d_Scanner_start_48 ?_
          refine wk_put B hP hD hS 1 rfl fl_Scanner_41 fp_Row_1 (v := .int (iI (n1 - 1))) rfl rfl (Nat.le_of_ble_eq_true rfl) d_Scanner_start_49 (fun H locs hP hD hS => ?_)
          have hP : va_P D classes [(h, .inr (4, [.ref tp, .ref ar, .ref f1, .ref f2, .ref rd, .int (bI em), .int (bI ob), .int (bI oa), .int (iI pos), .int (iI fr), .int (iI ex), .int (bI hp)])), (tp, .inr (3, [.ref ta, .int (iI (n1 - 1))])), (ta, .inl (E.2.1, 400, .inl (ia t1)))] H := hP
          have hD : va_D A [(h, .inr (4, [.ref tp, .ref ar, .ref f1, .ref f2, .ref rd, .int (bI em), .int (bI ob), .int (bI oa), .int (iI pos), .int (iI fr), .int (iI ex), .int (bI hp)])), (tp, .inr (3, [.ref ta, .int (iI (n1 - 1))])), (ta, .inl (E.2.1, 400, .inl (ia t1)))] := hD
          refine lv_goto (tgt := 7) hx hb d_Scanner_start_52 (by decide) ?_
          exact ih7 (n1 - 1) t1 (hlo) (by omega) (by rw [htr]; exact trR_s (by omega) (by rw [rat_in (by omega)] at c_6; exact c_6)) (by omega) _ _ _ (lv_sub hl [0] rfl) (hP.sub [0, 1, 2] rfl) (hD.sub [0, 1, 2] (by decide) rfl) hS
  refine lv_aload_n hx hb d_Scanner_start_0 rfl (lv_at hl 0 rfl) ?_
  refine wk_get B hP 0 rfl fl_Scanner_9 (v := .ref tp) rfl d_Scanner_start_1 ?_
  refine wk_callV (As := []) (rest := []) (wr := [(h, .inr (4, [.ref tp, .ref ar, .ref f1, .ref f2, .ref rd, .int (bI em), .int (bI ob), .int (bI oa), .int (iI pos), .int (iI fr), .int (iI ex), .int (bI hp)]))]) B gTB cl_Scanner_36 (c_Row_toLowerCase l D E tp ta 400 t n (by omega) (by omega) (hT)) ⟨⟨rfl, rfl⟩, Nat.le_of_ble_eq_true rfl, Nat.le_of_ble_eq_true rfl⟩ hP hD hS [1, 2] [0] rfl rfl (by decide) 1 rfl rfl rfl ⟨hl.2.1, hl.1⟩ rfl (Nat.le_of_ble_eq_true rfl) d_Scanner_start_4 ⟨Nat.le_of_ble_eq_true rfl, Nat.le_of_ble_eq_true rfl⟩ rfl (fun tl H locs hw hP hD hS => ?_)
  have hP : va_P D classes [(h, .inr (4, [.ref tp, .ref ar, .ref f1, .ref f2, .ref rd, .int (bI em), .int (bI ob), .int (bI oa), .int (iI pos), .int (iI fr), .int (iI ex), .int (bI hp)])), (tp, .inr (3, [.ref ta, .int (iI n)])), (ta, .inl (E.2.1, 400, .inl (ia tl)))] H := hP
  have hD : va_D A [(h, .inr (4, [.ref tp, .ref ar, .ref f1, .ref f2, .ref rd, .int (bI em), .int (bI ob), .int (bI oa), .int (iI pos), .int (iI fr), .int (iI ex), .int (bI hp)])), (tp, .inr (3, [.ref ta, .int (iI n)])), (ta, .inl (E.2.1, 400, .inl (ia tl)))] := hD
  have hw : (LowT t tl n n) := hw
  have hlow := hw
  refine W.cs (g := F0 m 7 ls []) (cells' := 0) (slots' := 0) rfl rfl ?_
  exact K_7 ((n : Int).toNat + 1) n tl (hlow) (by omega) (rfl) (by omega) _ _ _ (lv_sub hl [0] rfl) (hP.sub [0, 1, 2] rfl) (hD.sub [0, 1, 2] (by decide) rfl) hS
set_option maxHeartbeats 4000000 in
set_option maxRecDepth 100000 in
theorem c_Scanner_takeMark (l : Launch) (D : va_G) (E : EVt) (h : Nat) (tp : Nat) (ar : Nat) (f1 : Nat) (f2 : Nat) (rd : Nat) (em : Bool) (ob : Bool) (oa : Bool) (pos : Int) (fr : Int) (ex : Int) (hp : Bool) (ta : Nat) (t : Int → Int) (n : Int) (hn : 0 ≤ n ∧ n ≤ 400) (hT : Tx t n) (hpos : 0 ≤ pos ∧ pos ≤ n) : CT l D classes (tyl E) (EVX E) y_Scanner_takeMark (Cond.code y_Scanner_takeMark b_Scanner_takeMark 3 (some .int) :: TB) (rmK 5 0 0 107) 0 0 [.ref h] [(h, .inr (4, [.ref tp, .ref ar, .ref f1, .ref f2, .ref rd, .int (bI em), .int (bI ob), .int (bI oa), .int (iI pos), .int (iI fr), .int (iI ex), .int (bI hp)])), (tp, .inr (3, [.ref ta, .int (iI n)])), (ta, .inl (E.2.1, 400, .inl (ia t)))] (S := Int × Int) (fun u => [(h, .inr (4, [.ref tp, .ref ar, .ref f1, .ref f2, .ref rd, .int (bI em), .int (bI ob), .int (bI oa), .int (iI u.1), .int (iI fr), .int (iI ex), .int (bI hp)])), (tp, .inr (3, [.ref ta, .int (iI n)])), (ta, .inl (E.2.1, 400, .inl (ia t)))]) (fun u => some (.int (iI u.2))) (fun u => (u.2 = MARK t n pos (strong em ob oa)) ∧ (0 ≤ u.2 ∧ u.2 ≤ 4) ∧ (pos ≤ u.1 ∧ u.1 ≤ n)) := by
  refine CT.ofi (fv := fun (u : Int × Int) => u.2) (eok E) (by decide) rfl (Nat.le_of_ble_eq_true rfl) ?_
  intro p e s m args below meth c A Q ls B hmn hP hD hS hl ret
  have B : Bd l D classes (tyl E) (EVX E) p m c b_Scanner_takeMark 3 s args (Cond.code y_Scanner_takeMark b_Scanner_takeMark 3 (some .int) :: TB) R_Scanner A := B
  obtain ⟨⟨hx, hb, hml, hown, hts⟩, hX, hK, hE, hA⟩ := id B
  have hl : lv_has ls 3 [(0, .ref h)] := hl
  have hP : va_P D classes [(h, .inr (4, [.ref tp, .ref ar, .ref f1, .ref f2, .ref rd, .int (bI em), .int (bI ob), .int (bI oa), .int (iI pos), .int (iI fr), .int (iI ex), .int (bI hp)])), (tp, .inr (3, [.ref ta, .int (iI n)])), (ta, .inl (E.2.1, 400, .inl (ia t)))] s.heap := hP
  have hD : va_D A [(h, .inr (4, [.ref tp, .ref ar, .ref f1, .ref f2, .ref rd, .int (bI em), .int (bI ob), .int (bI oa), .int (iI pos), .int (iI fr), .int (iI ex), .int (bI hp)])), (tp, .inr (3, [.ref ta, .int (iI n)])), (ta, .inl (E.2.1, 400, .inl (ia t)))] := hD
  have K_49 : ∀ (fuel49 : Nat) (k : Int) (st9 : Int) (hst : st9 = strong em ob oa) (hs4 : 1 ≤ st9 ∧ st9 ≤ 4) (hk : 1 ≤ k ∧ k ≤ st9 + 1) (hne : pos ≠ n) (hmF : MARK t n pos (strong em ob oa) = mkF t n pos (st9 + 1 - k).toNat k) (hf49 : st9 + 1 - k < (fuel49 : Int)) (ls : Array Slot) (H : Heap) (locs : List Loc), lv_has ls 3 [(0, .ref h), (1, .int (iI st9)), (2, .int (iI k))] → va_P D classes [(h, .inr (4, [.ref tp, .ref ar, .ref f1, .ref f2, .ref rd, .int (bI em), .int (bI ob), .int (bI oa), .int (iI pos), .int (iI fr), .int (iI ex), .int (bI hp)])), (tp, .inr (3, [.ref ta, .int (iI n)])), (ta, .inl (E.2.1, 400, .inl (ia t)))] H → va_D A [(h, .inr (4, [.ref tp, .ref ar, .ref f1, .ref f2, .ref rd, .int (bI em), .int (bI ob), .int (bI oa), .int (iI pos), .int (iI fr), .int (iI ex), .int (bI hp)])), (tp, .inr (3, [.ref ta, .int (iI n)])), (ta, .inl (E.2.1, 400, .inl (ia t)))] → va_S A s.heap H locs → W p l e (rmK 5 0 0 107) s m args below meth c H locs 0 0 Q (F0 m 49 ls []) := by
    intro fuel49
    induction fuel49 with
    | zero =>
      intro k st9 hst hs4 hk hne hmF hf49 ls H locs hl hP hD hS
      exfalso; omega
    | succ fuel49 ih49 =>
      intro k st9 hst hs4 hk hne hmF hf49 ls H locs hl hP hD hS
      refine lv_iload_n hx hb d_Scanner_takeMark_49 rfl (lv_at hl 2 rfl) ?_
      refine lv_iload_n hx hb d_Scanner_takeMark_50 rfl (lv_at hl 1 rfl) ?_
      refine wi_icmp_gt (tgt := 91) hx hb d_Scanner_takeMark_51 (by decide) (by omega) (by omega) (fun c_1 => ?_) (fun c_1 => ?_)
      · skip
        refine wi_iconst (n := 0) hx hb d_Scanner_takeMark_91 ?_
        exact ret (pos, 0) _ _ _ _ d_Scanner_takeMark_92 (show (0 = MARK t n pos (strong em ob oa)) ∧ (0 ≤ 0 ∧ 0 ≤ 4) ∧ (pos ≤ pos ∧ pos ≤ n) from ⟨by rw [hmF, mkF_e (by omega)], by omega, by omega⟩) (hP.sub [0, 1, 2] rfl) (hD.sub [0, 1, 2] (by decide) rfl) hS
      · skip
        refine lv_aload_n hx hb d_Scanner_takeMark_54 rfl (lv_at hl 0 rfl) ?_
        refine lv_iload_n hx hb d_Scanner_takeMark_55 rfl (lv_at hl 2 rfl) ?_
        refine wk_callSN (As := [.int (iI k)]) (rest := [.ref h]) (wr := [(h, .inr (4, [.ref tp, .ref ar, .ref f1, .ref f2, .ref rd, .int (bI em), .int (bI ob), .int (bI oa), .int (iI pos), .int (iI fr), .int (iI ex), .int (bI hp)])), (tp, .inr (3, [.ref ta, .int (iI n)])), (ta, .inl (E.2.1, 400, .inl (ia t)))]) B gTB (hE.1 _ (List.mem_of_getElem? (l := nestWs) (i := 1) rfl)) cl_Scanner_72 (c_IT_markText l D E k (by omega)) ⟨⟨rfl, rfl⟩, Nat.le_of_ble_eq_true rfl, Nat.le_of_ble_eq_true rfl⟩ hP hD hS [] [0, 1, 2] rfl rfl (by decide) ⟨hl.2.1, hl.1⟩ rfl (Nat.le_of_ble_eq_true rfl) d_Scanner_takeMark_56 ⟨Nat.le_of_ble_eq_true rfl, Nat.le_of_ble_eq_true rfl⟩ rfl (fun r_2 H locs hw hP hD hS => ?_)
        have hP : va_P D classes [(h, .inr (4, [.ref tp, .ref ar, .ref f1, .ref f2, .ref rd, .int (bI em), .int (bI ob), .int (bI oa), .int (iI pos), .int (iI fr), .int (iI ex), .int (bI hp)])), (tp, .inr (3, [.ref ta, .int (iI n)])), (ta, .inl (E.2.1, 400, .inl (ia t)))] H := hP
        have hD : va_D A [(h, .inr (4, [.ref tp, .ref ar, .ref f1, .ref f2, .ref rd, .int (bI em), .int (bI ob), .int (bI oa), .int (iI pos), .int (iI fr), .int (iI ex), .int (bI hp)])), (tp, .inr (3, [.ref ta, .int (iI n)])), (ta, .inl (E.2.1, 400, .inl (ia t)))] := hD
        have hw : (r_2 = E.2.2.1 (mkI k)) := hw
        have hr_3 := hw
        refine W.cs (g := F0 m 59 ls [.ref r_2, .ref h]) (cells' := 0) (slots' := 0) rfl rfl ?_
        subst hr_3
        refine wk_callV (As := [.ref (E.2.2.1 (mkI k))]) (rest := []) (wr := []) B gTB cl_Scanner_76 (c_Scanner_takeWord l D E h tp ar f1 f2 rd em ob oa pos fr ex hp ta t n (mkI k) (by omega) (hT) (by omega) (mkI_lt _)) ⟨⟨rfl, rfl⟩, Nat.le_of_ble_eq_true rfl, Nat.le_of_ble_eq_true rfl⟩ hP hD hS [0, 1, 2] [] rfl rfl (by decide) 0 rfl rfl rfl ⟨hl.2.1, hl.1⟩ rfl (Nat.le_of_ble_eq_true rfl) d_Scanner_takeMark_59 ⟨Nat.le_of_ble_eq_true rfl, Nat.le_of_ble_eq_true rfl⟩ rfl (fun u H locs hw hP hD hS => ?_)
        obtain ⟨qm, r_4⟩ := u
        have hP : va_P D classes [(h, .inr (4, [.ref tp, .ref ar, .ref f1, .ref f2, .ref rd, .int (bI em), .int (bI ob), .int (bI oa), .int (iI qm), .int (iI fr), .int (iI ex), .int (bI hp)])), (tp, .inr (3, [.ref ta, .int (iI n)])), (ta, .inl (E.2.1, 400, .inl (ia t)))] H := hP
        have hD : va_D A [(h, .inr (4, [.ref tp, .ref ar, .ref f1, .ref f2, .ref rd, .int (bI em), .int (bI ob), .int (bI oa), .int (iI qm), .int (iI fr), .int (iI ex), .int (bI hp)])), (tp, .inr (3, [.ref ta, .int (iI n)])), (ta, .inl (E.2.1, 400, .inl (ia t)))] := hD
        have hw : (r_4 = wdB t n pos (mkI k)) ∧ (qm = wq t n pos (mkI k)) ∧ (pos ≤ qm ∧ qm ≤ n) := hw
        obtain ⟨hr_5, hqm, hqm2⟩ := hw
        refine W.cs (g := F0 m 62 ls [.int (bI r_4)]) (cells' := 0) (slots' := 0) rfl rfl ?_
        subst hr_5
        refine wb_if_eq (tgt := 85) hx hb d_Scanner_takeMark_62 (by decide) (fun c_6 => ?_) (fun c_6 => ?_)
        · skip
          rw [wq_f c_6] at hqm
          have hqm := hqm.symm
          subst hqm
          refine wi_iinc (v := k + 1) (lv' := [(2, .int (iI (k + 1))), (0, .ref h), (1, .int (iI st9))]) hx hb d_Scanner_takeMark_85 hl (k := 2) rfl rfl (by decide) rfl (fun ls hl => ?_)
          refine lv_goto (tgt := 49) hx hb d_Scanner_takeMark_88 (by decide) ?_
          exact ih49 (k + 1) st9 (hst) (hs4) (by omega) (hne) (by rw [hmF, mkF_s (by omega), c_6]; rfl) (by omega) _ _ _ (lv_sub hl [1, 2, 0] rfl) (hP.sub [0, 1, 2] rfl) (hD.sub [0, 1, 2] (by decide) rfl) hS
        · skip
          rw [wq_t c_6] at hqm
          subst hqm
          have hl4 := mkI_len k
          refine lv_aload_n hx hb d_Scanner_takeMark_65 rfl (lv_at hl 0 rfl) ?_
          refine wk_get B hP 0 rfl fl_Scanner_53 (v := .int (iI (pos + (strLen (mkI k) : Int)))) rfl d_Scanner_takeMark_66 ?_
          refine lv_aload_n hx hb d_Scanner_takeMark_69 rfl (lv_at hl 0 rfl) ?_
          refine wk_get B hP 0 rfl fl_Scanner_9 (v := .ref tp) rfl d_Scanner_takeMark_70 ?_
          refine wk_get B hP 1 rfl fl_Scanner_41 (v := .int (iI n)) rfl d_Scanner_takeMark_73 ?_
          refine wi_icmp_ne (tgt := 83) hx hb d_Scanner_takeMark_76 (by decide) (by omega) (by omega) (fun c_7 => ?_) (fun c_7 => ?_)
          · skip
            refine wi_iconst (n := 0) hx hb d_Scanner_takeMark_83 ?_
            exact ret (pos + (strLen (mkI k) : Int), 0) _ _ _ _ d_Scanner_takeMark_84 (show (0 = MARK t n pos (strong em ob oa)) ∧ (0 ≤ 0 ∧ 0 ≤ 4) ∧ (pos ≤ (pos + (strLen (mkI k) : Int)) ∧ (pos + (strLen (mkI k) : Int)) ≤ n) from ⟨by rw [hmF, mkF_s (by omega), c_6, if_pos rfl, if_neg (by omega)], by omega, by omega⟩) (hP.sub [0, 1, 2] rfl) (hD.sub [0, 1, 2] (by decide) rfl) hS
          · skip
            refine lv_iload_n hx hb d_Scanner_takeMark_79 rfl (lv_at hl 2 rfl) ?_
            refine lv_goto (tgt := 84) hx hb d_Scanner_takeMark_80 (by decide) ?_
            exact ret (pos + (strLen (mkI k) : Int), k) _ _ _ _ d_Scanner_takeMark_84 (show (k = MARK t n pos (strong em ob oa)) ∧ (0 ≤ k ∧ k ≤ 4) ∧ (pos ≤ (pos + (strLen (mkI k) : Int)) ∧ (pos + (strLen (mkI k) : Int)) ≤ n) from ⟨by rw [hmF, mkF_s (by omega), c_6, if_pos rfl, if_pos (by omega)], by omega, by omega⟩) (hP.sub [0, 1, 2] rfl) (hD.sub [0, 1, 2] (by decide) rfl) hS
  have K_30 : ∀ (st9 : Int) (hst : st9 = strong em ob oa) (ls : Array Slot) (H : Heap) (locs : List Loc), lv_has ls 3 [(0, .ref h)] → va_P D classes [(h, .inr (4, [.ref tp, .ref ar, .ref f1, .ref f2, .ref rd, .int (bI em), .int (bI ob), .int (bI oa), .int (iI pos), .int (iI fr), .int (iI ex), .int (bI hp)])), (tp, .inr (3, [.ref ta, .int (iI n)])), (ta, .inl (E.2.1, 400, .inl (ia t)))] H → va_D A [(h, .inr (4, [.ref tp, .ref ar, .ref f1, .ref f2, .ref rd, .int (bI em), .int (bI ob), .int (bI oa), .int (iI pos), .int (iI fr), .int (iI ex), .int (bI hp)])), (tp, .inr (3, [.ref ta, .int (iI n)])), (ta, .inl (E.2.1, 400, .inl (ia t)))] → va_S A s.heap H locs → W p l e (rmK 5 0 0 107) s m args below meth c H locs 0 0 Q (F0 m 30 ls [.int (iI st9)]) := by
    intro st9 hst ls H locs hl hP hD hS
    have hs4 : 1 ≤ st9 ∧ st9 ≤ 4 := by rw [hst]; unfold strong; split <;> (try split) <;> omega
    refine lv_istore_n (lv' := [(1, .int (iI st9)), (0, .ref h)]) hx hb d_Scanner_takeMark_30 rfl hl (by decide) rfl (fun ls hl => ?_)
    refine lv_aload_n hx hb d_Scanner_takeMark_31 rfl (lv_at hl 1 rfl) ?_
    refine wk_get B hP 0 rfl fl_Scanner_53 (v := .int (iI pos)) rfl d_Scanner_takeMark_32 ?_
    refine lv_aload_n hx hb d_Scanner_takeMark_35 rfl (lv_at hl 1 rfl) ?_
    refine wk_get B hP 0 rfl fl_Scanner_9 (v := .ref tp) rfl d_Scanner_takeMark_36 ?_
    refine wk_get B hP 1 rfl fl_Scanner_41 (v := .int (iI n)) rfl d_Scanner_takeMark_39 ?_
    refine wi_icmp_ne (tgt := 47) hx hb d_Scanner_takeMark_42 (by decide) (by omega) (by omega) (fun c_8 => ?_) (fun c_8 => ?_)
    · skip
      refine wi_iconst (n := 1) hx hb d_Scanner_takeMark_47 ?_
      refine lv_istore_n (lv' := [(2, .int (iI 1)), (1, .int (iI st9)), (0, .ref h)]) hx hb d_Scanner_takeMark_48 rfl hl (by decide) rfl (fun ls hl => ?_)
      exact K_49 ((st9 + 1 - 1 : Int).toNat + 1) 1 st9 (hst) (hs4) (by omega) (c_8) (by unfold MARK; rw [if_neg c_8, ← hst, show st9 + 1 - 1 = st9 by omega]) (by omega) _ _ _ (lv_sub hl [2, 1, 0] rfl) (hP.sub [0, 1, 2] rfl) (hD.sub [0, 1, 2] (by decide) rfl) hS
    · skip
      refine lv_iload_n hx hb d_Scanner_takeMark_45 rfl (lv_at hl 0 rfl) ?_
      exact ret (pos, st9) _ _ _ _ d_Scanner_takeMark_46 (show (st9 = MARK t n pos (strong em ob oa)) ∧ (0 ≤ st9 ∧ st9 ≤ 4) ∧ (pos ≤ pos ∧ pos ≤ n) from ⟨by unfold MARK; rw [if_pos c_8, hst], by omega, by omega⟩) (hP.sub [0, 1, 2] rfl) (hD.sub [0, 1, 2] (by decide) rfl) hS
  refine lv_aload_n hx hb d_Scanner_takeMark_0 rfl (lv_at hl 0 rfl) ?_
  refine wk_get B hP 0 rfl fl_Scanner_58 (v := .int (bI em)) rfl d_Scanner_takeMark_1 ?_
  refine wb_if_eq (tgt := 11) hx hb d_Scanner_takeMark_4 (by decide) (fun c_9 => ?_) (fun c_9 => ?_)
  · skip
    refine lv_aload_n hx hb d_Scanner_takeMark_11 rfl (lv_at hl 0 rfl) ?_
    refine wk_get B hP 0 rfl fl_Scanner_62 (v := .int (bI ob)) rfl d_Scanner_takeMark_12 ?_
    refine wb_if_ne (tgt := 25) hx hb d_Scanner_takeMark_15 (by decide) (fun c_10 => ?_) (fun c_10 => ?_)
    · skip
      refine wi_iconst (n := 3) hx hb d_Scanner_takeMark_25 ?_
      refine lv_goto (tgt := 30) hx hb d_Scanner_takeMark_26 (by decide) ?_
      exact K_30 3 (by unfold strong; rw [c_9]; first | (rw [c_10]; rfl) | (rw [c_11, Bool.or_true]; rfl)) _ _ _ (lv_sub hl [0] rfl) (hP.sub [0, 1, 2] rfl) (hD.sub [0, 1, 2] (by decide) rfl) hS
    · skip
      refine lv_aload_n hx hb d_Scanner_takeMark_18 rfl (lv_at hl 0 rfl) ?_
      refine wk_get B hP 0 rfl fl_Scanner_65 (v := .int (bI oa)) rfl d_Scanner_takeMark_19 ?_
      refine wb_if_eq (tgt := 29) hx hb d_Scanner_takeMark_22 (by decide) (fun c_11 => ?_) (fun c_11 => ?_)
      · skip
        refine wi_iconst (n := 4) hx hb d_Scanner_takeMark_29 ?_
        exact K_30 4 (by unfold strong; rw [c_9, c_10, c_11]; rfl) _ _ _ (lv_sub hl [0] rfl) (hP.sub [0, 1, 2] rfl) (hD.sub [0, 1, 2] (by decide) rfl) hS
      · skip
        refine wi_iconst (n := 3) hx hb d_Scanner_takeMark_25 ?_
        refine lv_goto (tgt := 30) hx hb d_Scanner_takeMark_26 (by decide) ?_
        exact K_30 3 (by unfold strong; rw [c_9]; first | (rw [c_10]; rfl) | (rw [c_11, Bool.or_true]; rfl)) _ _ _ (lv_sub hl [0] rfl) (hP.sub [0, 1, 2] rfl) (hD.sub [0, 1, 2] (by decide) rfl) hS
  · skip
    refine wi_iconst (n := 1) hx hb d_Scanner_takeMark_7 ?_
    refine lv_goto (tgt := 30) hx hb d_Scanner_takeMark_8 (by decide) ?_
    exact K_30 1 (by unfold strong; rw [c_9]; rfl) _ _ _ (lv_sub hl [0] rfl) (hP.sub [0, 1, 2] rfl) (hD.sub [0, 1, 2] (by decide) rfl) hS
