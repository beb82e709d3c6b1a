/-! Scanner: takeMark -/
abbrev b_Scanner_takeMark : ByteArray := prog_7_method_4_code
def y_Scanner_takeMark : MethodName := ⟨"IntervalText$Scanner", "takeMark", "()I"⟩
theorem d_Scanner_takeMark_0 : decode b_Scanner_takeMark 0 = .ok (.aload_n 0, 1) := by decide +kernel
theorem d_Scanner_takeMark_1 : decode b_Scanner_takeMark 1 = .ok (.getfield 58, 3) := by decide +kernel
theorem d_Scanner_takeMark_4 : decode b_Scanner_takeMark 4 = .ok (.ifCond .eq 7, 3) := by decide +kernel
theorem d_Scanner_takeMark_7 : decode b_Scanner_takeMark 7 = .ok (.iconst 1, 1) := by decide +kernel
theorem d_Scanner_takeMark_8 : decode b_Scanner_takeMark 8 = .ok (.goto 22, 3) := by decide +kernel
theorem d_Scanner_takeMark_11 : decode b_Scanner_takeMark 11 = .ok (.aload_n 0, 1) := by decide +kernel
theorem d_Scanner_takeMark_12 : decode b_Scanner_takeMark 12 = .ok (.getfield 62, 3) := by decide +kernel
theorem d_Scanner_takeMark_15 : decode b_Scanner_takeMark 15 = .ok (.ifCond .ne 10, 3) := by decide +kernel
theorem d_Scanner_takeMark_18 : decode b_Scanner_takeMark 18 = .ok (.aload_n 0, 1) := by decide +kernel
theorem d_Scanner_takeMark_19 : decode b_Scanner_takeMark 19 = .ok (.getfield 65, 3) := by decide +kernel
theorem d_Scanner_takeMark_22 : decode b_Scanner_takeMark 22 = .ok (.ifCond .eq 7, 3) := by decide +kernel
theorem d_Scanner_takeMark_25 : decode b_Scanner_takeMark 25 = .ok (.iconst 3, 1) := by decide +kernel
theorem d_Scanner_takeMark_26 : decode b_Scanner_takeMark 26 = .ok (.goto 4, 3) := by decide +kernel
theorem d_Scanner_takeMark_29 : decode b_Scanner_takeMark 29 = .ok (.iconst 4, 1) := by decide +kernel
theorem d_Scanner_takeMark_30 : decode b_Scanner_takeMark 30 = .ok (.istore_n 1, 1) := by decide +kernel
theorem d_Scanner_takeMark_31 : decode b_Scanner_takeMark 31 = .ok (.aload_n 0, 1) := by decide +kernel
theorem d_Scanner_takeMark_32 : decode b_Scanner_takeMark 32 = .ok (.getfield 53, 3) := by decide +kernel
theorem d_Scanner_takeMark_35 : decode b_Scanner_takeMark 35 = .ok (.aload_n 0, 1) := by decide +kernel
theorem d_Scanner_takeMark_36 : decode b_Scanner_takeMark 36 = .ok (.getfield 9, 3) := by decide +kernel
theorem d_Scanner_takeMark_39 : decode b_Scanner_takeMark 39 = .ok (.getfield 41, 3) := by decide +kernel
theorem d_Scanner_takeMark_42 : decode b_Scanner_takeMark 42 = .ok (.if_icmp .ne 5, 3) := by decide +kernel
theorem d_Scanner_takeMark_45 : decode b_Scanner_takeMark 45 = .ok (.iload_n 1, 1) := by decide +kernel
theorem d_Scanner_takeMark_46 : decode b_Scanner_takeMark 46 = .ok (.ireturn, 1) := by decide +kernel
theorem d_Scanner_takeMark_47 : decode b_Scanner_takeMark 47 = .ok (.iconst 1, 1) := by decide +kernel
theorem d_Scanner_takeMark_48 : decode b_Scanner_takeMark 48 = .ok (.istore_n 2, 1) := by decide +kernel
theorem d_Scanner_takeMark_49 : decode b_Scanner_takeMark 49 = .ok (.iload_n 2, 1) := by decide +kernel
theorem d_Scanner_takeMark_50 : decode b_Scanner_takeMark 50 = .ok (.iload_n 1, 1) := by decide +kernel
theorem d_Scanner_takeMark_51 : decode b_Scanner_takeMark 51 = .ok (.if_icmp .gt 40, 3) := by decide +kernel
theorem d_Scanner_takeMark_54 : decode b_Scanner_takeMark 54 = .ok (.aload_n 0, 1) := by decide +kernel
theorem d_Scanner_takeMark_55 : decode b_Scanner_takeMark 55 = .ok (.iload_n 2, 1) := by decide +kernel
theorem d_Scanner_takeMark_56 : decode b_Scanner_takeMark 56 = .ok (.invokestatic 72, 3) := by decide +kernel
theorem d_Scanner_takeMark_59 : decode b_Scanner_takeMark 59 = .ok (.invokevirtual 76, 3) := by decide +kernel
theorem d_Scanner_takeMark_62 : decode b_Scanner_takeMark 62 = .ok (.ifCond .eq 23, 3) := by decide +kernel
theorem d_Scanner_takeMark_65 : decode b_Scanner_takeMark 65 = .ok (.aload_n 0, 1) := by decide +kernel
theorem d_Scanner_takeMark_66 : decode b_Scanner_takeMark 66 = .ok (.getfield 53, 3) := by decide +kernel
theorem d_Scanner_takeMark_69 : decode b_Scanner_takeMark 69 = .ok (.aload_n 0, 1) := by decide +kernel
theorem d_Scanner_takeMark_70 : decode b_Scanner_takeMark 70 = .ok (.getfield 9, 3) := by decide +kernel
theorem d_Scanner_takeMark_73 : decode b_Scanner_takeMark 73 = .ok (.getfield 41, 3) := by decide +kernel
theorem d_Scanner_takeMark_76 : decode b_Scanner_takeMark 76 = .ok (.if_icmp .ne 7, 3) := by decide +kernel
theorem d_Scanner_takeMark_79 : decode b_Scanner_takeMark 79 = .ok (.iload_n 2, 1) := by decide +kernel
theorem d_Scanner_takeMark_80 : decode b_Scanner_takeMark 80 = .ok (.goto 4, 3) := by decide +kernel
theorem d_Scanner_takeMark_83 : decode b_Scanner_takeMark 83 = .ok (.iconst 0, 1) := by decide +kernel
theorem d_Scanner_takeMark_84 : decode b_Scanner_takeMark 84 = .ok (.ireturn, 1) := by decide +kernel
theorem d_Scanner_takeMark_85 : decode b_Scanner_takeMark 85 = .ok (.iinc 2 1, 3) := by decide +kernel
theorem d_Scanner_takeMark_88 : decode b_Scanner_takeMark 88 = .ok (.goto (-39), 3) := by decide +kernel
theorem d_Scanner_takeMark_91 : decode b_Scanner_takeMark 91 = .ok (.iconst 0, 1) := by decide +kernel
theorem d_Scanner_takeMark_92 : decode b_Scanner_takeMark 92 = .ok (.ireturn, 1) := by decide +kernel
theorem cl_Scanner_72 : Cond.static y_IT_markText ∈ TB ∧ Cond.initialized y_IT_markText.cls ∈ TB ∧ Cond.code y_IT_markText b_IT_markText 1 (some (.object "java/lang/String")) ∈ TB ∧ y_IT_markText.cls ≠ "java/lang/invoke/MethodHandle" ∧ y_IT_markText.cls ≠ "java/lang/invoke/VarHandle" ∧ (parseMethodDescriptor y_IT_markText.desc).map (fun d => d.parameters.length) = some 1 := ⟨tb_t (List.mem_append_right _ (List.mem_append_left _ (List.mem_of_getElem? (l := tables_1_2) (i := 202) rfl))) rfl, tb_t (List.mem_append_left _ (List.mem_of_getElem? (l := tables_1_1) (i := 1) rfl)) rfl, tb_t (List.mem_append_right _ (List.mem_append_left _ (List.mem_of_getElem? (l := tables_1_2) (i := 203) rfl))) rfl, by decide +kernel, by decide +kernel, by decide +kernel⟩
set_option maxHeartbeats 4000000 in
set_option maxRecDepth 100000 in
theorem c_Scanner_takeMark (l : Launch) (D : va_G) (E : EVt) (h : Nat) (tp : Nat) (ar : Nat) (f1 : Nat) (f2 : Nat) (rd : Nat) (em : Bool) (ob : Bool) (oa : Bool) (pos : Int) (fr : Int) (ex : Int) (hp : Bool) (ta : Nat) (t : Int → Int) (n : Int) (hn : 0 ≤ n ∧ n ≤ 400) (hT : Tx t n) (hpos : 0 ≤ pos ∧ pos ≤ n) : CT l D classes (tyl E) (EVX E) y_Scanner_takeMark (Cond.code y_Scanner_takeMark b_Scanner_takeMark 3 (some .int) :: TB) (rmK 5 0 0 107) 0 0 [.ref h] [(h, .inr (4, [.ref tp, .ref ar, .ref f1, .ref f2, .ref rd, .int (bI em), .int (bI ob), .int (bI oa), .int (iI pos), .int (iI fr), .int (iI ex), .int (bI hp)])), (tp, .inr (3, [.ref ta, .int (iI n)])), (ta, .inl (E.2.1, 400, .inl (ia t)))] (S := Int × Int) (fun u => [(h, .inr (4, [.ref tp, .ref ar, .ref f1, .ref f2, .ref rd, .int (bI em), .int (bI ob), .int (bI oa), .int (iI u.1), .int (iI fr), .int (iI ex), .int (bI hp)])), (tp, .inr (3, [.ref ta, .int (iI n)])), (ta, .inl (E.2.1, 400, .inl (ia t)))]) (fun u => some (.int (iI u.2))) (fun u => (u.2 = MARK t n pos (strong em ob oa)) ∧ (0 ≤ u.2 ∧ u.2 ≤ 4) ∧ (pos ≤ u.1 ∧ u.1 ≤ n)) := by
  refine CT.ofi (fv := fun (u : Int × Int) => u.2) (eok E) (by decide) rfl (Nat.le_of_ble_eq_true rfl) ?_
  intro p e s m args below meth c A Q ls B hmn hP hD hS hl ret
  have B : Bd l D classes (tyl E) (EVX E) p m c b_Scanner_takeMark 3 s args (Cond.code y_Scanner_takeMark b_Scanner_takeMark 3 (some .int) :: TB) R_Scanner A := B
  obtain ⟨⟨hx, hb, hml, hown, hts⟩, hX, hK, hE, hA⟩ := id B
  have hl : lv_has ls 3 [(0, .ref h)] := hl
  have hP : va_P D classes [(h, .inr (4, [.ref tp, .ref ar, .ref f1, .ref f2, .ref rd, .int (bI em), .int (bI ob), .int (bI oa), .int (iI pos), .int (iI fr), .int (iI ex), .int (bI hp)])), (tp, .inr (3, [.ref ta, .int (iI n)])), (ta, .inl (E.2.1, 400, .inl (ia t)))] s.heap := hP
  have hD : va_D A [(h, .inr (4, [.ref tp, .ref ar, .ref f1, .ref f2, .ref rd, .int (bI em), .int (bI ob), .int (bI oa), .int (iI pos), .int (iI fr), .int (iI ex), .int (bI hp)])), (tp, .inr (3, [.ref ta, .int (iI n)])), (ta, .inl (E.2.1, 400, .inl (ia t)))] := hD
  have K_49 : ∀ (fuel49 : Nat) (k : Int) (st9 : Int) (hst : st9 = strong em ob oa) (hs4 : 1 ≤ st9 ∧ st9 ≤ 4) (hk : 1 ≤ k ∧ k ≤ st9 + 1) (hne : pos ≠ n) (hmF : MARK t n pos (strong em ob oa) = mkF t n pos (st9 + 1 - k).toNat k) (hf49 : st9 + 1 - k < (fuel49 : Int)) (ls : Array Slot) (H : Heap) (locs : List Loc), lv_has ls 3 [(0, .ref h), (1, .int (iI st9)), (2, .int (iI k))] → va_P D classes [(h, .inr (4, [.ref tp, .ref ar, .ref f1, .ref f2, .ref rd, .int (bI em), .int (bI ob), .int (bI oa), .int (iI pos), .int (iI fr), .int (iI ex), .int (bI hp)])), (tp, .inr (3, [.ref ta, .int (iI n)])), (ta, .inl (E.2.1, 400, .inl (ia t)))] H → va_D A [(h, .inr (4, [.ref tp, .ref ar, .ref f1, .ref f2, .ref rd, .int (bI em), .int (bI ob), .int (bI oa), .int (iI pos), .int (iI fr), .int (iI ex), .int (bI hp)])), (tp, .inr (3, [.ref ta, .int (iI n)])), (ta, .inl (E.2.1, 400, .inl (ia t)))] → va_S A s.heap H locs → W p l e (rmK 5 0 0 107) s m args below meth c H locs 0 0 Q (F0 m 49 ls []) := by
    intro fuel49
    induction fuel49 with
    | zero =>
      intro k st9 hst hs4 hk hne hmF hf49 ls H locs hl hP hD hS
      exfalso; omega
    | succ fuel49 ih49 =>
      intro k st9 hst hs4 hk hne hmF hf49 ls H locs hl hP hD hS
      refine lv_iload_n hx hb d_Scanner_takeMark_49 rfl (lv_at hl 2 rfl) ?_
      refine lv_iload_n hx hb d_Scanner_takeMark_50 rfl (lv_at hl 1 rfl) ?_
      refine wi_icmp_gt (tgt := 91) hx hb d_Scanner_takeMark_51 (by decide) (by omega) (by omega) (fun c_1 => ?_) (fun c_1 => ?_)
      · skip
        refine wi_iconst (n := 0) hx hb d_Scanner_takeMark_91 ?_
        exact ret (pos, 0) _ _ _ _ d_Scanner_takeMark_92 (show (0 = MARK t n pos (strong em ob oa)) ∧ (0 ≤ 0 ∧ 0 ≤ 4) ∧ (pos ≤ pos ∧ pos ≤ n) from ⟨by rw [hmF, mkF_e (by omega)], by omega, by omega⟩) (hP.sub [0, 1, 2] rfl) (hD.sub [0, 1, 2] (by decide) rfl) hS
      · skip
        refine lv_aload_n hx hb d_Scanner_takeMark_54 rfl (lv_at hl 0 rfl) ?_
        refine lv_iload_n hx hb d_Scanner_takeMark_55 rfl (lv_at hl 2 rfl) ?_
        refine wk_callSN (As := [.int (iI k)]) (rest := [.ref h]) (wr := [(h, .inr (4, [.ref tp, .ref ar, .ref f1, .ref f2, .ref rd, .int (bI em), .int (bI ob), .int (bI oa), .int (iI pos), .int (iI fr), .int (iI ex), .int (bI hp)])), (tp, .inr (3, [.ref ta, .int (iI n)])), (ta, .inl (E.2.1, 400, .inl (ia t)))]) B gTB (hE.1 _ (List.mem_of_getElem? (l := nestWs) (i := 1) rfl)) cl_Scanner_72 (c_IT_markText l D E k (by omega)) ⟨⟨rfl, rfl⟩, Nat.le_of_ble_eq_true rfl, Nat.le_of_ble_eq_true rfl⟩ hP hD hS [] [0, 1, 2] rfl rfl (by decide) ⟨hl.2.1, hl.1⟩ rfl (Nat.le_of_ble_eq_true rfl) d_Scanner_takeMark_56 ⟨Nat.le_of_ble_eq_true rfl, Nat.le_of_ble_eq_true rfl⟩ rfl (fun r_2 H locs hw hP hD hS => ?_)
        have hP : va_P D classes [(h, .inr (4, [.ref tp, .ref ar, .ref f1, .ref f2, .ref rd, .int (bI em), .int (bI ob), .int (bI oa), .int (iI pos), .int (iI fr), .int (iI ex), .int (bI hp)])), (tp, .inr (3, [.ref ta, .int (iI n)])), (ta, .inl (E.2.1, 400, .inl (ia t)))] H := hP
        have hD : va_D A [(h, .inr (4, [.ref tp, .ref ar, .ref f1, .ref f2, .ref rd, .int (bI em), .int (bI ob), .int (bI oa), .int (iI pos), .int (iI fr), .int (iI ex), .int (bI hp)])), (tp, .inr (3, [.ref ta, .int (iI n)])), (ta, .inl (E.2.1, 400, .inl (ia t)))] := hD
        have hw : (r_2 = E.2.2.1 (mkI k)) := hw
        have hr_3 := hw
        refine W.cs (g := F0 m 59 ls [.ref r_2, .ref h]) (cells' := 0) (slots' := 0) rfl rfl ?_
        subst hr_3
        refine wk_callV (As := [.ref (E.2.2.1 (mkI k))]) (rest := []) (wr := []) B gTB cl_Scanner_76 (c_Scanner_takeWord l D E h tp ar f1 f2 rd em ob oa pos fr ex hp ta t n (mkI k) (by omega) (hT) (by omega) (mkI_lt _)) ⟨⟨rfl, rfl⟩, Nat.le_of_ble_eq_true rfl, Nat.le_of_ble_eq_true rfl⟩ hP hD hS [0, 1, 2] [] rfl rfl (by decide) 0 rfl rfl rfl ⟨hl.2.1, hl.1⟩ rfl (Nat.le_of_ble_eq_true rfl) d_Scanner_takeMark_59 ⟨Nat.le_of_ble_eq_true rfl, Nat.le_of_ble_eq_true rfl⟩ rfl (fun u H locs hw hP hD hS => ?_)
        obtain ⟨qm, r_4⟩ := u
        have hP : va_P D classes [(h, .inr (4, [.ref tp, .ref ar, .ref f1, .ref f2, .ref rd, .int (bI em), .int (bI ob), .int (bI oa), .int (iI qm), .int (iI fr), .int (iI ex), .int (bI hp)])), (tp, .inr (3, [.ref ta, .int (iI n)])), (ta, .inl (E.2.1, 400, .inl (ia t)))] H := hP
        have hD : va_D A [(h, .inr (4, [.ref tp, .ref ar, .ref f1, .ref f2, .ref rd, .int (bI em), .int (bI ob), .int (bI oa), .int (iI qm), .int (iI fr), .int (iI ex), .int (bI hp)])), (tp, .inr (3, [.ref ta, .int (iI n)])), (ta, .inl (E.2.1, 400, .inl (ia t)))] := hD
        have hw : (r_4 = wdB t n pos (mkI k)) ∧ (qm = wq t n pos (mkI k)) ∧ (pos ≤ qm ∧ qm ≤ n) := hw
        obtain ⟨hr_5, hqm, hqm2⟩ := hw
        refine W.cs (g := F0 m 62 ls [.int (bI r_4)]) (cells' := 0) (slots' := 0) rfl rfl ?_
        subst hr_5
        refine wb_if_eq (tgt := 85) hx hb d_Scanner_takeMark_62 (by decide) (fun c_6 => ?_) (fun c_6 => ?_)
        · skip
          rw [wq_f c_6] at hqm
          have hqm := hqm.symm
          subst hqm
          refine wi_iinc (v := k + 1) (lv' := [(2, .int (iI (k + 1))), (0, .ref h), (1, .int (iI st9))]) hx hb d_Scanner_takeMark_85 hl (k := 2) rfl rfl (by decide) rfl (fun ls hl => ?_)
          refine lv_goto (tgt := 49) hx hb d_Scanner_takeMark_88 (by decide) ?_
          exact ih49 (k + 1) st9 (hst) (hs4) (by omega) (hne) (by rw [hmF, mkF_s (by omega), c_6]; rfl) (by omega) _ _ _ (lv_sub hl [1, 2, 0] rfl) (hP.sub [0, 1, 2] rfl) (hD.sub [0, 1, 2] (by decide) rfl) hS
        · skip
          rw [wq_t c_6] at hqm
          subst hqm
          have hl4 := mkI_len k
          refine lv_aload_n hx hb d_Scanner_takeMark_65 rfl (lv_at hl 0 rfl) ?_
          refine wk_get B hP 0 rfl fl_Scanner_53 (v := .int (iI (pos + (strLen (mkI k) : Int)))) rfl d_Scanner_takeMark_66 ?_
          refine lv_aload_n hx hb d_Scanner_takeMark_69 rfl (lv_at hl 0 rfl) ?_
          refine wk_get B hP 0 rfl fl_Scanner_9 (v := .ref tp) rfl d_Scanner_takeMark_70 ?_
          refine wk_get B hP 1 rfl fl_Scanner_41 (v := .int (iI n)) rfl d_Scanner_takeMark_73 ?_
          refine wi_icmp_ne (tgt := 83) hx hb d_Scanner_takeMark_76 (by decide) (by omega) (by omega) (fun c_7 => ?_) (fun c_7 => ?_)
          · skip
            refine wi_iconst (n := 0) hx hb d_Scanner_takeMark_83 ?_
            exact ret (pos + (strLen (mkI k) : Int), 0) _ _ _ _ d_Scanner_takeMark_84 (show (0 = MARK t n pos (strong em ob oa)) ∧ (0 ≤ 0 ∧ 0 ≤ 4) ∧ (pos ≤ (pos + (strLen (mkI k) : Int)) ∧ (pos + (strLen (mkI k) : Int)) ≤ n) from ⟨by rw [hmF, mkF_s (by omega), c_6, if_pos rfl, if_neg (by omega)], by omega, by omega⟩) (hP.sub [0, 1, 2] rfl) (hD.sub [0, 1, 2] (by decide) rfl) hS
          · skip
            refine lv_iload_n hx hb d_Scanner_takeMark_79 rfl (lv_at hl 2 rfl) ?_
            refine lv_goto (tgt := 84) hx hb d_Scanner_takeMark_80 (by decide) ?_
            exact ret (pos + (strLen (mkI k) : Int), k) _ _ _ _ d_Scanner_takeMark_84 (show (k = MARK t n pos (strong em ob oa)) ∧ (0 ≤ k ∧ k ≤ 4) ∧ (pos ≤ (pos + (strLen (mkI k) : Int)) ∧ (pos + (strLen (mkI k) : Int)) ≤ n) from ⟨by rw [hmF, mkF_s (by omega), c_6, if_pos rfl, if_pos (by omega)], by omega, by omega⟩) (hP.sub [0, 1, 2] rfl) (hD.sub [0, 1, 2] (by decide) rfl) hS
  have K_30 : ∀ (st9 : Int) (hst : st9 = strong em ob oa) (ls : Array Slot) (H : Heap) (locs : List Loc), lv_has ls 3 [(0, .ref h)] → va_P D classes [(h, .inr (4, [.ref tp, .ref ar, .ref f1, .ref f2, .ref rd, .int (bI em), .int (bI ob), .int (bI oa), .int (iI pos), .int (iI fr), .int (iI ex), .int (bI hp)])), (tp, .inr (3, [.ref ta, .int (iI n)])), (ta, .inl (E.2.1, 400, .inl (ia t)))] H → va_D A [(h, .inr (4, [.ref tp, .ref ar, .ref f1, .ref f2, .ref rd, .int (bI em), .int (bI ob), .int (bI oa), .int (iI pos), .int (iI fr), .int (iI ex), .int (bI hp)])), (tp, .inr (3, [.ref ta, .int (iI n)])), (ta, .inl (E.2.1, 400, .inl (ia t)))] → va_S A s.heap H locs → W p l e (rmK 5 0 0 107) s m args below meth c H locs 0 0 Q (F0 m 30 ls [.int (iI st9)]) := by
    intro st9 hst ls H locs hl hP hD hS
    have hs4 : 1 ≤ st9 ∧ st9 ≤ 4 := by rw [hst]; unfold strong; split <;> (try split) <;> omega
    refine lv_istore_n (lv' := [(1, .int (iI st9)), (0, .ref h)]) hx hb d_Scanner_takeMark_30 rfl hl (by decide) rfl (fun ls hl => ?_)
    refine lv_aload_n hx hb d_Scanner_takeMark_31 rfl (lv_at hl 1 rfl) ?_
    refine wk_get B hP 0 rfl fl_Scanner_53 (v := .int (iI pos)) rfl d_Scanner_takeMark_32 ?_
    refine lv_aload_n hx hb d_Scanner_takeMark_35 rfl (lv_at hl 1 rfl) ?_
    refine wk_get B hP 0 rfl fl_Scanner_9 (v := .ref tp) rfl d_Scanner_takeMark_36 ?_
    refine wk_get B hP 1 rfl fl_Scanner_41 (v := .int (iI n)) rfl d_Scanner_takeMark_39 ?_
    refine wi_icmp_ne (tgt := 47) hx hb d_Scanner_takeMark_42 (by decide) (by omega) (by omega) (fun c_8 => ?_) (fun c_8 => ?_)
    · skip
      refine wi_iconst (n := 1) hx hb d_Scanner_takeMark_47 ?_
      refine lv_istore_n (lv' := [(2, .int (iI 1)), (1, .int (iI st9)), (0, .ref h)]) hx hb d_Scanner_takeMark_48 rfl hl (by decide) rfl (fun ls hl => ?_)
      exact K_49 ((st9 + 1 - 1 : Int).toNat + 1) 1 st9 (hst) (hs4) (by omega) (c_8) (by unfold MARK; rw [if_neg c_8, ← hst, show st9 + 1 - 1 = st9 by omega]) (by omega) _ _ _ (lv_sub hl [2, 1, 0] rfl) (hP.sub [0, 1, 2] rfl) (hD.sub [0, 1, 2] (by decide) rfl) hS
    · skip
      refine lv_iload_n hx hb d_Scanner_takeMark_45 rfl (lv_at hl 0 rfl) ?_
      exact ret (pos, st9) _ _ _ _ d_Scanner_takeMark_46 (show (st9 = MARK t n pos (strong em ob oa)) ∧ (0 ≤ st9 ∧ st9 ≤ 4) ∧ (pos ≤ pos ∧ pos ≤ n) from ⟨by unfold MARK; rw [if_pos c_8, hst], by omega, by omega⟩) (hP.sub [0, 1, 2] rfl) (hD.sub [0, 1, 2] (by decide) rfl) hS
  refine lv_aload_n hx hb d_Scanner_takeMark_0 rfl (lv_at hl 0 rfl) ?_
  refine wk_get B hP 0 rfl fl_Scanner_58 (v := .int (bI em)) rfl d_Scanner_takeMark_1 ?_
  refine wb_if_eq (tgt := 11) hx hb d_Scanner_takeMark_4 (by decide) (fun c_9 => ?_) (fun c_9 => ?_)
  · skip
    refine lv_aload_n hx hb d_Scanner_takeMark_11 rfl (lv_at hl 0 rfl) ?_
    refine wk_get B hP 0 rfl fl_Scanner_62 (v := .int (bI ob)) rfl d_Scanner_takeMark_12 ?_
    refine wb_if_ne (tgt := 25) hx hb d_Scanner_takeMark_15 (by decide) (fun c_10 => ?_) (fun c_10 => ?_)
    · skip
      refine wi_iconst (n := 3) hx hb d_Scanner_takeMark_25 ?_
      refine lv_goto (tgt := 30) hx hb d_Scanner_takeMark_26 (by decide) ?_
      exact K_30 3 (by unfold strong; rw [c_9]; first | (rw [c_10]; rfl) | (rw [c_11, Bool.or_true]; rfl)) _ _ _ (lv_sub hl [0] rfl) (hP.sub [0, 1, 2] rfl) (hD.sub [0, 1, 2] (by decide) rfl) hS
    · skip
      refine lv_aload_n hx hb d_Scanner_takeMark_18 rfl (lv_at hl 0 rfl) ?_
      refine wk_get B hP 0 rfl fl_Scanner_65 (v := .int (bI oa)) rfl d_Scanner_takeMark_19 ?_
      refine wb_if_eq (tgt := 29) hx hb d_Scanner_takeMark_22 (by decide) (fun c_11 => ?_) (fun c_11 => ?_)
      · skip
        refine wi_iconst (n := 4) hx hb d_Scanner_takeMark_29 ?_
        exact K_30 4 (by unfold strong; rw [c_9, c_10, c_11]; rfl) _ _ _ (lv_sub hl [0] rfl) (hP.sub [0, 1, 2] rfl) (hD.sub [0, 1, 2] (by decide) rfl) hS
      · skip
        refine wi_iconst (n := 3) hx hb d_Scanner_takeMark_25 ?_
        refine lv_goto (tgt := 30) hx hb d_Scanner_takeMark_26 (by decide) ?_
        exact K_30 3 (by unfold strong; rw [c_9]; first | (rw [c_10]; rfl) | (rw [c_11, Bool.or_true]; rfl)) _ _ _ (lv_sub hl [0] rfl) (hP.sub [0, 1, 2] rfl) (hD.sub [0, 1, 2] (by decide) rfl) hS
  · skip
    refine wi_iconst (n := 1) hx hb d_Scanner_takeMark_7 ?_
    refine lv_goto (tgt := 30) hx hb d_Scanner_takeMark_8 (by decide) ?_
    exact K_30 1 (by unfold strong; rw [c_9]; rfl) _ _ _ (lv_sub hl [0] rfl) (hP.sub [0, 1, 2] rfl) (hD.sub [0, 1, 2] (by decide) rfl) hS
