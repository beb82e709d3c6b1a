/-! Model: tens, setTens -/
abbrev b_Mo_tens : ByteArray := prog_9_method_23_code
def y_Mo_tens : MethodName := ⟨"IntervalTextModel", "tens", "(LIntervalTextModel$Num;I)V"⟩
abbrev b_Mo_setTens : ByteArray := prog_9_method_42_code
def y_Mo_setTens : MethodName := ⟨"IntervalTextModel", "setTens", "(LIntervalTextModel$Num;I)V"⟩
theorem d_Mo_tens_0 : decode b_Mo_tens 0 = .ok (.iconst 0, 1) := by decide +kernel
theorem d_Mo_tens_1 : decode b_Mo_tens 1 = .ok (.istore_n 2, 1) := by decide +kernel
theorem d_Mo_tens_2 : decode b_Mo_tens 2 = .ok (.iload_n 2, 1) := by decide +kernel
theorem d_Mo_tens_3 : decode b_Mo_tens 3 = .ok (.iload_n 1, 1) := by decide +kernel
theorem d_Mo_tens_4 : decode b_Mo_tens 4 = .ok (.if_icmp .ge 19, 3) := by decide +kernel
theorem d_Mo_tens_7 : decode b_Mo_tens 7 = .ok (.aload_n 0, 1) := by decide +kernel
theorem d_Mo_tens_8 : decode b_Mo_tens 8 = .ok (.getfield 18, 3) := by decide +kernel
theorem d_Mo_tens_11 : decode b_Mo_tens 11 = .ok (.bipush 10, 2) := by decide +kernel
theorem d_Mo_tens_13 : decode b_Mo_tens 13 = .ok (.iconst 0, 1) := by decide +kernel
theorem d_Mo_tens_14 : decode b_Mo_tens 14 = .ok (.invokevirtual 179, 3) := by decide +kernel
theorem d_Mo_tens_17 : decode b_Mo_tens 17 = .ok (.iinc 2 1, 3) := by decide +kernel
theorem d_Mo_tens_20 : decode b_Mo_tens 20 = .ok (.goto (-18), 3) := by decide +kernel
theorem d_Mo_tens_23 : decode b_Mo_tens 23 = .ok (.iconst 0, 1) := by decide +kernel
theorem d_Mo_tens_24 : decode b_Mo_tens 24 = .ok (.istore_n 2, 1) := by decide +kernel
theorem d_Mo_tens_25 : decode b_Mo_tens 25 = .ok (.iload_n 2, 1) := by decide +kernel
theorem d_Mo_tens_26 : decode b_Mo_tens 26 = .ok (.iload_n 1, 1) := by decide +kernel
theorem d_Mo_tens_27 : decode b_Mo_tens 27 = .ok (.ineg, 1) := by decide +kernel
theorem d_Mo_tens_28 : decode b_Mo_tens 28 = .ok (.if_icmp .ge 19, 3) := by decide +kernel
theorem d_Mo_tens_31 : decode b_Mo_tens 31 = .ok (.aload_n 0, 1) := by decide +kernel
theorem d_Mo_tens_32 : decode b_Mo_tens 32 = .ok (.getfield 1, 3) := by decide +kernel
theorem d_Mo_tens_35 : decode b_Mo_tens 35 = .ok (.bipush 10, 2) := by decide +kernel
theorem d_Mo_tens_37 : decode b_Mo_tens 37 = .ok (.iconst 0, 1) := by decide +kernel
theorem d_Mo_tens_38 : decode b_Mo_tens 38 = .ok (.invokevirtual 179, 3) := by decide +kernel
theorem d_Mo_tens_41 : decode b_Mo_tens 41 = .ok (.iinc 2 1, 3) := by decide +kernel
theorem d_Mo_tens_44 : decode b_Mo_tens 44 = .ok (.goto (-19), 3) := by decide +kernel
theorem d_Mo_tens_47 : decode b_Mo_tens 47 = .ok (.return_, 1) := by decide +kernel
theorem d_Mo_setTens_0 : decode b_Mo_setTens 0 = .ok (.aload_n 1, 1) := by decide +kernel
theorem d_Mo_setTens_1 : decode b_Mo_setTens 1 = .ok (.lconst 1, 1) := by decide +kernel
theorem d_Mo_setTens_2 : decode b_Mo_setTens 2 = .ok (.invokevirtual 169, 3) := by decide +kernel
theorem d_Mo_setTens_5 : decode b_Mo_setTens 5 = .ok (.aload_n 1, 1) := by decide +kernel
theorem d_Mo_setTens_6 : decode b_Mo_setTens 6 = .ok (.iload_n 2, 1) := by decide +kernel
theorem d_Mo_setTens_7 : decode b_Mo_setTens 7 = .ok (.invokestatic 202, 3) := by decide +kernel
theorem d_Mo_setTens_10 : decode b_Mo_setTens 10 = .ok (.return_, 1) := by decide +kernel
theorem cl_Mo_202 : CLinkS TB "IntervalTextModel" 202 y_Mo_tens b_Mo_tens 3 none 2 := ⟨⟨tb_t (List.mem_append_right _ (List.mem_append_right _ (List.mem_append_right _ (List.mem_append_left _ (List.mem_of_getElem? (l := tables_1_4) (i := 52) rfl))))) rfl, tb_t (List.mem_append_left _ (List.mem_of_getElem? (l := tables_1_1) (i := 8) rfl)) rfl, tb_t (List.mem_append_right _ (List.mem_append_right _ (List.mem_append_right _ (List.mem_append_left _ (List.mem_of_getElem? (l := tables_1_4) (i := 54) rfl))))) rfl, by decide +kernel, by decide +kernel, by decide +kernel⟩, tb_t (List.mem_append_right _ (List.mem_append_right _ (List.mem_append_right _ (List.mem_append_left _ (List.mem_of_getElem? (l := tables_1_4) (i := 53) rfl))))) rfl⟩
theorem cl_Mo_169 : CLinkV TB "IntervalTextModel" 169 "IntervalTextModel$Num" y_Num_set b_Num_set 3 none 1 := ⟨⟨tb_t (List.mem_append_right _ (List.mem_append_right _ (List.mem_append_right _ (List.mem_append_left _ (List.mem_of_getElem? (l := tables_1_4) (i := 24) rfl))))) rfl, tb_t (List.mem_append_left _ (List.mem_of_getElem? (l := tables_1_1) (i := 10) rfl)) rfl, tb_t (List.mem_append_right _ (List.mem_append_right _ (List.mem_append_right _ (List.mem_append_left _ (List.mem_of_getElem? (l := tables_1_4) (i := 27) rfl))))) rfl, by decide +kernel, by decide +kernel, by decide +kernel⟩, tb_t (List.mem_append_right _ (List.mem_append_right _ (List.mem_append_right _ (List.mem_append_left _ (List.mem_of_getElem? (l := tables_1_4) (i := 25) rfl))))) rfl, tb_t (List.mem_append_right _ (List.mem_append_right _ (List.mem_append_right _ (List.mem_append_left _ (List.mem_of_getElem? (l := tables_1_4) (i := 26) rfl))))) rfl⟩
theorem cl_Mo_179 : CLinkV TB "IntervalTextModel" 179 "IntervalTextModel$Big" y_Big_grow b_Big_grow 8 none 2 := ⟨⟨tb_t (List.mem_append_right _ (List.mem_append_right _ (List.mem_append_right _ (List.mem_append_left _ (List.mem_of_getElem? (l := tables_1_4) (i := 39) rfl))))) rfl, tb_t (List.mem_append_left _ (List.mem_of_getElem? (l := tables_1_1) (i := 9) rfl)) rfl, tb_t (List.mem_append_right _ (List.mem_append_right _ (List.mem_append_right _ (List.mem_append_left _ (List.mem_of_getElem? (l := tables_1_4) (i := 42) rfl))))) rfl, by decide +kernel, by decide +kernel, by decide +kernel⟩, tb_t (List.mem_append_right _ (List.mem_append_right _ (List.mem_append_right _ (List.mem_append_left _ (List.mem_of_getElem? (l := tables_1_4) (i := 40) rfl))))) rfl, tb_t (List.mem_append_right _ (List.mem_append_right _ (List.mem_append_right _ (List.mem_append_left _ (List.mem_of_getElem? (l := tables_1_4) (i := 41) rfl))))) rfl⟩
set_option maxHeartbeats 4000000 in
set_option maxRecDepth 100000 in
theorem c_Mo_tens (l : Launch) (D : va_G) (E : EVt) (h : Nat) (pn : Nat) (pa : Nat) (qn : Nat) (qa : Nat) (pg : Int → Int) (qg : Int → Int) (pk : Int) (qk : Int) (ee : Int) (be : Bool) (pw : Int) (v : Int) (b : Int) (hT : BigOK pg pk v) (hB : BigOK qg qk b) (hpw : -2000 ≤ pw ∧ pw ≤ 2000) (hf1 : v * T10 pw < QB 640) (hf2 : b * T10 (-pw) < QB 640) : CT l D classes (tyl E) (EVX E) y_Mo_tens (Cond.code y_Mo_tens b_Mo_tens 3 none :: TB) (rmK 1 0 0 27) 0 0 [.ref h, .int (iI pw)] [(h, .inr (8, [.int (bI be), .ref pn, .ref qn, .int (iI ee)])), (pn, .inr (7, [.ref pa, .int (iI pk)])), (pa, .inl (E.1, 640, .inl (ia pg))), (qn, .inr (7, [.ref qa, .int (iI qk)])), (qa, .inl (E.1, 640, .inl (ia qg)))] (S := (Int → Int) × (Int → Int) × Int × Int) (fun u => [(h, .inr (8, [.int (bI be), .ref pn, .ref qn, .int (iI ee)])), (pn, .inr (7, [.ref pa, .int (iI u.2.2.1)])), (pa, .inl (E.1, 640, .inl (ia u.1))), (qn, .inr (7, [.ref qa, .int (iI u.2.2.2)])), (qa, .inl (E.1, 640, .inl (ia u.2.1)))]) (fun _ => none) (fun u => (BigOK u.1 u.2.2.1 (v * T10 pw)) ∧ (BigOK u.2.1 u.2.2.2 (b * T10 (-pw)))) := by
  refine CT.ofv (eok E) (by decide) rfl (Nat.le_of_ble_eq_true rfl) ?_
  intro p e s m args below meth c A Q ls B hmn hP hD hS hl ret
  have B : Bd l D classes (tyl E) (EVX E) p m c b_Mo_tens 3 s args (Cond.code y_Mo_tens b_Mo_tens 3 none :: TB) R_Mo A := B
  obtain ⟨⟨hx, hb, hml, hown, hts⟩, hX, hK, hE, hA⟩ := id B
  have hl : lv_has ls 3 [(0, .ref h), (1, .int (iI pw))] := hl
  have hP : va_P D classes [(h, .inr (8, [.int (bI be), .ref pn, .ref qn, .int (iI ee)])), (pn, .inr (7, [.ref pa, .int (iI pk)])), (pa, .inl (E.1, 640, .inl (ia pg))), (qn, .inr (7, [.ref qa, .int (iI qk)])), (qa, .inl (E.1, 640, .inl (ia qg)))] s.heap := hP
  have hD : va_D A [(h, .inr (8, [.int (bI be), .ref pn, .ref qn, .int (iI ee)])), (pn, .inr (7, [.ref pa, .int (iI pk)])), (pa, .inl (E.1, 640, .inl (ia pg))), (qn, .inr (7, [.ref qa, .int (iI qk)])), (qa, .inl (E.1, 640, .inl (ia qg)))] := hD
  have hv0 := hT.bd.1
  have hb0 := hB.bd.1
  have K_25 : ∀ (fuel25 : Nat) (k : Int) (pk1 : Int) (qk1 : Int) (pg1 : Int → Int) (qg1 : Int → Int) (hk : 0 ≤ k ∧ (k ≤ -pw ∨ (-pw < 0 ∧ k = 0))) (hP1 : BigOK pg1 pk1 (v * T10 pw)) (hQ1 : BigOK qg1 qk1 (b * T10 k)) (hf25 : max (-pw - k) 0 < (fuel25 : Int)) (ls : Array Slot) (H : Heap) (locs : List Loc), lv_has ls 3 [(0, .ref h), (1, .int (iI pw)), (2, .int (iI k))] → va_P D classes [(h, .inr (8, [.int (bI be), .ref pn, .ref qn, .int (iI ee)])), (pn, .inr (7, [.ref pa, .int (iI pk1)])), (pa, .inl (E.1, 640, .inl (ia pg1))), (qn, .inr (7, [.ref qa, .int (iI qk1)])), (qa, .inl (E.1, 640, .inl (ia qg1)))] H → va_D A [(h, .inr (8, [.int (bI be), .ref pn, .ref qn, .int (iI ee)])), (pn, .inr (7, [.ref pa, .int (iI pk1)])), (pa, .inl (E.1, 640, .inl (ia pg1))), (qn, .inr (7, [.ref qa, .int (iI qk1)])), (qa, .inl (E.1, 640, .inl (ia qg1)))] → va_S A s.heap H locs → W p l e (rmK 1 0 0 27) s m args below meth c H locs 0 0 Q (F0 m 25 ls []) := by
    intro fuel25
    induction fuel25 with
    | zero =>
      intro k pk1 qk1 pg1 qg1 hk hP1 hQ1 hf25 ls H locs hl hP hD hS
      exfalso; omega
    | succ fuel25 ih25 =>
      intro k pk1 qk1 pg1 qg1 hk hP1 hQ1 hf25 ls H locs hl hP hD hS
      refine lv_iload_n hx hb d_Mo_tens_25 rfl (lv_at hl 2 rfl) ?_
      refine lv_iload_n hx hb d_Mo_tens_26 rfl (lv_at hl 1 rfl) ?_
      refine wi_ineg hx hb d_Mo_tens_27 ?_
      refine wi_icmp_ge (tgt := 47) hx hb d_Mo_tens_28 (by decide) (by omega) (by omega) (fun c_1 => ?_) (fun c_1 => ?_)
      · skip
        exact ret (pg1, qg1, pk1, qk1) _ _ _ _ d_Mo_tens_47 (show (BigOK pg1 pk1 (v * T10 pw)) ∧ (BigOK qg1 qk1 (b * T10 (-pw))) from ⟨hP1, by rw [← tn_z hk.1 hk.2 (by omega)]; exact hQ1⟩) (hP.sub [0, 1, 2, 3, 4] rfl) (hD.sub [0, 1, 2, 3, 4] (by decide) rfl) hS
      · skip
        refine lv_aload_n hx hb d_Mo_tens_31 rfl (lv_at hl 0 rfl) ?_
        refine wk_getN B hP 0 rfl fn_Num_2 (hE.1 _ (List.mem_of_getElem? (l := nestWs) (i := 9) rfl)) (v := .ref qn) rfl d_Mo_tens_32 ?_
        refine wi_bipush hx hb d_Mo_tens_35 (by decide) ?_
        refine wi_iconst (n := 0) hx hb d_Mo_tens_37 ?_
        refine wk_callV (As := [.int (iI 10), .int (iI 0)]) (rest := []) (wr := [(h, .inr (8, [.int (bI be), .ref pn, .ref qn, .int (iI ee)])), (pn, .inr (7, [.ref pa, .int (iI pk1)])), (pa, .inl (E.1, 640, .inl (ia pg1)))]) B gTB cl_Mo_179 (c_Big_grow l D E qn qa qg1 qk1 10 0 (b * T10 k) (hQ1) (by omega) (by omega) (tn_fit hb0 hk.1 (by omega) hf2)) ⟨⟨rfl, rfl⟩, Nat.le_of_ble_eq_true rfl, Nat.le_of_ble_eq_true rfl⟩ hP hD hS [3, 4] [0, 1, 2] rfl rfl (by decide) 3 rfl rfl rfl ⟨hl.2.1, hl.1⟩ rfl (Nat.le_of_ble_eq_true rfl) d_Mo_tens_38 ⟨Nat.le_of_ble_eq_true rfl, Nat.le_of_ble_eq_true rfl⟩ rfl (fun u H locs hw hP hD hS => ?_)
        obtain ⟨g2_2, k2_3⟩ := u
        have hP : va_P D classes [(h, .inr (8, [.int (bI be), .ref pn, .ref qn, .int (iI ee)])), (pn, .inr (7, [.ref pa, .int (iI pk1)])), (pa, .inl (E.1, 640, .inl (ia pg1))), (qn, .inr (7, [.ref qa, .int (iI k2_3)])), (qa, .inl (E.1, 640, .inl (ia g2_2)))] H := hP
        have hD : va_D A [(h, .inr (8, [.int (bI be), .ref pn, .ref qn, .int (iI ee)])), (pn, .inr (7, [.ref pa, .int (iI pk1)])), (pa, .inl (E.1, 640, .inl (ia pg1))), (qn, .inr (7, [.ref qa, .int (iI k2_3)])), (qa, .inl (E.1, 640, .inl (ia g2_2)))] := hD
        have hw : (BigOK g2_2 k2_3 ((b * T10 k) * 10 + 0)) := hw
        have hM9 := hw
        refine W.cs (g := F0 m 41 ls []) (cells' := 0) (slots' := 0) rfl rfl ?_
        refine wi_iinc (v := k + 1) (lv' := [(2, .int (iI (k + 1))), (0, .ref h), (1, .int (iI pw))]) hx hb d_Mo_tens_41 hl (k := 2) rfl rfl (by decide) rfl (fun ls hl => ?_)
        refine lv_goto (tgt := 25) hx hb d_Mo_tens_44 (by decide) ?_
        exact ih25 (k + 1) pk1 k2_3 pg1 g2_2 (by omega) (hP1) (by rw [T10_s hk.1, ← Int.mul_assoc, ← Int.add_zero (b * T10 k * 10)]; exact hM9) (by omega) _ _ _ (lv_sub hl [1, 2, 0] rfl) (hP.sub [0, 1, 2, 3, 4] rfl) (hD.sub [0, 1, 2, 3, 4] (by decide) rfl) hS
  have K_2 : ∀ (fuel2 : Nat) (k : Int) (pk1 : Int) (pg1 : Int → Int) (hk : 0 ≤ k ∧ (k ≤ pw ∨ (pw < 0 ∧ k = 0))) (hP1 : BigOK pg1 pk1 (v * T10 k)) (hf2 : max (pw - k) 0 < (fuel2 : Int)) (ls : Array Slot) (H : Heap) (locs : List Loc), lv_has ls 3 [(0, .ref h), (1, .int (iI pw)), (2, .int (iI k))] → va_P D classes [(h, .inr (8, [.int (bI be), .ref pn, .ref qn, .int (iI ee)])), (pn, .inr (7, [.ref pa, .int (iI pk1)])), (pa, .inl (E.1, 640, .inl (ia pg1))), (qn, .inr (7, [.ref qa, .int (iI qk)])), (qa, .inl (E.1, 640, .inl (ia qg)))] H → va_D A [(h, .inr (8, [.int (bI be), .ref pn, .ref qn, .int (iI ee)])), (pn, .inr (7, [.ref pa, .int (iI pk1)])), (pa, .inl (E.1, 640, .inl (ia pg1))), (qn, .inr (7, [.ref qa, .int (iI qk)])), (qa, .inl (E.1, 640, .inl (ia qg)))] → va_S A s.heap H locs → W p l e (rmK 1 0 0 27) s m args below meth c H locs 0 0 Q (F0 m 2 ls []) := by
    intro fuel2
    induction fuel2 with
    | zero =>
      intro k pk1 pg1 hk hP1 hf2 ls H locs hl hP hD hS
      exfalso; omega
    | succ fuel2 ih2 =>
      intro k pk1 pg1 hk hP1 hf2 ls H locs hl hP hD hS
      refine lv_iload_n hx hb d_Mo_tens_2 rfl (lv_at hl 2 rfl) ?_
      refine lv_iload_n hx hb d_Mo_tens_3 rfl (lv_at hl 1 rfl) ?_
      refine wi_icmp_ge (tgt := 23) hx hb d_Mo_tens_4 (by decide) (by omega) (by omega) (fun c_4 => ?_) (fun c_4 => ?_)
      · skip
        refine wi_iconst (n := 0) hx hb d_Mo_tens_23 ?_
        refine lv_istore_n (lv' := [(2, .int (iI 0)), (0, .ref h), (1, .int (iI pw))]) hx hb d_Mo_tens_24 rfl hl (by decide) rfl (fun ls hl => ?_)
        exact K_25 ((max (-pw - 0) 0 : Int).toNat + 1) 0 pk1 qk pg1 qg (by omega) (by rw [← tn_z hk.1 hk.2 (by omega)]; exact hP1) (by rw [T10_n (Int.le_refl 0), Int.mul_one]; exact hB) (by omega) _ _ _ (lv_sub hl [1, 2, 0] rfl) (hP.sub [0, 1, 2, 3, 4] rfl) (hD.sub [0, 1, 2, 3, 4] (by decide) rfl) hS
      · skip
        refine lv_aload_n hx hb d_Mo_tens_7 rfl (lv_at hl 0 rfl) ?_
        refine wk_getN B hP 0 rfl fn_Num_1 (hE.1 _ (List.mem_of_getElem? (l := nestWs) (i := 8) rfl)) (v := .ref pn) rfl d_Mo_tens_8 ?_
        refine wi_bipush hx hb d_Mo_tens_11 (by decide) ?_
        refine wi_iconst (n := 0) hx hb d_Mo_tens_13 ?_
        refine wk_callV (As := [.int (iI 10), .int (iI 0)]) (rest := []) (wr := [(h, .inr (8, [.int (bI be), .ref pn, .ref qn, .int (iI ee)])), (qn, .inr (7, [.ref qa, .int (iI qk)])), (qa, .inl (E.1, 640, .inl (ia qg)))]) B gTB cl_Mo_179 (c_Big_grow l D E pn pa pg1 pk1 10 0 (v * T10 k) (hP1) (by omega) (by omega) (tn_fit hv0 hk.1 (by omega) hf1)) ⟨⟨rfl, rfl⟩, Nat.le_of_ble_eq_true rfl, Nat.le_of_ble_eq_true rfl⟩ hP hD hS [1, 2] [0, 3, 4] rfl rfl (by decide) 1 rfl rfl rfl ⟨hl.2.1, hl.1⟩ rfl (Nat.le_of_ble_eq_true rfl) d_Mo_tens_14 ⟨Nat.le_of_ble_eq_true rfl, Nat.le_of_ble_eq_true rfl⟩ rfl (fun u H locs hw hP hD hS => ?_)
        obtain ⟨g2_5, k2_6⟩ := u
        have hP : va_P D classes [(h, .inr (8, [.int (bI be), .ref pn, .ref qn, .int (iI ee)])), (qn, .inr (7, [.ref qa, .int (iI qk)])), (qa, .inl (E.1, 640, .inl (ia qg))), (pn, .inr (7, [.ref pa, .int (iI k2_6)])), (pa, .inl (E.1, 640, .inl (ia g2_5)))] H := hP
        have hD : va_D A [(h, .inr (8, [.int (bI be), .ref pn, .ref qn, .int (iI ee)])), (qn, .inr (7, [.ref qa, .int (iI qk)])), (qa, .inl (E.1, 640, .inl (ia qg))), (pn, .inr (7, [.ref pa, .int (iI k2_6)])), (pa, .inl (E.1, 640, .inl (ia g2_5)))] := hD
        have hw : (BigOK g2_5 k2_6 ((v * T10 k) * 10 + 0)) := hw
        have hM9 := hw
        refine W.cs (g := F0 m 17 ls []) (cells' := 0) (slots' := 0) rfl rfl ?_
        refine wi_iinc (v := k + 1) (lv' := [(2, .int (iI (k + 1))), (0, .ref h), (1, .int (iI pw))]) hx hb d_Mo_tens_17 hl (k := 2) rfl rfl (by decide) rfl (fun ls hl => ?_)
        refine lv_goto (tgt := 2) hx hb d_Mo_tens_20 (by decide) ?_
        exact ih2 (k + 1) k2_6 g2_5 (by omega) (by rw [T10_s hk.1, ← Int.mul_assoc, ← Int.add_zero (v * T10 k * 10)]; exact hM9) (by omega) _ _ _ (lv_sub hl [1, 2, 0] rfl) (hP.sub [0, 3, 4, 1, 2] rfl) (hD.sub [0, 3, 4, 1, 2] (by decide) rfl) hS
  refine wi_iconst (n := 0) hx hb d_Mo_tens_0 ?_
  refine lv_istore_n (lv' := [(2, .int (iI 0)), (0, .ref h), (1, .int (iI pw))]) hx hb d_Mo_tens_1 rfl hl (by decide) rfl (fun ls hl => ?_)
  exact K_2 ((max (pw - 0) 0 : Int).toNat + 1) 0 pk pg (by omega) (by rw [T10_n (Int.le_refl 0), Int.mul_one]; exact hT) (by omega) _ _ _ (lv_sub hl [1, 2, 0] rfl) (hP.sub [0, 1, 2, 3, 4] rfl) (hD.sub [0, 1, 2, 3, 4] (by decide) rfl) hS
set_option maxHeartbeats 4000000 in
set_option maxRecDepth 100000 in
theorem c_Mo_setTens (l : Launch) (D : va_G) (E : EVt) (h0 : Nat) (h : Nat) (pn : Nat) (pa : Nat) (qn : Nat) (qa : Nat) (pg : Int → Int) (qg : Int → Int) (pk : Int) (qk : Int) (ee : Int) (be : Bool) (pw : Int) (hpw : -345 ≤ pw ∧ pw ≤ 345) : CT l D classes (tyl E) (EVX E) y_Mo_setTens (Cond.code y_Mo_setTens b_Mo_setTens 3 none :: TB) (rmK 2 0 0 49) 0 0 [.ref h0, .ref h, .int (iI pw)] [(h, .inr (8, [.int (bI be), .ref pn, .ref qn, .int (iI ee)])), (pn, .inr (7, [.ref pa, .int (iI pk)])), (pa, .inl (E.1, 640, .inl (ia pg))), (qn, .inr (7, [.ref qa, .int (iI qk)])), (qa, .inl (E.1, 640, .inl (ia qg)))] (S := (Int → Int) × (Int → Int) × Int × Int) (fun u => [(h, .inr (8, [.int (bI false), .ref pn, .ref qn, .int (iI 0)])), (pn, .inr (7, [.ref pa, .int (iI u.2.2.1)])), (pa, .inl (E.1, 640, .inl (ia u.1))), (qn, .inr (7, [.ref qa, .int (iI u.2.2.2)])), (qa, .inl (E.1, 640, .inl (ia u.2.1)))]) (fun _ => none) (fun u => (BigOK u.1 u.2.2.1 (1 * T10 pw)) ∧ (BigOK u.2.1 u.2.2.2 (1 * T10 (-pw)))) := by
  refine CT.ofv (eok E) (by decide) rfl (Nat.le_of_ble_eq_true rfl) ?_
  intro p e s m args below meth c A Q ls B hmn hP hD hS hl ret
  have B : Bd l D classes (tyl E) (EVX E) p m c b_Mo_setTens 3 s args (Cond.code y_Mo_setTens b_Mo_setTens 3 none :: TB) R_Mo A := B
  obtain ⟨⟨hx, hb, hml, hown, hts⟩, hX, hK, hE, hA⟩ := id B
  have hl : lv_has ls 3 [(0, .ref h0), (1, .ref h), (2, .int (iI pw))] := hl
  have hP : va_P D classes [(h, .inr (8, [.int (bI be), .ref pn, .ref qn, .int (iI ee)])), (pn, .inr (7, [.ref pa, .int (iI pk)])), (pa, .inl (E.1, 640, .inl (ia pg))), (qn, .inr (7, [.ref qa, .int (iI qk)])), (qa, .inl (E.1, 640, .inl (ia qg)))] s.heap := hP
  have hD : va_D A [(h, .inr (8, [.int (bI be), .ref pn, .ref qn, .int (iI ee)])), (pn, .inr (7, [.ref pa, .int (iI pk)])), (pa, .inl (E.1, 640, .inl (ia pg))), (qn, .inr (7, [.ref qa, .int (iI qk)])), (qa, .inl (E.1, 640, .inl (ia qg)))] := hD
  refine lv_aload_n hx hb d_Mo_setTens_0 rfl (lv_at hl 1 rfl) ?_
  refine wi_lconst (z := 1) hx hb d_Mo_setTens_1 (by decide) ?_
  refine wk_callV (As := [.long (lI 1)]) (rest := []) (wr := []) B gTB cl_Mo_169 (c_Num_set l D E h pn pa qn qa pg qg pk qk ee be 1 (by omega)) ⟨⟨rfl, rfl⟩, Nat.le_of_ble_eq_true rfl, Nat.le_of_ble_eq_true rfl⟩ hP hD hS [0, 1, 2, 3, 4] [] rfl rfl (by decide) 0 rfl rfl rfl ⟨hl.2.1, hl.1⟩ rfl (Nat.le_of_ble_eq_true rfl) d_Mo_setTens_2 ⟨Nat.le_of_ble_eq_true rfl, Nat.le_of_ble_eq_true rfl⟩ rfl (fun u H locs hw hP hD hS => ?_)
  obtain ⟨pg2_1, qg2_2, pk2_3, qk2_4⟩ := u
  have hP : va_P D classes [(h, .inr (8, [.int (bI false), .ref pn, .ref qn, .int (iI 0)])), (pn, .inr (7, [.ref pa, .int (iI pk2_3)])), (pa, .inl (E.1, 640, .inl (ia pg2_1))), (qn, .inr (7, [.ref qa, .int (iI qk2_4)])), (qa, .inl (E.1, 640, .inl (ia qg2_2)))] H := hP
  have hD : va_D A [(h, .inr (8, [.int (bI false), .ref pn, .ref qn, .int (iI 0)])), (pn, .inr (7, [.ref pa, .int (iI pk2_3)])), (pa, .inl (E.1, 640, .inl (ia pg2_1))), (qn, .inr (7, [.ref qa, .int (iI qk2_4)])), (qa, .inl (E.1, 640, .inl (ia qg2_2)))] := hD
  have hw : (BigOK pg2_1 pk2_3 1) ∧ (BigOK qg2_2 qk2_4 1) := hw
  obtain ⟨hPs, hQs⟩ := hw
  refine W.cs (g := F0 m 5 ls []) (cells' := 0) (slots' := 0) rfl rfl ?_
  refine lv_aload_n hx hb d_Mo_setTens_5 rfl (lv_at hl 1 rfl) ?_
  refine lv_iload_n hx hb d_Mo_setTens_6 rfl (lv_at hl 2 rfl) ?_
  refine wk_callS (As := [.ref h, .int (iI pw)]) (rest := []) (wr := []) B gTB cl_Mo_202 (c_Mo_tens l D E h pn pa qn qa pg2_1 qg2_2 pk2_3 qk2_4 0 false pw 1 1 (hPs) (hQs) (by omega) (T10_fit (by omega)) (T10_fit (by omega))) ⟨⟨rfl, rfl⟩, Nat.le_of_ble_eq_true rfl, Nat.le_of_ble_eq_true rfl⟩ hP hD hS [0, 1, 2, 3, 4] [] rfl rfl (by decide) ⟨hl.2.1, hl.1⟩ rfl (Nat.le_of_ble_eq_true rfl) d_Mo_setTens_7 ⟨Nat.le_of_ble_eq_true rfl, Nat.le_of_ble_eq_true rfl⟩ rfl (fun u H locs hw hP hD hS => ?_)
  obtain ⟨pg2_5, qg2_6, pk2_7, qk2_8⟩ := u
  have hP : va_P D classes [(h, .inr (8, [.int (bI false), .ref pn, .ref qn, .int (iI 0)])), (pn, .inr (7, [.ref pa, .int (iI pk2_7)])), (pa, .inl (E.1, 640, .inl (ia pg2_5))), (qn, .inr (7, [.ref qa, .int (iI qk2_8)])), (qa, .inl (E.1, 640, .inl (ia qg2_6)))] H := hP
  have hD : va_D A [(h, .inr (8, [.int (bI false), .ref pn, .ref qn, .int (iI 0)])), (pn, .inr (7, [.ref pa, .int (iI pk2_7)])), (pa, .inl (E.1, 640, .inl (ia pg2_5))), (qn, .inr (7, [.ref qa, .int (iI qk2_8)])), (qa, .inl (E.1, 640, .inl (ia qg2_6)))] := hD
  have hw : (BigOK pg2_5 pk2_7 (1 * T10 pw)) ∧ (BigOK qg2_6 qk2_8 (1 * T10 (-pw))) := hw
  obtain ⟨hT9, hB9⟩ := hw
  refine W.cs (g := F0 m 10 ls []) (cells' := 0) (slots' := 0) rfl rfl ?_
  exact ret (pg2_5, qg2_6, pk2_7, qk2_8) _ _ _ _ d_Mo_setTens_10 (show (BigOK pg2_5 pk2_7 (1 * T10 pw)) ∧ (BigOK qg2_6 qk2_8 (1 * T10 (-pw))) from ⟨hT9, hB9⟩) (hP.sub [0, 1, 2, 3, 4] rfl) (hD.sub [0, 1, 2, 3, 4] (by decide) rfl) hS
