/-! Scanner: takeClose, takeInfinity, isAtBracket -/
abbrev b_Scanner_takeClose : ByteArray := prog_7_method_7_code
def y_Scanner_takeClose : MethodName := ⟨"IntervalText$Scanner", "takeClose", "()Z"⟩
abbrev b_Scanner_takeInfinity : ByteArray := prog_7_method_8_code
def y_Scanner_takeInfinity : MethodName := ⟨"IntervalText$Scanner", "takeInfinity", "(Ljava/lang/String;)Z"⟩
abbrev b_Scanner_isAtBracket : ByteArray := prog_7_method_3_code
def y_Scanner_isAtBracket : MethodName := ⟨"IntervalText$Scanner", "isAtBracket", "()Z"⟩
theorem d_Scanner_takeClose_0 : decode b_Scanner_takeClose 0 = .ok (.aload_n 0, 1) := by decide +kernel
theorem d_Scanner_takeClose_1 : decode b_Scanner_takeClose 1 = .ok (.invokevirtual 55, 3) := by decide +kernel
theorem d_Scanner_takeClose_4 : decode b_Scanner_takeClose 4 = .ok (.aload_n 0, 1) := by decide +kernel
theorem d_Scanner_takeClose_5 : decode b_Scanner_takeClose 5 = .ok (.ldc 117, 2) := by decide +kernel
theorem d_Scanner_takeClose_7 : decode b_Scanner_takeClose 7 = .ok (.invokevirtual 76, 3) := by decide +kernel
theorem d_Scanner_takeClose_10 : decode b_Scanner_takeClose 10 = .ok (.ireturn, 1) := by decide +kernel
theorem d_Scanner_takeInfinity_0 : decode b_Scanner_takeInfinity 0 = .ok (.aload_n 0, 1) := by decide +kernel
theorem d_Scanner_takeInfinity_1 : decode b_Scanner_takeInfinity 1 = .ok (.aload_n 1, 1) := by decide +kernel
theorem d_Scanner_takeInfinity_2 : decode b_Scanner_takeInfinity 2 = .ok (.invokevirtual 76, 3) := by decide +kernel
theorem d_Scanner_takeInfinity_5 : decode b_Scanner_takeInfinity 5 = .ok (.ifCond .ne 5, 3) := by decide +kernel
theorem d_Scanner_takeInfinity_8 : decode b_Scanner_takeInfinity 8 = .ok (.iconst 0, 1) := by decide +kernel
theorem d_Scanner_takeInfinity_9 : decode b_Scanner_takeInfinity 9 = .ok (.ireturn, 1) := by decide +kernel
theorem d_Scanner_takeInfinity_10 : decode b_Scanner_takeInfinity 10 = .ok (.aload_n 0, 1) := by decide +kernel
theorem d_Scanner_takeInfinity_11 : decode b_Scanner_takeInfinity 11 = .ok (.ldc 119, 2) := by decide +kernel
theorem d_Scanner_takeInfinity_13 : decode b_Scanner_takeInfinity 13 = .ok (.invokevirtual 76, 3) := by decide +kernel
theorem d_Scanner_takeInfinity_16 : decode b_Scanner_takeInfinity 16 = .ok (.pop, 1) := by decide +kernel
theorem d_Scanner_takeInfinity_17 : decode b_Scanner_takeInfinity 17 = .ok (.iconst 1, 1) := by decide +kernel
theorem d_Scanner_takeInfinity_18 : decode b_Scanner_takeInfinity 18 = .ok (.ireturn, 1) := by decide +kernel
theorem d_Scanner_isAtBracket_0 : decode b_Scanner_isAtBracket 0 = .ok (.aload_n 0, 1) := by decide +kernel
theorem d_Scanner_isAtBracket_1 : decode b_Scanner_isAtBracket 1 = .ok (.invokevirtual 68, 3) := by decide +kernel
theorem d_Scanner_isAtBracket_4 : decode b_Scanner_isAtBracket 4 = .ok (.bipush 91, 2) := by decide +kernel
theorem d_Scanner_isAtBracket_6 : decode b_Scanner_isAtBracket 6 = .ok (.if_icmp .ne 7, 3) := by decide +kernel
theorem d_Scanner_isAtBracket_9 : decode b_Scanner_isAtBracket 9 = .ok (.iconst 1, 1) := by decide +kernel
theorem d_Scanner_isAtBracket_10 : decode b_Scanner_isAtBracket 10 = .ok (.goto 4, 3) := by decide +kernel
theorem d_Scanner_isAtBracket_13 : decode b_Scanner_isAtBracket 13 = .ok (.iconst 0, 1) := by decide +kernel
theorem d_Scanner_isAtBracket_14 : decode b_Scanner_isAtBracket 14 = .ok (.ireturn, 1) := by decide +kernel
theorem cl_Scanner_55 : CLinkV TB "IntervalText$Scanner" 55 "IntervalText$Scanner" y_Scanner_takeBlanks b_Scanner_takeBlanks 1 none 0 := ⟨⟨tb_t (List.mem_append_left _ (List.mem_of_getElem? (l := tables_1_1) (i := 232) rfl)) rfl, tb_t (List.mem_append_left _ (List.mem_of_getElem? (l := tables_1_1) (i := 5) rfl)) rfl, tb_t (List.mem_append_left _ (List.mem_of_getElem? (l := tables_1_1) (i := 235) rfl)) rfl, by decide +kernel, by decide +kernel, by decide +kernel⟩, tb_t (List.mem_append_left _ (List.mem_of_getElem? (l := tables_1_1) (i := 234) rfl)) rfl, tb_p 0 rfl⟩
set_option maxHeartbeats 4000000 in
set_option maxRecDepth 100000 in
theorem c_Scanner_takeClose (l : Launch) (D : va_G) (E : EVt) (h : Nat) (tp : Nat) (ar : Nat) (f1 : Nat) (f2 : Nat) (rd : Nat) (em : Bool) (ob : Bool) (oa : Bool) (pos : Int) (fr : Int) (ex : Int) (hp : Bool) (ta : Nat) (t : Int → Int) (n : Int) (hn : 0 ≤ n ∧ n ≤ 400) (hT : Tx t n) (hpos : 0 ≤ pos ∧ pos ≤ n) : CT l D classes (tyl E) (EVX E) y_Scanner_takeClose (Cond.code y_Scanner_takeClose b_Scanner_takeClose 1 (some .boolean) :: TB) (rmK 5 0 0 107) 0 0 [.ref h] [(h, .inr (4, [.ref tp, .ref ar, .ref f1, .ref f2, .ref rd, .int (bI em), .int (bI ob), .int (bI oa), .int (iI pos), .int (iI fr), .int (iI ex), .int (bI hp)])), (tp, .inr (3, [.ref ta, .int (iI n)])), (ta, .inl (E.2.1, 400, .inl (ia t)))] (S := Int × Bool) (fun u => [(h, .inr (4, [.ref tp, .ref ar, .ref f1, .ref f2, .ref rd, .int (bI em), .int (bI ob), .int (bI oa), .int (iI u.1), .int (iI fr), .int (iI ex), .int (bI hp)])), (tp, .inr (3, [.ref ta, .int (iI n)])), (ta, .inl (E.2.1, 400, .inl (ia t)))]) (fun u => some (.int (bI u.2))) (fun u => (u.2 = wdB t n (sk t n pos) 2) ∧ (u.1 = wq t n (sk t n pos) 2) ∧ (pos ≤ u.1 ∧ u.1 ≤ n)) := by
  refine CT.ofz (fv := fun (u : Int × Bool) => u.2) (eok E) (by decide) rfl (Nat.le_of_ble_eq_true rfl) ?_
  intro p e s m args below meth c A Q ls B hmn hP hD hS hl ret
  have B : Bd l D classes (tyl E) (EVX E) p m c b_Scanner_takeClose 1 s args (Cond.code y_Scanner_takeClose b_Scanner_takeClose 1 (some .boolean) :: TB) R_Scanner A := B
  obtain ⟨⟨hx, hb, hml, hown, hts⟩, hX, hK, hE, hA⟩ := id B
  have hl : lv_has ls 1 [(0, .ref h)] := hl
  have hP : va_P D classes [(h, .inr (4, [.ref tp, .ref ar, .ref f1, .ref f2, .ref rd, .int (bI em), .int (bI ob), .int (bI oa), .int (iI pos), .int (iI fr), .int (iI ex), .int (bI hp)])), (tp, .inr (3, [.ref ta, .int (iI n)])), (ta, .inl (E.2.1, 400, .inl (ia t)))] s.heap := hP
  have hD : va_D A [(h, .inr (4, [.ref tp, .ref ar, .ref f1, .ref f2, .ref rd, .int (bI em), .int (bI ob), .int (bI oa), .int (iI pos), .int (iI fr), .int (iI ex), .int (bI hp)])), (tp, .inr (3, [.ref ta, .int (iI n)])), (ta, .inl (E.2.1, 400, .inl (ia t)))] := hD
  refine lv_aload_n hx hb d_Scanner_takeClose_0 rfl (lv_at hl 0 rfl) ?_
  refine wk_callV (As := []) (rest := []) (wr := []) B gTB cl_Scanner_55 (c_Scanner_takeBlanks l D E h tp ar f1 f2 rd em ob oa pos fr ex hp ta t n (by omega) (hT) (by omega)) ⟨⟨rfl, rfl⟩, Nat.le_of_ble_eq_true rfl, Nat.le_of_ble_eq_true rfl⟩ hP hD hS [0, 1, 2] [] rfl rfl (by decide) 0 rfl rfl rfl ⟨hl.2.1, hl.1⟩ rfl (Nat.le_of_ble_eq_true rfl) d_Scanner_takeClose_1 ⟨Nat.le_of_ble_eq_true rfl, Nat.le_of_ble_eq_true rfl⟩ rfl (fun q1 H locs hw hP hD hS => ?_)
  have hP : va_P D classes [(h, .inr (4, [.ref tp, .ref ar, .ref f1, .ref f2, .ref rd, .int (bI em), .int (bI ob), .int (bI oa), .int (iI q1), .int (iI fr), .int (iI ex), .int (bI hp)])), (tp, .inr (3, [.ref ta, .int (iI n)])), (ta, .inl (E.2.1, 400, .inl (ia t)))] H := hP
  have hD : va_D A [(h, .inr (4, [.ref tp, .ref ar, .ref f1, .ref f2, .ref rd, .int (bI em), .int (bI ob), .int (bI oa), .int (iI q1), .int (iI fr), .int (iI ex), .int (bI hp)])), (tp, .inr (3, [.ref ta, .int (iI n)])), (ta, .inl (E.2.1, 400, .inl (ia t)))] := hD
  have hw : (q1 = sk t n pos) ∧ (pos ≤ q1 ∧ q1 ≤ n) := hw
  obtain ⟨hq1, hq12⟩ := hw
  refine W.cs (g := F0 m 4 ls []) (cells' := 0) (slots' := 0) rfl rfl ?_
  subst hq1
  refine W.eq (g2 := F0 m 4 ls []) rfl ?_
  refine lv_aload_n hx hb d_Scanner_takeClose_4 rfl (lv_at hl 0 rfl) ?_
  refine va_ldcS hx hb hown (sr_2 hE) d_Scanner_takeClose_5 ?_
  refine wk_callV (As := [.ref (E.2.2.1 2)]) (rest := []) (wr := []) B gTB cl_Scanner_76 (c_Scanner_takeWord l D E h tp ar f1 f2 rd em ob oa (sk t n pos) fr ex hp ta t n 2 (by omega) (hT) (by omega) (by omega)) ⟨⟨rfl, rfl⟩, Nat.le_of_ble_eq_true rfl, Nat.le_of_ble_eq_true rfl⟩ hP hD hS [0, 1, 2] [] rfl rfl (by decide) 0 rfl rfl rfl ⟨hl.2.1, hl.1⟩ rfl (Nat.le_of_ble_eq_true rfl) d_Scanner_takeClose_7 ⟨Nat.le_of_ble_eq_true rfl, Nat.le_of_ble_eq_true rfl⟩ rfl (fun u H locs hw hP hD hS => ?_)
  obtain ⟨q2, r_1⟩ := u
  have hP : va_P D classes [(h, .inr (4, [.ref tp, .ref ar, .ref f1, .ref f2, .ref rd, .int (bI em), .int (bI ob), .int (bI oa), .int (iI q2), .int (iI fr), .int (iI ex), .int (bI hp)])), (tp, .inr (3, [.ref ta, .int (iI n)])), (ta, .inl (E.2.1, 400, .inl (ia t)))] H := hP
  have hD : va_D A [(h, .inr (4, [.ref tp, .ref ar, .ref f1, .ref f2, .ref rd, .int (bI em), .int (bI ob), .int (bI oa), .int (iI q2), .int (iI fr), .int (iI ex), .int (bI hp)])), (tp, .inr (3, [.ref ta, .int (iI n)])), (ta, .inl (E.2.1, 400, .inl (ia t)))] := hD
  have hw : (r_1 = wdB t n (sk t n pos) 2) ∧ (q2 = wq t n (sk t n pos) 2) ∧ ((sk t n pos) ≤ q2 ∧ q2 ≤ n) := hw
  obtain ⟨hr_2, hqq, hq2_3⟩ := hw
  refine W.cs (g := F0 m 10 ls [.int (bI r_1)]) (cells' := 0) (slots' := 0) rfl rfl ?_
  subst hr_2
  exact ret (q2, wdB t n (sk t n pos) 2) _ _ _ _ d_Scanner_takeClose_10 (show ((wdB t n (sk t n pos) 2) = wdB t n (sk t n pos) 2) ∧ (q2 = wq t n (sk t n pos) 2) ∧ (pos ≤ q2 ∧ q2 ≤ n) from ⟨rfl, hqq, by omega⟩) (hP.sub [0, 1, 2] rfl) (hD.sub [0, 1, 2] (by decide) rfl) hS
set_option maxHeartbeats 4000000 in
set_option maxRecDepth 100000 in
theorem c_Scanner_takeInfinity (l : Launch) (D : va_G) (E : EVt) (h : Nat) (tp : Nat) (ar : Nat) (f1 : Nat) (f2 : Nat) (rd : Nat) (em : Bool) (ob : Bool) (oa : Bool) (pos : Int) (fr : Int) (ex : Int) (hp : Bool) (ta : Nat) (t : Int → Int) (n : Int) (i : Nat) (hn : 0 ≤ n ∧ n ≤ 400) (hT : Tx t n) (hpos : 0 ≤ pos ∧ pos ≤ n) (hi : i < 43) : CT l D classes (tyl E) (EVX E) y_Scanner_takeInfinity (Cond.code y_Scanner_takeInfinity b_Scanner_takeInfinity 2 (some .boolean) :: TB) (rmK 5 0 0 107) 0 0 [.ref h, .ref (E.2.2.1 i)] [(h, .inr (4, [.ref tp, .ref ar, .ref f1, .ref f2, .ref rd, .int (bI em), .int (bI ob), .int (bI oa), .int (iI pos), .int (iI fr), .int (iI ex), .int (bI hp)])), (tp, .inr (3, [.ref ta, .int (iI n)])), (ta, .inl (E.2.1, 400, .inl (ia t)))] (S := Int × Bool) (fun u => [(h, .inr (4, [.ref tp, .ref ar, .ref f1, .ref f2, .ref rd, .int (bI em), .int (bI ob), .int (bI oa), .int (iI u.1), .int (iI fr), .int (iI ex), .int (bI hp)])), (tp, .inr (3, [.ref ta, .int (iI n)])), (ta, .inl (E.2.1, 400, .inl (ia t)))]) (fun u => some (.int (bI u.2))) (fun u => (u.2 = wdB t n pos i) ∧ (u.1 = infq t n pos i) ∧ (pos ≤ u.1 ∧ u.1 ≤ n)) := by
  refine CT.ofz (fv := fun (u : Int × Bool) => u.2) (eok E) (by decide) rfl (Nat.le_of_ble_eq_true rfl) ?_
  intro p e s m args below meth c A Q ls B hmn hP hD hS hl ret
  have B : Bd l D classes (tyl E) (EVX E) p m c b_Scanner_takeInfinity 2 s args (Cond.code y_Scanner_takeInfinity b_Scanner_takeInfinity 2 (some .boolean) :: TB) R_Scanner A := B
  obtain ⟨⟨hx, hb, hml, hown, hts⟩, hX, hK, hE, hA⟩ := id B
  have hl : lv_has ls 2 [(0, .ref h), (1, .ref (E.2.2.1 i))] := hl
  have hP : va_P D classes [(h, .inr (4, [.ref tp, .ref ar, .ref f1, .ref f2, .ref rd, .int (bI em), .int (bI ob), .int (bI oa), .int (iI pos), .int (iI fr), .int (iI ex), .int (bI hp)])), (tp, .inr (3, [.ref ta, .int (iI n)])), (ta, .inl (E.2.1, 400, .inl (ia t)))] s.heap := hP
  have hD : va_D A [(h, .inr (4, [.ref tp, .ref ar, .ref f1, .ref f2, .ref rd, .int (bI em), .int (bI ob), .int (bI oa), .int (iI pos), .int (iI fr), .int (iI ex), .int (bI hp)])), (tp, .inr (3, [.ref ta, .int (iI n)])), (ta, .inl (E.2.1, 400, .inl (ia t)))] := hD
  refine lv_aload_n hx hb d_Scanner_takeInfinity_0 rfl (lv_at hl 0 rfl) ?_
  refine lv_aload_n hx hb d_Scanner_takeInfinity_1 rfl (lv_at hl 1 rfl) ?_
  refine wk_callV (As := [.ref (E.2.2.1 i)]) (rest := []) (wr := []) B gTB cl_Scanner_76 (c_Scanner_takeWord l D E h tp ar f1 f2 rd em ob oa pos fr ex hp ta t n i (by omega) (hT) (by omega) (by omega)) ⟨⟨rfl, rfl⟩, Nat.le_of_ble_eq_true rfl, Nat.le_of_ble_eq_true rfl⟩ hP hD hS [0, 1, 2] [] rfl rfl (by decide) 0 rfl rfl rfl ⟨hl.2.1, hl.1⟩ rfl (Nat.le_of_ble_eq_true rfl) d_Scanner_takeInfinity_2 ⟨Nat.le_of_ble_eq_true rfl, Nat.le_of_ble_eq_true rfl⟩ rfl (fun u H locs hw hP hD hS => ?_)
  obtain ⟨q1, r_1⟩ := u
  have hP : va_P D classes [(h, .inr (4, [.ref tp, .ref ar, .ref f1, .ref f2, .ref rd, .int (bI em), .int (bI ob), .int (bI oa), .int (iI q1), .int (iI fr), .int (iI ex), .int (bI hp)])), (tp, .inr (3, [.ref ta, .int (iI n)])), (ta, .inl (E.2.1, 400, .inl (ia t)))] H := hP
  have hD : va_D A [(h, .inr (4, [.ref tp, .ref ar, .ref f1, .ref f2, .ref rd, .int (bI em), .int (bI ob), .int (bI oa), .int (iI q1), .int (iI fr), .int (iI ex), .int (bI hp)])), (tp, .inr (3, [.ref ta, .int (iI n)])), (ta, .inl (E.2.1, 400, .inl (ia t)))] := hD
  have hw : (r_1 = wdB t n pos i) ∧ (q1 = wq t n pos i) ∧ (pos ≤ q1 ∧ q1 ≤ n) := hw
  obtain ⟨hr_2, hq1, hq12⟩ := hw
  refine W.cs (g := F0 m 5 ls [.int (bI r_1)]) (cells' := 0) (slots' := 0) rfl rfl ?_
  subst hr_2
  refine wb_if_ne (tgt := 10) hx hb d_Scanner_takeInfinity_5 (by decide) (fun c_3 => ?_) (fun c_3 => ?_)
  · skip
    rw [wq_t c_3] at hq1
    subst hq1
    refine lv_aload_n hx hb d_Scanner_takeInfinity_10 rfl (lv_at hl 0 rfl) ?_
    refine va_ldcS hx hb hown (sr_5 hE) d_Scanner_takeInfinity_11 ?_
    refine wk_callV (As := [.ref (E.2.2.1 5)]) (rest := []) (wr := []) B gTB cl_Scanner_76 (c_Scanner_takeWord l D E h tp ar f1 f2 rd em ob oa (pos + (strLen i : Int)) fr ex hp ta t n 5 (by omega) (hT) (by omega) (by omega)) ⟨⟨rfl, rfl⟩, Nat.le_of_ble_eq_true rfl, Nat.le_of_ble_eq_true rfl⟩ hP hD hS [0, 1, 2] [] rfl rfl (by decide) 0 rfl rfl rfl ⟨hl.2.1, hl.1⟩ rfl (Nat.le_of_ble_eq_true rfl) d_Scanner_takeInfinity_13 ⟨Nat.le_of_ble_eq_true rfl, Nat.le_of_ble_eq_true rfl⟩ rfl (fun u H locs hw hP hD hS => ?_)
    obtain ⟨q2, r_4⟩ := u
    have hP : va_P D classes [(h, .inr (4, [.ref tp, .ref ar, .ref f1, .ref f2, .ref rd, .int (bI em), .int (bI ob), .int (bI oa), .int (iI q2), .int (iI fr), .int (iI ex), .int (bI hp)])), (tp, .inr (3, [.ref ta, .int (iI n)])), (ta, .inl (E.2.1, 400, .inl (ia t)))] H := hP
    have hD : va_D A [(h, .inr (4, [.ref tp, .ref ar, .ref f1, .ref f2, .ref rd, .int (bI em), .int (bI ob), .int (bI oa), .int (iI q2), .int (iI fr), .int (iI ex), .int (bI hp)])), (tp, .inr (3, [.ref ta, .int (iI n)])), (ta, .inl (E.2.1, 400, .inl (ia t)))] := hD
    have hw : (r_4 = wdB t n (pos + (strLen i : Int)) 5) ∧ (q2 = wq t n (pos + (strLen i : Int)) 5) ∧ ((pos + (strLen i : Int)) ≤ q2 ∧ q2 ≤ n) := hw
    obtain ⟨hr_5, hqq, hqq2⟩ := hw
    refine W.cs (g := F0 m 16 ls [.int (bI r_4)]) (cells' := 0) (slots' := 0) rfl rfl ?_
    subst hr_5
    refine lv_pop hx hb d_Scanner_takeInfinity_16 rfl ?_
    refine wi_iconst (n := 1) hx hb d_Scanner_takeInfinity_17 ?_
    refine w_as1 ?_
    exact ret (q2, true) _ _ _ _ d_Scanner_takeInfinity_18 (show (true = wdB t n pos i) ∧ (q2 = infq t n pos i) ∧ (pos ≤ q2 ∧ q2 ≤ n) from ⟨c_3.symm, by unfold infq; rw [c_3, if_pos rfl]; exact hqq, by omega⟩) (hP.sub [0, 1, 2] rfl) (hD.sub [0, 1, 2] (by decide) rfl) hS
  · skip
    rw [wq_f c_3] at hq1
    have hq1 := hq1.symm
    subst hq1
    refine wi_iconst (n := 0) hx hb d_Scanner_takeInfinity_8 ?_
    refine w_as0 ?_
    exact ret (pos, false) _ _ _ _ d_Scanner_takeInfinity_9 (show (false = wdB t n pos i) ∧ (pos = infq t n pos i) ∧ (pos ≤ pos ∧ pos ≤ n) from ⟨c_3.symm, by unfold infq; rw [c_3]; rfl, by omega⟩) (hP.sub [0, 1, 2] rfl) (hD.sub [0, 1, 2] (by decide) rfl) hS
set_option maxHeartbeats 4000000 in
set_option maxRecDepth 100000 in
theorem c_Scanner_isAtBracket (l : Launch) (D : va_G) (E : EVt) (h : Nat) (tp : Nat) (ar : Nat) (f1 : Nat) (f2 : Nat) (rd : Nat) (em : Bool) (ob : Bool) (oa : Bool) (pos : Int) (fr : Int) (ex : Int) (hp : Bool) (ta : Nat) (t : Int → Int) (n : Int) (hn : 0 ≤ n ∧ n ≤ 400) (hT : Tx t n) (hpos : 0 ≤ pos ∧ pos ≤ n) : CT l D classes (tyl E) (EVX E) y_Scanner_isAtBracket (Cond.code y_Scanner_isAtBracket b_Scanner_isAtBracket 1 (some .boolean) :: TB) (rmK 2 0 0 41) 0 0 [.ref h] [(h, .inr (4, [.ref tp, .ref ar, .ref f1, .ref f2, .ref rd, .int (bI em), .int (bI ob), .int (bI oa), .int (iI pos), .int (iI fr), .int (iI ex), .int (bI hp)])), (tp, .inr (3, [.ref ta, .int (iI n)])), (ta, .inl (E.2.1, 400, .inl (ia t)))] (S := Bool) (fun _ => [(h, .inr (4, [.ref tp, .ref ar, .ref f1, .ref f2, .ref rd, .int (bI em), .int (bI ob), .int (bI oa), .int (iI pos), .int (iI fr), .int (iI ex), .int (bI hp)])), (tp, .inr (3, [.ref ta, .int (iI n)])), (ta, .inl (E.2.1, 400, .inl (ia t)))]) (fun u => some (.int (bI u))) (fun u => (u = decide (rat t n pos = 91))) := by
  refine CT.ofz (fv := fun (u : Bool) => u) (eok E) (by decide) rfl (Nat.le_of_ble_eq_true rfl) ?_
  intro p e s m args below meth c A Q ls B hmn hP hD hS hl ret
  have B : Bd l D classes (tyl E) (EVX E) p m c b_Scanner_isAtBracket 1 s args (Cond.code y_Scanner_isAtBracket b_Scanner_isAtBracket 1 (some .boolean) :: TB) R_Scanner A := B
  obtain ⟨⟨hx, hb, hml, hown, hts⟩, hX, hK, hE, hA⟩ := id B
  have hl : lv_has ls 1 [(0, .ref h)] := hl
  have hP : va_P D classes [(h, .inr (4, [.ref tp, .ref ar, .ref f1, .ref f2, .ref rd, .int (bI em), .int (bI ob), .int (bI oa), .int (iI pos), .int (iI fr), .int (iI ex), .int (bI hp)])), (tp, .inr (3, [.ref ta, .int (iI n)])), (ta, .inl (E.2.1, 400, .inl (ia t)))] s.heap := hP
  have hD : va_D A [(h, .inr (4, [.ref tp, .ref ar, .ref f1, .ref f2, .ref rd, .int (bI em), .int (bI ob), .int (bI oa), .int (iI pos), .int (iI fr), .int (iI ex), .int (bI hp)])), (tp, .inr (3, [.ref ta, .int (iI n)])), (ta, .inl (E.2.1, 400, .inl (ia t)))] := hD
  have hrr := rat_rng hT pos
  refine lv_aload_n hx hb d_Scanner_isAtBracket_0 rfl (lv_at hl 0 rfl) ?_
  refine wk_callV (As := []) (rest := []) (wr := []) B gTB cl_Scanner_68 (c_Scanner_peek l D E h tp ar f1 f2 rd em ob oa pos fr ex hp ta t n (by omega) (hT) (by omega)) ⟨⟨rfl, rfl⟩, Nat.le_of_ble_eq_true rfl, Nat.le_of_ble_eq_true rfl⟩ hP hD hS [0, 1, 2] [] rfl rfl (by decide) 0 rfl rfl rfl ⟨hl.2.1, hl.1⟩ rfl (Nat.le_of_ble_eq_true rfl) d_Scanner_isAtBracket_1 ⟨Nat.le_of_ble_eq_true rfl, Nat.le_of_ble_eq_true rfl⟩ rfl (fun r_1 H locs hw hP hD hS => ?_)
  have hP : va_P D classes [(h, .inr (4, [.ref tp, .ref ar, .ref f1, .ref f2, .ref rd, .int (bI em), .int (bI ob), .int (bI oa), .int (iI pos), .int (iI fr), .int (iI ex), .int (bI hp)])), (tp, .inr (3, [.ref ta, .int (iI n)])), (ta, .inl (E.2.1, 400, .inl (ia t)))] H := hP
  have hD : va_D A [(h, .inr (4, [.ref tp, .ref ar, .ref f1, .ref f2, .ref rd, .int (bI em), .int (bI ob), .int (bI oa), .int (iI pos), .int (iI fr), .int (iI ex), .int (bI hp)])), (tp, .inr (3, [.ref ta, .int (iI n)])), (ta, .inl (E.2.1, 400, .inl (ia t)))] := hD
  have hw : (r_1 = rat t n pos) := hw
  have hr_2 := hw
  refine W.cs (g := F0 m 4 ls [.int (iI r_1)]) (cells' := 0) (slots' := 0) rfl rfl ?_
  subst hr_2
  refine wi_bipush hx hb d_Scanner_isAtBracket_4 (by decide) ?_
  refine wi_icmp_ne (tgt := 13) hx hb d_Scanner_isAtBracket_6 (by decide) (by omega) (by omega) (fun c_3 => ?_) (fun c_3 => ?_)
  · skip
    refine wi_iconst (n := 0) hx hb d_Scanner_isAtBracket_13 ?_
    refine w_as0 ?_
    exact ret false _ _ _ _ d_Scanner_isAtBracket_14 (show (false = decide (rat t n pos = 91)) from ((decide_eq_false (by omega)).symm)) (hP.sub [0, 1, 2] rfl) (hD.sub [0, 1, 2] (by decide) rfl) hS
  · skip
    refine wi_iconst (n := 1) hx hb d_Scanner_isAtBracket_9 ?_
    refine lv_goto (tgt := 14) hx hb d_Scanner_isAtBracket_10 (by decide) ?_
    refine w_as1 ?_
    exact ret true _ _ _ _ d_Scanner_isAtBracket_14 (show (true = decide (rat t n pos = 91)) from ((decide_eq_true (by omega)).symm)) (hP.sub [0, 1, 2] rfl) (hD.sub [0, 1, 2] (by decide) rfl) hS
