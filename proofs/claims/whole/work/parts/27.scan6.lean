/-! Scanner: start -/
abbrev b_Scanner_start : ByteArray := prog_7_method_2_code
def y_Scanner_start : MethodName := ⟨"IntervalText$Scanner", "start", "()V"⟩
theorem d_Scanner_start_0 : decode b_Scanner_start 0 = .ok (.aload_n 0, 1) := by decide +kernel
theorem d_Scanner_start_1 : decode b_Scanner_start 1 = .ok (.getfield 9, 3) := by decide +kernel
theorem d_Scanner_start_4 : decode b_Scanner_start 4 = .ok (.invokevirtual 36, 3) := by decide +kernel
theorem d_Scanner_start_7 : decode b_Scanner_start 7 = .ok (.aload_n 0, 1) := by decide +kernel
theorem d_Scanner_start_8 : decode b_Scanner_start 8 = .ok (.getfield 9, 3) := by decide +kernel
theorem d_Scanner_start_11 : decode b_Scanner_start 11 = .ok (.getfield 41, 3) := by decide +kernel
theorem d_Scanner_start_14 : decode b_Scanner_start 14 = .ok (.ifCond .le 41, 3) := by decide +kernel
theorem d_Scanner_start_17 : decode b_Scanner_start 17 = .ok (.aload_n 0, 1) := by decide +kernel
theorem d_Scanner_start_18 : decode b_Scanner_start 18 = .ok (.getfield 9, 3) := by decide +kernel
theorem d_Scanner_start_21 : decode b_Scanner_start 21 = .ok (.aload_n 0, 1) := by decide +kernel
theorem d_Scanner_start_22 : decode b_Scanner_start 22 = .ok (.getfield 9, 3) := by decide +kernel
theorem d_Scanner_start_25 : decode b_Scanner_start 25 = .ok (.getfield 41, 3) := by decide +kernel
theorem d_Scanner_start_28 : decode b_Scanner_start 28 = .ok (.iconst 1, 1) := by decide +kernel
theorem d_Scanner_start_29 : decode b_Scanner_start 29 = .ok (.isub, 1) := by decide +kernel
theorem d_Scanner_start_30 : decode b_Scanner_start 30 = .ok (.invokevirtual 45, 3) := by decide +kernel
theorem d_Scanner_start_33 : decode b_Scanner_start 33 = .ok (.invokestatic 49, 3) := by decide +kernel
theorem d_Scanner_start_36 : decode b_Scanner_start 36 = .ok (.ifCond .eq 19, 3) := by decide +kernel
theorem d_Scanner_start_39 : decode b_Scanner_start 39 = .ok (.aload_n 0, 1) := by decide +kernel
theorem d_Scanner_start_40 : decode b_Scanner_start 40 = .ok (.getfield 9, 3) := by decide +kernel
theorem d_Scanner_start_43 : decode b_Scanner_start 43 = .ok (.dup, 1) := by decide +kernel
theorem d_Scanner_start_44 : decode b_Scanner_start 44 = .ok (.getfield 41, 3) := by decide +kernel
theorem d_Scanner_start_47 : decode b_Scanner_start 47 = .ok (.iconst 1, 1) := by decide +kernel
theorem d_Scanner_start_48 : decode b_Scanner_start 48 = .ok (.isub, 1) := by decide +kernel
theorem d_Scanner_start_49 : decode b_Scanner_start 49 = .ok (.putfield 41, 3) := by decide +kernel
theorem d_Scanner_start_52 : decode b_Scanner_start 52 = .ok (.goto (-45), 3) := by decide +kernel
theorem d_Scanner_start_55 : decode b_Scanner_start 55 = .ok (.aload_n 0, 1) := by decide +kernel
theorem d_Scanner_start_56 : decode b_Scanner_start 56 = .ok (.iconst 0, 1) := by decide +kernel
theorem d_Scanner_start_57 : decode b_Scanner_start 57 = .ok (.putfield 53, 3) := by decide +kernel
theorem d_Scanner_start_60 : decode b_Scanner_start 60 = .ok (.aload_n 0, 1) := by decide +kernel
theorem d_Scanner_start_61 : decode b_Scanner_start 61 = .ok (.invokevirtual 55, 3) := by decide +kernel
theorem d_Scanner_start_64 : decode b_Scanner_start 64 = .ok (.aload_n 0, 1) := by decide +kernel
theorem d_Scanner_start_65 : decode b_Scanner_start 65 = .ok (.iconst 0, 1) := by decide +kernel
theorem d_Scanner_start_66 : decode b_Scanner_start 66 = .ok (.putfield 58, 3) := by decide +kernel
theorem d_Scanner_start_69 : decode b_Scanner_start 69 = .ok (.aload_n 0, 1) := by decide +kernel
theorem d_Scanner_start_70 : decode b_Scanner_start 70 = .ok (.iconst 0, 1) := by decide +kernel
theorem d_Scanner_start_71 : decode b_Scanner_start 71 = .ok (.putfield 62, 3) := by decide +kernel
theorem d_Scanner_start_74 : decode b_Scanner_start 74 = .ok (.aload_n 0, 1) := by decide +kernel
theorem d_Scanner_start_75 : decode b_Scanner_start 75 = .ok (.iconst 0, 1) := by decide +kernel
theorem d_Scanner_start_76 : decode b_Scanner_start 76 = .ok (.putfield 65, 3) := by decide +kernel
theorem d_Scanner_start_79 : decode b_Scanner_start 79 = .ok (.return_, 1) := by decide +kernel
theorem fl_Scanner_58 : FLink TB classes "IntervalText$Scanner" 58 R_Scanner F_Scanner 12 4 5 := ⟨rfl, by decide, i_Scanner, tb_t (List.mem_append_left _ (List.mem_of_getElem? (l := tables_1_1) (i := 129) rfl)) rfl⟩
theorem fl_Scanner_62 : FLink TB classes "IntervalText$Scanner" 62 R_Scanner F_Scanner 12 4 6 := ⟨rfl, by decide, i_Scanner, tb_t (List.mem_append_left _ (List.mem_of_getElem? (l := tables_1_1) (i := 131) rfl)) rfl⟩
theorem fl_Scanner_65 : FLink TB classes "IntervalText$Scanner" 65 R_Scanner F_Scanner 12 4 7 := ⟨rfl, by decide, i_Scanner, tb_t (List.mem_append_left _ (List.mem_of_getElem? (l := tables_1_1) (i := 133) rfl)) rfl⟩
theorem fp_Scanner_5 : FPut R_Scanner F_Scanner 12 5 .boolean false := ⟨e_Scanner, n_Scanner, rfl, by decide +kernel⟩
theorem fp_Scanner_6 : FPut R_Scanner F_Scanner 12 6 .boolean false := ⟨e_Scanner, n_Scanner, rfl, by decide +kernel⟩
theorem fp_Scanner_7 : FPut R_Scanner F_Scanner 12 7 .boolean false := ⟨e_Scanner, n_Scanner, rfl, by decide +kernel⟩
theorem cl_Scanner_36 : CLinkV TB "IntervalText$Scanner" 36 "IntervalText$Row" y_Row_toLowerCase b_Row_toLowerCase 2 none 0 := ⟨⟨tb_t (List.mem_append_left _ (List.mem_of_getElem? (l := tables_1_1) (i := 221) rfl)) rfl, tb_t (List.mem_append_left _ (List.mem_of_getElem? (l := tables_1_1) (i := 2) rfl)) rfl, tb_t (List.mem_append_left _ (List.mem_of_getElem? (l := tables_1_1) (i := 224) rfl)) rfl, by decide +kernel, by decide +kernel, by decide +kernel⟩, tb_t (List.mem_append_left _ (List.mem_of_getElem? (l := tables_1_1) (i := 222) rfl)) rfl, tb_t (List.mem_append_left _ (List.mem_of_getElem? (l := tables_1_1) (i := 223) rfl)) rfl⟩
set_option maxHeartbeats 4000000 in
set_option maxRecDepth 100000 in
theorem c_Scanner_start (l : Launch) (D : va_G) (E : EVt) (h : Nat) (tp : Nat) (ar : Nat) (f1 : Nat) (f2 : Nat) (rd : Nat) (em : Bool) (ob : Bool) (oa : Bool) (pos : Int) (fr : Int) (ex : Int) (hp : Bool) (ta : Nat) (t : Int → Int) (n : Int) (hn : 0 ≤ n ∧ n ≤ 400) (hT : Tx t n) : CT l D classes (tyl E) (EVX E) y_Scanner_start (Cond.code y_Scanner_start b_Scanner_start 1 none :: TB) (rmK 3 0 0 61) 0 0 [.ref h] [(h, .inr (4, [.ref tp, .ref ar, .ref f1, .ref f2, .ref rd, .int (bI em), .int (bI ob), .int (bI oa), .int (iI pos), .int (iI fr), .int (iI ex), .int (bI hp)])), (tp, .inr (3, [.ref ta, .int (iI n)])), (ta, .inl (E.2.1, 400, .inl (ia t)))] (S := Int × Int × (Int → Int)) (fun u => [(h, .inr (4, [.ref tp, .ref ar, .ref f1, .ref f2, .ref rd, .int (bI false), .int (bI false), .int (bI false), .int (iI u.1), .int (iI fr), .int (iI ex), .int (bI hp)])), (tp, .inr (3, [.ref ta, .int (iI u.2.1)])), (ta, .inl (E.2.1, 400, .inl (ia u.2.2)))]) (fun _ => none) (fun u => (LowT t u.2.2 n n) ∧ (u.2.1 = trR u.2.2 n) ∧ (0 ≤ u.2.1 ∧ u.2.1 ≤ n) ∧ (u.1 = sk u.2.2 u.2.1 0) ∧ (0 ≤ u.1 ∧ u.1 ≤ u.2.1)) := by
  refine CT.ofv (eok E) (by decide) rfl (Nat.le_of_ble_eq_true rfl) ?_
  intro p e s m args below meth c A Q ls B hmn hP hD hS hl ret
  have B : Bd l D classes (tyl E) (EVX E) p m c b_Scanner_start 1 s args (Cond.code y_Scanner_start b_Scanner_start 1 none :: TB) R_Scanner A := B
  obtain ⟨⟨hx, hb, hml, hown, hts⟩, hX, hK, hE, hA⟩ := id B
  have hl : lv_has ls 1 [(0, .ref h)] := hl
  have hP : va_P D classes [(h, .inr (4, [.ref tp, .ref ar, .ref f1, .ref f2, .ref rd, .int (bI em), .int (bI ob), .int (bI oa), .int (iI pos), .int (iI fr), .int (iI ex), .int (bI hp)])), (tp, .inr (3, [.ref ta, .int (iI n)])), (ta, .inl (E.2.1, 400, .inl (ia t)))] s.heap := hP
  have hD : va_D A [(h, .inr (4, [.ref tp, .ref ar, .ref f1, .ref f2, .ref rd, .int (bI em), .int (bI ob), .int (bI oa), .int (iI pos), .int (iI fr), .int (iI ex), .int (bI hp)])), (tp, .inr (3, [.ref ta, .int (iI n)])), (ta, .inl (E.2.1, 400, .inl (ia t)))] := hD
  have K_7 : ∀ (fuel7 : Nat) (n1 : Int) (t1 : Int → Int) (hlo : LowT t t1 n n) (hn1 : 0 ≤ n1 ∧ n1 ≤ n) (htr : trR t1 n = trR t1 n1) (hf7 : n1 < (fuel7 : Int)) (ls : Array Slot) (H : Heap) (locs : List Loc), lv_has ls 1 [(0, .ref h)] → va_P D classes [(h, .inr (4, [.ref tp, .ref ar, .ref f1, .ref f2, .ref rd, .int (bI em), .int (bI ob), .int (bI oa), .int (iI pos), .int (iI fr), .int (iI ex), .int (bI hp)])), (tp, .inr (3, [.ref ta, .int (iI n1)])), (ta, .inl (E.2.1, 400, .inl (ia t1)))] H → va_D A [(h, .inr (4, [.ref tp, .ref ar, .ref f1, .ref f2, .ref rd, .int (bI em), .int (bI ob), .int (bI oa), .int (iI pos), .int (iI fr), .int (iI ex), .int (bI hp)])), (tp, .inr (3, [.ref ta, .int (iI n1)])), (ta, .inl (E.2.1, 400, .inl (ia t1)))] → va_S A s.heap H locs → W p l e (rmK 3 0 0 61) s m args below meth c H locs 0 0 Q (F0 m 7 ls []) := by
    intro fuel7
    induction fuel7 with
    | zero =>
      intro n1 t1 hlo hn1 htr hf7 ls H locs hl hP hD hS
      exfalso; omega
    | succ fuel7 ih7 =>
      intro n1 t1 hlo hn1 htr hf7 ls H locs hl hP hD hS
      have hT1 := LowT_Tx hlo hT
      have hrr := rat_rng (Tx_sub hT1 hn1.2) (n1 - 1)
      refine lv_aload_n hx hb d_Scanner_start_7 rfl (lv_at hl 0 rfl) ?_
      refine wk_get B hP 0 rfl fl_Scanner_9 (v := .ref tp) rfl d_Scanner_start_8 ?_
      refine wk_get B hP 1 rfl fl_Scanner_41 (v := .int (iI n1)) rfl d_Scanner_start_11 ?_
      refine wi_if_le (tgt := 55) hx hb d_Scanner_start_14 (by decide) (by omega) (fun c_1 => ?_) (fun c_1 => ?_)
      · skip
        have hte := trR_e (t := t1) hn1.1 (by first | exact Or.inl (by omega) | (rw [rat_in (by omega)] at c_6; exact Or.inr c_6))
        refine lv_aload_n hx hb d_Scanner_start_55 rfl (lv_at hl 0 rfl) ?_
        refine wi_iconst (n := 0) hx hb d_Scanner_start_56 ?_
        refine wk_put B hP hD hS 0 rfl fl_Scanner_53 fp_Scanner_8 (v := .int (iI 0)) rfl rfl (Nat.le_of_ble_eq_true rfl) d_Scanner_start_57 (fun H locs hP hD hS => ?_)
        have hP : va_P D classes [(h, .inr (4, [.ref tp, .ref ar, .ref f1, .ref f2, .ref rd, .int (bI em), .int (bI ob), .int (bI oa), .int (iI 0), .int (iI fr), .int (iI ex), .int (bI hp)])), (tp, .inr (3, [.ref ta, .int (iI n1)])), (ta, .inl (E.2.1, 400, .inl (ia t1)))] H := hP
        have hD : va_D A [(h, .inr (4, [.ref tp, .ref ar, .ref f1, .ref f2, .ref rd, .int (bI em), .int (bI ob), .int (bI oa), .int (iI 0), .int (iI fr), .int (iI ex), .int (bI hp)])), (tp, .inr (3, [.ref ta, .int (iI n1)])), (ta, .inl (E.2.1, 400, .inl (ia t1)))] := hD
        refine lv_aload_n hx hb d_Scanner_start_60 rfl (lv_at hl 0 rfl) ?_
        refine wk_callV (As := []) (rest := []) (wr := []) B gTB cl_Scanner_55 (c_Scanner_takeBlanks l D E h tp ar f1 f2 rd em ob oa 0 fr ex hp ta t1 n1 (by omega) (Tx_sub hT1 hn1.2) (by omega)) ⟨⟨rfl, rfl⟩, Nat.le_of_ble_eq_true rfl, Nat.le_of_ble_eq_true rfl⟩ hP hD hS [0, 1, 2] [] rfl rfl (by decide) 0 rfl rfl rfl ⟨hl.2.1, hl.1⟩ rfl (Nat.le_of_ble_eq_true rfl) d_Scanner_start_61 ⟨Nat.le_of_ble_eq_true rfl, Nat.le_of_ble_eq_true rfl⟩ rfl (fun q9 H locs hw hP hD hS => ?_)
        have hP : va_P D classes [(h, .inr (4, [.ref tp, .ref ar, .ref f1, .ref f2, .ref rd, .int (bI em), .int (bI ob), .int (bI oa), .int (iI q9), .int (iI fr), .int (iI ex), .int (bI hp)])), (tp, .inr (3, [.ref ta, .int (iI n1)])), (ta, .inl (E.2.1, 400, .inl (ia t1)))] H := hP
        have hD : va_D A [(h, .inr (4, [.ref tp, .ref ar, .ref f1, .ref f2, .ref rd, .int (bI em), .int (bI ob), .int (bI oa), .int (iI q9), .int (iI fr), .int (iI ex), .int (bI hp)])), (tp, .inr (3, [.ref ta, .int (iI n1)])), (ta, .inl (E.2.1, 400, .inl (ia t1)))] := hD
        have hw : (q9 = sk t1 n1 0) ∧ (0 ≤ q9 ∧ q9 ≤ n1) := hw
        obtain ⟨hq9, hq92⟩ := hw
        refine W.cs (g := F0 m 64 ls []) (cells' := 0) (slots' := 0) rfl rfl ?_
        refine lv_aload_n hx hb d_Scanner_start_64 rfl (lv_at hl 0 rfl) ?_
        refine wi_iconst (n := 0) hx hb d_Scanner_start_65 ?_
        refine w_as0 ?_
        refine wk_put B hP hD hS 0 rfl fl_Scanner_58 fp_Scanner_5 (v := .int (bI false)) (bI_nar _) (bI_fit _) (Nat.le_of_ble_eq_true rfl) d_Scanner_start_66 (fun H locs hP hD hS => ?_)
        have hP : va_P D classes [(h, .inr (4, [.ref tp, .ref ar, .ref f1, .ref f2, .ref rd, .int (bI false), .int (bI ob), .int (bI oa), .int (iI q9), .int (iI fr), .int (iI ex), .int (bI hp)])), (tp, .inr (3, [.ref ta, .int (iI n1)])), (ta, .inl (E.2.1, 400, .inl (ia t1)))] H := hP
        have hD : va_D A [(h, .inr (4, [.ref tp, .ref ar, .ref f1, .ref f2, .ref rd, .int (bI false), .int (bI ob), .int (bI oa), .int (iI q9), .int (iI fr), .int (iI ex), .int (bI hp)])), (tp, .inr (3, [.ref ta, .int (iI n1)])), (ta, .inl (E.2.1, 400, .inl (ia t1)))] := hD
        refine lv_aload_n hx hb d_Scanner_start_69 rfl (lv_at hl 0 rfl) ?_
        refine wi_iconst (n := 0) hx hb d_Scanner_start_70 ?_
        refine w_as0 ?_
        refine wk_put B hP hD hS 0 rfl fl_Scanner_62 fp_Scanner_6 (v := .int (bI false)) (bI_nar _) (bI_fit _) (Nat.le_of_ble_eq_true rfl) d_Scanner_start_71 (fun H locs hP hD hS => ?_)
        have hP : va_P D classes [(h, .inr (4, [.ref tp, .ref ar, .ref f1, .ref f2, .ref rd, .int (bI false), .int (bI false), .int (bI oa), .int (iI q9), .int (iI fr), .int (iI ex), .int (bI hp)])), (tp, .inr (3, [.ref ta, .int (iI n1)])), (ta, .inl (E.2.1, 400, .inl (ia t1)))] H := hP
        have hD : va_D A [(h, .inr (4, [.ref tp, .ref ar, .ref f1, .ref f2, .ref rd, .int (bI false), .int (bI false), .int (bI oa), .int (iI q9), .int (iI fr), .int (iI ex), .int (bI hp)])), (tp, .inr (3, [.ref ta, .int (iI n1)])), (ta, .inl (E.2.1, 400, .inl (ia t1)))] := hD
        refine lv_aload_n hx hb d_Scanner_start_74 rfl (lv_at hl 0 rfl) ?_
        refine wi_iconst (n := 0) hx hb d_Scanner_start_75 ?_
        refine w_as0 ?_
        refine wk_put B hP hD hS 0 rfl fl_Scanner_65 fp_Scanner_7 (v := .int (bI false)) (bI_nar _) (bI_fit _) (Nat.le_of_ble_eq_true rfl) d_Scanner_start_76 (fun H locs hP hD hS => ?_)
        have hP : va_P D classes [(h, .inr (4, [.ref tp, .ref ar, .ref f1, .ref f2, .ref rd, .int (bI false), .int (bI false), .int (bI false), .int (iI q9), .int (iI fr), .int (iI ex), .int (bI hp)])), (tp, .inr (3, [.ref ta, .int (iI n1)])), (ta, .inl (E.2.1, 400, .inl (ia t1)))] H := hP
        have hD : va_D A [(h, .inr (4, [.ref tp, .ref ar, .ref f1, .ref f2, .ref rd, .int (bI false), .int (bI false), .int (bI false), .int (iI q9), .int (iI fr), .int (iI ex), .int (bI hp)])), (tp, .inr (3, [.ref ta, .int (iI n1)])), (ta, .inl (E.2.1, 400, .inl (ia t1)))] := hD
        exact ret (q9, n1, t1) _ _ _ _ d_Scanner_start_79 (show (LowT t t1 n n) ∧ (n1 = trR t1 n) ∧ (0 ≤ n1 ∧ n1 ≤ n) ∧ (q9 = sk t1 n1 0) ∧ (0 ≤ q9 ∧ q9 ≤ n1) from ⟨hlo, by rw [htr, hte], by omega, hq9, by omega⟩) (hP.sub [0, 1, 2] rfl) (hD.sub [0, 1, 2] (by decide) rfl) hS
      · skip
        refine lv_aload_n hx hb d_Scanner_start_17 rfl (lv_at hl 0 rfl) ?_
        refine wk_get B hP 0 rfl fl_Scanner_9 (v := .ref tp) rfl d_Scanner_start_18 ?_
        refine lv_aload_n hx hb d_Scanner_start_21 rfl (lv_at hl 0 rfl) ?_
        refine wk_get B hP 0 rfl fl_Scanner_9 (v := .ref tp) rfl d_Scanner_start_22 ?_
        refine wk_get B hP 1 rfl fl_Scanner_41 (v := .int (iI n1)) rfl d_Scanner_start_25 ?_
        refine wi_iconst (n := 1) hx hb d_Scanner_start_28 ?_
        refine wi_isub hx hb d_Scanner_start_29 ?_
        refine wk_callV (As := [.int (iI (n1 - 1))]) (rest := []) (wr := [(h, .inr (4, [.ref tp, .ref ar, .ref f1, .ref f2, .ref rd, .int (bI em), .int (bI ob), .int (bI oa), .int (iI pos), .int (iI fr), .int (iI ex), .int (bI hp)]))]) B gTB cl_Scanner_45 (c_Row_at l D E tp ta 400 t1 n1 (n1 - 1) (by omega) (by omega) (by omega)) ⟨⟨rfl, rfl⟩, Nat.le_of_ble_eq_true rfl, Nat.le_of_ble_eq_true rfl⟩ hP hD hS [1, 2] [0] rfl rfl (by decide) 1 rfl rfl rfl ⟨hl.2.1, hl.1⟩ rfl (Nat.le_of_ble_eq_true rfl) d_Scanner_start_30 ⟨Nat.le_of_ble_eq_true rfl, Nat.le_of_ble_eq_true rfl⟩ rfl (fun r_2 H locs hw hP hD hS => ?_)
        have hP : va_P D classes [(h, .inr (4, [.ref tp, .ref ar, .ref f1, .ref f2, .ref rd, .int (bI em), .int (bI ob), .int (bI oa), .int (iI pos), .int (iI fr), .int (iI ex), .int (bI hp)])), (tp, .inr (3, [.ref ta, .int (iI n1)])), (ta, .inl (E.2.1, 400, .inl (ia t1)))] H := hP
        have hD : va_D A [(h, .inr (4, [.ref tp, .ref ar, .ref f1, .ref f2, .ref rd, .int (bI em), .int (bI ob), .int (bI oa), .int (iI pos), .int (iI fr), .int (iI ex), .int (bI hp)])), (tp, .inr (3, [.ref ta, .int (iI n1)])), (ta, .inl (E.2.1, 400, .inl (ia t1)))] := hD
        have hw : (r_2 = rat t1 n1 (n1 - 1)) := hw
        have hr_3 := hw
        refine W.cs (g := F0 m 33 ls [.int (iI r_2)]) (cells' := 0) (slots' := 0) rfl rfl ?_
        subst hr_3
        refine wk_callS (As := [.int (iI (rat t1 n1 (n1 - 1)))]) (rest := []) (wr := [(h, .inr (4, [.ref tp, .ref ar, .ref f1, .ref f2, .ref rd, .int (bI em), .int (bI ob), .int (bI oa), .int (iI pos), .int (iI fr), .int (iI ex), .int (bI hp)])), (tp, .inr (3, [.ref ta, .int (iI n1)])), (ta, .inl (E.2.1, 400, .inl (ia t1)))]) B gTB cl_Scanner_49 (c_Scanner_isBlank l D E (rat t1 n1 (n1 - 1)) (by omega)) ⟨⟨rfl, rfl⟩, Nat.le_of_ble_eq_true rfl, Nat.le_of_ble_eq_true rfl⟩ hP hD hS [] [0, 1, 2] rfl rfl (by decide) ⟨hl.2.1, hl.1⟩ rfl (Nat.le_of_ble_eq_true rfl) d_Scanner_start_33 ⟨Nat.le_of_ble_eq_true rfl, Nat.le_of_ble_eq_true rfl⟩ rfl (fun r_4 H locs hw hP hD hS => ?_)
        have hP : va_P D classes [(h, .inr (4, [.ref tp, .ref ar, .ref f1, .ref f2, .ref rd, .int (bI em), .int (bI ob), .int (bI oa), .int (iI pos), .int (iI fr), .int (iI ex), .int (bI hp)])), (tp, .inr (3, [.ref ta, .int (iI n1)])), (ta, .inl (E.2.1, 400, .inl (ia t1)))] H := hP
        have hD : va_D A [(h, .inr (4, [.ref tp, .ref ar, .ref f1, .ref f2, .ref rd, .int (bI em), .int (bI ob), .int (bI oa), .int (iI pos), .int (iI fr), .int (iI ex), .int (bI hp)])), (tp, .inr (3, [.ref ta, .int (iI n1)])), (ta, .inl (E.2.1, 400, .inl (ia t1)))] := hD
        have hw : (r_4 = blk (rat t1 n1 (n1 - 1))) := hw
        have hr_5 := hw
        refine W.cs (g := F0 m 36 ls [.int (bI r_4)]) (cells' := 0) (slots' := 0) rfl rfl ?_
        subst hr_5
        refine wb_if_eq (tgt := 55) hx hb d_Scanner_start_36 (by decide) (fun c_6 => ?_) (fun c_6 => ?_)
        · skip
          have hte := trR_e (t := t1) hn1.1 (by first | exact Or.inl (by omega) | (rw [rat_in (by omega)] at c_6; exact Or.inr c_6))
          refine lv_aload_n hx hb d_Scanner_start_55 rfl (lv_at hl 0 rfl) ?_
          refine wi_iconst (n := 0) hx hb d_Scanner_start_56 ?_
          refine wk_put B hP hD hS 0 rfl fl_Scanner_53 fp_Scanner_8 (v := .int (iI 0)) rfl rfl (Nat.le_of_ble_eq_true rfl) d_Scanner_start_57 (fun H locs hP hD hS => ?_)
          have hP : va_P D classes [(h, .inr (4, [.ref tp, .ref ar, .ref f1, .ref f2, .ref rd, .int (bI em), .int (bI ob), .int (bI oa), .int (iI 0), .int (iI fr), .int (iI ex), .int (bI hp)])), (tp, .inr (3, [.ref ta, .int (iI n1)])), (ta, .inl (E.2.1, 400, .inl (ia t1)))] H := hP
          have hD : va_D A [(h, .inr (4, [.ref tp, .ref ar, .ref f1, .ref f2, .ref rd, .int (bI em), .int (bI ob), .int (bI oa), .int (iI 0), .int (iI fr), .int (iI ex), .int (bI hp)])), (tp, .inr (3, [.ref ta, .int (iI n1)])), (ta, .inl (E.2.1, 400, .inl (ia t1)))] := hD
          refine lv_aload_n hx hb d_Scanner_start_60 rfl (lv_at hl 0 rfl) ?_
          refine wk_callV (As := []) (rest := []) (wr := []) B gTB cl_Scanner_55 (c_Scanner_takeBlanks l D E h tp ar f1 f2 rd em ob oa 0 fr ex hp ta t1 n1 (by omega) (Tx_sub hT1 hn1.2) (by omega)) ⟨⟨rfl, rfl⟩, Nat.le_of_ble_eq_true rfl, Nat.le_of_ble_eq_true rfl⟩ hP hD hS [0, 1, 2] [] rfl rfl (by decide) 0 rfl rfl rfl ⟨hl.2.1, hl.1⟩ rfl (Nat.le_of_ble_eq_true rfl) d_Scanner_start_61 ⟨Nat.le_of_ble_eq_true rfl, Nat.le_of_ble_eq_true rfl⟩ rfl (fun q9 H locs hw hP hD hS => ?_)
          have hP : va_P D classes [(h, .inr (4, [.ref tp, .ref ar, .ref f1, .ref f2, .ref rd, .int (bI em), .int (bI ob), .int (bI oa), .int (iI q9), .int (iI fr), .int (iI ex), .int (bI hp)])), (tp, .inr (3, [.ref ta, .int (iI n1)])), (ta, .inl (E.2.1, 400, .inl (ia t1)))] H := hP
          have hD : va_D A [(h, .inr (4, [.ref tp, .ref ar, .ref f1, .ref f2, .ref rd, .int (bI em), .int (bI ob), .int (bI oa), .int (iI q9), .int (iI fr), .int (iI ex), .int (bI hp)])), (tp, .inr (3, [.ref ta, .int (iI n1)])), (ta, .inl (E.2.1, 400, .inl (ia t1)))] := hD
          have hw : (q9 = sk t1 n1 0) ∧ (0 ≤ q9 ∧ q9 ≤ n1) := hw
          obtain ⟨hq9, hq92⟩ := hw
          refine W.cs (g := F0 m 64 ls []) (cells' := 0) (slots' := 0) rfl rfl ?_
          refine lv_aload_n hx hb d_Scanner_start_64 rfl (lv_at hl 0 rfl) ?_
          refine wi_iconst (n := 0) hx hb d_Scanner_start_65 ?_
          refine w_as0 ?_
          refine wk_put B hP hD hS 0 rfl fl_Scanner_58 fp_Scanner_5 (v := .int (bI false)) (bI_nar _) (bI_fit _) (Nat.le_of_ble_eq_true rfl) d_Scanner_start_66 (fun H locs hP hD hS => ?_)
          have hP : va_P D classes [(h, .inr (4, [.ref tp, .ref ar, .ref f1, .ref f2, .ref rd, .int (bI false), .int (bI ob), .int (bI oa), .int (iI q9), .int (iI fr), .int (iI ex), .int (bI hp)])), (tp, .inr (3, [.ref ta, .int (iI n1)])), (ta, .inl (E.2.1, 400, .inl (ia t1)))] H := hP
          have hD : va_D A [(h, .inr (4, [.ref tp, .ref ar, .ref f1, .ref f2, .ref rd, .int (bI false), .int (bI ob), .int (bI oa), .int (iI q9), .int (iI fr), .int (iI ex), .int (bI hp)])), (tp, .inr (3, [.ref ta, .int (iI n1)])), (ta, .inl (E.2.1, 400, .inl (ia t1)))] := hD
          refine lv_aload_n hx hb d_Scanner_start_69 rfl (lv_at hl 0 rfl) ?_
          refine wi_iconst (n := 0) hx hb d_Scanner_start_70 ?_
          refine w_as0 ?_
          refine wk_put B hP hD hS 0 rfl fl_Scanner_62 fp_Scanner_6 (v := .int (bI false)) (bI_nar _) (bI_fit _) (Nat.le_of_ble_eq_true rfl) d_Scanner_start_71 (fun H locs hP hD hS => ?_)
          have hP : va_P D classes [(h, .inr (4, [.ref tp, .ref ar, .ref f1, .ref f2, .ref rd, .int (bI false), .int (bI false), .int (bI oa), .int (iI q9), .int (iI fr), .int (iI ex), .int (bI hp)])), (tp, .inr (3, [.ref ta, .int (iI n1)])), (ta, .inl (E.2.1, 400, .inl (ia t1)))] H := hP
          have hD : va_D A [(h, .inr (4, [.ref tp, .ref ar, .ref f1, .ref f2, .ref rd, .int (bI false), .int (bI false), .int (bI oa), .int (iI q9), .int (iI fr), .int (iI ex), .int (bI hp)])), (tp, .inr (3, [.ref ta, .int (iI n1)])), (ta, .inl (E.2.1, 400, .inl (ia t1)))] := hD
          refine lv_aload_n hx hb d_Scanner_start_74 rfl (lv_at hl 0 rfl) ?_
          refine wi_iconst (n := 0) hx hb d_Scanner_start_75 ?_
          refine w_as0 ?_
          refine wk_put B hP hD hS 0 rfl fl_Scanner_65 fp_Scanner_7 (v := .int (bI false)) (bI_nar _) (bI_fit _) (Nat.le_of_ble_eq_true rfl) d_Scanner_start_76 (fun H locs hP hD hS => ?_)
          have hP : va_P D classes [(h, .inr (4, [.ref tp, .ref ar, .ref f1, .ref f2, .ref rd, .int (bI false), .int (bI false), .int (bI false), .int (iI q9), .int (iI fr), .int (iI ex), .int (bI hp)])), (tp, .inr (3, [.ref ta, .int (iI n1)])), (ta, .inl (E.2.1, 400, .inl (ia t1)))] H := hP
          have hD : va_D A [(h, .inr (4, [.ref tp, .ref ar, .ref f1, .ref f2, .ref rd, .int (bI false), .int (bI false), .int (bI false), .int (iI q9), .int (iI fr), .int (iI ex), .int (bI hp)])), (tp, .inr (3, [.ref ta, .int (iI n1)])), (ta, .inl (E.2.1, 400, .inl (ia t1)))] := hD
          exact ret (q9, n1, t1) _ _ _ _ d_Scanner_start_79 (show (LowT t t1 n n) ∧ (n1 = trR t1 n) ∧ (0 ≤ n1 ∧ n1 ≤ n) ∧ (q9 = sk t1 n1 0) ∧ (0 ≤ q9 ∧ q9 ≤ n1) from ⟨hlo, by rw [htr, hte], by omega, hq9, by omega⟩) (hP.sub [0, 1, 2] rfl) (hD.sub [0, 1, 2] (by decide) rfl) hS
        · skip
          refine lv_aload_n hx hb d_Scanner_start_39 rfl (lv_at hl 0 rfl) ?_
          refine wk_get B hP 0 rfl fl_Scanner_9 (v := .ref tp) rfl d_Scanner_start_40 ?_
          refine lv_dup hx hb d_Scanner_start_43 rfl ?_
          refine wk_get B hP 1 rfl fl_Scanner_41 (v := .int (iI n1)) rfl d_Scanner_start_44 ?_
          refine wi_iconst (n := 1) hx hb d_Scanner_start_47 ?_
          refine wi_isub hx hb d_Scanner_start_48 ?_
          refine wk_put B hP hD hS 1 rfl fl_Scanner_41 fp_Row_1 (v := .int (iI (n1 - 1))) rfl rfl (Nat.le_of_ble_eq_true rfl) d_Scanner_start_49 (fun H locs hP hD hS => ?_)
          have hP : va_P D classes [(h, .inr (4, [.ref tp, .ref ar, .ref f1, .ref f2, .ref rd, .int (bI em), .int (bI ob), .int (bI oa), .int (iI pos), .int (iI fr), .int (iI ex), .int (bI hp)])), (tp, .inr (3, [.ref ta, .int (iI (n1 - 1))])), (ta, .inl (E.2.1, 400, .inl (ia t1)))] H := hP
          have hD : va_D A [(h, .inr (4, [.ref tp, .ref ar, .ref f1, .ref f2, .ref rd, .int (bI em), .int (bI ob), .int (bI oa), .int (iI pos), .int (iI fr), .int (iI ex), .int (bI hp)])), (tp, .inr (3, [.ref ta, .int (iI (n1 - 1))])), (ta, .inl (E.2.1, 400, .inl (ia t1)))] := hD
          refine lv_goto (tgt := 7) hx hb d_Scanner_start_52 (by decide) ?_
          exact ih7 (n1 - 1) t1 (hlo) (by omega) (by rw [htr]; exact trR_s (by omega) (by rw [rat_in (by omega)] at c_6; exact c_6)) (by omega) _ _ _ (lv_sub hl [0] rfl) (hP.sub [0, 1, 2] rfl) (hD.sub [0, 1, 2] (by decide) rfl) hS
  refine lv_aload_n hx hb d_Scanner_start_0 rfl (lv_at hl 0 rfl) ?_
  refine wk_get B hP 0 rfl fl_Scanner_9 (v := .ref tp) rfl d_Scanner_start_1 ?_
  refine wk_callV (As := []) (rest := []) (wr := [(h, .inr (4, [.ref tp, .ref ar, .ref f1, .ref f2, .ref rd, .int (bI em), .int (bI ob), .int (bI oa), .int (iI pos), .int (iI fr), .int (iI ex), .int (bI hp)]))]) B gTB cl_Scanner_36 (c_Row_toLowerCase l D E tp ta 400 t n (by omega) (by omega) (hT)) ⟨⟨rfl, rfl⟩, Nat.le_of_ble_eq_true rfl, Nat.le_of_ble_eq_true rfl⟩ hP hD hS [1, 2] [0] rfl rfl (by decide) 1 rfl rfl rfl ⟨hl.2.1, hl.1⟩ rfl (Nat.le_of_ble_eq_true rfl) d_Scanner_start_4 ⟨Nat.le_of_ble_eq_true rfl, Nat.le_of_ble_eq_true rfl⟩ rfl (fun tl H locs hw hP hD hS => ?_)
  have hP : va_P D classes [(h, .inr (4, [.ref tp, .ref ar, .ref f1, .ref f2, .ref rd, .int (bI em), .int (bI ob), .int (bI oa), .int (iI pos), .int (iI fr), .int (iI ex), .int (bI hp)])), (tp, .inr (3, [.ref ta, .int (iI n)])), (ta, .inl (E.2.1, 400, .inl (ia tl)))] H := hP
  have hD : va_D A [(h, .inr (4, [.ref tp, .ref ar, .ref f1, .ref f2, .ref rd, .int (bI em), .int (bI ob), .int (bI oa), .int (iI pos), .int (iI fr), .int (iI ex), .int (bI hp)])), (tp, .inr (3, [.ref ta, .int (iI n)])), (ta, .inl (E.2.1, 400, .inl (ia tl)))] := hD
  have hw : (LowT t tl n n) := hw
  have hlow := hw
  refine W.cs (g := F0 m 7 ls []) (cells' := 0) (slots' := 0) rfl rfl ?_
  exact K_7 ((n : Int).toNat + 1) n tl (hlow) (by omega) (rfl) (by omega) _ _ _ (lv_sub hl [0] rfl) (hP.sub [0, 1, 2] rfl) (hD.sub [0, 1, 2] (by decide) rfl) hS
