/-! Row: at, add, toLowerCase -/
abbrev b_Row_at : ByteArray := prog_6_method_2_code
def y_Row_at : MethodName := ⟨"IntervalText$Row", "at", "(I)I"⟩
abbrev b_Row_add : ByteArray := prog_6_method_3_code
def y_Row_add : MethodName := ⟨"IntervalText$Row", "add", "(I)V"⟩
abbrev b_Row_toLowerCase : ByteArray := prog_6_method_5_code
def y_Row_toLowerCase : MethodName := ⟨"IntervalText$Row", "toLowerCase", "()V"⟩
theorem d_Row_at_0 : decode b_Row_at 0 = .ok (.iload_n 1, 1) := by decide +kernel
theorem d_Row_at_1 : decode b_Row_at 1 = .ok (.ifCond .lt 29, 3) := by decide +kernel
theorem d_Row_at_4 : decode b_Row_at 4 = .ok (.iload_n 1, 1) := by decide +kernel
theorem d_Row_at_5 : decode b_Row_at 5 = .ok (.aload_n 0, 1) := by decide +kernel
theorem d_Row_at_6 : decode b_Row_at 6 = .ok (.getfield 15, 3) := by decide +kernel
theorem d_Row_at_9 : decode b_Row_at 9 = .ok (.if_icmp .ge 21, 3) := by decide +kernel
theorem d_Row_at_12 : decode b_Row_at 12 = .ok (.iload_n 1, 1) := by decide +kernel
theorem d_Row_at_13 : decode b_Row_at 13 = .ok (.aload_n 0, 1) := by decide +kernel
theorem d_Row_at_14 : decode b_Row_at 14 = .ok (.getfield 9, 3) := by decide +kernel
theorem d_Row_at_17 : decode b_Row_at 17 = .ok (.arraylength, 1) := by decide +kernel
theorem d_Row_at_18 : decode b_Row_at 18 = .ok (.if_icmp .ge 12, 3) := by decide +kernel
theorem d_Row_at_21 : decode b_Row_at 21 = .ok (.aload_n 0, 1) := by decide +kernel
theorem d_Row_at_22 : decode b_Row_at 22 = .ok (.getfield 9, 3) := by decide +kernel
theorem d_Row_at_25 : decode b_Row_at 25 = .ok (.iload_n 1, 1) := by decide +kernel
theorem d_Row_at_26 : decode b_Row_at 26 = .ok (.caload, 1) := by decide +kernel
theorem d_Row_at_27 : decode b_Row_at 27 = .ok (.goto 4, 3) := by decide +kernel
theorem d_Row_at_30 : decode b_Row_at 30 = .ok (.iconst (-1), 1) := by decide +kernel
theorem d_Row_at_31 : decode b_Row_at 31 = .ok (.ireturn, 1) := by decide +kernel
theorem d_Row_add_0 : decode b_Row_add 0 = .ok (.aload_n 0, 1) := by decide +kernel
theorem d_Row_add_1 : decode b_Row_add 1 = .ok (.getfield 15, 3) := by decide +kernel
theorem d_Row_add_4 : decode b_Row_add 4 = .ok (.ifCond .lt 36, 3) := by decide +kernel
theorem d_Row_add_7 : decode b_Row_add 7 = .ok (.aload_n 0, 1) := by decide +kernel
theorem d_Row_add_8 : decode b_Row_add 8 = .ok (.getfield 15, 3) := by decide +kernel
theorem d_Row_add_11 : decode b_Row_add 11 = .ok (.aload_n 0, 1) := by decide +kernel
theorem d_Row_add_12 : decode b_Row_add 12 = .ok (.getfield 9, 3) := by decide +kernel
theorem d_Row_add_15 : decode b_Row_add 15 = .ok (.arraylength, 1) := by decide +kernel
theorem d_Row_add_16 : decode b_Row_add 16 = .ok (.if_icmp .ge 24, 3) := by decide +kernel
theorem d_Row_add_19 : decode b_Row_add 19 = .ok (.aload_n 0, 1) := by decide +kernel
theorem d_Row_add_20 : decode b_Row_add 20 = .ok (.getfield 9, 3) := by decide +kernel
theorem d_Row_add_23 : decode b_Row_add 23 = .ok (.aload_n 0, 1) := by decide +kernel
theorem d_Row_add_24 : decode b_Row_add 24 = .ok (.getfield 15, 3) := by decide +kernel
theorem d_Row_add_27 : decode b_Row_add 27 = .ok (.iload_n 1, 1) := by decide +kernel
theorem d_Row_add_28 : decode b_Row_add 28 = .ok (.i2c, 1) := by decide +kernel
theorem d_Row_add_29 : decode b_Row_add 29 = .ok (.castore, 1) := by decide +kernel
theorem d_Row_add_30 : decode b_Row_add 30 = .ok (.aload_n 0, 1) := by decide +kernel
theorem d_Row_add_31 : decode b_Row_add 31 = .ok (.dup, 1) := by decide +kernel
theorem d_Row_add_32 : decode b_Row_add 32 = .ok (.getfield 15, 3) := by decide +kernel
theorem d_Row_add_35 : decode b_Row_add 35 = .ok (.iconst 1, 1) := by decide +kernel
theorem d_Row_add_36 : decode b_Row_add 36 = .ok (.iadd, 1) := by decide +kernel
theorem d_Row_add_37 : decode b_Row_add 37 = .ok (.putfield 15, 3) := by decide +kernel
theorem d_Row_add_40 : decode b_Row_add 40 = .ok (.return_, 1) := by decide +kernel
theorem d_Row_toLowerCase_0 : decode b_Row_toLowerCase 0 = .ok (.iconst 0, 1) := by decide +kernel
theorem d_Row_toLowerCase_1 : decode b_Row_toLowerCase 1 = .ok (.istore_n 1, 1) := by decide +kernel
theorem d_Row_toLowerCase_2 : decode b_Row_toLowerCase 2 = .ok (.iload_n 1, 1) := by decide +kernel
theorem d_Row_toLowerCase_3 : decode b_Row_toLowerCase 3 = .ok (.aload_n 0, 1) := by decide +kernel
theorem d_Row_toLowerCase_4 : decode b_Row_toLowerCase 4 = .ok (.getfield 15, 3) := by decide +kernel
theorem d_Row_toLowerCase_7 : decode b_Row_toLowerCase 7 = .ok (.if_icmp .ge 59, 3) := by decide +kernel
theorem d_Row_toLowerCase_10 : decode b_Row_toLowerCase 10 = .ok (.iload_n 1, 1) := by decide +kernel
theorem d_Row_toLowerCase_11 : decode b_Row_toLowerCase 11 = .ok (.aload_n 0, 1) := by decide +kernel
theorem d_Row_toLowerCase_12 : decode b_Row_toLowerCase 12 = .ok (.getfield 9, 3) := by decide +kernel
theorem d_Row_toLowerCase_15 : decode b_Row_toLowerCase 15 = .ok (.arraylength, 1) := by decide +kernel
theorem d_Row_toLowerCase_16 : decode b_Row_toLowerCase 16 = .ok (.if_icmp .ge 50, 3) := by decide +kernel
theorem d_Row_toLowerCase_19 : decode b_Row_toLowerCase 19 = .ok (.aload_n 0, 1) := by decide +kernel
theorem d_Row_toLowerCase_20 : decode b_Row_toLowerCase 20 = .ok (.getfield 9, 3) := by decide +kernel
theorem d_Row_toLowerCase_23 : decode b_Row_toLowerCase 23 = .ok (.iload_n 1, 1) := by decide +kernel
theorem d_Row_toLowerCase_24 : decode b_Row_toLowerCase 24 = .ok (.caload, 1) := by decide +kernel
theorem d_Row_toLowerCase_25 : decode b_Row_toLowerCase 25 = .ok (.bipush 65, 2) := by decide +kernel
theorem d_Row_toLowerCase_27 : decode b_Row_toLowerCase 27 = .ok (.if_icmp .lt 33, 3) := by decide +kernel
theorem d_Row_toLowerCase_30 : decode b_Row_toLowerCase 30 = .ok (.aload_n 0, 1) := by decide +kernel
theorem d_Row_toLowerCase_31 : decode b_Row_toLowerCase 31 = .ok (.getfield 9, 3) := by decide +kernel
theorem d_Row_toLowerCase_34 : decode b_Row_toLowerCase 34 = .ok (.iload_n 1, 1) := by decide +kernel
theorem d_Row_toLowerCase_35 : decode b_Row_toLowerCase 35 = .ok (.caload, 1) := by decide +kernel
theorem d_Row_toLowerCase_36 : decode b_Row_toLowerCase 36 = .ok (.bipush 90, 2) := by decide +kernel
theorem d_Row_toLowerCase_38 : decode b_Row_toLowerCase 38 = .ok (.if_icmp .gt 22, 3) := by decide +kernel
theorem d_Row_toLowerCase_41 : decode b_Row_toLowerCase 41 = .ok (.aload_n 0, 1) := by decide +kernel
theorem d_Row_toLowerCase_42 : decode b_Row_toLowerCase 42 = .ok (.getfield 9, 3) := by decide +kernel
theorem d_Row_toLowerCase_45 : decode b_Row_toLowerCase 45 = .ok (.iload_n 1, 1) := by decide +kernel
theorem d_Row_toLowerCase_46 : decode b_Row_toLowerCase 46 = .ok (.aload_n 0, 1) := by decide +kernel
theorem d_Row_toLowerCase_47 : decode b_Row_toLowerCase 47 = .ok (.getfield 9, 3) := by decide +kernel
theorem d_Row_toLowerCase_50 : decode b_Row_toLowerCase 50 = .ok (.iload_n 1, 1) := by decide +kernel
theorem d_Row_toLowerCase_51 : decode b_Row_toLowerCase 51 = .ok (.caload, 1) := by decide +kernel
theorem d_Row_toLowerCase_52 : decode b_Row_toLowerCase 52 = .ok (.bipush 65, 2) := by decide +kernel
theorem d_Row_toLowerCase_54 : decode b_Row_toLowerCase 54 = .ok (.isub, 1) := by decide +kernel
theorem d_Row_toLowerCase_55 : decode b_Row_toLowerCase 55 = .ok (.bipush 97, 2) := by decide +kernel
theorem d_Row_toLowerCase_57 : decode b_Row_toLowerCase 57 = .ok (.iadd, 1) := by decide +kernel
theorem d_Row_toLowerCase_58 : decode b_Row_toLowerCase 58 = .ok (.i2c, 1) := by decide +kernel
theorem d_Row_toLowerCase_59 : decode b_Row_toLowerCase 59 = .ok (.castore, 1) := by decide +kernel
theorem d_Row_toLowerCase_60 : decode b_Row_toLowerCase 60 = .ok (.iinc 1 1, 3) := by decide +kernel
theorem d_Row_toLowerCase_63 : decode b_Row_toLowerCase 63 = .ok (.goto (-61), 3) := by decide +kernel
theorem d_Row_toLowerCase_66 : decode b_Row_toLowerCase 66 = .ok (.return_, 1) := by decide +kernel
theorem fl_Row_9 : FLink TB classes "IntervalText$Row" 9 R_Row F_Row 2 3 0 := ⟨rfl, by decide, i_Row, tb_t (List.mem_append_left _ (List.mem_of_getElem? (l := tables_1_1) (i := 30) rfl)) rfl⟩
theorem fl_Row_15 : FLink TB classes "IntervalText$Row" 15 R_Row F_Row 2 3 1 := ⟨rfl, by decide, i_Row, tb_t (List.mem_append_left _ (List.mem_of_getElem? (l := tables_1_1) (i := 31) rfl)) rfl⟩
theorem fp_Row_1 : FPut R_Row F_Row 2 1 .int false := ⟨e_Row, n_Row, rfl, by decide +kernel⟩
set_option maxHeartbeats 4000000 in
set_option maxRecDepth 100000 in
theorem c_Row_at (l : Launch) (D : va_G) (E : EVt) (h : Nat) (a : Nat) (N : Nat) (t : Int → Int) (n : Int) (i : Int) (hn : 0 ≤ n ∧ n ≤ (N : Int)) (hN : N < 65536) (hi : -2147483648 ≤ i ∧ i < 2147483648) : CT l D classes (tyl E) (EVX E) y_Row_at (Cond.code y_Row_at b_Row_at 2 (some .int) :: TB) (rmK 0 0 0 0) 0 0 [.ref h, .int (iI i)] [(h, .inr (3, [.ref a, .int (iI n)])), (a, .inl (E.2.1, N, .inl (ia t)))] (S := Int) (fun _ => [(h, .inr (3, [.ref a, .int (iI n)])), (a, .inl (E.2.1, N, .inl (ia t)))]) (fun u => some (.int (iI u))) (fun u => (u = rat t n i)) := by
  refine CT.ofi (fv := fun (u : Int) => u) (eok E) (by decide) rfl (Nat.le_of_ble_eq_true rfl) ?_
  intro p e s m args below meth c A Q ls B hmn hP hD hS hl ret
  have B : Bd l D classes (tyl E) (EVX E) p m c b_Row_at 2 s args (Cond.code y_Row_at b_Row_at 2 (some .int) :: TB) R_Row A := B
  obtain ⟨⟨hx, hb, hml, hown, hts⟩, hX, hK, hE, hA⟩ := id B
  have hl : lv_has ls 2 [(0, .ref h), (1, .int (iI i))] := hl
  have hP : va_P D classes [(h, .inr (3, [.ref a, .int (iI n)])), (a, .inl (E.2.1, N, .inl (ia t)))] s.heap := hP
  have hD : va_D A [(h, .inr (3, [.ref a, .int (iI n)])), (a, .inl (E.2.1, N, .inl (ia t)))] := hD
  refine lv_iload_n hx hb d_Row_at_0 rfl (lv_at hl 1 rfl) ?_
  refine wi_if_lt (tgt := 30) hx hb d_Row_at_1 (by decide) (by omega) (fun c_1 => ?_) (fun c_1 => ?_)
  · skip
    refine wi_iconst (n := -1) hx hb d_Row_at_30 ?_
    exact ret (-1) _ _ _ _ d_Row_at_31 (show ((-1) = rat t n i) from ((rat_out (by omega)).symm)) (hP.sub [0, 1] rfl) (hD.sub [0, 1] (by decide) rfl) hS
  · skip
    refine lv_iload_n hx hb d_Row_at_4 rfl (lv_at hl 1 rfl) ?_
    refine lv_aload_n hx hb d_Row_at_5 rfl (lv_at hl 0 rfl) ?_
    refine wk_get B hP 0 rfl fl_Row_15 (v := .int (iI n)) rfl d_Row_at_6 ?_
    refine wi_icmp_ge (tgt := 30) hx hb d_Row_at_9 (by decide) (by omega) (by omega) (fun c_2 => ?_) (fun c_2 => ?_)
    · skip
      refine wi_iconst (n := -1) hx hb d_Row_at_30 ?_
      exact ret (-1) _ _ _ _ d_Row_at_31 (show ((-1) = rat t n i) from ((rat_out (by omega)).symm)) (hP.sub [0, 1] rfl) (hD.sub [0, 1] (by decide) rfl) hS
    · skip
      refine lv_iload_n hx hb d_Row_at_12 rfl (lv_at hl 1 rfl) ?_
      refine lv_aload_n hx hb d_Row_at_13 rfl (lv_at hl 0 rfl) ?_
      refine wk_get B hP 0 rfl fl_Row_9 (v := .ref a) rfl d_Row_at_14 ?_
      refine va_alen hx hb hK hP 1 1 rfl rfl (v := iI ((N : Nat) : Int)) (iI_nat _) d_Row_at_17 ?_
      refine wi_icmp_ge (tgt := 30) hx hb d_Row_at_18 (by decide) (by omega) (by omega) (fun c_3 => ?_) (fun c_3 => ?_)
      · skip
        refine wi_iconst (n := -1) hx hb d_Row_at_30 ?_
        exact ret (-1) _ _ _ _ d_Row_at_31 (show ((-1) = rat t n i) from ((rat_out (by omega)).symm)) (hP.sub [0, 1] rfl) (hD.sub [0, 1] (by decide) rfl) hS
      · skip
        refine lv_aload_n hx hb d_Row_at_21 rfl (lv_at hl 0 rfl) ?_
        refine wk_get B hP 0 rfl fl_Row_9 (v := .ref a) rfl d_Row_at_22 ?_
        refine lv_iload_n hx hb d_Row_at_25 rfl (lv_at hl 1 rfl) ?_
        refine wi_cald hx hb hK hP 1 1 rfl rfl (by omega) (by omega) d_Row_at_26 ?_
        refine lv_goto (tgt := 31) hx hb d_Row_at_27 (by decide) ?_
        exact ret (t i) _ _ _ _ d_Row_at_31 (show ((t i) = rat t n i) from ((rat_in (by omega)).symm)) (hP.sub [0, 1] rfl) (hD.sub [0, 1] (by decide) rfl) hS
set_option maxHeartbeats 4000000 in
set_option maxRecDepth 100000 in
theorem c_Row_add (l : Launch) (D : va_G) (E : EVt) (h : Nat) (a : Nat) (N : Nat) (t : Int → Int) (n : Int) (x : Int) (hn : 0 ≤ n ∧ n < (N : Int)) (hN : N < 65536) (hx1 : 0 ≤ x ∧ x < 65536) : CT l D classes (tyl E) (EVX E) y_Row_add (Cond.code y_Row_add b_Row_add 2 none :: TB) (rmK 0 0 0 0) 0 0 [.ref h, .int (iI x)] [(h, .inr (3, [.ref a, .int (iI n)])), (a, .inl (E.2.1, N, .inl (ia t)))] (S := Unit) (fun _ => [(h, .inr (3, [.ref a, .int (iI (n + 1))])), (a, .inl (E.2.1, N, .inl (ia (upZ t n x))))]) (fun _ => none) (fun _ => True) := by
  refine CT.ofv (eok E) (by decide) rfl (Nat.le_of_ble_eq_true rfl) ?_
  intro p e s m args below meth c A Q ls B hmn hP hD hS hl ret
  have B : Bd l D classes (tyl E) (EVX E) p m c b_Row_add 2 s args (Cond.code y_Row_add b_Row_add 2 none :: TB) R_Row A := B
  obtain ⟨⟨hx, hb, hml, hown, hts⟩, hX, hK, hE, hA⟩ := id B
  have hl : lv_has ls 2 [(0, .ref h), (1, .int (iI x))] := hl
  have hP : va_P D classes [(h, .inr (3, [.ref a, .int (iI n)])), (a, .inl (E.2.1, N, .inl (ia t)))] s.heap := hP
  have hD : va_D A [(h, .inr (3, [.ref a, .int (iI n)])), (a, .inl (E.2.1, N, .inl (ia t)))] := hD
  refine lv_aload_n hx hb d_Row_add_0 rfl (lv_at hl 0 rfl) ?_
  refine wk_get B hP 0 rfl fl_Row_15 (v := .int (iI n)) rfl d_Row_add_1 ?_
  refine wi_if_lt (tgt := 40) hx hb d_Row_add_4 (by decide) (by omega) (fun c_1 => by exfalso; omega) (fun c_1 => ?_)
  refine lv_aload_n hx hb d_Row_add_7 rfl (lv_at hl 0 rfl) ?_
  refine wk_get B hP 0 rfl fl_Row_15 (v := .int (iI n)) rfl d_Row_add_8 ?_
  refine lv_aload_n hx hb d_Row_add_11 rfl (lv_at hl 0 rfl) ?_
  refine wk_get B hP 0 rfl fl_Row_9 (v := .ref a) rfl d_Row_add_12 ?_
  refine va_alen hx hb hK hP 1 1 rfl rfl (v := iI ((N : Nat) : Int)) (iI_nat _) d_Row_add_15 ?_
  refine wi_icmp_ge (tgt := 40) hx hb d_Row_add_16 (by decide) (by omega) (by omega) (fun c_2 => by exfalso; omega) (fun c_2 => ?_)
  refine lv_aload_n hx hb d_Row_add_19 rfl (lv_at hl 0 rfl) ?_
  refine wk_get B hP 0 rfl fl_Row_9 (v := .ref a) rfl d_Row_add_20 ?_
  refine lv_aload_n hx hb d_Row_add_23 rfl (lv_at hl 0 rfl) ?_
  refine wk_get B hP 0 rfl fl_Row_15 (v := .int (iI n)) rfl d_Row_add_24 ?_
  refine lv_iload_n hx hb d_Row_add_27 rfl (lv_at hl 1 rfl) ?_
  refine wi_i2c hx hb (by omega) d_Row_add_28 ?_
  refine wi_cast hx hb hK hP hD hS 1 1 rfl rfl (by omega) (by omega) (by omega) d_Row_add_29 (fun H locs hP hD hS => ?_)
  have hP : va_P D classes [(h, .inr (3, [.ref a, .int (iI n)])), (a, .inl (E.2.1, N, .inl (ia (upZ t n x))))] H := hP
  have hD : va_D A [(h, .inr (3, [.ref a, .int (iI n)])), (a, .inl (E.2.1, N, .inl (ia (upZ t n x))))] := hD
  refine lv_aload_n hx hb d_Row_add_30 rfl (lv_at hl 0 rfl) ?_
  refine lv_dup hx hb d_Row_add_31 rfl ?_
  refine wk_get B hP 0 rfl fl_Row_15 (v := .int (iI n)) rfl d_Row_add_32 ?_
  refine wi_iconst (n := 1) hx hb d_Row_add_35 ?_
  refine wi_iadd hx hb d_Row_add_36 ?_
  refine wk_put B hP hD hS 0 rfl fl_Row_15 fp_Row_1 (v := .int (iI (n + 1))) rfl rfl (Nat.le_of_ble_eq_true rfl) d_Row_add_37 (fun H locs hP hD hS => ?_)
  have hP : va_P D classes [(h, .inr (3, [.ref a, .int (iI (n + 1))])), (a, .inl (E.2.1, N, .inl (ia (upZ t n x))))] H := hP
  have hD : va_D A [(h, .inr (3, [.ref a, .int (iI (n + 1))])), (a, .inl (E.2.1, N, .inl (ia (upZ t n x))))] := hD
  exact ret () _ _ _ _ d_Row_add_40 trivial (hP.sub [0, 1] rfl) (hD.sub [0, 1] (by decide) rfl) hS
set_option maxHeartbeats 4000000 in
set_option maxRecDepth 100000 in
theorem c_Row_toLowerCase (l : Launch) (D : va_G) (E : EVt) (h : Nat) (a : Nat) (N : Nat) (t : Int → Int) (n : Int) (hn : 0 ≤ n ∧ n ≤ (N : Int)) (hN : N < 65536) (hT : Tx t n) : CT l D classes (tyl E) (EVX E) y_Row_toLowerCase (Cond.code y_Row_toLowerCase b_Row_toLowerCase 2 none :: TB) (rmK 0 0 0 0) 0 0 [.ref h] [(h, .inr (3, [.ref a, .int (iI n)])), (a, .inl (E.2.1, N, .inl (ia t)))] (S := (Int → Int)) (fun u => [(h, .inr (3, [.ref a, .int (iI n)])), (a, .inl (E.2.1, N, .inl (ia u)))]) (fun _ => none) (fun u => (LowT t u n n)) := by
  refine CT.ofv (eok E) (by decide) rfl (Nat.le_of_ble_eq_true rfl) ?_
  intro p e s m args below meth c A Q ls B hmn hP hD hS hl ret
  have B : Bd l D classes (tyl E) (EVX E) p m c b_Row_toLowerCase 2 s args (Cond.code y_Row_toLowerCase b_Row_toLowerCase 2 none :: TB) R_Row A := B
  obtain ⟨⟨hx, hb, hml, hown, hts⟩, hX, hK, hE, hA⟩ := id B
  have hl : lv_has ls 2 [(0, .ref h)] := hl
  have hP : va_P D classes [(h, .inr (3, [.ref a, .int (iI n)])), (a, .inl (E.2.1, N, .inl (ia t)))] s.heap := hP
  have hD : va_D A [(h, .inr (3, [.ref a, .int (iI n)])), (a, .inl (E.2.1, N, .inl (ia t)))] := hD
  have K_2 : ∀ (fuel2 : Nat) (i : Int) (t1 : Int → Int) (hi : 0 ≤ i ∧ i ≤ n) (hL : LowT t t1 i n) (hf2 : n - i < (fuel2 : Int)) (ls : Array Slot) (H : Heap) (locs : List Loc), lv_has ls 2 [(0, .ref h), (1, .int (iI i))] → va_P D classes [(h, .inr (3, [.ref a, .int (iI n)])), (a, .inl (E.2.1, N, .inl (ia t1)))] H → va_D A [(h, .inr (3, [.ref a, .int (iI n)])), (a, .inl (E.2.1, N, .inl (ia t1)))] → va_S A s.heap H locs → W p l e (rmK 0 0 0 0) s m args below meth c H locs 0 0 Q (F0 m 2 ls []) := by
    intro fuel2
    induction fuel2 with
    | zero =>
      intro i t1 hi hL hf2 ls H locs hl hP hD hS
      exfalso; omega
    | succ fuel2 ih2 =>
      intro i t1 hi hL hf2 ls H locs hl hP hD hS
      have K_60 : ∀ (t3 : Int → Int) (hin : i < n) (hL3 : LowT t t3 (i + 1) n) (ls : Array Slot) (H : Heap) (locs : List Loc), lv_has ls 2 [(0, .ref h), (1, .int (iI i))] → va_P D classes [(h, .inr (3, [.ref a, .int (iI n)])), (a, .inl (E.2.1, N, .inl (ia t3)))] H → va_D A [(h, .inr (3, [.ref a, .int (iI n)])), (a, .inl (E.2.1, N, .inl (ia t3)))] → va_S A s.heap H locs → W p l e (rmK 0 0 0 0) s m args below meth c H locs 0 0 Q (F0 m 60 ls []) := by
        intro t3 hin hL3 ls H locs hl hP hD hS
        refine wi_iinc (v := i + 1) (lv' := [(1, .int (iI (i + 1))), (0, .ref h)]) hx hb d_Row_toLowerCase_60 hl (k := 1) rfl rfl (by decide) rfl (fun ls hl => ?_)
        refine lv_goto (tgt := 2) hx hb d_Row_toLowerCase_63 (by decide) ?_
        exact ih2 (i + 1) t3 (by omega) (hL3) (by omega) _ _ _ (lv_sub hl [1, 0] rfl) (hP.sub [0, 1] rfl) (hD.sub [0, 1] (by decide) rfl) hS
      refine lv_iload_n hx hb d_Row_toLowerCase_2 rfl (lv_at hl 1 rfl) ?_
      refine lv_aload_n hx hb d_Row_toLowerCase_3 rfl (lv_at hl 0 rfl) ?_
      refine wk_get B hP 0 rfl fl_Row_15 (v := .int (iI n)) rfl d_Row_toLowerCase_4 ?_
      refine wi_icmp_ge (tgt := 66) hx hb d_Row_toLowerCase_7 (by decide) (by omega) (by omega) (fun c_1 => ?_) (fun c_1 => ?_)
      · skip
        exact ret t1 _ _ _ _ d_Row_toLowerCase_66 (show (LowT t t1 n n) from (by rw [show i = n by omega] at hL; exact hL)) (hP.sub [0, 1] rfl) (hD.sub [0, 1] (by decide) rfl) hS
      · skip
        refine lv_iload_n hx hb d_Row_toLowerCase_10 rfl (lv_at hl 1 rfl) ?_
        refine lv_aload_n hx hb d_Row_toLowerCase_11 rfl (lv_at hl 0 rfl) ?_
        refine wk_get B hP 0 rfl fl_Row_9 (v := .ref a) rfl d_Row_toLowerCase_12 ?_
        refine va_alen hx hb hK hP 1 1 rfl rfl (v := iI ((N : Nat) : Int)) (iI_nat _) d_Row_toLowerCase_15 ?_
        refine wi_icmp_ge (tgt := 66) hx hb d_Row_toLowerCase_16 (by decide) (by omega) (by omega) (fun c_2 => by exfalso; omega) (fun c_2 => ?_)
        have hb1 := hT i (by omega) (by omega)
        have hb2 := hL.2.1 i (by omega) (by omega)
        refine lv_aload_n hx hb d_Row_toLowerCase_19 rfl (lv_at hl 0 rfl) ?_
        refine wk_get B hP 0 rfl fl_Row_9 (v := .ref a) rfl d_Row_toLowerCase_20 ?_
        refine lv_iload_n hx hb d_Row_toLowerCase_23 rfl (lv_at hl 1 rfl) ?_
        refine wi_cald hx hb hK hP 1 1 rfl rfl (by omega) (by omega) d_Row_toLowerCase_24 ?_
        refine wi_bipush hx hb d_Row_toLowerCase_25 (by decide) ?_
        refine wi_icmp_lt (tgt := 60) hx hb d_Row_toLowerCase_27 (by decide) (by rw [hb2]; omega) (by omega) (fun c_3 => ?_) (fun c_3 => ?_)
        · skip
          exact K_60 t1 (by omega) (LowT_same hL (by omega) (by rw [hb2] at c_3; omega)) _ _ _ (lv_sub hl [0, 1] rfl) (hP.sub [0, 1] rfl) (hD.sub [0, 1] (by decide) rfl) hS
        · skip
          refine lv_aload_n hx hb d_Row_toLowerCase_30 rfl (lv_at hl 0 rfl) ?_
          refine wk_get B hP 0 rfl fl_Row_9 (v := .ref a) rfl d_Row_toLowerCase_31 ?_
          refine lv_iload_n hx hb d_Row_toLowerCase_34 rfl (lv_at hl 1 rfl) ?_
          refine wi_cald hx hb hK hP 1 1 rfl rfl (by omega) (by omega) d_Row_toLowerCase_35 ?_
          refine wi_bipush hx hb d_Row_toLowerCase_36 (by decide) ?_
          refine wi_icmp_gt (tgt := 60) hx hb d_Row_toLowerCase_38 (by decide) (by rw [hb2]; omega) (by omega) (fun c_4 => ?_) (fun c_4 => ?_)
          · skip
            exact K_60 t1 (by omega) (LowT_same hL (by omega) (by rw [hb2] at c_4; omega)) _ _ _ (lv_sub hl [0, 1] rfl) (hP.sub [0, 1] rfl) (hD.sub [0, 1] (by decide) rfl) hS
          · skip
            refine lv_aload_n hx hb d_Row_toLowerCase_41 rfl (lv_at hl 0 rfl) ?_
            refine wk_get B hP 0 rfl fl_Row_9 (v := .ref a) rfl d_Row_toLowerCase_42 ?_
            refine lv_iload_n hx hb d_Row_toLowerCase_45 rfl (lv_at hl 1 rfl) ?_
            refine lv_aload_n hx hb d_Row_toLowerCase_46 rfl (lv_at hl 0 rfl) ?_
            refine wk_get B hP 0 rfl fl_Row_9 (v := .ref a) rfl d_Row_toLowerCase_47 ?_
            refine lv_iload_n hx hb d_Row_toLowerCase_50 rfl (lv_at hl 1 rfl) ?_
            refine wi_cald hx hb hK hP 1 1 rfl rfl (by omega) (by omega) d_Row_toLowerCase_51 ?_
            refine wi_bipush hx hb d_Row_toLowerCase_52 (by decide) ?_
            refine wi_isub hx hb d_Row_toLowerCase_54 ?_
            refine wi_bipush hx hb d_Row_toLowerCase_55 (by decide) ?_
            refine wi_iadd hx hb d_Row_toLowerCase_57 ?_
            refine wi_i2c hx hb (by rw [hb2]; rw [hb2] at c_3 c_4; omega) d_Row_toLowerCase_58 ?_
            refine wi_cast hx hb hK hP hD hS 1 1 rfl rfl (by omega) (by omega) (by rw [hb2]; rw [hb2] at c_3 c_4; omega) d_Row_toLowerCase_59 (fun H locs hP hD hS => ?_)
            have hP : va_P D classes [(h, .inr (3, [.ref a, .int (iI n)])), (a, .inl (E.2.1, N, .inl (ia (upZ t1 i (t1 i - 65 + 97)))))] H := hP
            have hD : va_D A [(h, .inr (3, [.ref a, .int (iI n)])), (a, .inl (E.2.1, N, .inl (ia (upZ t1 i (t1 i - 65 + 97)))))] := hD
            exact K_60 (upZ t1 i (t1 i - 65 + 97)) (by omega) (LowT_up hL (by omega) (by rw [hb2] at c_3 c_4; omega)) _ _ _ (lv_sub hl [0, 1] rfl) (hP.sub [0, 1] rfl) (hD.sub [0, 1] (by decide) rfl) hS
  refine wi_iconst (n := 0) hx hb d_Row_toLowerCase_0 ?_
  refine lv_istore_n (lv' := [(1, .int (iI 0)), (0, .ref h)]) hx hb d_Row_toLowerCase_1 rfl hl (by decide) rfl (fun ls hl => ?_)
  exact K_2 ((n - 0 : Int).toNat + 1) 0 t (by omega) (LowT_0) (by omega) _ _ _ (lv_sub hl [1, 0] rfl) (hP.sub [0, 1] rfl) (hD.sub [0, 1] (by decide) rfl) hS
