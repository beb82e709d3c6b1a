/-! Big: add -/
abbrev b_Big_add : ByteArray := prog_10_method_11_code
def y_Big_add : MethodName := ⟨"IntervalTextModel$Big", "add", "(LIntervalTextModel$Big;)V"⟩
theorem d_Big_add_0 : decode b_Big_add 0 = .ok (.iconst 0, 1) := by decide +kernel
theorem d_Big_add_1 : decode b_Big_add 1 = .ok (.istore_n 2, 1) := by decide +kernel
theorem d_Big_add_2 : decode b_Big_add 2 = .ok (.iconst 0, 1) := by decide +kernel
theorem d_Big_add_3 : decode b_Big_add 3 = .ok (.istore_n 3, 1) := by decide +kernel
theorem d_Big_add_4 : decode b_Big_add 4 = .ok (.iload_n 3, 1) := by decide +kernel
theorem d_Big_add_5 : decode b_Big_add 5 = .ok (.aload_n 1, 1) := by decide +kernel
theorem d_Big_add_6 : decode b_Big_add 6 = .ok (.getfield 13, 3) := by decide +kernel
theorem d_Big_add_9 : decode b_Big_add 9 = .ok (.if_icmp .lt 7, 3) := by decide +kernel
theorem d_Big_add_12 : decode b_Big_add 12 = .ok (.iload_n 2, 1) := by decide +kernel
theorem d_Big_add_13 : decode b_Big_add 13 = .ok (.ifCond .le 89, 3) := by decide +kernel
theorem d_Big_add_16 : decode b_Big_add 16 = .ok (.iload_n 3, 1) := by decide +kernel
theorem d_Big_add_17 : decode b_Big_add 17 = .ok (.aload_n 0, 1) := by decide +kernel
theorem d_Big_add_18 : decode b_Big_add 18 = .ok (.getfield 13, 3) := by decide +kernel
theorem d_Big_add_21 : decode b_Big_add 21 = .ok (.if_icmp .ge 12, 3) := by decide +kernel
theorem d_Big_add_24 : decode b_Big_add 24 = .ok (.aload_n 0, 1) := by decide +kernel
theorem d_Big_add_25 : decode b_Big_add 25 = .ok (.getfield 7, 3) := by decide +kernel
theorem d_Big_add_28 : decode b_Big_add 28 = .ok (.iload_n 3, 1) := by decide +kernel
theorem d_Big_add_29 : decode b_Big_add 29 = .ok (.iaload, 1) := by decide +kernel
theorem d_Big_add_30 : decode b_Big_add 30 = .ok (.goto 4, 3) := by decide +kernel
theorem d_Big_add_33 : decode b_Big_add 33 = .ok (.iconst 0, 1) := by decide +kernel
theorem d_Big_add_34 : decode b_Big_add 34 = .ok (.iload_n 3, 1) := by decide +kernel
theorem d_Big_add_35 : decode b_Big_add 35 = .ok (.aload_n 1, 1) := by decide +kernel
theorem d_Big_add_36 : decode b_Big_add 36 = .ok (.getfield 13, 3) := by decide +kernel
theorem d_Big_add_39 : decode b_Big_add 39 = .ok (.if_icmp .ge 12, 3) := by decide +kernel
theorem d_Big_add_42 : decode b_Big_add 42 = .ok (.aload_n 1, 1) := by decide +kernel
theorem d_Big_add_43 : decode b_Big_add 43 = .ok (.getfield 7, 3) := by decide +kernel
theorem d_Big_add_46 : decode b_Big_add 46 = .ok (.iload_n 3, 1) := by decide +kernel
theorem d_Big_add_47 : decode b_Big_add 47 = .ok (.iaload, 1) := by decide +kernel
theorem d_Big_add_48 : decode b_Big_add 48 = .ok (.goto 4, 3) := by decide +kernel
theorem d_Big_add_51 : decode b_Big_add 51 = .ok (.iconst 0, 1) := by decide +kernel
theorem d_Big_add_52 : decode b_Big_add 52 = .ok (.iadd, 1) := by decide +kernel
theorem d_Big_add_53 : decode b_Big_add 53 = .ok (.iload_n 2, 1) := by decide +kernel
theorem d_Big_add_54 : decode b_Big_add 54 = .ok (.iadd, 1) := by decide +kernel
theorem d_Big_add_55 : decode b_Big_add 55 = .ok (.istore 4, 2) := by decide +kernel
theorem d_Big_add_57 : decode b_Big_add 57 = .ok (.aload_n 0, 1) := by decide +kernel
theorem d_Big_add_58 : decode b_Big_add 58 = .ok (.iload_n 3, 1) := by decide +kernel
theorem d_Big_add_59 : decode b_Big_add 59 = .ok (.aload_n 0, 1) := by decide +kernel
theorem d_Big_add_60 : decode b_Big_add 60 = .ok (.getfield 13, 3) := by decide +kernel
theorem d_Big_add_63 : decode b_Big_add 63 = .ok (.if_icmp .ge 10, 3) := by decide +kernel
theorem d_Big_add_66 : decode b_Big_add 66 = .ok (.aload_n 0, 1) := by decide +kernel
theorem d_Big_add_67 : decode b_Big_add 67 = .ok (.getfield 13, 3) := by decide +kernel
theorem d_Big_add_70 : decode b_Big_add 70 = .ok (.goto 6, 3) := by decide +kernel
theorem d_Big_add_73 : decode b_Big_add 73 = .ok (.iload_n 3, 1) := by decide +kernel
theorem d_Big_add_74 : decode b_Big_add 74 = .ok (.iconst 1, 1) := by decide +kernel
theorem d_Big_add_75 : decode b_Big_add 75 = .ok (.iadd, 1) := by decide +kernel
theorem d_Big_add_76 : decode b_Big_add 76 = .ok (.putfield 13, 3) := by decide +kernel
theorem d_Big_add_79 : decode b_Big_add 79 = .ok (.aload_n 0, 1) := by decide +kernel
theorem d_Big_add_80 : decode b_Big_add 80 = .ok (.getfield 7, 3) := by decide +kernel
theorem d_Big_add_83 : decode b_Big_add 83 = .ok (.iload_n 3, 1) := by decide +kernel
theorem d_Big_add_84 : decode b_Big_add 84 = .ok (.iload 4, 2) := by decide +kernel
theorem d_Big_add_86 : decode b_Big_add 86 = .ok (.ldc 26, 2) := by decide +kernel
theorem d_Big_add_88 : decode b_Big_add 88 = .ok (.iand, 1) := by decide +kernel
theorem d_Big_add_89 : decode b_Big_add 89 = .ok (.iastore, 1) := by decide +kernel
theorem d_Big_add_90 : decode b_Big_add 90 = .ok (.iload 4, 2) := by decide +kernel
theorem d_Big_add_92 : decode b_Big_add 92 = .ok (.bipush 16, 2) := by decide +kernel
theorem d_Big_add_94 : decode b_Big_add 94 = .ok (.ishr, 1) := by decide +kernel
theorem d_Big_add_95 : decode b_Big_add 95 = .ok (.istore_n 2, 1) := by decide +kernel
theorem d_Big_add_96 : decode b_Big_add 96 = .ok (.iinc 3 1, 3) := by decide +kernel
theorem d_Big_add_99 : decode b_Big_add 99 = .ok (.goto (-95), 3) := by decide +kernel
theorem d_Big_add_102 : decode b_Big_add 102 = .ok (.return_, 1) := by decide +kernel
set_option maxHeartbeats 4000000 in
set_option maxRecDepth 100000 in
theorem c_Big_add (l : Launch) (D : va_G) (E : EVt) (h : Nat) (a : Nat) (g : Int → Int) (k : Int) (h2 : Nat) (a2 : Nat) (g2 : Int → Int) (k2 : Int) (v : Int) (w : Int) (hN : BigOK g k v) (hM : BigOK g2 k2 w) (hf1 : v + w < QB 640) : CT l D classes (tyl E) (EVX E) y_Big_add (Cond.code y_Big_add b_Big_add 5 none :: TB) (rmK 0 0 0 0) 0 0 [.ref h, .ref h2] [(h, .inr (7, [.ref a, .int (iI k)])), (a, .inl (E.1, 640, .inl (ia g))), (h2, .inr (7, [.ref a2, .int (iI k2)])), (a2, .inl (E.1, 640, .inl (ia g2)))] (S := (Int → Int) × Int) (fun u => [(h, .inr (7, [.ref a, .int (iI u.2)])), (a, .inl (E.1, 640, .inl (ia u.1))), (h2, .inr (7, [.ref a2, .int (iI k2)])), (a2, .inl (E.1, 640, .inl (ia g2)))]) (fun _ => none) (fun u => (BigOK u.1 u.2 (v + w))) := by
  refine CT.ofv (eok E) (by decide) rfl (Nat.le_of_ble_eq_true rfl) ?_
  intro p e s m args below meth c A Q ls B hmn hP hD hS hl ret
  have B : Bd l D classes (tyl E) (EVX E) p m c b_Big_add 5 s args (Cond.code y_Big_add b_Big_add 5 none :: TB) R_Big A := B
  obtain ⟨⟨hx, hb, hml, hown, hts⟩, hX, hK, hE, hA⟩ := id B
  have hl : lv_has ls 5 [(0, .ref h), (1, .ref h2)] := hl
  have hP : va_P D classes [(h, .inr (7, [.ref a, .int (iI k)])), (a, .inl (E.1, 640, .inl (ia g))), (h2, .inr (7, [.ref a2, .int (iI k2)])), (a2, .inl (E.1, 640, .inl (ia g2)))] s.heap := hP
  have hD : va_D A [(h, .inr (7, [.ref a, .int (iI k)])), (a, .inl (E.1, 640, .inl (ia g))), (h2, .inr (7, [.ref a2, .int (iI k2)])), (a2, .inl (E.1, 640, .inl (ia g2)))] := hD
  have hk := hN.k
  have hk2 := hM.k
  have K_4 : ∀ (fuel4 : Nat) (i : Int) (cy : Int) (nn : Int) (g1 : Int → Int) (hi : 0 ≤ i ∧ i ≤ 640) (hcy : 0 ≤ cy ∧ cy ≤ 1) (hnn : nn = max k i) (hC : DL g (fun j => mgx g k j + mgx g2 k2 j) 0 0 g1 i cy) (hT : i ≤ max k k2 ∨ QB (i - 1) ≤ v + w) (hf4 : 640 - i < (fuel4 : Int)) (ls : Array Slot) (H : Heap) (locs : List Loc), lv_has ls 5 [(0, .ref h), (1, .ref h2), (2, .int (iI cy)), (3, .int (iI i))] → va_P D classes [(h, .inr (7, [.ref a, .int (iI nn)])), (a, .inl (E.1, 640, .inl (ia g1))), (h2, .inr (7, [.ref a2, .int (iI k2)])), (a2, .inl (E.1, 640, .inl (ia g2)))] H → va_D A [(h, .inr (7, [.ref a, .int (iI nn)])), (a, .inl (E.1, 640, .inl (ia g1))), (h2, .inr (7, [.ref a2, .int (iI k2)])), (a2, .inl (E.1, 640, .inl (ia g2)))] → va_S A s.heap H locs → W p l e (rmK 0 0 0 0) s m args below meth c H locs 0 0 Q (F0 m 4 ls []) := by
    intro fuel4
    induction fuel4 with
    | zero =>
      intro i cy nn g1 hi hcy hnn hC hT hf4 ls H locs hl hP hD hS
      exfalso; omega
    | succ fuel4 ih4 =>
      intro i cy nn g1 hi hcy hnn hC hT hf4 ls H locs hl hP hD hS
      have hg1 := hC.2.1 i hi.1 (Or.inr (Int.le_refl _))
      refine lv_iload_n hx hb d_Big_add_4 rfl (lv_at hl 3 rfl) ?_
      refine lv_aload_n hx hb d_Big_add_5 rfl (lv_at hl 1 rfl) ?_
      refine wk_get B hP 2 rfl fl_Big_13 (v := .int (iI k2)) rfl d_Big_add_6 ?_
      refine wi_icmp_lt (tgt := 16) hx hb d_Big_add_9 (by decide) (by omega) (by omega) (fun c_1 => ?_) (fun c_1 => ?_)
      · skip
        have hlt : i < 640 := by
          rcases Int.lt_or_le i 640 with q | q
          · exact q
          · exfalso
            have e6 : i = 640 := by omega
            have hb := ba_big hN hM hC (by omega) (by omega)
            rw [e6] at hb; omega
        refine lv_iload_n hx hb d_Big_add_16 rfl (lv_at hl 3 rfl) ?_
        refine lv_aload_n hx hb d_Big_add_17 rfl (lv_at hl 0 rfl) ?_
        refine wk_get B hP 0 rfl fl_Big_13 (v := .int (iI nn)) rfl d_Big_add_18 ?_
        refine wi_icmp_ge (tgt := 33) hx hb d_Big_add_21 (by decide) (by omega) (by omega) (fun c_2 => ?_) (fun c_2 => ?_)
        · skip
          refine wi_iconst (n := 0) hx hb d_Big_add_33 ?_
          refine lv_iload_n hx hb d_Big_add_34 rfl (lv_at hl 3 rfl) ?_
          refine lv_aload_n hx hb d_Big_add_35 rfl (lv_at hl 1 rfl) ?_
          refine wk_get B hP 2 rfl fl_Big_13 (v := .int (iI k2)) rfl d_Big_add_36 ?_
          refine wi_icmp_ge (tgt := 51) hx hb d_Big_add_39 (by decide) (by omega) (by omega) (fun c_3 => ?_) (fun c_3 => ?_)
          · skip
            refine wi_iconst (n := 0) hx hb d_Big_add_51 ?_
            refine wi_iadd hx hb d_Big_add_52 ?_
            refine lv_iload_n hx hb d_Big_add_53 rfl (lv_at hl 2 rfl) ?_
            refine wi_iadd hx hb d_Big_add_54 ?_
            refine lv_istore (lv' := [(4, .int (iI (0 + 0 + cy))), (0, .ref h), (1, .ref h2), (2, .int (iI cy)), (3, .int (iI i))]) hx hb d_Big_add_55 hl (by decide) rfl (fun ls hl => ?_)
            refine lv_aload_n hx hb d_Big_add_57 rfl (lv_at hl 1 rfl) ?_
            refine lv_iload_n hx hb d_Big_add_58 rfl (lv_at hl 4 rfl) ?_
            refine lv_aload_n hx hb d_Big_add_59 rfl (lv_at hl 1 rfl) ?_
            refine wk_get B hP 0 rfl fl_Big_13 (v := .int (iI nn)) rfl d_Big_add_60 ?_
            refine wi_icmp_ge (tgt := 73) hx hb d_Big_add_63 (by decide) (by omega) (by omega) (fun c_4 => ?_) (fun c_4 => ?_)
            · skip
              refine lv_iload_n hx hb d_Big_add_73 rfl (lv_at hl 4 rfl) ?_
              refine wi_iconst (n := 1) hx hb d_Big_add_74 ?_
              refine wi_iadd hx hb d_Big_add_75 ?_
              refine wk_put B hP hD hS 0 rfl fl_Big_13 fp_Big_1 (v := .int (iI (i + 1))) rfl rfl (Nat.le_of_ble_eq_true rfl) d_Big_add_76 (fun H locs hP hD hS => ?_)
              have hP : va_P D classes [(h, .inr (7, [.ref a, .int (iI (i + 1))])), (a, .inl (E.1, 640, .inl (ia g1))), (h2, .inr (7, [.ref a2, .int (iI k2)])), (a2, .inl (E.1, 640, .inl (ia g2)))] H := hP
              have hD : va_D A [(h, .inr (7, [.ref a, .int (iI (i + 1))])), (a, .inl (E.1, 640, .inl (ia g1))), (h2, .inr (7, [.ref a2, .int (iI k2)])), (a2, .inl (E.1, 640, .inl (ia g2)))] := hD
              refine lv_aload_n hx hb d_Big_add_79 rfl (lv_at hl 1 rfl) ?_
              refine wk_get B hP 0 rfl fl_Big_7 (v := .ref a) rfl d_Big_add_80 ?_
              refine lv_iload_n hx hb d_Big_add_83 rfl (lv_at hl 4 rfl) ?_
              refine lv_iload hx hb d_Big_add_84 (lv_at hl 0 rfl) ?_
              refine wi_ldc hx hb 65535 hown (tb_h hts tw_Big_constant_26) (by decide) d_Big_add_86 ?_
              refine wi_imask hx hb 16 65536 (by decide +kernel) (by decide) (by decide) d_Big_add_88 ?_
              refine wi_iast hx hb hK hP hD hS 1 0 rfl rfl (by omega) (by omega) d_Big_add_89 (fun H locs hP hD hS => ?_)
              have hP : va_P D classes [(h, .inr (7, [.ref a, .int (iI (i + 1))])), (a, .inl (E.1, 640, .inl (ia (upZ g1 i ((0 + 0 + cy) % 65536))))), (h2, .inr (7, [.ref a2, .int (iI k2)])), (a2, .inl (E.1, 640, .inl (ia g2)))] H := hP
              have hD : va_D A [(h, .inr (7, [.ref a, .int (iI (i + 1))])), (a, .inl (E.1, 640, .inl (ia (upZ g1 i ((0 + 0 + cy) % 65536))))), (h2, .inr (7, [.ref a2, .int (iI k2)])), (a2, .inl (E.1, 640, .inl (ia g2)))] := hD
              refine lv_iload hx hb d_Big_add_90 (lv_at hl 0 rfl) ?_
              refine wi_bipush hx hb d_Big_add_92 (by decide) ?_
              refine wi_ishr hx hb 16 65536 (by decide +kernel) rfl (by decide) (by omega) d_Big_add_94 ?_
              refine lv_istore_n (lv' := [(2, .int (iI ((0 + 0 + cy) / 65536))), (4, .int (iI (0 + 0 + cy))), (0, .ref h), (1, .ref h2), (3, .int (iI i))]) hx hb d_Big_add_95 rfl hl (by decide) rfl (fun ls hl => ?_)
              refine wi_iinc (v := i + 1) (lv' := [(3, .int (iI (i + 1))), (2, .int (iI ((0 + 0 + cy) / 65536))), (4, .int (iI (0 + 0 + cy))), (0, .ref h), (1, .ref h2)]) hx hb d_Big_add_96 hl (k := 4) rfl rfl (by decide) rfl (fun ls hl => ?_)
              refine lv_goto (tgt := 4) hx hb d_Big_add_99 (by decide) ?_
              exact ih4 (i + 1) ((0 + 0 + cy) / 65536) (i + 1) (upZ g1 i ((0 + 0 + cy) % 65536)) (by omega) (by omega) (by omega) (ba_s hC (x := 0) (y := 0) ((mgx_out (by omega)).symm) ((mgx_out (by omega)).symm) rfl) (by rcases Int.lt_or_le i (max k k2) with q | q; exact Or.inl (by omega); exact Or.inr (by rw [show i + 1 - 1 = i by omega]; exact ba_big hN hM hC (by omega) (by omega))) (by omega) _ _ _ (lv_sub hl [3, 4, 1, 0] rfl) (hP.sub [0, 1, 2, 3] rfl) (hD.sub [0, 1, 2, 3] (by decide) rfl) hS
            · skip
              refine lv_aload_n hx hb d_Big_add_66 rfl (lv_at hl 1 rfl) ?_
              refine wk_get B hP 0 rfl fl_Big_13 (v := .int (iI nn)) rfl d_Big_add_67 ?_
              refine lv_goto (tgt := 76) hx hb d_Big_add_70 (by decide) ?_
              refine wk_put B hP hD hS 0 rfl fl_Big_13 fp_Big_1 (v := .int (iI nn)) rfl rfl (Nat.le_of_ble_eq_true rfl) d_Big_add_76 (fun H locs hP hD hS => ?_)
              have hP : va_P D classes [(h, .inr (7, [.ref a, .int (iI nn)])), (a, .inl (E.1, 640, .inl (ia g1))), (h2, .inr (7, [.ref a2, .int (iI k2)])), (a2, .inl (E.1, 640, .inl (ia g2)))] H := hP
              have hD : va_D A [(h, .inr (7, [.ref a, .int (iI nn)])), (a, .inl (E.1, 640, .inl (ia g1))), (h2, .inr (7, [.ref a2, .int (iI k2)])), (a2, .inl (E.1, 640, .inl (ia g2)))] := hD
              refine lv_aload_n hx hb d_Big_add_79 rfl (lv_at hl 1 rfl) ?_
              refine wk_get B hP 0 rfl fl_Big_7 (v := .ref a) rfl d_Big_add_80 ?_
              refine lv_iload_n hx hb d_Big_add_83 rfl (lv_at hl 4 rfl) ?_
              refine lv_iload hx hb d_Big_add_84 (lv_at hl 0 rfl) ?_
              refine wi_ldc hx hb 65535 hown (tb_h hts tw_Big_constant_26) (by decide) d_Big_add_86 ?_
              refine wi_imask hx hb 16 65536 (by decide +kernel) (by decide) (by decide) d_Big_add_88 ?_
              refine wi_iast hx hb hK hP hD hS 1 0 rfl rfl (by omega) (by omega) d_Big_add_89 (fun H locs hP hD hS => ?_)
              have hP : va_P D classes [(h, .inr (7, [.ref a, .int (iI nn)])), (a, .inl (E.1, 640, .inl (ia (upZ g1 i ((0 + 0 + cy) % 65536))))), (h2, .inr (7, [.ref a2, .int (iI k2)])), (a2, .inl (E.1, 640, .inl (ia g2)))] H := hP
              have hD : va_D A [(h, .inr (7, [.ref a, .int (iI nn)])), (a, .inl (E.1, 640, .inl (ia (upZ g1 i ((0 + 0 + cy) % 65536))))), (h2, .inr (7, [.ref a2, .int (iI k2)])), (a2, .inl (E.1, 640, .inl (ia g2)))] := hD
              refine lv_iload hx hb d_Big_add_90 (lv_at hl 0 rfl) ?_
              refine wi_bipush hx hb d_Big_add_92 (by decide) ?_
              refine wi_ishr hx hb 16 65536 (by decide +kernel) rfl (by decide) (by omega) d_Big_add_94 ?_
              refine lv_istore_n (lv' := [(2, .int (iI ((0 + 0 + cy) / 65536))), (4, .int (iI (0 + 0 + cy))), (0, .ref h), (1, .ref h2), (3, .int (iI i))]) hx hb d_Big_add_95 rfl hl (by decide) rfl (fun ls hl => ?_)
              refine wi_iinc (v := i + 1) (lv' := [(3, .int (iI (i + 1))), (2, .int (iI ((0 + 0 + cy) / 65536))), (4, .int (iI (0 + 0 + cy))), (0, .ref h), (1, .ref h2)]) hx hb d_Big_add_96 hl (k := 4) rfl rfl (by decide) rfl (fun ls hl => ?_)
              refine lv_goto (tgt := 4) hx hb d_Big_add_99 (by decide) ?_
              exact ih4 (i + 1) ((0 + 0 + cy) / 65536) nn (upZ g1 i ((0 + 0 + cy) % 65536)) (by omega) (by omega) (by omega) (ba_s hC (x := 0) (y := 0) ((mgx_out (by omega)).symm) ((mgx_out (by omega)).symm) rfl) (by rcases Int.lt_or_le i (max k k2) with q | q; exact Or.inl (by omega); exact Or.inr (by rw [show i + 1 - 1 = i by omega]; exact ba_big hN hM hC (by omega) (by omega))) (by omega) _ _ _ (lv_sub hl [3, 4, 1, 0] rfl) (hP.sub [0, 1, 2, 3] rfl) (hD.sub [0, 1, 2, 3] (by decide) rfl) hS
          · skip
            have hd2 := hM.2.1 i (by omega) (by omega)
            refine lv_aload_n hx hb d_Big_add_42 rfl (lv_at hl 1 rfl) ?_
            refine wk_get B hP 2 rfl fl_Big_7 (v := .ref a2) rfl d_Big_add_43 ?_
            refine lv_iload_n hx hb d_Big_add_46 rfl (lv_at hl 3 rfl) ?_
            refine wi_iald hx hb hK hP 3 0 rfl rfl (by omega) (by omega) d_Big_add_47 ?_
            refine lv_goto (tgt := 52) hx hb d_Big_add_48 (by decide) ?_
            refine wi_iadd hx hb d_Big_add_52 ?_
            refine lv_iload_n hx hb d_Big_add_53 rfl (lv_at hl 2 rfl) ?_
            refine wi_iadd hx hb d_Big_add_54 ?_
            refine lv_istore (lv' := [(4, .int (iI (0 + (g2 i) + cy))), (0, .ref h), (1, .ref h2), (2, .int (iI cy)), (3, .int (iI i))]) hx hb d_Big_add_55 hl (by decide) rfl (fun ls hl => ?_)
            refine lv_aload_n hx hb d_Big_add_57 rfl (lv_at hl 1 rfl) ?_
            refine lv_iload_n hx hb d_Big_add_58 rfl (lv_at hl 4 rfl) ?_
            refine lv_aload_n hx hb d_Big_add_59 rfl (lv_at hl 1 rfl) ?_
            refine wk_get B hP 0 rfl fl_Big_13 (v := .int (iI nn)) rfl d_Big_add_60 ?_
            refine wi_icmp_ge (tgt := 73) hx hb d_Big_add_63 (by decide) (by omega) (by omega) (fun c_5 => ?_) (fun c_5 => ?_)
            · skip
              refine lv_iload_n hx hb d_Big_add_73 rfl (lv_at hl 4 rfl) ?_
              refine wi_iconst (n := 1) hx hb d_Big_add_74 ?_
              refine wi_iadd hx hb d_Big_add_75 ?_
              refine wk_put B hP hD hS 0 rfl fl_Big_13 fp_Big_1 (v := .int (iI (i + 1))) rfl rfl (Nat.le_of_ble_eq_true rfl) d_Big_add_76 (fun H locs hP hD hS => ?_)
              have hP : va_P D classes [(h, .inr (7, [.ref a, .int (iI (i + 1))])), (a, .inl (E.1, 640, .inl (ia g1))), (h2, .inr (7, [.ref a2, .int (iI k2)])), (a2, .inl (E.1, 640, .inl (ia g2)))] H := hP
              have hD : va_D A [(h, .inr (7, [.ref a, .int (iI (i + 1))])), (a, .inl (E.1, 640, .inl (ia g1))), (h2, .inr (7, [.ref a2, .int (iI k2)])), (a2, .inl (E.1, 640, .inl (ia g2)))] := hD
              refine lv_aload_n hx hb d_Big_add_79 rfl (lv_at hl 1 rfl) ?_
              refine wk_get B hP 0 rfl fl_Big_7 (v := .ref a) rfl d_Big_add_80 ?_
              refine lv_iload_n hx hb d_Big_add_83 rfl (lv_at hl 4 rfl) ?_
              refine lv_iload hx hb d_Big_add_84 (lv_at hl 0 rfl) ?_
              refine wi_ldc hx hb 65535 hown (tb_h hts tw_Big_constant_26) (by decide) d_Big_add_86 ?_
              refine wi_imask hx hb 16 65536 (by decide +kernel) (by decide) (by decide) d_Big_add_88 ?_
              refine wi_iast hx hb hK hP hD hS 1 0 rfl rfl (by omega) (by omega) d_Big_add_89 (fun H locs hP hD hS => ?_)
              have hP : va_P D classes [(h, .inr (7, [.ref a, .int (iI (i + 1))])), (a, .inl (E.1, 640, .inl (ia (upZ g1 i ((0 + (g2 i) + cy) % 65536))))), (h2, .inr (7, [.ref a2, .int (iI k2)])), (a2, .inl (E.1, 640, .inl (ia g2)))] H := hP
              have hD : va_D A [(h, .inr (7, [.ref a, .int (iI (i + 1))])), (a, .inl (E.1, 640, .inl (ia (upZ g1 i ((0 + (g2 i) + cy) % 65536))))), (h2, .inr (7, [.ref a2, .int (iI k2)])), (a2, .inl (E.1, 640, .inl (ia g2)))] := hD
              refine lv_iload hx hb d_Big_add_90 (lv_at hl 0 rfl) ?_
              refine wi_bipush hx hb d_Big_add_92 (by decide) ?_
              refine wi_ishr hx hb 16 65536 (by decide +kernel) rfl (by decide) (by omega) d_Big_add_94 ?_
              refine lv_istore_n (lv' := [(2, .int (iI ((0 + (g2 i) + cy) / 65536))), (4, .int (iI (0 + (g2 i) + cy))), (0, .ref h), (1, .ref h2), (3, .int (iI i))]) hx hb d_Big_add_95 rfl hl (by decide) rfl (fun ls hl => ?_)
              refine wi_iinc (v := i + 1) (lv' := [(3, .int (iI (i + 1))), (2, .int (iI ((0 + (g2 i) + cy) / 65536))), (4, .int (iI (0 + (g2 i) + cy))), (0, .ref h), (1, .ref h2)]) hx hb d_Big_add_96 hl (k := 4) rfl rfl (by decide) rfl (fun ls hl => ?_)
              refine lv_goto (tgt := 4) hx hb d_Big_add_99 (by decide) ?_
              exact ih4 (i + 1) ((0 + (g2 i) + cy) / 65536) (i + 1) (upZ g1 i ((0 + (g2 i) + cy) % 65536)) (by omega) (by omega) (by omega) (ba_s hC (x := 0) (y := g2 i) ((mgx_out (by omega)).symm) ((mgx_in (by omega)).symm) rfl) (by rcases Int.lt_or_le i (max k k2) with q | q; exact Or.inl (by omega); exact Or.inr (by rw [show i + 1 - 1 = i by omega]; exact ba_big hN hM hC (by omega) (by omega))) (by omega) _ _ _ (lv_sub hl [3, 4, 1, 0] rfl) (hP.sub [0, 1, 2, 3] rfl) (hD.sub [0, 1, 2, 3] (by decide) rfl) hS
            · skip
              refine lv_aload_n hx hb d_Big_add_66 rfl (lv_at hl 1 rfl) ?_
              refine wk_get B hP 0 rfl fl_Big_13 (v := .int (iI nn)) rfl d_Big_add_67 ?_
              refine lv_goto (tgt := 76) hx hb d_Big_add_70 (by decide) ?_
              refine wk_put B hP hD hS 0 rfl fl_Big_13 fp_Big_1 (v := .int (iI nn)) rfl rfl (Nat.le_of_ble_eq_true rfl) d_Big_add_76 (fun H locs hP hD hS => ?_)
              have hP : va_P D classes [(h, .inr (7, [.ref a, .int (iI nn)])), (a, .inl (E.1, 640, .inl (ia g1))), (h2, .inr (7, [.ref a2, .int (iI k2)])), (a2, .inl (E.1, 640, .inl (ia g2)))] H := hP
              have hD : va_D A [(h, .inr (7, [.ref a, .int (iI nn)])), (a, .inl (E.1, 640, .inl (ia g1))), (h2, .inr (7, [.ref a2, .int (iI k2)])), (a2, .inl (E.1, 640, .inl (ia g2)))] := hD
              refine lv_aload_n hx hb d_Big_add_79 rfl (lv_at hl 1 rfl) ?_
              refine wk_get B hP 0 rfl fl_Big_7 (v := .ref a) rfl d_Big_add_80 ?_
              refine lv_iload_n hx hb d_Big_add_83 rfl (lv_at hl 4 rfl) ?_
              refine lv_iload hx hb d_Big_add_84 (lv_at hl 0 rfl) ?_
              refine wi_ldc hx hb 65535 hown (tb_h hts tw_Big_constant_26) (by decide) d_Big_add_86 ?_
              refine wi_imask hx hb 16 65536 (by decide +kernel) (by decide) (by decide) d_Big_add_88 ?_
              refine wi_iast hx hb hK hP hD hS 1 0 rfl rfl (by omega) (by omega) d_Big_add_89 (fun H locs hP hD hS => ?_)
              have hP : va_P D classes [(h, .inr (7, [.ref a, .int (iI nn)])), (a, .inl (E.1, 640, .inl (ia (upZ g1 i ((0 + (g2 i) + cy) % 65536))))), (h2, .inr (7, [.ref a2, .int (iI k2)])), (a2, .inl (E.1, 640, .inl (ia g2)))] H := hP
              have hD : va_D A [(h, .inr (7, [.ref a, .int (iI nn)])), (a, .inl (E.1, 640, .inl (ia (upZ g1 i ((0 + (g2 i) + cy) % 65536))))), (h2, .inr (7, [.ref a2, .int (iI k2)])), (a2, .inl (E.1, 640, .inl (ia g2)))] := hD
              refine lv_iload hx hb d_Big_add_90 (lv_at hl 0 rfl) ?_
              refine wi_bipush hx hb d_Big_add_92 (by decide) ?_
              refine wi_ishr hx hb 16 65536 (by decide +kernel) rfl (by decide) (by omega) d_Big_add_94 ?_
              refine lv_istore_n (lv' := [(2, .int (iI ((0 + (g2 i) + cy) / 65536))), (4, .int (iI (0 + (g2 i) + cy))), (0, .ref h), (1, .ref h2), (3, .int (iI i))]) hx hb d_Big_add_95 rfl hl (by decide) rfl (fun ls hl => ?_)
              refine wi_iinc (v := i + 1) (lv' := [(3, .int (iI (i + 1))), (2, .int (iI ((0 + (g2 i) + cy) / 65536))), (4, .int (iI (0 + (g2 i) + cy))), (0, .ref h), (1, .ref h2)]) hx hb d_Big_add_96 hl (k := 4) rfl rfl (by decide) rfl (fun ls hl => ?_)
              refine lv_goto (tgt := 4) hx hb d_Big_add_99 (by decide) ?_
              exact ih4 (i + 1) ((0 + (g2 i) + cy) / 65536) nn (upZ g1 i ((0 + (g2 i) + cy) % 65536)) (by omega) (by omega) (by omega) (ba_s hC (x := 0) (y := g2 i) ((mgx_out (by omega)).symm) ((mgx_in (by omega)).symm) rfl) (by rcases Int.lt_or_le i (max k k2) with q | q; exact Or.inl (by omega); exact Or.inr (by rw [show i + 1 - 1 = i by omega]; exact ba_big hN hM hC (by omega) (by omega))) (by omega) _ _ _ (lv_sub hl [3, 4, 1, 0] rfl) (hP.sub [0, 1, 2, 3] rfl) (hD.sub [0, 1, 2, 3] (by decide) rfl) hS
        · skip
          have hd1 := hN.2.1 i (by omega) (by omega)
          rw [← hg1] at hd1
          refine lv_aload_n hx hb d_Big_add_24 rfl (lv_at hl 0 rfl) ?_
          refine wk_get B hP 0 rfl fl_Big_7 (v := .ref a) rfl d_Big_add_25 ?_
          refine lv_iload_n hx hb d_Big_add_28 rfl (lv_at hl 3 rfl) ?_
          refine wi_iald hx hb hK hP 1 0 rfl rfl (by omega) (by omega) d_Big_add_29 ?_
          refine lv_goto (tgt := 34) hx hb d_Big_add_30 (by decide) ?_
          refine lv_iload_n hx hb d_Big_add_34 rfl (lv_at hl 3 rfl) ?_
          refine lv_aload_n hx hb d_Big_add_35 rfl (lv_at hl 1 rfl) ?_
          refine wk_get B hP 2 rfl fl_Big_13 (v := .int (iI k2)) rfl d_Big_add_36 ?_
          refine wi_icmp_ge (tgt := 51) hx hb d_Big_add_39 (by decide) (by omega) (by omega) (fun c_6 => ?_) (fun c_6 => ?_)
          · skip
            refine wi_iconst (n := 0) hx hb d_Big_add_51 ?_
            refine wi_iadd hx hb d_Big_add_52 ?_
            refine lv_iload_n hx hb d_Big_add_53 rfl (lv_at hl 2 rfl) ?_
            refine wi_iadd hx hb d_Big_add_54 ?_
            refine lv_istore (lv' := [(4, .int (iI (g1 i + 0 + cy))), (0, .ref h), (1, .ref h2), (2, .int (iI cy)), (3, .int (iI i))]) hx hb d_Big_add_55 hl (by decide) rfl (fun ls hl => ?_)
            refine lv_aload_n hx hb d_Big_add_57 rfl (lv_at hl 1 rfl) ?_
            refine lv_iload_n hx hb d_Big_add_58 rfl (lv_at hl 4 rfl) ?_
            refine lv_aload_n hx hb d_Big_add_59 rfl (lv_at hl 1 rfl) ?_
            refine wk_get B hP 0 rfl fl_Big_13 (v := .int (iI nn)) rfl d_Big_add_60 ?_
            refine wi_icmp_ge (tgt := 73) hx hb d_Big_add_63 (by decide) (by omega) (by omega) (fun c_7 => ?_) (fun c_7 => ?_)
            · skip
              refine lv_iload_n hx hb d_Big_add_73 rfl (lv_at hl 4 rfl) ?_
              refine wi_iconst (n := 1) hx hb d_Big_add_74 ?_
              refine wi_iadd hx hb d_Big_add_75 ?_
              refine wk_put B hP hD hS 0 rfl fl_Big_13 fp_Big_1 (v := .int (iI (i + 1))) rfl rfl (Nat.le_of_ble_eq_true rfl) d_Big_add_76 (fun H locs hP hD hS => ?_)
              have hP : va_P D classes [(h, .inr (7, [.ref a, .int (iI (i + 1))])), (a, .inl (E.1, 640, .inl (ia g1))), (h2, .inr (7, [.ref a2, .int (iI k2)])), (a2, .inl (E.1, 640, .inl (ia g2)))] H := hP
              have hD : va_D A [(h, .inr (7, [.ref a, .int (iI (i + 1))])), (a, .inl (E.1, 640, .inl (ia g1))), (h2, .inr (7, [.ref a2, .int (iI k2)])), (a2, .inl (E.1, 640, .inl (ia g2)))] := hD
              refine lv_aload_n hx hb d_Big_add_79 rfl (lv_at hl 1 rfl) ?_
              refine wk_get B hP 0 rfl fl_Big_7 (v := .ref a) rfl d_Big_add_80 ?_
              refine lv_iload_n hx hb d_Big_add_83 rfl (lv_at hl 4 rfl) ?_
              refine lv_iload hx hb d_Big_add_84 (lv_at hl 0 rfl) ?_
              refine wi_ldc hx hb 65535 hown (tb_h hts tw_Big_constant_26) (by decide) d_Big_add_86 ?_
              refine wi_imask hx hb 16 65536 (by decide +kernel) (by decide) (by decide) d_Big_add_88 ?_
              refine wi_iast hx hb hK hP hD hS 1 0 rfl rfl (by omega) (by omega) d_Big_add_89 (fun H locs hP hD hS => ?_)
              have hP : va_P D classes [(h, .inr (7, [.ref a, .int (iI (i + 1))])), (a, .inl (E.1, 640, .inl (ia (upZ g1 i ((g1 i + 0 + cy) % 65536))))), (h2, .inr (7, [.ref a2, .int (iI k2)])), (a2, .inl (E.1, 640, .inl (ia g2)))] H := hP
              have hD : va_D A [(h, .inr (7, [.ref a, .int (iI (i + 1))])), (a, .inl (E.1, 640, .inl (ia (upZ g1 i ((g1 i + 0 + cy) % 65536))))), (h2, .inr (7, [.ref a2, .int (iI k2)])), (a2, .inl (E.1, 640, .inl (ia g2)))] := hD
              refine lv_iload hx hb d_Big_add_90 (lv_at hl 0 rfl) ?_
              refine wi_bipush hx hb d_Big_add_92 (by decide) ?_
              refine wi_ishr hx hb 16 65536 (by decide +kernel) rfl (by decide) (by omega) d_Big_add_94 ?_
              refine lv_istore_n (lv' := [(2, .int (iI ((g1 i + 0 + cy) / 65536))), (4, .int (iI (g1 i + 0 + cy))), (0, .ref h), (1, .ref h2), (3, .int (iI i))]) hx hb d_Big_add_95 rfl hl (by decide) rfl (fun ls hl => ?_)
              refine wi_iinc (v := i + 1) (lv' := [(3, .int (iI (i + 1))), (2, .int (iI ((g1 i + 0 + cy) / 65536))), (4, .int (iI (g1 i + 0 + cy))), (0, .ref h), (1, .ref h2)]) hx hb d_Big_add_96 hl (k := 4) rfl rfl (by decide) rfl (fun ls hl => ?_)
              refine lv_goto (tgt := 4) hx hb d_Big_add_99 (by decide) ?_
              exact ih4 (i + 1) ((g1 i + 0 + cy) / 65536) (i + 1) (upZ g1 i ((g1 i + 0 + cy) % 65536)) (by omega) (by omega) (by omega) (ba_s hC (x := g1 i) (y := 0) (by rw [hg1]; exact (mgx_in (by omega)).symm) ((mgx_out (by omega)).symm) rfl) (by rcases Int.lt_or_le i (max k k2) with q | q; exact Or.inl (by omega); exact Or.inr (by rw [show i + 1 - 1 = i by omega]; exact ba_big hN hM hC (by omega) (by omega))) (by omega) _ _ _ (lv_sub hl [3, 4, 1, 0] rfl) (hP.sub [0, 1, 2, 3] rfl) (hD.sub [0, 1, 2, 3] (by decide) rfl) hS
            · skip
              refine lv_aload_n hx hb d_Big_add_66 rfl (lv_at hl 1 rfl) ?_
              refine wk_get B hP 0 rfl fl_Big_13 (v := .int (iI nn)) rfl d_Big_add_67 ?_
              refine lv_goto (tgt := 76) hx hb d_Big_add_70 (by decide) ?_
              refine wk_put B hP hD hS 0 rfl fl_Big_13 fp_Big_1 (v := .int (iI nn)) rfl rfl (Nat.le_of_ble_eq_true rfl) d_Big_add_76 (fun H locs hP hD hS => ?_)
              have hP : va_P D classes [(h, .inr (7, [.ref a, .int (iI nn)])), (a, .inl (E.1, 640, .inl (ia g1))), (h2, .inr (7, [.ref a2, .int (iI k2)])), (a2, .inl (E.1, 640, .inl (ia g2)))] H := hP
              have hD : va_D A [(h, .inr (7, [.ref a, .int (iI nn)])), (a, .inl (E.1, 640, .inl (ia g1))), (h2, .inr (7, [.ref a2, .int (iI k2)])), (a2, .inl (E.1, 640, .inl (ia g2)))] := hD
              refine lv_aload_n hx hb d_Big_add_79 rfl (lv_at hl 1 rfl) ?_
              refine wk_get B hP 0 rfl fl_Big_7 (v := .ref a) rfl d_Big_add_80 ?_
              refine lv_iload_n hx hb d_Big_add_83 rfl (lv_at hl 4 rfl) ?_
              refine lv_iload hx hb d_Big_add_84 (lv_at hl 0 rfl) ?_
              refine wi_ldc hx hb 65535 hown (tb_h hts tw_Big_constant_26) (by decide) d_Big_add_86 ?_
              refine wi_imask hx hb 16 65536 (by decide +kernel) (by decide) (by decide) d_Big_add_88 ?_
              refine wi_iast hx hb hK hP hD hS 1 0 rfl rfl (by omega) (by omega) d_Big_add_89 (fun H locs hP hD hS => ?_)
              have hP : va_P D classes [(h, .inr (7, [.ref a, .int (iI nn)])), (a, .inl (E.1, 640, .inl (ia (upZ g1 i ((g1 i + 0 + cy) % 65536))))), (h2, .inr (7, [.ref a2, .int (iI k2)])), (a2, .inl (E.1, 640, .inl (ia g2)))] H := hP
              have hD : va_D A [(h, .inr (7, [.ref a, .int (iI nn)])), (a, .inl (E.1, 640, .inl (ia (upZ g1 i ((g1 i + 0 + cy) % 65536))))), (h2, .inr (7, [.ref a2, .int (iI k2)])), (a2, .inl (E.1, 640, .inl (ia g2)))] := hD
              refine lv_iload hx hb d_Big_add_90 (lv_at hl 0 rfl) ?_
              refine wi_bipush hx hb d_Big_add_92 (by decide) ?_
              refine wi_ishr hx hb 16 65536 (by decide +kernel) rfl (by decide) (by omega) d_Big_add_94 ?_
              refine lv_istore_n (lv' := [(2, .int (iI ((g1 i + 0 + cy) / 65536))), (4, .int (iI (g1 i + 0 + cy))), (0, .ref h), (1, .ref h2), (3, .int (iI i))]) hx hb d_Big_add_95 rfl hl (by decide) rfl (fun ls hl => ?_)
              refine wi_iinc (v := i + 1) (lv' := [(3, .int (iI (i + 1))), (2, .int (iI ((g1 i + 0 + cy) / 65536))), (4, .int (iI (g1 i + 0 + cy))), (0, .ref h), (1, .ref h2)]) hx hb d_Big_add_96 hl (k := 4) rfl rfl (by decide) rfl (fun ls hl => ?_)
              refine lv_goto (tgt := 4) hx hb d_Big_add_99 (by decide) ?_
              exact ih4 (i + 1) ((g1 i + 0 + cy) / 65536) nn (upZ g1 i ((g1 i + 0 + cy) % 65536)) (by omega) (by omega) (by omega) (ba_s hC (x := g1 i) (y := 0) (by rw [hg1]; exact (mgx_in (by omega)).symm) ((mgx_out (by omega)).symm) rfl) (by rcases Int.lt_or_le i (max k k2) with q | q; exact Or.inl (by omega); exact Or.inr (by rw [show i + 1 - 1 = i by omega]; exact ba_big hN hM hC (by omega) (by omega))) (by omega) _ _ _ (lv_sub hl [3, 4, 1, 0] rfl) (hP.sub [0, 1, 2, 3] rfl) (hD.sub [0, 1, 2, 3] (by decide) rfl) hS
          · skip
            have hd2 := hM.2.1 i (by omega) (by omega)
            refine lv_aload_n hx hb d_Big_add_42 rfl (lv_at hl 1 rfl) ?_
            refine wk_get B hP 2 rfl fl_Big_7 (v := .ref a2) rfl d_Big_add_43 ?_
            refine lv_iload_n hx hb d_Big_add_46 rfl (lv_at hl 3 rfl) ?_
            refine wi_iald hx hb hK hP 3 0 rfl rfl (by omega) (by omega) d_Big_add_47 ?_
            refine lv_goto (tgt := 52) hx hb d_Big_add_48 (by decide) ?_
            refine wi_iadd hx hb d_Big_add_52 ?_
            refine lv_iload_n hx hb d_Big_add_53 rfl (lv_at hl 2 rfl) ?_
            refine wi_iadd hx hb d_Big_add_54 ?_
            refine lv_istore (lv' := [(4, .int (iI (g1 i + (g2 i) + cy))), (0, .ref h), (1, .ref h2), (2, .int (iI cy)), (3, .int (iI i))]) hx hb d_Big_add_55 hl (by decide) rfl (fun ls hl => ?_)
            refine lv_aload_n hx hb d_Big_add_57 rfl (lv_at hl 1 rfl) ?_
            refine lv_iload_n hx hb d_Big_add_58 rfl (lv_at hl 4 rfl) ?_
            refine lv_aload_n hx hb d_Big_add_59 rfl (lv_at hl 1 rfl) ?_
            refine wk_get B hP 0 rfl fl_Big_13 (v := .int (iI nn)) rfl d_Big_add_60 ?_
            refine wi_icmp_ge (tgt := 73) hx hb d_Big_add_63 (by decide) (by omega) (by omega) (fun c_8 => ?_) (fun c_8 => ?_)
            · skip
              refine lv_iload_n hx hb d_Big_add_73 rfl (lv_at hl 4 rfl) ?_
              refine wi_iconst (n := 1) hx hb d_Big_add_74 ?_
              refine wi_iadd hx hb d_Big_add_75 ?_
              refine wk_put B hP hD hS 0 rfl fl_Big_13 fp_Big_1 (v := .int (iI (i + 1))) rfl rfl (Nat.le_of_ble_eq_true rfl) d_Big_add_76 (fun H locs hP hD hS => ?_)
              have hP : va_P D classes [(h, .inr (7, [.ref a, .int (iI (i + 1))])), (a, .inl (E.1, 640, .inl (ia g1))), (h2, .inr (7, [.ref a2, .int (iI k2)])), (a2, .inl (E.1, 640, .inl (ia g2)))] H := hP
              have hD : va_D A [(h, .inr (7, [.ref a, .int (iI (i + 1))])), (a, .inl (E.1, 640, .inl (ia g1))), (h2, .inr (7, [.ref a2, .int (iI k2)])), (a2, .inl (E.1, 640, .inl (ia g2)))] := hD
              refine lv_aload_n hx hb d_Big_add_79 rfl (lv_at hl 1 rfl) ?_
              refine wk_get B hP 0 rfl fl_Big_7 (v := .ref a) rfl d_Big_add_80 ?_
              refine lv_iload_n hx hb d_Big_add_83 rfl (lv_at hl 4 rfl) ?_
              refine lv_iload hx hb d_Big_add_84 (lv_at hl 0 rfl) ?_
              refine wi_ldc hx hb 65535 hown (tb_h hts tw_Big_constant_26) (by decide) d_Big_add_86 ?_
              refine wi_imask hx hb 16 65536 (by decide +kernel) (by decide) (by decide) d_Big_add_88 ?_
              refine wi_iast hx hb hK hP hD hS 1 0 rfl rfl (by omega) (by omega) d_Big_add_89 (fun H locs hP hD hS => ?_)
              have hP : va_P D classes [(h, .inr (7, [.ref a, .int (iI (i + 1))])), (a, .inl (E.1, 640, .inl (ia (upZ g1 i ((g1 i + (g2 i) + cy) % 65536))))), (h2, .inr (7, [.ref a2, .int (iI k2)])), (a2, .inl (E.1, 640, .inl (ia g2)))] H := hP
              have hD : va_D A [(h, .inr (7, [.ref a, .int (iI (i + 1))])), (a, .inl (E.1, 640, .inl (ia (upZ g1 i ((g1 i + (g2 i) + cy) % 65536))))), (h2, .inr (7, [.ref a2, .int (iI k2)])), (a2, .inl (E.1, 640, .inl (ia g2)))] := hD
              refine lv_iload hx hb d_Big_add_90 (lv_at hl 0 rfl) ?_
              refine wi_bipush hx hb d_Big_add_92 (by decide) ?_
              refine wi_ishr hx hb 16 65536 (by decide +kernel) rfl (by decide) (by omega) d_Big_add_94 ?_
              refine lv_istore_n (lv' := [(2, .int (iI ((g1 i + (g2 i) + cy) / 65536))), (4, .int (iI (g1 i + (g2 i) + cy))), (0, .ref h), (1, .ref h2), (3, .int (iI i))]) hx hb d_Big_add_95 rfl hl (by decide) rfl (fun ls hl => ?_)
              refine wi_iinc (v := i + 1) (lv' := [(3, .int (iI (i + 1))), (2, .int (iI ((g1 i + (g2 i) + cy) / 65536))), (4, .int (iI (g1 i + (g2 i) + cy))), (0, .ref h), (1, .ref h2)]) hx hb d_Big_add_96 hl (k := 4) rfl rfl (by decide) rfl (fun ls hl => ?_)
              refine lv_goto (tgt := 4) hx hb d_Big_add_99 (by decide) ?_
              exact ih4 (i + 1) ((g1 i + (g2 i) + cy) / 65536) (i + 1) (upZ g1 i ((g1 i + (g2 i) + cy) % 65536)) (by omega) (by omega) (by omega) (ba_s hC (x := g1 i) (y := g2 i) (by rw [hg1]; exact (mgx_in (by omega)).symm) ((mgx_in (by omega)).symm) rfl) (by rcases Int.lt_or_le i (max k k2) with q | q; exact Or.inl (by omega); exact Or.inr (by rw [show i + 1 - 1 = i by omega]; exact ba_big hN hM hC (by omega) (by omega))) (by omega) _ _ _ (lv_sub hl [3, 4, 1, 0] rfl) (hP.sub [0, 1, 2, 3] rfl) (hD.sub [0, 1, 2, 3] (by decide) rfl) hS
            · skip
              refine lv_aload_n hx hb d_Big_add_66 rfl (lv_at hl 1 rfl) ?_
              refine wk_get B hP 0 rfl fl_Big_13 (v := .int (iI nn)) rfl d_Big_add_67 ?_
              refine lv_goto (tgt := 76) hx hb d_Big_add_70 (by decide) ?_
              refine wk_put B hP hD hS 0 rfl fl_Big_13 fp_Big_1 (v := .int (iI nn)) rfl rfl (Nat.le_of_ble_eq_true rfl) d_Big_add_76 (fun H locs hP hD hS => ?_)
              have hP : va_P D classes [(h, .inr (7, [.ref a, .int (iI nn)])), (a, .inl (E.1, 640, .inl (ia g1))), (h2, .inr (7, [.ref a2, .int (iI k2)])), (a2, .inl (E.1, 640, .inl (ia g2)))] H := hP
              have hD : va_D A [(h, .inr (7, [.ref a, .int (iI nn)])), (a, .inl (E.1, 640, .inl (ia g1))), (h2, .inr (7, [.ref a2, .int (iI k2)])), (a2, .inl (E.1, 640, .inl (ia g2)))] := hD
              refine lv_aload_n hx hb d_Big_add_79 rfl (lv_at hl 1 rfl) ?_
              refine wk_get B hP 0 rfl fl_Big_7 (v := .ref a) rfl d_Big_add_80 ?_
              refine lv_iload_n hx hb d_Big_add_83 rfl (lv_at hl 4 rfl) ?_
              refine lv_iload hx hb d_Big_add_84 (lv_at hl 0 rfl) ?_
              refine wi_ldc hx hb 65535 hown (tb_h hts tw_Big_constant_26) (by decide) d_Big_add_86 ?_
              refine wi_imask hx hb 16 65536 (by decide +kernel) (by decide) (by decide) d_Big_add_88 ?_
              refine wi_iast hx hb hK hP hD hS 1 0 rfl rfl (by omega) (by omega) d_Big_add_89 (fun H locs hP hD hS => ?_)
              have hP : va_P D classes [(h, .inr (7, [.ref a, .int (iI nn)])), (a, .inl (E.1, 640, .inl (ia (upZ g1 i ((g1 i + (g2 i) + cy) % 65536))))), (h2, .inr (7, [.ref a2, .int (iI k2)])), (a2, .inl (E.1, 640, .inl (ia g2)))] H := hP
              have hD : va_D A [(h, .inr (7, [.ref a, .int (iI nn)])), (a, .inl (E.1, 640, .inl (ia (upZ g1 i ((g1 i + (g2 i) + cy) % 65536))))), (h2, .inr (7, [.ref a2, .int (iI k2)])), (a2, .inl (E.1, 640, .inl (ia g2)))] := hD
              refine lv_iload hx hb d_Big_add_90 (lv_at hl 0 rfl) ?_
              refine wi_bipush hx hb d_Big_add_92 (by decide) ?_
              refine wi_ishr hx hb 16 65536 (by decide +kernel) rfl (by decide) (by omega) d_Big_add_94 ?_
              refine lv_istore_n (lv' := [(2, .int (iI ((g1 i + (g2 i) + cy) / 65536))), (4, .int (iI (g1 i + (g2 i) + cy))), (0, .ref h), (1, .ref h2), (3, .int (iI i))]) hx hb d_Big_add_95 rfl hl (by decide) rfl (fun ls hl => ?_)
              refine wi_iinc (v := i + 1) (lv' := [(3, .int (iI (i + 1))), (2, .int (iI ((g1 i + (g2 i) + cy) / 65536))), (4, .int (iI (g1 i + (g2 i) + cy))), (0, .ref h), (1, .ref h2)]) hx hb d_Big_add_96 hl (k := 4) rfl rfl (by decide) rfl (fun ls hl => ?_)
              refine lv_goto (tgt := 4) hx hb d_Big_add_99 (by decide) ?_
              exact ih4 (i + 1) ((g1 i + (g2 i) + cy) / 65536) nn (upZ g1 i ((g1 i + (g2 i) + cy) % 65536)) (by omega) (by omega) (by omega) (ba_s hC (x := g1 i) (y := g2 i) (by rw [hg1]; exact (mgx_in (by omega)).symm) ((mgx_in (by omega)).symm) rfl) (by rcases Int.lt_or_le i (max k k2) with q | q; exact Or.inl (by omega); exact Or.inr (by rw [show i + 1 - 1 = i by omega]; exact ba_big hN hM hC (by omega) (by omega))) (by omega) _ _ _ (lv_sub hl [3, 4, 1, 0] rfl) (hP.sub [0, 1, 2, 3] rfl) (hD.sub [0, 1, 2, 3] (by decide) rfl) hS
      · skip
        refine lv_iload_n hx hb d_Big_add_12 rfl (lv_at hl 2 rfl) ?_
        refine wi_if_le (tgt := 102) hx hb d_Big_add_13 (by decide) (by omega) (fun c_9 => ?_) (fun c_9 => ?_)
        · skip
          exact ret (g1, nn) _ _ _ _ d_Big_add_102 (show (BigOK g1 nn (v + w)) from (by rw [hnn]; exact ba_end hN hM (by omega) (by rw [show cy = 0 by omega] at hC; exact hC) hT)) (hP.sub [0, 1, 2, 3] rfl) (hD.sub [0, 1, 2, 3] (by decide) rfl) hS
        · skip
          have hlt : i < 640 := by
            rcases Int.lt_or_le i 640 with q | q
            · exact q
            · exfalso
              have e6 : i = 640 := by omega
              have hb := ba_big hN hM hC (by omega) (by omega)
              rw [e6] at hb; omega
          refine lv_iload_n hx hb d_Big_add_16 rfl (lv_at hl 3 rfl) ?_
          refine lv_aload_n hx hb d_Big_add_17 rfl (lv_at hl 0 rfl) ?_
          refine wk_get B hP 0 rfl fl_Big_13 (v := .int (iI nn)) rfl d_Big_add_18 ?_
          refine wi_icmp_ge (tgt := 33) hx hb d_Big_add_21 (by decide) (by omega) (by omega) (fun c_10 => ?_) (fun c_10 => ?_)
          · skip
            refine wi_iconst (n := 0) hx hb d_Big_add_33 ?_
            refine lv_iload_n hx hb d_Big_add_34 rfl (lv_at hl 3 rfl) ?_
            refine lv_aload_n hx hb d_Big_add_35 rfl (lv_at hl 1 rfl) ?_
            refine wk_get B hP 2 rfl fl_Big_13 (v := .int (iI k2)) rfl d_Big_add_36 ?_
            refine wi_icmp_ge (tgt := 51) hx hb d_Big_add_39 (by decide) (by omega) (by omega) (fun c_11 => ?_) (fun c_11 => ?_)
            · skip
              refine wi_iconst (n := 0) hx hb d_Big_add_51 ?_
              refine wi_iadd hx hb d_Big_add_52 ?_
              refine lv_iload_n hx hb d_Big_add_53 rfl (lv_at hl 2 rfl) ?_
              refine wi_iadd hx hb d_Big_add_54 ?_
              refine lv_istore (lv' := [(4, .int (iI (0 + 0 + cy))), (0, .ref h), (1, .ref h2), (2, .int (iI cy)), (3, .int (iI i))]) hx hb d_Big_add_55 hl (by decide) rfl (fun ls hl => ?_)
              refine lv_aload_n hx hb d_Big_add_57 rfl (lv_at hl 1 rfl) ?_
              refine lv_iload_n hx hb d_Big_add_58 rfl (lv_at hl 4 rfl) ?_
              refine lv_aload_n hx hb d_Big_add_59 rfl (lv_at hl 1 rfl) ?_
              refine wk_get B hP 0 rfl fl_Big_13 (v := .int (iI nn)) rfl d_Big_add_60 ?_
              refine wi_icmp_ge (tgt := 73) hx hb d_Big_add_63 (by decide) (by omega) (by omega) (fun c_12 => ?_) (fun c_12 => ?_)
              · skip
                refine lv_iload_n hx hb d_Big_add_73 rfl (lv_at hl 4 rfl) ?_
                refine wi_iconst (n := 1) hx hb d_Big_add_74 ?_
                refine wi_iadd hx hb d_Big_add_75 ?_
                refine wk_put B hP hD hS 0 rfl fl_Big_13 fp_Big_1 (v := .int (iI (i + 1))) rfl rfl (Nat.le_of_ble_eq_true rfl) d_Big_add_76 (fun H locs hP hD hS => ?_)
                have hP : va_P D classes [(h, .inr (7, [.ref a, .int (iI (i + 1))])), (a, .inl (E.1, 640, .inl (ia g1))), (h2, .inr (7, [.ref a2, .int (iI k2)])), (a2, .inl (E.1, 640, .inl (ia g2)))] H := hP
                have hD : va_D A [(h, .inr (7, [.ref a, .int (iI (i + 1))])), (a, .inl (E.1, 640, .inl (ia g1))), (h2, .inr (7, [.ref a2, .int (iI k2)])), (a2, .inl (E.1, 640, .inl (ia g2)))] := hD
                refine lv_aload_n hx hb d_Big_add_79 rfl (lv_at hl 1 rfl) ?_
                refine wk_get B hP 0 rfl fl_Big_7 (v := .ref a) rfl d_Big_add_80 ?_
                refine lv_iload_n hx hb d_Big_add_83 rfl (lv_at hl 4 rfl) ?_
                refine lv_iload hx hb d_Big_add_84 (lv_at hl 0 rfl) ?_
                refine wi_ldc hx hb 65535 hown (tb_h hts tw_Big_constant_26) (by decide) d_Big_add_86 ?_
                refine wi_imask hx hb 16 65536 (by decide +kernel) (by decide) (by decide) d_Big_add_88 ?_
                refine wi_iast hx hb hK hP hD hS 1 0 rfl rfl (by omega) (by omega) d_Big_add_89 (fun H locs hP hD hS => ?_)
                have hP : va_P D classes [(h, .inr (7, [.ref a, .int (iI (i + 1))])), (a, .inl (E.1, 640, .inl (ia (upZ g1 i ((0 + 0 + cy) % 65536))))), (h2, .inr (7, [.ref a2, .int (iI k2)])), (a2, .inl (E.1, 640, .inl (ia g2)))] H := hP
                have hD : va_D A [(h, .inr (7, [.ref a, .int (iI (i + 1))])), (a, .inl (E.1, 640, .inl (ia (upZ g1 i ((0 + 0 + cy) % 65536))))), (h2, .inr (7, [.ref a2, .int (iI k2)])), (a2, .inl (E.1, 640, .inl (ia g2)))] := hD
                refine lv_iload hx hb d_Big_add_90 (lv_at hl 0 rfl) ?_
                refine wi_bipush hx hb d_Big_add_92 (by decide) ?_
                refine wi_ishr hx hb 16 65536 (by decide +kernel) rfl (by decide) (by omega) d_Big_add_94 ?_
                refine lv_istore_n (lv' := [(2, .int (iI ((0 + 0 + cy) / 65536))), (4, .int (iI (0 + 0 + cy))), (0, .ref h), (1, .ref h2), (3, .int (iI i))]) hx hb d_Big_add_95 rfl hl (by decide) rfl (fun ls hl => ?_)
                refine wi_iinc (v := i + 1) (lv' := [(3, .int (iI (i + 1))), (2, .int (iI ((0 + 0 + cy) / 65536))), (4, .int (iI (0 + 0 + cy))), (0, .ref h), (1, .ref h2)]) hx hb d_Big_add_96 hl (k := 4) rfl rfl (by decide) rfl (fun ls hl => ?_)
                refine lv_goto (tgt := 4) hx hb d_Big_add_99 (by decide) ?_
                exact ih4 (i + 1) ((0 + 0 + cy) / 65536) (i + 1) (upZ g1 i ((0 + 0 + cy) % 65536)) (by omega) (by omega) (by omega) (ba_s hC (x := 0) (y := 0) ((mgx_out (by omega)).symm) ((mgx_out (by omega)).symm) rfl) (by rcases Int.lt_or_le i (max k k2) with q | q; exact Or.inl (by omega); exact Or.inr (by rw [show i + 1 - 1 = i by omega]; exact ba_big hN hM hC (by omega) (by omega))) (by omega) _ _ _ (lv_sub hl [3, 4, 1, 0] rfl) (hP.sub [0, 1, 2, 3] rfl) (hD.sub [0, 1, 2, 3] (by decide) rfl) hS
              · skip
                refine lv_aload_n hx hb d_Big_add_66 rfl (lv_at hl 1 rfl) ?_
                refine wk_get B hP 0 rfl fl_Big_13 (v := .int (iI nn)) rfl d_Big_add_67 ?_
                refine lv_goto (tgt := 76) hx hb d_Big_add_70 (by decide) ?_
                refine wk_put B hP hD hS 0 rfl fl_Big_13 fp_Big_1 (v := .int (iI nn)) rfl rfl (Nat.le_of_ble_eq_true rfl) d_Big_add_76 (fun H locs hP hD hS => ?_)
                have hP : va_P D classes [(h, .inr (7, [.ref a, .int (iI nn)])), (a, .inl (E.1, 640, .inl (ia g1))), (h2, .inr (7, [.ref a2, .int (iI k2)])), (a2, .inl (E.1, 640, .inl (ia g2)))] H := hP
                have hD : va_D A [(h, .inr (7, [.ref a, .int (iI nn)])), (a, .inl (E.1, 640, .inl (ia g1))), (h2, .inr (7, [.ref a2, .int (iI k2)])), (a2, .inl (E.1, 640, .inl (ia g2)))] := hD
                refine lv_aload_n hx hb d_Big_add_79 rfl (lv_at hl 1 rfl) ?_
                refine wk_get B hP 0 rfl fl_Big_7 (v := .ref a) rfl d_Big_add_80 ?_
                refine lv_iload_n hx hb d_Big_add_83 rfl (lv_at hl 4 rfl) ?_
                refine lv_iload hx hb d_Big_add_84 (lv_at hl 0 rfl) ?_
                refine wi_ldc hx hb 65535 hown (tb_h hts tw_Big_constant_26) (by decide) d_Big_add_86 ?_
                refine wi_imask hx hb 16 65536 (by decide +kernel) (by decide) (by decide) d_Big_add_88 ?_
                refine wi_iast hx hb hK hP hD hS 1 0 rfl rfl (by omega) (by omega) d_Big_add_89 (fun H locs hP hD hS => ?_)
                have hP : va_P D classes [(h, .inr (7, [.ref a, .int (iI nn)])), (a, .inl (E.1, 640, .inl (ia (upZ g1 i ((0 + 0 + cy) % 65536))))), (h2, .inr (7, [.ref a2, .int (iI k2)])), (a2, .inl (E.1, 640, .inl (ia g2)))] H := hP
                have hD : va_D A [(h, .inr (7, [.ref a, .int (iI nn)])), (a, .inl (E.1, 640, .inl (ia (upZ g1 i ((0 + 0 + cy) % 65536))))), (h2, .inr (7, [.ref a2, .int (iI k2)])), (a2, .inl (E.1, 640, .inl (ia g2)))] := hD
                refine lv_iload hx hb d_Big_add_90 (lv_at hl 0 rfl) ?_
                refine wi_bipush hx hb d_Big_add_92 (by decide) ?_
                refine wi_ishr hx hb 16 65536 (by decide +kernel) rfl (by decide) (by omega) d_Big_add_94 ?_
                refine lv_istore_n (lv' := [(2, .int (iI ((0 + 0 + cy) / 65536))), (4, .int (iI (0 + 0 + cy))), (0, .ref h), (1, .ref h2), (3, .int (iI i))]) hx hb d_Big_add_95 rfl hl (by decide) rfl (fun ls hl => ?_)
                refine wi_iinc (v := i + 1) (lv' := [(3, .int (iI (i + 1))), (2, .int (iI ((0 + 0 + cy) / 65536))), (4, .int (iI (0 + 0 + cy))), (0, .ref h), (1, .ref h2)]) hx hb d_Big_add_96 hl (k := 4) rfl rfl (by decide) rfl (fun ls hl => ?_)
                refine lv_goto (tgt := 4) hx hb d_Big_add_99 (by decide) ?_
                exact ih4 (i + 1) ((0 + 0 + cy) / 65536) nn (upZ g1 i ((0 + 0 + cy) % 65536)) (by omega) (by omega) (by omega) (ba_s hC (x := 0) (y := 0) ((mgx_out (by omega)).symm) ((mgx_out (by omega)).symm) rfl) (by rcases Int.lt_or_le i (max k k2) with q | q; exact Or.inl (by omega); exact Or.inr (by rw [show i + 1 - 1 = i by omega]; exact ba_big hN hM hC (by omega) (by omega))) (by omega) _ _ _ (lv_sub hl [3, 4, 1, 0] rfl) (hP.sub [0, 1, 2, 3] rfl) (hD.sub [0, 1, 2, 3] (by decide) rfl) hS
            · skip
              have hd2 := hM.2.1 i (by omega) (by omega)
              refine lv_aload_n hx hb d_Big_add_42 rfl (lv_at hl 1 rfl) ?_
              refine wk_get B hP 2 rfl fl_Big_7 (v := .ref a2) rfl d_Big_add_43 ?_
              refine lv_iload_n hx hb d_Big_add_46 rfl (lv_at hl 3 rfl) ?_
              refine wi_iald hx hb hK hP 3 0 rfl rfl (by omega) (by omega) d_Big_add_47 ?_
              refine lv_goto (tgt := 52) hx hb d_Big_add_48 (by decide) ?_
              refine wi_iadd hx hb d_Big_add_52 ?_
              refine lv_iload_n hx hb d_Big_add_53 rfl (lv_at hl 2 rfl) ?_
              refine wi_iadd hx hb d_Big_add_54 ?_
              refine lv_istore (lv' := [(4, .int (iI (0 + (g2 i) + cy))), (0, .ref h), (1, .ref h2), (2, .int (iI cy)), (3, .int (iI i))]) hx hb d_Big_add_55 hl (by decide) rfl (fun ls hl => ?_)
              refine lv_aload_n hx hb d_Big_add_57 rfl (lv_at hl 1 rfl) ?_
              refine lv_iload_n hx hb d_Big_add_58 rfl (lv_at hl 4 rfl) ?_
              refine lv_aload_n hx hb d_Big_add_59 rfl (lv_at hl 1 rfl) ?_
              refine wk_get B hP 0 rfl fl_Big_13 (v := .int (iI nn)) rfl d_Big_add_60 ?_
              refine wi_icmp_ge (tgt := 73) hx hb d_Big_add_63 (by decide) (by omega) (by omega) (fun c_13 => ?_) (fun c_13 => ?_)
              · skip
                refine lv_iload_n hx hb d_Big_add_73 rfl (lv_at hl 4 rfl) ?_
                refine wi_iconst (n := 1) hx hb d_Big_add_74 ?_
                refine wi_iadd hx hb d_Big_add_75 ?_
                refine wk_put B hP hD hS 0 rfl fl_Big_13 fp_Big_1 (v := .int (iI (i + 1))) rfl rfl (Nat.le_of_ble_eq_true rfl) d_Big_add_76 (fun H locs hP hD hS => ?_)
                have hP : va_P D classes [(h, .inr (7, [.ref a, .int (iI (i + 1))])), (a, .inl (E.1, 640, .inl (ia g1))), (h2, .inr (7, [.ref a2, .int (iI k2)])), (a2, .inl (E.1, 640, .inl (ia g2)))] H := hP
                have hD : va_D A [(h, .inr (7, [.ref a, .int (iI (i + 1))])), (a, .inl (E.1, 640, .inl (ia g1))), (h2, .inr (7, [.ref a2, .int (iI k2)])), (a2, .inl (E.1, 640, .inl (ia g2)))] := hD
                refine lv_aload_n hx hb d_Big_add_79 rfl (lv_at hl 1 rfl) ?_
                refine wk_get B hP 0 rfl fl_Big_7 (v := .ref a) rfl d_Big_add_80 ?_
                refine lv_iload_n hx hb d_Big_add_83 rfl (lv_at hl 4 rfl) ?_
                refine lv_iload hx hb d_Big_add_84 (lv_at hl 0 rfl) ?_
                refine wi_ldc hx hb 65535 hown (tb_h hts tw_Big_constant_26) (by decide) d_Big_add_86 ?_
                refine wi_imask hx hb 16 65536 (by decide +kernel) (by decide) (by decide) d_Big_add_88 ?_
                refine wi_iast hx hb hK hP hD hS 1 0 rfl rfl (by omega) (by omega) d_Big_add_89 (fun H locs hP hD hS => ?_)
                have hP : va_P D classes [(h, .inr (7, [.ref a, .int (iI (i + 1))])), (a, .inl (E.1, 640, .inl (ia (upZ g1 i ((0 + (g2 i) + cy) % 65536))))), (h2, .inr (7, [.ref a2, .int (iI k2)])), (a2, .inl (E.1, 640, .inl (ia g2)))] H := hP
                have hD : va_D A [(h, .inr (7, [.ref a, .int (iI (i + 1))])), (a, .inl (E.1, 640, .inl (ia (upZ g1 i ((0 + (g2 i) + cy) % 65536))))), (h2, .inr (7, [.ref a2, .int (iI k2)])), (a2, .inl (E.1, 640, .inl (ia g2)))] := hD
                refine lv_iload hx hb d_Big_add_90 (lv_at hl 0 rfl) ?_
                refine wi_bipush hx hb d_Big_add_92 (by decide) ?_
                refine wi_ishr hx hb 16 65536 (by decide +kernel) rfl (by decide) (by omega) d_Big_add_94 ?_
                refine lv_istore_n (lv' := [(2, .int (iI ((0 + (g2 i) + cy) / 65536))), (4, .int (iI (0 + (g2 i) + cy))), (0, .ref h), (1, .ref h2), (3, .int (iI i))]) hx hb d_Big_add_95 rfl hl (by decide) rfl (fun ls hl => ?_)
                refine wi_iinc (v := i + 1) (lv' := [(3, .int (iI (i + 1))), (2, .int (iI ((0 + (g2 i) + cy) / 65536))), (4, .int (iI (0 + (g2 i) + cy))), (0, .ref h), (1, .ref h2)]) hx hb d_Big_add_96 hl (k := 4) rfl rfl (by decide) rfl (fun ls hl => ?_)
                refine lv_goto (tgt := 4) hx hb d_Big_add_99 (by decide) ?_
                exact ih4 (i + 1) ((0 + (g2 i) + cy) / 65536) (i + 1) (upZ g1 i ((0 + (g2 i) + cy) % 65536)) (by omega) (by omega) (by omega) (ba_s hC (x := 0) (y := g2 i) ((mgx_out (by omega)).symm) ((mgx_in (by omega)).symm) rfl) (by rcases Int.lt_or_le i (max k k2) with q | q; exact Or.inl (by omega); exact Or.inr (by rw [show i + 1 - 1 = i by omega]; exact ba_big hN hM hC (by omega) (by omega))) (by omega) _ _ _ (lv_sub hl [3, 4, 1, 0] rfl) (hP.sub [0, 1, 2, 3] rfl) (hD.sub [0, 1, 2, 3] (by decide) rfl) hS
              · skip
                refine lv_aload_n hx hb d_Big_add_66 rfl (lv_at hl 1 rfl) ?_
                refine wk_get B hP 0 rfl fl_Big_13 (v := .int (iI nn)) rfl d_Big_add_67 ?_
                refine lv_goto (tgt := 76) hx hb d_Big_add_70 (by decide) ?_
                refine wk_put B hP hD hS 0 rfl fl_Big_13 fp_Big_1 (v := .int (iI nn)) rfl rfl (Nat.le_of_ble_eq_true rfl) d_Big_add_76 (fun H locs hP hD hS => ?_)
                have hP : va_P D classes [(h, .inr (7, [.ref a, .int (iI nn)])), (a, .inl (E.1, 640, .inl (ia g1))), (h2, .inr (7, [.ref a2, .int (iI k2)])), (a2, .inl (E.1, 640, .inl (ia g2)))] H := hP
                have hD : va_D A [(h, .inr (7, [.ref a, .int (iI nn)])), (a, .inl (E.1, 640, .inl (ia g1))), (h2, .inr (7, [.ref a2, .int (iI k2)])), (a2, .inl (E.1, 640, .inl (ia g2)))] := hD
                refine lv_aload_n hx hb d_Big_add_79 rfl (lv_at hl 1 rfl) ?_
                refine wk_get B hP 0 rfl fl_Big_7 (v := .ref a) rfl d_Big_add_80 ?_
                refine lv_iload_n hx hb d_Big_add_83 rfl (lv_at hl 4 rfl) ?_
                refine lv_iload hx hb d_Big_add_84 (lv_at hl 0 rfl) ?_
                refine wi_ldc hx hb 65535 hown (tb_h hts tw_Big_constant_26) (by decide) d_Big_add_86 ?_
                refine wi_imask hx hb 16 65536 (by decide +kernel) (by decide) (by decide) d_Big_add_88 ?_
                refine wi_iast hx hb hK hP hD hS 1 0 rfl rfl (by omega) (by omega) d_Big_add_89 (fun H locs hP hD hS => ?_)
                have hP : va_P D classes [(h, .inr (7, [.ref a, .int (iI nn)])), (a, .inl (E.1, 640, .inl (ia (upZ g1 i ((0 + (g2 i) + cy) % 65536))))), (h2, .inr (7, [.ref a2, .int (iI k2)])), (a2, .inl (E.1, 640, .inl (ia g2)))] H := hP
                have hD : va_D A [(h, .inr (7, [.ref a, .int (iI nn)])), (a, .inl (E.1, 640, .inl (ia (upZ g1 i ((0 + (g2 i) + cy) % 65536))))), (h2, .inr (7, [.ref a2, .int (iI k2)])), (a2, .inl (E.1, 640, .inl (ia g2)))] := hD
                refine lv_iload hx hb d_Big_add_90 (lv_at hl 0 rfl) ?_
                refine wi_bipush hx hb d_Big_add_92 (by decide) ?_
                refine wi_ishr hx hb 16 65536 (by decide +kernel) rfl (by decide) (by omega) d_Big_add_94 ?_
                refine lv_istore_n (lv' := [(2, .int (iI ((0 + (g2 i) + cy) / 65536))), (4, .int (iI (0 + (g2 i) + cy))), (0, .ref h), (1, .ref h2), (3, .int (iI i))]) hx hb d_Big_add_95 rfl hl (by decide) rfl (fun ls hl => ?_)
                refine wi_iinc (v := i + 1) (lv' := [(3, .int (iI (i + 1))), (2, .int (iI ((0 + (g2 i) + cy) / 65536))), (4, .int (iI (0 + (g2 i) + cy))), (0, .ref h), (1, .ref h2)]) hx hb d_Big_add_96 hl (k := 4) rfl rfl (by decide) rfl (fun ls hl => ?_)
                refine lv_goto (tgt := 4) hx hb d_Big_add_99 (by decide) ?_
                exact ih4 (i + 1) ((0 + (g2 i) + cy) / 65536) nn (upZ g1 i ((0 + (g2 i) + cy) % 65536)) (by omega) (by omega) (by omega) (ba_s hC (x := 0) (y := g2 i) ((mgx_out (by omega)).symm) ((mgx_in (by omega)).symm) rfl) (by rcases Int.lt_or_le i (max k k2) with q | q; exact Or.inl (by omega); exact Or.inr (by rw [show i + 1 - 1 = i by omega]; exact ba_big hN hM hC (by omega) (by omega))) (by omega) _ _ _ (lv_sub hl [3, 4, 1, 0] rfl) (hP.sub [0, 1, 2, 3] rfl) (hD.sub [0, 1, 2, 3] (by decide) rfl) hS
          · skip
            have hd1 := hN.2.1 i (by omega) (by omega)
            rw [← hg1] at hd1
            refine lv_aload_n hx hb d_Big_add_24 rfl (lv_at hl 0 rfl) ?_
            refine wk_get B hP 0 rfl fl_Big_7 (v := .ref a) rfl d_Big_add_25 ?_
            refine lv_iload_n hx hb d_Big_add_28 rfl (lv_at hl 3 rfl) ?_
            refine wi_iald hx hb hK hP 1 0 rfl rfl (by omega) (by omega) d_Big_add_29 ?_
            refine lv_goto (tgt := 34) hx hb d_Big_add_30 (by decide) ?_
            refine lv_iload_n hx hb d_Big_add_34 rfl (lv_at hl 3 rfl) ?_
            refine lv_aload_n hx hb d_Big_add_35 rfl (lv_at hl 1 rfl) ?_
            refine wk_get B hP 2 rfl fl_Big_13 (v := .int (iI k2)) rfl d_Big_add_36 ?_
            refine wi_icmp_ge (tgt := 51) hx hb d_Big_add_39 (by decide) (by omega) (by omega) (fun c_14 => ?_) (fun c_14 => ?_)
            · skip
              refine wi_iconst (n := 0) hx hb d_Big_add_51 ?_
              refine wi_iadd hx hb d_Big_add_52 ?_
              refine lv_iload_n hx hb d_Big_add_53 rfl (lv_at hl 2 rfl) ?_
              refine wi_iadd hx hb d_Big_add_54 ?_
              refine lv_istore (lv' := [(4, .int (iI (g1 i + 0 + cy))), (0, .ref h), (1, .ref h2), (2, .int (iI cy)), (3, .int (iI i))]) hx hb d_Big_add_55 hl (by decide) rfl (fun ls hl => ?_)
              refine lv_aload_n hx hb d_Big_add_57 rfl (lv_at hl 1 rfl) ?_
              refine lv_iload_n hx hb d_Big_add_58 rfl (lv_at hl 4 rfl) ?_
              refine lv_aload_n hx hb d_Big_add_59 rfl (lv_at hl 1 rfl) ?_
              refine wk_get B hP 0 rfl fl_Big_13 (v := .int (iI nn)) rfl d_Big_add_60 ?_
              refine wi_icmp_ge (tgt := 73) hx hb d_Big_add_63 (by decide) (by omega) (by omega) (fun c_15 => ?_) (fun c_15 => ?_)
              · skip
                refine lv_iload_n hx hb d_Big_add_73 rfl (lv_at hl 4 rfl) ?_
                refine wi_iconst (n := 1) hx hb d_Big_add_74 ?_
                refine wi_iadd hx hb d_Big_add_75 ?_
                refine wk_put B hP hD hS 0 rfl fl_Big_13 fp_Big_1 (v := .int (iI (i + 1))) rfl rfl (Nat.le_of_ble_eq_true rfl) d_Big_add_76 (fun H locs hP hD hS => ?_)
                have hP : va_P D classes [(h, .inr (7, [.ref a, .int (iI (i + 1))])), (a, .inl (E.1, 640, .inl (ia g1))), (h2, .inr (7, [.ref a2, .int (iI k2)])), (a2, .inl (E.1, 640, .inl (ia g2)))] H := hP
                have hD : va_D A [(h, .inr (7, [.ref a, .int (iI (i + 1))])), (a, .inl (E.1, 640, .inl (ia g1))), (h2, .inr (7, [.ref a2, .int (iI k2)])), (a2, .inl (E.1, 640, .inl (ia g2)))] := hD
                refine lv_aload_n hx hb d_Big_add_79 rfl (lv_at hl 1 rfl) ?_
                refine wk_get B hP 0 rfl fl_Big_7 (v := .ref a) rfl d_Big_add_80 ?_
                refine lv_iload_n hx hb d_Big_add_83 rfl (lv_at hl 4 rfl) ?_
                refine lv_iload hx hb d_Big_add_84 (lv_at hl 0 rfl) ?_
                refine wi_ldc hx hb 65535 hown (tb_h hts tw_Big_constant_26) (by decide) d_Big_add_86 ?_
                refine wi_imask hx hb 16 65536 (by decide +kernel) (by decide) (by decide) d_Big_add_88 ?_
                refine wi_iast hx hb hK hP hD hS 1 0 rfl rfl (by omega) (by omega) d_Big_add_89 (fun H locs hP hD hS => ?_)
                have hP : va_P D classes [(h, .inr (7, [.ref a, .int (iI (i + 1))])), (a, .inl (E.1, 640, .inl (ia (upZ g1 i ((g1 i + 0 + cy) % 65536))))), (h2, .inr (7, [.ref a2, .int (iI k2)])), (a2, .inl (E.1, 640, .inl (ia g2)))] H := hP
                have hD : va_D A [(h, .inr (7, [.ref a, .int (iI (i + 1))])), (a, .inl (E.1, 640, .inl (ia (upZ g1 i ((g1 i + 0 + cy) % 65536))))), (h2, .inr (7, [.ref a2, .int (iI k2)])), (a2, .inl (E.1, 640, .inl (ia g2)))] := hD
                refine lv_iload hx hb d_Big_add_90 (lv_at hl 0 rfl) ?_
                refine wi_bipush hx hb d_Big_add_92 (by decide) ?_
                refine wi_ishr hx hb 16 65536 (by decide +kernel) rfl (by decide) (by omega) d_Big_add_94 ?_
                refine lv_istore_n (lv' := [(2, .int (iI ((g1 i + 0 + cy) / 65536))), (4, .int (iI (g1 i + 0 + cy))), (0, .ref h), (1, .ref h2), (3, .int (iI i))]) hx hb d_Big_add_95 rfl hl (by decide) rfl (fun ls hl => ?_)
                refine wi_iinc (v := i + 1) (lv' := [(3, .int (iI (i + 1))), (2, .int (iI ((g1 i + 0 + cy) / 65536))), (4, .int (iI (g1 i + 0 + cy))), (0, .ref h), (1, .ref h2)]) hx hb d_Big_add_96 hl (k := 4) rfl rfl (by decide) rfl (fun ls hl => ?_)
                refine lv_goto (tgt := 4) hx hb d_Big_add_99 (by decide) ?_
                exact ih4 (i + 1) ((g1 i + 0 + cy) / 65536) (i + 1) (upZ g1 i ((g1 i + 0 + cy) % 65536)) (by omega) (by omega) (by omega) (ba_s hC (x := g1 i) (y := 0) (by rw [hg1]; exact (mgx_in (by omega)).symm) ((mgx_out (by omega)).symm) rfl) (by rcases Int.lt_or_le i (max k k2) with q | q; exact Or.inl (by omega); exact Or.inr (by rw [show i + 1 - 1 = i by omega]; exact ba_big hN hM hC (by omega) (by omega))) (by omega) _ _ _ (lv_sub hl [3, 4, 1, 0] rfl) (hP.sub [0, 1, 2, 3] rfl) (hD.sub [0, 1, 2, 3] (by decide) rfl) hS
              · skip
                refine lv_aload_n hx hb d_Big_add_66 rfl (lv_at hl 1 rfl) ?_
                refine wk_get B hP 0 rfl fl_Big_13 (v := .int (iI nn)) rfl d_Big_add_67 ?_
                refine lv_goto (tgt := 76) hx hb d_Big_add_70 (by decide) ?_
                refine wk_put B hP hD hS 0 rfl fl_Big_13 fp_Big_1 (v := .int (iI nn)) rfl rfl (Nat.le_of_ble_eq_true rfl) d_Big_add_76 (fun H locs hP hD hS => ?_)
                have hP : va_P D classes [(h, .inr (7, [.ref a, .int (iI nn)])), (a, .inl (E.1, 640, .inl (ia g1))), (h2, .inr (7, [.ref a2, .int (iI k2)])), (a2, .inl (E.1, 640, .inl (ia g2)))] H := hP
                have hD : va_D A [(h, .inr (7, [.ref a, .int (iI nn)])), (a, .inl (E.1, 640, .inl (ia g1))), (h2, .inr (7, [.ref a2, .int (iI k2)])), (a2, .inl (E.1, 640, .inl (ia g2)))] := hD
                refine lv_aload_n hx hb d_Big_add_79 rfl (lv_at hl 1 rfl) ?_
                refine wk_get B hP 0 rfl fl_Big_7 (v := .ref a) rfl d_Big_add_80 ?_
                refine lv_iload_n hx hb d_Big_add_83 rfl (lv_at hl 4 rfl) ?_
                refine lv_iload hx hb d_Big_add_84 (lv_at hl 0 rfl) ?_
                refine wi_ldc hx hb 65535 hown (tb_h hts tw_Big_constant_26) (by decide) d_Big_add_86 ?_
                refine wi_imask hx hb 16 65536 (by decide +kernel) (by decide) (by decide) d_Big_add_88 ?_
                refine wi_iast hx hb hK hP hD hS 1 0 rfl rfl (by omega) (by omega) d_Big_add_89 (fun H locs hP hD hS => ?_)
                have hP : va_P D classes [(h, .inr (7, [.ref a, .int (iI nn)])), (a, .inl (E.1, 640, .inl (ia (upZ g1 i ((g1 i + 0 + cy) % 65536))))), (h2, .inr (7, [.ref a2, .int (iI k2)])), (a2, .inl (E.1, 640, .inl (ia g2)))] H := hP
                have hD : va_D A [(h, .inr (7, [.ref a, .int (iI nn)])), (a, .inl (E.1, 640, .inl (ia (upZ g1 i ((g1 i + 0 + cy) % 65536))))), (h2, .inr (7, [.ref a2, .int (iI k2)])), (a2, .inl (E.1, 640, .inl (ia g2)))] := hD
                refine lv_iload hx hb d_Big_add_90 (lv_at hl 0 rfl) ?_
                refine wi_bipush hx hb d_Big_add_92 (by decide) ?_
                refine wi_ishr hx hb 16 65536 (by decide +kernel) rfl (by decide) (by omega) d_Big_add_94 ?_
                refine lv_istore_n (lv' := [(2, .int (iI ((g1 i + 0 + cy) / 65536))), (4, .int (iI (g1 i + 0 + cy))), (0, .ref h), (1, .ref h2), (3, .int (iI i))]) hx hb d_Big_add_95 rfl hl (by decide) rfl (fun ls hl => ?_)
                refine wi_iinc (v := i + 1) (lv' := [(3, .int (iI (i + 1))), (2, .int (iI ((g1 i + 0 + cy) / 65536))), (4, .int (iI (g1 i + 0 + cy))), (0, .ref h), (1, .ref h2)]) hx hb d_Big_add_96 hl (k := 4) rfl rfl (by decide) rfl (fun ls hl => ?_)
                refine lv_goto (tgt := 4) hx hb d_Big_add_99 (by decide) ?_
                exact ih4 (i + 1) ((g1 i + 0 + cy) / 65536) nn (upZ g1 i ((g1 i + 0 + cy) % 65536)) (by omega) (by omega) (by omega) (ba_s hC (x := g1 i) (y := 0) (by rw [hg1]; exact (mgx_in (by omega)).symm) ((mgx_out (by omega)).symm) rfl) (by rcases Int.lt_or_le i (max k k2) with q | q; exact Or.inl (by omega); exact Or.inr (by rw [show i + 1 - 1 = i by omega]; exact ba_big hN hM hC (by omega) (by omega))) (by omega) _ _ _ (lv_sub hl [3, 4, 1, 0] rfl) (hP.sub [0, 1, 2, 3] rfl) (hD.sub [0, 1, 2, 3] (by decide) rfl) hS
            · skip
              have hd2 := hM.2.1 i (by omega) (by omega)
              refine lv_aload_n hx hb d_Big_add_42 rfl (lv_at hl 1 rfl) ?_
              refine wk_get B hP 2 rfl fl_Big_7 (v := .ref a2) rfl d_Big_add_43 ?_
              refine lv_iload_n hx hb d_Big_add_46 rfl (lv_at hl 3 rfl) ?_
              refine wi_iald hx hb hK hP 3 0 rfl rfl (by omega) (by omega) d_Big_add_47 ?_
              refine lv_goto (tgt := 52) hx hb d_Big_add_48 (by decide) ?_
              refine wi_iadd hx hb d_Big_add_52 ?_
              refine lv_iload_n hx hb d_Big_add_53 rfl (lv_at hl 2 rfl) ?_
              refine wi_iadd hx hb d_Big_add_54 ?_
              refine lv_istore (lv' := [(4, .int (iI (g1 i + (g2 i) + cy))), (0, .ref h), (1, .ref h2), (2, .int (iI cy)), (3, .int (iI i))]) hx hb d_Big_add_55 hl (by decide) rfl (fun ls hl => ?_)
              refine lv_aload_n hx hb d_Big_add_57 rfl (lv_at hl 1 rfl) ?_
              refine lv_iload_n hx hb d_Big_add_58 rfl (lv_at hl 4 rfl) ?_
              refine lv_aload_n hx hb d_Big_add_59 rfl (lv_at hl 1 rfl) ?_
              refine wk_get B hP 0 rfl fl_Big_13 (v := .int (iI nn)) rfl d_Big_add_60 ?_
              refine wi_icmp_ge (tgt := 73) hx hb d_Big_add_63 (by decide) (by omega) (by omega) (fun c_16 => ?_) (fun c_16 => ?_)
              · skip
                refine lv_iload_n hx hb d_Big_add_73 rfl (lv_at hl 4 rfl) ?_
                refine wi_iconst (n := 1) hx hb d_Big_add_74 ?_
                refine wi_iadd hx hb d_Big_add_75 ?_
                refine wk_put B hP hD hS 0 rfl fl_Big_13 fp_Big_1 (v := .int (iI (i + 1))) rfl rfl (Nat.le_of_ble_eq_true rfl) d_Big_add_76 (fun H locs hP hD hS => ?_)
                have hP : va_P D classes [(h, .inr (7, [.ref a, .int (iI (i + 1))])), (a, .inl (E.1, 640, .inl (ia g1))), (h2, .inr (7, [.ref a2, .int (iI k2)])), (a2, .inl (E.1, 640, .inl (ia g2)))] H := hP
                have hD : va_D A [(h, .inr (7, [.ref a, .int (iI (i + 1))])), (a, .inl (E.1, 640, .inl (ia g1))), (h2, .inr (7, [.ref a2, .int (iI k2)])), (a2, .inl (E.1, 640, .inl (ia g2)))] := hD
                refine lv_aload_n hx hb d_Big_add_79 rfl (lv_at hl 1 rfl) ?_
                refine wk_get B hP 0 rfl fl_Big_7 (v := .ref a) rfl d_Big_add_80 ?_
                refine lv_iload_n hx hb d_Big_add_83 rfl (lv_at hl 4 rfl) ?_
                refine lv_iload hx hb d_Big_add_84 (lv_at hl 0 rfl) ?_
                refine wi_ldc hx hb 65535 hown (tb_h hts tw_Big_constant_26) (by decide) d_Big_add_86 ?_
                refine wi_imask hx hb 16 65536 (by decide +kernel) (by decide) (by decide) d_Big_add_88 ?_
                refine wi_iast hx hb hK hP hD hS 1 0 rfl rfl (by omega) (by omega) d_Big_add_89 (fun H locs hP hD hS => ?_)
                have hP : va_P D classes [(h, .inr (7, [.ref a, .int (iI (i + 1))])), (a, .inl (E.1, 640, .inl (ia (upZ g1 i ((g1 i + (g2 i) + cy) % 65536))))), (h2, .inr (7, [.ref a2, .int (iI k2)])), (a2, .inl (E.1, 640, .inl (ia g2)))] H := hP
                have hD : va_D A [(h, .inr (7, [.ref a, .int (iI (i + 1))])), (a, .inl (E.1, 640, .inl (ia (upZ g1 i ((g1 i + (g2 i) + cy) % 65536))))), (h2, .inr (7, [.ref a2, .int (iI k2)])), (a2, .inl (E.1, 640, .inl (ia g2)))] := hD
                refine lv_iload hx hb d_Big_add_90 (lv_at hl 0 rfl) ?_
                refine wi_bipush hx hb d_Big_add_92 (by decide) ?_
                refine wi_ishr hx hb 16 65536 (by decide +kernel) rfl (by decide) (by omega) d_Big_add_94 ?_
                refine lv_istore_n (lv' := [(2, .int (iI ((g1 i + (g2 i) + cy) / 65536))), (4, .int (iI (g1 i + (g2 i) + cy))), (0, .ref h), (1, .ref h2), (3, .int (iI i))]) hx hb d_Big_add_95 rfl hl (by decide) rfl (fun ls hl => ?_)
                refine wi_iinc (v := i + 1) (lv' := [(3, .int (iI (i + 1))), (2, .int (iI ((g1 i + (g2 i) + cy) / 65536))), (4, .int (iI (g1 i + (g2 i) + cy))), (0, .ref h), (1, .ref h2)]) hx hb d_Big_add_96 hl (k := 4) rfl rfl (by decide) rfl (fun ls hl => ?_)
                refine lv_goto (tgt := 4) hx hb d_Big_add_99 (by decide) ?_
                exact ih4 (i + 1) ((g1 i + (g2 i) + cy) / 65536) (i + 1) (upZ g1 i ((g1 i + (g2 i) + cy) % 65536)) (by omega) (by omega) (by omega) (ba_s hC (x := g1 i) (y := g2 i) (by rw [hg1]; exact (mgx_in (by omega)).symm) ((mgx_in (by omega)).symm) rfl) (by rcases Int.lt_or_le i (max k k2) with q | q; exact Or.inl (by omega); exact Or.inr (by rw [show i + 1 - 1 = i by omega]; exact ba_big hN hM hC (by omega) (by omega))) (by omega) _ _ _ (lv_sub hl [3, 4, 1, 0] rfl) (hP.sub [0, 1, 2, 3] rfl) (hD.sub [0, 1, 2, 3] (by decide) rfl) hS
              · skip
                refine lv_aload_n hx hb d_Big_add_66 rfl (lv_at hl 1 rfl) ?_
                refine wk_get B hP 0 rfl fl_Big_13 (v := .int (iI nn)) rfl d_Big_add_67 ?_
                refine lv_goto (tgt := 76) hx hb d_Big_add_70 (by decide) ?_
                refine wk_put B hP hD hS 0 rfl fl_Big_13 fp_Big_1 (v := .int (iI nn)) rfl rfl (Nat.le_of_ble_eq_true rfl) d_Big_add_76 (fun H locs hP hD hS => ?_)
                have hP : va_P D classes [(h, .inr (7, [.ref a, .int (iI nn)])), (a, .inl (E.1, 640, .inl (ia g1))), (h2, .inr (7, [.ref a2, .int (iI k2)])), (a2, .inl (E.1, 640, .inl (ia g2)))] H := hP
                have hD : va_D A [(h, .inr (7, [.ref a, .int (iI nn)])), (a, .inl (E.1, 640, .inl (ia g1))), (h2, .inr (7, [.ref a2, .int (iI k2)])), (a2, .inl (E.1, 640, .inl (ia g2)))] := hD
                refine lv_aload_n hx hb d_Big_add_79 rfl (lv_at hl 1 rfl) ?_
                refine wk_get B hP 0 rfl fl_Big_7 (v := .ref a) rfl d_Big_add_80 ?_
                refine lv_iload_n hx hb d_Big_add_83 rfl (lv_at hl 4 rfl) ?_
                refine lv_iload hx hb d_Big_add_84 (lv_at hl 0 rfl) ?_
                refine wi_ldc hx hb 65535 hown (tb_h hts tw_Big_constant_26) (by decide) d_Big_add_86 ?_
                refine wi_imask hx hb 16 65536 (by decide +kernel) (by decide) (by decide) d_Big_add_88 ?_
                refine wi_iast hx hb hK hP hD hS 1 0 rfl rfl (by omega) (by omega) d_Big_add_89 (fun H locs hP hD hS => ?_)
                have hP : va_P D classes [(h, .inr (7, [.ref a, .int (iI nn)])), (a, .inl (E.1, 640, .inl (ia (upZ g1 i ((g1 i + (g2 i) + cy) % 65536))))), (h2, .inr (7, [.ref a2, .int (iI k2)])), (a2, .inl (E.1, 640, .inl (ia g2)))] H := hP
                have hD : va_D A [(h, .inr (7, [.ref a, .int (iI nn)])), (a, .inl (E.1, 640, .inl (ia (upZ g1 i ((g1 i + (g2 i) + cy) % 65536))))), (h2, .inr (7, [.ref a2, .int (iI k2)])), (a2, .inl (E.1, 640, .inl (ia g2)))] := hD
                refine lv_iload hx hb d_Big_add_90 (lv_at hl 0 rfl) ?_
                refine wi_bipush hx hb d_Big_add_92 (by decide) ?_
                refine wi_ishr hx hb 16 65536 (by decide +kernel) rfl (by decide) (by omega) d_Big_add_94 ?_
                refine lv_istore_n (lv' := [(2, .int (iI ((g1 i + (g2 i) + cy) / 65536))), (4, .int (iI (g1 i + (g2 i) + cy))), (0, .ref h), (1, .ref h2), (3, .int (iI i))]) hx hb d_Big_add_95 rfl hl (by decide) rfl (fun ls hl => ?_)
                refine wi_iinc (v := i + 1) (lv' := [(3, .int (iI (i + 1))), (2, .int (iI ((g1 i + (g2 i) + cy) / 65536))), (4, .int (iI (g1 i + (g2 i) + cy))), (0, .ref h), (1, .ref h2)]) hx hb d_Big_add_96 hl (k := 4) rfl rfl (by decide) rfl (fun ls hl => ?_)
                refine lv_goto (tgt := 4) hx hb d_Big_add_99 (by decide) ?_
                exact ih4 (i + 1) ((g1 i + (g2 i) + cy) / 65536) nn (upZ g1 i ((g1 i + (g2 i) + cy) % 65536)) (by omega) (by omega) (by omega) (ba_s hC (x := g1 i) (y := g2 i) (by rw [hg1]; exact (mgx_in (by omega)).symm) ((mgx_in (by omega)).symm) rfl) (by rcases Int.lt_or_le i (max k k2) with q | q; exact Or.inl (by omega); exact Or.inr (by rw [show i + 1 - 1 = i by omega]; exact ba_big hN hM hC (by omega) (by omega))) (by omega) _ _ _ (lv_sub hl [3, 4, 1, 0] rfl) (hP.sub [0, 1, 2, 3] rfl) (hD.sub [0, 1, 2, 3] (by decide) rfl) hS
  refine wi_iconst (n := 0) hx hb d_Big_add_0 ?_
  refine lv_istore_n (lv' := [(2, .int (iI 0)), (0, .ref h), (1, .ref h2)]) hx hb d_Big_add_1 rfl hl (by decide) rfl (fun ls hl => ?_)
  refine wi_iconst (n := 0) hx hb d_Big_add_2 ?_
  refine lv_istore_n (lv' := [(3, .int (iI 0)), (2, .int (iI 0)), (0, .ref h), (1, .ref h2)]) hx hb d_Big_add_3 rfl hl (by decide) rfl (fun ls hl => ?_)
  exact K_4 ((640 - 0 : Int).toNat + 1) 0 0 k g (by omega) (by omega) (by omega) (DL_0 (Int.le_refl _)) (Or.inl (by omega)) (by omega) _ _ _ (lv_sub hl [2, 3, 1, 0] rfl) (hP.sub [0, 1, 2, 3] rfl) (hD.sub [0, 1, 2, 3] (by decide) rfl) hS
