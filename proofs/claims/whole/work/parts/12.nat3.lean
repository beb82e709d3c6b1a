/-! Natural: setProduct, shiftLeft -/
abbrev b_Natural_setProduct : ByteArray := prog_3_method_12_code
def y_Natural_setProduct : MethodName := ⟨"IntervalText$Natural", "setProduct", "(LIntervalText$Natural;LIntervalText$Natural;)V"⟩
abbrev b_Natural_shiftLeft : ByteArray := prog_3_method_13_code
def y_Natural_shiftLeft : MethodName := ⟨"IntervalText$Natural", "shiftLeft", "(I)V"⟩
theorem d_Natural_setProduct_0 : decode b_Natural_setProduct 0 = .ok (.aload_n 1, 1) := by decide +kernel
theorem d_Natural_setProduct_1 : decode b_Natural_setProduct 1 = .ok (.getfield 15, 3) := by decide +kernel
theorem d_Natural_setProduct_4 : decode b_Natural_setProduct 4 = .ok (.aload_n 2, 1) := by decide +kernel
theorem d_Natural_setProduct_5 : decode b_Natural_setProduct 5 = .ok (.getfield 15, 3) := by decide +kernel
theorem d_Natural_setProduct_8 : decode b_Natural_setProduct 8 = .ok (.iadd, 1) := by decide +kernel
theorem d_Natural_setProduct_9 : decode b_Natural_setProduct 9 = .ok (.sipush 224, 3) := by decide +kernel
theorem d_Natural_setProduct_12 : decode b_Natural_setProduct 12 = .ok (.invokestatic 28, 3) := by decide +kernel
theorem d_Natural_setProduct_15 : decode b_Natural_setProduct 15 = .ok (.istore_n 3, 1) := by decide +kernel
theorem d_Natural_setProduct_16 : decode b_Natural_setProduct 16 = .ok (.iconst 0, 1) := by decide +kernel
theorem d_Natural_setProduct_17 : decode b_Natural_setProduct 17 = .ok (.istore 4, 2) := by decide +kernel
theorem d_Natural_setProduct_19 : decode b_Natural_setProduct 19 = .ok (.iload 4, 2) := by decide +kernel
theorem d_Natural_setProduct_21 : decode b_Natural_setProduct 21 = .ok (.iload_n 3, 1) := by decide +kernel
theorem d_Natural_setProduct_22 : decode b_Natural_setProduct 22 = .ok (.if_icmp .ge 17, 3) := by decide +kernel
theorem d_Natural_setProduct_25 : decode b_Natural_setProduct 25 = .ok (.aload_n 0, 1) := by decide +kernel
theorem d_Natural_setProduct_26 : decode b_Natural_setProduct 26 = .ok (.getfield 9, 3) := by decide +kernel
theorem d_Natural_setProduct_29 : decode b_Natural_setProduct 29 = .ok (.iload 4, 2) := by decide +kernel
theorem d_Natural_setProduct_31 : decode b_Natural_setProduct 31 = .ok (.iconst 0, 1) := by decide +kernel
theorem d_Natural_setProduct_32 : decode b_Natural_setProduct 32 = .ok (.iastore, 1) := by decide +kernel
theorem d_Natural_setProduct_33 : decode b_Natural_setProduct 33 = .ok (.iinc 4 1, 3) := by decide +kernel
theorem d_Natural_setProduct_36 : decode b_Natural_setProduct 36 = .ok (.goto (-17), 3) := by decide +kernel
theorem d_Natural_setProduct_39 : decode b_Natural_setProduct 39 = .ok (.iconst 0, 1) := by decide +kernel
theorem d_Natural_setProduct_40 : decode b_Natural_setProduct 40 = .ok (.istore 4, 2) := by decide +kernel
theorem d_Natural_setProduct_42 : decode b_Natural_setProduct 42 = .ok (.iload 4, 2) := by decide +kernel
theorem d_Natural_setProduct_44 : decode b_Natural_setProduct 44 = .ok (.aload_n 1, 1) := by decide +kernel
theorem d_Natural_setProduct_45 : decode b_Natural_setProduct 45 = .ok (.getfield 15, 3) := by decide +kernel
theorem d_Natural_setProduct_48 : decode b_Natural_setProduct 48 = .ok (.if_icmp .ge 97, 3) := by decide +kernel
theorem d_Natural_setProduct_51 : decode b_Natural_setProduct 51 = .ok (.aload_n 1, 1) := by decide +kernel
theorem d_Natural_setProduct_52 : decode b_Natural_setProduct 52 = .ok (.iload 4, 2) := by decide +kernel
theorem d_Natural_setProduct_54 : decode b_Natural_setProduct 54 = .ok (.invokevirtual 21, 3) := by decide +kernel
theorem d_Natural_setProduct_57 : decode b_Natural_setProduct 57 = .ok (.i2l, 1) := by decide +kernel
theorem d_Natural_setProduct_58 : decode b_Natural_setProduct 58 = .ok (.lstore 5, 2) := by decide +kernel
theorem d_Natural_setProduct_60 : decode b_Natural_setProduct 60 = .ok (.lconst 0, 1) := by decide +kernel
theorem d_Natural_setProduct_61 : decode b_Natural_setProduct 61 = .ok (.lstore 7, 2) := by decide +kernel
theorem d_Natural_setProduct_63 : decode b_Natural_setProduct 63 = .ok (.iload 4, 2) := by decide +kernel
theorem d_Natural_setProduct_65 : decode b_Natural_setProduct 65 = .ok (.istore 9, 2) := by decide +kernel
theorem d_Natural_setProduct_67 : decode b_Natural_setProduct 67 = .ok (.iload 9, 2) := by decide +kernel
theorem d_Natural_setProduct_69 : decode b_Natural_setProduct 69 = .ok (.iload 4, 2) := by decide +kernel
theorem d_Natural_setProduct_71 : decode b_Natural_setProduct 71 = .ok (.aload_n 2, 1) := by decide +kernel
theorem d_Natural_setProduct_72 : decode b_Natural_setProduct 72 = .ok (.getfield 15, 3) := by decide +kernel
theorem d_Natural_setProduct_75 : decode b_Natural_setProduct 75 = .ok (.iadd, 1) := by decide +kernel
theorem d_Natural_setProduct_76 : decode b_Natural_setProduct 76 = .ok (.if_icmp .gt 63, 3) := by decide +kernel
theorem d_Natural_setProduct_79 : decode b_Natural_setProduct 79 = .ok (.iload 9, 2) := by decide +kernel
theorem d_Natural_setProduct_81 : decode b_Natural_setProduct 81 = .ok (.iload_n 3, 1) := by decide +kernel
theorem d_Natural_setProduct_82 : decode b_Natural_setProduct 82 = .ok (.if_icmp .ge 57, 3) := by decide +kernel
theorem d_Natural_setProduct_85 : decode b_Natural_setProduct 85 = .ok (.lload 7, 2) := by decide +kernel
theorem d_Natural_setProduct_87 : decode b_Natural_setProduct 87 = .ok (.aload_n 0, 1) := by decide +kernel
theorem d_Natural_setProduct_88 : decode b_Natural_setProduct 88 = .ok (.getfield 9, 3) := by decide +kernel
theorem d_Natural_setProduct_91 : decode b_Natural_setProduct 91 = .ok (.iload 9, 2) := by decide +kernel
theorem d_Natural_setProduct_93 : decode b_Natural_setProduct 93 = .ok (.iaload, 1) := by decide +kernel
theorem d_Natural_setProduct_94 : decode b_Natural_setProduct 94 = .ok (.i2l, 1) := by decide +kernel
theorem d_Natural_setProduct_95 : decode b_Natural_setProduct 95 = .ok (.lload 5, 2) := by decide +kernel
theorem d_Natural_setProduct_97 : decode b_Natural_setProduct 97 = .ok (.aload_n 2, 1) := by decide +kernel
theorem d_Natural_setProduct_98 : decode b_Natural_setProduct 98 = .ok (.iload 9, 2) := by decide +kernel
theorem d_Natural_setProduct_100 : decode b_Natural_setProduct 100 = .ok (.iload 4, 2) := by decide +kernel
theorem d_Natural_setProduct_102 : decode b_Natural_setProduct 102 = .ok (.isub, 1) := by decide +kernel
theorem d_Natural_setProduct_103 : decode b_Natural_setProduct 103 = .ok (.invokevirtual 21, 3) := by decide +kernel
theorem d_Natural_setProduct_106 : decode b_Natural_setProduct 106 = .ok (.i2l, 1) := by decide +kernel
theorem d_Natural_setProduct_107 : decode b_Natural_setProduct 107 = .ok (.lmul, 1) := by decide +kernel
theorem d_Natural_setProduct_108 : decode b_Natural_setProduct 108 = .ok (.ladd, 1) := by decide +kernel
theorem d_Natural_setProduct_109 : decode b_Natural_setProduct 109 = .ok (.ladd, 1) := by decide +kernel
theorem d_Natural_setProduct_110 : decode b_Natural_setProduct 110 = .ok (.lstore 7, 2) := by decide +kernel
theorem d_Natural_setProduct_112 : decode b_Natural_setProduct 112 = .ok (.aload_n 0, 1) := by decide +kernel
theorem d_Natural_setProduct_113 : decode b_Natural_setProduct 113 = .ok (.getfield 9, 3) := by decide +kernel
theorem d_Natural_setProduct_116 : decode b_Natural_setProduct 116 = .ok (.iload 9, 2) := by decide +kernel
theorem d_Natural_setProduct_118 : decode b_Natural_setProduct 118 = .ok (.lload 7, 2) := by decide +kernel
theorem d_Natural_setProduct_120 : decode b_Natural_setProduct 120 = .ok (.ldc2_w 19, 3) := by decide +kernel
theorem d_Natural_setProduct_123 : decode b_Natural_setProduct 123 = .ok (.land, 1) := by decide +kernel
theorem d_Natural_setProduct_124 : decode b_Natural_setProduct 124 = .ok (.l2i, 1) := by decide +kernel
theorem d_Natural_setProduct_125 : decode b_Natural_setProduct 125 = .ok (.iastore, 1) := by decide +kernel
theorem d_Natural_setProduct_126 : decode b_Natural_setProduct 126 = .ok (.lload 7, 2) := by decide +kernel
theorem d_Natural_setProduct_128 : decode b_Natural_setProduct 128 = .ok (.bipush 30, 2) := by decide +kernel
theorem d_Natural_setProduct_130 : decode b_Natural_setProduct 130 = .ok (.lshr, 1) := by decide +kernel
theorem d_Natural_setProduct_131 : decode b_Natural_setProduct 131 = .ok (.lstore 7, 2) := by decide +kernel
theorem d_Natural_setProduct_133 : decode b_Natural_setProduct 133 = .ok (.iinc 9 1, 3) := by decide +kernel
theorem d_Natural_setProduct_136 : decode b_Natural_setProduct 136 = .ok (.goto (-69), 3) := by decide +kernel
theorem d_Natural_setProduct_139 : decode b_Natural_setProduct 139 = .ok (.iinc 4 1, 3) := by decide +kernel
theorem d_Natural_setProduct_142 : decode b_Natural_setProduct 142 = .ok (.goto (-100), 3) := by decide +kernel
theorem d_Natural_setProduct_145 : decode b_Natural_setProduct 145 = .ok (.aload_n 0, 1) := by decide +kernel
theorem d_Natural_setProduct_146 : decode b_Natural_setProduct 146 = .ok (.iload_n 3, 1) := by decide +kernel
theorem d_Natural_setProduct_147 : decode b_Natural_setProduct 147 = .ok (.invokevirtual 41, 3) := by decide +kernel
theorem d_Natural_setProduct_150 : decode b_Natural_setProduct 150 = .ok (.return_, 1) := by decide +kernel
theorem d_Natural_shiftLeft_0 : decode b_Natural_shiftLeft 0 = .ok (.iload_n 1, 1) := by decide +kernel
theorem d_Natural_shiftLeft_1 : decode b_Natural_shiftLeft 1 = .ok (.ifCond .le 10, 3) := by decide +kernel
theorem d_Natural_shiftLeft_4 : decode b_Natural_shiftLeft 4 = .ok (.aload_n 0, 1) := by decide +kernel
theorem d_Natural_shiftLeft_5 : decode b_Natural_shiftLeft 5 = .ok (.getfield 15, 3) := by decide +kernel
theorem d_Natural_shiftLeft_8 : decode b_Natural_shiftLeft 8 = .ok (.ifCond .ne 4, 3) := by decide +kernel
theorem d_Natural_shiftLeft_11 : decode b_Natural_shiftLeft 11 = .ok (.return_, 1) := by decide +kernel
theorem d_Natural_shiftLeft_12 : decode b_Natural_shiftLeft 12 = .ok (.iload_n 1, 1) := by decide +kernel
theorem d_Natural_shiftLeft_13 : decode b_Natural_shiftLeft 13 = .ok (.bipush 30, 2) := by decide +kernel
theorem d_Natural_shiftLeft_15 : decode b_Natural_shiftLeft 15 = .ok (.idiv, 1) := by decide +kernel
theorem d_Natural_shiftLeft_16 : decode b_Natural_shiftLeft 16 = .ok (.istore_n 2, 1) := by decide +kernel
theorem d_Natural_shiftLeft_17 : decode b_Natural_shiftLeft 17 = .ok (.iload_n 1, 1) := by decide +kernel
theorem d_Natural_shiftLeft_18 : decode b_Natural_shiftLeft 18 = .ok (.bipush 30, 2) := by decide +kernel
theorem d_Natural_shiftLeft_20 : decode b_Natural_shiftLeft 20 = .ok (.irem, 1) := by decide +kernel
theorem d_Natural_shiftLeft_21 : decode b_Natural_shiftLeft 21 = .ok (.istore_n 3, 1) := by decide +kernel
theorem d_Natural_shiftLeft_22 : decode b_Natural_shiftLeft 22 = .ok (.aload_n 0, 1) := by decide +kernel
theorem d_Natural_shiftLeft_23 : decode b_Natural_shiftLeft 23 = .ok (.getfield 15, 3) := by decide +kernel
theorem d_Natural_shiftLeft_26 : decode b_Natural_shiftLeft 26 = .ok (.iload_n 2, 1) := by decide +kernel
theorem d_Natural_shiftLeft_27 : decode b_Natural_shiftLeft 27 = .ok (.iadd, 1) := by decide +kernel
theorem d_Natural_shiftLeft_28 : decode b_Natural_shiftLeft 28 = .ok (.iconst 1, 1) := by decide +kernel
theorem d_Natural_shiftLeft_29 : decode b_Natural_shiftLeft 29 = .ok (.iadd, 1) := by decide +kernel
theorem d_Natural_shiftLeft_30 : decode b_Natural_shiftLeft 30 = .ok (.sipush 224, 3) := by decide +kernel
theorem d_Natural_shiftLeft_33 : decode b_Natural_shiftLeft 33 = .ok (.invokestatic 28, 3) := by decide +kernel
theorem d_Natural_shiftLeft_36 : decode b_Natural_shiftLeft 36 = .ok (.istore 4, 2) := by decide +kernel
theorem d_Natural_shiftLeft_38 : decode b_Natural_shiftLeft 38 = .ok (.iload 4, 2) := by decide +kernel
theorem d_Natural_shiftLeft_40 : decode b_Natural_shiftLeft 40 = .ok (.iconst 1, 1) := by decide +kernel
theorem d_Natural_shiftLeft_41 : decode b_Natural_shiftLeft 41 = .ok (.isub, 1) := by decide +kernel
theorem d_Natural_shiftLeft_42 : decode b_Natural_shiftLeft 42 = .ok (.istore 5, 2) := by decide +kernel
theorem d_Natural_shiftLeft_44 : decode b_Natural_shiftLeft 44 = .ok (.iload 5, 2) := by decide +kernel
theorem d_Natural_shiftLeft_46 : decode b_Natural_shiftLeft 46 = .ok (.ifCond .lt 57, 3) := by decide +kernel
theorem d_Natural_shiftLeft_49 : decode b_Natural_shiftLeft 49 = .ok (.aload_n 0, 1) := by decide +kernel
theorem d_Natural_shiftLeft_50 : decode b_Natural_shiftLeft 50 = .ok (.iload 5, 2) := by decide +kernel
theorem d_Natural_shiftLeft_52 : decode b_Natural_shiftLeft 52 = .ok (.iload_n 2, 1) := by decide +kernel
theorem d_Natural_shiftLeft_53 : decode b_Natural_shiftLeft 53 = .ok (.isub, 1) := by decide +kernel
theorem d_Natural_shiftLeft_54 : decode b_Natural_shiftLeft 54 = .ok (.invokevirtual 21, 3) := by decide +kernel
theorem d_Natural_shiftLeft_57 : decode b_Natural_shiftLeft 57 = .ok (.i2l, 1) := by decide +kernel
theorem d_Natural_shiftLeft_58 : decode b_Natural_shiftLeft 58 = .ok (.iload_n 3, 1) := by decide +kernel
theorem d_Natural_shiftLeft_59 : decode b_Natural_shiftLeft 59 = .ok (.lshl, 1) := by decide +kernel
theorem d_Natural_shiftLeft_60 : decode b_Natural_shiftLeft 60 = .ok (.lstore 6, 2) := by decide +kernel
theorem d_Natural_shiftLeft_62 : decode b_Natural_shiftLeft 62 = .ok (.aload_n 0, 1) := by decide +kernel
theorem d_Natural_shiftLeft_63 : decode b_Natural_shiftLeft 63 = .ok (.iload 5, 2) := by decide +kernel
theorem d_Natural_shiftLeft_65 : decode b_Natural_shiftLeft 65 = .ok (.iload_n 2, 1) := by decide +kernel
theorem d_Natural_shiftLeft_66 : decode b_Natural_shiftLeft 66 = .ok (.isub, 1) := by decide +kernel
theorem d_Natural_shiftLeft_67 : decode b_Natural_shiftLeft 67 = .ok (.iconst 1, 1) := by decide +kernel
theorem d_Natural_shiftLeft_68 : decode b_Natural_shiftLeft 68 = .ok (.isub, 1) := by decide +kernel
theorem d_Natural_shiftLeft_69 : decode b_Natural_shiftLeft 69 = .ok (.invokevirtual 21, 3) := by decide +kernel
theorem d_Natural_shiftLeft_72 : decode b_Natural_shiftLeft 72 = .ok (.bipush 30, 2) := by decide +kernel
theorem d_Natural_shiftLeft_74 : decode b_Natural_shiftLeft 74 = .ok (.iload_n 3, 1) := by decide +kernel
theorem d_Natural_shiftLeft_75 : decode b_Natural_shiftLeft 75 = .ok (.isub, 1) := by decide +kernel
theorem d_Natural_shiftLeft_76 : decode b_Natural_shiftLeft 76 = .ok (.ishr, 1) := by decide +kernel
theorem d_Natural_shiftLeft_77 : decode b_Natural_shiftLeft 77 = .ok (.istore 8, 2) := by decide +kernel
theorem d_Natural_shiftLeft_79 : decode b_Natural_shiftLeft 79 = .ok (.aload_n 0, 1) := by decide +kernel
theorem d_Natural_shiftLeft_80 : decode b_Natural_shiftLeft 80 = .ok (.getfield 9, 3) := by decide +kernel
theorem d_Natural_shiftLeft_83 : decode b_Natural_shiftLeft 83 = .ok (.iload 5, 2) := by decide +kernel
theorem d_Natural_shiftLeft_85 : decode b_Natural_shiftLeft 85 = .ok (.lload 6, 2) := by decide +kernel
theorem d_Natural_shiftLeft_87 : decode b_Natural_shiftLeft 87 = .ok (.iload 8, 2) := by decide +kernel
theorem d_Natural_shiftLeft_89 : decode b_Natural_shiftLeft 89 = .ok (.i2l, 1) := by decide +kernel
theorem d_Natural_shiftLeft_90 : decode b_Natural_shiftLeft 90 = .ok (.lor, 1) := by decide +kernel
theorem d_Natural_shiftLeft_91 : decode b_Natural_shiftLeft 91 = .ok (.ldc2_w 19, 3) := by decide +kernel
theorem d_Natural_shiftLeft_94 : decode b_Natural_shiftLeft 94 = .ok (.land, 1) := by decide +kernel
theorem d_Natural_shiftLeft_95 : decode b_Natural_shiftLeft 95 = .ok (.l2i, 1) := by decide +kernel
theorem d_Natural_shiftLeft_96 : decode b_Natural_shiftLeft 96 = .ok (.iastore, 1) := by decide +kernel
theorem d_Natural_shiftLeft_97 : decode b_Natural_shiftLeft 97 = .ok (.iinc 5 (-1), 3) := by decide +kernel
theorem d_Natural_shiftLeft_100 : decode b_Natural_shiftLeft 100 = .ok (.goto (-56), 3) := by decide +kernel
theorem d_Natural_shiftLeft_103 : decode b_Natural_shiftLeft 103 = .ok (.aload_n 0, 1) := by decide +kernel
theorem d_Natural_shiftLeft_104 : decode b_Natural_shiftLeft 104 = .ok (.iload 4, 2) := by decide +kernel
theorem d_Natural_shiftLeft_106 : decode b_Natural_shiftLeft 106 = .ok (.invokevirtual 41, 3) := by decide +kernel
theorem d_Natural_shiftLeft_109 : decode b_Natural_shiftLeft 109 = .ok (.return_, 1) := by decide +kernel
set_option maxHeartbeats 4000000 in
set_option maxRecDepth 100000 in
theorem c_Natural_setProduct (l : Launch) (D : va_G) (E : EVt) (h : Nat) (a : Nat) (g : Int → Int) (k : Int) (h1 : Nat) (a1 : Nat) (f : Int → Int) (kf : Int) (h2 : Nat) (a2 : Nat) (g2 : Int → Int) (k2 : Int) (v : Int) (w : Int) (hN : NatOK f kf v) (hM : NatOK g2 k2 w) (hsz : kf + k2 ≤ 224) : CT l D classes (tyl E) (EVX E) y_Natural_setProduct (Cond.code y_Natural_setProduct b_Natural_setProduct 10 none :: TB) (rmK 1 0 0 30) 0 0 [.ref h, .ref h1, .ref h2] [(h, .inr (0, [.ref a, .int (iI k)])), (a, .inl (E.1, 224, .inl (ia g))), (h1, .inr (0, [.ref a1, .int (iI kf)])), (a1, .inl (E.1, 224, .inl (ia f))), (h2, .inr (0, [.ref a2, .int (iI k2)])), (a2, .inl (E.1, 224, .inl (ia g2)))] (S := (Int → Int) × Int) (fun u => [(h, .inr (0, [.ref a, .int (iI u.2)])), (a, .inl (E.1, 224, .inl (ia u.1))), (h1, .inr (0, [.ref a1, .int (iI kf)])), (a1, .inl (E.1, 224, .inl (ia f))), (h2, .inr (0, [.ref a2, .int (iI k2)])), (a2, .inl (E.1, 224, .inl (ia g2)))]) (fun _ => none) (fun u => (NatOK u.1 u.2 (v * w))) := by
  refine CT.ofv (eok E) (by decide) rfl (Nat.le_of_ble_eq_true rfl) ?_
  intro p e s m args below meth c A Q ls B hmn hP hD hS hl ret
  have B : Bd l D classes (tyl E) (EVX E) p m c b_Natural_setProduct 10 s args (Cond.code y_Natural_setProduct b_Natural_setProduct 10 none :: TB) R_Natural A := B
  obtain ⟨⟨hx, hb, hml, hown, hts⟩, hX, hK, hE, hA⟩ := id B
  have hl : lv_has ls 10 [(0, .ref h), (1, .ref h1), (2, .ref h2)] := hl
  have hP : va_P D classes [(h, .inr (0, [.ref a, .int (iI k)])), (a, .inl (E.1, 224, .inl (ia g))), (h1, .inr (0, [.ref a1, .int (iI kf)])), (a1, .inl (E.1, 224, .inl (ia f))), (h2, .inr (0, [.ref a2, .int (iI k2)])), (a2, .inl (E.1, 224, .inl (ia g2)))] s.heap := hP
  have hD : va_D A [(h, .inr (0, [.ref a, .int (iI k)])), (a, .inl (E.1, 224, .inl (ia g))), (h1, .inr (0, [.ref a1, .int (iI kf)])), (a1, .inl (E.1, 224, .inl (ia f))), (h2, .inr (0, [.ref a2, .int (iI k2)])), (a2, .inl (E.1, 224, .inl (ia g2)))] := hD
  have hk := hN.k
  have hk2 := hM.k
  have hmn : min (kf + k2) 224 = kf + k2 := by omega
  have K_42 : ∀ (fuel42 : Nat) (i : Int) (g1 : Int → Int) (hi : 0 ≤ i ∧ i ≤ kf) (hD1 : Dg g1 (kf + k2)) (hV1 : NV g1 (kf + k2) = NV f i * w) (hf42 : kf - i < (fuel42 : Int)) (ls : Array Slot) (H : Heap) (locs : List Loc), lv_has ls 10 [(0, .ref h), (1, .ref h1), (2, .ref h2), (3, .int (iI (min (kf + k2) 224))), (4, .int (iI i))] → va_P D classes [(h, .inr (0, [.ref a, .int (iI k)])), (a, .inl (E.1, 224, .inl (ia g1))), (h1, .inr (0, [.ref a1, .int (iI kf)])), (a1, .inl (E.1, 224, .inl (ia f))), (h2, .inr (0, [.ref a2, .int (iI k2)])), (a2, .inl (E.1, 224, .inl (ia g2)))] H → va_D A [(h, .inr (0, [.ref a, .int (iI k)])), (a, .inl (E.1, 224, .inl (ia g1))), (h1, .inr (0, [.ref a1, .int (iI kf)])), (a1, .inl (E.1, 224, .inl (ia f))), (h2, .inr (0, [.ref a2, .int (iI k2)])), (a2, .inl (E.1, 224, .inl (ia g2)))] → va_S A s.heap H locs → W p l e (rmK 1 0 0 30) s m args below meth c H locs 0 0 Q (F0 m 42 ls []) := by
    intro fuel42
    induction fuel42 with
    | zero =>
      intro i g1 hi hD1 hV1 hf42 ls H locs hl hP hD hS
      exfalso; omega
    | succ fuel42 ih42 =>
      intro i g1 hi hD1 hV1 hf42 ls H locs hl hP hD hS
      have K_67 : ∀ (fuel67 : Nat) (q : Int) (cy : Int) (g3 : Int → Int) (hq : i ≤ q ∧ q ≤ i + k2 + 1) (hik : i < kf) (hC : CL g1 (fun j => g1 j + lgx f kf i * lgx g2 k2 (j - i)) i 0 g3 q cy) (hcy : 0 ≤ cy ∧ cy < 1073741824) (hf67 : 224 - q < (fuel67 : Int)) (ls : Array Slot) (H : Heap) (locs : List Loc), lv_has ls 10 [(0, .ref h), (1, .ref h1), (2, .ref h2), (3, .int (iI (min (kf + k2) 224))), (4, .int (iI i)), (5, .long (lI (lgx f kf i))), (7, .long (lI cy)), (9, .int (iI q))] → va_P D classes [(h, .inr (0, [.ref a, .int (iI k)])), (a, .inl (E.1, 224, .inl (ia g3))), (h1, .inr (0, [.ref a1, .int (iI kf)])), (a1, .inl (E.1, 224, .inl (ia f))), (h2, .inr (0, [.ref a2, .int (iI k2)])), (a2, .inl (E.1, 224, .inl (ia g2)))] H → va_D A [(h, .inr (0, [.ref a, .int (iI k)])), (a, .inl (E.1, 224, .inl (ia g3))), (h1, .inr (0, [.ref a1, .int (iI kf)])), (a1, .inl (E.1, 224, .inl (ia f))), (h2, .inr (0, [.ref a2, .int (iI k2)])), (a2, .inl (E.1, 224, .inl (ia g2)))] → va_S A s.heap H locs → W p l e (rmK 1 0 0 30) s m args below meth c H locs 0 0 Q (F0 m 67 ls []) := by
        intro fuel67
        induction fuel67 with
        | zero =>
          intro q cy g3 hq hik hC hcy hf67 ls H locs hl hP hD hS
          exfalso; omega
        | succ fuel67 ih67 =>
          intro q cy g3 hq hik hC hcy hf67 ls H locs hl hP hD hS
          have hb1 := lgx_bd hN.2.1 i
          have hb2 := lgx_bd hM.2.1 (q - i)
          have hp1 := Int.mul_nonneg hb1.1 hb2.1
          have hp2 : lgx f kf i * lgx g2 k2 (q - i) ≤ 1073741823 * 1073741823 := Int.mul_le_mul (by omega) (by omega) hb2.1 (by decide)
          have hg3 := hC.2.1 q (by omega) (Or.inr (Int.le_refl _))
          refine lv_iload hx hb d_Natural_setProduct_67 (lv_at hl 7 rfl) ?_
          refine lv_iload hx hb d_Natural_setProduct_69 (lv_at hl 4 rfl) ?_
          refine lv_aload_n hx hb d_Natural_setProduct_71 rfl (lv_at hl 2 rfl) ?_
          refine wk_get B hP 4 rfl fl_Natural_15 (v := .int (iI k2)) rfl d_Natural_setProduct_72 ?_
          refine wi_iadd hx hb d_Natural_setProduct_75 ?_
          refine wi_icmp_gt (tgt := 139) hx hb d_Natural_setProduct_76 (by decide) (by omega) (by omega) (fun c_1 => ?_) (fun c_1 => ?_)
          · skip
            have hqe : q = i + k2 + 1 := by omega
            rw [hqe] at hC
            obtain ⟨hD9, hV9⟩ := sp_end hN hM rfl (by omega) hD1 hV1 hC
            refine wi_iinc (v := i + 1) (lv' := [(4, .int (iI (i + 1))), (0, .ref h), (1, .ref h1), (2, .ref h2), (3, .int (iI (min (kf + k2) 224))), (5, .long (lI (lgx f kf i))), (7, .long (lI cy)), (9, .int (iI q))]) hx hb d_Natural_setProduct_139 hl (k := 4) rfl rfl (by decide) rfl (fun ls hl => ?_)
            refine lv_goto (tgt := 42) hx hb d_Natural_setProduct_142 (by decide) ?_
            exact ih42 (i + 1) g3 (by omega) (hD9) (hV9) (by omega) _ _ _ (lv_sub hl [1, 2, 3, 4, 0] rfl) (hP.sub [0, 1, 2, 3, 4, 5] rfl) (hD.sub [0, 1, 2, 3, 4, 5] (by decide) rfl) hS
          · skip
            refine lv_iload hx hb d_Natural_setProduct_79 (lv_at hl 7 rfl) ?_
            refine lv_iload_n hx hb d_Natural_setProduct_81 rfl (lv_at hl 3 rfl) ?_
            refine wi_icmp_ge (tgt := 139) hx hb d_Natural_setProduct_82 (by decide) (by omega) (by omega) (fun c_2 => ?_) (fun c_2 => ?_)
            · skip
              have hqe : q = i + k2 + 1 := by omega
              rw [hqe] at hC
              obtain ⟨hD9, hV9⟩ := sp_end hN hM rfl (by omega) hD1 hV1 hC
              refine wi_iinc (v := i + 1) (lv' := [(4, .int (iI (i + 1))), (0, .ref h), (1, .ref h1), (2, .ref h2), (3, .int (iI (min (kf + k2) 224))), (5, .long (lI (lgx f kf i))), (7, .long (lI cy)), (9, .int (iI q))]) hx hb d_Natural_setProduct_139 hl (k := 4) rfl rfl (by decide) rfl (fun ls hl => ?_)
              refine lv_goto (tgt := 42) hx hb d_Natural_setProduct_142 (by decide) ?_
              exact ih42 (i + 1) g3 (by omega) (hD9) (hV9) (by omega) _ _ _ (lv_sub hl [1, 2, 3, 4, 0] rfl) (hP.sub [0, 1, 2, 3, 4, 5] rfl) (hD.sub [0, 1, 2, 3, 4, 5] (by decide) rfl) hS
            · skip
              have hd1 := hD1 q (by omega) (by omega)
              rw [← hg3] at hd1
              refine lv_lload hx hb d_Natural_setProduct_85 (lv_at hl 6 rfl) ?_
              refine lv_aload_n hx hb d_Natural_setProduct_87 rfl (lv_at hl 0 rfl) ?_
              refine wk_get B hP 0 rfl fl_Natural_9 (v := .ref a) rfl d_Natural_setProduct_88 ?_
              refine lv_iload hx hb d_Natural_setProduct_91 (lv_at hl 7 rfl) ?_
              refine wi_iald hx hb hK hP 1 0 rfl rfl (by omega) (by omega) d_Natural_setProduct_93 ?_
              refine wi_i2l hx hb (by omega) d_Natural_setProduct_94 ?_
              refine lv_lload hx hb d_Natural_setProduct_95 (lv_at hl 5 rfl) ?_
              refine lv_aload_n hx hb d_Natural_setProduct_97 rfl (lv_at hl 2 rfl) ?_
              refine lv_iload hx hb d_Natural_setProduct_98 (lv_at hl 7 rfl) ?_
              refine lv_iload hx hb d_Natural_setProduct_100 (lv_at hl 4 rfl) ?_
              refine wi_isub hx hb d_Natural_setProduct_102 ?_
              refine wk_callV (As := [.int (iI (q - i))]) (rest := [.long (lI (lgx f kf i)), .long (lI (g3 q)), .long (lI cy)]) (wr := [(h, .inr (0, [.ref a, .int (iI k)])), (a, .inl (E.1, 224, .inl (ia g3))), (h1, .inr (0, [.ref a1, .int (iI kf)])), (a1, .inl (E.1, 224, .inl (ia f)))]) B gTB cl_Natural_21 (c_Natural_limb l D E h2 a2 g2 k2 (q - i) (hk2) (by omega)) ⟨⟨rfl, rfl⟩, Nat.le_of_ble_eq_true rfl, Nat.le_of_ble_eq_true rfl⟩ hP hD hS [4, 5] [0, 1, 2, 3] rfl rfl (by decide) 4 rfl rfl rfl ⟨hl.2.1, hl.1⟩ rfl (Nat.le_of_ble_eq_true rfl) d_Natural_setProduct_103 ⟨Nat.le_of_ble_eq_true rfl, Nat.le_of_ble_eq_true rfl⟩ rfl (fun r_3 H locs hw hP hD hS => ?_)
              have hP : va_P D classes [(h, .inr (0, [.ref a, .int (iI k)])), (a, .inl (E.1, 224, .inl (ia g3))), (h1, .inr (0, [.ref a1, .int (iI kf)])), (a1, .inl (E.1, 224, .inl (ia f))), (h2, .inr (0, [.ref a2, .int (iI k2)])), (a2, .inl (E.1, 224, .inl (ia g2)))] H := hP
              have hD : va_D A [(h, .inr (0, [.ref a, .int (iI k)])), (a, .inl (E.1, 224, .inl (ia g3))), (h1, .inr (0, [.ref a1, .int (iI kf)])), (a1, .inl (E.1, 224, .inl (ia f))), (h2, .inr (0, [.ref a2, .int (iI k2)])), (a2, .inl (E.1, 224, .inl (ia g2)))] := hD
              have hw : (r_3 = lgx g2 k2 (q - i)) := hw
              have hr_4 := hw
              refine W.cs (g := F0 m 106 ls [.int (iI r_3), .long (lI (lgx f kf i)), .long (lI (g3 q)), .long (lI cy)]) (cells' := 0) (slots' := 0) rfl rfl ?_
              subst hr_4
              refine wi_i2l hx hb (by omega) d_Natural_setProduct_106 ?_
              refine wi_lmul hx hb d_Natural_setProduct_107 ?_
              refine wi_ladd hx hb d_Natural_setProduct_108 ?_
              refine wi_ladd hx hb d_Natural_setProduct_109 ?_
              refine lv_lstore (lv' := [(7, .long (lI (cy + (g3 q + ((lgx f kf i) * (lgx g2 k2 (q - i))))))), (0, .ref h), (1, .ref h1), (2, .ref h2), (3, .int (iI (min (kf + k2) 224))), (4, .int (iI i)), (5, .long (lI (lgx f kf i))), (9, .int (iI q))]) hx hb d_Natural_setProduct_110 hl (by decide) rfl (fun ls hl => ?_)
              refine lv_aload_n hx hb d_Natural_setProduct_112 rfl (lv_at hl 1 rfl) ?_
              refine wk_get B hP 0 rfl fl_Natural_9 (v := .ref a) rfl d_Natural_setProduct_113 ?_
              refine lv_iload hx hb d_Natural_setProduct_116 (lv_at hl 7 rfl) ?_
              refine lv_lload hx hb d_Natural_setProduct_118 (lv_at hl 0 rfl) ?_
              refine wi_ldc2 hx hb 1073741823 hown (tb_h hts tw_Natural_constantLong_19) (by decide) d_Natural_setProduct_120 ?_
              refine wi_lmask hx hb 30 1073741824 (by decide +kernel) (by decide) (by decide) d_Natural_setProduct_123 ?_
              refine wi_l2i hx hb d_Natural_setProduct_124 ?_
              refine wi_iast hx hb hK hP hD hS 1 0 rfl rfl (by omega) (by omega) d_Natural_setProduct_125 (fun H locs hP hD hS => ?_)
              have hP : va_P D classes [(h, .inr (0, [.ref a, .int (iI k)])), (a, .inl (E.1, 224, .inl (ia (upZ g3 q ((cy + (g3 q + ((lgx f kf i) * (lgx g2 k2 (q - i))))) % 1073741824))))), (h1, .inr (0, [.ref a1, .int (iI kf)])), (a1, .inl (E.1, 224, .inl (ia f))), (h2, .inr (0, [.ref a2, .int (iI k2)])), (a2, .inl (E.1, 224, .inl (ia g2)))] H := hP
              have hD : va_D A [(h, .inr (0, [.ref a, .int (iI k)])), (a, .inl (E.1, 224, .inl (ia (upZ g3 q ((cy + (g3 q + ((lgx f kf i) * (lgx g2 k2 (q - i))))) % 1073741824))))), (h1, .inr (0, [.ref a1, .int (iI kf)])), (a1, .inl (E.1, 224, .inl (ia f))), (h2, .inr (0, [.ref a2, .int (iI k2)])), (a2, .inl (E.1, 224, .inl (ia g2)))] := hD
              refine lv_lload hx hb d_Natural_setProduct_126 (lv_at hl 0 rfl) ?_
              refine wi_bipush hx hb d_Natural_setProduct_128 (by decide) ?_
              refine wi_lshr hx hb 30 1073741824 (by decide +kernel) rfl (by decide) (by omega) d_Natural_setProduct_130 ?_
              refine lv_lstore (lv' := [(7, .long (lI ((cy + (g3 q + ((lgx f kf i) * (lgx g2 k2 (q - i))))) / 1073741824))), (0, .ref h), (1, .ref h1), (2, .ref h2), (3, .int (iI (min (kf + k2) 224))), (4, .int (iI i)), (5, .long (lI (lgx f kf i))), (9, .int (iI q))]) hx hb d_Natural_setProduct_131 hl (by decide) rfl (fun ls hl => ?_)
              refine wi_iinc (v := q + 1) (lv' := [(9, .int (iI (q + 1))), (7, .long (lI ((cy + (g3 q + ((lgx f kf i) * (lgx g2 k2 (q - i))))) / 1073741824))), (0, .ref h), (1, .ref h1), (2, .ref h2), (3, .int (iI (min (kf + k2) 224))), (4, .int (iI i)), (5, .long (lI (lgx f kf i)))]) hx hb d_Natural_setProduct_133 hl (k := 7) rfl rfl (by decide) rfl (fun ls hl => ?_)
              refine lv_goto (tgt := 67) hx hb d_Natural_setProduct_136 (by decide) ?_
              exact ih67 (q + 1) ((cy + (g3 q + ((lgx f kf i) * (lgx g2 k2 (q - i))))) / 1073741824) (upZ g3 q ((cy + (g3 q + ((lgx f kf i) * (lgx g2 k2 (q - i))))) % 1073741824)) (by omega) (by omega) (sp_s hC) (by omega) (by omega) _ _ _ (lv_sub hl [2, 3, 4, 5, 6, 7, 1, 0] rfl) (hP.sub [0, 1, 2, 3, 4, 5] rfl) (hD.sub [0, 1, 2, 3, 4, 5] (by decide) rfl) hS
      refine lv_iload hx hb d_Natural_setProduct_42 (lv_at hl 4 rfl) ?_
      refine lv_aload_n hx hb d_Natural_setProduct_44 rfl (lv_at hl 1 rfl) ?_
      refine wk_get B hP 2 rfl fl_Natural_15 (v := .int (iI kf)) rfl d_Natural_setProduct_45 ?_
      refine wi_icmp_ge (tgt := 145) hx hb d_Natural_setProduct_48 (by decide) (by omega) (by omega) (fun c_5 => ?_) (fun c_5 => ?_)
      · skip
        refine lv_aload_n hx hb d_Natural_setProduct_145 rfl (lv_at hl 0 rfl) ?_
        refine lv_iload_n hx hb d_Natural_setProduct_146 rfl (lv_at hl 3 rfl) ?_
        refine wk_callV (As := [.int (iI (min (kf + k2) 224))]) (rest := []) (wr := [(h1, .inr (0, [.ref a1, .int (iI kf)])), (a1, .inl (E.1, 224, .inl (ia f))), (h2, .inr (0, [.ref a2, .int (iI k2)])), (a2, .inl (E.1, 224, .inl (ia g2)))]) B gTB cl_Natural_41 (c_Natural_trim l D E h a g1 k (min (kf + k2) 224) (by omega) (by rw [hmn]; exact hD1)) ⟨⟨rfl, rfl⟩, Nat.le_of_ble_eq_true rfl, Nat.le_of_ble_eq_true rfl⟩ hP hD hS [0, 1] [2, 3, 4, 5] rfl rfl (by decide) 0 rfl rfl rfl ⟨hl.2.1, hl.1⟩ rfl (Nat.le_of_ble_eq_true rfl) d_Natural_setProduct_147 ⟨Nat.le_of_ble_eq_true rfl, Nat.le_of_ble_eq_true rfl⟩ rfl (fun k2_6 H locs hw hP hD hS => ?_)
        have hP : va_P D classes [(h1, .inr (0, [.ref a1, .int (iI kf)])), (a1, .inl (E.1, 224, .inl (ia f))), (h2, .inr (0, [.ref a2, .int (iI k2)])), (a2, .inl (E.1, 224, .inl (ia g2))), (h, .inr (0, [.ref a, .int (iI k2_6)])), (a, .inl (E.1, 224, .inl (ia g1)))] H := hP
        have hD : va_D A [(h1, .inr (0, [.ref a1, .int (iI kf)])), (a1, .inl (E.1, 224, .inl (ia f))), (h2, .inr (0, [.ref a2, .int (iI k2)])), (a2, .inl (E.1, 224, .inl (ia g2))), (h, .inr (0, [.ref a, .int (iI k2_6)])), (a, .inl (E.1, 224, .inl (ia g1)))] := hD
        have hw : (NatOK g1 k2_6 (NV g1 (min (kf + k2) 224))) := hw
        have hM_7 := hw
        refine W.cs (g := F0 m 150 ls []) (cells' := 0) (slots' := 0) rfl rfl ?_
        exact ret (g1, k2_6) _ _ _ _ d_Natural_setProduct_150 (show (NatOK g1 k2_6 (v * w)) from (by rw [show v * w = NV g1 (min (kf + k2) 224) by rw [hmn, hV1, show i = kf by omega, hN.2.2.2]]; exact hM_7)) (hP.sub [4, 5, 0, 1, 2, 3] rfl) (hD.sub [4, 5, 0, 1, 2, 3] (by decide) rfl) hS
      · skip
        have hb0 := lgx_bd hN.2.1 i
        refine lv_aload_n hx hb d_Natural_setProduct_51 rfl (lv_at hl 1 rfl) ?_
        refine lv_iload hx hb d_Natural_setProduct_52 (lv_at hl 4 rfl) ?_
        refine wk_callV (As := [.int (iI i)]) (rest := []) (wr := [(h, .inr (0, [.ref a, .int (iI k)])), (a, .inl (E.1, 224, .inl (ia g1))), (h2, .inr (0, [.ref a2, .int (iI k2)])), (a2, .inl (E.1, 224, .inl (ia g2)))]) B gTB cl_Natural_21 (c_Natural_limb l D E h1 a1 f kf i (hk) (by omega)) ⟨⟨rfl, rfl⟩, Nat.le_of_ble_eq_true rfl, Nat.le_of_ble_eq_true rfl⟩ hP hD hS [2, 3] [0, 1, 4, 5] rfl rfl (by decide) 2 rfl rfl rfl ⟨hl.2.1, hl.1⟩ rfl (Nat.le_of_ble_eq_true rfl) d_Natural_setProduct_54 ⟨Nat.le_of_ble_eq_true rfl, Nat.le_of_ble_eq_true rfl⟩ rfl (fun r_8 H locs hw hP hD hS => ?_)
        have hP : va_P D classes [(h, .inr (0, [.ref a, .int (iI k)])), (a, .inl (E.1, 224, .inl (ia g1))), (h2, .inr (0, [.ref a2, .int (iI k2)])), (a2, .inl (E.1, 224, .inl (ia g2))), (h1, .inr (0, [.ref a1, .int (iI kf)])), (a1, .inl (E.1, 224, .inl (ia f)))] H := hP
        have hD : va_D A [(h, .inr (0, [.ref a, .int (iI k)])), (a, .inl (E.1, 224, .inl (ia g1))), (h2, .inr (0, [.ref a2, .int (iI k2)])), (a2, .inl (E.1, 224, .inl (ia g2))), (h1, .inr (0, [.ref a1, .int (iI kf)])), (a1, .inl (E.1, 224, .inl (ia f)))] := hD
        have hw : (r_8 = lgx f kf i) := hw
        have hr_9 := hw
        refine W.cs (g := F0 m 57 ls [.int (iI r_8)]) (cells' := 0) (slots' := 0) rfl rfl ?_
        subst hr_9
        refine wi_i2l hx hb (by omega) d_Natural_setProduct_57 ?_
        refine lv_lstore (lv' := [(5, .long (lI (lgx f kf i))), (0, .ref h), (1, .ref h1), (2, .ref h2), (3, .int (iI (min (kf + k2) 224))), (4, .int (iI i))]) hx hb d_Natural_setProduct_58 hl (by decide) rfl (fun ls hl => ?_)
        refine wi_lconst (z := 0) hx hb d_Natural_setProduct_60 (by decide) ?_
        refine lv_lstore (lv' := [(7, .long (lI 0)), (5, .long (lI (lgx f kf i))), (0, .ref h), (1, .ref h1), (2, .ref h2), (3, .int (iI (min (kf + k2) 224))), (4, .int (iI i))]) hx hb d_Natural_setProduct_61 hl (by decide) rfl (fun ls hl => ?_)
        refine lv_iload hx hb d_Natural_setProduct_63 (lv_at hl 6 rfl) ?_
        refine lv_istore (lv' := [(9, .int (iI i)), (7, .long (lI 0)), (5, .long (lI (lgx f kf i))), (0, .ref h), (1, .ref h1), (2, .ref h2), (3, .int (iI (min (kf + k2) 224))), (4, .int (iI i))]) hx hb d_Natural_setProduct_65 hl (by decide) rfl (fun ls hl => ?_)
        exact K_67 ((224 - i : Int).toNat + 1) i 0 g1 (by omega) (by omega) (CL_0 hi.1) (by omega) (by omega) _ _ _ (lv_sub hl [3, 4, 5, 6, 7, 2, 1, 0] rfl) (hP.sub [0, 1, 4, 5, 2, 3] rfl) (hD.sub [0, 1, 4, 5, 2, 3] (by decide) rfl) hS
  have K_19 : ∀ (fuel19 : Nat) (i : Int) (g1 : Int → Int) (hi : 0 ≤ i ∧ i ≤ kf + k2) (hz : ∀ j : Int, 0 ≤ j → j < i → g1 j = 0) (hf19 : kf + k2 - i < (fuel19 : Int)) (ls : Array Slot) (H : Heap) (locs : List Loc), lv_has ls 10 [(0, .ref h), (1, .ref h1), (2, .ref h2), (3, .int (iI (min (kf + k2) 224))), (4, .int (iI i))] → va_P D classes [(h, .inr (0, [.ref a, .int (iI k)])), (a, .inl (E.1, 224, .inl (ia g1))), (h1, .inr (0, [.ref a1, .int (iI kf)])), (a1, .inl (E.1, 224, .inl (ia f))), (h2, .inr (0, [.ref a2, .int (iI k2)])), (a2, .inl (E.1, 224, .inl (ia g2)))] H → va_D A [(h, .inr (0, [.ref a, .int (iI k)])), (a, .inl (E.1, 224, .inl (ia g1))), (h1, .inr (0, [.ref a1, .int (iI kf)])), (a1, .inl (E.1, 224, .inl (ia f))), (h2, .inr (0, [.ref a2, .int (iI k2)])), (a2, .inl (E.1, 224, .inl (ia g2)))] → va_S A s.heap H locs → W p l e (rmK 1 0 0 30) s m args below meth c H locs 0 0 Q (F0 m 19 ls []) := by
    intro fuel19
    induction fuel19 with
    | zero =>
      intro i g1 hi hz hf19 ls H locs hl hP hD hS
      exfalso; omega
    | succ fuel19 ih19 =>
      intro i g1 hi hz hf19 ls H locs hl hP hD hS
      refine lv_iload hx hb d_Natural_setProduct_19 (lv_at hl 4 rfl) ?_
      refine lv_iload_n hx hb d_Natural_setProduct_21 rfl (lv_at hl 3 rfl) ?_
      refine wi_icmp_ge (tgt := 39) hx hb d_Natural_setProduct_22 (by decide) (by omega) (by omega) (fun c_10 => ?_) (fun c_10 => ?_)
      · skip
        refine wi_iconst (n := 0) hx hb d_Natural_setProduct_39 ?_
        refine lv_istore (lv' := [(4, .int (iI 0)), (0, .ref h), (1, .ref h1), (2, .ref h2), (3, .int (iI (min (kf + k2) 224)))]) hx hb d_Natural_setProduct_40 hl (by decide) rfl (fun ls hl => ?_)
        exact K_42 ((kf - 0 : Int).toNat + 1) 0 g1 (by omega) (fun j h1 h2 => by rw [hz j h1 (by omega)]; omega) (by rw [NV_0, NV_low0 (by omega) (fun j h1 h2 => hz j h1 (by omega))]; omega) (by omega) _ _ _ (lv_sub hl [1, 2, 3, 4, 0] rfl) (hP.sub [0, 1, 2, 3, 4, 5] rfl) (hD.sub [0, 1, 2, 3, 4, 5] (by decide) rfl) hS
      · skip
        refine lv_aload_n hx hb d_Natural_setProduct_25 rfl (lv_at hl 0 rfl) ?_
        refine wk_get B hP 0 rfl fl_Natural_9 (v := .ref a) rfl d_Natural_setProduct_26 ?_
        refine lv_iload hx hb d_Natural_setProduct_29 (lv_at hl 4 rfl) ?_
        refine wi_iconst (n := 0) hx hb d_Natural_setProduct_31 ?_
        refine wi_iast hx hb hK hP hD hS 1 0 rfl rfl (by omega) (by omega) d_Natural_setProduct_32 (fun H locs hP hD hS => ?_)
        have hP : va_P D classes [(h, .inr (0, [.ref a, .int (iI k)])), (a, .inl (E.1, 224, .inl (ia (upZ g1 i 0)))), (h1, .inr (0, [.ref a1, .int (iI kf)])), (a1, .inl (E.1, 224, .inl (ia f))), (h2, .inr (0, [.ref a2, .int (iI k2)])), (a2, .inl (E.1, 224, .inl (ia g2)))] H := hP
        have hD : va_D A [(h, .inr (0, [.ref a, .int (iI k)])), (a, .inl (E.1, 224, .inl (ia (upZ g1 i 0)))), (h1, .inr (0, [.ref a1, .int (iI kf)])), (a1, .inl (E.1, 224, .inl (ia f))), (h2, .inr (0, [.ref a2, .int (iI k2)])), (a2, .inl (E.1, 224, .inl (ia g2)))] := hD
        refine wi_iinc (v := i + 1) (lv' := [(4, .int (iI (i + 1))), (0, .ref h), (1, .ref h1), (2, .ref h2), (3, .int (iI (min (kf + k2) 224)))]) hx hb d_Natural_setProduct_33 hl (k := 4) rfl rfl (by decide) rfl (fun ls hl => ?_)
        refine lv_goto (tgt := 19) hx hb d_Natural_setProduct_36 (by decide) ?_
        exact ih19 (i + 1) (upZ g1 i 0) (by omega) (fun j h1 h2 => if z : j = i then (by rw [z, upZ_s]) else (by rw [upZ_n z]; exact hz j h1 (by omega))) (by omega) _ _ _ (lv_sub hl [1, 2, 3, 4, 0] rfl) (hP.sub [0, 1, 2, 3, 4, 5] rfl) (hD.sub [0, 1, 2, 3, 4, 5] (by decide) rfl) hS
  refine lv_aload_n hx hb d_Natural_setProduct_0 rfl (lv_at hl 1 rfl) ?_
  refine wk_get B hP 2 rfl fl_Natural_15 (v := .int (iI kf)) rfl d_Natural_setProduct_1 ?_
  refine lv_aload_n hx hb d_Natural_setProduct_4 rfl (lv_at hl 2 rfl) ?_
  refine wk_get B hP 4 rfl fl_Natural_15 (v := .int (iI k2)) rfl d_Natural_setProduct_5 ?_
  refine wi_iadd hx hb d_Natural_setProduct_8 ?_
  refine wi_sipush hx hb d_Natural_setProduct_9 (by decide) ?_
  refine wi_mmin hx hb hown (hml.trans hl.1.symm) (tb_h hts tm_Natural_28.1) (tb_h hts tm_Natural_28.2.1) (tb_h hts tm_Natural_28.2.2.1) (tb_h hts tm_Natural_28.2.2.2) (Nat.le_of_ble_eq_true rfl) (Nat.le_of_ble_eq_true rfl) ⟨Nat.le_of_ble_eq_true rfl, Nat.le_of_ble_eq_true rfl⟩ (by omega) (by omega) d_Natural_setProduct_12 ?_
  refine lv_istore_n (lv' := [(3, .int (iI (min (kf + k2) 224))), (0, .ref h), (1, .ref h1), (2, .ref h2)]) hx hb d_Natural_setProduct_15 rfl hl (by decide) rfl (fun ls hl => ?_)
  refine wi_iconst (n := 0) hx hb d_Natural_setProduct_16 ?_
  refine lv_istore (lv' := [(4, .int (iI 0)), (3, .int (iI (min (kf + k2) 224))), (0, .ref h), (1, .ref h1), (2, .ref h2)]) hx hb d_Natural_setProduct_17 hl (by decide) rfl (fun ls hl => ?_)
  exact K_19 ((kf + k2 - 0 : Int).toNat + 1) 0 g (by omega) (fun j h1 h2 => by omega) (by omega) _ _ _ (lv_sub hl [2, 3, 4, 1, 0] rfl) (hP.sub [0, 1, 2, 3, 4, 5] rfl) (hD.sub [0, 1, 2, 3, 4, 5] (by decide) rfl) hS
set_option maxHeartbeats 4000000 in
set_option maxRecDepth 100000 in
theorem c_Natural_shiftLeft (l : Launch) (D : va_G) (E : EVt) (h : Nat) (a : Nat) (g : Int → Int) (k : Int) (cnt : Int) (v : Int) (hN : NatOK g k v) (hcn : -2147483648 ≤ cnt ∧ cnt < 1073741824) (hf1 : v * P2 cnt < PB 224) : CT l D classes (tyl E) (EVX E) y_Natural_shiftLeft (Cond.code y_Natural_shiftLeft b_Natural_shiftLeft 9 none :: TB) (rmK 1 0 0 30) 0 0 [.ref h, .int (iI cnt)] [(h, .inr (0, [.ref a, .int (iI k)])), (a, .inl (E.1, 224, .inl (ia g)))] (S := (Int → Int) × Int) (fun u => [(h, .inr (0, [.ref a, .int (iI u.2)])), (a, .inl (E.1, 224, .inl (ia u.1)))]) (fun _ => none) (fun u => (NatOK u.1 u.2 (v * P2 cnt))) := by
  refine CT.ofv (eok E) (by decide) rfl (Nat.le_of_ble_eq_true rfl) ?_
  intro p e s m args below meth c A Q ls B hmn hP hD hS hl ret
  have B : Bd l D classes (tyl E) (EVX E) p m c b_Natural_shiftLeft 9 s args (Cond.code y_Natural_shiftLeft b_Natural_shiftLeft 9 none :: TB) R_Natural A := B
  obtain ⟨⟨hx, hb, hml, hown, hts⟩, hX, hK, hE, hA⟩ := id B
  have hl : lv_has ls 9 [(0, .ref h), (1, .int (iI cnt))] := hl
  have hP : va_P D classes [(h, .inr (0, [.ref a, .int (iI k)])), (a, .inl (E.1, 224, .inl (ia g)))] s.heap := hP
  have hD : va_D A [(h, .inr (0, [.ref a, .int (iI k)])), (a, .inl (E.1, 224, .inl (ia g)))] := hD
  have hk := hN.k
  have K_44 : ∀ (fuel44 : Nat) (i : Int) (g1 : Int → Int) (hc0 : 0 < cnt) (hk0 : 0 < k) (hi : -1 ≤ i ∧ i < min (k + cnt / 30 + 1) 224) (hu : ∀ j : Int, i < j → j < min (k + cnt / 30 + 1) 224 → g1 j = sdg g k (cnt / 30) (cnt % 30) j) (hlo : ∀ j : Int, j ≤ i → g1 j = g j) (hf44 : i + 1 < (fuel44 : Int)) (ls : Array Slot) (H : Heap) (locs : List Loc), lv_has ls 9 [(0, .ref h), (1, .int (iI cnt)), (2, .int (iI (cnt / 30))), (3, .int (iI (cnt % 30))), (4, .int (iI (min (k + cnt / 30 + 1) 224))), (5, .int (iI i))] → va_P D classes [(h, .inr (0, [.ref a, .int (iI k)])), (a, .inl (E.1, 224, .inl (ia g1)))] H → va_D A [(h, .inr (0, [.ref a, .int (iI k)])), (a, .inl (E.1, 224, .inl (ia g1)))] → va_S A s.heap H locs → W p l e (rmK 1 0 0 30) s m args below meth c H locs 0 0 Q (F0 m 44 ls []) := by
    intro fuel44
    induction fuel44 with
    | zero =>
      intro i g1 hc0 hk0 hi hu hlo hf44 ls H locs hl hP hD hS
      exfalso; omega
    | succ fuel44 ih44 =>
      intro i g1 hc0 hk0 hi hu hlo hf44 ls H locs hl hP hD hS
      have hk := hN.k
      have hb1 := lgx_bd hN.2.1 (i - cnt / 30)
      have hb2 := lgx_bd hN.2.1 (i - cnt / 30 - 1)
      have hq1 : lgx g1 k (i - cnt / 30) = lgx g k (i - cnt / 30) := lgx_keep (fun _ => hlo _ (by omega))
      have hq2 : lgx g1 k (i - cnt / 30 - 1) = lgx g k (i - cnt / 30 - 1) := lgx_keep (fun _ => hlo _ (by omega))
      have hs2 := sd_small (p := cnt % 30) (by omega) hb2
      have hpp := P2_pos (cnt % 30)
      refine lv_iload hx hb d_Natural_shiftLeft_44 (lv_at hl 5 rfl) ?_
      refine wi_if_lt (tgt := 103) hx hb d_Natural_shiftLeft_46 (by decide) (by omega) (fun c_1 => ?_) (fun c_1 => ?_)
      · skip
        obtain ⟨hD9, hV9⟩ := sl_val hN hk0 (w := cnt / 30) (p := cnt % 30) (by omega) (by omega) (by omega) hf1 rfl (g1 := g1) (fun j h1 h2 => hu j (by omega) h2)
        refine lv_aload_n hx hb d_Natural_shiftLeft_103 rfl (lv_at hl 0 rfl) ?_
        refine lv_iload hx hb d_Natural_shiftLeft_104 (lv_at hl 4 rfl) ?_
        refine wk_callV (As := [.int (iI (min (k + cnt / 30 + 1) 224))]) (rest := []) (wr := []) B gTB cl_Natural_41 (c_Natural_trim l D E h a g1 k (min (k + cnt / 30 + 1) 224) (by omega) (hD9)) ⟨⟨rfl, rfl⟩, Nat.le_of_ble_eq_true rfl, Nat.le_of_ble_eq_true rfl⟩ hP hD hS [0, 1] [] rfl rfl (by decide) 0 rfl rfl rfl ⟨hl.2.1, hl.1⟩ rfl (Nat.le_of_ble_eq_true rfl) d_Natural_shiftLeft_106 ⟨Nat.le_of_ble_eq_true rfl, Nat.le_of_ble_eq_true rfl⟩ rfl (fun k2_2 H locs hw hP hD hS => ?_)
        have hP : va_P D classes [(h, .inr (0, [.ref a, .int (iI k2_2)])), (a, .inl (E.1, 224, .inl (ia g1)))] H := hP
        have hD : va_D A [(h, .inr (0, [.ref a, .int (iI k2_2)])), (a, .inl (E.1, 224, .inl (ia g1)))] := hD
        have hw : (NatOK g1 k2_2 (NV g1 (min (k + cnt / 30 + 1) 224))) := hw
        have hM_3 := hw
        refine W.cs (g := F0 m 109 ls []) (cells' := 0) (slots' := 0) rfl rfl ?_
        exact ret (g1, k2_2) _ _ _ _ d_Natural_shiftLeft_109 (show (NatOK g1 k2_2 (v * P2 cnt)) from (by rw [← hV9]; exact hM_3)) (hP.sub [0, 1] rfl) (hD.sub [0, 1] (by decide) rfl) hS
      · skip
        refine lv_aload_n hx hb d_Natural_shiftLeft_49 rfl (lv_at hl 0 rfl) ?_
        refine lv_iload hx hb d_Natural_shiftLeft_50 (lv_at hl 5 rfl) ?_
        refine lv_iload_n hx hb d_Natural_shiftLeft_52 rfl (lv_at hl 2 rfl) ?_
        refine wi_isub hx hb d_Natural_shiftLeft_53 ?_
        refine wk_callV (As := [.int (iI (i - (cnt / 30)))]) (rest := []) (wr := []) B gTB cl_Natural_21 (c_Natural_limb l D E h a g1 k (i - (cnt / 30)) (hk) (by omega)) ⟨⟨rfl, rfl⟩, Nat.le_of_ble_eq_true rfl, Nat.le_of_ble_eq_true rfl⟩ hP hD hS [0, 1] [] rfl rfl (by decide) 0 rfl rfl rfl ⟨hl.2.1, hl.1⟩ rfl (Nat.le_of_ble_eq_true rfl) d_Natural_shiftLeft_54 ⟨Nat.le_of_ble_eq_true rfl, Nat.le_of_ble_eq_true rfl⟩ rfl (fun r_4 H locs hw hP hD hS => ?_)
        have hP : va_P D classes [(h, .inr (0, [.ref a, .int (iI k)])), (a, .inl (E.1, 224, .inl (ia g1)))] H := hP
        have hD : va_D A [(h, .inr (0, [.ref a, .int (iI k)])), (a, .inl (E.1, 224, .inl (ia g1)))] := hD
        have hw : (r_4 = lgx g1 k (i - (cnt / 30))) := hw
        have hr_5 := hw
        refine W.cs (g := F0 m 57 ls [.int (iI r_4)]) (cells' := 0) (slots' := 0) rfl rfl ?_
        subst hr_5
        refine w_eqi (y := lgx g k (i - cnt / 30)) (hq1) ?_
        refine W.eq (g2 := F0 m 57 ls [.int (iI (lgx g k (i - cnt / 30)))]) rfl ?_
        refine wi_i2l hx hb (by omega) d_Natural_shiftLeft_57 ?_
        refine lv_iload_n hx hb d_Natural_shiftLeft_58 rfl (lv_at hl 3 rfl) ?_
        refine wi_lshl hx hb ((cnt % 30).toNat) (P2 (cnt % 30)) (rfl) (by omega) (by omega) d_Natural_shiftLeft_59 ?_
        refine lv_lstore (lv' := [(6, .long (lI ((lgx g k (i - cnt / 30)) * (P2 (cnt % 30))))), (0, .ref h), (1, .int (iI cnt)), (2, .int (iI (cnt / 30))), (3, .int (iI (cnt % 30))), (4, .int (iI (min (k + cnt / 30 + 1) 224))), (5, .int (iI i))]) hx hb d_Natural_shiftLeft_60 hl (by decide) rfl (fun ls hl => ?_)
        refine lv_aload_n hx hb d_Natural_shiftLeft_62 rfl (lv_at hl 1 rfl) ?_
        refine lv_iload hx hb d_Natural_shiftLeft_63 (lv_at hl 6 rfl) ?_
        refine lv_iload_n hx hb d_Natural_shiftLeft_65 rfl (lv_at hl 3 rfl) ?_
        refine wi_isub hx hb d_Natural_shiftLeft_66 ?_
        refine wi_iconst (n := 1) hx hb d_Natural_shiftLeft_67 ?_
        refine wi_isub hx hb d_Natural_shiftLeft_68 ?_
        refine wk_callV (As := [.int (iI (i - (cnt / 30) - 1))]) (rest := []) (wr := []) B gTB cl_Natural_21 (c_Natural_limb l D E h a g1 k (i - (cnt / 30) - 1) (hk) (by omega)) ⟨⟨rfl, rfl⟩, Nat.le_of_ble_eq_true rfl, Nat.le_of_ble_eq_true rfl⟩ hP hD hS [0, 1] [] rfl rfl (by decide) 0 rfl rfl rfl ⟨hl.2.1, hl.1⟩ rfl (Nat.le_of_ble_eq_true rfl) d_Natural_shiftLeft_69 ⟨Nat.le_of_ble_eq_true rfl, Nat.le_of_ble_eq_true rfl⟩ rfl (fun r_6 H locs hw hP hD hS => ?_)
        have hP : va_P D classes [(h, .inr (0, [.ref a, .int (iI k)])), (a, .inl (E.1, 224, .inl (ia g1)))] H := hP
        have hD : va_D A [(h, .inr (0, [.ref a, .int (iI k)])), (a, .inl (E.1, 224, .inl (ia g1)))] := hD
        have hw : (r_6 = lgx g1 k (i - (cnt / 30) - 1)) := hw
        have hr_7 := hw
        refine W.cs (g := F0 m 72 ls [.int (iI r_6)]) (cells' := 0) (slots' := 0) rfl rfl ?_
        subst hr_7
        refine w_eqi (y := lgx g k (i - cnt / 30 - 1)) (hq2) ?_
        refine W.eq (g2 := F0 m 72 ls [.int (iI (lgx g k (i - cnt / 30 - 1)))]) rfl ?_
        refine wi_bipush hx hb d_Natural_shiftLeft_72 (by decide) ?_
        refine lv_iload_n hx hb d_Natural_shiftLeft_74 rfl (lv_at hl 4 rfl) ?_
        refine wi_isub hx hb d_Natural_shiftLeft_75 ?_
        refine wi_ishr hx hb ((30 - cnt % 30).toNat) (P2 (30 - cnt % 30)) (rfl) (by omega) (by omega) (by omega) d_Natural_shiftLeft_76 ?_
        refine lv_istore (lv' := [(8, .int (iI ((lgx g k (i - cnt / 30 - 1)) / (P2 (30 - cnt % 30))))), (6, .long (lI ((lgx g k (i - cnt / 30)) * (P2 (cnt % 30))))), (0, .ref h), (1, .int (iI cnt)), (2, .int (iI (cnt / 30))), (3, .int (iI (cnt % 30))), (4, .int (iI (min (k + cnt / 30 + 1) 224))), (5, .int (iI i))]) hx hb d_Natural_shiftLeft_77 hl (by decide) rfl (fun ls hl => ?_)
        refine lv_aload_n hx hb d_Natural_shiftLeft_79 rfl (lv_at hl 2 rfl) ?_
        refine wk_get B hP 0 rfl fl_Natural_9 (v := .ref a) rfl d_Natural_shiftLeft_80 ?_
        refine lv_iload hx hb d_Natural_shiftLeft_83 (lv_at hl 7 rfl) ?_
        refine lv_lload hx hb d_Natural_shiftLeft_85 (lv_at hl 1 rfl) ?_
        refine lv_iload hx hb d_Natural_shiftLeft_87 (lv_at hl 0 rfl) ?_
        refine wi_i2l hx hb (by have := sl_rng hs2 (show 0 ≤ cnt % 30 ∧ cnt % 30 < 30 by omega); omega) d_Natural_shiftLeft_89 ?_
        refine wi_lor hx hb ((cnt % 30).toNat) (lgx g k (i - cnt / 30)) (rfl) (hs2) d_Natural_shiftLeft_90 ?_
        refine wi_ldc2 hx hb 1073741823 hown (tb_h hts tw_Natural_constantLong_19) (by decide) d_Natural_shiftLeft_91 ?_
        refine wi_lmask hx hb 30 1073741824 (by decide +kernel) (by decide) (by decide) d_Natural_shiftLeft_94 ?_
        refine wi_l2i hx hb d_Natural_shiftLeft_95 ?_
        refine wi_iast hx hb hK hP hD hS 1 0 rfl rfl (by omega) (by omega) d_Natural_shiftLeft_96 (fun H locs hP hD hS => ?_)
        have hP : va_P D classes [(h, .inr (0, [.ref a, .int (iI k)])), (a, .inl (E.1, 224, .inl (ia (upZ g1 i (((lgx g k (i - cnt / 30)) * (P2 (cnt % 30)) + ((lgx g k (i - cnt / 30 - 1)) / (P2 (30 - cnt % 30)))) % 1073741824)))))] H := hP
        have hD : va_D A [(h, .inr (0, [.ref a, .int (iI k)])), (a, .inl (E.1, 224, .inl (ia (upZ g1 i (((lgx g k (i - cnt / 30)) * (P2 (cnt % 30)) + ((lgx g k (i - cnt / 30 - 1)) / (P2 (30 - cnt % 30)))) % 1073741824)))))] := hD
        refine wi_iinc (v := i + (-1)) (lv' := [(5, .int (iI (i + (-1)))), (8, .int (iI ((lgx g k (i - cnt / 30 - 1)) / (P2 (30 - cnt % 30))))), (6, .long (lI ((lgx g k (i - cnt / 30)) * (P2 (cnt % 30))))), (0, .ref h), (1, .int (iI cnt)), (2, .int (iI (cnt / 30))), (3, .int (iI (cnt % 30))), (4, .int (iI (min (k + cnt / 30 + 1) 224)))]) hx hb d_Natural_shiftLeft_97 hl (k := 7) rfl rfl (by decide) rfl (fun ls hl => ?_)
        refine lv_goto (tgt := 44) hx hb d_Natural_shiftLeft_100 (by decide) ?_
        exact ih44 (i + (-1)) (upZ g1 i (((lgx g k (i - cnt / 30)) * (P2 (cnt % 30)) + ((lgx g k (i - cnt / 30 - 1)) / (P2 (30 - cnt % 30)))) % 1073741824)) (hc0) (hk0) (by omega) (fun j h1 h2 => if z : j = i then (by rw [z, upZ_s]; rfl) else (by rw [upZ_n z]; exact hu j (by omega) h2)) (fun j h1 => by rw [upZ_n (by omega)]; exact hlo j (by omega)) (by omega) _ _ _ (lv_sub hl [3, 4, 5, 6, 7, 0] rfl) (hP.sub [0, 1] rfl) (hD.sub [0, 1] (by decide) rfl) hS
  refine lv_iload_n hx hb d_Natural_shiftLeft_0 rfl (lv_at hl 1 rfl) ?_
  refine wi_if_le (tgt := 11) hx hb d_Natural_shiftLeft_1 (by decide) (by omega) (fun c_8 => ?_) (fun c_8 => ?_)
  · skip
    exact ret (g, k) _ _ _ _ d_Natural_shiftLeft_11 (show (NatOK g k (v * P2 cnt)) from (sl_none hN (by omega))) (hP.sub [0, 1] rfl) (hD.sub [0, 1] (by decide) rfl) hS
  · skip
    refine lv_aload_n hx hb d_Natural_shiftLeft_4 rfl (lv_at hl 0 rfl) ?_
    refine wk_get B hP 0 rfl fl_Natural_15 (v := .int (iI k)) rfl d_Natural_shiftLeft_5 ?_
    refine wi_if_ne (tgt := 12) hx hb d_Natural_shiftLeft_8 (by decide) (by omega) (fun c_9 => ?_) (fun c_9 => ?_)
    · skip
      refine lv_iload_n hx hb d_Natural_shiftLeft_12 rfl (lv_at hl 1 rfl) ?_
      refine wi_bipush hx hb d_Natural_shiftLeft_13 (by decide) ?_
      refine wi_idiv hx hb d_Natural_shiftLeft_15 (by omega) (by omega) ?_
      refine lv_istore_n (lv' := [(2, .int (iI (cnt / 30))), (0, .ref h), (1, .int (iI cnt))]) hx hb d_Natural_shiftLeft_16 rfl hl (by decide) rfl (fun ls hl => ?_)
      refine lv_iload_n hx hb d_Natural_shiftLeft_17 rfl (lv_at hl 2 rfl) ?_
      refine wi_bipush hx hb d_Natural_shiftLeft_18 (by decide) ?_
      refine wi_irem hx hb d_Natural_shiftLeft_20 (by omega) (by omega) ?_
      refine lv_istore_n (lv' := [(3, .int (iI (cnt % 30))), (2, .int (iI (cnt / 30))), (0, .ref h), (1, .int (iI cnt))]) hx hb d_Natural_shiftLeft_21 rfl hl (by decide) rfl (fun ls hl => ?_)
      refine lv_aload_n hx hb d_Natural_shiftLeft_22 rfl (lv_at hl 2 rfl) ?_
      refine wk_get B hP 0 rfl fl_Natural_15 (v := .int (iI k)) rfl d_Natural_shiftLeft_23 ?_
      refine lv_iload_n hx hb d_Natural_shiftLeft_26 rfl (lv_at hl 1 rfl) ?_
      refine wi_iadd hx hb d_Natural_shiftLeft_27 ?_
      refine wi_iconst (n := 1) hx hb d_Natural_shiftLeft_28 ?_
      refine wi_iadd hx hb d_Natural_shiftLeft_29 ?_
      refine wi_sipush hx hb d_Natural_shiftLeft_30 (by decide) ?_
      refine wi_mmin hx hb hown (hml.trans hl.1.symm) (tb_h hts tm_Natural_28.1) (tb_h hts tm_Natural_28.2.1) (tb_h hts tm_Natural_28.2.2.1) (tb_h hts tm_Natural_28.2.2.2) (Nat.le_of_ble_eq_true rfl) (Nat.le_of_ble_eq_true rfl) ⟨Nat.le_of_ble_eq_true rfl, Nat.le_of_ble_eq_true rfl⟩ (by omega) (by omega) d_Natural_shiftLeft_33 ?_
      refine lv_istore (lv' := [(4, .int (iI (min (k + (cnt / 30) + 1) 224))), (3, .int (iI (cnt % 30))), (2, .int (iI (cnt / 30))), (0, .ref h), (1, .int (iI cnt))]) hx hb d_Natural_shiftLeft_36 hl (by decide) rfl (fun ls hl => ?_)
      refine lv_iload hx hb d_Natural_shiftLeft_38 (lv_at hl 0 rfl) ?_
      refine wi_iconst (n := 1) hx hb d_Natural_shiftLeft_40 ?_
      refine wi_isub hx hb d_Natural_shiftLeft_41 ?_
      refine lv_istore (lv' := [(5, .int (iI (min (k + (cnt / 30) + 1) 224 - 1))), (4, .int (iI (min (k + (cnt / 30) + 1) 224))), (3, .int (iI (cnt % 30))), (2, .int (iI (cnt / 30))), (0, .ref h), (1, .int (iI cnt))]) hx hb d_Natural_shiftLeft_42 hl (by decide) rfl (fun ls hl => ?_)
      exact K_44 (((min (k + (cnt / 30) + 1) 224 - 1) + 1 : Int).toNat + 1) (min (k + (cnt / 30) + 1) 224 - 1) g (by omega) (by omega) (by omega) (fun j h1 h2 => by omega) (fun _ _ => rfl) (by omega) _ _ _ (lv_sub hl [4, 5, 3, 2, 1, 0] rfl) (hP.sub [0, 1] rfl) (hD.sub [0, 1] (by decide) rfl) hS
    · skip
      exact ret (g, k) _ _ _ _ d_Natural_shiftLeft_11 (show (NatOK g k (v * P2 cnt)) from (sl_none hN (by omega))) (hP.sub [0, 1] rfl) (hD.sub [0, 1] (by decide) rfl) hS
