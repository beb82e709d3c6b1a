/-! Arithmetic.divide -/
abbrev b_Arithmetic_divide : ByteArray := prog_2_method_4_code
def y_Arithmetic_divide : MethodName := ⟨"IntervalText$Arithmetic", "divide", "(LIntervalText$Ratio;I)V"⟩
theorem d_Arithmetic_divide_0 : decode b_Arithmetic_divide 0 = .ok (.aload_n 0, 1) := by decide +kernel
theorem d_Arithmetic_divide_1 : decode b_Arithmetic_divide 1 = .ok (.getfield 12, 3) := by decide +kernel
theorem d_Arithmetic_divide_4 : decode b_Arithmetic_divide 4 = .ok (.aload_n 1, 1) := by decide +kernel
theorem d_Arithmetic_divide_5 : decode b_Arithmetic_divide 5 = .ok (.getfield 39, 3) := by decide +kernel
theorem d_Arithmetic_divide_8 : decode b_Arithmetic_divide 8 = .ok (.invokevirtual 64, 3) := by decide +kernel
theorem d_Arithmetic_divide_11 : decode b_Arithmetic_divide 11 = .ok (.aload_n 0, 1) := by decide +kernel
theorem d_Arithmetic_divide_12 : decode b_Arithmetic_divide 12 = .ok (.getfield 18, 3) := by decide +kernel
theorem d_Arithmetic_divide_15 : decode b_Arithmetic_divide 15 = .ok (.aload_n 1, 1) := by decide +kernel
theorem d_Arithmetic_divide_16 : decode b_Arithmetic_divide 16 = .ok (.getfield 42, 3) := by decide +kernel
theorem d_Arithmetic_divide_19 : decode b_Arithmetic_divide 19 = .ok (.invokevirtual 64, 3) := by decide +kernel
theorem d_Arithmetic_divide_22 : decode b_Arithmetic_divide 22 = .ok (.aload_n 0, 1) := by decide +kernel
theorem d_Arithmetic_divide_23 : decode b_Arithmetic_divide 23 = .ok (.getfield 12, 3) := by decide +kernel
theorem d_Arithmetic_divide_26 : decode b_Arithmetic_divide 26 = .ok (.aload_n 1, 1) := by decide +kernel
theorem d_Arithmetic_divide_27 : decode b_Arithmetic_divide 27 = .ok (.getfield 49, 3) := by decide +kernel
theorem d_Arithmetic_divide_30 : decode b_Arithmetic_divide 30 = .ok (.iload_n 2, 1) := by decide +kernel
theorem d_Arithmetic_divide_31 : decode b_Arithmetic_divide 31 = .ok (.isub, 1) := by decide +kernel
theorem d_Arithmetic_divide_32 : decode b_Arithmetic_divide 32 = .ok (.invokevirtual 56, 3) := by decide +kernel
theorem d_Arithmetic_divide_35 : decode b_Arithmetic_divide 35 = .ok (.aload_n 0, 1) := by decide +kernel
theorem d_Arithmetic_divide_36 : decode b_Arithmetic_divide 36 = .ok (.getfield 18, 3) := by decide +kernel
theorem d_Arithmetic_divide_39 : decode b_Arithmetic_divide 39 = .ok (.iload_n 2, 1) := by decide +kernel
theorem d_Arithmetic_divide_40 : decode b_Arithmetic_divide 40 = .ok (.aload_n 1, 1) := by decide +kernel
theorem d_Arithmetic_divide_41 : decode b_Arithmetic_divide 41 = .ok (.getfield 49, 3) := by decide +kernel
theorem d_Arithmetic_divide_44 : decode b_Arithmetic_divide 44 = .ok (.isub, 1) := by decide +kernel
theorem d_Arithmetic_divide_45 : decode b_Arithmetic_divide 45 = .ok (.invokevirtual 56, 3) := by decide +kernel
theorem d_Arithmetic_divide_48 : decode b_Arithmetic_divide 48 = .ok (.aload_n 0, 1) := by decide +kernel
theorem d_Arithmetic_divide_49 : decode b_Arithmetic_divide 49 = .ok (.invokevirtual 68, 3) := by decide +kernel
theorem d_Arithmetic_divide_52 : decode b_Arithmetic_divide 52 = .ok (.aload_n 0, 1) := by decide +kernel
theorem d_Arithmetic_divide_53 : decode b_Arithmetic_divide 53 = .ok (.getfield 18, 3) := by decide +kernel
theorem d_Arithmetic_divide_56 : decode b_Arithmetic_divide 56 = .ok (.aload_n 0, 1) := by decide +kernel
theorem d_Arithmetic_divide_57 : decode b_Arithmetic_divide 57 = .ok (.getfield 18, 3) := by decide +kernel
theorem d_Arithmetic_divide_60 : decode b_Arithmetic_divide 60 = .ok (.getfield 71, 3) := by decide +kernel
theorem d_Arithmetic_divide_63 : decode b_Arithmetic_divide 63 = .ok (.iconst 1, 1) := by decide +kernel
theorem d_Arithmetic_divide_64 : decode b_Arithmetic_divide 64 = .ok (.isub, 1) := by decide +kernel
theorem d_Arithmetic_divide_65 : decode b_Arithmetic_divide 65 = .ok (.invokevirtual 74, 3) := by decide +kernel
theorem d_Arithmetic_divide_68 : decode b_Arithmetic_divide 68 = .ok (.i2l, 1) := by decide +kernel
theorem d_Arithmetic_divide_69 : decode b_Arithmetic_divide 69 = .ok (.lconst 1, 1) := by decide +kernel
theorem d_Arithmetic_divide_70 : decode b_Arithmetic_divide 70 = .ok (.ladd, 1) := by decide +kernel
theorem d_Arithmetic_divide_71 : decode b_Arithmetic_divide 71 = .ok (.lstore_n 3, 1) := by decide +kernel
theorem d_Arithmetic_divide_72 : decode b_Arithmetic_divide 72 = .ok (.aload_n 0, 1) := by decide +kernel
theorem d_Arithmetic_divide_73 : decode b_Arithmetic_divide 73 = .ok (.lconst 0, 1) := by decide +kernel
theorem d_Arithmetic_divide_74 : decode b_Arithmetic_divide 74 = .ok (.putfield 21, 3) := by decide +kernel
theorem d_Arithmetic_divide_77 : decode b_Arithmetic_divide 77 = .ok (.aload_n 0, 1) := by decide +kernel
theorem d_Arithmetic_divide_78 : decode b_Arithmetic_divide 78 = .ok (.getfield 12, 3) := by decide +kernel
theorem d_Arithmetic_divide_81 : decode b_Arithmetic_divide 81 = .ok (.getfield 71, 3) := by decide +kernel
theorem d_Arithmetic_divide_84 : decode b_Arithmetic_divide 84 = .ok (.aload_n 0, 1) := by decide +kernel
theorem d_Arithmetic_divide_85 : decode b_Arithmetic_divide 85 = .ok (.getfield 18, 3) := by decide +kernel
theorem d_Arithmetic_divide_88 : decode b_Arithmetic_divide 88 = .ok (.getfield 71, 3) := by decide +kernel
theorem d_Arithmetic_divide_91 : decode b_Arithmetic_divide 91 = .ok (.isub, 1) := by decide +kernel
theorem d_Arithmetic_divide_92 : decode b_Arithmetic_divide 92 = .ok (.istore 5, 2) := by decide +kernel
theorem d_Arithmetic_divide_94 : decode b_Arithmetic_divide 94 = .ok (.iload 5, 2) := by decide +kernel
theorem d_Arithmetic_divide_96 : decode b_Arithmetic_divide 96 = .ok (.ifCond .lt 145, 3) := by decide +kernel
theorem d_Arithmetic_divide_99 : decode b_Arithmetic_divide 99 = .ok (.aload_n 0, 1) := by decide +kernel
theorem d_Arithmetic_divide_100 : decode b_Arithmetic_divide 100 = .ok (.getfield 18, 3) := by decide +kernel
theorem d_Arithmetic_divide_103 : decode b_Arithmetic_divide 103 = .ok (.getfield 71, 3) := by decide +kernel
theorem d_Arithmetic_divide_106 : decode b_Arithmetic_divide 106 = .ok (.iload 5, 2) := by decide +kernel
theorem d_Arithmetic_divide_108 : decode b_Arithmetic_divide 108 = .ok (.iadd, 1) := by decide +kernel
theorem d_Arithmetic_divide_109 : decode b_Arithmetic_divide 109 = .ok (.istore 6, 2) := by decide +kernel
theorem d_Arithmetic_divide_111 : decode b_Arithmetic_divide 111 = .ok (.aload_n 0, 1) := by decide +kernel
theorem d_Arithmetic_divide_112 : decode b_Arithmetic_divide 112 = .ok (.getfield 12, 3) := by decide +kernel
theorem d_Arithmetic_divide_115 : decode b_Arithmetic_divide 115 = .ok (.iload 6, 2) := by decide +kernel
theorem d_Arithmetic_divide_117 : decode b_Arithmetic_divide 117 = .ok (.invokevirtual 74, 3) := by decide +kernel
theorem d_Arithmetic_divide_120 : decode b_Arithmetic_divide 120 = .ok (.i2l, 1) := by decide +kernel
theorem d_Arithmetic_divide_121 : decode b_Arithmetic_divide 121 = .ok (.bipush 30, 2) := by decide +kernel
theorem d_Arithmetic_divide_123 : decode b_Arithmetic_divide 123 = .ok (.lshl, 1) := by decide +kernel
theorem d_Arithmetic_divide_124 : decode b_Arithmetic_divide 124 = .ok (.aload_n 0, 1) := by decide +kernel
theorem d_Arithmetic_divide_125 : decode b_Arithmetic_divide 125 = .ok (.getfield 12, 3) := by decide +kernel
theorem d_Arithmetic_divide_128 : decode b_Arithmetic_divide 128 = .ok (.iload 6, 2) := by decide +kernel
theorem d_Arithmetic_divide_130 : decode b_Arithmetic_divide 130 = .ok (.iconst 1, 1) := by decide +kernel
theorem d_Arithmetic_divide_131 : decode b_Arithmetic_divide 131 = .ok (.isub, 1) := by decide +kernel
theorem d_Arithmetic_divide_132 : decode b_Arithmetic_divide 132 = .ok (.invokevirtual 74, 3) := by decide +kernel
theorem d_Arithmetic_divide_135 : decode b_Arithmetic_divide 135 = .ok (.i2l, 1) := by decide +kernel
theorem d_Arithmetic_divide_136 : decode b_Arithmetic_divide 136 = .ok (.ladd, 1) := by decide +kernel
theorem d_Arithmetic_divide_137 : decode b_Arithmetic_divide 137 = .ok (.lstore 7, 2) := by decide +kernel
theorem d_Arithmetic_divide_139 : decode b_Arithmetic_divide 139 = .ok (.lload_n 3, 1) := by decide +kernel
theorem d_Arithmetic_divide_140 : decode b_Arithmetic_divide 140 = .ok (.lconst 0, 1) := by decide +kernel
theorem d_Arithmetic_divide_141 : decode b_Arithmetic_divide 141 = .ok (.lcmp, 1) := by decide +kernel
theorem d_Arithmetic_divide_142 : decode b_Arithmetic_divide 142 = .ok (.ifCond .le 10, 3) := by decide +kernel
theorem d_Arithmetic_divide_145 : decode b_Arithmetic_divide 145 = .ok (.lload 7, 2) := by decide +kernel
theorem d_Arithmetic_divide_147 : decode b_Arithmetic_divide 147 = .ok (.lload_n 3, 1) := by decide +kernel
theorem d_Arithmetic_divide_148 : decode b_Arithmetic_divide 148 = .ok (.ldiv, 1) := by decide +kernel
theorem d_Arithmetic_divide_149 : decode b_Arithmetic_divide 149 = .ok (.goto 4, 3) := by decide +kernel
theorem d_Arithmetic_divide_152 : decode b_Arithmetic_divide 152 = .ok (.lconst 0, 1) := by decide +kernel
theorem d_Arithmetic_divide_153 : decode b_Arithmetic_divide 153 = .ok (.lstore 9, 2) := by decide +kernel
theorem d_Arithmetic_divide_155 : decode b_Arithmetic_divide 155 = .ok (.aload_n 0, 1) := by decide +kernel
theorem d_Arithmetic_divide_156 : decode b_Arithmetic_divide 156 = .ok (.getfield 12, 3) := by decide +kernel
theorem d_Arithmetic_divide_159 : decode b_Arithmetic_divide 159 = .ok (.aload_n 0, 1) := by decide +kernel
theorem d_Arithmetic_divide_160 : decode b_Arithmetic_divide 160 = .ok (.getfield 18, 3) := by decide +kernel
theorem d_Arithmetic_divide_163 : decode b_Arithmetic_divide 163 = .ok (.lload 9, 2) := by decide +kernel
theorem d_Arithmetic_divide_165 : decode b_Arithmetic_divide 165 = .ok (.iload 5, 2) := by decide +kernel
theorem d_Arithmetic_divide_167 : decode b_Arithmetic_divide 167 = .ok (.invokevirtual 78, 3) := by decide +kernel
theorem d_Arithmetic_divide_170 : decode b_Arithmetic_divide 170 = .ok (.iconst 0, 1) := by decide +kernel
theorem d_Arithmetic_divide_171 : decode b_Arithmetic_divide 171 = .ok (.istore 11, 2) := by decide +kernel
theorem d_Arithmetic_divide_173 : decode b_Arithmetic_divide 173 = .ok (.iload 11, 2) := by decide +kernel
theorem d_Arithmetic_divide_175 : decode b_Arithmetic_divide 175 = .ok (.iconst 3, 1) := by decide +kernel
theorem d_Arithmetic_divide_176 : decode b_Arithmetic_divide 176 = .ok (.if_icmp .ge 45, 3) := by decide +kernel
theorem d_Arithmetic_divide_179 : decode b_Arithmetic_divide 179 = .ok (.aload_n 0, 1) := by decide +kernel
theorem d_Arithmetic_divide_180 : decode b_Arithmetic_divide 180 = .ok (.getfield 12, 3) := by decide +kernel
theorem d_Arithmetic_divide_183 : decode b_Arithmetic_divide 183 = .ok (.aload_n 0, 1) := by decide +kernel
theorem d_Arithmetic_divide_184 : decode b_Arithmetic_divide 184 = .ok (.getfield 18, 3) := by decide +kernel
theorem d_Arithmetic_divide_187 : decode b_Arithmetic_divide 187 = .ok (.iload 5, 2) := by decide +kernel
theorem d_Arithmetic_divide_189 : decode b_Arithmetic_divide 189 = .ok (.invokevirtual 60, 3) := by decide +kernel
theorem d_Arithmetic_divide_192 : decode b_Arithmetic_divide 192 = .ok (.ifCond .lt 29, 3) := by decide +kernel
theorem d_Arithmetic_divide_195 : decode b_Arithmetic_divide 195 = .ok (.aload_n 0, 1) := by decide +kernel
theorem d_Arithmetic_divide_196 : decode b_Arithmetic_divide 196 = .ok (.getfield 12, 3) := by decide +kernel
theorem d_Arithmetic_divide_199 : decode b_Arithmetic_divide 199 = .ok (.aload_n 0, 1) := by decide +kernel
theorem d_Arithmetic_divide_200 : decode b_Arithmetic_divide 200 = .ok (.getfield 18, 3) := by decide +kernel
theorem d_Arithmetic_divide_203 : decode b_Arithmetic_divide 203 = .ok (.lconst 1, 1) := by decide +kernel
theorem d_Arithmetic_divide_204 : decode b_Arithmetic_divide 204 = .ok (.iload 5, 2) := by decide +kernel
theorem d_Arithmetic_divide_206 : decode b_Arithmetic_divide 206 = .ok (.invokevirtual 78, 3) := by decide +kernel
theorem d_Arithmetic_divide_209 : decode b_Arithmetic_divide 209 = .ok (.lload 9, 2) := by decide +kernel
theorem d_Arithmetic_divide_211 : decode b_Arithmetic_divide 211 = .ok (.lconst 1, 1) := by decide +kernel
theorem d_Arithmetic_divide_212 : decode b_Arithmetic_divide 212 = .ok (.ladd, 1) := by decide +kernel
theorem d_Arithmetic_divide_213 : decode b_Arithmetic_divide 213 = .ok (.lstore 9, 2) := by decide +kernel
theorem d_Arithmetic_divide_215 : decode b_Arithmetic_divide 215 = .ok (.iinc 11 1, 3) := by decide +kernel
theorem d_Arithmetic_divide_218 : decode b_Arithmetic_divide 218 = .ok (.goto (-45), 3) := by decide +kernel
theorem d_Arithmetic_divide_221 : decode b_Arithmetic_divide 221 = .ok (.aload_n 0, 1) := by decide +kernel
theorem d_Arithmetic_divide_222 : decode b_Arithmetic_divide 222 = .ok (.aload_n 0, 1) := by decide +kernel
theorem d_Arithmetic_divide_223 : decode b_Arithmetic_divide 223 = .ok (.getfield 21, 3) := by decide +kernel
theorem d_Arithmetic_divide_226 : decode b_Arithmetic_divide 226 = .ok (.bipush 30, 2) := by decide +kernel
theorem d_Arithmetic_divide_228 : decode b_Arithmetic_divide 228 = .ok (.lshl, 1) := by decide +kernel
theorem d_Arithmetic_divide_229 : decode b_Arithmetic_divide 229 = .ok (.lload 9, 2) := by decide +kernel
theorem d_Arithmetic_divide_231 : decode b_Arithmetic_divide 231 = .ok (.ladd, 1) := by decide +kernel
theorem d_Arithmetic_divide_232 : decode b_Arithmetic_divide 232 = .ok (.putfield 21, 3) := by decide +kernel
theorem d_Arithmetic_divide_235 : decode b_Arithmetic_divide 235 = .ok (.iinc 5 (-1), 3) := by decide +kernel
theorem d_Arithmetic_divide_238 : decode b_Arithmetic_divide 238 = .ok (.goto (-144), 3) := by decide +kernel
theorem d_Arithmetic_divide_241 : decode b_Arithmetic_divide 241 = .ok (.aload_n 0, 1) := by decide +kernel
theorem d_Arithmetic_divide_242 : decode b_Arithmetic_divide 242 = .ok (.aload_n 0, 1) := by decide +kernel
theorem d_Arithmetic_divide_243 : decode b_Arithmetic_divide 243 = .ok (.getfield 12, 3) := by decide +kernel
theorem d_Arithmetic_divide_246 : decode b_Arithmetic_divide 246 = .ok (.getfield 71, 3) := by decide +kernel
theorem d_Arithmetic_divide_249 : decode b_Arithmetic_divide 249 = .ok (.ifCond .le 7, 3) := by decide +kernel
theorem d_Arithmetic_divide_252 : decode b_Arithmetic_divide 252 = .ok (.iconst 1, 1) := by decide +kernel
theorem d_Arithmetic_divide_253 : decode b_Arithmetic_divide 253 = .ok (.goto 4, 3) := by decide +kernel
theorem d_Arithmetic_divide_256 : decode b_Arithmetic_divide 256 = .ok (.iconst 0, 1) := by decide +kernel
theorem d_Arithmetic_divide_257 : decode b_Arithmetic_divide 257 = .ok (.putfield 25, 3) := by decide +kernel
theorem d_Arithmetic_divide_260 : decode b_Arithmetic_divide 260 = .ok (.return_, 1) := by decide +kernel
theorem cl_Arithmetic_64 : CLinkV TB "IntervalText$Arithmetic" 64 "IntervalText$Natural" y_Natural_copy b_Natural_copy 3 none 1 := ⟨⟨tb_t (List.mem_append_right _ (List.mem_append_left _ (List.mem_of_getElem? (l := tables_1_2) (i := 229) rfl))) rfl, tb_t (List.mem_append_left _ (List.mem_of_getElem? (l := tables_1_1) (i := 4) rfl)) rfl, tb_t (List.mem_append_right _ (List.mem_append_left _ (List.mem_of_getElem? (l := tables_1_2) (i := 130) rfl))) rfl, by decide +kernel, by decide +kernel, by decide +kernel⟩, tb_t (List.mem_append_right _ (List.mem_append_left _ (List.mem_of_getElem? (l := tables_1_2) (i := 128) rfl))) rfl, tb_t (List.mem_append_right _ (List.mem_append_left _ (List.mem_of_getElem? (l := tables_1_2) (i := 129) rfl))) rfl⟩
theorem cl_Arithmetic_68 : CLinkV TB "IntervalText$Arithmetic" 68 "IntervalText$Arithmetic" y_Arithmetic_fillTopLimb b_Arithmetic_fillTopLimb 2 none 0 := ⟨⟨tb_t (List.mem_append_right _ (List.mem_append_left _ (List.mem_of_getElem? (l := tables_1_2) (i := 230) rfl))) rfl, tb_t (List.mem_append_left _ (List.mem_of_getElem? (l := tables_1_1) (i := 3) rfl)) rfl, tb_t (List.mem_append_right _ (List.mem_append_left _ (List.mem_of_getElem? (l := tables_1_2) (i := 233) rfl))) rfl, by decide +kernel, by decide +kernel, by decide +kernel⟩, tb_t (List.mem_append_right _ (List.mem_append_left _ (List.mem_of_getElem? (l := tables_1_2) (i := 232) rfl))) rfl, tb_p 14 rfl⟩
theorem cl_Arithmetic_74 : CLinkV TB "IntervalText$Arithmetic" 74 "IntervalText$Natural" y_Natural_limb b_Natural_limb 2 (some .int) 1 := ⟨⟨tb_t (List.mem_append_right _ (List.mem_append_left _ (List.mem_of_getElem? (l := tables_1_2) (i := 234) rfl))) rfl, tb_t (List.mem_append_left _ (List.mem_of_getElem? (l := tables_1_1) (i := 4) rfl)) rfl, tb_t (List.mem_append_right _ (List.mem_append_left _ (List.mem_of_getElem? (l := tables_1_2) (i := 153) rfl))) rfl, by decide +kernel, by decide +kernel, by decide +kernel⟩, tb_t (List.mem_append_right _ (List.mem_append_left _ (List.mem_of_getElem? (l := tables_1_2) (i := 151) rfl))) rfl, tb_t (List.mem_append_right _ (List.mem_append_left _ (List.mem_of_getElem? (l := tables_1_2) (i := 152) rfl))) rfl⟩
theorem cl_Arithmetic_78 : CLinkV TB "IntervalText$Arithmetic" 78 "IntervalText$Natural" y_Natural_minusTimes b_Natural_minusTimes 8 none 3 := ⟨⟨tb_t (List.mem_append_right _ (List.mem_append_left _ (List.mem_of_getElem? (l := tables_1_2) (i := 235) rfl))) rfl, tb_t (List.mem_append_left _ (List.mem_of_getElem? (l := tables_1_1) (i := 4) rfl)) rfl, tb_t (List.mem_append_right _ (List.mem_append_left _ (List.mem_of_getElem? (l := tables_1_2) (i := 192) rfl))) rfl, by decide +kernel, by decide +kernel, by decide +kernel⟩, tb_t (List.mem_append_right _ (List.mem_append_left _ (List.mem_of_getElem? (l := tables_1_2) (i := 190) rfl))) rfl, tb_t (List.mem_append_right _ (List.mem_append_left _ (List.mem_of_getElem? (l := tables_1_2) (i := 191) rfl))) rfl⟩
set_option maxHeartbeats 4000000 in
set_option maxRecDepth 100000 in
theorem c_Arithmetic_divide (l : Launch) (D : va_G) (E : EVt) (h : Nat) (ln : Nat) (la : Nat) (rn : Nat) (ra : Nat) (lg : Int → Int) (rg : Int → Int) (lk : Int) (rk : Int) (quo : Int) (inx : Bool) (h1 : Nat) (tn1 : Nat) (ta1 : Nat) (bn1 : Nat) (ba1 : Nat) (tg1 : Int → Int) (bg1 : Int → Int) (tk1 : Int) (bk1 : Int) (pw1 : Int) (neg1 : Bool) (un : Int) (v : Int) (b : Int) (hT : NatOK tg1 tk1 v) (hB : NatOK bg1 bk1 b) (hb0 : 0 < b) (hun : -100000 ≤ un ∧ un ≤ 100000) (hp1 : -100000 ≤ pw1 ∧ pw1 ≤ 100000) (hfL : v * P2 (pw1 - un) * P2 29 < PB 224) (hfR : b * P2 (un - pw1) < PB 224) (hq : v * P2 (pw1 - un) < b * P2 (un - pw1) * 4611686018427387904) : CT l D classes (tyl E) (EVX E) y_Arithmetic_divide (Cond.code y_Arithmetic_divide b_Arithmetic_divide 12 none :: TB) (rmK 3 0 0 79) 0 0 [.ref h, .ref h1, .int (iI un)] [(h, .inr (2, [.ref ln, .ref rn, .long (lI quo), .int (bI inx)])), (ln, .inr (0, [.ref la, .int (iI lk)])), (la, .inl (E.1, 224, .inl (ia lg))), (rn, .inr (0, [.ref ra, .int (iI rk)])), (ra, .inl (E.1, 224, .inl (ia rg))), (h1, .inr (1, [.ref tn1, .ref bn1, .int (bI neg1), .int (iI pw1)])), (tn1, .inr (0, [.ref ta1, .int (iI tk1)])), (ta1, .inl (E.1, 224, .inl (ia tg1))), (bn1, .inr (0, [.ref ba1, .int (iI bk1)])), (ba1, .inl (E.1, 224, .inl (ia bg1)))] (S := (Int → Int) × (Int → Int) × Int × Int × Int × Bool) (fun u => [(h, .inr (2, [.ref ln, .ref rn, .long (lI u.2.2.2.2.1), .int (bI u.2.2.2.2.2)])), (ln, .inr (0, [.ref la, .int (iI u.2.2.1)])), (la, .inl (E.1, 224, .inl (ia u.1))), (rn, .inr (0, [.ref ra, .int (iI u.2.2.2.1)])), (ra, .inl (E.1, 224, .inl (ia u.2.1))), (h1, .inr (1, [.ref tn1, .ref bn1, .int (bI neg1), .int (iI pw1)])), (tn1, .inr (0, [.ref ta1, .int (iI tk1)])), (ta1, .inl (E.1, 224, .inl (ia tg1))), (bn1, .inr (0, [.ref ba1, .int (iI bk1)])), (ba1, .inl (E.1, 224, .inl (ia bg1)))]) (fun _ => none) (fun u => (u.2.2.2.2.1 = v * P2 (pw1 - un) / (b * P2 (un - pw1))) ∧ (u.2.2.2.2.2 = true ↔ v * P2 (pw1 - un) % (b * P2 (un - pw1)) ≠ 0)) := by
  refine CT.ofv (eok E) (by decide) rfl (Nat.le_of_ble_eq_true rfl) ?_
  intro p e s m args below meth c A Q ls B hmn hP hD hS hl ret
  have B : Bd l D classes (tyl E) (EVX E) p m c b_Arithmetic_divide 12 s args (Cond.code y_Arithmetic_divide b_Arithmetic_divide 12 none :: TB) R_Arithmetic A := B
  obtain ⟨⟨hx, hb, hml, hown, hts⟩, hX, hK, hE, hA⟩ := id B
  have hl : lv_has ls 12 [(0, .ref h), (1, .ref h1), (2, .int (iI un))] := hl
  have hP : va_P D classes [(h, .inr (2, [.ref ln, .ref rn, .long (lI quo), .int (bI inx)])), (ln, .inr (0, [.ref la, .int (iI lk)])), (la, .inl (E.1, 224, .inl (ia lg))), (rn, .inr (0, [.ref ra, .int (iI rk)])), (ra, .inl (E.1, 224, .inl (ia rg))), (h1, .inr (1, [.ref tn1, .ref bn1, .int (bI neg1), .int (iI pw1)])), (tn1, .inr (0, [.ref ta1, .int (iI tk1)])), (ta1, .inl (E.1, 224, .inl (ia tg1))), (bn1, .inr (0, [.ref ba1, .int (iI bk1)])), (ba1, .inl (E.1, 224, .inl (ia bg1)))] s.heap := hP
  have hD : va_D A [(h, .inr (2, [.ref ln, .ref rn, .long (lI quo), .int (bI inx)])), (ln, .inr (0, [.ref la, .int (iI lk)])), (la, .inl (E.1, 224, .inl (ia lg))), (rn, .inr (0, [.ref ra, .int (iI rk)])), (ra, .inl (E.1, 224, .inl (ia rg))), (h1, .inr (1, [.ref tn1, .ref bn1, .int (bI neg1), .int (iI pw1)])), (tn1, .inr (0, [.ref ta1, .int (iI tk1)])), (ta1, .inl (E.1, 224, .inl (ia tg1))), (bn1, .inr (0, [.ref ba1, .int (iI bk1)])), (ba1, .inl (E.1, 224, .inl (ia bg1)))] := hD
  have hL0 := hT.bd.1
  have hpl : v * P2 (pw1 - un) < PB 224 := by have := ft_left (sp := 0) (Int.mul_nonneg hL0 (show 0 ≤ P2 (pw1 - un) by have := P2_pos (pw1 - un); omega)) (by omega) hfL; rw [P2_0, Int.mul_one] at this; exact this
  have K_94 : ∀ (fuel94 : Nat) (sp : Int) (rkf : Int) (up : Int) (qu : Int) (x : Int) (lk9 : Int) (rgf : Int → Int) (lg9 : Int → Int) (hsp : 0 ≤ sp ∧ sp ≤ 29) (hRf : NatOK rgf rkf (b * P2 (un - pw1) * P2 sp)) (htop : P2 (30 * rkf - 1) ≤ b * P2 (un - pw1) * P2 sp) (hL9 : NatOK lg9 lk9 x) (hDV : DVI (v * P2 (pw1 - un) * P2 sp) (b * P2 (un - pw1) * P2 sp) (max up (-1)) qu x) (hup : -224 ≤ up ∧ up ≤ 224) (hf94 : up + 225 < (fuel94 : Int)) (ls : Array Slot) (H : Heap) (locs : List Loc), lv_has ls 12 [(0, .ref h), (1, .ref h1), (2, .int (iI un)), (3, .long (lI (lgx rgf rkf (rkf - 1) + 1))), (5, .int (iI up))] → va_P D classes [(h, .inr (2, [.ref ln, .ref rn, .long (lI qu), .int (bI inx)])), (ln, .inr (0, [.ref la, .int (iI lk9)])), (la, .inl (E.1, 224, .inl (ia lg9))), (rn, .inr (0, [.ref ra, .int (iI rkf)])), (ra, .inl (E.1, 224, .inl (ia rgf))), (h1, .inr (1, [.ref tn1, .ref bn1, .int (bI neg1), .int (iI pw1)])), (tn1, .inr (0, [.ref ta1, .int (iI tk1)])), (ta1, .inl (E.1, 224, .inl (ia tg1))), (bn1, .inr (0, [.ref ba1, .int (iI bk1)])), (ba1, .inl (E.1, 224, .inl (ia bg1)))] H → va_D A [(h, .inr (2, [.ref ln, .ref rn, .long (lI qu), .int (bI inx)])), (ln, .inr (0, [.ref la, .int (iI lk9)])), (la, .inl (E.1, 224, .inl (ia lg9))), (rn, .inr (0, [.ref ra, .int (iI rkf)])), (ra, .inl (E.1, 224, .inl (ia rgf))), (h1, .inr (1, [.ref tn1, .ref bn1, .int (bI neg1), .int (iI pw1)])), (tn1, .inr (0, [.ref ta1, .int (iI tk1)])), (ta1, .inl (E.1, 224, .inl (ia tg1))), (bn1, .inr (0, [.ref ba1, .int (iI bk1)])), (ba1, .inl (E.1, 224, .inl (ia bg1)))] → va_S A s.heap H locs → W p l e (rmK 3 0 0 79) s m args below meth c H locs 0 0 Q (F0 m 94 ls []) := by
    intro fuel94
    induction fuel94 with
    | zero =>
      intro sp rkf up qu x lk9 rgf lg9 hsp hRf htop hL9 hDV hup hf94 ls H locs hl hP hD hS
      exfalso; omega
    | succ fuel94 ih94 =>
      intro sp rkf up qu x lk9 rgf lg9 hsp hRf htop hL9 hDV hup hf94 ls H locs hl hP hD hS
      have hsp0 := P2_pos sp
      have hR0 : 0 < b * P2 (un - pw1) := Int.mul_pos hb0 (P2_pos _)
      have hW : 0 < b * P2 (un - pw1) * P2 sp := Int.mul_pos hR0 hsp0
      have hTq : v * P2 (pw1 - un) * P2 sp < b * P2 (un - pw1) * P2 sp * 4611686018427387904 := by have := Int.mul_lt_mul_of_pos_right hq hsp0; have ee : b * P2 (un - pw1) * 4611686018427387904 * P2 sp = b * P2 (un - pw1) * P2 sp * 4611686018427387904 := (by grind); omega
      have hqb := DVI_q hDV hW hTq
      have hq0 := hDV.2.2
      have hkl := hL9.k
      have hkr := hRf.k
      have hb3 := lgx_bd hRf.2.1 (rkf - 1)
      have K_173 : ∀ (fuel173 : Nat) (i : Int) (t : Int) (y : Int) (lk8 : Int) (lg8 : Int → Int) (hi : 0 ≤ i ∧ i ≤ 3) (hup0 : 0 ≤ up) (ht : 0 ≤ t ∧ t ≤ 1073741824 + i) (hL8 : NatOK lg8 lk8 y) (hxy : x = t * (b * P2 (un - pw1) * P2 sp) * PB up + y) (hyb : y < (4 - i) * ((b * P2 (un - pw1) * P2 sp) * PB up)) (hf173 : 3 - i < (fuel173 : Int)) (ls : Array Slot) (H : Heap) (locs : List Loc), lv_has ls 12 [(0, .ref h), (1, .ref h1), (2, .int (iI un)), (3, .long (lI (lgx rgf rkf (rkf - 1) + 1))), (5, .int (iI up)), (9, .long (lI t)), (11, .int (iI i))] → va_P D classes [(h, .inr (2, [.ref ln, .ref rn, .long (lI qu), .int (bI inx)])), (ln, .inr (0, [.ref la, .int (iI lk8)])), (la, .inl (E.1, 224, .inl (ia lg8))), (rn, .inr (0, [.ref ra, .int (iI rkf)])), (ra, .inl (E.1, 224, .inl (ia rgf))), (h1, .inr (1, [.ref tn1, .ref bn1, .int (bI neg1), .int (iI pw1)])), (tn1, .inr (0, [.ref ta1, .int (iI tk1)])), (ta1, .inl (E.1, 224, .inl (ia tg1))), (bn1, .inr (0, [.ref ba1, .int (iI bk1)])), (ba1, .inl (E.1, 224, .inl (ia bg1)))] H → va_D A [(h, .inr (2, [.ref ln, .ref rn, .long (lI qu), .int (bI inx)])), (ln, .inr (0, [.ref la, .int (iI lk8)])), (la, .inl (E.1, 224, .inl (ia lg8))), (rn, .inr (0, [.ref ra, .int (iI rkf)])), (ra, .inl (E.1, 224, .inl (ia rgf))), (h1, .inr (1, [.ref tn1, .ref bn1, .int (bI neg1), .int (iI pw1)])), (tn1, .inr (0, [.ref ta1, .int (iI tk1)])), (ta1, .inl (E.1, 224, .inl (ia tg1))), (bn1, .inr (0, [.ref ba1, .int (iI bk1)])), (ba1, .inl (E.1, 224, .inl (ia bg1)))] → va_S A s.heap H locs → W p l e (rmK 3 0 0 79) s m args below meth c H locs 0 0 Q (F0 m 173 ls []) := by
        intro fuel173
        induction fuel173 with
        | zero =>
          intro i t y lk8 lg8 hi hup0 ht hL8 hxy hyb hf173 ls H locs hl hP hD hS
          exfalso; omega
        | succ fuel173 ih173 =>
          intro i t y lk8 lg8 hi hup0 ht hL8 hxy hyb hf173 ls H locs hl hP hD hS
          have hDV2 := hDV
          rw [show max up (-1) = up by omega] at hDV2
          have hy0 := hL8.bd.1
          refine lv_iload hx hb d_Arithmetic_divide_173 (lv_at hl 6 rfl) ?_
          refine wi_iconst (n := 3) hx hb d_Arithmetic_divide_175 ?_
          refine wi_icmp_ge (tgt := 221) hx hb d_Arithmetic_divide_176 (by decide) (by omega) (by omega) (fun c_1 => ?_) (fun c_1 => ?_)
          · skip
            have hyz := dv_y hyb (by omega) (by omega)
            refine lv_aload_n hx hb d_Arithmetic_divide_221 rfl (lv_at hl 0 rfl) ?_
            refine lv_aload_n hx hb d_Arithmetic_divide_222 rfl (lv_at hl 0 rfl) ?_
            refine wk_get B hP 0 rfl fl_Arithmetic_21 (v := .long (lI qu)) rfl d_Arithmetic_divide_223 ?_
            refine wi_bipush hx hb d_Arithmetic_divide_226 (by decide) ?_
            refine wi_lshl hx hb 30 1073741824 (by decide +kernel) rfl (by decide) d_Arithmetic_divide_228 ?_
            refine lv_lload hx hb d_Arithmetic_divide_229 (lv_at hl 5 rfl) ?_
            refine wi_ladd hx hb d_Arithmetic_divide_231 ?_
            refine wk_put B hP hD hS 0 rfl fl_Arithmetic_21 fp_Arithmetic_2 (v := .long (lI (qu * 1073741824 + t))) rfl rfl (Nat.le_of_ble_eq_true rfl) d_Arithmetic_divide_232 (fun H locs hP hD hS => ?_)
            have hP : va_P D classes [(h, .inr (2, [.ref ln, .ref rn, .long (lI (qu * 1073741824 + t)), .int (bI inx)])), (ln, .inr (0, [.ref la, .int (iI lk8)])), (la, .inl (E.1, 224, .inl (ia lg8))), (rn, .inr (0, [.ref ra, .int (iI rkf)])), (ra, .inl (E.1, 224, .inl (ia rgf))), (h1, .inr (1, [.ref tn1, .ref bn1, .int (bI neg1), .int (iI pw1)])), (tn1, .inr (0, [.ref ta1, .int (iI tk1)])), (ta1, .inl (E.1, 224, .inl (ia tg1))), (bn1, .inr (0, [.ref ba1, .int (iI bk1)])), (ba1, .inl (E.1, 224, .inl (ia bg1)))] H := hP
            have hD : va_D A [(h, .inr (2, [.ref ln, .ref rn, .long (lI (qu * 1073741824 + t)), .int (bI inx)])), (ln, .inr (0, [.ref la, .int (iI lk8)])), (la, .inl (E.1, 224, .inl (ia lg8))), (rn, .inr (0, [.ref ra, .int (iI rkf)])), (ra, .inl (E.1, 224, .inl (ia rgf))), (h1, .inr (1, [.ref tn1, .ref bn1, .int (bI neg1), .int (iI pw1)])), (tn1, .inr (0, [.ref ta1, .int (iI tk1)])), (ta1, .inl (E.1, 224, .inl (ia tg1))), (bn1, .inr (0, [.ref ba1, .int (iI bk1)])), (ba1, .inl (E.1, 224, .inl (ia bg1)))] := hD
            refine wi_iinc (v := up + (-1)) (lv' := [(5, .int (iI (up + (-1)))), (0, .ref h), (1, .ref h1), (2, .int (iI un)), (3, .long (lI (lgx rgf rkf (rkf - 1) + 1))), (9, .long (lI t)), (11, .int (iI i))]) hx hb d_Arithmetic_divide_235 hl (k := 4) rfl rfl (by decide) rfl (fun ls hl => ?_)
            refine lv_goto (tgt := 94) hx hb d_Arithmetic_divide_238 (by decide) ?_
            exact ih94 sp rkf (up + (-1)) (qu * 1073741824 + t) y lk8 rgf lg8 (by omega) (hRf) (by omega) (hL8) (by rw [show max (up + (-1)) (-1) = up - 1 by omega]; exact DVI_s hDV2 hup0 ht.1 hxy ⟨hy0, hyz⟩) (by omega) (by omega) _ _ _ (lv_sub hl [1, 2, 3, 4, 0] rfl) (hP.sub [0, 1, 2, 3, 4, 5, 6, 7, 8, 9] rfl) (hD.sub [0, 1, 2, 3, 4, 5, 6, 7, 8, 9] (by decide) rfl) hS
          · skip
            refine lv_aload_n hx hb d_Arithmetic_divide_179 rfl (lv_at hl 0 rfl) ?_
            refine wk_get B hP 0 rfl fl_Arithmetic_12 (v := .ref ln) rfl d_Arithmetic_divide_180 ?_
            refine lv_aload_n hx hb d_Arithmetic_divide_183 rfl (lv_at hl 0 rfl) ?_
            refine wk_get B hP 0 rfl fl_Arithmetic_18 (v := .ref rn) rfl d_Arithmetic_divide_184 ?_
            refine lv_iload hx hb d_Arithmetic_divide_187 (lv_at hl 4 rfl) ?_
            refine wk_callV (As := [.ref rn, .int (iI up)]) (rest := []) (wr := [(h, .inr (2, [.ref ln, .ref rn, .long (lI qu), .int (bI inx)])), (h1, .inr (1, [.ref tn1, .ref bn1, .int (bI neg1), .int (iI pw1)])), (tn1, .inr (0, [.ref ta1, .int (iI tk1)])), (ta1, .inl (E.1, 224, .inl (ia tg1))), (bn1, .inr (0, [.ref ba1, .int (iI bk1)])), (ba1, .inl (E.1, 224, .inl (ia bg1)))]) B gTB cl_Arithmetic_60 (c_Natural_compareWith l D E ln la lg8 lk8 rn ra rgf rkf up y (b * P2 (un - pw1) * P2 sp) (hL8) (hRf) (by omega) (Or.inr hW)) ⟨⟨rfl, rfl⟩, Nat.le_of_ble_eq_true rfl, Nat.le_of_ble_eq_true rfl⟩ hP hD hS [1, 2, 3, 4] [0, 5, 6, 7, 8, 9] rfl rfl (by decide) 1 rfl rfl rfl ⟨hl.2.1, hl.1⟩ rfl (Nat.le_of_ble_eq_true rfl) d_Arithmetic_divide_189 ⟨Nat.le_of_ble_eq_true rfl, Nat.le_of_ble_eq_true rfl⟩ rfl (fun rc H locs hw hP hD hS => ?_)
            have hP : va_P D classes [(h, .inr (2, [.ref ln, .ref rn, .long (lI qu), .int (bI inx)])), (h1, .inr (1, [.ref tn1, .ref bn1, .int (bI neg1), .int (iI pw1)])), (tn1, .inr (0, [.ref ta1, .int (iI tk1)])), (ta1, .inl (E.1, 224, .inl (ia tg1))), (bn1, .inr (0, [.ref ba1, .int (iI bk1)])), (ba1, .inl (E.1, 224, .inl (ia bg1))), (ln, .inr (0, [.ref la, .int (iI lk8)])), (la, .inl (E.1, 224, .inl (ia lg8))), (rn, .inr (0, [.ref ra, .int (iI rkf)])), (ra, .inl (E.1, 224, .inl (ia rgf)))] H := hP
            have hD : va_D A [(h, .inr (2, [.ref ln, .ref rn, .long (lI qu), .int (bI inx)])), (h1, .inr (1, [.ref tn1, .ref bn1, .int (bI neg1), .int (iI pw1)])), (tn1, .inr (0, [.ref ta1, .int (iI tk1)])), (ta1, .inl (E.1, 224, .inl (ia tg1))), (bn1, .inr (0, [.ref ba1, .int (iI bk1)])), (ba1, .inl (E.1, 224, .inl (ia bg1))), (ln, .inr (0, [.ref la, .int (iI lk8)])), (la, .inl (E.1, 224, .inl (ia lg8))), (rn, .inr (0, [.ref ra, .int (iI rkf)])), (ra, .inl (E.1, 224, .inl (ia rgf)))] := hD
            have hw : (CmpR rc y ((b * P2 (un - pw1) * P2 sp) * PB up)) := hw
            have hcm := hw
            refine W.cs (g := F0 m 192 ls [.int (iI rc)]) (cells' := 0) (slots' := 0) rfl rfl ?_
            have hrr := hcm.1
            refine wi_if_lt (tgt := 221) hx hb d_Arithmetic_divide_192 (by decide) (by omega) (fun c_2 => ?_) (fun c_2 => ?_)
            · skip
              have hyz := hcm.2.1.mp c_2
              refine lv_aload_n hx hb d_Arithmetic_divide_221 rfl (lv_at hl 0 rfl) ?_
              refine lv_aload_n hx hb d_Arithmetic_divide_222 rfl (lv_at hl 0 rfl) ?_
              refine wk_get B hP 0 rfl fl_Arithmetic_21 (v := .long (lI qu)) rfl d_Arithmetic_divide_223 ?_
              refine wi_bipush hx hb d_Arithmetic_divide_226 (by decide) ?_
              refine wi_lshl hx hb 30 1073741824 (by decide +kernel) rfl (by decide) d_Arithmetic_divide_228 ?_
              refine lv_lload hx hb d_Arithmetic_divide_229 (lv_at hl 5 rfl) ?_
              refine wi_ladd hx hb d_Arithmetic_divide_231 ?_
              refine wk_put B hP hD hS 0 rfl fl_Arithmetic_21 fp_Arithmetic_2 (v := .long (lI (qu * 1073741824 + t))) rfl rfl (Nat.le_of_ble_eq_true rfl) d_Arithmetic_divide_232 (fun H locs hP hD hS => ?_)
              have hP : va_P D classes [(h, .inr (2, [.ref ln, .ref rn, .long (lI (qu * 1073741824 + t)), .int (bI inx)])), (h1, .inr (1, [.ref tn1, .ref bn1, .int (bI neg1), .int (iI pw1)])), (tn1, .inr (0, [.ref ta1, .int (iI tk1)])), (ta1, .inl (E.1, 224, .inl (ia tg1))), (bn1, .inr (0, [.ref ba1, .int (iI bk1)])), (ba1, .inl (E.1, 224, .inl (ia bg1))), (ln, .inr (0, [.ref la, .int (iI lk8)])), (la, .inl (E.1, 224, .inl (ia lg8))), (rn, .inr (0, [.ref ra, .int (iI rkf)])), (ra, .inl (E.1, 224, .inl (ia rgf)))] H := hP
              have hD : va_D A [(h, .inr (2, [.ref ln, .ref rn, .long (lI (qu * 1073741824 + t)), .int (bI inx)])), (h1, .inr (1, [.ref tn1, .ref bn1, .int (bI neg1), .int (iI pw1)])), (tn1, .inr (0, [.ref ta1, .int (iI tk1)])), (ta1, .inl (E.1, 224, .inl (ia tg1))), (bn1, .inr (0, [.ref ba1, .int (iI bk1)])), (ba1, .inl (E.1, 224, .inl (ia bg1))), (ln, .inr (0, [.ref la, .int (iI lk8)])), (la, .inl (E.1, 224, .inl (ia lg8))), (rn, .inr (0, [.ref ra, .int (iI rkf)])), (ra, .inl (E.1, 224, .inl (ia rgf)))] := hD
              refine wi_iinc (v := up + (-1)) (lv' := [(5, .int (iI (up + (-1)))), (0, .ref h), (1, .ref h1), (2, .int (iI un)), (3, .long (lI (lgx rgf rkf (rkf - 1) + 1))), (9, .long (lI t)), (11, .int (iI i))]) hx hb d_Arithmetic_divide_235 hl (k := 4) rfl rfl (by decide) rfl (fun ls hl => ?_)
              refine lv_goto (tgt := 94) hx hb d_Arithmetic_divide_238 (by decide) ?_
              exact ih94 sp rkf (up + (-1)) (qu * 1073741824 + t) y lk8 rgf lg8 (by omega) (hRf) (by omega) (hL8) (by rw [show max (up + (-1)) (-1) = up - 1 by omega]; exact DVI_s hDV2 hup0 ht.1 hxy ⟨hy0, hyz⟩) (by omega) (by omega) _ _ _ (lv_sub hl [1, 2, 3, 4, 0] rfl) (hP.sub [0, 6, 7, 8, 9, 1, 2, 3, 4, 5] rfl) (hD.sub [0, 6, 7, 8, 9, 1, 2, 3, 4, 5] (by decide) rfl) hS
            · skip
              refine lv_aload_n hx hb d_Arithmetic_divide_195 rfl (lv_at hl 0 rfl) ?_
              refine wk_get B hP 0 rfl fl_Arithmetic_12 (v := .ref ln) rfl d_Arithmetic_divide_196 ?_
              refine lv_aload_n hx hb d_Arithmetic_divide_199 rfl (lv_at hl 0 rfl) ?_
              refine wk_get B hP 0 rfl fl_Arithmetic_18 (v := .ref rn) rfl d_Arithmetic_divide_200 ?_
              refine wi_lconst (z := 1) hx hb d_Arithmetic_divide_203 (by decide) ?_
              refine lv_iload hx hb d_Arithmetic_divide_204 (lv_at hl 4 rfl) ?_
              refine wk_callV (As := [.ref rn, .long (lI 1), .int (iI up)]) (rest := []) (wr := [(h, .inr (2, [.ref ln, .ref rn, .long (lI qu), .int (bI inx)])), (h1, .inr (1, [.ref tn1, .ref bn1, .int (bI neg1), .int (iI pw1)])), (tn1, .inr (0, [.ref ta1, .int (iI tk1)])), (ta1, .inl (E.1, 224, .inl (ia tg1))), (bn1, .inr (0, [.ref ba1, .int (iI bk1)])), (ba1, .inl (E.1, 224, .inl (ia bg1)))]) B gTB cl_Arithmetic_78 (c_Natural_minusTimes l D E ln la lg8 lk8 rn ra rgf rkf 1 up y (b * P2 (un - pw1) * P2 sp) (hL8) (hRf) (by omega) (by omega) (by rw [Int.one_mul]; have := hcm.2.1; omega)) ⟨⟨rfl, rfl⟩, Nat.le_of_ble_eq_true rfl, Nat.le_of_ble_eq_true rfl⟩ hP hD hS [6, 7, 8, 9] [0, 1, 2, 3, 4, 5] rfl rfl (by decide) 6 rfl rfl rfl ⟨hl.2.1, hl.1⟩ rfl (Nat.le_of_ble_eq_true rfl) d_Arithmetic_divide_206 ⟨Nat.le_of_ble_eq_true rfl, Nat.le_of_ble_eq_true rfl⟩ rfl (fun u H locs hw hP hD hS => ?_)
              obtain ⟨g3_3, k3_4⟩ := u
              have hP : va_P D classes [(h, .inr (2, [.ref ln, .ref rn, .long (lI qu), .int (bI inx)])), (h1, .inr (1, [.ref tn1, .ref bn1, .int (bI neg1), .int (iI pw1)])), (tn1, .inr (0, [.ref ta1, .int (iI tk1)])), (ta1, .inl (E.1, 224, .inl (ia tg1))), (bn1, .inr (0, [.ref ba1, .int (iI bk1)])), (ba1, .inl (E.1, 224, .inl (ia bg1))), (ln, .inr (0, [.ref la, .int (iI k3_4)])), (la, .inl (E.1, 224, .inl (ia g3_3))), (rn, .inr (0, [.ref ra, .int (iI rkf)])), (ra, .inl (E.1, 224, .inl (ia rgf)))] H := hP
              have hD : va_D A [(h, .inr (2, [.ref ln, .ref rn, .long (lI qu), .int (bI inx)])), (h1, .inr (1, [.ref tn1, .ref bn1, .int (bI neg1), .int (iI pw1)])), (tn1, .inr (0, [.ref ta1, .int (iI tk1)])), (ta1, .inl (E.1, 224, .inl (ia tg1))), (bn1, .inr (0, [.ref ba1, .int (iI bk1)])), (ba1, .inl (E.1, 224, .inl (ia bg1))), (ln, .inr (0, [.ref la, .int (iI k3_4)])), (la, .inl (E.1, 224, .inl (ia g3_3))), (rn, .inr (0, [.ref ra, .int (iI rkf)])), (ra, .inl (E.1, 224, .inl (ia rgf)))] := hD
              have hw : (NatOK g3_3 k3_4 (y - 1 * (b * P2 (un - pw1) * P2 sp) * PB up)) := hw
              have hO_5 := hw
              refine W.cs (g := F0 m 209 ls []) (cells' := 0) (slots' := 0) rfl rfl ?_
              refine lv_lload hx hb d_Arithmetic_divide_209 (lv_at hl 5 rfl) ?_
              refine wi_lconst (z := 1) hx hb d_Arithmetic_divide_211 (by decide) ?_
              refine wi_ladd hx hb d_Arithmetic_divide_212 ?_
              refine lv_lstore (lv' := [(9, .long (lI (t + 1))), (0, .ref h), (1, .ref h1), (2, .int (iI un)), (3, .long (lI (lgx rgf rkf (rkf - 1) + 1))), (5, .int (iI up)), (11, .int (iI i))]) hx hb d_Arithmetic_divide_213 hl (by decide) rfl (fun ls hl => ?_)
              refine wi_iinc (v := i + 1) (lv' := [(11, .int (iI (i + 1))), (9, .long (lI (t + 1))), (0, .ref h), (1, .ref h1), (2, .int (iI un)), (3, .long (lI (lgx rgf rkf (rkf - 1) + 1))), (5, .int (iI up))]) hx hb d_Arithmetic_divide_215 hl (k := 6) rfl rfl (by decide) rfl (fun ls hl => ?_)
              refine lv_goto (tgt := 173) hx hb d_Arithmetic_divide_218 (by decide) ?_
              exact ih173 (i + 1) (t + 1) (y - 1 * (b * P2 (un - pw1) * P2 sp) * PB up) k3_4 g3_3 (by omega) (by omega) (by omega) (hO_5) (by rw [hxy]; grind) (by have e1 : (4 - (i + 1)) * (b * P2 (un - pw1) * P2 sp * PB up) = (4 - i) * (b * P2 (un - pw1) * P2 sp * PB up) - 1 * (b * P2 (un - pw1) * P2 sp) * PB up := (by grind); omega) (by omega) _ _ _ (lv_sub hl [2, 3, 4, 5, 6, 1, 0] rfl) (hP.sub [0, 6, 7, 8, 9, 1, 2, 3, 4, 5] rfl) (hD.sub [0, 6, 7, 8, 9, 1, 2, 3, 4, 5] (by decide) rfl) hS
      refine lv_iload hx hb d_Arithmetic_divide_94 (lv_at hl 4 rfl) ?_
      refine wi_if_lt (tgt := 241) hx hb d_Arithmetic_divide_96 (by decide) (by omega) (fun c_6 => ?_) (fun c_6 => ?_)
      · skip
        have hen := DVI_end (by rw [show max up (-1) = -1 by omega] at hDV; exact hDV) hW
        have hms := mul_div_same (L := v * P2 (pw1 - un)) hsp0 hR0
        have hz9 := hL9.zero
        have hn9 := hL9.bd
        refine lv_aload_n hx hb d_Arithmetic_divide_241 rfl (lv_at hl 0 rfl) ?_
        refine lv_aload_n hx hb d_Arithmetic_divide_242 rfl (lv_at hl 0 rfl) ?_
        refine wk_get B hP 0 rfl fl_Arithmetic_12 (v := .ref ln) rfl d_Arithmetic_divide_243 ?_
        refine wk_get B hP 1 rfl fl_Arithmetic_71 (v := .int (iI lk9)) rfl d_Arithmetic_divide_246 ?_
        refine wi_if_le (tgt := 256) hx hb d_Arithmetic_divide_249 (by decide) (by omega) (fun c_7 => ?_) (fun c_7 => ?_)
        · skip
          refine wi_iconst (n := 0) hx hb d_Arithmetic_divide_256 ?_
          refine w_as0 ?_
          refine wk_put B hP hD hS 0 rfl fl_Arithmetic_25 fp_Arithmetic_3 (v := .int (bI false)) (bI_nar _) (bI_fit _) (Nat.le_of_ble_eq_true rfl) d_Arithmetic_divide_257 (fun H locs hP hD hS => ?_)
          have hP : va_P D classes [(h, .inr (2, [.ref ln, .ref rn, .long (lI qu), .int (bI false)])), (ln, .inr (0, [.ref la, .int (iI lk9)])), (la, .inl (E.1, 224, .inl (ia lg9))), (rn, .inr (0, [.ref ra, .int (iI rkf)])), (ra, .inl (E.1, 224, .inl (ia rgf))), (h1, .inr (1, [.ref tn1, .ref bn1, .int (bI neg1), .int (iI pw1)])), (tn1, .inr (0, [.ref ta1, .int (iI tk1)])), (ta1, .inl (E.1, 224, .inl (ia tg1))), (bn1, .inr (0, [.ref ba1, .int (iI bk1)])), (ba1, .inl (E.1, 224, .inl (ia bg1)))] H := hP
          have hD : va_D A [(h, .inr (2, [.ref ln, .ref rn, .long (lI qu), .int (bI false)])), (ln, .inr (0, [.ref la, .int (iI lk9)])), (la, .inl (E.1, 224, .inl (ia lg9))), (rn, .inr (0, [.ref ra, .int (iI rkf)])), (ra, .inl (E.1, 224, .inl (ia rgf))), (h1, .inr (1, [.ref tn1, .ref bn1, .int (bI neg1), .int (iI pw1)])), (tn1, .inr (0, [.ref ta1, .int (iI tk1)])), (ta1, .inl (E.1, 224, .inl (ia tg1))), (bn1, .inr (0, [.ref ba1, .int (iI bk1)])), (ba1, .inl (E.1, 224, .inl (ia bg1)))] := hD
          exact ret (lg9, rgf, lk9, rkf, qu, false) _ _ _ _ d_Arithmetic_divide_260 (show (qu = v * P2 (pw1 - un) / (b * P2 (un - pw1))) ∧ (false = true ↔ v * P2 (pw1 - un) % (b * P2 (un - pw1)) ≠ 0) from ⟨by rw [← hms.1]; exact hen.1.symm, by rw [← hms.2, hen.2]; constructor <;> intro z <;> first | omega | rfl | (exfalso; revert z; decide)⟩) (hP.sub [0, 1, 2, 3, 4, 5, 6, 7, 8, 9] rfl) (hD.sub [0, 1, 2, 3, 4, 5, 6, 7, 8, 9] (by decide) rfl) hS
        · skip
          refine wi_iconst (n := 1) hx hb d_Arithmetic_divide_252 ?_
          refine lv_goto (tgt := 257) hx hb d_Arithmetic_divide_253 (by decide) ?_
          refine w_as1 ?_
          refine wk_put B hP hD hS 0 rfl fl_Arithmetic_25 fp_Arithmetic_3 (v := .int (bI true)) (bI_nar _) (bI_fit _) (Nat.le_of_ble_eq_true rfl) d_Arithmetic_divide_257 (fun H locs hP hD hS => ?_)
          have hP : va_P D classes [(h, .inr (2, [.ref ln, .ref rn, .long (lI qu), .int (bI true)])), (ln, .inr (0, [.ref la, .int (iI lk9)])), (la, .inl (E.1, 224, .inl (ia lg9))), (rn, .inr (0, [.ref ra, .int (iI rkf)])), (ra, .inl (E.1, 224, .inl (ia rgf))), (h1, .inr (1, [.ref tn1, .ref bn1, .int (bI neg1), .int (iI pw1)])), (tn1, .inr (0, [.ref ta1, .int (iI tk1)])), (ta1, .inl (E.1, 224, .inl (ia tg1))), (bn1, .inr (0, [.ref ba1, .int (iI bk1)])), (ba1, .inl (E.1, 224, .inl (ia bg1)))] H := hP
          have hD : va_D A [(h, .inr (2, [.ref ln, .ref rn, .long (lI qu), .int (bI true)])), (ln, .inr (0, [.ref la, .int (iI lk9)])), (la, .inl (E.1, 224, .inl (ia lg9))), (rn, .inr (0, [.ref ra, .int (iI rkf)])), (ra, .inl (E.1, 224, .inl (ia rgf))), (h1, .inr (1, [.ref tn1, .ref bn1, .int (bI neg1), .int (iI pw1)])), (tn1, .inr (0, [.ref ta1, .int (iI tk1)])), (ta1, .inl (E.1, 224, .inl (ia tg1))), (bn1, .inr (0, [.ref ba1, .int (iI bk1)])), (ba1, .inl (E.1, 224, .inl (ia bg1)))] := hD
          exact ret (lg9, rgf, lk9, rkf, qu, true) _ _ _ _ d_Arithmetic_divide_260 (show (qu = v * P2 (pw1 - un) / (b * P2 (un - pw1))) ∧ (true = true ↔ v * P2 (pw1 - un) % (b * P2 (un - pw1)) ≠ 0) from ⟨by rw [← hms.1]; exact hen.1.symm, by rw [← hms.2, hen.2]; constructor <;> intro z <;> first | omega | rfl | (exfalso; revert z; decide)⟩) (hP.sub [0, 1, 2, 3, 4, 5, 6, 7, 8, 9] rfl) (hD.sub [0, 1, 2, 3, 4, 5, 6, 7, 8, 9] (by decide) rfl) hS
      · skip
        have hDV2 := hDV
        rw [show max up (-1) = up by omega] at hDV2
        have hb1 := lgx_bd hL9.2.1 (rkf + up)
        have hb2 := lgx_bd hL9.2.1 (rkf + up - 1)
        refine lv_aload_n hx hb d_Arithmetic_divide_99 rfl (lv_at hl 0 rfl) ?_
        refine wk_get B hP 0 rfl fl_Arithmetic_18 (v := .ref rn) rfl d_Arithmetic_divide_100 ?_
        refine wk_get B hP 3 rfl fl_Arithmetic_71 (v := .int (iI rkf)) rfl d_Arithmetic_divide_103 ?_
        refine lv_iload hx hb d_Arithmetic_divide_106 (lv_at hl 4 rfl) ?_
        refine wi_iadd hx hb d_Arithmetic_divide_108 ?_
        refine lv_istore (lv' := [(6, .int (iI (rkf + up))), (0, .ref h), (1, .ref h1), (2, .int (iI un)), (3, .long (lI (lgx rgf rkf (rkf - 1) + 1))), (5, .int (iI up))]) hx hb d_Arithmetic_divide_109 hl (by decide) rfl (fun ls hl => ?_)
        refine lv_aload_n hx hb d_Arithmetic_divide_111 rfl (lv_at hl 1 rfl) ?_
        refine wk_get B hP 0 rfl fl_Arithmetic_12 (v := .ref ln) rfl d_Arithmetic_divide_112 ?_
        refine lv_iload hx hb d_Arithmetic_divide_115 (lv_at hl 0 rfl) ?_
        refine wk_callV (As := [.int (iI (rkf + up))]) (rest := []) (wr := [(h, .inr (2, [.ref ln, .ref rn, .long (lI qu), .int (bI inx)])), (rn, .inr (0, [.ref ra, .int (iI rkf)])), (ra, .inl (E.1, 224, .inl (ia rgf))), (h1, .inr (1, [.ref tn1, .ref bn1, .int (bI neg1), .int (iI pw1)])), (tn1, .inr (0, [.ref ta1, .int (iI tk1)])), (ta1, .inl (E.1, 224, .inl (ia tg1))), (bn1, .inr (0, [.ref ba1, .int (iI bk1)])), (ba1, .inl (E.1, 224, .inl (ia bg1)))]) B gTB cl_Arithmetic_74 (c_Natural_limb l D E ln la lg9 lk9 (rkf + up) (hkl) (by omega)) ⟨⟨rfl, rfl⟩, Nat.le_of_ble_eq_true rfl, Nat.le_of_ble_eq_true rfl⟩ hP hD hS [1, 2] [0, 3, 4, 5, 6, 7, 8, 9] rfl rfl (by decide) 1 rfl rfl rfl ⟨hl.2.1, hl.1⟩ rfl (Nat.le_of_ble_eq_true rfl) d_Arithmetic_divide_117 ⟨Nat.le_of_ble_eq_true rfl, Nat.le_of_ble_eq_true rfl⟩ rfl (fun r_8 H locs hw hP hD hS => ?_)
        have hP : va_P D classes [(h, .inr (2, [.ref ln, .ref rn, .long (lI qu), .int (bI inx)])), (rn, .inr (0, [.ref ra, .int (iI rkf)])), (ra, .inl (E.1, 224, .inl (ia rgf))), (h1, .inr (1, [.ref tn1, .ref bn1, .int (bI neg1), .int (iI pw1)])), (tn1, .inr (0, [.ref ta1, .int (iI tk1)])), (ta1, .inl (E.1, 224, .inl (ia tg1))), (bn1, .inr (0, [.ref ba1, .int (iI bk1)])), (ba1, .inl (E.1, 224, .inl (ia bg1))), (ln, .inr (0, [.ref la, .int (iI lk9)])), (la, .inl (E.1, 224, .inl (ia lg9)))] H := hP
        have hD : va_D A [(h, .inr (2, [.ref ln, .ref rn, .long (lI qu), .int (bI inx)])), (rn, .inr (0, [.ref ra, .int (iI rkf)])), (ra, .inl (E.1, 224, .inl (ia rgf))), (h1, .inr (1, [.ref tn1, .ref bn1, .int (bI neg1), .int (iI pw1)])), (tn1, .inr (0, [.ref ta1, .int (iI tk1)])), (ta1, .inl (E.1, 224, .inl (ia tg1))), (bn1, .inr (0, [.ref ba1, .int (iI bk1)])), (ba1, .inl (E.1, 224, .inl (ia bg1))), (ln, .inr (0, [.ref la, .int (iI lk9)])), (la, .inl (E.1, 224, .inl (ia lg9)))] := hD
        have hw : (r_8 = lgx lg9 lk9 (rkf + up)) := hw
        have hr_9 := hw
        refine W.cs (g := F0 m 120 ls [.int (iI r_8)]) (cells' := 0) (slots' := 0) rfl rfl ?_
        subst hr_9
        refine wi_i2l hx hb (by omega) d_Arithmetic_divide_120 ?_
        refine wi_bipush hx hb d_Arithmetic_divide_121 (by decide) ?_
        refine wi_lshl hx hb 30 1073741824 (by decide +kernel) rfl (by decide) d_Arithmetic_divide_123 ?_
        refine lv_aload_n hx hb d_Arithmetic_divide_124 rfl (lv_at hl 1 rfl) ?_
        refine wk_get B hP 0 rfl fl_Arithmetic_12 (v := .ref ln) rfl d_Arithmetic_divide_125 ?_
        refine lv_iload hx hb d_Arithmetic_divide_128 (lv_at hl 0 rfl) ?_
        refine wi_iconst (n := 1) hx hb d_Arithmetic_divide_130 ?_
        refine wi_isub hx hb d_Arithmetic_divide_131 ?_
        refine wk_callV (As := [.int (iI (rkf + up - 1))]) (rest := [.long (lI ((lgx lg9 lk9 (rkf + up)) * 1073741824))]) (wr := [(h, .inr (2, [.ref ln, .ref rn, .long (lI qu), .int (bI inx)])), (rn, .inr (0, [.ref ra, .int (iI rkf)])), (ra, .inl (E.1, 224, .inl (ia rgf))), (h1, .inr (1, [.ref tn1, .ref bn1, .int (bI neg1), .int (iI pw1)])), (tn1, .inr (0, [.ref ta1, .int (iI tk1)])), (ta1, .inl (E.1, 224, .inl (ia tg1))), (bn1, .inr (0, [.ref ba1, .int (iI bk1)])), (ba1, .inl (E.1, 224, .inl (ia bg1)))]) B gTB cl_Arithmetic_74 (c_Natural_limb l D E ln la lg9 lk9 (rkf + up - 1) (hkl) (by omega)) ⟨⟨rfl, rfl⟩, Nat.le_of_ble_eq_true rfl, Nat.le_of_ble_eq_true rfl⟩ hP hD hS [8, 9] [0, 1, 2, 3, 4, 5, 6, 7] rfl rfl (by decide) 8 rfl rfl rfl ⟨hl.2.1, hl.1⟩ rfl (Nat.le_of_ble_eq_true rfl) d_Arithmetic_divide_132 ⟨Nat.le_of_ble_eq_true rfl, Nat.le_of_ble_eq_true rfl⟩ rfl (fun r_10 H locs hw hP hD hS => ?_)
        have hP : va_P D classes [(h, .inr (2, [.ref ln, .ref rn, .long (lI qu), .int (bI inx)])), (rn, .inr (0, [.ref ra, .int (iI rkf)])), (ra, .inl (E.1, 224, .inl (ia rgf))), (h1, .inr (1, [.ref tn1, .ref bn1, .int (bI neg1), .int (iI pw1)])), (tn1, .inr (0, [.ref ta1, .int (iI tk1)])), (ta1, .inl (E.1, 224, .inl (ia tg1))), (bn1, .inr (0, [.ref ba1, .int (iI bk1)])), (ba1, .inl (E.1, 224, .inl (ia bg1))), (ln, .inr (0, [.ref la, .int (iI lk9)])), (la, .inl (E.1, 224, .inl (ia lg9)))] H := hP
        have hD : va_D A [(h, .inr (2, [.ref ln, .ref rn, .long (lI qu), .int (bI inx)])), (rn, .inr (0, [.ref ra, .int (iI rkf)])), (ra, .inl (E.1, 224, .inl (ia rgf))), (h1, .inr (1, [.ref tn1, .ref bn1, .int (bI neg1), .int (iI pw1)])), (tn1, .inr (0, [.ref ta1, .int (iI tk1)])), (ta1, .inl (E.1, 224, .inl (ia tg1))), (bn1, .inr (0, [.ref ba1, .int (iI bk1)])), (ba1, .inl (E.1, 224, .inl (ia bg1))), (ln, .inr (0, [.ref la, .int (iI lk9)])), (la, .inl (E.1, 224, .inl (ia lg9)))] := hD
        have hw : (r_10 = lgx lg9 lk9 (rkf + up - 1)) := hw
        have hr_11 := hw
        refine W.cs (g := F0 m 135 ls [.int (iI r_10), .long (lI ((lgx lg9 lk9 (rkf + up)) * 1073741824))]) (cells' := 0) (slots' := 0) rfl rfl ?_
        subst hr_11
        refine wi_i2l hx hb (by omega) d_Arithmetic_divide_135 ?_
        refine wi_ladd hx hb d_Arithmetic_divide_136 ?_
        refine lv_lstore (lv' := [(7, .long (lI ((lgx lg9 lk9 (rkf + up)) * 1073741824 + (lgx lg9 lk9 (rkf + up - 1))))), (6, .int (iI (rkf + up))), (0, .ref h), (1, .ref h1), (2, .int (iI un)), (3, .long (lI (lgx rgf rkf (rkf - 1) + 1))), (5, .int (iI up))]) hx hb d_Arithmetic_divide_137 hl (by decide) rfl (fun ls hl => ?_)
        refine lv_lload_n hx hb d_Arithmetic_divide_139 rfl (lv_at hl 5 rfl) ?_
        refine wi_lconst (z := 0) hx hb d_Arithmetic_divide_140 (by decide) ?_
        refine wi_lcmp hx hb (by omega) (by omega) d_Arithmetic_divide_141 ?_
        refine wi_if_le (tgt := 152) hx hb d_Arithmetic_divide_142 (by decide) (by have := cmpZ_rng (lgx rgf rkf (rkf - 1) + 1) 0; omega) (fun c_12 => by have c_12 := cmpZ_le.mp c_12; exfalso; omega) (fun c_12 => ?_)
        have c_12 := cmpZ_gt.mp c_12
        obtain ⟨z1, z2, z3, z4, z5, z6, z7⟩ := dv_guess hL9 hRf hW htop (by omega) hDV2.2.1.2
        obtain ⟨t0, ht0⟩ : ∃ z, z = (lgx lg9 lk9 (rkf + up) * 1073741824 + lgx lg9 lk9 (rkf + up - 1)) / (lgx rgf rkf (rkf - 1) + 1) := ⟨_, rfl⟩
        rw [← ht0] at z4 z5 z6 z7
        refine lv_lload hx hb d_Arithmetic_divide_145 (lv_at hl 0 rfl) ?_
        refine lv_lload_n hx hb d_Arithmetic_divide_147 rfl (lv_at hl 5 rfl) ?_
        refine wi_ldiv hx hb d_Arithmetic_divide_148 (by omega) (by omega) ?_
        refine w_eql (y := t0) (ht0.symm) ?_
        refine W.eq (g2 := F0 m 149 ls [.long (lI t0)]) rfl ?_
        refine lv_goto (tgt := 153) hx hb d_Arithmetic_divide_149 (by decide) ?_
        refine lv_lstore (lv' := [(9, .long (lI t0)), (7, .long (lI ((lgx lg9 lk9 (rkf + up)) * 1073741824 + (lgx lg9 lk9 (rkf + up - 1))))), (6, .int (iI (rkf + up))), (0, .ref h), (1, .ref h1), (2, .int (iI un)), (3, .long (lI (lgx rgf rkf (rkf - 1) + 1))), (5, .int (iI up))]) hx hb d_Arithmetic_divide_153 hl (by decide) rfl (fun ls hl => ?_)
        refine lv_aload_n hx hb d_Arithmetic_divide_155 rfl (lv_at hl 3 rfl) ?_
        refine wk_get B hP 0 rfl fl_Arithmetic_12 (v := .ref ln) rfl d_Arithmetic_divide_156 ?_
        refine lv_aload_n hx hb d_Arithmetic_divide_159 rfl (lv_at hl 3 rfl) ?_
        refine wk_get B hP 0 rfl fl_Arithmetic_18 (v := .ref rn) rfl d_Arithmetic_divide_160 ?_
        refine lv_lload hx hb d_Arithmetic_divide_163 (lv_at hl 0 rfl) ?_
        refine lv_iload hx hb d_Arithmetic_divide_165 (lv_at hl 7 rfl) ?_
        refine wk_callV (As := [.ref rn, .long (lI t0), .int (iI up)]) (rest := []) (wr := [(h, .inr (2, [.ref ln, .ref rn, .long (lI qu), .int (bI inx)])), (h1, .inr (1, [.ref tn1, .ref bn1, .int (bI neg1), .int (iI pw1)])), (tn1, .inr (0, [.ref ta1, .int (iI tk1)])), (ta1, .inl (E.1, 224, .inl (ia tg1))), (bn1, .inr (0, [.ref ba1, .int (iI bk1)])), (ba1, .inl (E.1, 224, .inl (ia bg1)))]) B gTB cl_Arithmetic_78 (c_Natural_minusTimes l D E ln la lg9 lk9 rn ra rgf rkf t0 up x (b * P2 (un - pw1) * P2 sp) (hL9) (hRf) (by omega) (by omega) (z4)) ⟨⟨rfl, rfl⟩, Nat.le_of_ble_eq_true rfl, Nat.le_of_ble_eq_true rfl⟩ hP hD hS [8, 9, 1, 2] [0, 3, 4, 5, 6, 7] rfl rfl (by decide) 8 rfl rfl rfl ⟨hl.2.1, hl.1⟩ rfl (Nat.le_of_ble_eq_true rfl) d_Arithmetic_divide_167 ⟨Nat.le_of_ble_eq_true rfl, Nat.le_of_ble_eq_true rfl⟩ rfl (fun u H locs hw hP hD hS => ?_)
        obtain ⟨g3_13, k3_14⟩ := u
        have hP : va_P D classes [(h, .inr (2, [.ref ln, .ref rn, .long (lI qu), .int (bI inx)])), (h1, .inr (1, [.ref tn1, .ref bn1, .int (bI neg1), .int (iI pw1)])), (tn1, .inr (0, [.ref ta1, .int (iI tk1)])), (ta1, .inl (E.1, 224, .inl (ia tg1))), (bn1, .inr (0, [.ref ba1, .int (iI bk1)])), (ba1, .inl (E.1, 224, .inl (ia bg1))), (ln, .inr (0, [.ref la, .int (iI k3_14)])), (la, .inl (E.1, 224, .inl (ia g3_13))), (rn, .inr (0, [.ref ra, .int (iI rkf)])), (ra, .inl (E.1, 224, .inl (ia rgf)))] H := hP
        have hD : va_D A [(h, .inr (2, [.ref ln, .ref rn, .long (lI qu), .int (bI inx)])), (h1, .inr (1, [.ref tn1, .ref bn1, .int (bI neg1), .int (iI pw1)])), (tn1, .inr (0, [.ref ta1, .int (iI tk1)])), (ta1, .inl (E.1, 224, .inl (ia tg1))), (bn1, .inr (0, [.ref ba1, .int (iI bk1)])), (ba1, .inl (E.1, 224, .inl (ia bg1))), (ln, .inr (0, [.ref la, .int (iI k3_14)])), (la, .inl (E.1, 224, .inl (ia g3_13))), (rn, .inr (0, [.ref ra, .int (iI rkf)])), (ra, .inl (E.1, 224, .inl (ia rgf)))] := hD
        have hw : (NatOK g3_13 k3_14 (x - t0 * (b * P2 (un - pw1) * P2 sp) * PB up)) := hw
        have hO_15 := hw
        refine W.cs (g := F0 m 170 ls []) (cells' := 0) (slots' := 0) rfl rfl ?_
        refine wi_iconst (n := 0) hx hb d_Arithmetic_divide_170 ?_
        refine lv_istore (lv' := [(11, .int (iI 0)), (9, .long (lI t0)), (7, .long (lI ((lgx lg9 lk9 (rkf + up)) * 1073741824 + (lgx lg9 lk9 (rkf + up - 1))))), (6, .int (iI (rkf + up))), (0, .ref h), (1, .ref h1), (2, .int (iI un)), (3, .long (lI (lgx rgf rkf (rkf - 1) + 1))), (5, .int (iI up))]) hx hb d_Arithmetic_divide_171 hl (by decide) rfl (fun ls hl => ?_)
        exact K_173 ((3 - 0 : Int).toNat + 1) 0 t0 (x - t0 * (b * P2 (un - pw1) * P2 sp) * PB up) k3_14 g3_13 (by omega) (by omega) (by omega) (hO_15) (by grind) (by have e1 : (t0 + 3) * (b * P2 (un - pw1) * P2 sp * PB up) = t0 * (b * P2 (un - pw1) * P2 sp) * PB up + 3 * (b * P2 (un - pw1) * P2 sp * PB up) := (by grind); have e2 := Int.mul_pos hW (PB_pos up); omega) (by omega) _ _ _ (lv_sub hl [4, 5, 6, 7, 8, 1, 0] rfl) (hP.sub [0, 6, 7, 8, 9, 1, 2, 3, 4, 5] rfl) (hD.sub [0, 6, 7, 8, 9, 1, 2, 3, 4, 5] (by decide) rfl) hS
  refine lv_aload_n hx hb d_Arithmetic_divide_0 rfl (lv_at hl 0 rfl) ?_
  refine wk_get B hP 0 rfl fl_Arithmetic_12 (v := .ref ln) rfl d_Arithmetic_divide_1 ?_
  refine lv_aload_n hx hb d_Arithmetic_divide_4 rfl (lv_at hl 1 rfl) ?_
  refine wk_get B hP 5 rfl fl_Arithmetic_39 (v := .ref tn1) rfl d_Arithmetic_divide_5 ?_
  refine wk_callV (As := [.ref tn1]) (rest := []) (wr := [(h, .inr (2, [.ref ln, .ref rn, .long (lI quo), .int (bI inx)])), (rn, .inr (0, [.ref ra, .int (iI rk)])), (ra, .inl (E.1, 224, .inl (ia rg))), (h1, .inr (1, [.ref tn1, .ref bn1, .int (bI neg1), .int (iI pw1)])), (bn1, .inr (0, [.ref ba1, .int (iI bk1)])), (ba1, .inl (E.1, 224, .inl (ia bg1)))]) B gTB cl_Arithmetic_64 (c_Natural_copy l D E ln la lg lk tn1 ta1 tg1 tk1 v (hT)) ⟨⟨rfl, rfl⟩, Nat.le_of_ble_eq_true rfl, Nat.le_of_ble_eq_true rfl⟩ hP hD hS [1, 2, 6, 7] [0, 3, 4, 5, 8, 9] rfl rfl (by decide) 1 rfl rfl rfl ⟨hl.2.1, hl.1⟩ rfl (Nat.le_of_ble_eq_true rfl) d_Arithmetic_divide_8 ⟨Nat.le_of_ble_eq_true rfl, Nat.le_of_ble_eq_true rfl⟩ rfl (fun g3_16 H locs hw hP hD hS => ?_)
  have hP : va_P D classes [(h, .inr (2, [.ref ln, .ref rn, .long (lI quo), .int (bI inx)])), (rn, .inr (0, [.ref ra, .int (iI rk)])), (ra, .inl (E.1, 224, .inl (ia rg))), (h1, .inr (1, [.ref tn1, .ref bn1, .int (bI neg1), .int (iI pw1)])), (bn1, .inr (0, [.ref ba1, .int (iI bk1)])), (ba1, .inl (E.1, 224, .inl (ia bg1))), (ln, .inr (0, [.ref la, .int (iI tk1)])), (la, .inl (E.1, 224, .inl (ia g3_16))), (tn1, .inr (0, [.ref ta1, .int (iI tk1)])), (ta1, .inl (E.1, 224, .inl (ia tg1)))] H := hP
  have hD : va_D A [(h, .inr (2, [.ref ln, .ref rn, .long (lI quo), .int (bI inx)])), (rn, .inr (0, [.ref ra, .int (iI rk)])), (ra, .inl (E.1, 224, .inl (ia rg))), (h1, .inr (1, [.ref tn1, .ref bn1, .int (bI neg1), .int (iI pw1)])), (bn1, .inr (0, [.ref ba1, .int (iI bk1)])), (ba1, .inl (E.1, 224, .inl (ia bg1))), (ln, .inr (0, [.ref la, .int (iI tk1)])), (la, .inl (E.1, 224, .inl (ia g3_16))), (tn1, .inr (0, [.ref ta1, .int (iI tk1)])), (ta1, .inl (E.1, 224, .inl (ia tg1)))] := hD
  have hw : (NatOK g3_16 tk1 v) := hw
  have hM_17 := hw
  refine W.cs (g := F0 m 11 ls []) (cells' := 0) (slots' := 0) rfl rfl ?_
  refine lv_aload_n hx hb d_Arithmetic_divide_11 rfl (lv_at hl 0 rfl) ?_
  refine wk_get B hP 0 rfl fl_Arithmetic_18 (v := .ref rn) rfl d_Arithmetic_divide_12 ?_
  refine lv_aload_n hx hb d_Arithmetic_divide_15 rfl (lv_at hl 1 rfl) ?_
  refine wk_get B hP 3 rfl fl_Arithmetic_42 (v := .ref bn1) rfl d_Arithmetic_divide_16 ?_
  refine wk_callV (As := [.ref bn1]) (rest := []) (wr := [(h, .inr (2, [.ref ln, .ref rn, .long (lI quo), .int (bI inx)])), (h1, .inr (1, [.ref tn1, .ref bn1, .int (bI neg1), .int (iI pw1)])), (ln, .inr (0, [.ref la, .int (iI tk1)])), (la, .inl (E.1, 224, .inl (ia g3_16))), (tn1, .inr (0, [.ref ta1, .int (iI tk1)])), (ta1, .inl (E.1, 224, .inl (ia tg1)))]) B gTB cl_Arithmetic_64 (c_Natural_copy l D E rn ra rg rk bn1 ba1 bg1 bk1 b (hB)) ⟨⟨rfl, rfl⟩, Nat.le_of_ble_eq_true rfl, Nat.le_of_ble_eq_true rfl⟩ hP hD hS [1, 2, 4, 5] [0, 3, 6, 7, 8, 9] rfl rfl (by decide) 1 rfl rfl rfl ⟨hl.2.1, hl.1⟩ rfl (Nat.le_of_ble_eq_true rfl) d_Arithmetic_divide_19 ⟨Nat.le_of_ble_eq_true rfl, Nat.le_of_ble_eq_true rfl⟩ rfl (fun g3_18 H locs hw hP hD hS => ?_)
  have hP : va_P D classes [(h, .inr (2, [.ref ln, .ref rn, .long (lI quo), .int (bI inx)])), (h1, .inr (1, [.ref tn1, .ref bn1, .int (bI neg1), .int (iI pw1)])), (ln, .inr (0, [.ref la, .int (iI tk1)])), (la, .inl (E.1, 224, .inl (ia g3_16))), (tn1, .inr (0, [.ref ta1, .int (iI tk1)])), (ta1, .inl (E.1, 224, .inl (ia tg1))), (rn, .inr (0, [.ref ra, .int (iI bk1)])), (ra, .inl (E.1, 224, .inl (ia g3_18))), (bn1, .inr (0, [.ref ba1, .int (iI bk1)])), (ba1, .inl (E.1, 224, .inl (ia bg1)))] H := hP
  have hD : va_D A [(h, .inr (2, [.ref ln, .ref rn, .long (lI quo), .int (bI inx)])), (h1, .inr (1, [.ref tn1, .ref bn1, .int (bI neg1), .int (iI pw1)])), (ln, .inr (0, [.ref la, .int (iI tk1)])), (la, .inl (E.1, 224, .inl (ia g3_16))), (tn1, .inr (0, [.ref ta1, .int (iI tk1)])), (ta1, .inl (E.1, 224, .inl (ia tg1))), (rn, .inr (0, [.ref ra, .int (iI bk1)])), (ra, .inl (E.1, 224, .inl (ia g3_18))), (bn1, .inr (0, [.ref ba1, .int (iI bk1)])), (ba1, .inl (E.1, 224, .inl (ia bg1)))] := hD
  have hw : (NatOK g3_18 bk1 b) := hw
  have hM_19 := hw
  refine W.cs (g := F0 m 22 ls []) (cells' := 0) (slots' := 0) rfl rfl ?_
  refine lv_aload_n hx hb d_Arithmetic_divide_22 rfl (lv_at hl 0 rfl) ?_
  refine wk_get B hP 0 rfl fl_Arithmetic_12 (v := .ref ln) rfl d_Arithmetic_divide_23 ?_
  refine lv_aload_n hx hb d_Arithmetic_divide_26 rfl (lv_at hl 1 rfl) ?_
  refine wk_get B hP 1 rfl fl_Arithmetic_49 (v := .int (iI pw1)) rfl d_Arithmetic_divide_27 ?_
  refine lv_iload_n hx hb d_Arithmetic_divide_30 rfl (lv_at hl 2 rfl) ?_
  refine wi_isub hx hb d_Arithmetic_divide_31 ?_
  refine wk_callV (As := [.int (iI (pw1 - un))]) (rest := []) (wr := [(h, .inr (2, [.ref ln, .ref rn, .long (lI quo), .int (bI inx)])), (h1, .inr (1, [.ref tn1, .ref bn1, .int (bI neg1), .int (iI pw1)])), (tn1, .inr (0, [.ref ta1, .int (iI tk1)])), (ta1, .inl (E.1, 224, .inl (ia tg1))), (rn, .inr (0, [.ref ra, .int (iI bk1)])), (ra, .inl (E.1, 224, .inl (ia g3_18))), (bn1, .inr (0, [.ref ba1, .int (iI bk1)])), (ba1, .inl (E.1, 224, .inl (ia bg1)))]) B gTB cl_Arithmetic_56 (c_Natural_shiftLeft l D E ln la g3_16 tk1 (pw1 - un) v (hM_17) (by omega) (hpl)) ⟨⟨rfl, rfl⟩, Nat.le_of_ble_eq_true rfl, Nat.le_of_ble_eq_true rfl⟩ hP hD hS [2, 3] [0, 1, 4, 5, 6, 7, 8, 9] rfl rfl (by decide) 2 rfl rfl rfl ⟨hl.2.1, hl.1⟩ rfl (Nat.le_of_ble_eq_true rfl) d_Arithmetic_divide_32 ⟨Nat.le_of_ble_eq_true rfl, Nat.le_of_ble_eq_true rfl⟩ rfl (fun u H locs hw hP hD hS => ?_)
  obtain ⟨g3_20, k3_21⟩ := u
  have hP : va_P D classes [(h, .inr (2, [.ref ln, .ref rn, .long (lI quo), .int (bI inx)])), (h1, .inr (1, [.ref tn1, .ref bn1, .int (bI neg1), .int (iI pw1)])), (tn1, .inr (0, [.ref ta1, .int (iI tk1)])), (ta1, .inl (E.1, 224, .inl (ia tg1))), (rn, .inr (0, [.ref ra, .int (iI bk1)])), (ra, .inl (E.1, 224, .inl (ia g3_18))), (bn1, .inr (0, [.ref ba1, .int (iI bk1)])), (ba1, .inl (E.1, 224, .inl (ia bg1))), (ln, .inr (0, [.ref la, .int (iI k3_21)])), (la, .inl (E.1, 224, .inl (ia g3_20)))] H := hP
  have hD : va_D A [(h, .inr (2, [.ref ln, .ref rn, .long (lI quo), .int (bI inx)])), (h1, .inr (1, [.ref tn1, .ref bn1, .int (bI neg1), .int (iI pw1)])), (tn1, .inr (0, [.ref ta1, .int (iI tk1)])), (ta1, .inl (E.1, 224, .inl (ia tg1))), (rn, .inr (0, [.ref ra, .int (iI bk1)])), (ra, .inl (E.1, 224, .inl (ia g3_18))), (bn1, .inr (0, [.ref ba1, .int (iI bk1)])), (ba1, .inl (E.1, 224, .inl (ia bg1))), (ln, .inr (0, [.ref la, .int (iI k3_21)])), (la, .inl (E.1, 224, .inl (ia g3_20)))] := hD
  have hw : (NatOK g3_20 k3_21 (v * P2 (pw1 - un))) := hw
  have hO_22 := hw
  refine W.cs (g := F0 m 35 ls []) (cells' := 0) (slots' := 0) rfl rfl ?_
  refine lv_aload_n hx hb d_Arithmetic_divide_35 rfl (lv_at hl 0 rfl) ?_
  refine wk_get B hP 0 rfl fl_Arithmetic_18 (v := .ref rn) rfl d_Arithmetic_divide_36 ?_
  refine lv_iload_n hx hb d_Arithmetic_divide_39 rfl (lv_at hl 2 rfl) ?_
  refine lv_aload_n hx hb d_Arithmetic_divide_40 rfl (lv_at hl 1 rfl) ?_
  refine wk_get B hP 1 rfl fl_Arithmetic_49 (v := .int (iI pw1)) rfl d_Arithmetic_divide_41 ?_
  refine wi_isub hx hb d_Arithmetic_divide_44 ?_
  refine wk_callV (As := [.int (iI (un - pw1))]) (rest := []) (wr := [(h, .inr (2, [.ref ln, .ref rn, .long (lI quo), .int (bI inx)])), (h1, .inr (1, [.ref tn1, .ref bn1, .int (bI neg1), .int (iI pw1)])), (tn1, .inr (0, [.ref ta1, .int (iI tk1)])), (ta1, .inl (E.1, 224, .inl (ia tg1))), (bn1, .inr (0, [.ref ba1, .int (iI bk1)])), (ba1, .inl (E.1, 224, .inl (ia bg1))), (ln, .inr (0, [.ref la, .int (iI k3_21)])), (la, .inl (E.1, 224, .inl (ia g3_20)))]) B gTB cl_Arithmetic_56 (c_Natural_shiftLeft l D E rn ra g3_18 bk1 (un - pw1) b (hM_19) (by omega) (hfR)) ⟨⟨rfl, rfl⟩, Nat.le_of_ble_eq_true rfl, Nat.le_of_ble_eq_true rfl⟩ hP hD hS [4, 5] [0, 1, 2, 3, 6, 7, 8, 9] rfl rfl (by decide) 4 rfl rfl rfl ⟨hl.2.1, hl.1⟩ rfl (Nat.le_of_ble_eq_true rfl) d_Arithmetic_divide_45 ⟨Nat.le_of_ble_eq_true rfl, Nat.le_of_ble_eq_true rfl⟩ rfl (fun u H locs hw hP hD hS => ?_)
  obtain ⟨g3_23, k3_24⟩ := u
  have hP : va_P D classes [(h, .inr (2, [.ref ln, .ref rn, .long (lI quo), .int (bI inx)])), (h1, .inr (1, [.ref tn1, .ref bn1, .int (bI neg1), .int (iI pw1)])), (tn1, .inr (0, [.ref ta1, .int (iI tk1)])), (ta1, .inl (E.1, 224, .inl (ia tg1))), (bn1, .inr (0, [.ref ba1, .int (iI bk1)])), (ba1, .inl (E.1, 224, .inl (ia bg1))), (ln, .inr (0, [.ref la, .int (iI k3_21)])), (la, .inl (E.1, 224, .inl (ia g3_20))), (rn, .inr (0, [.ref ra, .int (iI k3_24)])), (ra, .inl (E.1, 224, .inl (ia g3_23)))] H := hP
  have hD : va_D A [(h, .inr (2, [.ref ln, .ref rn, .long (lI quo), .int (bI inx)])), (h1, .inr (1, [.ref tn1, .ref bn1, .int (bI neg1), .int (iI pw1)])), (tn1, .inr (0, [.ref ta1, .int (iI tk1)])), (ta1, .inl (E.1, 224, .inl (ia tg1))), (bn1, .inr (0, [.ref ba1, .int (iI bk1)])), (ba1, .inl (E.1, 224, .inl (ia bg1))), (ln, .inr (0, [.ref la, .int (iI k3_21)])), (la, .inl (E.1, 224, .inl (ia g3_20))), (rn, .inr (0, [.ref ra, .int (iI k3_24)])), (ra, .inl (E.1, 224, .inl (ia g3_23)))] := hD
  have hw : (NatOK g3_23 k3_24 (b * P2 (un - pw1))) := hw
  have hO_25 := hw
  refine W.cs (g := F0 m 48 ls []) (cells' := 0) (slots' := 0) rfl rfl ?_
  refine lv_aload_n hx hb d_Arithmetic_divide_48 rfl (lv_at hl 0 rfl) ?_
  refine wk_callV (As := []) (rest := []) (wr := [(h1, .inr (1, [.ref tn1, .ref bn1, .int (bI neg1), .int (iI pw1)])), (tn1, .inr (0, [.ref ta1, .int (iI tk1)])), (ta1, .inl (E.1, 224, .inl (ia tg1))), (bn1, .inr (0, [.ref ba1, .int (iI bk1)])), (ba1, .inl (E.1, 224, .inl (ia bg1)))]) B gTB cl_Arithmetic_68 (c_Arithmetic_fillTopLimb l D E h ln la rn ra g3_20 g3_23 k3_21 k3_24 quo inx (v * P2 (pw1 - un)) (b * P2 (un - pw1)) (hO_22) (hO_25) (Int.mul_pos hb0 (P2_pos _)) (hfL)) ⟨⟨rfl, rfl⟩, Nat.le_of_ble_eq_true rfl, Nat.le_of_ble_eq_true rfl⟩ hP hD hS [0, 6, 7, 8, 9] [1, 2, 3, 4, 5] rfl rfl (by decide) 0 rfl rfl rfl ⟨hl.2.1, hl.1⟩ rfl (Nat.le_of_ble_eq_true rfl) d_Arithmetic_divide_49 ⟨Nat.le_of_ble_eq_true rfl, Nat.le_of_ble_eq_true rfl⟩ rfl (fun u H locs hw hP hD hS => ?_)
  obtain ⟨lgf, rgf, lkf, rkf, sp⟩ := u
  have hP : va_P D classes [(h1, .inr (1, [.ref tn1, .ref bn1, .int (bI neg1), .int (iI pw1)])), (tn1, .inr (0, [.ref ta1, .int (iI tk1)])), (ta1, .inl (E.1, 224, .inl (ia tg1))), (bn1, .inr (0, [.ref ba1, .int (iI bk1)])), (ba1, .inl (E.1, 224, .inl (ia bg1))), (h, .inr (2, [.ref ln, .ref rn, .long (lI quo), .int (bI inx)])), (ln, .inr (0, [.ref la, .int (iI lkf)])), (la, .inl (E.1, 224, .inl (ia lgf))), (rn, .inr (0, [.ref ra, .int (iI rkf)])), (ra, .inl (E.1, 224, .inl (ia rgf)))] H := hP
  have hD : va_D A [(h1, .inr (1, [.ref tn1, .ref bn1, .int (bI neg1), .int (iI pw1)])), (tn1, .inr (0, [.ref ta1, .int (iI tk1)])), (ta1, .inl (E.1, 224, .inl (ia tg1))), (bn1, .inr (0, [.ref ba1, .int (iI bk1)])), (ba1, .inl (E.1, 224, .inl (ia bg1))), (h, .inr (2, [.ref ln, .ref rn, .long (lI quo), .int (bI inx)])), (ln, .inr (0, [.ref la, .int (iI lkf)])), (la, .inl (E.1, 224, .inl (ia lgf))), (rn, .inr (0, [.ref ra, .int (iI rkf)])), (ra, .inl (E.1, 224, .inl (ia rgf)))] := hD
  have hw : (0 ≤ sp ∧ sp ≤ 29) ∧ (NatOK lgf lkf ((v * P2 (pw1 - un)) * P2 sp)) ∧ (NatOK rgf rkf ((b * P2 (un - pw1)) * P2 sp)) ∧ (P2 (30 * rkf - 1) ≤ (b * P2 (un - pw1)) * P2 sp) := hw
  obtain ⟨hsp, hLf, hRf, htop⟩ := hw
  refine W.cs (g := F0 m 52 ls []) (cells' := 0) (slots' := 0) rfl rfl ?_
  have hsp0 := P2_pos sp
  have hR0 : 0 < b * P2 (un - pw1) := Int.mul_pos hb0 (P2_pos _)
  have hW : 0 < b * P2 (un - pw1) * P2 sp := Int.mul_pos hR0 hsp0
  have hkl := hLf.k
  have hkr := hRf.k
  have hb3 := lgx_bd hRf.2.1 (rkf - 1)
  refine lv_aload_n hx hb d_Arithmetic_divide_52 rfl (lv_at hl 0 rfl) ?_
  refine wk_get B hP 5 rfl fl_Arithmetic_18 (v := .ref rn) rfl d_Arithmetic_divide_53 ?_
  refine lv_aload_n hx hb d_Arithmetic_divide_56 rfl (lv_at hl 0 rfl) ?_
  refine wk_get B hP 5 rfl fl_Arithmetic_18 (v := .ref rn) rfl d_Arithmetic_divide_57 ?_
  refine wk_get B hP 8 rfl fl_Arithmetic_71 (v := .int (iI rkf)) rfl d_Arithmetic_divide_60 ?_
  refine wi_iconst (n := 1) hx hb d_Arithmetic_divide_63 ?_
  refine wi_isub hx hb d_Arithmetic_divide_64 ?_
  refine wk_callV (As := [.int (iI (rkf - 1))]) (rest := []) (wr := [(h1, .inr (1, [.ref tn1, .ref bn1, .int (bI neg1), .int (iI pw1)])), (tn1, .inr (0, [.ref ta1, .int (iI tk1)])), (ta1, .inl (E.1, 224, .inl (ia tg1))), (bn1, .inr (0, [.ref ba1, .int (iI bk1)])), (ba1, .inl (E.1, 224, .inl (ia bg1))), (h, .inr (2, [.ref ln, .ref rn, .long (lI quo), .int (bI inx)])), (ln, .inr (0, [.ref la, .int (iI lkf)])), (la, .inl (E.1, 224, .inl (ia lgf)))]) B gTB cl_Arithmetic_74 (c_Natural_limb l D E rn ra rgf rkf (rkf - 1) (hkr) (by omega)) ⟨⟨rfl, rfl⟩, Nat.le_of_ble_eq_true rfl, Nat.le_of_ble_eq_true rfl⟩ hP hD hS [8, 9] [0, 1, 2, 3, 4, 5, 6, 7] rfl rfl (by decide) 8 rfl rfl rfl ⟨hl.2.1, hl.1⟩ rfl (Nat.le_of_ble_eq_true rfl) d_Arithmetic_divide_65 ⟨Nat.le_of_ble_eq_true rfl, Nat.le_of_ble_eq_true rfl⟩ rfl (fun r_26 H locs hw hP hD hS => ?_)
  have hP : va_P D classes [(h1, .inr (1, [.ref tn1, .ref bn1, .int (bI neg1), .int (iI pw1)])), (tn1, .inr (0, [.ref ta1, .int (iI tk1)])), (ta1, .inl (E.1, 224, .inl (ia tg1))), (bn1, .inr (0, [.ref ba1, .int (iI bk1)])), (ba1, .inl (E.1, 224, .inl (ia bg1))), (h, .inr (2, [.ref ln, .ref rn, .long (lI quo), .int (bI inx)])), (ln, .inr (0, [.ref la, .int (iI lkf)])), (la, .inl (E.1, 224, .inl (ia lgf))), (rn, .inr (0, [.ref ra, .int (iI rkf)])), (ra, .inl (E.1, 224, .inl (ia rgf)))] H := hP
  have hD : va_D A [(h1, .inr (1, [.ref tn1, .ref bn1, .int (bI neg1), .int (iI pw1)])), (tn1, .inr (0, [.ref ta1, .int (iI tk1)])), (ta1, .inl (E.1, 224, .inl (ia tg1))), (bn1, .inr (0, [.ref ba1, .int (iI bk1)])), (ba1, .inl (E.1, 224, .inl (ia bg1))), (h, .inr (2, [.ref ln, .ref rn, .long (lI quo), .int (bI inx)])), (ln, .inr (0, [.ref la, .int (iI lkf)])), (la, .inl (E.1, 224, .inl (ia lgf))), (rn, .inr (0, [.ref ra, .int (iI rkf)])), (ra, .inl (E.1, 224, .inl (ia rgf)))] := hD
  have hw : (r_26 = lgx rgf rkf (rkf - 1)) := hw
  have hr_27 := hw
  refine W.cs (g := F0 m 68 ls [.int (iI r_26)]) (cells' := 0) (slots' := 0) rfl rfl ?_
  subst hr_27
  refine wi_i2l hx hb (by omega) d_Arithmetic_divide_68 ?_
  refine wi_lconst (z := 1) hx hb d_Arithmetic_divide_69 (by decide) ?_
  refine wi_ladd hx hb d_Arithmetic_divide_70 ?_
  refine lv_lstore_n (lv' := [(3, .long (lI (lgx rgf rkf (rkf - 1) + 1))), (0, .ref h), (1, .ref h1), (2, .int (iI un))]) hx hb d_Arithmetic_divide_71 rfl hl (by decide) rfl (fun ls hl => ?_)
  refine lv_aload_n hx hb d_Arithmetic_divide_72 rfl (lv_at hl 1 rfl) ?_
  refine wi_lconst (z := 0) hx hb d_Arithmetic_divide_73 (by decide) ?_
  refine wk_put B hP hD hS 5 rfl fl_Arithmetic_21 fp_Arithmetic_2 (v := .long (lI 0)) rfl rfl (Nat.le_of_ble_eq_true rfl) d_Arithmetic_divide_74 (fun H locs hP hD hS => ?_)
  have hP : va_P D classes [(h1, .inr (1, [.ref tn1, .ref bn1, .int (bI neg1), .int (iI pw1)])), (tn1, .inr (0, [.ref ta1, .int (iI tk1)])), (ta1, .inl (E.1, 224, .inl (ia tg1))), (bn1, .inr (0, [.ref ba1, .int (iI bk1)])), (ba1, .inl (E.1, 224, .inl (ia bg1))), (h, .inr (2, [.ref ln, .ref rn, .long (lI 0), .int (bI inx)])), (ln, .inr (0, [.ref la, .int (iI lkf)])), (la, .inl (E.1, 224, .inl (ia lgf))), (rn, .inr (0, [.ref ra, .int (iI rkf)])), (ra, .inl (E.1, 224, .inl (ia rgf)))] H := hP
  have hD : va_D A [(h1, .inr (1, [.ref tn1, .ref bn1, .int (bI neg1), .int (iI pw1)])), (tn1, .inr (0, [.ref ta1, .int (iI tk1)])), (ta1, .inl (E.1, 224, .inl (ia tg1))), (bn1, .inr (0, [.ref ba1, .int (iI bk1)])), (ba1, .inl (E.1, 224, .inl (ia bg1))), (h, .inr (2, [.ref ln, .ref rn, .long (lI 0), .int (bI inx)])), (ln, .inr (0, [.ref la, .int (iI lkf)])), (la, .inl (E.1, 224, .inl (ia lgf))), (rn, .inr (0, [.ref ra, .int (iI rkf)])), (ra, .inl (E.1, 224, .inl (ia rgf)))] := hD
  refine lv_aload_n hx hb d_Arithmetic_divide_77 rfl (lv_at hl 1 rfl) ?_
  refine wk_get B hP 5 rfl fl_Arithmetic_12 (v := .ref ln) rfl d_Arithmetic_divide_78 ?_
  refine wk_get B hP 6 rfl fl_Arithmetic_71 (v := .int (iI lkf)) rfl d_Arithmetic_divide_81 ?_
  refine lv_aload_n hx hb d_Arithmetic_divide_84 rfl (lv_at hl 1 rfl) ?_
  refine wk_get B hP 5 rfl fl_Arithmetic_18 (v := .ref rn) rfl d_Arithmetic_divide_85 ?_
  refine wk_get B hP 8 rfl fl_Arithmetic_71 (v := .int (iI rkf)) rfl d_Arithmetic_divide_88 ?_
  refine wi_isub hx hb d_Arithmetic_divide_91 ?_
  refine lv_istore (lv' := [(5, .int (iI (lkf - rkf))), (3, .long (lI (lgx rgf rkf (rkf - 1) + 1))), (0, .ref h), (1, .ref h1), (2, .int (iI un))]) hx hb d_Arithmetic_divide_92 hl (by decide) rfl (fun ls hl => ?_)
  exact K_94 (((lkf - rkf) + 225 : Int).toNat + 1) sp rkf (lkf - rkf) 0 ((v * P2 (pw1 - un)) * P2 sp) lkf rgf lgf (by omega) (hRf) (by omega) (hLf) (DVI_00 hLf hRf hW htop) (by omega) (by omega) _ _ _ (lv_sub hl [2, 3, 4, 1, 0] rfl) (hP.sub [5, 6, 7, 8, 9, 0, 1, 2, 3, 4] rfl) (hD.sub [5, 6, 7, 8, 9, 0, 1, 2, 3, 4] (by decide) rfl) hS
