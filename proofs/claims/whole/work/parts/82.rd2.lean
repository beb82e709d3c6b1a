/-! Model: readExponent -/
abbrev b_Mo_readExponent : ByteArray := prog_9_method_22_code
def y_Mo_readExponent : MethodName := ⟨"IntervalTextModel", "readExponent", "(III)Z"⟩
theorem d_Mo_readExponent_0 : decode b_Mo_readExponent 0 = .ok (.iload_n 1, 1) := by decide +kernel
theorem d_Mo_readExponent_1 : decode b_Mo_readExponent 1 = .ok (.iload_n 2, 1) := by decide +kernel
theorem d_Mo_readExponent_2 : decode b_Mo_readExponent 2 = .ok (.if_icmp .ge 18, 3) := by decide +kernel
theorem d_Mo_readExponent_5 : decode b_Mo_readExponent 5 = .ok (.aload_n 0, 1) := by decide +kernel
theorem d_Mo_readExponent_6 : decode b_Mo_readExponent 6 = .ok (.getfield 107, 3) := by decide +kernel
theorem d_Mo_readExponent_9 : decode b_Mo_readExponent 9 = .ok (.iload_n 1, 1) := by decide +kernel
theorem d_Mo_readExponent_10 : decode b_Mo_readExponent 10 = .ok (.iaload, 1) := by decide +kernel
theorem d_Mo_readExponent_11 : decode b_Mo_readExponent 11 = .ok (.bipush 45, 2) := by decide +kernel
theorem d_Mo_readExponent_13 : decode b_Mo_readExponent 13 = .ok (.if_icmp .ne 7, 3) := by decide +kernel
theorem d_Mo_readExponent_16 : decode b_Mo_readExponent 16 = .ok (.iconst 1, 1) := by decide +kernel
theorem d_Mo_readExponent_17 : decode b_Mo_readExponent 17 = .ok (.goto 4, 3) := by decide +kernel
theorem d_Mo_readExponent_20 : decode b_Mo_readExponent 20 = .ok (.iconst 0, 1) := by decide +kernel
theorem d_Mo_readExponent_21 : decode b_Mo_readExponent 21 = .ok (.istore 4, 2) := by decide +kernel
theorem d_Mo_readExponent_23 : decode b_Mo_readExponent 23 = .ok (.iload_n 1, 1) := by decide +kernel
theorem d_Mo_readExponent_24 : decode b_Mo_readExponent 24 = .ok (.iload_n 2, 1) := by decide +kernel
theorem d_Mo_readExponent_25 : decode b_Mo_readExponent 25 = .ok (.if_icmp .ge 31, 3) := by decide +kernel
theorem d_Mo_readExponent_28 : decode b_Mo_readExponent 28 = .ok (.aload_n 0, 1) := by decide +kernel
theorem d_Mo_readExponent_29 : decode b_Mo_readExponent 29 = .ok (.getfield 107, 3) := by decide +kernel
theorem d_Mo_readExponent_32 : decode b_Mo_readExponent 32 = .ok (.iload_n 1, 1) := by decide +kernel
theorem d_Mo_readExponent_33 : decode b_Mo_readExponent 33 = .ok (.iaload, 1) := by decide +kernel
theorem d_Mo_readExponent_34 : decode b_Mo_readExponent 34 = .ok (.bipush 45, 2) := by decide +kernel
theorem d_Mo_readExponent_36 : decode b_Mo_readExponent 36 = .ok (.if_icmp .eq 14, 3) := by decide +kernel
theorem d_Mo_readExponent_39 : decode b_Mo_readExponent 39 = .ok (.aload_n 0, 1) := by decide +kernel
theorem d_Mo_readExponent_40 : decode b_Mo_readExponent 40 = .ok (.getfield 107, 3) := by decide +kernel
theorem d_Mo_readExponent_43 : decode b_Mo_readExponent 43 = .ok (.iload_n 1, 1) := by decide +kernel
theorem d_Mo_readExponent_44 : decode b_Mo_readExponent 44 = .ok (.iaload, 1) := by decide +kernel
theorem d_Mo_readExponent_45 : decode b_Mo_readExponent 45 = .ok (.bipush 43, 2) := by decide +kernel
theorem d_Mo_readExponent_47 : decode b_Mo_readExponent 47 = .ok (.if_icmp .ne 9, 3) := by decide +kernel
theorem d_Mo_readExponent_50 : decode b_Mo_readExponent 50 = .ok (.iload_n 1, 1) := by decide +kernel
theorem d_Mo_readExponent_51 : decode b_Mo_readExponent 51 = .ok (.iconst 1, 1) := by decide +kernel
theorem d_Mo_readExponent_52 : decode b_Mo_readExponent 52 = .ok (.iadd, 1) := by decide +kernel
theorem d_Mo_readExponent_53 : decode b_Mo_readExponent 53 = .ok (.goto 4, 3) := by decide +kernel
theorem d_Mo_readExponent_56 : decode b_Mo_readExponent 56 = .ok (.iload_n 1, 1) := by decide +kernel
theorem d_Mo_readExponent_57 : decode b_Mo_readExponent 57 = .ok (.istore 5, 2) := by decide +kernel
theorem d_Mo_readExponent_59 : decode b_Mo_readExponent 59 = .ok (.iload_n 2, 1) := by decide +kernel
theorem d_Mo_readExponent_60 : decode b_Mo_readExponent 60 = .ok (.iload 5, 2) := by decide +kernel
theorem d_Mo_readExponent_62 : decode b_Mo_readExponent 62 = .ok (.isub, 1) := by decide +kernel
theorem d_Mo_readExponent_63 : decode b_Mo_readExponent 63 = .ok (.ifCond .le 15, 3) := by decide +kernel
theorem d_Mo_readExponent_66 : decode b_Mo_readExponent 66 = .ok (.iload_n 2, 1) := by decide +kernel
theorem d_Mo_readExponent_67 : decode b_Mo_readExponent 67 = .ok (.iload 5, 2) := by decide +kernel
theorem d_Mo_readExponent_69 : decode b_Mo_readExponent 69 = .ok (.isub, 1) := by decide +kernel
theorem d_Mo_readExponent_70 : decode b_Mo_readExponent 70 = .ok (.iload_n 3, 1) := by decide +kernel
theorem d_Mo_readExponent_71 : decode b_Mo_readExponent 71 = .ok (.if_icmp .gt 7, 3) := by decide +kernel
theorem d_Mo_readExponent_74 : decode b_Mo_readExponent 74 = .ok (.iconst 1, 1) := by decide +kernel
theorem d_Mo_readExponent_75 : decode b_Mo_readExponent 75 = .ok (.goto 4, 3) := by decide +kernel
theorem d_Mo_readExponent_78 : decode b_Mo_readExponent 78 = .ok (.iconst 0, 1) := by decide +kernel
theorem d_Mo_readExponent_79 : decode b_Mo_readExponent 79 = .ok (.istore 6, 2) := by decide +kernel
theorem d_Mo_readExponent_81 : decode b_Mo_readExponent 81 = .ok (.aload_n 0, 1) := by decide +kernel
theorem d_Mo_readExponent_82 : decode b_Mo_readExponent 82 = .ok (.iconst 0, 1) := by decide +kernel
theorem d_Mo_readExponent_83 : decode b_Mo_readExponent 83 = .ok (.putfield 183, 3) := by decide +kernel
theorem d_Mo_readExponent_86 : decode b_Mo_readExponent 86 = .ok (.iload 5, 2) := by decide +kernel
theorem d_Mo_readExponent_88 : decode b_Mo_readExponent 88 = .ok (.istore 7, 2) := by decide +kernel
theorem d_Mo_readExponent_90 : decode b_Mo_readExponent 90 = .ok (.iload 7, 2) := by decide +kernel
theorem d_Mo_readExponent_92 : decode b_Mo_readExponent 92 = .ok (.iload_n 2, 1) := by decide +kernel
theorem d_Mo_readExponent_93 : decode b_Mo_readExponent 93 = .ok (.if_icmp .ge 48, 3) := by decide +kernel
theorem d_Mo_readExponent_96 : decode b_Mo_readExponent 96 = .ok (.iload 6, 2) := by decide +kernel
theorem d_Mo_readExponent_98 : decode b_Mo_readExponent 98 = .ok (.ifCond .eq 43, 3) := by decide +kernel
theorem d_Mo_readExponent_101 : decode b_Mo_readExponent 101 = .ok (.aload_n 0, 1) := by decide +kernel
theorem d_Mo_readExponent_102 : decode b_Mo_readExponent 102 = .ok (.getfield 107, 3) := by decide +kernel
theorem d_Mo_readExponent_105 : decode b_Mo_readExponent 105 = .ok (.iload 7, 2) := by decide +kernel
theorem d_Mo_readExponent_107 : decode b_Mo_readExponent 107 = .ok (.iaload, 1) := by decide +kernel
theorem d_Mo_readExponent_108 : decode b_Mo_readExponent 108 = .ok (.invokestatic 156, 3) := by decide +kernel
theorem d_Mo_readExponent_111 : decode b_Mo_readExponent 111 = .ok (.istore 6, 2) := by decide +kernel
theorem d_Mo_readExponent_113 : decode b_Mo_readExponent 113 = .ok (.aload_n 0, 1) := by decide +kernel
theorem d_Mo_readExponent_114 : decode b_Mo_readExponent 114 = .ok (.bipush 10, 2) := by decide +kernel
theorem d_Mo_readExponent_116 : decode b_Mo_readExponent 116 = .ok (.aload_n 0, 1) := by decide +kernel
theorem d_Mo_readExponent_117 : decode b_Mo_readExponent 117 = .ok (.getfield 183, 3) := by decide +kernel
theorem d_Mo_readExponent_120 : decode b_Mo_readExponent 120 = .ok (.imul, 1) := by decide +kernel
theorem d_Mo_readExponent_121 : decode b_Mo_readExponent 121 = .ok (.aload_n 0, 1) := by decide +kernel
theorem d_Mo_readExponent_122 : decode b_Mo_readExponent 122 = .ok (.getfield 107, 3) := by decide +kernel
theorem d_Mo_readExponent_125 : decode b_Mo_readExponent 125 = .ok (.iload 7, 2) := by decide +kernel
theorem d_Mo_readExponent_127 : decode b_Mo_readExponent 127 = .ok (.iaload, 1) := by decide +kernel
theorem d_Mo_readExponent_128 : decode b_Mo_readExponent 128 = .ok (.iadd, 1) := by decide +kernel
theorem d_Mo_readExponent_129 : decode b_Mo_readExponent 129 = .ok (.bipush 48, 2) := by decide +kernel
theorem d_Mo_readExponent_131 : decode b_Mo_readExponent 131 = .ok (.isub, 1) := by decide +kernel
theorem d_Mo_readExponent_132 : decode b_Mo_readExponent 132 = .ok (.putfield 183, 3) := by decide +kernel
theorem d_Mo_readExponent_135 : decode b_Mo_readExponent 135 = .ok (.iinc 7 1, 3) := by decide +kernel
theorem d_Mo_readExponent_138 : decode b_Mo_readExponent 138 = .ok (.goto (-48), 3) := by decide +kernel
theorem d_Mo_readExponent_141 : decode b_Mo_readExponent 141 = .ok (.aload_n 0, 1) := by decide +kernel
theorem d_Mo_readExponent_142 : decode b_Mo_readExponent 142 = .ok (.iload 4, 2) := by decide +kernel
theorem d_Mo_readExponent_144 : decode b_Mo_readExponent 144 = .ok (.ifCond .eq 11, 3) := by decide +kernel
theorem d_Mo_readExponent_147 : decode b_Mo_readExponent 147 = .ok (.aload_n 0, 1) := by decide +kernel
theorem d_Mo_readExponent_148 : decode b_Mo_readExponent 148 = .ok (.getfield 183, 3) := by decide +kernel
theorem d_Mo_readExponent_151 : decode b_Mo_readExponent 151 = .ok (.ineg, 1) := by decide +kernel
theorem d_Mo_readExponent_152 : decode b_Mo_readExponent 152 = .ok (.goto 7, 3) := by decide +kernel
theorem d_Mo_readExponent_155 : decode b_Mo_readExponent 155 = .ok (.aload_n 0, 1) := by decide +kernel
theorem d_Mo_readExponent_156 : decode b_Mo_readExponent 156 = .ok (.getfield 183, 3) := by decide +kernel
theorem d_Mo_readExponent_159 : decode b_Mo_readExponent 159 = .ok (.putfield 183, 3) := by decide +kernel
theorem d_Mo_readExponent_162 : decode b_Mo_readExponent 162 = .ok (.iload 6, 2) := by decide +kernel
theorem d_Mo_readExponent_164 : decode b_Mo_readExponent 164 = .ok (.ireturn, 1) := by decide +kernel
theorem fl_Mo_183 : FLink TB classes "IntervalTextModel" 183 R_Mo F_Mo 21 9 18 := ⟨rfl, by decide, i_Mo, tb_t (List.mem_append_right _ (List.mem_append_right _ (List.mem_append_left _ (List.mem_of_getElem? (l := tables_1_3) (i := 167) rfl)))) rfl⟩
theorem fp_Mo_18 : FPut R_Mo F_Mo 21 18 .int false := ⟨e_Mo, n_Mo, rfl, by decide +kernel⟩
set_option maxHeartbeats 4000000 in
set_option maxRecDepth 100000 in
theorem c_Mo_readExponent (l : Launch) (D : va_G) (E : EVt) (h : Nat) (mlf : Nat) (mrt : Nat) (mpb : Nat) (mop : Nat) (mtz : Int) (mta : Nat) (moz : Int) (moa : Nat) (mrl : Int) (mrh : Int) (mno : Bool) (mlo : Int) (mhi : Int) (mo1 : Nat) (mo2 : Nat) (mo3 : Nat) (mo4 : Nat) (mms : Int) (mex : Int) (mgd : Bool) (mon : Bool) (t : Int → Int) (fr : Int) (to : Int) (mo9 : Int) (hrg : 0 ≤ fr ∧ fr ≤ to ∧ to ≤ 400) (hT : Tx t to) (hmo : 1 ≤ mo9 ∧ mo9 ≤ 4) : CT l D classes (tyl E) (EVX E) y_Mo_readExponent (Cond.code y_Mo_readExponent b_Mo_readExponent 8 (some .boolean) :: TB) (rmK 1 0 0 20) 0 0 [.ref h, .int (iI fr), .int (iI to), .int (iI mo9)] [(h, .inr (9, [.ref mlf, .ref mrt, .ref mpb, .ref mop, .int (iI mtz), .ref mta, .int (iI moz), .ref moa, .long (lI mrl), .long (lI mrh), .int (bI mno), .long (lI mlo), .long (lI mhi), .ref mo1, .ref mo2, .ref mo3, .ref mo4, .int (iI mms), .int (iI mex), .int (bI mgd), .int (bI mon)])), (mta, .inl (E.1, 400, .inl (ia t)))] (S := Bool × Int) (fun u => [(h, .inr (9, [.ref mlf, .ref mrt, .ref mpb, .ref mop, .int (iI mtz), .ref mta, .int (iI moz), .ref moa, .long (lI mrl), .long (lI mrh), .int (bI mno), .long (lI mlo), .long (lI mhi), .ref mo1, .ref mo2, .ref mo3, .ref mo4, .int (iI mms), .int (iI u.2), .int (bI mgd), .int (bI mon)])), (mta, .inl (E.1, 400, .inl (ia t)))]) (fun u => some (.int (bI u.1))) (fun u => (u.1 = true ↔ XEok t to fr (Int.toNat mo9)) ∧ (u.1 = true → u.2 = if sgN t to fr then -(XE t to fr (Int.toNat mo9)).2.1 else (XE t to fr (Int.toNat mo9)).2.1) ∧ (-10000000 < u.2 ∧ u.2 < 10000000)) := by
  refine CT.ofz (fv := fun (u : Bool × Int) => u.1) (eok E) (by decide) rfl (Nat.le_of_ble_eq_true rfl) ?_
  intro p e s m args below meth c A Q ls B hmn hP hD hS hl ret
  have B : Bd l D classes (tyl E) (EVX E) p m c b_Mo_readExponent 8 s args (Cond.code y_Mo_readExponent b_Mo_readExponent 8 (some .boolean) :: TB) R_Mo A := B
  obtain ⟨⟨hx, hb, hml, hown, hts⟩, hX, hK, hE, hA⟩ := id B
  have hl : lv_has ls 8 [(0, .ref h), (1, .int (iI fr)), (2, .int (iI to)), (3, .int (iI mo9))] := hl
  have hP : va_P D classes [(h, .inr (9, [.ref mlf, .ref mrt, .ref mpb, .ref mop, .int (iI mtz), .ref mta, .int (iI moz), .ref moa, .long (lI mrl), .long (lI mrh), .int (bI mno), .long (lI mlo), .long (lI mhi), .ref mo1, .ref mo2, .ref mo3, .ref mo4, .int (iI mms), .int (iI mex), .int (bI mgd), .int (bI mon)])), (mta, .inl (E.1, 400, .inl (ia t)))] s.heap := hP
  have hD : va_D A [(h, .inr (9, [.ref mlf, .ref mrt, .ref mpb, .ref mop, .int (iI mtz), .ref mta, .int (iI moz), .ref moa, .long (lI mrl), .long (lI mrh), .int (bI mno), .long (lI mlo), .long (lI mhi), .ref mo1, .ref mo2, .ref mo3, .ref mo4, .int (iI mms), .int (iI mex), .int (bI mgd), .int (bI mon)])), (mta, .inl (E.1, 400, .inl (ia t)))] := hD
  have hgp := sgP_rng (t := t) (n := to) (p := fr) (by omega)
  have K_59 : ∀ (ng9 : Bool) (p9 : Int) (hng : ng9 = sgN t to fr) (hp9 : p9 = sgP t to fr) (ls : Array Slot) (H : Heap) (locs : List Loc), lv_has ls 8 [(0, .ref h), (1, .int (iI fr)), (2, .int (iI to)), (3, .int (iI mo9)), (4, .int (bI ng9)), (5, .int (iI p9))] → va_P D classes [(h, .inr (9, [.ref mlf, .ref mrt, .ref mpb, .ref mop, .int (iI mtz), .ref mta, .int (iI moz), .ref moa, .long (lI mrl), .long (lI mrh), .int (bI mno), .long (lI mlo), .long (lI mhi), .ref mo1, .ref mo2, .ref mo3, .ref mo4, .int (iI mms), .int (iI mex), .int (bI mgd), .int (bI mon)])), (mta, .inl (E.1, 400, .inl (ia t)))] H → va_D A [(h, .inr (9, [.ref mlf, .ref mrt, .ref mpb, .ref mop, .int (iI mtz), .ref mta, .int (iI moz), .ref moa, .long (lI mrl), .long (lI mrh), .int (bI mno), .long (lI mlo), .long (lI mhi), .ref mo1, .ref mo2, .ref mo3, .ref mo4, .int (iI mms), .int (iI mex), .int (bI mgd), .int (bI mon)])), (mta, .inl (E.1, 400, .inl (ia t)))] → va_S A s.heap H locs → W p l e (rmK 1 0 0 20) s m args below meth c H locs 0 0 Q (F0 m 59 ls []) := by
    intro ng9 p9 hng hp9 ls H locs hl hP hD hS
    have K_90 : ∀ (fuel90 : Nat) (k : Int) (ex1 : Int) (is9 : Bool) (hk : p9 ≤ k ∧ (k ≤ to ∨ k = p9)) (hex : XEb k p9 ex1) (his : XEi t to fr mo9 p9 k ex1 is9) (hf90 : max (to - k) 0 < (fuel90 : Int)) (ls : Array Slot) (H : Heap) (locs : List Loc), lv_has ls 8 [(0, .ref h), (1, .int (iI fr)), (2, .int (iI to)), (3, .int (iI mo9)), (4, .int (bI ng9)), (5, .int (iI p9)), (6, .int (bI is9)), (7, .int (iI k))] → va_P D classes [(h, .inr (9, [.ref mlf, .ref mrt, .ref mpb, .ref mop, .int (iI mtz), .ref mta, .int (iI moz), .ref moa, .long (lI mrl), .long (lI mrh), .int (bI mno), .long (lI mlo), .long (lI mhi), .ref mo1, .ref mo2, .ref mo3, .ref mo4, .int (iI mms), .int (iI ex1), .int (bI mgd), .int (bI mon)])), (mta, .inl (E.1, 400, .inl (ia t)))] H → va_D A [(h, .inr (9, [.ref mlf, .ref mrt, .ref mpb, .ref mop, .int (iI mtz), .ref mta, .int (iI moz), .ref moa, .long (lI mrl), .long (lI mrh), .int (bI mno), .long (lI mlo), .long (lI mhi), .ref mo1, .ref mo2, .ref mo3, .ref mo4, .int (iI mms), .int (iI ex1), .int (bI mgd), .int (bI mon)])), (mta, .inl (E.1, 400, .inl (ia t)))] → va_S A s.heap H locs → W p l e (rmK 1 0 0 20) s m args below meth c H locs 0 0 Q (F0 m 90 ls []) := by
      intro fuel90
      induction fuel90 with
      | zero =>
        intro k ex1 is9 hk hex his hf90 ls H locs hl hP hD hS
        exfalso; omega
      | succ fuel90 ih90 =>
        intro k ex1 is9 hk hex his hf90 ls H locs hl hP hD hS
        refine lv_iload hx hb d_Mo_readExponent_90 (lv_at hl 7 rfl) ?_
        refine lv_iload_n hx hb d_Mo_readExponent_92 rfl (lv_at hl 2 rfl) ?_
        refine wi_icmp_ge (tgt := 141) hx hb d_Mo_readExponent_93 (by decide) (by omega) (by omega) (fun c_1 => ?_) (fun c_1 => ?_)
        · skip
          have hix := XEi_e hk.2 his (by first | exact Or.inl (by omega) | exact Or.inr c_3)
          have hxb := XEb_r hex
          refine lv_aload_n hx hb d_Mo_readExponent_141 rfl (lv_at hl 0 rfl) ?_
          refine lv_iload hx hb d_Mo_readExponent_142 (lv_at hl 4 rfl) ?_
          refine wb_if_eq (tgt := 155) hx hb d_Mo_readExponent_144 (by decide) (fun c_2 => ?_) (fun c_2 => ?_)
          · skip
            refine lv_aload_n hx hb d_Mo_readExponent_155 rfl (lv_at hl 0 rfl) ?_
            refine wk_get B hP 0 rfl fl_Mo_183 (v := .int (iI ex1)) rfl d_Mo_readExponent_156 ?_
            refine wk_put B hP hD hS 0 rfl fl_Mo_183 fp_Mo_18 (v := .int (iI ex1)) rfl rfl (Nat.le_of_ble_eq_true rfl) d_Mo_readExponent_159 (fun H locs hP hD hS => ?_)
            have hP : va_P D classes [(h, .inr (9, [.ref mlf, .ref mrt, .ref mpb, .ref mop, .int (iI mtz), .ref mta, .int (iI moz), .ref moa, .long (lI mrl), .long (lI mrh), .int (bI mno), .long (lI mlo), .long (lI mhi), .ref mo1, .ref mo2, .ref mo3, .ref mo4, .int (iI mms), .int (iI ex1), .int (bI mgd), .int (bI mon)])), (mta, .inl (E.1, 400, .inl (ia t)))] H := hP
            have hD : va_D A [(h, .inr (9, [.ref mlf, .ref mrt, .ref mpb, .ref mop, .int (iI mtz), .ref mta, .int (iI moz), .ref moa, .long (lI mrl), .long (lI mrh), .int (bI mno), .long (lI mlo), .long (lI mhi), .ref mo1, .ref mo2, .ref mo3, .ref mo4, .int (iI mms), .int (iI ex1), .int (bI mgd), .int (bI mon)])), (mta, .inl (E.1, 400, .inl (ia t)))] := hD
            refine lv_iload hx hb d_Mo_readExponent_162 (lv_at hl 6 rfl) ?_
            exact ret (is9, ex1) _ _ _ _ d_Mo_readExponent_164 (show (is9 = true ↔ XEok t to fr (Int.toNat mo9)) ∧ (is9 = true → ex1 = if sgN t to fr then -(XE t to fr (Int.toNat mo9)).2.1 else (XE t to fr (Int.toNat mo9)).2.1) ∧ (-10000000 < ex1 ∧ ex1 < 10000000) from ⟨hix.1, fun z => by rw [(hix.2 z), ← hng, c_2]; rfl, by omega⟩) (hP.sub [0, 1] rfl) (hD.sub [0, 1] (by decide) rfl) hS
          · skip
            refine lv_aload_n hx hb d_Mo_readExponent_147 rfl (lv_at hl 0 rfl) ?_
            refine wk_get B hP 0 rfl fl_Mo_183 (v := .int (iI ex1)) rfl d_Mo_readExponent_148 ?_
            refine wi_ineg hx hb d_Mo_readExponent_151 ?_
            refine lv_goto (tgt := 159) hx hb d_Mo_readExponent_152 (by decide) ?_
            refine wk_put B hP hD hS 0 rfl fl_Mo_183 fp_Mo_18 (v := .int (iI (-ex1))) rfl rfl (Nat.le_of_ble_eq_true rfl) d_Mo_readExponent_159 (fun H locs hP hD hS => ?_)
            have hP : va_P D classes [(h, .inr (9, [.ref mlf, .ref mrt, .ref mpb, .ref mop, .int (iI mtz), .ref mta, .int (iI moz), .ref moa, .long (lI mrl), .long (lI mrh), .int (bI mno), .long (lI mlo), .long (lI mhi), .ref mo1, .ref mo2, .ref mo3, .ref mo4, .int (iI mms), .int (iI (-ex1)), .int (bI mgd), .int (bI mon)])), (mta, .inl (E.1, 400, .inl (ia t)))] H := hP
            have hD : va_D A [(h, .inr (9, [.ref mlf, .ref mrt, .ref mpb, .ref mop, .int (iI mtz), .ref mta, .int (iI moz), .ref moa, .long (lI mrl), .long (lI mrh), .int (bI mno), .long (lI mlo), .long (lI mhi), .ref mo1, .ref mo2, .ref mo3, .ref mo4, .int (iI mms), .int (iI (-ex1)), .int (bI mgd), .int (bI mon)])), (mta, .inl (E.1, 400, .inl (ia t)))] := hD
            refine lv_iload hx hb d_Mo_readExponent_162 (lv_at hl 6 rfl) ?_
            exact ret (is9, -ex1) _ _ _ _ d_Mo_readExponent_164 (show (is9 = true ↔ XEok t to fr (Int.toNat mo9)) ∧ (is9 = true → (-ex1) = if sgN t to fr then -(XE t to fr (Int.toNat mo9)).2.1 else (XE t to fr (Int.toNat mo9)).2.1) ∧ (-10000000 < (-ex1) ∧ (-ex1) < 10000000) from ⟨hix.1, fun z => by rw [(hix.2 z), ← hng, c_2]; rfl, by omega⟩) (hP.sub [0, 1] rfl) (hD.sub [0, 1] (by decide) rfl) hS
        · skip
          refine lv_iload hx hb d_Mo_readExponent_96 (lv_at hl 6 rfl) ?_
          refine wb_if_eq (tgt := 141) hx hb d_Mo_readExponent_98 (by decide) (fun c_3 => ?_) (fun c_3 => ?_)
          · skip
            have hix := XEi_e hk.2 his (by first | exact Or.inl (by omega) | exact Or.inr c_3)
            have hxb := XEb_r hex
            refine lv_aload_n hx hb d_Mo_readExponent_141 rfl (lv_at hl 0 rfl) ?_
            refine lv_iload hx hb d_Mo_readExponent_142 (lv_at hl 4 rfl) ?_
            refine wb_if_eq (tgt := 155) hx hb d_Mo_readExponent_144 (by decide) (fun c_4 => ?_) (fun c_4 => ?_)
            · skip
              refine lv_aload_n hx hb d_Mo_readExponent_155 rfl (lv_at hl 0 rfl) ?_
              refine wk_get B hP 0 rfl fl_Mo_183 (v := .int (iI ex1)) rfl d_Mo_readExponent_156 ?_
              refine wk_put B hP hD hS 0 rfl fl_Mo_183 fp_Mo_18 (v := .int (iI ex1)) rfl rfl (Nat.le_of_ble_eq_true rfl) d_Mo_readExponent_159 (fun H locs hP hD hS => ?_)
              have hP : va_P D classes [(h, .inr (9, [.ref mlf, .ref mrt, .ref mpb, .ref mop, .int (iI mtz), .ref mta, .int (iI moz), .ref moa, .long (lI mrl), .long (lI mrh), .int (bI mno), .long (lI mlo), .long (lI mhi), .ref mo1, .ref mo2, .ref mo3, .ref mo4, .int (iI mms), .int (iI ex1), .int (bI mgd), .int (bI mon)])), (mta, .inl (E.1, 400, .inl (ia t)))] H := hP
              have hD : va_D A [(h, .inr (9, [.ref mlf, .ref mrt, .ref mpb, .ref mop, .int (iI mtz), .ref mta, .int (iI moz), .ref moa, .long (lI mrl), .long (lI mrh), .int (bI mno), .long (lI mlo), .long (lI mhi), .ref mo1, .ref mo2, .ref mo3, .ref mo4, .int (iI mms), .int (iI ex1), .int (bI mgd), .int (bI mon)])), (mta, .inl (E.1, 400, .inl (ia t)))] := hD
              refine lv_iload hx hb d_Mo_readExponent_162 (lv_at hl 6 rfl) ?_
              exact ret (is9, ex1) _ _ _ _ d_Mo_readExponent_164 (show (is9 = true ↔ XEok t to fr (Int.toNat mo9)) ∧ (is9 = true → ex1 = if sgN t to fr then -(XE t to fr (Int.toNat mo9)).2.1 else (XE t to fr (Int.toNat mo9)).2.1) ∧ (-10000000 < ex1 ∧ ex1 < 10000000) from ⟨hix.1, fun z => by rw [(hix.2 z), ← hng, c_4]; rfl, by omega⟩) (hP.sub [0, 1] rfl) (hD.sub [0, 1] (by decide) rfl) hS
            · skip
              refine lv_aload_n hx hb d_Mo_readExponent_147 rfl (lv_at hl 0 rfl) ?_
              refine wk_get B hP 0 rfl fl_Mo_183 (v := .int (iI ex1)) rfl d_Mo_readExponent_148 ?_
              refine wi_ineg hx hb d_Mo_readExponent_151 ?_
              refine lv_goto (tgt := 159) hx hb d_Mo_readExponent_152 (by decide) ?_
              refine wk_put B hP hD hS 0 rfl fl_Mo_183 fp_Mo_18 (v := .int (iI (-ex1))) rfl rfl (Nat.le_of_ble_eq_true rfl) d_Mo_readExponent_159 (fun H locs hP hD hS => ?_)
              have hP : va_P D classes [(h, .inr (9, [.ref mlf, .ref mrt, .ref mpb, .ref mop, .int (iI mtz), .ref mta, .int (iI moz), .ref moa, .long (lI mrl), .long (lI mrh), .int (bI mno), .long (lI mlo), .long (lI mhi), .ref mo1, .ref mo2, .ref mo3, .ref mo4, .int (iI mms), .int (iI (-ex1)), .int (bI mgd), .int (bI mon)])), (mta, .inl (E.1, 400, .inl (ia t)))] H := hP
              have hD : va_D A [(h, .inr (9, [.ref mlf, .ref mrt, .ref mpb, .ref mop, .int (iI mtz), .ref mta, .int (iI moz), .ref moa, .long (lI mrl), .long (lI mrh), .int (bI mno), .long (lI mlo), .long (lI mhi), .ref mo1, .ref mo2, .ref mo3, .ref mo4, .int (iI mms), .int (iI (-ex1)), .int (bI mgd), .int (bI mon)])), (mta, .inl (E.1, 400, .inl (ia t)))] := hD
              refine lv_iload hx hb d_Mo_readExponent_162 (lv_at hl 6 rfl) ?_
              exact ret (is9, -ex1) _ _ _ _ d_Mo_readExponent_164 (show (is9 = true ↔ XEok t to fr (Int.toNat mo9)) ∧ (is9 = true → (-ex1) = if sgN t to fr then -(XE t to fr (Int.toNat mo9)).2.1 else (XE t to fr (Int.toNat mo9)).2.1) ∧ (-10000000 < (-ex1) ∧ (-ex1) < 10000000) from ⟨hix.1, fun z => by rw [(hix.2 z), ← hng, c_4]; rfl, by omega⟩) (hP.sub [0, 1] rfl) (hD.sub [0, 1] (by decide) rfl) hS
          · skip
            have htk := hT k (by omega) (by omega)
            have hs9 := his.1 c_3
            refine lv_aload_n hx hb d_Mo_readExponent_101 rfl (lv_at hl 0 rfl) ?_
            refine wk_get B hP 0 rfl fl_Mo_107 (v := .ref mta) rfl d_Mo_readExponent_102 ?_
            refine lv_iload hx hb d_Mo_readExponent_105 (lv_at hl 7 rfl) ?_
            refine wi_iald hx hb hK hP 1 0 rfl rfl (by omega) (by omega) d_Mo_readExponent_107 ?_
            refine wk_callS (As := [.int (iI (t k))]) (rest := []) (wr := [(h, .inr (9, [.ref mlf, .ref mrt, .ref mpb, .ref mop, .int (iI mtz), .ref mta, .int (iI moz), .ref moa, .long (lI mrl), .long (lI mrh), .int (bI mno), .long (lI mlo), .long (lI mhi), .ref mo1, .ref mo2, .ref mo3, .ref mo4, .int (iI mms), .int (iI ex1), .int (bI mgd), .int (bI mon)])), (mta, .inl (E.1, 400, .inl (ia t)))]) B gTB cl_Mo_156 (c_Mo_isDigit l D E (t k) (by omega)) ⟨⟨rfl, rfl⟩, Nat.le_of_ble_eq_true rfl, Nat.le_of_ble_eq_true rfl⟩ hP hD hS [] [0, 1] rfl rfl (by decide) ⟨hl.2.1, hl.1⟩ rfl (Nat.le_of_ble_eq_true rfl) d_Mo_readExponent_108 ⟨Nat.le_of_ble_eq_true rfl, Nat.le_of_ble_eq_true rfl⟩ rfl (fun r_5 H locs hw hP hD hS => ?_)
            have hP : va_P D classes [(h, .inr (9, [.ref mlf, .ref mrt, .ref mpb, .ref mop, .int (iI mtz), .ref mta, .int (iI moz), .ref moa, .long (lI mrl), .long (lI mrh), .int (bI mno), .long (lI mlo), .long (lI mhi), .ref mo1, .ref mo2, .ref mo3, .ref mo4, .int (iI mms), .int (iI ex1), .int (bI mgd), .int (bI mon)])), (mta, .inl (E.1, 400, .inl (ia t)))] H := hP
            have hD : va_D A [(h, .inr (9, [.ref mlf, .ref mrt, .ref mpb, .ref mop, .int (iI mtz), .ref mta, .int (iI moz), .ref moa, .long (lI mrl), .long (lI mrh), .int (bI mno), .long (lI mlo), .long (lI mhi), .ref mo1, .ref mo2, .ref mo3, .ref mo4, .int (iI mms), .int (iI ex1), .int (bI mgd), .int (bI mon)])), (mta, .inl (E.1, 400, .inl (ia t)))] := hD
            have hw : (r_5 = decide (48 ≤ (t k) ∧ (t k) ≤ 57)) := hw
            have hr_6 := hw
            refine W.cs (g := F0 m 111 ls [.int (bI r_5)]) (cells' := 0) (slots' := 0) rfl rfl ?_
            subst hr_6
            refine lv_istore (lv' := [(6, .int (bI (decide (48 ≤ (t k) ∧ (t k) ≤ 57)))), (0, .ref h), (1, .int (iI fr)), (2, .int (iI to)), (3, .int (iI mo9)), (4, .int (bI ng9)), (5, .int (iI p9)), (7, .int (iI k))]) hx hb d_Mo_readExponent_111 hl (by decide) rfl (fun ls hl => ?_)
            refine lv_aload_n hx hb d_Mo_readExponent_113 rfl (lv_at hl 1 rfl) ?_
            refine wi_bipush hx hb d_Mo_readExponent_114 (by decide) ?_
            refine lv_aload_n hx hb d_Mo_readExponent_116 rfl (lv_at hl 1 rfl) ?_
            refine wk_get B hP 0 rfl fl_Mo_183 (v := .int (iI ex1)) rfl d_Mo_readExponent_117 ?_
            refine wi_imul hx hb d_Mo_readExponent_120 ?_
            refine lv_aload_n hx hb d_Mo_readExponent_121 rfl (lv_at hl 1 rfl) ?_
            refine wk_get B hP 0 rfl fl_Mo_107 (v := .ref mta) rfl d_Mo_readExponent_122 ?_
            refine lv_iload hx hb d_Mo_readExponent_125 (lv_at hl 7 rfl) ?_
            refine wi_iald hx hb hK hP 1 0 rfl rfl (by omega) (by omega) d_Mo_readExponent_127 ?_
            refine wi_iadd hx hb d_Mo_readExponent_128 ?_
            refine wi_bipush hx hb d_Mo_readExponent_129 (by decide) ?_
            refine wi_isub hx hb d_Mo_readExponent_131 ?_
            refine wk_put B hP hD hS 0 rfl fl_Mo_183 fp_Mo_18 (v := .int (iI (10 * ex1 + (t k) - 48))) rfl rfl (Nat.le_of_ble_eq_true rfl) d_Mo_readExponent_132 (fun H locs hP hD hS => ?_)
            have hP : va_P D classes [(h, .inr (9, [.ref mlf, .ref mrt, .ref mpb, .ref mop, .int (iI mtz), .ref mta, .int (iI moz), .ref moa, .long (lI mrl), .long (lI mrh), .int (bI mno), .long (lI mlo), .long (lI mhi), .ref mo1, .ref mo2, .ref mo3, .ref mo4, .int (iI mms), .int (iI (10 * ex1 + (t k) - 48)), .int (bI mgd), .int (bI mon)])), (mta, .inl (E.1, 400, .inl (ia t)))] H := hP
            have hD : va_D A [(h, .inr (9, [.ref mlf, .ref mrt, .ref mpb, .ref mop, .int (iI mtz), .ref mta, .int (iI moz), .ref moa, .long (lI mrl), .long (lI mrh), .int (bI mno), .long (lI mlo), .long (lI mhi), .ref mo1, .ref mo2, .ref mo3, .ref mo4, .int (iI mms), .int (iI (10 * ex1 + (t k) - 48)), .int (bI mgd), .int (bI mon)])), (mta, .inl (E.1, 400, .inl (ia t)))] := hD
            refine wi_iinc (v := k + 1) (lv' := [(7, .int (iI (k + 1))), (6, .int (bI (decide (48 ≤ (t k) ∧ (t k) ≤ 57)))), (0, .ref h), (1, .int (iI fr)), (2, .int (iI to)), (3, .int (iI mo9)), (4, .int (bI ng9)), (5, .int (iI p9))]) hx hb d_Mo_readExponent_135 hl (k := 7) rfl rfl (by decide) rfl (fun ls hl => ?_)
            refine lv_goto (tgt := 90) hx hb d_Mo_readExponent_138 (by decide) ?_
            exact ih90 (k + 1) (10 * ex1 + (t k) - 48) (decide (48 ≤ (t k) ∧ (t k) ≤ 57)) (by omega) (XEb_s hex (by omega) htk) (XEi_s (by omega) (by omega) his c_3) (by omega) _ _ _ (lv_sub hl [2, 3, 4, 5, 6, 7, 1, 0] rfl) (hP.sub [0, 1] rfl) (hD.sub [0, 1] (by decide) rfl) hS
    refine lv_iload_n hx hb d_Mo_readExponent_59 rfl (lv_at hl 2 rfl) ?_
    refine lv_iload hx hb d_Mo_readExponent_60 (lv_at hl 5 rfl) ?_
    refine wi_isub hx hb d_Mo_readExponent_62 ?_
    refine wi_if_le (tgt := 78) hx hb d_Mo_readExponent_63 (by decide) (by omega) (fun c_7 => ?_) (fun c_7 => ?_)
    · skip
      refine wi_iconst (n := 0) hx hb d_Mo_readExponent_78 ?_
      refine w_as0 ?_
      refine lv_istore (lv' := [(6, .int (bI false)), (0, .ref h), (1, .int (iI fr)), (2, .int (iI to)), (3, .int (iI mo9)), (4, .int (bI ng9)), (5, .int (iI p9))]) hx hb d_Mo_readExponent_79 hl (by decide) rfl (fun ls hl => ?_)
      refine lv_aload_n hx hb d_Mo_readExponent_81 rfl (lv_at hl 1 rfl) ?_
      refine wi_iconst (n := 0) hx hb d_Mo_readExponent_82 ?_
      refine wk_put B hP hD hS 0 rfl fl_Mo_183 fp_Mo_18 (v := .int (iI 0)) rfl rfl (Nat.le_of_ble_eq_true rfl) d_Mo_readExponent_83 (fun H locs hP hD hS => ?_)
      have hP : va_P D classes [(h, .inr (9, [.ref mlf, .ref mrt, .ref mpb, .ref mop, .int (iI mtz), .ref mta, .int (iI moz), .ref moa, .long (lI mrl), .long (lI mrh), .int (bI mno), .long (lI mlo), .long (lI mhi), .ref mo1, .ref mo2, .ref mo3, .ref mo4, .int (iI mms), .int (iI 0), .int (bI mgd), .int (bI mon)])), (mta, .inl (E.1, 400, .inl (ia t)))] H := hP
      have hD : va_D A [(h, .inr (9, [.ref mlf, .ref mrt, .ref mpb, .ref mop, .int (iI mtz), .ref mta, .int (iI moz), .ref moa, .long (lI mrl), .long (lI mrh), .int (bI mno), .long (lI mlo), .long (lI mhi), .ref mo1, .ref mo2, .ref mo3, .ref mo4, .int (iI mms), .int (iI 0), .int (bI mgd), .int (bI mon)])), (mta, .inl (E.1, 400, .inl (ia t)))] := hD
      refine lv_iload hx hb d_Mo_readExponent_86 (lv_at hl 6 rfl) ?_
      refine lv_istore (lv' := [(7, .int (iI p9)), (6, .int (bI false)), (0, .ref h), (1, .int (iI fr)), (2, .int (iI to)), (3, .int (iI mo9)), (4, .int (bI ng9)), (5, .int (iI p9))]) hx hb d_Mo_readExponent_88 hl (by decide) rfl (fun ls hl => ?_)
      exact K_90 ((max (to - p9) 0 : Int).toNat + 1) p9 0 false (by omega) (XEb_0 p9) (⟨fun z => (by cases z), fun _ => xe_no (by omega) (by rw [← hp9]; omega)⟩) (by omega) _ _ _ (lv_sub hl [2, 3, 4, 5, 6, 7, 1, 0] rfl) (hP.sub [0, 1] rfl) (hD.sub [0, 1] (by decide) rfl) hS
    · skip
      refine lv_iload_n hx hb d_Mo_readExponent_66 rfl (lv_at hl 2 rfl) ?_
      refine lv_iload hx hb d_Mo_readExponent_67 (lv_at hl 5 rfl) ?_
      refine wi_isub hx hb d_Mo_readExponent_69 ?_
      refine lv_iload_n hx hb d_Mo_readExponent_70 rfl (lv_at hl 3 rfl) ?_
      refine wi_icmp_gt (tgt := 78) hx hb d_Mo_readExponent_71 (by decide) (by omega) (by omega) (fun c_8 => ?_) (fun c_8 => ?_)
      · skip
        refine wi_iconst (n := 0) hx hb d_Mo_readExponent_78 ?_
        refine w_as0 ?_
        refine lv_istore (lv' := [(6, .int (bI false)), (0, .ref h), (1, .int (iI fr)), (2, .int (iI to)), (3, .int (iI mo9)), (4, .int (bI ng9)), (5, .int (iI p9))]) hx hb d_Mo_readExponent_79 hl (by decide) rfl (fun ls hl => ?_)
        refine lv_aload_n hx hb d_Mo_readExponent_81 rfl (lv_at hl 1 rfl) ?_
        refine wi_iconst (n := 0) hx hb d_Mo_readExponent_82 ?_
        refine wk_put B hP hD hS 0 rfl fl_Mo_183 fp_Mo_18 (v := .int (iI 0)) rfl rfl (Nat.le_of_ble_eq_true rfl) d_Mo_readExponent_83 (fun H locs hP hD hS => ?_)
        have hP : va_P D classes [(h, .inr (9, [.ref mlf, .ref mrt, .ref mpb, .ref mop, .int (iI mtz), .ref mta, .int (iI moz), .ref moa, .long (lI mrl), .long (lI mrh), .int (bI mno), .long (lI mlo), .long (lI mhi), .ref mo1, .ref mo2, .ref mo3, .ref mo4, .int (iI mms), .int (iI 0), .int (bI mgd), .int (bI mon)])), (mta, .inl (E.1, 400, .inl (ia t)))] H := hP
        have hD : va_D A [(h, .inr (9, [.ref mlf, .ref mrt, .ref mpb, .ref mop, .int (iI mtz), .ref mta, .int (iI moz), .ref moa, .long (lI mrl), .long (lI mrh), .int (bI mno), .long (lI mlo), .long (lI mhi), .ref mo1, .ref mo2, .ref mo3, .ref mo4, .int (iI mms), .int (iI 0), .int (bI mgd), .int (bI mon)])), (mta, .inl (E.1, 400, .inl (ia t)))] := hD
        refine lv_iload hx hb d_Mo_readExponent_86 (lv_at hl 6 rfl) ?_
        refine lv_istore (lv' := [(7, .int (iI p9)), (6, .int (bI false)), (0, .ref h), (1, .int (iI fr)), (2, .int (iI to)), (3, .int (iI mo9)), (4, .int (bI ng9)), (5, .int (iI p9))]) hx hb d_Mo_readExponent_88 hl (by decide) rfl (fun ls hl => ?_)
        exact K_90 ((max (to - p9) 0 : Int).toNat + 1) p9 0 false (by omega) (XEb_0 p9) (⟨fun z => (by cases z), fun _ => xe_no (by omega) (by rw [← hp9]; omega)⟩) (by omega) _ _ _ (lv_sub hl [2, 3, 4, 5, 6, 7, 1, 0] rfl) (hP.sub [0, 1] rfl) (hD.sub [0, 1] (by decide) rfl) hS
      · skip
        refine wi_iconst (n := 1) hx hb d_Mo_readExponent_74 ?_
        refine lv_goto (tgt := 79) hx hb d_Mo_readExponent_75 (by decide) ?_
        refine w_as1 ?_
        refine lv_istore (lv' := [(6, .int (bI true)), (0, .ref h), (1, .int (iI fr)), (2, .int (iI to)), (3, .int (iI mo9)), (4, .int (bI ng9)), (5, .int (iI p9))]) hx hb d_Mo_readExponent_79 hl (by decide) rfl (fun ls hl => ?_)
        refine lv_aload_n hx hb d_Mo_readExponent_81 rfl (lv_at hl 1 rfl) ?_
        refine wi_iconst (n := 0) hx hb d_Mo_readExponent_82 ?_
        refine wk_put B hP hD hS 0 rfl fl_Mo_183 fp_Mo_18 (v := .int (iI 0)) rfl rfl (Nat.le_of_ble_eq_true rfl) d_Mo_readExponent_83 (fun H locs hP hD hS => ?_)
        have hP : va_P D classes [(h, .inr (9, [.ref mlf, .ref mrt, .ref mpb, .ref mop, .int (iI mtz), .ref mta, .int (iI moz), .ref moa, .long (lI mrl), .long (lI mrh), .int (bI mno), .long (lI mlo), .long (lI mhi), .ref mo1, .ref mo2, .ref mo3, .ref mo4, .int (iI mms), .int (iI 0), .int (bI mgd), .int (bI mon)])), (mta, .inl (E.1, 400, .inl (ia t)))] H := hP
        have hD : va_D A [(h, .inr (9, [.ref mlf, .ref mrt, .ref mpb, .ref mop, .int (iI mtz), .ref mta, .int (iI moz), .ref moa, .long (lI mrl), .long (lI mrh), .int (bI mno), .long (lI mlo), .long (lI mhi), .ref mo1, .ref mo2, .ref mo3, .ref mo4, .int (iI mms), .int (iI 0), .int (bI mgd), .int (bI mon)])), (mta, .inl (E.1, 400, .inl (ia t)))] := hD
        refine lv_iload hx hb d_Mo_readExponent_86 (lv_at hl 6 rfl) ?_
        refine lv_istore (lv' := [(7, .int (iI p9)), (6, .int (bI true)), (0, .ref h), (1, .int (iI fr)), (2, .int (iI to)), (3, .int (iI mo9)), (4, .int (bI ng9)), (5, .int (iI p9))]) hx hb d_Mo_readExponent_88 hl (by decide) rfl (fun ls hl => ?_)
        exact K_90 ((max (to - p9) 0 : Int).toNat + 1) p9 0 true (by omega) (XEb_0 p9) (XEi_0 hp9 (by omega)) (by omega) _ _ _ (lv_sub hl [2, 3, 4, 5, 6, 7, 1, 0] rfl) (hP.sub [0, 1] rfl) (hD.sub [0, 1] (by decide) rfl) hS
  refine lv_iload_n hx hb d_Mo_readExponent_0 rfl (lv_at hl 1 rfl) ?_
  refine lv_iload_n hx hb d_Mo_readExponent_1 rfl (lv_at hl 2 rfl) ?_
  refine wi_icmp_ge (tgt := 20) hx hb d_Mo_readExponent_2 (by decide) (by omega) (by omega) (fun c_9 => ?_) (fun c_9 => ?_)
  · skip
    refine wi_iconst (n := 0) hx hb d_Mo_readExponent_20 ?_
    refine w_as0 ?_
    refine lv_istore (lv' := [(4, .int (bI false)), (0, .ref h), (1, .int (iI fr)), (2, .int (iI to)), (3, .int (iI mo9))]) hx hb d_Mo_readExponent_21 hl (by decide) rfl (fun ls hl => ?_)
    refine lv_iload_n hx hb d_Mo_readExponent_23 rfl (lv_at hl 2 rfl) ?_
    refine lv_iload_n hx hb d_Mo_readExponent_24 rfl (lv_at hl 3 rfl) ?_
    refine wi_icmp_ge (tgt := 56) hx hb d_Mo_readExponent_25 (by decide) (by omega) (by omega) (fun c_10 => ?_) (fun c_10 => ?_)
    · skip
      refine lv_iload_n hx hb d_Mo_readExponent_56 rfl (lv_at hl 2 rfl) ?_
      refine lv_istore (lv' := [(5, .int (iI fr)), (4, .int (bI false)), (0, .ref h), (1, .int (iI fr)), (2, .int (iI to)), (3, .int (iI mo9))]) hx hb d_Mo_readExponent_57 hl (by decide) rfl (fun ls hl => ?_)
      exact K_59 false fr (by unfold sgN; rw [decide_eq_false (by first | (rw [hrf]; omega) | (rw [rat_out (by omega)]; omega))]) (by unfold sgP; rw [if_neg (by first | (rw [hrf]; omega) | (rw [rat_out (by omega)]; omega))]) _ _ _ (lv_sub hl [2, 3, 4, 5, 1, 0] rfl) (hP.sub [0, 1] rfl) (hD.sub [0, 1] (by decide) rfl) hS
    · skip
      have htf := hT fr (by omega) (by omega)
      have hrf := rat_in (t := t) (n := to) (i := fr) (by omega)
      refine lv_aload_n hx hb d_Mo_readExponent_28 rfl (lv_at hl 1 rfl) ?_
      refine wk_get B hP 0 rfl fl_Mo_107 (v := .ref mta) rfl d_Mo_readExponent_29 ?_
      refine lv_iload_n hx hb d_Mo_readExponent_32 rfl (lv_at hl 2 rfl) ?_
      refine wi_iald hx hb hK hP 1 0 rfl rfl (by omega) (by omega) d_Mo_readExponent_33 ?_
      refine wi_bipush hx hb d_Mo_readExponent_34 (by decide) ?_
      refine wi_icmp_eq (tgt := 50) hx hb d_Mo_readExponent_36 (by decide) (by omega) (by omega) (fun c_11 => ?_) (fun c_11 => ?_)
      · skip
        refine lv_iload_n hx hb d_Mo_readExponent_50 rfl (lv_at hl 2 rfl) ?_
        refine wi_iconst (n := 1) hx hb d_Mo_readExponent_51 ?_
        refine wi_iadd hx hb d_Mo_readExponent_52 ?_
        refine lv_goto (tgt := 57) hx hb d_Mo_readExponent_53 (by decide) ?_
        refine lv_istore (lv' := [(5, .int (iI (fr + 1))), (4, .int (bI false)), (0, .ref h), (1, .int (iI fr)), (2, .int (iI to)), (3, .int (iI mo9))]) hx hb d_Mo_readExponent_57 hl (by decide) rfl (fun ls hl => ?_)
        exact K_59 false (fr + 1) (by unfold sgN; rw [decide_eq_false (by first | (rw [hrf]; omega) | (rw [rat_out (by omega)]; omega))]) (by unfold sgP; rw [if_pos (by rw [hrf]; omega)]) _ _ _ (lv_sub hl [2, 3, 4, 5, 1, 0] rfl) (hP.sub [0, 1] rfl) (hD.sub [0, 1] (by decide) rfl) hS
      · skip
        refine lv_aload_n hx hb d_Mo_readExponent_39 rfl (lv_at hl 1 rfl) ?_
        refine wk_get B hP 0 rfl fl_Mo_107 (v := .ref mta) rfl d_Mo_readExponent_40 ?_
        refine lv_iload_n hx hb d_Mo_readExponent_43 rfl (lv_at hl 2 rfl) ?_
        refine wi_iald hx hb hK hP 1 0 rfl rfl (by omega) (by omega) d_Mo_readExponent_44 ?_
        refine wi_bipush hx hb d_Mo_readExponent_45 (by decide) ?_
        refine wi_icmp_ne (tgt := 56) hx hb d_Mo_readExponent_47 (by decide) (by omega) (by omega) (fun c_12 => ?_) (fun c_12 => ?_)
        · skip
          refine lv_iload_n hx hb d_Mo_readExponent_56 rfl (lv_at hl 2 rfl) ?_
          refine lv_istore (lv' := [(5, .int (iI fr)), (4, .int (bI false)), (0, .ref h), (1, .int (iI fr)), (2, .int (iI to)), (3, .int (iI mo9))]) hx hb d_Mo_readExponent_57 hl (by decide) rfl (fun ls hl => ?_)
          exact K_59 false fr (by unfold sgN; rw [decide_eq_false (by first | (rw [hrf]; omega) | (rw [rat_out (by omega)]; omega))]) (by unfold sgP; rw [if_neg (by first | (rw [hrf]; omega) | (rw [rat_out (by omega)]; omega))]) _ _ _ (lv_sub hl [2, 3, 4, 5, 1, 0] rfl) (hP.sub [0, 1] rfl) (hD.sub [0, 1] (by decide) rfl) hS
        · skip
          refine lv_iload_n hx hb d_Mo_readExponent_50 rfl (lv_at hl 2 rfl) ?_
          refine wi_iconst (n := 1) hx hb d_Mo_readExponent_51 ?_
          refine wi_iadd hx hb d_Mo_readExponent_52 ?_
          refine lv_goto (tgt := 57) hx hb d_Mo_readExponent_53 (by decide) ?_
          refine lv_istore (lv' := [(5, .int (iI (fr + 1))), (4, .int (bI false)), (0, .ref h), (1, .int (iI fr)), (2, .int (iI to)), (3, .int (iI mo9))]) hx hb d_Mo_readExponent_57 hl (by decide) rfl (fun ls hl => ?_)
          exact K_59 false (fr + 1) (by unfold sgN; rw [decide_eq_false (by first | (rw [hrf]; omega) | (rw [rat_out (by omega)]; omega))]) (by unfold sgP; rw [if_pos (by rw [hrf]; omega)]) _ _ _ (lv_sub hl [2, 3, 4, 5, 1, 0] rfl) (hP.sub [0, 1] rfl) (hD.sub [0, 1] (by decide) rfl) hS
  · skip
    have htf := hT fr (by omega) (by omega)
    have hrf := rat_in (t := t) (n := to) (i := fr) (by omega)
    refine lv_aload_n hx hb d_Mo_readExponent_5 rfl (lv_at hl 0 rfl) ?_
    refine wk_get B hP 0 rfl fl_Mo_107 (v := .ref mta) rfl d_Mo_readExponent_6 ?_
    refine lv_iload_n hx hb d_Mo_readExponent_9 rfl (lv_at hl 1 rfl) ?_
    refine wi_iald hx hb hK hP 1 0 rfl rfl (by omega) (by omega) d_Mo_readExponent_10 ?_
    refine wi_bipush hx hb d_Mo_readExponent_11 (by decide) ?_
    refine wi_icmp_ne (tgt := 20) hx hb d_Mo_readExponent_13 (by decide) (by omega) (by omega) (fun c_13 => ?_) (fun c_13 => ?_)
    · skip
      refine wi_iconst (n := 0) hx hb d_Mo_readExponent_20 ?_
      refine w_as0 ?_
      refine lv_istore (lv' := [(4, .int (bI false)), (0, .ref h), (1, .int (iI fr)), (2, .int (iI to)), (3, .int (iI mo9))]) hx hb d_Mo_readExponent_21 hl (by decide) rfl (fun ls hl => ?_)
      refine lv_iload_n hx hb d_Mo_readExponent_23 rfl (lv_at hl 2 rfl) ?_
      refine lv_iload_n hx hb d_Mo_readExponent_24 rfl (lv_at hl 3 rfl) ?_
      refine wi_icmp_ge (tgt := 56) hx hb d_Mo_readExponent_25 (by decide) (by omega) (by omega) (fun c_14 => ?_) (fun c_14 => ?_)
      · skip
        refine lv_iload_n hx hb d_Mo_readExponent_56 rfl (lv_at hl 2 rfl) ?_
        refine lv_istore (lv' := [(5, .int (iI fr)), (4, .int (bI false)), (0, .ref h), (1, .int (iI fr)), (2, .int (iI to)), (3, .int (iI mo9))]) hx hb d_Mo_readExponent_57 hl (by decide) rfl (fun ls hl => ?_)
        exact K_59 false fr (by unfold sgN; rw [decide_eq_false (by first | (rw [hrf]; omega) | (rw [rat_out (by omega)]; omega))]) (by unfold sgP; rw [if_neg (by first | (rw [hrf]; omega) | (rw [rat_out (by omega)]; omega))]) _ _ _ (lv_sub hl [2, 3, 4, 5, 1, 0] rfl) (hP.sub [0, 1] rfl) (hD.sub [0, 1] (by decide) rfl) hS
      · skip
        have htf := hT fr (by omega) (by omega)
        have hrf := rat_in (t := t) (n := to) (i := fr) (by omega)
        refine lv_aload_n hx hb d_Mo_readExponent_28 rfl (lv_at hl 1 rfl) ?_
        refine wk_get B hP 0 rfl fl_Mo_107 (v := .ref mta) rfl d_Mo_readExponent_29 ?_
        refine lv_iload_n hx hb d_Mo_readExponent_32 rfl (lv_at hl 2 rfl) ?_
        refine wi_iald hx hb hK hP 1 0 rfl rfl (by omega) (by omega) d_Mo_readExponent_33 ?_
        refine wi_bipush hx hb d_Mo_readExponent_34 (by decide) ?_
        refine wi_icmp_eq (tgt := 50) hx hb d_Mo_readExponent_36 (by decide) (by omega) (by omega) (fun c_15 => ?_) (fun c_15 => ?_)
        · skip
          refine lv_iload_n hx hb d_Mo_readExponent_50 rfl (lv_at hl 2 rfl) ?_
          refine wi_iconst (n := 1) hx hb d_Mo_readExponent_51 ?_
          refine wi_iadd hx hb d_Mo_readExponent_52 ?_
          refine lv_goto (tgt := 57) hx hb d_Mo_readExponent_53 (by decide) ?_
          refine lv_istore (lv' := [(5, .int (iI (fr + 1))), (4, .int (bI false)), (0, .ref h), (1, .int (iI fr)), (2, .int (iI to)), (3, .int (iI mo9))]) hx hb d_Mo_readExponent_57 hl (by decide) rfl (fun ls hl => ?_)
          exact K_59 false (fr + 1) (by unfold sgN; rw [decide_eq_false (by first | (rw [hrf]; omega) | (rw [rat_out (by omega)]; omega))]) (by unfold sgP; rw [if_pos (by rw [hrf]; omega)]) _ _ _ (lv_sub hl [2, 3, 4, 5, 1, 0] rfl) (hP.sub [0, 1] rfl) (hD.sub [0, 1] (by decide) rfl) hS
        · skip
          refine lv_aload_n hx hb d_Mo_readExponent_39 rfl (lv_at hl 1 rfl) ?_
          refine wk_get B hP 0 rfl fl_Mo_107 (v := .ref mta) rfl d_Mo_readExponent_40 ?_
          refine lv_iload_n hx hb d_Mo_readExponent_43 rfl (lv_at hl 2 rfl) ?_
          refine wi_iald hx hb hK hP 1 0 rfl rfl (by omega) (by omega) d_Mo_readExponent_44 ?_
          refine wi_bipush hx hb d_Mo_readExponent_45 (by decide) ?_
          refine wi_icmp_ne (tgt := 56) hx hb d_Mo_readExponent_47 (by decide) (by omega) (by omega) (fun c_16 => ?_) (fun c_16 => ?_)
          · skip
            refine lv_iload_n hx hb d_Mo_readExponent_56 rfl (lv_at hl 2 rfl) ?_
            refine lv_istore (lv' := [(5, .int (iI fr)), (4, .int (bI false)), (0, .ref h), (1, .int (iI fr)), (2, .int (iI to)), (3, .int (iI mo9))]) hx hb d_Mo_readExponent_57 hl (by decide) rfl (fun ls hl => ?_)
            exact K_59 false fr (by unfold sgN; rw [decide_eq_false (by first | (rw [hrf]; omega) | (rw [rat_out (by omega)]; omega))]) (by unfold sgP; rw [if_neg (by first | (rw [hrf]; omega) | (rw [rat_out (by omega)]; omega))]) _ _ _ (lv_sub hl [2, 3, 4, 5, 1, 0] rfl) (hP.sub [0, 1] rfl) (hD.sub [0, 1] (by decide) rfl) hS
          · skip
            refine lv_iload_n hx hb d_Mo_readExponent_50 rfl (lv_at hl 2 rfl) ?_
            refine wi_iconst (n := 1) hx hb d_Mo_readExponent_51 ?_
            refine wi_iadd hx hb d_Mo_readExponent_52 ?_
            refine lv_goto (tgt := 57) hx hb d_Mo_readExponent_53 (by decide) ?_
            refine lv_istore (lv' := [(5, .int (iI (fr + 1))), (4, .int (bI false)), (0, .ref h), (1, .int (iI fr)), (2, .int (iI to)), (3, .int (iI mo9))]) hx hb d_Mo_readExponent_57 hl (by decide) rfl (fun ls hl => ?_)
            exact K_59 false (fr + 1) (by unfold sgN; rw [decide_eq_false (by first | (rw [hrf]; omega) | (rw [rat_out (by omega)]; omega))]) (by unfold sgP; rw [if_pos (by rw [hrf]; omega)]) _ _ _ (lv_sub hl [2, 3, 4, 5, 1, 0] rfl) (hP.sub [0, 1] rfl) (hD.sub [0, 1] (by decide) rfl) hS
    · skip
      refine wi_iconst (n := 1) hx hb d_Mo_readExponent_16 ?_
      refine lv_goto (tgt := 21) hx hb d_Mo_readExponent_17 (by decide) ?_
      refine w_as1 ?_
      refine lv_istore (lv' := [(4, .int (bI true)), (0, .ref h), (1, .int (iI fr)), (2, .int (iI to)), (3, .int (iI mo9))]) hx hb d_Mo_readExponent_21 hl (by decide) rfl (fun ls hl => ?_)
      refine lv_iload_n hx hb d_Mo_readExponent_23 rfl (lv_at hl 2 rfl) ?_
      refine lv_iload_n hx hb d_Mo_readExponent_24 rfl (lv_at hl 3 rfl) ?_
      refine wi_icmp_ge (tgt := 56) hx hb d_Mo_readExponent_25 (by decide) (by omega) (by omega) (fun c_17 => ?_) (fun c_17 => ?_)
      · skip
        refine lv_iload_n hx hb d_Mo_readExponent_56 rfl (lv_at hl 2 rfl) ?_
        refine lv_istore (lv' := [(5, .int (iI fr)), (4, .int (bI true)), (0, .ref h), (1, .int (iI fr)), (2, .int (iI to)), (3, .int (iI mo9))]) hx hb d_Mo_readExponent_57 hl (by decide) rfl (fun ls hl => ?_)
        exact K_59 true fr (by unfold sgN; rw [hrf, decide_eq_true (by omega)]) (by unfold sgP; rw [if_neg (by first | (rw [hrf]; omega) | (rw [rat_out (by omega)]; omega))]) _ _ _ (lv_sub hl [2, 3, 4, 5, 1, 0] rfl) (hP.sub [0, 1] rfl) (hD.sub [0, 1] (by decide) rfl) hS
      · skip
        have htf := hT fr (by omega) (by omega)
        have hrf := rat_in (t := t) (n := to) (i := fr) (by omega)
        refine lv_aload_n hx hb d_Mo_readExponent_28 rfl (lv_at hl 1 rfl) ?_
        refine wk_get B hP 0 rfl fl_Mo_107 (v := .ref mta) rfl d_Mo_readExponent_29 ?_
        refine lv_iload_n hx hb d_Mo_readExponent_32 rfl (lv_at hl 2 rfl) ?_
        refine wi_iald hx hb hK hP 1 0 rfl rfl (by omega) (by omega) d_Mo_readExponent_33 ?_
        refine wi_bipush hx hb d_Mo_readExponent_34 (by decide) ?_
        refine wi_icmp_eq (tgt := 50) hx hb d_Mo_readExponent_36 (by decide) (by omega) (by omega) (fun c_18 => ?_) (fun c_18 => ?_)
        · skip
          refine lv_iload_n hx hb d_Mo_readExponent_50 rfl (lv_at hl 2 rfl) ?_
          refine wi_iconst (n := 1) hx hb d_Mo_readExponent_51 ?_
          refine wi_iadd hx hb d_Mo_readExponent_52 ?_
          refine lv_goto (tgt := 57) hx hb d_Mo_readExponent_53 (by decide) ?_
          refine lv_istore (lv' := [(5, .int (iI (fr + 1))), (4, .int (bI true)), (0, .ref h), (1, .int (iI fr)), (2, .int (iI to)), (3, .int (iI mo9))]) hx hb d_Mo_readExponent_57 hl (by decide) rfl (fun ls hl => ?_)
          exact K_59 true (fr + 1) (by unfold sgN; rw [hrf, decide_eq_true (by omega)]) (by unfold sgP; rw [if_pos (by rw [hrf]; omega)]) _ _ _ (lv_sub hl [2, 3, 4, 5, 1, 0] rfl) (hP.sub [0, 1] rfl) (hD.sub [0, 1] (by decide) rfl) hS
        · skip
          refine lv_aload_n hx hb d_Mo_readExponent_39 rfl (lv_at hl 1 rfl) ?_
          refine wk_get B hP 0 rfl fl_Mo_107 (v := .ref mta) rfl d_Mo_readExponent_40 ?_
          refine lv_iload_n hx hb d_Mo_readExponent_43 rfl (lv_at hl 2 rfl) ?_
          refine wi_iald hx hb hK hP 1 0 rfl rfl (by omega) (by omega) d_Mo_readExponent_44 ?_
          refine wi_bipush hx hb d_Mo_readExponent_45 (by decide) ?_
          refine wi_icmp_ne (tgt := 56) hx hb d_Mo_readExponent_47 (by decide) (by omega) (by omega) (fun c_19 => ?_) (fun c_19 => ?_)
          · skip
            refine lv_iload_n hx hb d_Mo_readExponent_56 rfl (lv_at hl 2 rfl) ?_
            refine lv_istore (lv' := [(5, .int (iI fr)), (4, .int (bI true)), (0, .ref h), (1, .int (iI fr)), (2, .int (iI to)), (3, .int (iI mo9))]) hx hb d_Mo_readExponent_57 hl (by decide) rfl (fun ls hl => ?_)
            exact K_59 true fr (by unfold sgN; rw [hrf, decide_eq_true (by omega)]) (by unfold sgP; rw [if_neg (by first | (rw [hrf]; omega) | (rw [rat_out (by omega)]; omega))]) _ _ _ (lv_sub hl [2, 3, 4, 5, 1, 0] rfl) (hP.sub [0, 1] rfl) (hD.sub [0, 1] (by decide) rfl) hS
          · skip
            refine lv_iload_n hx hb d_Mo_readExponent_50 rfl (lv_at hl 2 rfl) ?_
            refine wi_iconst (n := 1) hx hb d_Mo_readExponent_51 ?_
            refine wi_iadd hx hb d_Mo_readExponent_52 ?_
            refine lv_goto (tgt := 57) hx hb d_Mo_readExponent_53 (by decide) ?_
            refine lv_istore (lv' := [(5, .int (iI (fr + 1))), (4, .int (bI true)), (0, .ref h), (1, .int (iI fr)), (2, .int (iI to)), (3, .int (iI mo9))]) hx hb d_Mo_readExponent_57 hl (by decide) rfl (fun ls hl => ?_)
            exact K_59 true (fr + 1) (by unfold sgN; rw [hrf, decide_eq_true (by omega)]) (by unfold sgP; rw [if_pos (by rw [hrf]; omega)]) _ _ _ (lv_sub hl [2, 3, 4, 5, 1, 0] rfl) (hP.sub [0, 1] rfl) (hD.sub [0, 1] (by decide) rfl) hS
