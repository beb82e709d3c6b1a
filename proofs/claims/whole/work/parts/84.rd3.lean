/-! Model: readRatio -/
abbrev b_Mo_readRatio : ByteArray := prog_9_method_25_code
def y_Mo_readRatio : MethodName := ⟨"IntervalTextModel", "readRatio", "(IIILIntervalTextModel$Num;)Z"⟩
theorem d_Mo_readRatio_0 : decode b_Mo_readRatio 0 = .ok (.iload_n 2, 1) := by decide +kernel
theorem d_Mo_readRatio_1 : decode b_Mo_readRatio 1 = .ok (.iload_n 1, 1) := by decide +kernel
theorem d_Mo_readRatio_2 : decode b_Mo_readRatio 2 = .ok (.if_icmp .le 14, 3) := by decide +kernel
theorem d_Mo_readRatio_5 : decode b_Mo_readRatio 5 = .ok (.iload_n 2, 1) := by decide +kernel
theorem d_Mo_readRatio_6 : decode b_Mo_readRatio 6 = .ok (.iconst 1, 1) := by decide +kernel
theorem d_Mo_readRatio_7 : decode b_Mo_readRatio 7 = .ok (.iadd, 1) := by decide +kernel
theorem d_Mo_readRatio_8 : decode b_Mo_readRatio 8 = .ok (.iload_n 3, 1) := by decide +kernel
theorem d_Mo_readRatio_9 : decode b_Mo_readRatio 9 = .ok (.if_icmp .ge 7, 3) := by decide +kernel
theorem d_Mo_readRatio_12 : decode b_Mo_readRatio 12 = .ok (.iconst 1, 1) := by decide +kernel
theorem d_Mo_readRatio_13 : decode b_Mo_readRatio 13 = .ok (.goto 4, 3) := by decide +kernel
theorem d_Mo_readRatio_16 : decode b_Mo_readRatio 16 = .ok (.iconst 0, 1) := by decide +kernel
theorem d_Mo_readRatio_17 : decode b_Mo_readRatio 17 = .ok (.istore 5, 2) := by decide +kernel
theorem d_Mo_readRatio_19 : decode b_Mo_readRatio 19 = .ok (.aload 4, 2) := by decide +kernel
theorem d_Mo_readRatio_21 : decode b_Mo_readRatio 21 = .ok (.lconst 0, 1) := by decide +kernel
theorem d_Mo_readRatio_22 : decode b_Mo_readRatio 22 = .ok (.invokevirtual 169, 3) := by decide +kernel
theorem d_Mo_readRatio_25 : decode b_Mo_readRatio 25 = .ok (.aload 4, 2) := by decide +kernel
theorem d_Mo_readRatio_27 : decode b_Mo_readRatio 27 = .ok (.getfield 1, 3) := by decide +kernel
theorem d_Mo_readRatio_30 : decode b_Mo_readRatio 30 = .ok (.lconst 0, 1) := by decide +kernel
theorem d_Mo_readRatio_31 : decode b_Mo_readRatio 31 = .ok (.invokevirtual 206, 3) := by decide +kernel
theorem d_Mo_readRatio_34 : decode b_Mo_readRatio 34 = .ok (.iload_n 1, 1) := by decide +kernel
theorem d_Mo_readRatio_35 : decode b_Mo_readRatio 35 = .ok (.istore 6, 2) := by decide +kernel
theorem d_Mo_readRatio_37 : decode b_Mo_readRatio 37 = .ok (.iload 6, 2) := by decide +kernel
theorem d_Mo_readRatio_39 : decode b_Mo_readRatio 39 = .ok (.iload_n 3, 1) := by decide +kernel
theorem d_Mo_readRatio_40 : decode b_Mo_readRatio 40 = .ok (.if_icmp .ge 99, 3) := by decide +kernel
theorem d_Mo_readRatio_43 : decode b_Mo_readRatio 43 = .ok (.iload 6, 2) := by decide +kernel
theorem d_Mo_readRatio_45 : decode b_Mo_readRatio 45 = .ok (.iload_n 2, 1) := by decide +kernel
theorem d_Mo_readRatio_46 : decode b_Mo_readRatio 46 = .ok (.if_icmp .eq 87, 3) := by decide +kernel
theorem d_Mo_readRatio_49 : decode b_Mo_readRatio 49 = .ok (.iload 5, 2) := by decide +kernel
theorem d_Mo_readRatio_51 : decode b_Mo_readRatio 51 = .ok (.ifCond .eq 20, 3) := by decide +kernel
theorem d_Mo_readRatio_54 : decode b_Mo_readRatio 54 = .ok (.aload_n 0, 1) := by decide +kernel
theorem d_Mo_readRatio_55 : decode b_Mo_readRatio 55 = .ok (.getfield 107, 3) := by decide +kernel
theorem d_Mo_readRatio_58 : decode b_Mo_readRatio 58 = .ok (.iload 6, 2) := by decide +kernel
theorem d_Mo_readRatio_60 : decode b_Mo_readRatio 60 = .ok (.iaload, 1) := by decide +kernel
theorem d_Mo_readRatio_61 : decode b_Mo_readRatio 61 = .ok (.invokestatic 156, 3) := by decide +kernel
theorem d_Mo_readRatio_64 : decode b_Mo_readRatio 64 = .ok (.ifCond .eq 7, 3) := by decide +kernel
theorem d_Mo_readRatio_67 : decode b_Mo_readRatio 67 = .ok (.iconst 1, 1) := by decide +kernel
theorem d_Mo_readRatio_68 : decode b_Mo_readRatio 68 = .ok (.goto 4, 3) := by decide +kernel
theorem d_Mo_readRatio_71 : decode b_Mo_readRatio 71 = .ok (.iconst 0, 1) := by decide +kernel
theorem d_Mo_readRatio_72 : decode b_Mo_readRatio 72 = .ok (.istore 5, 2) := by decide +kernel
theorem d_Mo_readRatio_74 : decode b_Mo_readRatio 74 = .ok (.iload 5, 2) := by decide +kernel
theorem d_Mo_readRatio_76 : decode b_Mo_readRatio 76 = .ok (.ifCond .eq 32, 3) := by decide +kernel
theorem d_Mo_readRatio_79 : decode b_Mo_readRatio 79 = .ok (.iload 6, 2) := by decide +kernel
theorem d_Mo_readRatio_81 : decode b_Mo_readRatio 81 = .ok (.iload_n 2, 1) := by decide +kernel
theorem d_Mo_readRatio_82 : decode b_Mo_readRatio 82 = .ok (.if_icmp .ge 26, 3) := by decide +kernel
theorem d_Mo_readRatio_85 : decode b_Mo_readRatio 85 = .ok (.aload 4, 2) := by decide +kernel
theorem d_Mo_readRatio_87 : decode b_Mo_readRatio 87 = .ok (.getfield 18, 3) := by decide +kernel
theorem d_Mo_readRatio_90 : decode b_Mo_readRatio 90 = .ok (.bipush 10, 2) := by decide +kernel
theorem d_Mo_readRatio_92 : decode b_Mo_readRatio 92 = .ok (.aload_n 0, 1) := by decide +kernel
theorem d_Mo_readRatio_93 : decode b_Mo_readRatio 93 = .ok (.getfield 107, 3) := by decide +kernel
theorem d_Mo_readRatio_96 : decode b_Mo_readRatio 96 = .ok (.iload 6, 2) := by decide +kernel
theorem d_Mo_readRatio_98 : decode b_Mo_readRatio 98 = .ok (.iaload, 1) := by decide +kernel
theorem d_Mo_readRatio_99 : decode b_Mo_readRatio 99 = .ok (.bipush 48, 2) := by decide +kernel
theorem d_Mo_readRatio_101 : decode b_Mo_readRatio 101 = .ok (.isub, 1) := by decide +kernel
theorem d_Mo_readRatio_102 : decode b_Mo_readRatio 102 = .ok (.invokevirtual 179, 3) := by decide +kernel
theorem d_Mo_readRatio_105 : decode b_Mo_readRatio 105 = .ok (.goto 28, 3) := by decide +kernel
theorem d_Mo_readRatio_108 : decode b_Mo_readRatio 108 = .ok (.iload 5, 2) := by decide +kernel
theorem d_Mo_readRatio_110 : decode b_Mo_readRatio 110 = .ok (.ifCond .eq 23, 3) := by decide +kernel
theorem d_Mo_readRatio_113 : decode b_Mo_readRatio 113 = .ok (.aload 4, 2) := by decide +kernel
theorem d_Mo_readRatio_115 : decode b_Mo_readRatio 115 = .ok (.getfield 1, 3) := by decide +kernel
theorem d_Mo_readRatio_118 : decode b_Mo_readRatio 118 = .ok (.bipush 10, 2) := by decide +kernel
theorem d_Mo_readRatio_120 : decode b_Mo_readRatio 120 = .ok (.aload_n 0, 1) := by decide +kernel
theorem d_Mo_readRatio_121 : decode b_Mo_readRatio 121 = .ok (.getfield 107, 3) := by decide +kernel
theorem d_Mo_readRatio_124 : decode b_Mo_readRatio 124 = .ok (.iload 6, 2) := by decide +kernel
theorem d_Mo_readRatio_126 : decode b_Mo_readRatio 126 = .ok (.iaload, 1) := by decide +kernel
theorem d_Mo_readRatio_127 : decode b_Mo_readRatio 127 = .ok (.bipush 48, 2) := by decide +kernel
theorem d_Mo_readRatio_129 : decode b_Mo_readRatio 129 = .ok (.isub, 1) := by decide +kernel
theorem d_Mo_readRatio_130 : decode b_Mo_readRatio 130 = .ok (.invokevirtual 179, 3) := by decide +kernel
theorem d_Mo_readRatio_133 : decode b_Mo_readRatio 133 = .ok (.iinc 6 1, 3) := by decide +kernel
theorem d_Mo_readRatio_136 : decode b_Mo_readRatio 136 = .ok (.goto (-99), 3) := by decide +kernel
theorem d_Mo_readRatio_139 : decode b_Mo_readRatio 139 = .ok (.iload 5, 2) := by decide +kernel
theorem d_Mo_readRatio_141 : decode b_Mo_readRatio 141 = .ok (.ifCond .eq 18, 3) := by decide +kernel
theorem d_Mo_readRatio_144 : decode b_Mo_readRatio 144 = .ok (.aload 4, 2) := by decide +kernel
theorem d_Mo_readRatio_146 : decode b_Mo_readRatio 146 = .ok (.getfield 1, 3) := by decide +kernel
theorem d_Mo_readRatio_149 : decode b_Mo_readRatio 149 = .ok (.getfield 207, 3) := by decide +kernel
theorem d_Mo_readRatio_152 : decode b_Mo_readRatio 152 = .ok (.ifCond .le 7, 3) := by decide +kernel
theorem d_Mo_readRatio_155 : decode b_Mo_readRatio 155 = .ok (.iconst 1, 1) := by decide +kernel
theorem d_Mo_readRatio_156 : decode b_Mo_readRatio 156 = .ok (.goto 4, 3) := by decide +kernel
theorem d_Mo_readRatio_159 : decode b_Mo_readRatio 159 = .ok (.iconst 0, 1) := by decide +kernel
theorem d_Mo_readRatio_160 : decode b_Mo_readRatio 160 = .ok (.ireturn, 1) := by decide +kernel
theorem cl_Mo_206 : CLinkV TB "IntervalTextModel" 206 "IntervalTextModel$Big" y_Big_set b_Big_set 5 none 1 := ⟨⟨tb_t (List.mem_append_right _ (List.mem_append_right _ (List.mem_append_right _ (List.mem_append_left _ (List.mem_of_getElem? (l := tables_1_4) (i := 51) rfl))))) rfl, tb_t (List.mem_append_left _ (List.mem_of_getElem? (l := tables_1_1) (i := 9) rfl)) rfl, tb_t (List.mem_append_right _ (List.mem_append_right _ (List.mem_append_right _ (List.mem_append_left _ (List.mem_of_getElem? (l := tables_1_4) (i := 31) rfl))))) rfl, by decide +kernel, by decide +kernel, by decide +kernel⟩, tb_t (List.mem_append_right _ (List.mem_append_right _ (List.mem_append_right _ (List.mem_append_left _ (List.mem_of_getElem? (l := tables_1_4) (i := 29) rfl))))) rfl, tb_t (List.mem_append_right _ (List.mem_append_right _ (List.mem_append_right _ (List.mem_append_left _ (List.mem_of_getElem? (l := tables_1_4) (i := 30) rfl))))) rfl⟩
set_option maxHeartbeats 4000000 in
set_option maxRecDepth 100000 in
theorem c_Mo_readRatio (l : Launch) (D : va_G) (E : EVt) (h : Nat) (mlf : Nat) (mrt : Nat) (mpb : Nat) (mop : Nat) (mtz : Int) (mta : Nat) (moz : Int) (moa : Nat) (mrl : Int) (mrh : Int) (mno : Bool) (mlo : Int) (mhi : Int) (mo1 : Nat) (mo2 : Nat) (mo3 : Nat) (mo4 : Nat) (mms : Int) (mex : Int) (mgd : Bool) (mon : Bool) (t : Int → Int) (h4 : Nat) (pn9 : Nat) (pa9 : Nat) (qn9 : Nat) (qa9 : Nat) (pg9 : Int → Int) (qg9 : Int → Int) (pk9 : Int) (qk9 : Int) (ee9 : Int) (be9 : Bool) (fr : Int) (sl : Int) (to : Int) (hrg : 0 ≤ fr ∧ fr ≤ sl ∧ sl < to ∧ to ≤ 400) (hT : Tx t to) (hsl : t sl = 47) : CT l D classes (tyl E) (EVX E) y_Mo_readRatio (Cond.code y_Mo_readRatio b_Mo_readRatio 7 (some .boolean) :: TB) (rmK 2 0 0 46) 0 0 [.ref h, .int (iI fr), .int (iI sl), .int (iI to), .ref h4] [(h, .inr (9, [.ref mlf, .ref mrt, .ref mpb, .ref mop, .int (iI mtz), .ref mta, .int (iI moz), .ref moa, .long (lI mrl), .long (lI mrh), .int (bI mno), .long (lI mlo), .long (lI mhi), .ref mo1, .ref mo2, .ref mo3, .ref mo4, .int (iI mms), .int (iI mex), .int (bI mgd), .int (bI mon)])), (mta, .inl (E.1, 400, .inl (ia t))), (h4, .inr (8, [.int (bI be9), .ref pn9, .ref qn9, .int (iI ee9)])), (pn9, .inr (7, [.ref pa9, .int (iI pk9)])), (pa9, .inl (E.1, 640, .inl (ia pg9))), (qn9, .inr (7, [.ref qa9, .int (iI qk9)])), (qa9, .inl (E.1, 640, .inl (ia qg9)))] (S := Bool × Int × Int × (Int → Int) × (Int → Int) × Int × Int) (fun u => [(h, .inr (9, [.ref mlf, .ref mrt, .ref mpb, .ref mop, .int (iI mtz), .ref mta, .int (iI moz), .ref moa, .long (lI mrl), .long (lI mrh), .int (bI mno), .long (lI mlo), .long (lI mhi), .ref mo1, .ref mo2, .ref mo3, .ref mo4, .int (iI mms), .int (iI mex), .int (bI mgd), .int (bI mon)])), (mta, .inl (E.1, 400, .inl (ia t))), (h4, .inr (8, [.int (bI false), .ref pn9, .ref qn9, .int (iI 0)])), (pn9, .inr (7, [.ref pa9, .int (iI u.2.2.2.2.2.1)])), (pa9, .inl (E.1, 640, .inl (ia u.2.2.2.1))), (qn9, .inr (7, [.ref qa9, .int (iI u.2.2.2.2.2.2)])), (qa9, .inl (E.1, 640, .inl (ia u.2.2.2.2.1)))]) (fun u => some (.int (bI u.1))) (fun u => (u.1 = true ↔ (RTOK t fr sl to ∧ 0 < (DGs t to 10 false (sl + 1) (0, 0, 0, false)).2.1)) ∧ (u.1 = true → (DGs t to 10 true fr (0, 0, 0, false)).2.1 = u.2.1 ∧ (DGs t to 10 false (sl + 1) (0, 0, 0, false)).2.1 = u.2.2.1) ∧ (BigOK u.2.2.2.1 u.2.2.2.2.2.1 u.2.1) ∧ (BigOK u.2.2.2.2.1 u.2.2.2.2.2.2 u.2.2.1) ∧ (0 ≤ u.2.1 ∧ u.2.1 < P2 4950 ∧ 0 ≤ u.2.2.1 ∧ u.2.2.1 < P2 4950)) := by
  refine CT.ofz (fv := fun (u : Bool × Int × Int × (Int → Int) × (Int → Int) × Int × Int) => u.1) (eok E) (by decide) rfl (Nat.le_of_ble_eq_true rfl) ?_
  intro p e s m args below meth c A Q ls B hmn hP hD hS hl ret
  have B : Bd l D classes (tyl E) (EVX E) p m c b_Mo_readRatio 7 s args (Cond.code y_Mo_readRatio b_Mo_readRatio 7 (some .boolean) :: TB) R_Mo A := B
  obtain ⟨⟨hx, hb, hml, hown, hts⟩, hX, hK, hE, hA⟩ := id B
  have hl : lv_has ls 7 [(0, .ref h), (1, .int (iI fr)), (2, .int (iI sl)), (3, .int (iI to)), (4, .ref h4)] := hl
  have hP : va_P D classes [(h, .inr (9, [.ref mlf, .ref mrt, .ref mpb, .ref mop, .int (iI mtz), .ref mta, .int (iI moz), .ref moa, .long (lI mrl), .long (lI mrh), .int (bI mno), .long (lI mlo), .long (lI mhi), .ref mo1, .ref mo2, .ref mo3, .ref mo4, .int (iI mms), .int (iI mex), .int (bI mgd), .int (bI mon)])), (mta, .inl (E.1, 400, .inl (ia t))), (h4, .inr (8, [.int (bI be9), .ref pn9, .ref qn9, .int (iI ee9)])), (pn9, .inr (7, [.ref pa9, .int (iI pk9)])), (pa9, .inl (E.1, 640, .inl (ia pg9))), (qn9, .inr (7, [.ref qa9, .int (iI qk9)])), (qa9, .inl (E.1, 640, .inl (ia qg9)))] s.heap := hP
  have hD : va_D A [(h, .inr (9, [.ref mlf, .ref mrt, .ref mpb, .ref mop, .int (iI mtz), .ref mta, .int (iI moz), .ref moa, .long (lI mrl), .long (lI mrh), .int (bI mno), .long (lI mlo), .long (lI mhi), .ref mo1, .ref mo2, .ref mo3, .ref mo4, .int (iI mms), .int (iI mex), .int (bI mgd), .int (bI mon)])), (mta, .inl (E.1, 400, .inl (ia t))), (h4, .inr (8, [.int (bI be9), .ref pn9, .ref qn9, .int (iI ee9)])), (pn9, .inr (7, [.ref pa9, .int (iI pk9)])), (pa9, .inl (E.1, 640, .inl (ia pg9))), (qn9, .inr (7, [.ref qa9, .int (iI qk9)])), (qa9, .inl (E.1, 640, .inl (ia qg9)))] := hD
  have K_37 : ∀ (fuel37 : Nat) (k : Int) (v : Int) (w : Int) (gd : Bool) (pg1 : Int → Int) (qg1 : Int → Int) (pk1 : Int) (qk1 : Int) (hP1 : BigOK pg1 pk1 v) (hQ1 : BigOK qg1 qk1 w) (hk : fr ≤ k ∧ k ≤ to) (hI : RTI t fr sl to k gd v w) (hV : 0 ≤ v ∧ v < P2 (4 * (k - fr))) (hW : 0 ≤ w ∧ w < P2 (4 * (k - fr))) (hf37 : to - k < (fuel37 : Int)) (ls : Array Slot) (H : Heap) (locs : List Loc), lv_has ls 7 [(0, .ref h), (1, .int (iI fr)), (2, .int (iI sl)), (3, .int (iI to)), (4, .ref h4), (5, .int (bI gd)), (6, .int (iI k))] → va_P D classes [(h, .inr (9, [.ref mlf, .ref mrt, .ref mpb, .ref mop, .int (iI mtz), .ref mta, .int (iI moz), .ref moa, .long (lI mrl), .long (lI mrh), .int (bI mno), .long (lI mlo), .long (lI mhi), .ref mo1, .ref mo2, .ref mo3, .ref mo4, .int (iI mms), .int (iI mex), .int (bI mgd), .int (bI mon)])), (mta, .inl (E.1, 400, .inl (ia t))), (h4, .inr (8, [.int (bI false), .ref pn9, .ref qn9, .int (iI 0)])), (pn9, .inr (7, [.ref pa9, .int (iI pk1)])), (pa9, .inl (E.1, 640, .inl (ia pg1))), (qn9, .inr (7, [.ref qa9, .int (iI qk1)])), (qa9, .inl (E.1, 640, .inl (ia qg1)))] H → va_D A [(h, .inr (9, [.ref mlf, .ref mrt, .ref mpb, .ref mop, .int (iI mtz), .ref mta, .int (iI moz), .ref moa, .long (lI mrl), .long (lI mrh), .int (bI mno), .long (lI mlo), .long (lI mhi), .ref mo1, .ref mo2, .ref mo3, .ref mo4, .int (iI mms), .int (iI mex), .int (bI mgd), .int (bI mon)])), (mta, .inl (E.1, 400, .inl (ia t))), (h4, .inr (8, [.int (bI false), .ref pn9, .ref qn9, .int (iI 0)])), (pn9, .inr (7, [.ref pa9, .int (iI pk1)])), (pa9, .inl (E.1, 640, .inl (ia pg1))), (qn9, .inr (7, [.ref qa9, .int (iI qk1)])), (qa9, .inl (E.1, 640, .inl (ia qg1)))] → va_S A s.heap H locs → W p l e (rmK 2 0 0 46) s m args below meth c H locs 0 0 Q (F0 m 37 ls []) := by
    intro fuel37
    induction fuel37 with
    | zero =>
      intro k v w gd pg1 qg1 pk1 qk1 hP1 hQ1 hk hI hV hW hf37 ls H locs hl hP hD hS
      exfalso; omega
    | succ fuel37 ih37 =>
      intro k v w gd pg1 qg1 pk1 qk1 hP1 hQ1 hk hI hV hW hf37 ls H locs hl hP hD hS
      refine lv_iload hx hb d_Mo_readRatio_37 (lv_at hl 6 rfl) ?_
      refine lv_iload_n hx hb d_Mo_readRatio_39 rfl (lv_at hl 3 rfl) ?_
      refine wi_icmp_ge (tgt := 139) hx hb d_Mo_readRatio_40 (by decide) (by omega) (by omega) (fun c_1 => ?_) (fun c_1 => ?_)
      · skip
        have hRE := RTI_end (by omega) (by omega) hI
        have hv49 := p4950 hV.2 (by omega)
        have hw49 := p4950 hW.2 (by omega)
        have hqz := hQ1.zero
        have hqk := hQ1.k
        refine lv_iload hx hb d_Mo_readRatio_139 (lv_at hl 5 rfl) ?_
        refine wb_if_eq (tgt := 159) hx hb d_Mo_readRatio_141 (by decide) (fun c_2 => ?_) (fun c_2 => ?_)
        · skip
          refine wi_iconst (n := 0) hx hb d_Mo_readRatio_159 ?_
          refine w_as0 ?_
          exact ret (false, v, w, pg1, qg1, pk1, qk1) _ _ _ _ d_Mo_readRatio_160 (show (false = true ↔ (RTOK t fr sl to ∧ 0 < (DGs t to 10 false (sl + 1) (0, 0, 0, false)).2.1)) ∧ (false = true → (DGs t to 10 true fr (0, 0, 0, false)).2.1 = v ∧ (DGs t to 10 false (sl + 1) (0, 0, 0, false)).2.1 = w) ∧ (BigOK pg1 pk1 v) ∧ (BigOK qg1 qk1 w) ∧ (0 ≤ v ∧ v < P2 4950 ∧ 0 ≤ w ∧ w < P2 4950) from ⟨⟨fun z => (by cases z), fun z => by exfalso; have y := hRE.1.mpr z.1; first | exact absurd y (by rw [c_2]; decide) | (have x := z.2; rw [(hRE.2 y).2] at x; omega)⟩, fun z => (by cases z), hP1, hQ1, ⟨hV.1, hv49, hW.1, hw49⟩⟩) (hP.sub [0, 1, 2, 3, 4, 5, 6] rfl) (hD.sub [0, 1, 2, 3, 4, 5, 6] (by decide) rfl) hS
        · skip
          refine lv_aload hx hb d_Mo_readRatio_144 (lv_at hl 4 rfl) ?_
          refine wk_getN B hP 2 rfl fn_Num_2 (hE.1 _ (List.mem_of_getElem? (l := nestWs) (i := 9) rfl)) (v := .ref qn9) rfl d_Mo_readRatio_146 ?_
          refine wk_getN B hP 5 rfl fn_Big_1 (hE.1 _ (List.mem_of_getElem? (l := nestWs) (i := 4) rfl)) (v := .int (iI qk1)) rfl d_Mo_readRatio_149 ?_
          refine wi_if_le (tgt := 159) hx hb d_Mo_readRatio_152 (by decide) (by omega) (fun c_3 => ?_) (fun c_3 => ?_)
          · skip
            refine wi_iconst (n := 0) hx hb d_Mo_readRatio_159 ?_
            refine w_as0 ?_
            exact ret (false, v, w, pg1, qg1, pk1, qk1) _ _ _ _ d_Mo_readRatio_160 (show (false = true ↔ (RTOK t fr sl to ∧ 0 < (DGs t to 10 false (sl + 1) (0, 0, 0, false)).2.1)) ∧ (false = true → (DGs t to 10 true fr (0, 0, 0, false)).2.1 = v ∧ (DGs t to 10 false (sl + 1) (0, 0, 0, false)).2.1 = w) ∧ (BigOK pg1 pk1 v) ∧ (BigOK qg1 qk1 w) ∧ (0 ≤ v ∧ v < P2 4950 ∧ 0 ≤ w ∧ w < P2 4950) from ⟨⟨fun z => (by cases z), fun z => by exfalso; have y := hRE.1.mpr z.1; first | exact absurd y (by rw [c_2]; decide) | (have x := z.2; rw [(hRE.2 y).2] at x; omega)⟩, fun z => (by cases z), hP1, hQ1, ⟨hV.1, hv49, hW.1, hw49⟩⟩) (hP.sub [0, 1, 2, 3, 4, 5, 6] rfl) (hD.sub [0, 1, 2, 3, 4, 5, 6] (by decide) rfl) hS
          · skip
            refine wi_iconst (n := 1) hx hb d_Mo_readRatio_155 ?_
            refine lv_goto (tgt := 160) hx hb d_Mo_readRatio_156 (by decide) ?_
            refine w_as1 ?_
            exact ret (true, v, w, pg1, qg1, pk1, qk1) _ _ _ _ d_Mo_readRatio_160 (show (true = true ↔ (RTOK t fr sl to ∧ 0 < (DGs t to 10 false (sl + 1) (0, 0, 0, false)).2.1)) ∧ (true = true → (DGs t to 10 true fr (0, 0, 0, false)).2.1 = v ∧ (DGs t to 10 false (sl + 1) (0, 0, 0, false)).2.1 = w) ∧ (BigOK pg1 pk1 v) ∧ (BigOK qg1 qk1 w) ∧ (0 ≤ v ∧ v < P2 4950 ∧ 0 ≤ w ∧ w < P2 4950) from ⟨⟨fun _ => ⟨hRE.1.mp c_2, by rw [(hRE.2 c_2).2]; omega⟩, fun _ => rfl⟩, fun _ => hRE.2 c_2, hP1, hQ1, ⟨hV.1, hv49, hW.1, hw49⟩⟩) (hP.sub [0, 1, 2, 3, 4, 5, 6] rfl) (hD.sub [0, 1, 2, 3, 4, 5, 6] (by decide) rfl) hS
      · skip
        refine lv_iload hx hb d_Mo_readRatio_43 (lv_at hl 6 rfl) ?_
        refine lv_iload_n hx hb d_Mo_readRatio_45 rfl (lv_at hl 2 rfl) ?_
        refine wi_icmp_eq (tgt := 133) hx hb d_Mo_readRatio_46 (by decide) (by omega) (by omega) (fun c_4 => ?_) (fun c_4 => ?_)
        · skip
          refine wi_iinc (v := k + 1) (lv' := [(6, .int (iI (k + 1))), (0, .ref h), (1, .int (iI fr)), (2, .int (iI sl)), (3, .int (iI to)), (4, .ref h4), (5, .int (bI gd))]) hx hb d_Mo_readRatio_133 hl (k := 6) rfl rfl (by decide) rfl (fun ls hl => ?_)
          refine lv_goto (tgt := 37) hx hb d_Mo_readRatio_136 (by decide) ?_
          exact ih37 (k + 1) v w gd pg1 qg1 pk1 qk1 (hP1) (hQ1) (by omega) (by have e := c_4; rw [e] at hI ⊢; exact RTI_sl (by omega) hsl hI) (by rw [show k + 1 - fr = k - fr + 1 by omega]; exact rt_mo hV) (by rw [show k + 1 - fr = k - fr + 1 by omega]; exact rt_mo hW) (by omega) _ _ _ (lv_sub hl [1, 2, 3, 4, 5, 6, 0] rfl) (hP.sub [0, 1, 2, 3, 4, 5, 6] rfl) (hD.sub [0, 1, 2, 3, 4, 5, 6] (by decide) rfl) hS
        · skip
          refine lv_iload hx hb d_Mo_readRatio_49 (lv_at hl 5 rfl) ?_
          refine wb_if_eq (tgt := 71) hx hb d_Mo_readRatio_51 (by decide) (fun c_5 => ?_) (fun c_5 => ?_)
          · skip
            refine wi_iconst (n := 0) hx hb d_Mo_readRatio_71 ?_
            refine w_as0 ?_
            refine lv_istore (lv' := [(5, .int (bI false)), (0, .ref h), (1, .int (iI fr)), (2, .int (iI sl)), (3, .int (iI to)), (4, .ref h4), (6, .int (iI k))]) hx hb d_Mo_readRatio_72 hl (by decide) rfl (fun ls hl => ?_)
            refine lv_iload hx hb d_Mo_readRatio_74 (lv_at hl 0 rfl) ?_
            refine wb_if_eq (tgt := 108) hx hb d_Mo_readRatio_76 (by decide) (fun c_6 => ?_) (fun c_6 => by exfalso; exact absurd c_6 (by decide))
            refine lv_iload hx hb d_Mo_readRatio_108 (lv_at hl 0 rfl) ?_
            refine wb_if_eq (tgt := 133) hx hb d_Mo_readRatio_110 (by decide) (fun c_7 => ?_) (fun c_7 => by exfalso; exact absurd c_7 (by decide))
            refine wi_iinc (v := k + 1) (lv' := [(6, .int (iI (k + 1))), (5, .int (bI false)), (0, .ref h), (1, .int (iI fr)), (2, .int (iI sl)), (3, .int (iI to)), (4, .ref h4)]) hx hb d_Mo_readRatio_133 hl (k := 6) rfl rfl (by decide) rfl (fun ls hl => ?_)
            refine lv_goto (tgt := 37) hx hb d_Mo_readRatio_136 (by decide) ?_
            exact ih37 (k + 1) v w false pg1 qg1 pk1 qk1 (hP1) (hQ1) (by omega) (RTI_bad hI c_5) (by rw [show k + 1 - fr = k - fr + 1 by omega]; exact rt_mo hV) (by rw [show k + 1 - fr = k - fr + 1 by omega]; exact rt_mo hW) (by omega) _ _ _ (lv_sub hl [2, 3, 4, 5, 6, 1, 0] rfl) (hP.sub [0, 1, 2, 3, 4, 5, 6] rfl) (hD.sub [0, 1, 2, 3, 4, 5, 6] (by decide) rfl) hS
          · skip
            have htk := hT k (by omega) (by omega)
            refine lv_aload_n hx hb d_Mo_readRatio_54 rfl (lv_at hl 0 rfl) ?_
            refine wk_get B hP 0 rfl fl_Mo_107 (v := .ref mta) rfl d_Mo_readRatio_55 ?_
            refine lv_iload hx hb d_Mo_readRatio_58 (lv_at hl 6 rfl) ?_
            refine wi_iald hx hb hK hP 1 0 rfl rfl (by omega) (by omega) d_Mo_readRatio_60 ?_
            refine wk_callS (As := [.int (iI (t k))]) (rest := []) (wr := [(h, .inr (9, [.ref mlf, .ref mrt, .ref mpb, .ref mop, .int (iI mtz), .ref mta, .int (iI moz), .ref moa, .long (lI mrl), .long (lI mrh), .int (bI mno), .long (lI mlo), .long (lI mhi), .ref mo1, .ref mo2, .ref mo3, .ref mo4, .int (iI mms), .int (iI mex), .int (bI mgd), .int (bI mon)])), (mta, .inl (E.1, 400, .inl (ia t))), (h4, .inr (8, [.int (bI false), .ref pn9, .ref qn9, .int (iI 0)])), (pn9, .inr (7, [.ref pa9, .int (iI pk1)])), (pa9, .inl (E.1, 640, .inl (ia pg1))), (qn9, .inr (7, [.ref qa9, .int (iI qk1)])), (qa9, .inl (E.1, 640, .inl (ia qg1)))]) B gTB cl_Mo_156 (c_Mo_isDigit l D E (t k) (by omega)) ⟨⟨rfl, rfl⟩, Nat.le_of_ble_eq_true rfl, Nat.le_of_ble_eq_true rfl⟩ hP hD hS [] [0, 1, 2, 3, 4, 5, 6] rfl rfl (by decide) ⟨hl.2.1, hl.1⟩ rfl (Nat.le_of_ble_eq_true rfl) d_Mo_readRatio_61 ⟨Nat.le_of_ble_eq_true rfl, Nat.le_of_ble_eq_true rfl⟩ rfl (fun r_8 H locs hw hP hD hS => ?_)
            have hP : va_P D classes [(h, .inr (9, [.ref mlf, .ref mrt, .ref mpb, .ref mop, .int (iI mtz), .ref mta, .int (iI moz), .ref moa, .long (lI mrl), .long (lI mrh), .int (bI mno), .long (lI mlo), .long (lI mhi), .ref mo1, .ref mo2, .ref mo3, .ref mo4, .int (iI mms), .int (iI mex), .int (bI mgd), .int (bI mon)])), (mta, .inl (E.1, 400, .inl (ia t))), (h4, .inr (8, [.int (bI false), .ref pn9, .ref qn9, .int (iI 0)])), (pn9, .inr (7, [.ref pa9, .int (iI pk1)])), (pa9, .inl (E.1, 640, .inl (ia pg1))), (qn9, .inr (7, [.ref qa9, .int (iI qk1)])), (qa9, .inl (E.1, 640, .inl (ia qg1)))] H := hP
            have hD : va_D A [(h, .inr (9, [.ref mlf, .ref mrt, .ref mpb, .ref mop, .int (iI mtz), .ref mta, .int (iI moz), .ref moa, .long (lI mrl), .long (lI mrh), .int (bI mno), .long (lI mlo), .long (lI mhi), .ref mo1, .ref mo2, .ref mo3, .ref mo4, .int (iI mms), .int (iI mex), .int (bI mgd), .int (bI mon)])), (mta, .inl (E.1, 400, .inl (ia t))), (h4, .inr (8, [.int (bI false), .ref pn9, .ref qn9, .int (iI 0)])), (pn9, .inr (7, [.ref pa9, .int (iI pk1)])), (pa9, .inl (E.1, 640, .inl (ia pg1))), (qn9, .inr (7, [.ref qa9, .int (iI qk1)])), (qa9, .inl (E.1, 640, .inl (ia qg1)))] := hD
            have hw : (r_8 = decide (48 ≤ (t k) ∧ (t k) ≤ 57)) := hw
            have hr_9 := hw
            refine W.cs (g := F0 m 64 ls [.int (bI r_8)]) (cells' := 0) (slots' := 0) rfl rfl ?_
            subst hr_9
            refine wb_if_eq (tgt := 71) hx hb d_Mo_readRatio_64 (by decide) (fun c_10 => ?_) (fun c_10 => ?_)
            · skip
              refine wi_iconst (n := 0) hx hb d_Mo_readRatio_71 ?_
              refine w_as0 ?_
              refine lv_istore (lv' := [(5, .int (bI false)), (0, .ref h), (1, .int (iI fr)), (2, .int (iI sl)), (3, .int (iI to)), (4, .ref h4), (6, .int (iI k))]) hx hb d_Mo_readRatio_72 hl (by decide) rfl (fun ls hl => ?_)
              refine lv_iload hx hb d_Mo_readRatio_74 (lv_at hl 0 rfl) ?_
              refine wb_if_eq (tgt := 108) hx hb d_Mo_readRatio_76 (by decide) (fun c_11 => ?_) (fun c_11 => by exfalso; exact absurd c_11 (by decide))
              refine lv_iload hx hb d_Mo_readRatio_108 (lv_at hl 0 rfl) ?_
              refine wb_if_eq (tgt := 133) hx hb d_Mo_readRatio_110 (by decide) (fun c_12 => ?_) (fun c_12 => by exfalso; exact absurd c_12 (by decide))
              refine wi_iinc (v := k + 1) (lv' := [(6, .int (iI (k + 1))), (5, .int (bI false)), (0, .ref h), (1, .int (iI fr)), (2, .int (iI sl)), (3, .int (iI to)), (4, .ref h4)]) hx hb d_Mo_readRatio_133 hl (k := 6) rfl rfl (by decide) rfl (fun ls hl => ?_)
              refine lv_goto (tgt := 37) hx hb d_Mo_readRatio_136 (by decide) ?_
              exact ih37 (k + 1) v w false pg1 qg1 pk1 qk1 (hP1) (hQ1) (by omega) (RTI_non (by omega) hI c_5 (of_decide_eq_false c_10)) (by rw [show k + 1 - fr = k - fr + 1 by omega]; exact rt_mo hV) (by rw [show k + 1 - fr = k - fr + 1 by omega]; exact rt_mo hW) (by omega) _ _ _ (lv_sub hl [2, 3, 4, 5, 6, 1, 0] rfl) (hP.sub [0, 1, 2, 3, 4, 5, 6] rfl) (hD.sub [0, 1, 2, 3, 4, 5, 6] (by decide) rfl) hS
            · skip
              refine wi_iconst (n := 1) hx hb d_Mo_readRatio_67 ?_
              refine lv_goto (tgt := 72) hx hb d_Mo_readRatio_68 (by decide) ?_
              refine w_as1 ?_
              refine lv_istore (lv' := [(5, .int (bI true)), (0, .ref h), (1, .int (iI fr)), (2, .int (iI sl)), (3, .int (iI to)), (4, .ref h4), (6, .int (iI k))]) hx hb d_Mo_readRatio_72 hl (by decide) rfl (fun ls hl => ?_)
              refine lv_iload hx hb d_Mo_readRatio_74 (lv_at hl 0 rfl) ?_
              refine wb_if_eq (tgt := 108) hx hb d_Mo_readRatio_76 (by decide) (fun c_13 => by exfalso; exact absurd c_13 (by decide)) (fun c_13 => ?_)
              refine lv_iload hx hb d_Mo_readRatio_79 (lv_at hl 6 rfl) ?_
              refine lv_iload_n hx hb d_Mo_readRatio_81 rfl (lv_at hl 3 rfl) ?_
              refine wi_icmp_ge (tgt := 108) hx hb d_Mo_readRatio_82 (by decide) (by omega) (by omega) (fun c_14 => ?_) (fun c_14 => ?_)
              · skip
                refine lv_iload hx hb d_Mo_readRatio_108 (lv_at hl 0 rfl) ?_
                refine wb_if_eq (tgt := 133) hx hb d_Mo_readRatio_110 (by decide) (fun c_15 => by exfalso; exact absurd c_15 (by decide)) (fun c_15 => ?_)
                have hdg := of_decide_eq_true c_10
                have hvb := (rt_bd hW (by omega) hdg).2
                refine lv_aload hx hb d_Mo_readRatio_113 (lv_at hl 5 rfl) ?_
                refine wk_getN B hP 2 rfl fn_Num_2 (hE.1 _ (List.mem_of_getElem? (l := nestWs) (i := 9) rfl)) (v := .ref qn9) rfl d_Mo_readRatio_115 ?_
                refine wi_bipush hx hb d_Mo_readRatio_118 (by decide) ?_
                refine lv_aload_n hx hb d_Mo_readRatio_120 rfl (lv_at hl 1 rfl) ?_
                refine wk_get B hP 0 rfl fl_Mo_107 (v := .ref mta) rfl d_Mo_readRatio_121 ?_
                refine lv_iload hx hb d_Mo_readRatio_124 (lv_at hl 6 rfl) ?_
                refine wi_iald hx hb hK hP 1 0 rfl rfl (by omega) (by omega) d_Mo_readRatio_126 ?_
                refine wi_bipush hx hb d_Mo_readRatio_127 (by decide) ?_
                refine wi_isub hx hb d_Mo_readRatio_129 ?_
                refine wk_callV (As := [.int (iI 10), .int (iI (t k - 48))]) (rest := []) (wr := [(h, .inr (9, [.ref mlf, .ref mrt, .ref mpb, .ref mop, .int (iI mtz), .ref mta, .int (iI moz), .ref moa, .long (lI mrl), .long (lI mrh), .int (bI mno), .long (lI mlo), .long (lI mhi), .ref mo1, .ref mo2, .ref mo3, .ref mo4, .int (iI mms), .int (iI mex), .int (bI mgd), .int (bI mon)])), (mta, .inl (E.1, 400, .inl (ia t))), (h4, .inr (8, [.int (bI false), .ref pn9, .ref qn9, .int (iI 0)])), (pn9, .inr (7, [.ref pa9, .int (iI pk1)])), (pa9, .inl (E.1, 640, .inl (ia pg1)))]) B gTB cl_Mo_179 (c_Big_grow l D E qn9 qa9 qg1 qk1 10 (t k - 48) w (hQ1) (by omega) (by omega) (rd_fit hvb (by omega))) ⟨⟨rfl, rfl⟩, Nat.le_of_ble_eq_true rfl, Nat.le_of_ble_eq_true rfl⟩ hP hD hS [5, 6] [0, 1, 2, 3, 4] rfl rfl (by decide) 5 rfl rfl rfl ⟨hl.2.1, hl.1⟩ rfl (Nat.le_of_ble_eq_true rfl) d_Mo_readRatio_130 ⟨Nat.le_of_ble_eq_true rfl, Nat.le_of_ble_eq_true rfl⟩ rfl (fun u H locs hw hP hD hS => ?_)
                obtain ⟨g2_16, k2_17⟩ := u
                have hP : va_P D classes [(h, .inr (9, [.ref mlf, .ref mrt, .ref mpb, .ref mop, .int (iI mtz), .ref mta, .int (iI moz), .ref moa, .long (lI mrl), .long (lI mrh), .int (bI mno), .long (lI mlo), .long (lI mhi), .ref mo1, .ref mo2, .ref mo3, .ref mo4, .int (iI mms), .int (iI mex), .int (bI mgd), .int (bI mon)])), (mta, .inl (E.1, 400, .inl (ia t))), (h4, .inr (8, [.int (bI false), .ref pn9, .ref qn9, .int (iI 0)])), (pn9, .inr (7, [.ref pa9, .int (iI pk1)])), (pa9, .inl (E.1, 640, .inl (ia pg1))), (qn9, .inr (7, [.ref qa9, .int (iI k2_17)])), (qa9, .inl (E.1, 640, .inl (ia g2_16)))] H := hP
                have hD : va_D A [(h, .inr (9, [.ref mlf, .ref mrt, .ref mpb, .ref mop, .int (iI mtz), .ref mta, .int (iI moz), .ref moa, .long (lI mrl), .long (lI mrh), .int (bI mno), .long (lI mlo), .long (lI mhi), .ref mo1, .ref mo2, .ref mo3, .ref mo4, .int (iI mms), .int (iI mex), .int (bI mgd), .int (bI mon)])), (mta, .inl (E.1, 400, .inl (ia t))), (h4, .inr (8, [.int (bI false), .ref pn9, .ref qn9, .int (iI 0)])), (pn9, .inr (7, [.ref pa9, .int (iI pk1)])), (pa9, .inl (E.1, 640, .inl (ia pg1))), (qn9, .inr (7, [.ref qa9, .int (iI k2_17)])), (qa9, .inl (E.1, 640, .inl (ia g2_16)))] := hD
                have hw : (BigOK g2_16 k2_17 (w * 10 + (t k - 48))) := hw
                have hM9 := hw
                refine W.cs (g := F0 m 133 ls []) (cells' := 0) (slots' := 0) rfl rfl ?_
                refine wi_iinc (v := k + 1) (lv' := [(6, .int (iI (k + 1))), (5, .int (bI true)), (0, .ref h), (1, .int (iI fr)), (2, .int (iI sl)), (3, .int (iI to)), (4, .ref h4)]) hx hb d_Mo_readRatio_133 hl (k := 6) rfl rfl (by decide) rfl (fun ls hl => ?_)
                refine lv_goto (tgt := 37) hx hb d_Mo_readRatio_136 (by decide) ?_
                exact ih37 (k + 1) v (w * 10 + (t k - 48)) true pg1 g2_16 pk1 k2_17 (hP1) (hM9) (by omega) (RTI_bot (by omega) hI c_5 (of_decide_eq_true c_10)) (by rw [show k + 1 - fr = k - fr + 1 by omega]; exact rt_mo hV) (by rw [show k + 1 - fr = k - fr + 1 by omega]; exact rt_bd hW (by omega) (of_decide_eq_true c_10)) (by omega) _ _ _ (lv_sub hl [2, 3, 4, 5, 6, 1, 0] rfl) (hP.sub [0, 1, 2, 3, 4, 5, 6] rfl) (hD.sub [0, 1, 2, 3, 4, 5, 6] (by decide) rfl) hS
              · skip
                have hdg := of_decide_eq_true c_10
                have hvb := (rt_bd hV (by omega) hdg).2
                refine lv_aload hx hb d_Mo_readRatio_85 (lv_at hl 5 rfl) ?_
                refine wk_getN B hP 2 rfl fn_Num_1 (hE.1 _ (List.mem_of_getElem? (l := nestWs) (i := 8) rfl)) (v := .ref pn9) rfl d_Mo_readRatio_87 ?_
                refine wi_bipush hx hb d_Mo_readRatio_90 (by decide) ?_
                refine lv_aload_n hx hb d_Mo_readRatio_92 rfl (lv_at hl 1 rfl) ?_
                refine wk_get B hP 0 rfl fl_Mo_107 (v := .ref mta) rfl d_Mo_readRatio_93 ?_
                refine lv_iload hx hb d_Mo_readRatio_96 (lv_at hl 6 rfl) ?_
                refine wi_iald hx hb hK hP 1 0 rfl rfl (by omega) (by omega) d_Mo_readRatio_98 ?_
                refine wi_bipush hx hb d_Mo_readRatio_99 (by decide) ?_
                refine wi_isub hx hb d_Mo_readRatio_101 ?_
                refine wk_callV (As := [.int (iI 10), .int (iI (t k - 48))]) (rest := []) (wr := [(h, .inr (9, [.ref mlf, .ref mrt, .ref mpb, .ref mop, .int (iI mtz), .ref mta, .int (iI moz), .ref moa, .long (lI mrl), .long (lI mrh), .int (bI mno), .long (lI mlo), .long (lI mhi), .ref mo1, .ref mo2, .ref mo3, .ref mo4, .int (iI mms), .int (iI mex), .int (bI mgd), .int (bI mon)])), (mta, .inl (E.1, 400, .inl (ia t))), (h4, .inr (8, [.int (bI false), .ref pn9, .ref qn9, .int (iI 0)])), (qn9, .inr (7, [.ref qa9, .int (iI qk1)])), (qa9, .inl (E.1, 640, .inl (ia qg1)))]) B gTB cl_Mo_179 (c_Big_grow l D E pn9 pa9 pg1 pk1 10 (t k - 48) v (hP1) (by omega) (by omega) (rd_fit hvb (by omega))) ⟨⟨rfl, rfl⟩, Nat.le_of_ble_eq_true rfl, Nat.le_of_ble_eq_true rfl⟩ hP hD hS [3, 4] [0, 1, 2, 5, 6] rfl rfl (by decide) 3 rfl rfl rfl ⟨hl.2.1, hl.1⟩ rfl (Nat.le_of_ble_eq_true rfl) d_Mo_readRatio_102 ⟨Nat.le_of_ble_eq_true rfl, Nat.le_of_ble_eq_true rfl⟩ rfl (fun u H locs hw hP hD hS => ?_)
                obtain ⟨g2_18, k2_19⟩ := u
                have hP : va_P D classes [(h, .inr (9, [.ref mlf, .ref mrt, .ref mpb, .ref mop, .int (iI mtz), .ref mta, .int (iI moz), .ref moa, .long (lI mrl), .long (lI mrh), .int (bI mno), .long (lI mlo), .long (lI mhi), .ref mo1, .ref mo2, .ref mo3, .ref mo4, .int (iI mms), .int (iI mex), .int (bI mgd), .int (bI mon)])), (mta, .inl (E.1, 400, .inl (ia t))), (h4, .inr (8, [.int (bI false), .ref pn9, .ref qn9, .int (iI 0)])), (qn9, .inr (7, [.ref qa9, .int (iI qk1)])), (qa9, .inl (E.1, 640, .inl (ia qg1))), (pn9, .inr (7, [.ref pa9, .int (iI k2_19)])), (pa9, .inl (E.1, 640, .inl (ia g2_18)))] H := hP
                have hD : va_D A [(h, .inr (9, [.ref mlf, .ref mrt, .ref mpb, .ref mop, .int (iI mtz), .ref mta, .int (iI moz), .ref moa, .long (lI mrl), .long (lI mrh), .int (bI mno), .long (lI mlo), .long (lI mhi), .ref mo1, .ref mo2, .ref mo3, .ref mo4, .int (iI mms), .int (iI mex), .int (bI mgd), .int (bI mon)])), (mta, .inl (E.1, 400, .inl (ia t))), (h4, .inr (8, [.int (bI false), .ref pn9, .ref qn9, .int (iI 0)])), (qn9, .inr (7, [.ref qa9, .int (iI qk1)])), (qa9, .inl (E.1, 640, .inl (ia qg1))), (pn9, .inr (7, [.ref pa9, .int (iI k2_19)])), (pa9, .inl (E.1, 640, .inl (ia g2_18)))] := hD
                have hw : (BigOK g2_18 k2_19 (v * 10 + (t k - 48))) := hw
                have hM9 := hw
                refine W.cs (g := F0 m 105 ls []) (cells' := 0) (slots' := 0) rfl rfl ?_
                refine lv_goto (tgt := 133) hx hb d_Mo_readRatio_105 (by decide) ?_
                refine wi_iinc (v := k + 1) (lv' := [(6, .int (iI (k + 1))), (5, .int (bI true)), (0, .ref h), (1, .int (iI fr)), (2, .int (iI sl)), (3, .int (iI to)), (4, .ref h4)]) hx hb d_Mo_readRatio_133 hl (k := 6) rfl rfl (by decide) rfl (fun ls hl => ?_)
                refine lv_goto (tgt := 37) hx hb d_Mo_readRatio_136 (by decide) ?_
                exact ih37 (k + 1) (v * 10 + (t k - 48)) w true g2_18 qg1 k2_19 qk1 (hM9) (hQ1) (by omega) (RTI_top (by omega) hI c_5 (of_decide_eq_true c_10)) (by rw [show k + 1 - fr = k - fr + 1 by omega]; exact rt_bd hV (by omega) (of_decide_eq_true c_10)) (by rw [show k + 1 - fr = k - fr + 1 by omega]; exact rt_mo hW) (by omega) _ _ _ (lv_sub hl [2, 3, 4, 5, 6, 1, 0] rfl) (hP.sub [0, 1, 2, 5, 6, 3, 4] rfl) (hD.sub [0, 1, 2, 5, 6, 3, 4] (by decide) rfl) hS
  refine lv_iload_n hx hb d_Mo_readRatio_0 rfl (lv_at hl 2 rfl) ?_
  refine lv_iload_n hx hb d_Mo_readRatio_1 rfl (lv_at hl 1 rfl) ?_
  refine wi_icmp_le (tgt := 16) hx hb d_Mo_readRatio_2 (by decide) (by omega) (by omega) (fun c_20 => ?_) (fun c_20 => ?_)
  · skip
    refine wi_iconst (n := 0) hx hb d_Mo_readRatio_16 ?_
    refine w_as0 ?_
    refine lv_istore (lv' := [(5, .int (bI false)), (0, .ref h), (1, .int (iI fr)), (2, .int (iI sl)), (3, .int (iI to)), (4, .ref h4)]) hx hb d_Mo_readRatio_17 hl (by decide) rfl (fun ls hl => ?_)
    refine lv_aload hx hb d_Mo_readRatio_19 (lv_at hl 5 rfl) ?_
    refine wi_lconst (z := 0) hx hb d_Mo_readRatio_21 (by decide) ?_
    refine wk_callV (As := [.long (lI 0)]) (rest := []) (wr := [(h, .inr (9, [.ref mlf, .ref mrt, .ref mpb, .ref mop, .int (iI mtz), .ref mta, .int (iI moz), .ref moa, .long (lI mrl), .long (lI mrh), .int (bI mno), .long (lI mlo), .long (lI mhi), .ref mo1, .ref mo2, .ref mo3, .ref mo4, .int (iI mms), .int (iI mex), .int (bI mgd), .int (bI mon)])), (mta, .inl (E.1, 400, .inl (ia t)))]) B gTB cl_Mo_169 (c_Num_set l D E h4 pn9 pa9 qn9 qa9 pg9 qg9 pk9 qk9 ee9 be9 0 (by omega)) ⟨⟨rfl, rfl⟩, Nat.le_of_ble_eq_true rfl, Nat.le_of_ble_eq_true rfl⟩ hP hD hS [2, 3, 4, 5, 6] [0, 1] rfl rfl (by decide) 2 rfl rfl rfl ⟨hl.2.1, hl.1⟩ rfl (Nat.le_of_ble_eq_true rfl) d_Mo_readRatio_22 ⟨Nat.le_of_ble_eq_true rfl, Nat.le_of_ble_eq_true rfl⟩ rfl (fun u H locs hw hP hD hS => ?_)
    obtain ⟨pg2_21, qg2_22, pk2_23, qk2_24⟩ := u
    have hP : va_P D classes [(h, .inr (9, [.ref mlf, .ref mrt, .ref mpb, .ref mop, .int (iI mtz), .ref mta, .int (iI moz), .ref moa, .long (lI mrl), .long (lI mrh), .int (bI mno), .long (lI mlo), .long (lI mhi), .ref mo1, .ref mo2, .ref mo3, .ref mo4, .int (iI mms), .int (iI mex), .int (bI mgd), .int (bI mon)])), (mta, .inl (E.1, 400, .inl (ia t))), (h4, .inr (8, [.int (bI false), .ref pn9, .ref qn9, .int (iI 0)])), (pn9, .inr (7, [.ref pa9, .int (iI pk2_23)])), (pa9, .inl (E.1, 640, .inl (ia pg2_21))), (qn9, .inr (7, [.ref qa9, .int (iI qk2_24)])), (qa9, .inl (E.1, 640, .inl (ia qg2_22)))] H := hP
    have hD : va_D A [(h, .inr (9, [.ref mlf, .ref mrt, .ref mpb, .ref mop, .int (iI mtz), .ref mta, .int (iI moz), .ref moa, .long (lI mrl), .long (lI mrh), .int (bI mno), .long (lI mlo), .long (lI mhi), .ref mo1, .ref mo2, .ref mo3, .ref mo4, .int (iI mms), .int (iI mex), .int (bI mgd), .int (bI mon)])), (mta, .inl (E.1, 400, .inl (ia t))), (h4, .inr (8, [.int (bI false), .ref pn9, .ref qn9, .int (iI 0)])), (pn9, .inr (7, [.ref pa9, .int (iI pk2_23)])), (pa9, .inl (E.1, 640, .inl (ia pg2_21))), (qn9, .inr (7, [.ref qa9, .int (iI qk2_24)])), (qa9, .inl (E.1, 640, .inl (ia qg2_22)))] := hD
    have hw : (BigOK pg2_21 pk2_23 0) ∧ (BigOK qg2_22 qk2_24 1) := hw
    obtain ⟨hPs, hQs⟩ := hw
    refine W.cs (g := F0 m 25 ls []) (cells' := 0) (slots' := 0) rfl rfl ?_
    refine lv_aload hx hb d_Mo_readRatio_25 (lv_at hl 5 rfl) ?_
    refine wk_getN B hP 2 rfl fn_Num_2 (hE.1 _ (List.mem_of_getElem? (l := nestWs) (i := 9) rfl)) (v := .ref qn9) rfl d_Mo_readRatio_27 ?_
    refine wi_lconst (z := 0) hx hb d_Mo_readRatio_30 (by decide) ?_
    refine wk_callV (As := [.long (lI 0)]) (rest := []) (wr := [(h, .inr (9, [.ref mlf, .ref mrt, .ref mpb, .ref mop, .int (iI mtz), .ref mta, .int (iI moz), .ref moa, .long (lI mrl), .long (lI mrh), .int (bI mno), .long (lI mlo), .long (lI mhi), .ref mo1, .ref mo2, .ref mo3, .ref mo4, .int (iI mms), .int (iI mex), .int (bI mgd), .int (bI mon)])), (mta, .inl (E.1, 400, .inl (ia t))), (h4, .inr (8, [.int (bI false), .ref pn9, .ref qn9, .int (iI 0)])), (pn9, .inr (7, [.ref pa9, .int (iI pk2_23)])), (pa9, .inl (E.1, 640, .inl (ia pg2_21)))]) B gTB cl_Mo_206 (c_Big_set l D E qn9 qa9 qg2_22 qk2_24 0 (by omega)) ⟨⟨rfl, rfl⟩, Nat.le_of_ble_eq_true rfl, Nat.le_of_ble_eq_true rfl⟩ hP hD hS [5, 6] [0, 1, 2, 3, 4] rfl rfl (by decide) 5 rfl rfl rfl ⟨hl.2.1, hl.1⟩ rfl (Nat.le_of_ble_eq_true rfl) d_Mo_readRatio_31 ⟨Nat.le_of_ble_eq_true rfl, Nat.le_of_ble_eq_true rfl⟩ rfl (fun u H locs hw hP hD hS => ?_)
    obtain ⟨g2_25, k2_26⟩ := u
    have hP : va_P D classes [(h, .inr (9, [.ref mlf, .ref mrt, .ref mpb, .ref mop, .int (iI mtz), .ref mta, .int (iI moz), .ref moa, .long (lI mrl), .long (lI mrh), .int (bI mno), .long (lI mlo), .long (lI mhi), .ref mo1, .ref mo2, .ref mo3, .ref mo4, .int (iI mms), .int (iI mex), .int (bI mgd), .int (bI mon)])), (mta, .inl (E.1, 400, .inl (ia t))), (h4, .inr (8, [.int (bI false), .ref pn9, .ref qn9, .int (iI 0)])), (pn9, .inr (7, [.ref pa9, .int (iI pk2_23)])), (pa9, .inl (E.1, 640, .inl (ia pg2_21))), (qn9, .inr (7, [.ref qa9, .int (iI k2_26)])), (qa9, .inl (E.1, 640, .inl (ia g2_25)))] H := hP
    have hD : va_D A [(h, .inr (9, [.ref mlf, .ref mrt, .ref mpb, .ref mop, .int (iI mtz), .ref mta, .int (iI moz), .ref moa, .long (lI mrl), .long (lI mrh), .int (bI mno), .long (lI mlo), .long (lI mhi), .ref mo1, .ref mo2, .ref mo3, .ref mo4, .int (iI mms), .int (iI mex), .int (bI mgd), .int (bI mon)])), (mta, .inl (E.1, 400, .inl (ia t))), (h4, .inr (8, [.int (bI false), .ref pn9, .ref qn9, .int (iI 0)])), (pn9, .inr (7, [.ref pa9, .int (iI pk2_23)])), (pa9, .inl (E.1, 640, .inl (ia pg2_21))), (qn9, .inr (7, [.ref qa9, .int (iI k2_26)])), (qa9, .inl (E.1, 640, .inl (ia g2_25)))] := hD
    have hw : (BigOK g2_25 k2_26 0) := hw
    have hQ0 := hw
    refine W.cs (g := F0 m 34 ls []) (cells' := 0) (slots' := 0) rfl rfl ?_
    refine lv_iload_n hx hb d_Mo_readRatio_34 rfl (lv_at hl 2 rfl) ?_
    refine lv_istore (lv' := [(6, .int (iI fr)), (5, .int (bI false)), (0, .ref h), (1, .int (iI fr)), (2, .int (iI sl)), (3, .int (iI to)), (4, .ref h4)]) hx hb d_Mo_readRatio_35 hl (by decide) rfl (fun ls hl => ?_)
    exact K_37 ((to - fr : Int).toNat + 1) fr 0 0 false pg2_21 g2_25 pk2_23 k2_26 (hPs) (hQ0) (by omega) (by have q := RTI_0 (t := t) (fr := fr) (sl := sl) (to := to) (by omega); rw [decide_eq_false (by omega)] at q; exact q) (by rw [show 4 * (fr - fr) = 0 by omega, P2_0]; omega) (by rw [show 4 * (fr - fr) = 0 by omega, P2_0]; omega) (by omega) _ _ _ (lv_sub hl [2, 3, 4, 5, 6, 1, 0] rfl) (hP.sub [0, 1, 2, 3, 4, 5, 6] rfl) (hD.sub [0, 1, 2, 3, 4, 5, 6] (by decide) rfl) hS
  · skip
    refine lv_iload_n hx hb d_Mo_readRatio_5 rfl (lv_at hl 2 rfl) ?_
    refine wi_iconst (n := 1) hx hb d_Mo_readRatio_6 ?_
    refine wi_iadd hx hb d_Mo_readRatio_7 ?_
    refine lv_iload_n hx hb d_Mo_readRatio_8 rfl (lv_at hl 3 rfl) ?_
    refine wi_icmp_ge (tgt := 16) hx hb d_Mo_readRatio_9 (by decide) (by omega) (by omega) (fun c_27 => ?_) (fun c_27 => ?_)
    · skip
      refine wi_iconst (n := 0) hx hb d_Mo_readRatio_16 ?_
      refine w_as0 ?_
      refine lv_istore (lv' := [(5, .int (bI false)), (0, .ref h), (1, .int (iI fr)), (2, .int (iI sl)), (3, .int (iI to)), (4, .ref h4)]) hx hb d_Mo_readRatio_17 hl (by decide) rfl (fun ls hl => ?_)
      refine lv_aload hx hb d_Mo_readRatio_19 (lv_at hl 5 rfl) ?_
      refine wi_lconst (z := 0) hx hb d_Mo_readRatio_21 (by decide) ?_
      refine wk_callV (As := [.long (lI 0)]) (rest := []) (wr := [(h, .inr (9, [.ref mlf, .ref mrt, .ref mpb, .ref mop, .int (iI mtz), .ref mta, .int (iI moz), .ref moa, .long (lI mrl), .long (lI mrh), .int (bI mno), .long (lI mlo), .long (lI mhi), .ref mo1, .ref mo2, .ref mo3, .ref mo4, .int (iI mms), .int (iI mex), .int (bI mgd), .int (bI mon)])), (mta, .inl (E.1, 400, .inl (ia t)))]) B gTB cl_Mo_169 (c_Num_set l D E h4 pn9 pa9 qn9 qa9 pg9 qg9 pk9 qk9 ee9 be9 0 (by omega)) ⟨⟨rfl, rfl⟩, Nat.le_of_ble_eq_true rfl, Nat.le_of_ble_eq_true rfl⟩ hP hD hS [2, 3, 4, 5, 6] [0, 1] rfl rfl (by decide) 2 rfl rfl rfl ⟨hl.2.1, hl.1⟩ rfl (Nat.le_of_ble_eq_true rfl) d_Mo_readRatio_22 ⟨Nat.le_of_ble_eq_true rfl, Nat.le_of_ble_eq_true rfl⟩ rfl (fun u H locs hw hP hD hS => ?_)
      obtain ⟨pg2_28, qg2_29, pk2_30, qk2_31⟩ := u
      have hP : va_P D classes [(h, .inr (9, [.ref mlf, .ref mrt, .ref mpb, .ref mop, .int (iI mtz), .ref mta, .int (iI moz), .ref moa, .long (lI mrl), .long (lI mrh), .int (bI mno), .long (lI mlo), .long (lI mhi), .ref mo1, .ref mo2, .ref mo3, .ref mo4, .int (iI mms), .int (iI mex), .int (bI mgd), .int (bI mon)])), (mta, .inl (E.1, 400, .inl (ia t))), (h4, .inr (8, [.int (bI false), .ref pn9, .ref qn9, .int (iI 0)])), (pn9, .inr (7, [.ref pa9, .int (iI pk2_30)])), (pa9, .inl (E.1, 640, .inl (ia pg2_28))), (qn9, .inr (7, [.ref qa9, .int (iI qk2_31)])), (qa9, .inl (E.1, 640, .inl (ia qg2_29)))] H := hP
      have hD : va_D A [(h, .inr (9, [.ref mlf, .ref mrt, .ref mpb, .ref mop, .int (iI mtz), .ref mta, .int (iI moz), .ref moa, .long (lI mrl), .long (lI mrh), .int (bI mno), .long (lI mlo), .long (lI mhi), .ref mo1, .ref mo2, .ref mo3, .ref mo4, .int (iI mms), .int (iI mex), .int (bI mgd), .int (bI mon)])), (mta, .inl (E.1, 400, .inl (ia t))), (h4, .inr (8, [.int (bI false), .ref pn9, .ref qn9, .int (iI 0)])), (pn9, .inr (7, [.ref pa9, .int (iI pk2_30)])), (pa9, .inl (E.1, 640, .inl (ia pg2_28))), (qn9, .inr (7, [.ref qa9, .int (iI qk2_31)])), (qa9, .inl (E.1, 640, .inl (ia qg2_29)))] := hD
      have hw : (BigOK pg2_28 pk2_30 0) ∧ (BigOK qg2_29 qk2_31 1) := hw
      obtain ⟨hPs, hQs⟩ := hw
      refine W.cs (g := F0 m 25 ls []) (cells' := 0) (slots' := 0) rfl rfl ?_
      refine lv_aload hx hb d_Mo_readRatio_25 (lv_at hl 5 rfl) ?_
      refine wk_getN B hP 2 rfl fn_Num_2 (hE.1 _ (List.mem_of_getElem? (l := nestWs) (i := 9) rfl)) (v := .ref qn9) rfl d_Mo_readRatio_27 ?_
      refine wi_lconst (z := 0) hx hb d_Mo_readRatio_30 (by decide) ?_
      refine wk_callV (As := [.long (lI 0)]) (rest := []) (wr := [(h, .inr (9, [.ref mlf, .ref mrt, .ref mpb, .ref mop, .int (iI mtz), .ref mta, .int (iI moz), .ref moa, .long (lI mrl), .long (lI mrh), .int (bI mno), .long (lI mlo), .long (lI mhi), .ref mo1, .ref mo2, .ref mo3, .ref mo4, .int (iI mms), .int (iI mex), .int (bI mgd), .int (bI mon)])), (mta, .inl (E.1, 400, .inl (ia t))), (h4, .inr (8, [.int (bI false), .ref pn9, .ref qn9, .int (iI 0)])), (pn9, .inr (7, [.ref pa9, .int (iI pk2_30)])), (pa9, .inl (E.1, 640, .inl (ia pg2_28)))]) B gTB cl_Mo_206 (c_Big_set l D E qn9 qa9 qg2_29 qk2_31 0 (by omega)) ⟨⟨rfl, rfl⟩, Nat.le_of_ble_eq_true rfl, Nat.le_of_ble_eq_true rfl⟩ hP hD hS [5, 6] [0, 1, 2, 3, 4] rfl rfl (by decide) 5 rfl rfl rfl ⟨hl.2.1, hl.1⟩ rfl (Nat.le_of_ble_eq_true rfl) d_Mo_readRatio_31 ⟨Nat.le_of_ble_eq_true rfl, Nat.le_of_ble_eq_true rfl⟩ rfl (fun u H locs hw hP hD hS => ?_)
      obtain ⟨g2_32, k2_33⟩ := u
      have hP : va_P D classes [(h, .inr (9, [.ref mlf, .ref mrt, .ref mpb, .ref mop, .int (iI mtz), .ref mta, .int (iI moz), .ref moa, .long (lI mrl), .long (lI mrh), .int (bI mno), .long (lI mlo), .long (lI mhi), .ref mo1, .ref mo2, .ref mo3, .ref mo4, .int (iI mms), .int (iI mex), .int (bI mgd), .int (bI mon)])), (mta, .inl (E.1, 400, .inl (ia t))), (h4, .inr (8, [.int (bI false), .ref pn9, .ref qn9, .int (iI 0)])), (pn9, .inr (7, [.ref pa9, .int (iI pk2_30)])), (pa9, .inl (E.1, 640, .inl (ia pg2_28))), (qn9, .inr (7, [.ref qa9, .int (iI k2_33)])), (qa9, .inl (E.1, 640, .inl (ia g2_32)))] H := hP
      have hD : va_D A [(h, .inr (9, [.ref mlf, .ref mrt, .ref mpb, .ref mop, .int (iI mtz), .ref mta, .int (iI moz), .ref moa, .long (lI mrl), .long (lI mrh), .int (bI mno), .long (lI mlo), .long (lI mhi), .ref mo1, .ref mo2, .ref mo3, .ref mo4, .int (iI mms), .int (iI mex), .int (bI mgd), .int (bI mon)])), (mta, .inl (E.1, 400, .inl (ia t))), (h4, .inr (8, [.int (bI false), .ref pn9, .ref qn9, .int (iI 0)])), (pn9, .inr (7, [.ref pa9, .int (iI pk2_30)])), (pa9, .inl (E.1, 640, .inl (ia pg2_28))), (qn9, .inr (7, [.ref qa9, .int (iI k2_33)])), (qa9, .inl (E.1, 640, .inl (ia g2_32)))] := hD
      have hw : (BigOK g2_32 k2_33 0) := hw
      have hQ0 := hw
      refine W.cs (g := F0 m 34 ls []) (cells' := 0) (slots' := 0) rfl rfl ?_
      refine lv_iload_n hx hb d_Mo_readRatio_34 rfl (lv_at hl 2 rfl) ?_
      refine lv_istore (lv' := [(6, .int (iI fr)), (5, .int (bI false)), (0, .ref h), (1, .int (iI fr)), (2, .int (iI sl)), (3, .int (iI to)), (4, .ref h4)]) hx hb d_Mo_readRatio_35 hl (by decide) rfl (fun ls hl => ?_)
      exact K_37 ((to - fr : Int).toNat + 1) fr 0 0 false pg2_28 g2_32 pk2_30 k2_33 (hPs) (hQ0) (by omega) (by have q := RTI_0 (t := t) (fr := fr) (sl := sl) (to := to) (by omega); rw [decide_eq_false (by omega)] at q; exact q) (by rw [show 4 * (fr - fr) = 0 by omega, P2_0]; omega) (by rw [show 4 * (fr - fr) = 0 by omega, P2_0]; omega) (by omega) _ _ _ (lv_sub hl [2, 3, 4, 5, 6, 1, 0] rfl) (hP.sub [0, 1, 2, 3, 4, 5, 6] rfl) (hD.sub [0, 1, 2, 3, 4, 5, 6] (by decide) rfl) hS
    · skip
      refine wi_iconst (n := 1) hx hb d_Mo_readRatio_12 ?_
      refine lv_goto (tgt := 17) hx hb d_Mo_readRatio_13 (by decide) ?_
      refine w_as1 ?_
      refine lv_istore (lv' := [(5, .int (bI true)), (0, .ref h), (1, .int (iI fr)), (2, .int (iI sl)), (3, .int (iI to)), (4, .ref h4)]) hx hb d_Mo_readRatio_17 hl (by decide) rfl (fun ls hl => ?_)
      refine lv_aload hx hb d_Mo_readRatio_19 (lv_at hl 5 rfl) ?_
      refine wi_lconst (z := 0) hx hb d_Mo_readRatio_21 (by decide) ?_
      refine wk_callV (As := [.long (lI 0)]) (rest := []) (wr := [(h, .inr (9, [.ref mlf, .ref mrt, .ref mpb, .ref mop, .int (iI mtz), .ref mta, .int (iI moz), .ref moa, .long (lI mrl), .long (lI mrh), .int (bI mno), .long (lI mlo), .long (lI mhi), .ref mo1, .ref mo2, .ref mo3, .ref mo4, .int (iI mms), .int (iI mex), .int (bI mgd), .int (bI mon)])), (mta, .inl (E.1, 400, .inl (ia t)))]) B gTB cl_Mo_169 (c_Num_set l D E h4 pn9 pa9 qn9 qa9 pg9 qg9 pk9 qk9 ee9 be9 0 (by omega)) ⟨⟨rfl, rfl⟩, Nat.le_of_ble_eq_true rfl, Nat.le_of_ble_eq_true rfl⟩ hP hD hS [2, 3, 4, 5, 6] [0, 1] rfl rfl (by decide) 2 rfl rfl rfl ⟨hl.2.1, hl.1⟩ rfl (Nat.le_of_ble_eq_true rfl) d_Mo_readRatio_22 ⟨Nat.le_of_ble_eq_true rfl, Nat.le_of_ble_eq_true rfl⟩ rfl (fun u H locs hw hP hD hS => ?_)
      obtain ⟨pg2_34, qg2_35, pk2_36, qk2_37⟩ := u
      have hP : va_P D classes [(h, .inr (9, [.ref mlf, .ref mrt, .ref mpb, .ref mop, .int (iI mtz), .ref mta, .int (iI moz), .ref moa, .long (lI mrl), .long (lI mrh), .int (bI mno), .long (lI mlo), .long (lI mhi), .ref mo1, .ref mo2, .ref mo3, .ref mo4, .int (iI mms), .int (iI mex), .int (bI mgd), .int (bI mon)])), (mta, .inl (E.1, 400, .inl (ia t))), (h4, .inr (8, [.int (bI false), .ref pn9, .ref qn9, .int (iI 0)])), (pn9, .inr (7, [.ref pa9, .int (iI pk2_36)])), (pa9, .inl (E.1, 640, .inl (ia pg2_34))), (qn9, .inr (7, [.ref qa9, .int (iI qk2_37)])), (qa9, .inl (E.1, 640, .inl (ia qg2_35)))] H := hP
      have hD : va_D A [(h, .inr (9, [.ref mlf, .ref mrt, .ref mpb, .ref mop, .int (iI mtz), .ref mta, .int (iI moz), .ref moa, .long (lI mrl), .long (lI mrh), .int (bI mno), .long (lI mlo), .long (lI mhi), .ref mo1, .ref mo2, .ref mo3, .ref mo4, .int (iI mms), .int (iI mex), .int (bI mgd), .int (bI mon)])), (mta, .inl (E.1, 400, .inl (ia t))), (h4, .inr (8, [.int (bI false), .ref pn9, .ref qn9, .int (iI 0)])), (pn9, .inr (7, [.ref pa9, .int (iI pk2_36)])), (pa9, .inl (E.1, 640, .inl (ia pg2_34))), (qn9, .inr (7, [.ref qa9, .int (iI qk2_37)])), (qa9, .inl (E.1, 640, .inl (ia qg2_35)))] := hD
      have hw : (BigOK pg2_34 pk2_36 0) ∧ (BigOK qg2_35 qk2_37 1) := hw
      obtain ⟨hPs, hQs⟩ := hw
      refine W.cs (g := F0 m 25 ls []) (cells' := 0) (slots' := 0) rfl rfl ?_
      refine lv_aload hx hb d_Mo_readRatio_25 (lv_at hl 5 rfl) ?_
      refine wk_getN B hP 2 rfl fn_Num_2 (hE.1 _ (List.mem_of_getElem? (l := nestWs) (i := 9) rfl)) (v := .ref qn9) rfl d_Mo_readRatio_27 ?_
      refine wi_lconst (z := 0) hx hb d_Mo_readRatio_30 (by decide) ?_
      refine wk_callV (As := [.long (lI 0)]) (rest := []) (wr := [(h, .inr (9, [.ref mlf, .ref mrt, .ref mpb, .ref mop, .int (iI mtz), .ref mta, .int (iI moz), .ref moa, .long (lI mrl), .long (lI mrh), .int (bI mno), .long (lI mlo), .long (lI mhi), .ref mo1, .ref mo2, .ref mo3, .ref mo4, .int (iI mms), .int (iI mex), .int (bI mgd), .int (bI mon)])), (mta, .inl (E.1, 400, .inl (ia t))), (h4, .inr (8, [.int (bI false), .ref pn9, .ref qn9, .int (iI 0)])), (pn9, .inr (7, [.ref pa9, .int (iI pk2_36)])), (pa9, .inl (E.1, 640, .inl (ia pg2_34)))]) B gTB cl_Mo_206 (c_Big_set l D E qn9 qa9 qg2_35 qk2_37 0 (by omega)) ⟨⟨rfl, rfl⟩, Nat.le_of_ble_eq_true rfl, Nat.le_of_ble_eq_true rfl⟩ hP hD hS [5, 6] [0, 1, 2, 3, 4] rfl rfl (by decide) 5 rfl rfl rfl ⟨hl.2.1, hl.1⟩ rfl (Nat.le_of_ble_eq_true rfl) d_Mo_readRatio_31 ⟨Nat.le_of_ble_eq_true rfl, Nat.le_of_ble_eq_true rfl⟩ rfl (fun u H locs hw hP hD hS => ?_)
      obtain ⟨g2_38, k2_39⟩ := u
      have hP : va_P D classes [(h, .inr (9, [.ref mlf, .ref mrt, .ref mpb, .ref mop, .int (iI mtz), .ref mta, .int (iI moz), .ref moa, .long (lI mrl), .long (lI mrh), .int (bI mno), .long (lI mlo), .long (lI mhi), .ref mo1, .ref mo2, .ref mo3, .ref mo4, .int (iI mms), .int (iI mex), .int (bI mgd), .int (bI mon)])), (mta, .inl (E.1, 400, .inl (ia t))), (h4, .inr (8, [.int (bI false), .ref pn9, .ref qn9, .int (iI 0)])), (pn9, .inr (7, [.ref pa9, .int (iI pk2_36)])), (pa9, .inl (E.1, 640, .inl (ia pg2_34))), (qn9, .inr (7, [.ref qa9, .int (iI k2_39)])), (qa9, .inl (E.1, 640, .inl (ia g2_38)))] H := hP
      have hD : va_D A [(h, .inr (9, [.ref mlf, .ref mrt, .ref mpb, .ref mop, .int (iI mtz), .ref mta, .int (iI moz), .ref moa, .long (lI mrl), .long (lI mrh), .int (bI mno), .long (lI mlo), .long (lI mhi), .ref mo1, .ref mo2, .ref mo3, .ref mo4, .int (iI mms), .int (iI mex), .int (bI mgd), .int (bI mon)])), (mta, .inl (E.1, 400, .inl (ia t))), (h4, .inr (8, [.int (bI false), .ref pn9, .ref qn9, .int (iI 0)])), (pn9, .inr (7, [.ref pa9, .int (iI pk2_36)])), (pa9, .inl (E.1, 640, .inl (ia pg2_34))), (qn9, .inr (7, [.ref qa9, .int (iI k2_39)])), (qa9, .inl (E.1, 640, .inl (ia g2_38)))] := hD
      have hw : (BigOK g2_38 k2_39 0) := hw
      have hQ0 := hw
      refine W.cs (g := F0 m 34 ls []) (cells' := 0) (slots' := 0) rfl rfl ?_
      refine lv_iload_n hx hb d_Mo_readRatio_34 rfl (lv_at hl 2 rfl) ?_
      refine lv_istore (lv' := [(6, .int (iI fr)), (5, .int (bI true)), (0, .ref h), (1, .int (iI fr)), (2, .int (iI sl)), (3, .int (iI to)), (4, .ref h4)]) hx hb d_Mo_readRatio_35 hl (by decide) rfl (fun ls hl => ?_)
      exact K_37 ((to - fr : Int).toNat + 1) fr 0 0 true pg2_34 g2_38 pk2_36 k2_39 (hPs) (hQ0) (by omega) (by have q := RTI_0 (t := t) (fr := fr) (sl := sl) (to := to) (by omega); rw [decide_eq_true (by omega)] at q; exact q) (by rw [show 4 * (fr - fr) = 0 by omega, P2_0]; omega) (by rw [show 4 * (fr - fr) = 0 by omega, P2_0]; omega) (by omega) _ _ _ (lv_sub hl [2, 3, 4, 5, 6, 1, 0] rfl) (hP.sub [0, 1, 2, 3, 4, 5, 6] rfl) (hD.sub [0, 1, 2, 3, 4, 5, 6] (by decide) rfl) hS
