/-! markText -/
abbrev b_IT_markText : ByteArray := prog_1_method_15_code
def y_IT_markText : MethodName := ⟨"IntervalText", "markText", "(I)Ljava/lang/String;"⟩
theorem d_IT_markText_0 : decode b_IT_markText 0 = .ok (.iload_n 0, 1) := by decide +kernel
theorem d_IT_markText_1 : decode b_IT_markText 1 = .ok (.tableswitch 36 2 4 #[33, 30, 27], 27) := by decide +kernel
theorem d_IT_markText_28 : decode b_IT_markText 28 = .ok (.ldc 156, 2) := by decide +kernel
theorem d_IT_markText_30 : decode b_IT_markText 30 = .ok (.areturn, 1) := by decide +kernel
theorem d_IT_markText_31 : decode b_IT_markText 31 = .ok (.ldc 158, 2) := by decide +kernel
theorem d_IT_markText_33 : decode b_IT_markText 33 = .ok (.areturn, 1) := by decide +kernel
theorem d_IT_markText_34 : decode b_IT_markText 34 = .ok (.ldc 160, 2) := by decide +kernel
theorem d_IT_markText_36 : decode b_IT_markText 36 = .ok (.areturn, 1) := by decide +kernel
theorem d_IT_markText_37 : decode b_IT_markText 37 = .ok (.ldc 162, 2) := by decide +kernel
theorem d_IT_markText_39 : decode b_IT_markText 39 = .ok (.areturn, 1) := by decide +kernel
set_option maxHeartbeats 4000000 in
set_option maxRecDepth 100000 in
theorem c_IT_markText (l : Launch) (D : va_G) (E : EVt) (mk : Int) (hmk : 0 ≤ mk ∧ mk < 100) : CT l D classes (tyl E) (EVX E) y_IT_markText (Cond.code y_IT_markText b_IT_markText 1 (some (.object "java/lang/String")) :: TB) (rmK 0 0 0 0) 0 0 [.int (iI mk)] [] (S := Nat) (fun _ => []) (fun u => some (.ref u)) (fun u => (u = E.2.2.1 (mkI mk))) := by
  refine CT.ofr (fv := fun (u : Nat) => u) (eok E) (by decide) rfl (Nat.le_of_ble_eq_true rfl) (Or.inl ⟨_, rfl⟩) ?_
  intro p e s m args below meth c A Q ls B hmn hP hD hS hl ret
  have B : Bd l D classes (tyl E) (EVX E) p m c b_IT_markText 1 s args (Cond.code y_IT_markText b_IT_markText 1 (some (.object "java/lang/String")) :: TB) R_IT A := B
  obtain ⟨⟨hx, hb, hml, hown, hts⟩, hX, hK, hE, hA⟩ := id B
  have hl : lv_has ls 1 [(0, .int (iI mk))] := hl
  have hP : va_P D classes [] s.heap := hP
  have hD : va_D A [] := hD
  refine lv_iload_n hx hb d_IT_markText_0 rfl (lv_at hl 0 rfl) ?_
  rcases (show mk = 4 ∨ mk = 3 ∨ mk = 2 ∨ (mk < 2 ∨ 4 < mk) by omega) with z | z | z | z
  · skip
    refine lv_tableIn (dflt := 36) (lo := 2) (hi := 4) (offs := #[33, 30, 27]) (off := 27) (tgt := 28) hx hb d_IT_markText_1 (by rw [iI_toInt (by omega)]; omega) (by rw [iI_toInt (by omega)]; omega) (by rw [iI_toInt (by omega), z]; rfl) (by decide) ?_
    refine va_ldcS hx hb hown (sr_14 hE) d_IT_markText_28 ?_
    exact ret (E.2.2.1 14) _ _ _ _ d_IT_markText_30 (show ((E.2.2.1 14) = E.2.2.1 (mkI mk)) from (by rw [z]; rfl)) (hP.sub [] rfl) (hD.sub [] (by decide) rfl) hS
  · skip
    refine lv_tableIn (dflt := 36) (lo := 2) (hi := 4) (offs := #[33, 30, 27]) (off := 30) (tgt := 31) hx hb d_IT_markText_1 (by rw [iI_toInt (by omega)]; omega) (by rw [iI_toInt (by omega)]; omega) (by rw [iI_toInt (by omega), z]; rfl) (by decide) ?_
    refine va_ldcS hx hb hown (sr_15 hE) d_IT_markText_31 ?_
    exact ret (E.2.2.1 15) _ _ _ _ d_IT_markText_33 (show ((E.2.2.1 15) = E.2.2.1 (mkI mk)) from (by rw [z]; rfl)) (hP.sub [] rfl) (hD.sub [] (by decide) rfl) hS
  · skip
    refine lv_tableIn (dflt := 36) (lo := 2) (hi := 4) (offs := #[33, 30, 27]) (off := 33) (tgt := 34) hx hb d_IT_markText_1 (by rw [iI_toInt (by omega)]; omega) (by rw [iI_toInt (by omega)]; omega) (by rw [iI_toInt (by omega), z]; rfl) (by decide) ?_
    refine va_ldcS hx hb hown (sr_16 hE) d_IT_markText_34 ?_
    exact ret (E.2.2.1 16) _ _ _ _ d_IT_markText_36 (show ((E.2.2.1 16) = E.2.2.1 (mkI mk)) from (by rw [z]; rfl)) (hP.sub [] rfl) (hD.sub [] (by decide) rfl) hS
  · skip
    refine lv_tableOut (dflt := 36) (lo := 2) (hi := 4) (offs := #[33, 30, 27]) (tgt := 37) hx hb d_IT_markText_1 (by rw [iI_toInt (by omega)]; omega) (by decide) ?_
    refine va_ldcS hx hb hown (sr_17 hE) d_IT_markText_37 ?_
    exact ret (E.2.2.1 17) _ _ _ _ d_IT_markText_39 (show ((E.2.2.1 17) = E.2.2.1 (mkI mk)) from (by unfold mkI; rw [if_neg (by omega), if_neg (by omega), if_neg (by omega)])) (hP.sub [] rfl) (hD.sub [] (by decide) rfl) hS
