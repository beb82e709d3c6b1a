theorem pick_all {α β : Type} {P : α → β → Prop} (h : ∀ x, ∃ y, P x y) : ∃ f : α → β, ∀ x, P x (f x) := ⟨fun x => Classical.choose (h x), fun x => Classical.choose_spec (h x)⟩
/-- classes, arrays, texts, statics -/
theorem start_env {s : State} {args : Array Value} (hl : ∀ w ∈ lw_tbl, w.before args s = true) (hg : GN.before args s = true) : ∃ (D : va_G) (E : EVt), va_K D classes (tyl E) s ∧ EVX E (fun q : Nat => s.heap.size ≤ q) s s.heap := by
  have hts : ∀ w ∈ TB, w.before args s = true := fun w h => hl w (List.mem_filter.mp h).1
  have hA : ∀ a : Nat, a < s.heap.size → ¬ (fun q : Nat => s.heap.size ≤ q) a := fun a h => Nat.not_le.mpr h
  obtain ⟨c0, d0, k0⟩ := u_known (C := R_Natural) (T := F_Natural) (N := 2) hts i_Natural (hts (Cond.instantiable R_Natural 2) (tb_t (List.mem_append_left _ (List.mem_of_getElem? (l := tables_1_1) (i := 48) rfl)) rfl))
  obtain ⟨c1, d1, k1⟩ := u_known (C := R_Ratio) (T := F_Ratio) (N := 4) hts i_Ratio (hts (Cond.instantiable R_Ratio 4) (tb_t (List.mem_append_left _ (List.mem_of_getElem? (l := tables_1_1) (i := 86) rfl)) rfl))
  obtain ⟨c2, d2, k2⟩ := u_known (C := R_Arithmetic) (T := F_Arithmetic) (N := 4) hts i_Arithmetic (hts (Cond.instantiable R_Arithmetic 4) (tb_t (List.mem_append_left _ (List.mem_of_getElem? (l := tables_1_1) (i := 42) rfl)) rfl))
  obtain ⟨c3, d3, k3⟩ := u_known (C := R_Row) (T := F_Row) (N := 2) hts i_Row (hts (Cond.instantiable R_Row 2) (tb_t (List.mem_append_left _ (List.mem_of_getElem? (l := tables_1_1) (i := 25) rfl)) rfl))
  obtain ⟨c4, d4, k4⟩ := u_known (C := R_Scanner) (T := F_Scanner) (N := 12) hts i_Scanner (hts (Cond.instantiable R_Scanner 12) (tb_t (List.mem_append_left _ (List.mem_of_getElem? (l := tables_1_1) (i := 80) rfl)) rfl))
  obtain ⟨c5, d5, k5⟩ := u_known (C := R_Printer) (T := F_Printer) (N := 3) hts i_Printer (hts (Cond.instantiable R_Printer 3) (tb_t (List.mem_append_left _ (List.mem_of_getElem? (l := tables_1_1) (i := 165) rfl)) rfl))
  obtain ⟨c6, d6, k6⟩ := u_known (C := R_IT) (T := F_IT) (N := 7) hts i_IT (hts (Cond.instantiable R_IT 7) (tb_t (List.mem_append_left _ (List.mem_of_getElem? (l := tables_1_1) (i := 17) rfl)) rfl))
  obtain ⟨c7, d7, k7⟩ := u_known (C := R_Big) (T := F_Big) (N := 2) hts i_Big (hts (Cond.instantiable R_Big 2) (tb_t (List.mem_append_right _ (List.mem_append_right _ (List.mem_append_left _ (List.mem_of_getElem? (l := tables_1_3) (i := 109) rfl)))) rfl))
  obtain ⟨c8, d8, k8⟩ := u_known (C := R_Num) (T := F_Num) (N := 4) hts i_Num (hts (Cond.instantiable R_Num 4) (tb_t (List.mem_append_right _ (List.mem_append_right _ (List.mem_append_left _ (List.mem_of_getElem? (l := tables_1_3) (i := 124) rfl)))) rfl))
  obtain ⟨c9, d9, k9⟩ := u_known (C := R_Mo) (T := F_Mo) (N := 21) hts i_Mo (hts (Cond.instantiable R_Mo 21) (tb_t (List.mem_append_right _ (List.mem_append_right _ (List.mem_append_left _ (List.mem_of_getElem? (l := tables_1_3) (i := 103) rfl)))) rfl))
  obtain ⟨ci, ki, pi, fi1, fi2, fi3⟩ := Cond.arrayClass_spec (hts _ tw_arr_int)
  obtain ⟨cc, kc, pc, fc1, fc2, fc3⟩ := Cond.arrayClass_spec (hts _ tw_arr_char)
  obtain ⟨f, hf⟩ := pick_all (so_all hA hl hg)
  obtain ⟨fv, hfv, hft⟩ := va_Tof (N := 13) (f := fun j => .int (iI (fives.getD j 0))) (by decide) (flat_of_before _ hg (Cond.arrayOf (Term.static "IntervalText" "FIVES" "[I") .int) (by decide +kernel)) (va_eqt (flat_of_before _ hg _ (by decide +kernel))) (fun j hj => match j, hj with
    | 0, _ => va_eqt (flat_of_before _ hg _ (by decide +kernel))
    | 1, _ => va_eqt (flat_of_before _ hg _ (by decide +kernel))
    | 2, _ => va_eqt (flat_of_before _ hg _ (by decide +kernel))
    | 3, _ => va_eqt (flat_of_before _ hg _ (by decide +kernel))
    | 4, _ => va_eqt (flat_of_before _ hg _ (by decide +kernel))
    | 5, _ => va_eqt (flat_of_before _ hg _ (by decide +kernel))
    | 6, _ => va_eqt (flat_of_before _ hg _ (by decide +kernel))
    | 7, _ => va_eqt (flat_of_before _ hg _ (by decide +kernel))
    | 8, _ => va_eqt (flat_of_before _ hg _ (by decide +kernel))
    | 9, _ => va_eqt (flat_of_before _ hg _ (by decide +kernel))
    | 10, _ => va_eqt (flat_of_before _ hg _ (by decide +kernel))
    | 11, _ => va_eqt (flat_of_before _ hg _ (by decide +kernel))
    | 12, _ => va_eqt (flat_of_before _ hg _ (by decide +kernel))
    | j + 13, h => absurd h (by omega)) hA
  have zF := va_Zref (hl _ (List.mem_append_right _ (List.mem_append_right _ (List.mem_append_left _ (List.mem_of_getElem? (l := tables_1_2) (i := 118) rfl))))) (hl _ (List.mem_append_right _ (List.mem_append_left _ (List.mem_of_getElem? (l := tables_1_1) (i := 1) rfl)))) hfv hA
  have zC : va_Z "java/lang/String" "COMPACT_STRINGS" "Z" (.int (bI true)) (fun q : Nat => s.heap.size ≤ q) s s.heap := va_Zof (hl _ (List.mem_append_right _ (List.mem_append_right _ (List.mem_append_left _ (List.mem_of_getElem? (l := tables_1_2) (i := 22) rfl))))) (hl _ (List.mem_append_right _ (List.mem_append_left _ (List.mem_of_getElem? (l := tables_1_1) (i := 11) rfl)))) (va_eqi (z := 1) (flat_of_before _ hg _ (by decide +kernel))) hA
  have zS := va_Zqof (hl _ (List.mem_append_right _ (List.mem_append_right _ (List.mem_append_left _ (List.mem_of_getElem? (l := tables_1_2) (i := 38) rfl))))) (hl _ (List.mem_append_right _ (List.mem_append_left _ (List.mem_of_getElem? (l := tables_1_1) (i := 13) rfl)))) (flat_of_before _ hg (Cond.isRef (Term.static "jdk/internal/util/Preconditions" "SIOOBE_FORMATTER" "Ljava/util/function/BiFunction;")) (by decide +kernel)) hA
  obtain ⟨pv, zP, hpv⟩ : ∃ pv : Value, va_Z "jdk/internal/util/Preconditions" "SIOOBE_FORMATTER" "Ljava/util/function/BiFunction;" pv (fun q : Nat => s.heap.size ≤ q) s s.heap ∧ (pv = .null ∨ ∃ a : Nat, pv = .ref a) := by
    rcases zS with z | ⟨t, z⟩
    · exact ⟨.null, z, Or.inl rfl⟩
    · exact ⟨.ref t, z, Or.inr ⟨t, rfl⟩⟩
  refine ⟨(fun i => match i with | 0 => c0 | 1 => c1 | 2 => c2 | 3 => c3 | 4 => c4 | 5 => c5 | 6 => c6 | 7 => c7 | 8 => c8 | _ => c9, fun i => match i with | 0 => d0 | 1 => d1 | 2 => d2 | 3 => d3 | 4 => d4 | 5 => d5 | 6 => d6 | 7 => d7 | 8 => d8 | _ => d9), (ci, cc, fun i => (f i).1, fun i => (f i).2, fv, pv), ⟨?_, ?_⟩, ?_⟩
  · intro c q h
    match c, h with
    | 0, h => cases h; exact k0
    | 1, h => cases h; exact k1
    | 2, h => cases h; exact k2
    | 3, h => cases h; exact k3
    | 4, h => cases h; exact k4
    | 5, h => cases h; exact k5
    | 6, h => cases h; exact k6
    | 7, h => cases h; exact k7
    | 8, h => cases h; exact k8
    | 9, h => cases h; exact k9
    | c + 10, h => cases h
  · intro k q h
    match k, h with
    | 0, h => cases h; exact ⟨fun n z => ⟨fun k h => (by cases h), ki, fi2, pi, fi3⟩, fi1⟩
    | 1, h => cases h; exact ⟨fun n z => ⟨fun k h => (by cases h), kc, fc2, pc, fc3⟩, fc1⟩
    | k + 2, h => cases h
  · refine ⟨?_, fun i q hq => ?_, fun i hi => ⟨(hf i hi).2.1, (hf i hi).2.2.1, (hf i hi).2.2.2.1, (hf i hi).2.2.2.2⟩, zC, zF, hft, zP, hpv⟩
    · intro w hw
      refine va_Nw.of (nest_on w hw) (hl w ?_)
      simp only [nestWs, List.mem_cons, List.not_mem_nil, or_false] at hw
      rcases hw with rfl | rfl | rfl | rfl | rfl | rfl | rfl | rfl | rfl | rfl | rfl
      · exact List.mem_append_right _ (List.mem_append_right _ (List.mem_append_left _ (List.mem_of_getElem? (l := tables_1_2) (i := 117) rfl)))
      · exact List.mem_append_right _ (List.mem_append_right _ (List.mem_append_left _ (List.mem_of_getElem? (l := tables_1_2) (i := 201) rfl)))
      · exact List.mem_append_right _ (List.mem_append_right _ (List.mem_append_right _ (List.mem_append_left _ (List.mem_of_getElem? (l := tables_1_3) (i := 110) rfl))))
      · exact List.mem_append_right _ (List.mem_append_right _ (List.mem_append_right _ (List.mem_append_left _ (List.mem_of_getElem? (l := tables_1_3) (i := 116) rfl))))
      · exact List.mem_append_right _ (List.mem_append_right _ (List.mem_append_right _ (List.mem_append_left _ (List.mem_of_getElem? (l := tables_1_3) (i := 117) rfl))))
      · exact List.mem_append_right _ (List.mem_append_right _ (List.mem_append_right _ (List.mem_append_left _ (List.mem_of_getElem? (l := tables_1_3) (i := 125) rfl))))
      · exact List.mem_append_right _ (List.mem_append_right _ (List.mem_append_right _ (List.mem_append_left _ (List.mem_of_getElem? (l := tables_1_3) (i := 130) rfl))))
      · exact List.mem_append_right _ (List.mem_append_right _ (List.mem_append_right _ (List.mem_append_left _ (List.mem_of_getElem? (l := tables_1_3) (i := 132) rfl))))
      · exact List.mem_append_right _ (List.mem_append_right _ (List.mem_append_right _ (List.mem_append_left _ (List.mem_of_getElem? (l := tables_1_3) (i := 134) rfl))))
      · exact List.mem_append_right _ (List.mem_append_right _ (List.mem_append_right _ (List.mem_append_left _ (List.mem_of_getElem? (l := tables_1_3) (i := 135) rfl))))
      · exact List.mem_append_right _ (List.mem_append_right _ (List.mem_append_right _ (List.mem_append_left _ (List.mem_of_getElem? (l := tables_1_3) (i := 137) rfl))))
    · have hi : i < 43 := by
        rcases Nat.lt_or_ge i 43 with z | z
        · exact z
        · have : strRefs[i]? = none := List.getElem?_eq_none z
          rw [this] at hq; cases hq
      exact (hf i hi).1 q hq
