/-! THE START: texts, statics and links as the Statement gives them -/
theorem va_OFof {args : Array Value} {s : State} {tm : Term} {o n d : String} {v : Value} {a : Nat} {A : Nat → Prop} (ht : tm.eval args s none [] s = some (.ref a)) (h : (Term.field tm o n d).eval args s none [] s = some v) (hA : ∀ a : Nat, a < s.heap.size → ¬ A a) : va_OF o n d v a A s s.heap := by
  cases hi : s.fieldFound? o n d with
  | none => simp [Term.eval, ht, State.fieldOf?, State.fieldNamed?, hi] at h
  | some q =>
    obtain ⟨cf, k, i, f⟩ := q
    obtain ⟨h1, cell, h2, h3, h4, h5, h6⟩ := Term.field_spec hi ht h
    exact ⟨cf, k, i, f, cell, hi, h1, h2, h3, h6, hA a (Array.getElem?_eq_some_iff.mp h2).1⟩
abbrev GN : Cond := Jvm.Cond.and given_1 narrow_1
theorem str_of {args : Array Value} {s : State} {A : Nat → Prop} {own tx : String} {k i : Nat} (hi : strLen i < 100) (hA : ∀ a : Nat, a < s.heap.size → ¬ A a) (hr : (Cond.stringRef own k tx).before args s = true) (hex : (Cond.exactly (Term.string own k) "java/lang/String").before args s = true)
    (hc : (Cond.eq (Term.field (Term.string own k) "java/lang/String" "coder" "B") (Term.int 0)).before args s = true) (ha : (Cond.arrayOf (Term.field (Term.string own k) "java/lang/String" "value" "[B") .byte).before args s = true)
    (hl : (Cond.eq (Term.length (Term.field (Term.string own k) "java/lang/String" "value" "[B")) (Term.int (Int32.ofNat (strLen i)))).before args s = true)
    (he : ∀ j : Nat, j < strLen i → (Cond.eq (Term.elem (Term.field (Term.string own k) "java/lang/String" "value" "[B") (Term.int (Int32.ofNat j))) (Term.int (iI (strCh i (j : Int))))).before args s = true) :
    ∃ q : Nat × Nat, vk_R own k tx q.1 s ∧ va_O "java/lang/String" q.1 A s s.heap ∧ va_OF "java/lang/String" "coder" "B" (.int (iI 0)) q.1 A s s.heap ∧ va_OF "java/lang/String" "value" "[B" (.ref q.2) q.1 A s s.heap ∧ va_T .byte q.2 (strLen i) (fun j => .int (iI (strCh i (j : Int)))) A s s.heap := by
  obtain ⟨a, c, cell, kk, q1, -⟩ := Cond.exactly_spec (args := args) (first := s) (o := none) (s := s) (idx := []) (t := Term.string own k) (cls := "java/lang/String") hex
  obtain ⟨t, h1, h2⟩ := va_Tof (by omega) ha (va_eqt hl) (fun j hj => va_eqt (he j hj)) hA
  exact ⟨(a, t), vk_R.of hr q1, va_Oof hex q1 hA, va_OFof q1 (va_eqt hc) hA, va_OFof q1 h1 hA, h2⟩
theorem so_0 {args : Array Value} {s : State} {A : Nat → Prop} (hA : ∀ a : Nat, a < s.heap.size → ¬ A a) (hts : ∀ w ∈ lw_tbl, w.before args s = true) (hg : GN.before args s = true) : ∃ q : Nat × Nat, vk_R "IntervalText$Scanner" 80 "[" q.1 s ∧ va_O "java/lang/String" q.1 A s s.heap ∧ va_OF "java/lang/String" "coder" "B" (.int (iI 0)) q.1 A s s.heap ∧ va_OF "java/lang/String" "value" "[B" (.ref q.2) q.1 A s s.heap ∧ va_T .byte q.2 (strLen 0) (fun j => .int (iI (strCh 0 (j : Int)))) A s s.heap :=
  str_of (i := 0) (by decide) hA (hts _ (List.mem_append_right _ (List.mem_append_right _ (List.mem_append_left _ (List.mem_of_getElem? (l := tables_1_2) (i := 8) rfl))))) (flat_of_before _ hg _ (by decide +kernel)) (flat_of_before _ hg _ (by decide +kernel)) (flat_of_before _ hg _ (by decide +kernel)) (flat_of_before _ hg _ (by decide +kernel)) (fun j hj => match j, hj with
    | 0, _ => flat_of_before _ hg _ (by decide +kernel)
    | j + 1, h => absurd (show j + 1 < 1 from h) (by omega))
theorem so_1 {args : Array Value} {s : State} {A : Nat → Prop} (hA : ∀ a : Nat, a < s.heap.size → ¬ A a) (hts : ∀ w ∈ lw_tbl, w.before args s = true) (hg : GN.before args s = true) : ∃ q : Nat × Nat, vk_R "IntervalText$Scanner" 82 "empty" q.1 s ∧ va_O "java/lang/String" q.1 A s s.heap ∧ va_OF "java/lang/String" "coder" "B" (.int (iI 0)) q.1 A s s.heap ∧ va_OF "java/lang/String" "value" "[B" (.ref q.2) q.1 A s s.heap ∧ va_T .byte q.2 (strLen 1) (fun j => .int (iI (strCh 1 (j : Int)))) A s s.heap :=
  str_of (i := 1) (by decide) hA (hts _ (List.mem_append_right _ (List.mem_append_right _ (List.mem_append_left _ (List.mem_of_getElem? (l := tables_1_2) (i := 61) rfl))))) (flat_of_before _ hg _ (by decide +kernel)) (flat_of_before _ hg _ (by decide +kernel)) (flat_of_before _ hg _ (by decide +kernel)) (flat_of_before _ hg _ (by decide +kernel)) (fun j hj => match j, hj with
    | 0, _ => flat_of_before _ hg _ (by decide +kernel)
    | 1, _ => flat_of_before _ hg _ (by decide +kernel)
    | 2, _ => flat_of_before _ hg _ (by decide +kernel)
    | 3, _ => flat_of_before _ hg _ (by decide +kernel)
    | 4, _ => flat_of_before _ hg _ (by decide +kernel)
    | j + 5, h => absurd (show j + 5 < 5 from h) (by omega))
theorem so_2 {args : Array Value} {s : State} {A : Nat → Prop} (hA : ∀ a : Nat, a < s.heap.size → ¬ A a) (hts : ∀ w ∈ lw_tbl, w.before args s = true) (hg : GN.before args s = true) : ∃ q : Nat × Nat, vk_R "IntervalText$Scanner" 117 "]" q.1 s ∧ va_O "java/lang/String" q.1 A s s.heap ∧ va_OF "java/lang/String" "coder" "B" (.int (iI 0)) q.1 A s s.heap ∧ va_OF "java/lang/String" "value" "[B" (.ref q.2) q.1 A s s.heap ∧ va_T .byte q.2 (strLen 2) (fun j => .int (iI (strCh 2 (j : Int)))) A s s.heap :=
  str_of (i := 2) (by decide) hA (hts _ (List.mem_append_right _ (List.mem_append_right _ (List.mem_append_left _ (List.mem_of_getElem? (l := tables_1_2) (i := 66) rfl))))) (flat_of_before _ hg _ (by decide +kernel)) (flat_of_before _ hg _ (by decide +kernel)) (flat_of_before _ hg _ (by decide +kernel)) (flat_of_before _ hg _ (by decide +kernel)) (fun j hj => match j, hj with
    | 0, _ => flat_of_before _ hg _ (by decide +kernel)
    | j + 1, h => absurd (show j + 1 < 1 from h) (by omega))
theorem so_3 {args : Array Value} {s : State} {A : Nat → Prop} (hA : ∀ a : Nat, a < s.heap.size → ¬ A a) (hts : ∀ w ∈ lw_tbl, w.before args s = true) (hg : GN.before args s = true) : ∃ q : Nat × Nat, vk_R "IntervalText$Scanner" 87 "entire" q.1 s ∧ va_O "java/lang/String" q.1 A s s.heap ∧ va_OF "java/lang/String" "coder" "B" (.int (iI 0)) q.1 A s s.heap ∧ va_OF "java/lang/String" "value" "[B" (.ref q.2) q.1 A s s.heap ∧ va_T .byte q.2 (strLen 3) (fun j => .int (iI (strCh 3 (j : Int)))) A s s.heap :=
  str_of (i := 3) (by decide) hA (hts _ (List.mem_append_right _ (List.mem_append_right _ (List.mem_append_left _ (List.mem_of_getElem? (l := tables_1_2) (i := 67) rfl))))) (flat_of_before _ hg _ (by decide +kernel)) (flat_of_before _ hg _ (by decide +kernel)) (flat_of_before _ hg _ (by decide +kernel)) (flat_of_before _ hg _ (by decide +kernel)) (fun j hj => match j, hj with
    | 0, _ => flat_of_before _ hg _ (by decide +kernel)
    | 1, _ => flat_of_before _ hg _ (by decide +kernel)
    | 2, _ => flat_of_before _ hg _ (by decide +kernel)
    | 3, _ => flat_of_before _ hg _ (by decide +kernel)
    | 4, _ => flat_of_before _ hg _ (by decide +kernel)
    | 5, _ => flat_of_before _ hg _ (by decide +kernel)
    | j + 6, h => absurd (show j + 6 < 6 from h) (by omega))
theorem so_4 {args : Array Value} {s : State} {A : Nat → Prop} (hA : ∀ a : Nat, a < s.heap.size → ¬ A a) (hts : ∀ w ∈ lw_tbl, w.before args s = true) (hg : GN.before args s = true) : ∃ q : Nat × Nat, vk_R "IntervalText$Scanner" 92 "-inf" q.1 s ∧ va_O "java/lang/String" q.1 A s s.heap ∧ va_OF "java/lang/String" "coder" "B" (.int (iI 0)) q.1 A s s.heap ∧ va_OF "java/lang/String" "value" "[B" (.ref q.2) q.1 A s s.heap ∧ va_T .byte q.2 (strLen 4) (fun j => .int (iI (strCh 4 (j : Int)))) A s s.heap :=
  str_of (i := 4) (by decide) hA (hts _ (List.mem_append_right _ (List.mem_append_right _ (List.mem_append_left _ (List.mem_of_getElem? (l := tables_1_2) (i := 72) rfl))))) (flat_of_before _ hg _ (by decide +kernel)) (flat_of_before _ hg _ (by decide +kernel)) (flat_of_before _ hg _ (by decide +kernel)) (flat_of_before _ hg _ (by decide +kernel)) (fun j hj => match j, hj with
    | 0, _ => flat_of_before _ hg _ (by decide +kernel)
    | 1, _ => flat_of_before _ hg _ (by decide +kernel)
    | 2, _ => flat_of_before _ hg _ (by decide +kernel)
    | 3, _ => flat_of_before _ hg _ (by decide +kernel)
    | j + 4, h => absurd (show j + 4 < 4 from h) (by omega))
theorem so_5 {args : Array Value} {s : State} {A : Nat → Prop} (hA : ∀ a : Nat, a < s.heap.size → ¬ A a) (hts : ∀ w ∈ lw_tbl, w.before args s = true) (hg : GN.before args s = true) : ∃ q : Nat × Nat, vk_R "IntervalText$Scanner" 119 "inity" q.1 s ∧ va_O "java/lang/String" q.1 A s s.heap ∧ va_OF "java/lang/String" "coder" "B" (.int (iI 0)) q.1 A s s.heap ∧ va_OF "java/lang/String" "value" "[B" (.ref q.2) q.1 A s s.heap ∧ va_T .byte q.2 (strLen 5) (fun j => .int (iI (strCh 5 (j : Int)))) A s s.heap :=
  str_of (i := 5) (by decide) hA (hts _ (List.mem_append_right _ (List.mem_append_right _ (List.mem_append_left _ (List.mem_of_getElem? (l := tables_1_2) (i := 77) rfl))))) (flat_of_before _ hg _ (by decide +kernel)) (flat_of_before _ hg _ (by decide +kernel)) (flat_of_before _ hg _ (by decide +kernel)) (flat_of_before _ hg _ (by decide +kernel)) (fun j hj => match j, hj with
    | 0, _ => flat_of_before _ hg _ (by decide +kernel)
    | 1, _ => flat_of_before _ hg _ (by decide +kernel)
    | 2, _ => flat_of_before _ hg _ (by decide +kernel)
    | 3, _ => flat_of_before _ hg _ (by decide +kernel)
    | 4, _ => flat_of_before _ hg _ (by decide +kernel)
    | j + 5, h => absurd (show j + 5 < 5 from h) (by omega))
theorem so_6 {args : Array Value} {s : State} {A : Nat → Prop} (hA : ∀ a : Nat, a < s.heap.size → ¬ A a) (hts : ∀ w ∈ lw_tbl, w.before args s = true) (hg : GN.before args s = true) : ∃ q : Nat × Nat, vk_R "IntervalText$Scanner" 128 "0x" q.1 s ∧ va_O "java/lang/String" q.1 A s s.heap ∧ va_OF "java/lang/String" "coder" "B" (.int (iI 0)) q.1 A s s.heap ∧ va_OF "java/lang/String" "value" "[B" (.ref q.2) q.1 A s s.heap ∧ va_T .byte q.2 (strLen 6) (fun j => .int (iI (strCh 6 (j : Int)))) A s s.heap :=
  str_of (i := 6) (by decide) hA (hts _ (List.mem_append_right _ (List.mem_append_right _ (List.mem_append_left _ (List.mem_of_getElem? (l := tables_1_2) (i := 90) rfl))))) (flat_of_before _ hg _ (by decide +kernel)) (flat_of_before _ hg _ (by decide +kernel)) (flat_of_before _ hg _ (by decide +kernel)) (flat_of_before _ hg _ (by decide +kernel)) (fun j hj => match j, hj with
    | 0, _ => flat_of_before _ hg _ (by decide +kernel)
    | 1, _ => flat_of_before _ hg _ (by decide +kernel)
    | j + 2, h => absurd (show j + 2 < 2 from h) (by omega))
theorem so_7 {args : Array Value} {s : State} {A : Nat → Prop} (hA : ∀ a : Nat, a < s.heap.size → ¬ A a) (hts : ∀ w ∈ lw_tbl, w.before args s = true) (hg : GN.before args s = true) : ∃ q : Nat × Nat, vk_R "IntervalText$Scanner" 153 "/" q.1 s ∧ va_O "java/lang/String" q.1 A s s.heap ∧ va_OF "java/lang/String" "coder" "B" (.int (iI 0)) q.1 A s s.heap ∧ va_OF "java/lang/String" "value" "[B" (.ref q.2) q.1 A s s.heap ∧ va_T .byte q.2 (strLen 7) (fun j => .int (iI (strCh 7 (j : Int)))) A s s.heap :=
  str_of (i := 7) (by decide) hA (hts _ (List.mem_append_right _ (List.mem_append_right _ (List.mem_append_left _ (List.mem_of_getElem? (l := tables_1_2) (i := 108) rfl))))) (flat_of_before _ hg _ (by decide +kernel)) (flat_of_before _ hg _ (by decide +kernel)) (flat_of_before _ hg _ (by decide +kernel)) (flat_of_before _ hg _ (by decide +kernel)) (fun j hj => match j, hj with
    | 0, _ => flat_of_before _ hg _ (by decide +kernel)
    | j + 1, h => absurd (show j + 1 < 1 from h) (by omega))
theorem so_8 {args : Array Value} {s : State} {A : Nat → Prop} (hA : ∀ a : Nat, a < s.heap.size → ¬ A a) (hts : ∀ w ∈ lw_tbl, w.before args s = true) (hg : GN.before args s = true) : ∃ q : Nat × Nat, vk_R "IntervalText$Scanner" 105 "," q.1 s ∧ va_O "java/lang/String" q.1 A s s.heap ∧ va_OF "java/lang/String" "coder" "B" (.int (iI 0)) q.1 A s s.heap ∧ va_OF "java/lang/String" "value" "[B" (.ref q.2) q.1 A s s.heap ∧ va_T .byte q.2 (strLen 8) (fun j => .int (iI (strCh 8 (j : Int)))) A s s.heap :=
  str_of (i := 8) (by decide) hA (hts _ (List.mem_append_right _ (List.mem_append_right _ (List.mem_append_left _ (List.mem_of_getElem? (l := tables_1_2) (i := 131) rfl))))) (flat_of_before _ hg _ (by decide +kernel)) (flat_of_before _ hg _ (by decide +kernel)) (flat_of_before _ hg _ (by decide +kernel)) (flat_of_before _ hg _ (by decide +kernel)) (fun j hj => match j, hj with
    | 0, _ => flat_of_before _ hg _ (by decide +kernel)
    | j + 1, h => absurd (show j + 1 < 1 from h) (by omega))
theorem so_9 {args : Array Value} {s : State} {A : Nat → Prop} (hA : ∀ a : Nat, a < s.heap.size → ¬ A a) (hts : ∀ w ∈ lw_tbl, w.before args s = true) (hg : GN.before args s = true) : ∃ q : Nat × Nat, vk_R "IntervalText$Scanner" 107 "inf" q.1 s ∧ va_O "java/lang/String" q.1 A s s.heap ∧ va_OF "java/lang/String" "coder" "B" (.int (iI 0)) q.1 A s s.heap ∧ va_OF "java/lang/String" "value" "[B" (.ref q.2) q.1 A s s.heap ∧ va_T .byte q.2 (strLen 9) (fun j => .int (iI (strCh 9 (j : Int)))) A s s.heap :=
  str_of (i := 9) (by decide) hA (hts _ (List.mem_append_right _ (List.mem_append_right _ (List.mem_append_left _ (List.mem_of_getElem? (l := tables_1_2) (i := 132) rfl))))) (flat_of_before _ hg _ (by decide +kernel)) (flat_of_before _ hg _ (by decide +kernel)) (flat_of_before _ hg _ (by decide +kernel)) (flat_of_before _ hg _ (by decide +kernel)) (fun j hj => match j, hj with
    | 0, _ => flat_of_before _ hg _ (by decide +kernel)
    | 1, _ => flat_of_before _ hg _ (by decide +kernel)
    | 2, _ => flat_of_before _ hg _ (by decide +kernel)
    | j + 3, h => absurd (show j + 3 < 3 from h) (by omega))
theorem so_10 {args : Array Value} {s : State} {A : Nat → Prop} (hA : ∀ a : Nat, a < s.heap.size → ¬ A a) (hts : ∀ w ∈ lw_tbl, w.before args s = true) (hg : GN.before args s = true) : ∃ q : Nat × Nat, vk_R "IntervalText$Scanner" 109 "+inf" q.1 s ∧ va_O "java/lang/String" q.1 A s s.heap ∧ va_OF "java/lang/String" "coder" "B" (.int (iI 0)) q.1 A s s.heap ∧ va_OF "java/lang/String" "value" "[B" (.ref q.2) q.1 A s s.heap ∧ va_T .byte q.2 (strLen 10) (fun j => .int (iI (strCh 10 (j : Int)))) A s s.heap :=
  str_of (i := 10) (by decide) hA (hts _ (List.mem_append_right _ (List.mem_append_right _ (List.mem_append_left _ (List.mem_of_getElem? (l := tables_1_2) (i := 133) rfl))))) (flat_of_before _ hg _ (by decide +kernel)) (flat_of_before _ hg _ (by decide +kernel)) (flat_of_before _ hg _ (by decide +kernel)) (flat_of_before _ hg _ (by decide +kernel)) (fun j hj => match j, hj with
    | 0, _ => flat_of_before _ hg _ (by decide +kernel)
    | 1, _ => flat_of_before _ hg _ (by decide +kernel)
    | 2, _ => flat_of_before _ hg _ (by decide +kernel)
    | 3, _ => flat_of_before _ hg _ (by decide +kernel)
    | j + 4, h => absurd (show j + 4 < 4 from h) (by omega))
theorem so_11 {args : Array Value} {s : State} {A : Nat → Prop} (hA : ∀ a : Nat, a < s.heap.size → ¬ A a) (hts : ∀ w ∈ lw_tbl, w.before args s = true) (hg : GN.before args s = true) : ∃ q : Nat × Nat, vk_R "IntervalText$Scanner" 163 "?" q.1 s ∧ va_O "java/lang/String" q.1 A s s.heap ∧ va_OF "java/lang/String" "coder" "B" (.int (iI 0)) q.1 A s s.heap ∧ va_OF "java/lang/String" "value" "[B" (.ref q.2) q.1 A s s.heap ∧ va_T .byte q.2 (strLen 11) (fun j => .int (iI (strCh 11 (j : Int)))) A s s.heap :=
  str_of (i := 11) (by decide) hA (hts _ (List.mem_append_right _ (List.mem_append_right _ (List.mem_append_left _ (List.mem_of_getElem? (l := tables_1_2) (i := 174) rfl))))) (flat_of_before _ hg _ (by decide +kernel)) (flat_of_before _ hg _ (by decide +kernel)) (flat_of_before _ hg _ (by decide +kernel)) (flat_of_before _ hg _ (by decide +kernel)) (fun j hj => match j, hj with
    | 0, _ => flat_of_before _ hg _ (by decide +kernel)
    | j + 1, h => absurd (show j + 1 < 1 from h) (by omega))
theorem so_12 {args : Array Value} {s : State} {A : Nat → Prop} (hA : ∀ a : Nat, a < s.heap.size → ¬ A a) (hts : ∀ w ∈ lw_tbl, w.before args s = true) (hg : GN.before args s = true) : ∃ q : Nat × Nat, vk_R "IntervalText$Scanner" 173 "u" q.1 s ∧ va_O "java/lang/String" q.1 A s s.heap ∧ va_OF "java/lang/String" "coder" "B" (.int (iI 0)) q.1 A s s.heap ∧ va_OF "java/lang/String" "value" "[B" (.ref q.2) q.1 A s s.heap ∧ va_T .byte q.2 (strLen 12) (fun j => .int (iI (strCh 12 (j : Int)))) A s s.heap :=
  str_of (i := 12) (by decide) hA (hts _ (List.mem_append_right _ (List.mem_append_right _ (List.mem_append_left _ (List.mem_of_getElem? (l := tables_1_2) (i := 175) rfl))))) (flat_of_before _ hg _ (by decide +kernel)) (flat_of_before _ hg _ (by decide +kernel)) (flat_of_before _ hg _ (by decide +kernel)) (flat_of_before _ hg _ (by decide +kernel)) (fun j hj => match j, hj with
    | 0, _ => flat_of_before _ hg _ (by decide +kernel)
    | j + 1, h => absurd (show j + 1 < 1 from h) (by omega))
theorem so_13 {args : Array Value} {s : State} {A : Nat → Prop} (hA : ∀ a : Nat, a < s.heap.size → ¬ A a) (hts : ∀ w ∈ lw_tbl, w.before args s = true) (hg : GN.before args s = true) : ∃ q : Nat × Nat, vk_R "IntervalText$Scanner" 175 "d" q.1 s ∧ va_O "java/lang/String" q.1 A s s.heap ∧ va_OF "java/lang/String" "coder" "B" (.int (iI 0)) q.1 A s s.heap ∧ va_OF "java/lang/String" "value" "[B" (.ref q.2) q.1 A s s.heap ∧ va_T .byte q.2 (strLen 13) (fun j => .int (iI (strCh 13 (j : Int)))) A s s.heap :=
  str_of (i := 13) (by decide) hA (hts _ (List.mem_append_right _ (List.mem_append_right _ (List.mem_append_left _ (List.mem_of_getElem? (l := tables_1_2) (i := 176) rfl))))) (flat_of_before _ hg _ (by decide +kernel)) (flat_of_before _ hg _ (by decide +kernel)) (flat_of_before _ hg _ (by decide +kernel)) (flat_of_before _ hg _ (by decide +kernel)) (fun j hj => match j, hj with
    | 0, _ => flat_of_before _ hg _ (by decide +kernel)
    | j + 1, h => absurd (show j + 1 < 1 from h) (by omega))
theorem so_14 {args : Array Value} {s : State} {A : Nat → Prop} (hA : ∀ a : Nat, a < s.heap.size → ¬ A a) (hts : ∀ w ∈ lw_tbl, w.before args s = true) (hg : GN.before args s = true) : ∃ q : Nat × Nat, vk_R "IntervalText" 156 "_com" q.1 s ∧ va_O "java/lang/String" q.1 A s s.heap ∧ va_OF "java/lang/String" "coder" "B" (.int (iI 0)) q.1 A s s.heap ∧ va_OF "java/lang/String" "value" "[B" (.ref q.2) q.1 A s s.heap ∧ va_T .byte q.2 (strLen 14) (fun j => .int (iI (strCh 14 (j : Int)))) A s s.heap :=
  str_of (i := 14) (by decide) hA (hts _ (List.mem_append_right _ (List.mem_append_right _ (List.mem_append_left _ (List.mem_of_getElem? (l := tables_1_2) (i := 204) rfl))))) (flat_of_before _ hg _ (by decide +kernel)) (flat_of_before _ hg _ (by decide +kernel)) (flat_of_before _ hg _ (by decide +kernel)) (flat_of_before _ hg _ (by decide +kernel)) (fun j hj => match j, hj with
    | 0, _ => flat_of_before _ hg _ (by decide +kernel)
    | 1, _ => flat_of_before _ hg _ (by decide +kernel)
    | 2, _ => flat_of_before _ hg _ (by decide +kernel)
    | 3, _ => flat_of_before _ hg _ (by decide +kernel)
    | j + 4, h => absurd (show j + 4 < 4 from h) (by omega))
theorem so_15 {args : Array Value} {s : State} {A : Nat → Prop} (hA : ∀ a : Nat, a < s.heap.size → ¬ A a) (hts : ∀ w ∈ lw_tbl, w.before args s = true) (hg : GN.before args s = true) : ∃ q : Nat × Nat, vk_R "IntervalText" 158 "_dac" q.1 s ∧ va_O "java/lang/String" q.1 A s s.heap ∧ va_OF "java/lang/String" "coder" "B" (.int (iI 0)) q.1 A s s.heap ∧ va_OF "java/lang/String" "value" "[B" (.ref q.2) q.1 A s s.heap ∧ va_T .byte q.2 (strLen 15) (fun j => .int (iI (strCh 15 (j : Int)))) A s s.heap :=
  str_of (i := 15) (by decide) hA (hts _ (List.mem_append_right _ (List.mem_append_right _ (List.mem_append_left _ (List.mem_of_getElem? (l := tables_1_2) (i := 205) rfl))))) (flat_of_before _ hg _ (by decide +kernel)) (flat_of_before _ hg _ (by decide +kernel)) (flat_of_before _ hg _ (by decide +kernel)) (flat_of_before _ hg _ (by decide +kernel)) (fun j hj => match j, hj with
    | 0, _ => flat_of_before _ hg _ (by decide +kernel)
    | 1, _ => flat_of_before _ hg _ (by decide +kernel)
    | 2, _ => flat_of_before _ hg _ (by decide +kernel)
    | 3, _ => flat_of_before _ hg _ (by decide +kernel)
    | j + 4, h => absurd (show j + 4 < 4 from h) (by omega))
theorem so_16 {args : Array Value} {s : State} {A : Nat → Prop} (hA : ∀ a : Nat, a < s.heap.size → ¬ A a) (hts : ∀ w ∈ lw_tbl, w.before args s = true) (hg : GN.before args s = true) : ∃ q : Nat × Nat, vk_R "IntervalText" 160 "_def" q.1 s ∧ va_O "java/lang/String" q.1 A s s.heap ∧ va_OF "java/lang/String" "coder" "B" (.int (iI 0)) q.1 A s s.heap ∧ va_OF "java/lang/String" "value" "[B" (.ref q.2) q.1 A s s.heap ∧ va_T .byte q.2 (strLen 16) (fun j => .int (iI (strCh 16 (j : Int)))) A s s.heap :=
  str_of (i := 16) (by decide) hA (hts _ (List.mem_append_right _ (List.mem_append_right _ (List.mem_append_left _ (List.mem_of_getElem? (l := tables_1_2) (i := 206) rfl))))) (flat_of_before _ hg _ (by decide +kernel)) (flat_of_before _ hg _ (by decide +kernel)) (flat_of_before _ hg _ (by decide +kernel)) (flat_of_before _ hg _ (by decide +kernel)) (fun j hj => match j, hj with
    | 0, _ => flat_of_before _ hg _ (by decide +kernel)
    | 1, _ => flat_of_before _ hg _ (by decide +kernel)
    | 2, _ => flat_of_before _ hg _ (by decide +kernel)
    | 3, _ => flat_of_before _ hg _ (by decide +kernel)
    | j + 4, h => absurd (show j + 4 < 4 from h) (by omega))
theorem so_17 {args : Array Value} {s : State} {A : Nat → Prop} (hA : ∀ a : Nat, a < s.heap.size → ¬ A a) (hts : ∀ w ∈ lw_tbl, w.before args s = true) (hg : GN.before args s = true) : ∃ q : Nat × Nat, vk_R "IntervalText" 162 "_trv" q.1 s ∧ va_O "java/lang/String" q.1 A s s.heap ∧ va_OF "java/lang/String" "coder" "B" (.int (iI 0)) q.1 A s s.heap ∧ va_OF "java/lang/String" "value" "[B" (.ref q.2) q.1 A s s.heap ∧ va_T .byte q.2 (strLen 17) (fun j => .int (iI (strCh 17 (j : Int)))) A s s.heap :=
  str_of (i := 17) (by decide) hA (hts _ (List.mem_append_right _ (List.mem_append_right _ (List.mem_append_left _ (List.mem_of_getElem? (l := tables_1_2) (i := 207) rfl))))) (flat_of_before _ hg _ (by decide +kernel)) (flat_of_before _ hg _ (by decide +kernel)) (flat_of_before _ hg _ (by decide +kernel)) (flat_of_before _ hg _ (by decide +kernel)) (fun j hj => match j, hj with
    | 0, _ => flat_of_before _ hg _ (by decide +kernel)
    | 1, _ => flat_of_before _ hg _ (by decide +kernel)
    | 2, _ => flat_of_before _ hg _ (by decide +kernel)
    | 3, _ => flat_of_before _ hg _ (by decide +kernel)
    | j + 4, h => absurd (show j + 4 < 4 from h) (by omega))
theorem so_18 {args : Array Value} {s : State} {A : Nat → Prop} (hA : ∀ a : Nat, a < s.heap.size → ¬ A a) (hts : ∀ w ∈ lw_tbl, w.before args s = true) (hg : GN.before args s = true) : ∃ q : Nat × Nat, vk_R "IntervalText" 125 "[empty]" q.1 s ∧ va_O "java/lang/String" q.1 A s s.heap ∧ va_OF "java/lang/String" "coder" "B" (.int (iI 0)) q.1 A s s.heap ∧ va_OF "java/lang/String" "value" "[B" (.ref q.2) q.1 A s s.heap ∧ va_T .byte q.2 (strLen 18) (fun j => .int (iI (strCh 18 (j : Int)))) A s s.heap :=
  str_of (i := 18) (by decide) hA (hts _ (List.mem_append_right _ (List.mem_append_right _ (List.mem_append_right _ (List.mem_append_left _ (List.mem_of_getElem? (l := tables_1_3) (i := 29) rfl)))))) (flat_of_before _ hg _ (by decide +kernel)) (flat_of_before _ hg _ (by decide +kernel)) (flat_of_before _ hg _ (by decide +kernel)) (flat_of_before _ hg _ (by decide +kernel)) (fun j hj => match j, hj with
    | 0, _ => flat_of_before _ hg _ (by decide +kernel)
    | 1, _ => flat_of_before _ hg _ (by decide +kernel)
    | 2, _ => flat_of_before _ hg _ (by decide +kernel)
    | 3, _ => flat_of_before _ hg _ (by decide +kernel)
    | 4, _ => flat_of_before _ hg _ (by decide +kernel)
    | 5, _ => flat_of_before _ hg _ (by decide +kernel)
    | 6, _ => flat_of_before _ hg _ (by decide +kernel)
    | j + 7, h => absurd (show j + 7 < 7 from h) (by omega))
theorem so_19 {args : Array Value} {s : State} {A : Nat → Prop} (hA : ∀ a : Nat, a < s.heap.size → ¬ A a) (hts : ∀ w ∈ lw_tbl, w.before args s = true) (hg : GN.before args s = true) : ∃ q : Nat × Nat, vk_R "IntervalText" 135 "[nai]" q.1 s ∧ va_O "java/lang/String" q.1 A s s.heap ∧ va_OF "java/lang/String" "coder" "B" (.int (iI 0)) q.1 A s s.heap ∧ va_OF "java/lang/String" "value" "[B" (.ref q.2) q.1 A s s.heap ∧ va_T .byte q.2 (strLen 19) (fun j => .int (iI (strCh 19 (j : Int)))) A s s.heap :=
  str_of (i := 19) (by decide) hA (hts _ (List.mem_append_right _ (List.mem_append_right _ (List.mem_append_right _ (List.mem_append_left _ (List.mem_of_getElem? (l := tables_1_3) (i := 38) rfl)))))) (flat_of_before _ hg _ (by decide +kernel)) (flat_of_before _ hg _ (by decide +kernel)) (flat_of_before _ hg _ (by decide +kernel)) (flat_of_before _ hg _ (by decide +kernel)) (fun j hj => match j, hj with
    | 0, _ => flat_of_before _ hg _ (by decide +kernel)
    | 1, _ => flat_of_before _ hg _ (by decide +kernel)
    | 2, _ => flat_of_before _ hg _ (by decide +kernel)
    | 3, _ => flat_of_before _ hg _ (by decide +kernel)
    | 4, _ => flat_of_before _ hg _ (by decide +kernel)
    | j + 5, h => absurd (show j + 5 < 5 from h) (by omega))
theorem so_20 {args : Array Value} {s : State} {A : Nat → Prop} (hA : ∀ a : Nat, a < s.heap.size → ¬ A a) (hts : ∀ w ∈ lw_tbl, w.before args s = true) (hg : GN.before args s = true) : ∃ q : Nat × Nat, vk_R "IntervalText$Printer" 30 "[entire]" q.1 s ∧ va_O "java/lang/String" q.1 A s s.heap ∧ va_OF "java/lang/String" "coder" "B" (.int (iI 0)) q.1 A s s.heap ∧ va_OF "java/lang/String" "value" "[B" (.ref q.2) q.1 A s s.heap ∧ va_T .byte q.2 (strLen 20) (fun j => .int (iI (strCh 20 (j : Int)))) A s s.heap :=
  str_of (i := 20) (by decide) hA (hts _ (List.mem_append_right _ (List.mem_append_right _ (List.mem_append_right _ (List.mem_append_left _ (List.mem_of_getElem? (l := tables_1_3) (i := 45) rfl)))))) (flat_of_before _ hg _ (by decide +kernel)) (flat_of_before _ hg _ (by decide +kernel)) (flat_of_before _ hg _ (by decide +kernel)) (flat_of_before _ hg _ (by decide +kernel)) (fun j hj => match j, hj with
    | 0, _ => flat_of_before _ hg _ (by decide +kernel)
    | 1, _ => flat_of_before _ hg _ (by decide +kernel)
    | 2, _ => flat_of_before _ hg _ (by decide +kernel)
    | 3, _ => flat_of_before _ hg _ (by decide +kernel)
    | 4, _ => flat_of_before _ hg _ (by decide +kernel)
    | 5, _ => flat_of_before _ hg _ (by decide +kernel)
    | 6, _ => flat_of_before _ hg _ (by decide +kernel)
    | 7, _ => flat_of_before _ hg _ (by decide +kernel)
    | j + 8, h => absurd (show j + 8 < 8 from h) (by omega))
theorem so_21 {args : Array Value} {s : State} {A : Nat → Prop} (hA : ∀ a : Nat, a < s.heap.size → ¬ A a) (hts : ∀ w ∈ lw_tbl, w.before args s = true) (hg : GN.before args s = true) : ∃ q : Nat × Nat, vk_R "IntervalText$Printer" 60 "inf" q.1 s ∧ va_O "java/lang/String" q.1 A s s.heap ∧ va_OF "java/lang/String" "coder" "B" (.int (iI 0)) q.1 A s s.heap ∧ va_OF "java/lang/String" "value" "[B" (.ref q.2) q.1 A s s.heap ∧ va_T .byte q.2 (strLen 21) (fun j => .int (iI (strCh 21 (j : Int)))) A s s.heap :=
  str_of (i := 21) (by decide) hA (hts _ (List.mem_append_right _ (List.mem_append_right _ (List.mem_append_right _ (List.mem_append_left _ (List.mem_of_getElem? (l := tables_1_3) (i := 53) rfl)))))) (flat_of_before _ hg _ (by decide +kernel)) (flat_of_before _ hg _ (by decide +kernel)) (flat_of_before _ hg _ (by decide +kernel)) (flat_of_before _ hg _ (by decide +kernel)) (fun j hj => match j, hj with
    | 0, _ => flat_of_before _ hg _ (by decide +kernel)
    | 1, _ => flat_of_before _ hg _ (by decide +kernel)
    | 2, _ => flat_of_before _ hg _ (by decide +kernel)
    | j + 3, h => absurd (show j + 3 < 3 from h) (by omega))
theorem so_22 {args : Array Value} {s : State} {A : Nat → Prop} (hA : ∀ a : Nat, a < s.heap.size → ¬ A a) (hts : ∀ w ∈ lw_tbl, w.before args s = true) (hg : GN.before args s = true) : ∃ q : Nat × Nat, vk_R "IntervalText$Printer" 69 "0x0." q.1 s ∧ va_O "java/lang/String" q.1 A s s.heap ∧ va_OF "java/lang/String" "coder" "B" (.int (iI 0)) q.1 A s s.heap ∧ va_OF "java/lang/String" "value" "[B" (.ref q.2) q.1 A s s.heap ∧ va_T .byte q.2 (strLen 22) (fun j => .int (iI (strCh 22 (j : Int)))) A s s.heap :=
  str_of (i := 22) (by decide) hA (hts _ (List.mem_append_right _ (List.mem_append_right _ (List.mem_append_right _ (List.mem_append_left _ (List.mem_of_getElem? (l := tables_1_3) (i := 58) rfl)))))) (flat_of_before _ hg _ (by decide +kernel)) (flat_of_before _ hg _ (by decide +kernel)) (flat_of_before _ hg _ (by decide +kernel)) (flat_of_before _ hg _ (by decide +kernel)) (fun j hj => match j, hj with
    | 0, _ => flat_of_before _ hg _ (by decide +kernel)
    | 1, _ => flat_of_before _ hg _ (by decide +kernel)
    | 2, _ => flat_of_before _ hg _ (by decide +kernel)
    | 3, _ => flat_of_before _ hg _ (by decide +kernel)
    | j + 4, h => absurd (show j + 4 < 4 from h) (by omega))
theorem so_23 {args : Array Value} {s : State} {A : Nat → Prop} (hA : ∀ a : Nat, a < s.heap.size → ¬ A a) (hts : ∀ w ∈ lw_tbl, w.before args s = true) (hg : GN.before args s = true) : ∃ q : Nat × Nat, vk_R "IntervalText$Printer" 71 "0x1." q.1 s ∧ va_O "java/lang/String" q.1 A s s.heap ∧ va_OF "java/lang/String" "coder" "B" (.int (iI 0)) q.1 A s s.heap ∧ va_OF "java/lang/String" "value" "[B" (.ref q.2) q.1 A s s.heap ∧ va_T .byte q.2 (strLen 23) (fun j => .int (iI (strCh 23 (j : Int)))) A s s.heap :=
  str_of (i := 23) (by decide) hA (hts _ (List.mem_append_right _ (List.mem_append_right _ (List.mem_append_right _ (List.mem_append_left _ (List.mem_of_getElem? (l := tables_1_3) (i := 59) rfl)))))) (flat_of_before _ hg _ (by decide +kernel)) (flat_of_before _ hg _ (by decide +kernel)) (flat_of_before _ hg _ (by decide +kernel)) (flat_of_before _ hg _ (by decide +kernel)) (fun j hj => match j, hj with
    | 0, _ => flat_of_before _ hg _ (by decide +kernel)
    | 1, _ => flat_of_before _ hg _ (by decide +kernel)
    | 2, _ => flat_of_before _ hg _ (by decide +kernel)
    | 3, _ => flat_of_before _ hg _ (by decide +kernel)
    | j + 4, h => absurd (show j + 4 < 4 from h) (by omega))
theorem so_24 {args : Array Value} {s : State} {A : Nat → Prop} (hA : ∀ a : Nat, a < s.heap.size → ¬ A a) (hts : ∀ w ∈ lw_tbl, w.before args s = true) (hg : GN.before args s = true) : ∃ q : Nat × Nat, vk_R "IntervalTextModel" 247 "empty" q.1 s ∧ va_O "java/lang/String" q.1 A s s.heap ∧ va_OF "java/lang/String" "coder" "B" (.int (iI 0)) q.1 A s s.heap ∧ va_OF "java/lang/String" "value" "[B" (.ref q.2) q.1 A s s.heap ∧ va_T .byte q.2 (strLen 24) (fun j => .int (iI (strCh 24 (j : Int)))) A s s.heap :=
  str_of (i := 24) (by decide) hA (hts _ (List.mem_append_right _ (List.mem_append_right _ (List.mem_append_right _ (List.mem_append_left _ (List.mem_of_getElem? (l := tables_1_3) (i := 238) rfl)))))) (flat_of_before _ hg _ (by decide +kernel)) (flat_of_before _ hg _ (by decide +kernel)) (flat_of_before _ hg _ (by decide +kernel)) (flat_of_before _ hg _ (by decide +kernel)) (fun j hj => match j, hj with
    | 0, _ => flat_of_before _ hg _ (by decide +kernel)
    | 1, _ => flat_of_before _ hg _ (by decide +kernel)
    | 2, _ => flat_of_before _ hg _ (by decide +kernel)
    | 3, _ => flat_of_before _ hg _ (by decide +kernel)
    | 4, _ => flat_of_before _ hg _ (by decide +kernel)
    | j + 5, h => absurd (show j + 5 < 5 from h) (by omega))
theorem so_25 {args : Array Value} {s : State} {A : Nat → Prop} (hA : ∀ a : Nat, a < s.heap.size → ¬ A a) (hts : ∀ w ∈ lw_tbl, w.before args s = true) (hg : GN.before args s = true) : ∃ q : Nat × Nat, vk_R "IntervalTextModel" 249 "entire" q.1 s ∧ va_O "java/lang/String" q.1 A s s.heap ∧ va_OF "java/lang/String" "coder" "B" (.int (iI 0)) q.1 A s s.heap ∧ va_OF "java/lang/String" "value" "[B" (.ref q.2) q.1 A s s.heap ∧ va_T .byte q.2 (strLen 25) (fun j => .int (iI (strCh 25 (j : Int)))) A s s.heap :=
  str_of (i := 25) (by decide) hA (hts _ (List.mem_append_right _ (List.mem_append_right _ (List.mem_append_right _ (List.mem_append_right _ (List.mem_append_left _ (List.mem_of_getElem? (l := tables_1_4) (i := 5) rfl))))))) (flat_of_before _ hg _ (by decide +kernel)) (flat_of_before _ hg _ (by decide +kernel)) (flat_of_before _ hg _ (by decide +kernel)) (flat_of_before _ hg _ (by decide +kernel)) (fun j hj => match j, hj with
    | 0, _ => flat_of_before _ hg _ (by decide +kernel)
    | 1, _ => flat_of_before _ hg _ (by decide +kernel)
    | 2, _ => flat_of_before _ hg _ (by decide +kernel)
    | 3, _ => flat_of_before _ hg _ (by decide +kernel)
    | 4, _ => flat_of_before _ hg _ (by decide +kernel)
    | 5, _ => flat_of_before _ hg _ (by decide +kernel)
    | j + 6, h => absurd (show j + 6 < 6 from h) (by omega))
theorem so_26 {args : Array Value} {s : State} {A : Nat → Prop} (hA : ∀ a : Nat, a < s.heap.size → ¬ A a) (hts : ∀ w ∈ lw_tbl, w.before args s = true) (hg : GN.before args s = true) : ∃ q : Nat × Nat, vk_R "IntervalTextModel" 262 "-inf" q.1 s ∧ va_O "java/lang/String" q.1 A s s.heap ∧ va_OF "java/lang/String" "coder" "B" (.int (iI 0)) q.1 A s s.heap ∧ va_OF "java/lang/String" "value" "[B" (.ref q.2) q.1 A s s.heap ∧ va_T .byte q.2 (strLen 26) (fun j => .int (iI (strCh 26 (j : Int)))) A s s.heap :=
  str_of (i := 26) (by decide) hA (hts _ (List.mem_append_right _ (List.mem_append_right _ (List.mem_append_right _ (List.mem_append_right _ (List.mem_append_left _ (List.mem_of_getElem? (l := tables_1_4) (i := 10) rfl))))))) (flat_of_before _ hg _ (by decide +kernel)) (flat_of_before _ hg _ (by decide +kernel)) (flat_of_before _ hg _ (by decide +kernel)) (flat_of_before _ hg _ (by decide +kernel)) (fun j hj => match j, hj with
    | 0, _ => flat_of_before _ hg _ (by decide +kernel)
    | 1, _ => flat_of_before _ hg _ (by decide +kernel)
    | 2, _ => flat_of_before _ hg _ (by decide +kernel)
    | 3, _ => flat_of_before _ hg _ (by decide +kernel)
    | j + 4, h => absurd (show j + 4 < 4 from h) (by omega))
theorem so_27 {args : Array Value} {s : State} {A : Nat → Prop} (hA : ∀ a : Nat, a < s.heap.size → ¬ A a) (hts : ∀ w ∈ lw_tbl, w.before args s = true) (hg : GN.before args s = true) : ∃ q : Nat × Nat, vk_R "IntervalTextModel" 264 "-infinity" q.1 s ∧ va_O "java/lang/String" q.1 A s s.heap ∧ va_OF "java/lang/String" "coder" "B" (.int (iI 0)) q.1 A s s.heap ∧ va_OF "java/lang/String" "value" "[B" (.ref q.2) q.1 A s s.heap ∧ va_T .byte q.2 (strLen 27) (fun j => .int (iI (strCh 27 (j : Int)))) A s s.heap :=
  str_of (i := 27) (by decide) hA (hts _ (List.mem_append_right _ (List.mem_append_right _ (List.mem_append_right _ (List.mem_append_right _ (List.mem_append_left _ (List.mem_of_getElem? (l := tables_1_4) (i := 11) rfl))))))) (flat_of_before _ hg _ (by decide +kernel)) (flat_of_before _ hg _ (by decide +kernel)) (flat_of_before _ hg _ (by decide +kernel)) (flat_of_before _ hg _ (by decide +kernel)) (fun j hj => match j, hj with
    | 0, _ => flat_of_before _ hg _ (by decide +kernel)
    | 1, _ => flat_of_before _ hg _ (by decide +kernel)
    | 2, _ => flat_of_before _ hg _ (by decide +kernel)
    | 3, _ => flat_of_before _ hg _ (by decide +kernel)
    | 4, _ => flat_of_before _ hg _ (by decide +kernel)
    | 5, _ => flat_of_before _ hg _ (by decide +kernel)
    | 6, _ => flat_of_before _ hg _ (by decide +kernel)
    | 7, _ => flat_of_before _ hg _ (by decide +kernel)
    | 8, _ => flat_of_before _ hg _ (by decide +kernel)
    | j + 9, h => absurd (show j + 9 < 9 from h) (by omega))
theorem so_28 {args : Array Value} {s : State} {A : Nat → Prop} (hA : ∀ a : Nat, a < s.heap.size → ¬ A a) (hts : ∀ w ∈ lw_tbl, w.before args s = true) (hg : GN.before args s = true) : ∃ q : Nat × Nat, vk_R "IntervalTextModel" 266 "inf" q.1 s ∧ va_O "java/lang/String" q.1 A s s.heap ∧ va_OF "java/lang/String" "coder" "B" (.int (iI 0)) q.1 A s s.heap ∧ va_OF "java/lang/String" "value" "[B" (.ref q.2) q.1 A s s.heap ∧ va_T .byte q.2 (strLen 28) (fun j => .int (iI (strCh 28 (j : Int)))) A s s.heap :=
  str_of (i := 28) (by decide) hA (hts _ (List.mem_append_right _ (List.mem_append_right _ (List.mem_append_right _ (List.mem_append_right _ (List.mem_append_left _ (List.mem_of_getElem? (l := tables_1_4) (i := 12) rfl))))))) (flat_of_before _ hg _ (by decide +kernel)) (flat_of_before _ hg _ (by decide +kernel)) (flat_of_before _ hg _ (by decide +kernel)) (flat_of_before _ hg _ (by decide +kernel)) (fun j hj => match j, hj with
    | 0, _ => flat_of_before _ hg _ (by decide +kernel)
    | 1, _ => flat_of_before _ hg _ (by decide +kernel)
    | 2, _ => flat_of_before _ hg _ (by decide +kernel)
    | j + 3, h => absurd (show j + 3 < 3 from h) (by omega))
theorem so_29 {args : Array Value} {s : State} {A : Nat → Prop} (hA : ∀ a : Nat, a < s.heap.size → ¬ A a) (hts : ∀ w ∈ lw_tbl, w.before args s = true) (hg : GN.before args s = true) : ∃ q : Nat × Nat, vk_R "IntervalTextModel" 268 "+inf" q.1 s ∧ va_O "java/lang/String" q.1 A s s.heap ∧ va_OF "java/lang/String" "coder" "B" (.int (iI 0)) q.1 A s s.heap ∧ va_OF "java/lang/String" "value" "[B" (.ref q.2) q.1 A s s.heap ∧ va_T .byte q.2 (strLen 29) (fun j => .int (iI (strCh 29 (j : Int)))) A s s.heap :=
  str_of (i := 29) (by decide) hA (hts _ (List.mem_append_right _ (List.mem_append_right _ (List.mem_append_right _ (List.mem_append_right _ (List.mem_append_left _ (List.mem_of_getElem? (l := tables_1_4) (i := 13) rfl))))))) (flat_of_before _ hg _ (by decide +kernel)) (flat_of_before _ hg _ (by decide +kernel)) (flat_of_before _ hg _ (by decide +kernel)) (flat_of_before _ hg _ (by decide +kernel)) (fun j hj => match j, hj with
    | 0, _ => flat_of_before _ hg _ (by decide +kernel)
    | 1, _ => flat_of_before _ hg _ (by decide +kernel)
    | 2, _ => flat_of_before _ hg _ (by decide +kernel)
    | 3, _ => flat_of_before _ hg _ (by decide +kernel)
    | j + 4, h => absurd (show j + 4 < 4 from h) (by omega))
theorem so_30 {args : Array Value} {s : State} {A : Nat → Prop} (hA : ∀ a : Nat, a < s.heap.size → ¬ A a) (hts : ∀ w ∈ lw_tbl, w.before args s = true) (hg : GN.before args s = true) : ∃ q : Nat × Nat, vk_R "IntervalTextModel" 270 "infinity" q.1 s ∧ va_O "java/lang/String" q.1 A s s.heap ∧ va_OF "java/lang/String" "coder" "B" (.int (iI 0)) q.1 A s s.heap ∧ va_OF "java/lang/String" "value" "[B" (.ref q.2) q.1 A s s.heap ∧ va_T .byte q.2 (strLen 30) (fun j => .int (iI (strCh 30 (j : Int)))) A s s.heap :=
  str_of (i := 30) (by decide) hA (hts _ (List.mem_append_right _ (List.mem_append_right _ (List.mem_append_right _ (List.mem_append_right _ (List.mem_append_left _ (List.mem_of_getElem? (l := tables_1_4) (i := 14) rfl))))))) (flat_of_before _ hg _ (by decide +kernel)) (flat_of_before _ hg _ (by decide +kernel)) (flat_of_before _ hg _ (by decide +kernel)) (flat_of_before _ hg _ (by decide +kernel)) (fun j hj => match j, hj with
    | 0, _ => flat_of_before _ hg _ (by decide +kernel)
    | 1, _ => flat_of_before _ hg _ (by decide +kernel)
    | 2, _ => flat_of_before _ hg _ (by decide +kernel)
    | 3, _ => flat_of_before _ hg _ (by decide +kernel)
    | 4, _ => flat_of_before _ hg _ (by decide +kernel)
    | 5, _ => flat_of_before _ hg _ (by decide +kernel)
    | 6, _ => flat_of_before _ hg _ (by decide +kernel)
    | 7, _ => flat_of_before _ hg _ (by decide +kernel)
    | j + 8, h => absurd (show j + 8 < 8 from h) (by omega))
theorem so_31 {args : Array Value} {s : State} {A : Nat → Prop} (hA : ∀ a : Nat, a < s.heap.size → ¬ A a) (hts : ∀ w ∈ lw_tbl, w.before args s = true) (hg : GN.before args s = true) : ∃ q : Nat × Nat, vk_R "IntervalTextModel" 272 "+infinity" q.1 s ∧ va_O "java/lang/String" q.1 A s s.heap ∧ va_OF "java/lang/String" "coder" "B" (.int (iI 0)) q.1 A s s.heap ∧ va_OF "java/lang/String" "value" "[B" (.ref q.2) q.1 A s s.heap ∧ va_T .byte q.2 (strLen 31) (fun j => .int (iI (strCh 31 (j : Int)))) A s s.heap :=
  str_of (i := 31) (by decide) hA (hts _ (List.mem_append_right _ (List.mem_append_right _ (List.mem_append_right _ (List.mem_append_right _ (List.mem_append_left _ (List.mem_of_getElem? (l := tables_1_4) (i := 15) rfl))))))) (flat_of_before _ hg _ (by decide +kernel)) (flat_of_before _ hg _ (by decide +kernel)) (flat_of_before _ hg _ (by decide +kernel)) (flat_of_before _ hg _ (by decide +kernel)) (fun j hj => match j, hj with
    | 0, _ => flat_of_before _ hg _ (by decide +kernel)
    | 1, _ => flat_of_before _ hg _ (by decide +kernel)
    | 2, _ => flat_of_before _ hg _ (by decide +kernel)
    | 3, _ => flat_of_before _ hg _ (by decide +kernel)
    | 4, _ => flat_of_before _ hg _ (by decide +kernel)
    | 5, _ => flat_of_before _ hg _ (by decide +kernel)
    | 6, _ => flat_of_before _ hg _ (by decide +kernel)
    | 7, _ => flat_of_before _ hg _ (by decide +kernel)
    | 8, _ => flat_of_before _ hg _ (by decide +kernel)
    | j + 9, h => absurd (show j + 9 < 9 from h) (by omega))
theorem so_32 {args : Array Value} {s : State} {A : Nat → Prop} (hA : ∀ a : Nat, a < s.heap.size → ¬ A a) (hts : ∀ w ∈ lw_tbl, w.before args s = true) (hg : GN.before args s = true) : ∃ q : Nat × Nat, vk_R "IntervalTextModel" 235 "com" q.1 s ∧ va_O "java/lang/String" q.1 A s s.heap ∧ va_OF "java/lang/String" "coder" "B" (.int (iI 0)) q.1 A s s.heap ∧ va_OF "java/lang/String" "value" "[B" (.ref q.2) q.1 A s s.heap ∧ va_T .byte q.2 (strLen 32) (fun j => .int (iI (strCh 32 (j : Int)))) A s s.heap :=
  str_of (i := 32) (by decide) hA (hts _ (List.mem_append_right _ (List.mem_append_right _ (List.mem_append_right _ (List.mem_append_right _ (List.mem_append_left _ (List.mem_of_getElem? (l := tables_1_4) (i := 169) rfl))))))) (flat_of_before _ hg _ (by decide +kernel)) (flat_of_before _ hg _ (by decide +kernel)) (flat_of_before _ hg _ (by decide +kernel)) (flat_of_before _ hg _ (by decide +kernel)) (fun j hj => match j, hj with
    | 0, _ => flat_of_before _ hg _ (by decide +kernel)
    | 1, _ => flat_of_before _ hg _ (by decide +kernel)
    | 2, _ => flat_of_before _ hg _ (by decide +kernel)
    | j + 3, h => absurd (show j + 3 < 3 from h) (by omega))
theorem so_33 {args : Array Value} {s : State} {A : Nat → Prop} (hA : ∀ a : Nat, a < s.heap.size → ¬ A a) (hts : ∀ w ∈ lw_tbl, w.before args s = true) (hg : GN.before args s = true) : ∃ q : Nat × Nat, vk_R "IntervalTextModel" 241 "dac" q.1 s ∧ va_O "java/lang/String" q.1 A s s.heap ∧ va_OF "java/lang/String" "coder" "B" (.int (iI 0)) q.1 A s s.heap ∧ va_OF "java/lang/String" "value" "[B" (.ref q.2) q.1 A s s.heap ∧ va_T .byte q.2 (strLen 33) (fun j => .int (iI (strCh 33 (j : Int)))) A s s.heap :=
  str_of (i := 33) (by decide) hA (hts _ (List.mem_append_right _ (List.mem_append_right _ (List.mem_append_right _ (List.mem_append_right _ (List.mem_append_left _ (List.mem_of_getElem? (l := tables_1_4) (i := 170) rfl))))))) (flat_of_before _ hg _ (by decide +kernel)) (flat_of_before _ hg _ (by decide +kernel)) (flat_of_before _ hg _ (by decide +kernel)) (flat_of_before _ hg _ (by decide +kernel)) (fun j hj => match j, hj with
    | 0, _ => flat_of_before _ hg _ (by decide +kernel)
    | 1, _ => flat_of_before _ hg _ (by decide +kernel)
    | 2, _ => flat_of_before _ hg _ (by decide +kernel)
    | j + 3, h => absurd (show j + 3 < 3 from h) (by omega))
theorem so_34 {args : Array Value} {s : State} {A : Nat → Prop} (hA : ∀ a : Nat, a < s.heap.size → ¬ A a) (hts : ∀ w ∈ lw_tbl, w.before args s = true) (hg : GN.before args s = true) : ∃ q : Nat × Nat, vk_R "IntervalTextModel" 243 "def" q.1 s ∧ va_O "java/lang/String" q.1 A s s.heap ∧ va_OF "java/lang/String" "coder" "B" (.int (iI 0)) q.1 A s s.heap ∧ va_OF "java/lang/String" "value" "[B" (.ref q.2) q.1 A s s.heap ∧ va_T .byte q.2 (strLen 34) (fun j => .int (iI (strCh 34 (j : Int)))) A s s.heap :=
  str_of (i := 34) (by decide) hA (hts _ (List.mem_append_right _ (List.mem_append_right _ (List.mem_append_right _ (List.mem_append_right _ (List.mem_append_left _ (List.mem_of_getElem? (l := tables_1_4) (i := 171) rfl))))))) (flat_of_before _ hg _ (by decide +kernel)) (flat_of_before _ hg _ (by decide +kernel)) (flat_of_before _ hg _ (by decide +kernel)) (flat_of_before _ hg _ (by decide +kernel)) (fun j hj => match j, hj with
    | 0, _ => flat_of_before _ hg _ (by decide +kernel)
    | 1, _ => flat_of_before _ hg _ (by decide +kernel)
    | 2, _ => flat_of_before _ hg _ (by decide +kernel)
    | j + 3, h => absurd (show j + 3 < 3 from h) (by omega))
theorem so_35 {args : Array Value} {s : State} {A : Nat → Prop} (hA : ∀ a : Nat, a < s.heap.size → ¬ A a) (hts : ∀ w ∈ lw_tbl, w.before args s = true) (hg : GN.before args s = true) : ∃ q : Nat × Nat, vk_R "IntervalTextModel" 245 "trv" q.1 s ∧ va_O "java/lang/String" q.1 A s s.heap ∧ va_OF "java/lang/String" "coder" "B" (.int (iI 0)) q.1 A s s.heap ∧ va_OF "java/lang/String" "value" "[B" (.ref q.2) q.1 A s s.heap ∧ va_T .byte q.2 (strLen 35) (fun j => .int (iI (strCh 35 (j : Int)))) A s s.heap :=
  str_of (i := 35) (by decide) hA (hts _ (List.mem_append_right _ (List.mem_append_right _ (List.mem_append_right _ (List.mem_append_right _ (List.mem_append_left _ (List.mem_of_getElem? (l := tables_1_4) (i := 172) rfl))))))) (flat_of_before _ hg _ (by decide +kernel)) (flat_of_before _ hg _ (by decide +kernel)) (flat_of_before _ hg _ (by decide +kernel)) (flat_of_before _ hg _ (by decide +kernel)) (fun j hj => match j, hj with
    | 0, _ => flat_of_before _ hg _ (by decide +kernel)
    | 1, _ => flat_of_before _ hg _ (by decide +kernel)
    | 2, _ => flat_of_before _ hg _ (by decide +kernel)
    | j + 3, h => absurd (show j + 3 < 3 from h) (by omega))
theorem so_36 {args : Array Value} {s : State} {A : Nat → Prop} (hA : ∀ a : Nat, a < s.heap.size → ¬ A a) (hts : ∀ w ∈ lw_tbl, w.before args s = true) (hg : GN.before args s = true) : ∃ q : Nat × Nat, vk_R "IntervalTextModel" 308 "nai" q.1 s ∧ va_O "java/lang/String" q.1 A s s.heap ∧ va_OF "java/lang/String" "coder" "B" (.int (iI 0)) q.1 A s s.heap ∧ va_OF "java/lang/String" "value" "[B" (.ref q.2) q.1 A s s.heap ∧ va_T .byte q.2 (strLen 36) (fun j => .int (iI (strCh 36 (j : Int)))) A s s.heap :=
  str_of (i := 36) (by decide) hA (hts _ (List.mem_append_right _ (List.mem_append_right _ (List.mem_append_right _ (List.mem_append_right _ (List.mem_append_left _ (List.mem_of_getElem? (l := tables_1_4) (i := 198) rfl))))))) (flat_of_before _ hg _ (by decide +kernel)) (flat_of_before _ hg _ (by decide +kernel)) (flat_of_before _ hg _ (by decide +kernel)) (flat_of_before _ hg _ (by decide +kernel)) (fun j hj => match j, hj with
    | 0, _ => flat_of_before _ hg _ (by decide +kernel)
    | 1, _ => flat_of_before _ hg _ (by decide +kernel)
    | 2, _ => flat_of_before _ hg _ (by decide +kernel)
    | j + 3, h => absurd (show j + 3 < 3 from h) (by omega))
theorem so_37 {args : Array Value} {s : State} {A : Nat → Prop} (hA : ∀ a : Nat, a < s.heap.size → ¬ A a) (hts : ∀ w ∈ lw_tbl, w.before args s = true) (hg : GN.before args s = true) : ∃ q : Nat × Nat, vk_R "IntervalTextModel" 332 "0x0." q.1 s ∧ va_O "java/lang/String" q.1 A s s.heap ∧ va_OF "java/lang/String" "coder" "B" (.int (iI 0)) q.1 A s s.heap ∧ va_OF "java/lang/String" "value" "[B" (.ref q.2) q.1 A s s.heap ∧ va_T .byte q.2 (strLen 37) (fun j => .int (iI (strCh 37 (j : Int)))) A s s.heap :=
  str_of (i := 37) (by decide) hA (hts _ (List.mem_append_right _ (List.mem_append_right _ (List.mem_append_right _ (List.mem_append_right _ (List.mem_append_left _ (List.mem_of_getElem? (l := tables_1_4) (i := 211) rfl))))))) (flat_of_before _ hg _ (by decide +kernel)) (flat_of_before _ hg _ (by decide +kernel)) (flat_of_before _ hg _ (by decide +kernel)) (flat_of_before _ hg _ (by decide +kernel)) (fun j hj => match j, hj with
    | 0, _ => flat_of_before _ hg _ (by decide +kernel)
    | 1, _ => flat_of_before _ hg _ (by decide +kernel)
    | 2, _ => flat_of_before _ hg _ (by decide +kernel)
    | 3, _ => flat_of_before _ hg _ (by decide +kernel)
    | j + 4, h => absurd (show j + 4 < 4 from h) (by omega))
theorem so_38 {args : Array Value} {s : State} {A : Nat → Prop} (hA : ∀ a : Nat, a < s.heap.size → ¬ A a) (hts : ∀ w ∈ lw_tbl, w.before args s = true) (hg : GN.before args s = true) : ∃ q : Nat × Nat, vk_R "IntervalTextModel" 334 "0x1." q.1 s ∧ va_O "java/lang/String" q.1 A s s.heap ∧ va_OF "java/lang/String" "coder" "B" (.int (iI 0)) q.1 A s s.heap ∧ va_OF "java/lang/String" "value" "[B" (.ref q.2) q.1 A s s.heap ∧ va_T .byte q.2 (strLen 38) (fun j => .int (iI (strCh 38 (j : Int)))) A s s.heap :=
  str_of (i := 38) (by decide) hA (hts _ (List.mem_append_right _ (List.mem_append_right _ (List.mem_append_right _ (List.mem_append_right _ (List.mem_append_left _ (List.mem_of_getElem? (l := tables_1_4) (i := 212) rfl))))))) (flat_of_before _ hg _ (by decide +kernel)) (flat_of_before _ hg _ (by decide +kernel)) (flat_of_before _ hg _ (by decide +kernel)) (flat_of_before _ hg _ (by decide +kernel)) (fun j hj => match j, hj with
    | 0, _ => flat_of_before _ hg _ (by decide +kernel)
    | 1, _ => flat_of_before _ hg _ (by decide +kernel)
    | 2, _ => flat_of_before _ hg _ (by decide +kernel)
    | 3, _ => flat_of_before _ hg _ (by decide +kernel)
    | j + 4, h => absurd (show j + 4 < 4 from h) (by omega))
theorem so_39 {args : Array Value} {s : State} {A : Nat → Prop} (hA : ∀ a : Nat, a < s.heap.size → ¬ A a) (hts : ∀ w ∈ lw_tbl, w.before args s = true) (hg : GN.before args s = true) : ∃ q : Nat × Nat, vk_R "IntervalTextModel" 318 "_com" q.1 s ∧ va_O "java/lang/String" q.1 A s s.heap ∧ va_OF "java/lang/String" "coder" "B" (.int (iI 0)) q.1 A s s.heap ∧ va_OF "java/lang/String" "value" "[B" (.ref q.2) q.1 A s s.heap ∧ va_T .byte q.2 (strLen 39) (fun j => .int (iI (strCh 39 (j : Int)))) A s s.heap :=
  str_of (i := 39) (by decide) hA (hts _ (List.mem_append_right _ (List.mem_append_right _ (List.mem_append_right _ (List.mem_append_right _ (List.mem_append_left _ (List.mem_of_getElem? (l := tables_1_4) (i := 236) rfl))))))) (flat_of_before _ hg _ (by decide +kernel)) (flat_of_before _ hg _ (by decide +kernel)) (flat_of_before _ hg _ (by decide +kernel)) (flat_of_before _ hg _ (by decide +kernel)) (fun j hj => match j, hj with
    | 0, _ => flat_of_before _ hg _ (by decide +kernel)
    | 1, _ => flat_of_before _ hg _ (by decide +kernel)
    | 2, _ => flat_of_before _ hg _ (by decide +kernel)
    | 3, _ => flat_of_before _ hg _ (by decide +kernel)
    | j + 4, h => absurd (show j + 4 < 4 from h) (by omega))
theorem so_40 {args : Array Value} {s : State} {A : Nat → Prop} (hA : ∀ a : Nat, a < s.heap.size → ¬ A a) (hts : ∀ w ∈ lw_tbl, w.before args s = true) (hg : GN.before args s = true) : ∃ q : Nat × Nat, vk_R "IntervalTextModel" 320 "_dac" q.1 s ∧ va_O "java/lang/String" q.1 A s s.heap ∧ va_OF "java/lang/String" "coder" "B" (.int (iI 0)) q.1 A s s.heap ∧ va_OF "java/lang/String" "value" "[B" (.ref q.2) q.1 A s s.heap ∧ va_T .byte q.2 (strLen 40) (fun j => .int (iI (strCh 40 (j : Int)))) A s s.heap :=
  str_of (i := 40) (by decide) hA (hts _ (List.mem_append_right _ (List.mem_append_right _ (List.mem_append_right _ (List.mem_append_right _ (List.mem_append_left _ (List.mem_of_getElem? (l := tables_1_4) (i := 237) rfl))))))) (flat_of_before _ hg _ (by decide +kernel)) (flat_of_before _ hg _ (by decide +kernel)) (flat_of_before _ hg _ (by decide +kernel)) (flat_of_before _ hg _ (by decide +kernel)) (fun j hj => match j, hj with
    | 0, _ => flat_of_before _ hg _ (by decide +kernel)
    | 1, _ => flat_of_before _ hg _ (by decide +kernel)
    | 2, _ => flat_of_before _ hg _ (by decide +kernel)
    | 3, _ => flat_of_before _ hg _ (by decide +kernel)
    | j + 4, h => absurd (show j + 4 < 4 from h) (by omega))
theorem so_41 {args : Array Value} {s : State} {A : Nat → Prop} (hA : ∀ a : Nat, a < s.heap.size → ¬ A a) (hts : ∀ w ∈ lw_tbl, w.before args s = true) (hg : GN.before args s = true) : ∃ q : Nat × Nat, vk_R "IntervalTextModel" 322 "_def" q.1 s ∧ va_O "java/lang/String" q.1 A s s.heap ∧ va_OF "java/lang/String" "coder" "B" (.int (iI 0)) q.1 A s s.heap ∧ va_OF "java/lang/String" "value" "[B" (.ref q.2) q.1 A s s.heap ∧ va_T .byte q.2 (strLen 41) (fun j => .int (iI (strCh 41 (j : Int)))) A s s.heap :=
  str_of (i := 41) (by decide) hA (hts _ (List.mem_append_right _ (List.mem_append_right _ (List.mem_append_right _ (List.mem_append_right _ (List.mem_append_left _ (List.mem_of_getElem? (l := tables_1_4) (i := 238) rfl))))))) (flat_of_before _ hg _ (by decide +kernel)) (flat_of_before _ hg _ (by decide +kernel)) (flat_of_before _ hg _ (by decide +kernel)) (flat_of_before _ hg _ (by decide +kernel)) (fun j hj => match j, hj with
    | 0, _ => flat_of_before _ hg _ (by decide +kernel)
    | 1, _ => flat_of_before _ hg _ (by decide +kernel)
    | 2, _ => flat_of_before _ hg _ (by decide +kernel)
    | 3, _ => flat_of_before _ hg _ (by decide +kernel)
    | j + 4, h => absurd (show j + 4 < 4 from h) (by omega))
theorem so_42 {args : Array Value} {s : State} {A : Nat → Prop} (hA : ∀ a : Nat, a < s.heap.size → ¬ A a) (hts : ∀ w ∈ lw_tbl, w.before args s = true) (hg : GN.before args s = true) : ∃ q : Nat × Nat, vk_R "IntervalTextModel" 324 "_trv" q.1 s ∧ va_O "java/lang/String" q.1 A s s.heap ∧ va_OF "java/lang/String" "coder" "B" (.int (iI 0)) q.1 A s s.heap ∧ va_OF "java/lang/String" "value" "[B" (.ref q.2) q.1 A s s.heap ∧ va_T .byte q.2 (strLen 42) (fun j => .int (iI (strCh 42 (j : Int)))) A s s.heap :=
  str_of (i := 42) (by decide) hA (hts _ (List.mem_append_right _ (List.mem_append_right _ (List.mem_append_right _ (List.mem_append_right _ (List.mem_append_left _ (List.mem_of_getElem? (l := tables_1_4) (i := 239) rfl))))))) (flat_of_before _ hg _ (by decide +kernel)) (flat_of_before _ hg _ (by decide +kernel)) (flat_of_before _ hg _ (by decide +kernel)) (flat_of_before _ hg _ (by decide +kernel)) (fun j hj => match j, hj with
    | 0, _ => flat_of_before _ hg _ (by decide +kernel)
    | 1, _ => flat_of_before _ hg _ (by decide +kernel)
    | 2, _ => flat_of_before _ hg _ (by decide +kernel)
    | 3, _ => flat_of_before _ hg _ (by decide +kernel)
    | j + 4, h => absurd (show j + 4 < 4 from h) (by omega))
/-- all texts -/
theorem so_all {args : Array Value} {s : State} {A : Nat → Prop} (hA : ∀ a : Nat, a < s.heap.size → ¬ A a) (hts : ∀ w ∈ lw_tbl, w.before args s = true) (hg : GN.before args s = true) : ∀ i : Nat, ∃ q : Nat × Nat, i < 43 → (∀ r : String × Nat × String, strRefs[i]? = some r → vk_R r.1 r.2.1 r.2.2 q.1 s) ∧ va_O "java/lang/String" q.1 A s s.heap ∧ va_OF "java/lang/String" "coder" "B" (.int (iI 0)) q.1 A s s.heap ∧ va_OF "java/lang/String" "value" "[B" (.ref q.2) q.1 A s s.heap ∧ va_T .byte q.2 (strLen i) (fun j => .int (iI (strCh i (j : Int)))) A s s.heap := by
  intro i
  match i with
  | 0 => obtain ⟨q, h1, h2⟩ := so_0 hA hts hg; exact ⟨q, fun _ => ⟨fun r hr => by cases hr; exact h1, h2⟩⟩
  | 1 => obtain ⟨q, h1, h2⟩ := so_1 hA hts hg; exact ⟨q, fun _ => ⟨fun r hr => by cases hr; exact h1, h2⟩⟩
  | 2 => obtain ⟨q, h1, h2⟩ := so_2 hA hts hg; exact ⟨q, fun _ => ⟨fun r hr => by cases hr; exact h1, h2⟩⟩
  | 3 => obtain ⟨q, h1, h2⟩ := so_3 hA hts hg; exact ⟨q, fun _ => ⟨fun r hr => by cases hr; exact h1, h2⟩⟩
  | 4 => obtain ⟨q, h1, h2⟩ := so_4 hA hts hg; exact ⟨q, fun _ => ⟨fun r hr => by cases hr; exact h1, h2⟩⟩
  | 5 => obtain ⟨q, h1, h2⟩ := so_5 hA hts hg; exact ⟨q, fun _ => ⟨fun r hr => by cases hr; exact h1, h2⟩⟩
  | 6 => obtain ⟨q, h1, h2⟩ := so_6 hA hts hg; exact ⟨q, fun _ => ⟨fun r hr => by cases hr; exact h1, h2⟩⟩
  | 7 => obtain ⟨q, h1, h2⟩ := so_7 hA hts hg; exact ⟨q, fun _ => ⟨fun r hr => by cases hr; exact h1, h2⟩⟩
  | 8 => obtain ⟨q, h1, h2⟩ := so_8 hA hts hg; exact ⟨q, fun _ => ⟨fun r hr => by cases hr; exact h1, h2⟩⟩
  | 9 => obtain ⟨q, h1, h2⟩ := so_9 hA hts hg; exact ⟨q, fun _ => ⟨fun r hr => by cases hr; exact h1, h2⟩⟩
  | 10 => obtain ⟨q, h1, h2⟩ := so_10 hA hts hg; exact ⟨q, fun _ => ⟨fun r hr => by cases hr; exact h1, h2⟩⟩
  | 11 => obtain ⟨q, h1, h2⟩ := so_11 hA hts hg; exact ⟨q, fun _ => ⟨fun r hr => by cases hr; exact h1, h2⟩⟩
  | 12 => obtain ⟨q, h1, h2⟩ := so_12 hA hts hg; exact ⟨q, fun _ => ⟨fun r hr => by cases hr; exact h1, h2⟩⟩
  | 13 => obtain ⟨q, h1, h2⟩ := so_13 hA hts hg; exact ⟨q, fun _ => ⟨fun r hr => by cases hr; exact h1, h2⟩⟩
  | 14 => obtain ⟨q, h1, h2⟩ := so_14 hA hts hg; exact ⟨q, fun _ => ⟨fun r hr => by cases hr; exact h1, h2⟩⟩
  | 15 => obtain ⟨q, h1, h2⟩ := so_15 hA hts hg; exact ⟨q, fun _ => ⟨fun r hr => by cases hr; exact h1, h2⟩⟩
  | 16 => obtain ⟨q, h1, h2⟩ := so_16 hA hts hg; exact ⟨q, fun _ => ⟨fun r hr => by cases hr; exact h1, h2⟩⟩
  | 17 => obtain ⟨q, h1, h2⟩ := so_17 hA hts hg; exact ⟨q, fun _ => ⟨fun r hr => by cases hr; exact h1, h2⟩⟩
  | 18 => obtain ⟨q, h1, h2⟩ := so_18 hA hts hg; exact ⟨q, fun _ => ⟨fun r hr => by cases hr; exact h1, h2⟩⟩
  | 19 => obtain ⟨q, h1, h2⟩ := so_19 hA hts hg; exact ⟨q, fun _ => ⟨fun r hr => by cases hr; exact h1, h2⟩⟩
  | 20 => obtain ⟨q, h1, h2⟩ := so_20 hA hts hg; exact ⟨q, fun _ => ⟨fun r hr => by cases hr; exact h1, h2⟩⟩
  | 21 => obtain ⟨q, h1, h2⟩ := so_21 hA hts hg; exact ⟨q, fun _ => ⟨fun r hr => by cases hr; exact h1, h2⟩⟩
  | 22 => obtain ⟨q, h1, h2⟩ := so_22 hA hts hg; exact ⟨q, fun _ => ⟨fun r hr => by cases hr; exact h1, h2⟩⟩
  | 23 => obtain ⟨q, h1, h2⟩ := so_23 hA hts hg; exact ⟨q, fun _ => ⟨fun r hr => by cases hr; exact h1, h2⟩⟩
  | 24 => obtain ⟨q, h1, h2⟩ := so_24 hA hts hg; exact ⟨q, fun _ => ⟨fun r hr => by cases hr; exact h1, h2⟩⟩
  | 25 => obtain ⟨q, h1, h2⟩ := so_25 hA hts hg; exact ⟨q, fun _ => ⟨fun r hr => by cases hr; exact h1, h2⟩⟩
  | 26 => obtain ⟨q, h1, h2⟩ := so_26 hA hts hg; exact ⟨q, fun _ => ⟨fun r hr => by cases hr; exact h1, h2⟩⟩
  | 27 => obtain ⟨q, h1, h2⟩ := so_27 hA hts hg; exact ⟨q, fun _ => ⟨fun r hr => by cases hr; exact h1, h2⟩⟩
  | 28 => obtain ⟨q, h1, h2⟩ := so_28 hA hts hg; exact ⟨q, fun _ => ⟨fun r hr => by cases hr; exact h1, h2⟩⟩
  | 29 => obtain ⟨q, h1, h2⟩ := so_29 hA hts hg; exact ⟨q, fun _ => ⟨fun r hr => by cases hr; exact h1, h2⟩⟩
  | 30 => obtain ⟨q, h1, h2⟩ := so_30 hA hts hg; exact ⟨q, fun _ => ⟨fun r hr => by cases hr; exact h1, h2⟩⟩
  | 31 => obtain ⟨q, h1, h2⟩ := so_31 hA hts hg; exact ⟨q, fun _ => ⟨fun r hr => by cases hr; exact h1, h2⟩⟩
  | 32 => obtain ⟨q, h1, h2⟩ := so_32 hA hts hg; exact ⟨q, fun _ => ⟨fun r hr => by cases hr; exact h1, h2⟩⟩
  | 33 => obtain ⟨q, h1, h2⟩ := so_33 hA hts hg; exact ⟨q, fun _ => ⟨fun r hr => by cases hr; exact h1, h2⟩⟩
  | 34 => obtain ⟨q, h1, h2⟩ := so_34 hA hts hg; exact ⟨q, fun _ => ⟨fun r hr => by cases hr; exact h1, h2⟩⟩
  | 35 => obtain ⟨q, h1, h2⟩ := so_35 hA hts hg; exact ⟨q, fun _ => ⟨fun r hr => by cases hr; exact h1, h2⟩⟩
  | 36 => obtain ⟨q, h1, h2⟩ := so_36 hA hts hg; exact ⟨q, fun _ => ⟨fun r hr => by cases hr; exact h1, h2⟩⟩
  | 37 => obtain ⟨q, h1, h2⟩ := so_37 hA hts hg; exact ⟨q, fun _ => ⟨fun r hr => by cases hr; exact h1, h2⟩⟩
  | 38 => obtain ⟨q, h1, h2⟩ := so_38 hA hts hg; exact ⟨q, fun _ => ⟨fun r hr => by cases hr; exact h1, h2⟩⟩
  | 39 => obtain ⟨q, h1, h2⟩ := so_39 hA hts hg; exact ⟨q, fun _ => ⟨fun r hr => by cases hr; exact h1, h2⟩⟩
  | 40 => obtain ⟨q, h1, h2⟩ := so_40 hA hts hg; exact ⟨q, fun _ => ⟨fun r hr => by cases hr; exact h1, h2⟩⟩
  | 41 => obtain ⟨q, h1, h2⟩ := so_41 hA hts hg; exact ⟨q, fun _ => ⟨fun r hr => by cases hr; exact h1, h2⟩⟩
  | 42 => obtain ⟨q, h1, h2⟩ := so_42 hA hts hg; exact ⟨q, fun _ => ⟨fun r hr => by cases hr; exact h1, h2⟩⟩
  | i + 43 => exact ⟨(0, 0), fun h => absurd h (by omega)⟩
