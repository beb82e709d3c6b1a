/-! the uncertain form: which numbers stand for the class's -/
def UNC (far : Bool) (v1 v2 ee vC wC pwC : Int) : Prop := (ee = 0 ∧ vC = v1 ∧ pwC = 0 ∧ (far = true → v2 = 0) ∧ (far = false → wC = v2)) ∨ (far = false ∧ ee = -1 ∧ v2 = 1 ∧ vC = v1 * 2 ∧ wC = 1 ∧ pwC = -1)
theorem UNC_1 {far up ng : Bool} {v1 v2 ee vC wC pwC : Int} (h : UNC far v1 v2 ee vC wC pwC) : sv ng v1 * 2 + (if !up = true then sv true v2 * P2 (ee + 1) else 0) = (sv ng vC - (if (far || up) = true then 0 else wC)) * P2 (pwC + 1) := by
  have p1 : P2 (0 + 1) = 2 := rfl
  have p0 : P2 (-1 + 1) = 1 := rfl
  rcases h with ⟨h1, h2, h3, h4, h5⟩ | ⟨h1, h2, h3, h4, h5, h6⟩
  · subst h1; subst h2; subst h3
    rw [p1]
    cases far <;> cases up
    · have := h5 rfl; unfold sv; cases ng <;> simp <;> omega
    · unfold sv; cases ng <;> simp
    · have := h4 rfl; unfold sv; cases ng <;> simp <;> omega
    · unfold sv; cases ng <;> simp
  · subst h1; subst h2; subst h3; subst h4; subst h5; subst h6
    rw [p0]
    cases up <;> unfold sv <;> cases ng <;> simp <;> omega
theorem UNC_2 {far dn ng : Bool} {v1 v2 ee vC wC pwC : Int} (h : UNC far v1 v2 ee vC wC pwC) : sv ng v1 * 2 + (if !dn = true then sv false v2 * P2 (ee + 1) else 0) = (sv ng vC + (if (far || dn) = true then 0 else wC)) * P2 (pwC + 1) := by
  have p1 : P2 (0 + 1) = 2 := rfl
  have p0 : P2 (-1 + 1) = 1 := rfl
  rcases h with ⟨h1, h2, h3, h4, h5⟩ | ⟨h1, h2, h3, h4, h5, h6⟩
  · subst h1; subst h2; subst h3
    rw [p1]
    cases far <;> cases dn
    · have := h5 rfl; unfold sv; cases ng <;> simp <;> omega
    · unfold sv; cases ng <;> simp
    · have := h4 rfl; unfold sv; cases ng <;> simp <;> omega
    · unfold sv; cases ng <;> simp
  · subst h1; subst h2; subst h3; subst h4; subst h5; subst h6
    rw [p0]
    cases dn <;> unfold sv <;> cases ng <;> simp <;> omega
theorem w117 (t : Int → Int) (n q : Int) : wdB t n q 12 = decide (rat t n q = 117) := sw_one rfl
theorem w100 (t : Int → Int) (n q : Int) : wdB t n q 13 = decide (rat t n q = 100) := sw_one rfl
theorem p1604 {v c : Int} (h : 0 ≤ v ∧ v < P2 (4 * c)) (hc : c ≤ 400) : 0 ≤ v ∧ v < P2 1604 := by
  have := P2_mono (show 4 * c ≤ 1604 by omega)
  omega
/-- the sign and the end of a number's digits do not go beyond the ? -/
theorem RUN_of {t : Int → Int} {fr to : Int} (h : SPR t to fr = scBad) (no on : Bool) (lo hi : Int) : GST (RUN t fr to) false no on lo hi := ⟨(RUN_b h).symm, fun z => by cases z⟩
theorem SP2_uu {t : Int → Int} {n v w pw fr x : Int} {far neg : Bool} (hx : 0 ≤ x ∧ x < n) (h : t x = 117) : SP2 t n far neg v w pw fr x = SP3 t n far true false neg v w pw fr (x + 1) := by
  have q : wdB t n x 12 = true := by rw [w117, rat_in hx]; exact decide_eq_true h
  rw [SP2_u q, q]; rfl
theorem SP2_dd {t : Int → Int} {n v w pw fr x : Int} {far neg : Bool} (hx : 0 ≤ x ∧ x < n) (h : t x = 100) : SP2 t n far neg v w pw fr x = SP3 t n far false true neg v w pw fr (x + 1) := by
  have q : wdB t n x 12 = false := by rw [w117, rat_in hx, h]; decide
  have q2 : wdB t n x 13 = true := by rw [w100, rat_in hx]; exact decide_eq_true h
  rw [SP2_d q q2, q]; rfl
theorem SP2_nn {t : Int → Int} {n v w pw fr x : Int} {far neg : Bool} (h : n ≤ x ∨ (0 ≤ x ∧ t x ≠ 117 ∧ t x ≠ 100)) : SP2 t n far neg v w pw fr x = SP3 t n far false false neg v w pw fr x := by
  have r : rat t n x ≠ 117 ∧ rat t n x ≠ 100 := by
    by_cases z : 0 ≤ x ∧ x < n
    · rw [rat_in z]; omega
    · rw [rat_out z]; decide
  have q : wdB t n x 12 = false := by rw [w117]; exact decide_eq_false r.1
  have q2 : wdB t n x 13 = false := by rw [w100]; exact decide_eq_false r.2
  rw [SP2_n q q2, q]
theorem uu_f {far up dn : Bool} (h : up = false ∨ dn = false) : far = ((far && !up) || (far && !dn)) := by
  rcases h with h | h <;> rw [h] <;> cases far <;> cases up <;> cases dn <;> first | rfl | (cases h)
