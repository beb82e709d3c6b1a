/-! the reference's read -/
def RPS (t : Int → Int) (f en : Int) : SC := if f < en ∧ t f = 91 ∧ t (en - 1) = 93 ∧ 1 < en - f then RBK t (sk t (en - 1) (f + 1)) (TRB t (sk t (en - 1) (f + 1)) (en - 1)) else RUN t f en
def infB (lo hi : Int) : Bool := decide (lo % 9223372036854775808 = 9218868437227405312) || decide (hi % 9223372036854775808 = 9218868437227405312)
def RMK (t : Int → Int) (T ln : Int) (gd no on : Bool) (lo hi mk : Int) : Prop := (ln = -1 ∧ mk = (if gd = true then (if no = true then 1 else if infB lo hi = true then 3 else 4) else 0)) ∨ (0 ≤ ln ∧ mk = MOT t (ln + 1) T gd no on (infB lo hi))
def RRL (t : Int → Int) (f T mk rl rh : Int) : Prop := ∃ (ln en : Int) (gd no on : Bool) (lo hi : Int), FBR t f T 95 ln ∧ ((ln = -1 ∧ en = T) ∨ (0 ≤ ln ∧ en = ln)) ∧ GST (RPS t f en) gd no on lo hi ∧ RMK t T ln gd no on lo hi mk ∧
  rl = (if mk = 0 then 9221120237041090560 else if no = true then 9218868437227405312 else lo) ∧ rh = (if mk = 0 then 9221120237041090560 else if no = true then -4503599627370496 else hi)
def RRT (t : Int → Int) (n mk rl rh : Int) : Prop := ∃ t2 : Int → Int, LowT t t2 n n ∧ RRL t2 (sk t2 n 0) (TRB t2 (sk t2 n 0) n) mk rl rh
theorem RMK_rng {t : Int → Int} {T ln lo hi mk : Int} {gd no on : Bool} (h : RMK t T ln gd no on lo hi mk) : 0 ≤ mk ∧ mk ≤ 4 := by
  rcases h with ⟨_, h⟩ | ⟨_, h⟩ <;> rw [h]
  · split <;> (try split) <;> (try split) <;> omega
  · have := MKW_rng t (ln + 1) T
    unfold MOT; split <;> (try split) <;> omega
theorem rmk_s {no : Bool} {lo hi ms : Int} (h : (no = true ∧ ms = 1) ∨ (no = false ∧ lo % 9223372036854775808 ≠ 9218868437227405312 ∧ hi % 9223372036854775808 ≠ 9218868437227405312 ∧ ms = 4) ∨ (no = false ∧ (lo % 9223372036854775808 = 9218868437227405312 ∨ hi % 9223372036854775808 = 9218868437227405312) ∧ ms = 3)) : ms = (if no = true then 1 else if infB lo hi = true then 3 else 4) := by
  unfold infB
  rcases h with ⟨h1, h2⟩ | ⟨h1, h2, h3, h4⟩ | ⟨h1, h2, h3⟩
  · rw [if_pos h1]; exact h2
  · rw [if_neg (by rw [h1]; decide), decide_eq_false h2, decide_eq_false h3]; exact h4
  · rw [if_neg (by rw [h1]; decide)]
    rcases h2 with h2 | h2
    · rw [decide_eq_true h2]; exact h3
    · rw [decide_eq_true h2, Bool.or_true]; exact h3
theorem Low_b {t t2 : Int → Int} {n : Int} (h : LowT t t2 n n) (hT : Tx t n) : Tx t2 n := LowT_Tx h hT
