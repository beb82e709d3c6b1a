/-! the reference's write -/
def ordZ (f : Int) : Int := if f < 0 then -(f % 9223372036854775808) else f
theorem aen_iff {lo hi : Int} (hl : -9223372036854775808 ≤ lo ∧ lo < 9223372036854775808) (hh : -9223372036854775808 ≤ hi ∧ hi < 9223372036854775808) : AEN (wz lo) (wz hi) ↔ ((lo % 9223372036854775808 < 9218868437227405312 ∨ lo = (if true = true then -4503599627370496 else 9218868437227405312)) ∧ (hi % 9223372036854775808 < 9218868437227405312 ∨ hi = (if false = true then -4503599627370496 else 9218868437227405312)) ∧ ordZ lo ≤ ordZ hi) := by
  unfold AEN wz plc ordZ
  rw [if_pos rfl, if_neg (show ¬ false = true by decide)]
  by_cases a : lo = -9223372036854775808 <;> by_cases b : hi = -9223372036854775808 <;> by_cases c : lo < 0 <;> by_cases d : hi < 0 <;> simp only [a, b, c, d, if_true, if_false, ite_true, ite_false] <;> (try split) <;> (try split) <;> omega
theorem stm_inf {a b : Int} (ha : -9223372036854775808 ≤ a ∧ a < 9223372036854775808) (hb : -9223372036854775808 ≤ b ∧ b < 9223372036854775808) (h : AEN a b) : stm a b = if a % 9223372036854775808 = 9218868437227405312 ∨ b % 9223372036854775808 = 9218868437227405312 then 3 else 4 := by
  obtain ⟨h1, h2, h3, h4, _⟩ := h
  unfold stm
  by_cases z : a = -4503599627370496 ∨ b = 9218868437227405312
  · rw [if_pos z, if_pos (by omega)]
  · rw [if_neg z, if_neg (by omega)]
theorem wr_a {t : Int → Int} {L A B : List Int} {j i : Int} (hj : j = ((L ++ [91]).length : Int) + i) (hi : 0 ≤ i ∧ i < (A.length : Int)) : Wr t 0 (L ++ [91] ++ A ++ [44] ++ B) j = A.getD i.toNat 0 := by
  have h := tw_a (t := t) (L := L) (A := A) (B := B) hi
  rw [rat_in (by simp only [List.length_append, List.length_cons, List.length_nil]; omega)] at h
  rw [hj]; exact h
theorem wr_b {t : Int → Int} {L A B : List Int} {j i : Int} (hj : j = ((L ++ [91] ++ A).length : Int) + 1 + i) (hi : 0 ≤ i ∧ i < (B.length : Int)) : Wr t 0 (L ++ [91] ++ A ++ [44] ++ B) j = B.getD i.toNat 0 := by
  have h := tw_b (t := t) (L := L) (A := A) (B := B) hi
  rw [rat_in (by simp only [List.length_append, List.length_cons, List.length_nil]; omega)] at h
  rw [hj]; exact h
/-- alike up to j -/
def TWJ (A B : List Int) (k : Int) : Prop := A.length = B.length ∧ ∀ j : Int, 0 ≤ j → j < k → A.getD j.toNat 0 = B.getD j.toNat 0
theorem TWJ_e {A B : List Int} {k : Int} (hk : (A.length : Int) ≤ k) : TWJ A B k ↔ A = B := by
  constructor
  · intro h; exact tw_eq h.1 (fun j h1 h2 => h.2 j h1 (by omega))
  · intro h; subst h; exact ⟨rfl, fun _ _ _ => rfl⟩
theorem TWJ_n {A B : List Int} {k : Int} (h : ¬ TWJ A B k) : A ≠ B := fun e => h (by subst e; exact ⟨rfl, fun _ _ _ => rfl⟩)
theorem TWJ_s {A B : List Int} {k : Int} (h : TWJ A B k) : (A.getD k.toNat 0 = B.getD k.toNat 0 → TWJ A B (k + 1)) ∧ (0 ≤ k → A.getD k.toNat 0 ≠ B.getD k.toNat 0 → ¬ TWJ A B (k + 1)) :=
  ⟨fun e => ⟨h.1, fun j h1 h2 => if z : j = k then (by rw [z]; exact e) else h.2 j h1 (by omega)⟩, fun hk e y => e (y.2 k hk (by omega))⟩
def MID (lo hi mk d own : Int) (no : Bool) (X : List Int) : Prop := (own = 0 ∧ no = false ∧ X = strByt.getD 19 []) ∨ (own ≠ 0 ∧ no = true ∧ X = strByt.getD 18 []) ∨ (own ≠ 0 ∧ no = false ∧ INTL (wz lo) (wz hi) d X)
theorem MID_end {lo hi mk d own : Int} {no : Bool} {X : List Int} (hm : 0 ≤ mk) (hno : no = true ↔ ¬ AEN (wz lo) (wz hi)) (hown : (no = true ∧ own = 1) ∨ (no = false ∧ own = min mk (stm (wz lo) (wz hi)))) (h : MID lo hi mk d own no X) : (own = 0 → WRL lo hi mk d X) ∧ (own ≠ 0 → WRL lo hi mk d (X ++ strByt.getD (mkI own) [])) := by
  have hs : 3 ≤ stm (wz lo) (wz hi) := by unfold stm; split <;> omega
  have hae : no = false → AEN (wz lo) (wz hi) := fun z => Classical.byContradiction (fun y => by rw [hno.mpr y] at z; cases z)
  rcases h with ⟨h1, h2, h3⟩ | ⟨h1, h2, h3⟩ | ⟨h1, h2, h3⟩
  · refine ⟨fun _ => Or.inr (Or.inl ⟨hae h2, ?_, h3⟩), fun z => absurd h1 z⟩
    rcases hown with z | z
    · rw [h2] at z; cases z.1
    · omega
  · refine ⟨fun z => absurd z h1, fun _ => Or.inl ⟨hno.mp h2, ?_⟩⟩
    rcases hown with z | z
    · rw [h3, z.2]
    · rw [h2] at z; cases z.1
  · refine ⟨fun z => absurd z h1, fun _ => Or.inr (Or.inr ⟨hae h2, ?_, X, h3, ?_⟩)⟩
    · rcases hown with z | z
      · rw [h2] at z; cases z.1
      · omega
    · rcases hown with z | z
      · rw [h2] at z; cases z.1
      · rw [← z.2]
theorem st_ms {no : Bool} {a b ms : Int} (h : (no = true ∧ ms = 1) ∨ (no = false ∧ a % 9223372036854775808 ≠ 9218868437227405312 ∧ b % 9223372036854775808 ≠ 9218868437227405312 ∧ ms = 4) ∨ (no = false ∧ (a % 9223372036854775808 = 9218868437227405312 ∨ b % 9223372036854775808 = 9218868437227405312) ∧ ms = 3)) (hn : no = false) (hs : stm a b = if a % 9223372036854775808 = 9218868437227405312 ∨ b % 9223372036854775808 = 9218868437227405312 then 3 else 4) : ms = stm a b := by
  rcases h with ⟨h1, _⟩ | ⟨_, h1, h2, h3⟩ | ⟨_, h1, h3⟩
  · rw [hn] at h1; cases h1
  · rw [hs, if_neg (fun z => z.elim h1 h2)]; exact h3
  · rw [hs, if_pos h1]; exact h3
