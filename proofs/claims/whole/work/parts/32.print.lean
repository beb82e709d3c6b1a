/-! TEXT laid behind the first n chars of a row -/
def Wr (t : Int → Int) (n : Int) (L : List Int) : Int → Int := apZ t n (L.length : Int) (fun j => L.getD j.toNat 0)
theorem Wr_nil (t : Int → Int) (n : Int) : Wr t n [] = t := apZ_0 t n _
theorem Wr_str (t : Int → Int) (n : Int) (i : Nat) : apZ t n (strLen i : Int) (strCh i) = Wr t n (strByt.getD i []) := rfl
theorem Wr_app (t : Int → Int) (n : Int) (L M : List Int) : Wr (Wr t n L) (n + (L.length : Int)) M = Wr t n (L ++ M) := by
  funext j
  unfold Wr apZ
  rw [List.length_append]
  by_cases h : n + (L.length : Int) ≤ j ∧ j < n + (L.length : Int) + (M.length : Int)
  · rw [if_pos h, if_pos (by omega)]
    show M.getD _ 0 = (L ++ M).getD _ 0
    rw [List.getD_eq_getElem?_getD, List.getD_eq_getElem?_getD, List.getElem?_append_right (by omega)]
    congr 2; omega
  · rw [if_neg h]
    by_cases h2 : n ≤ j ∧ j < n + (L.length : Int)
    · rw [if_pos h2, if_pos (by omega)]
      show L.getD _ 0 = (L ++ M).getD _ 0
      rw [List.getD_eq_getElem?_getD, List.getD_eq_getElem?_getD, List.getElem?_append_left (by omega)]
    · rw [if_neg h2, if_neg (by omega)]
theorem Wr_one (t : Int → Int) (n x : Int) : upZ t n x = Wr t n [x] := by
  funext j
  unfold upZ Wr apZ
  by_cases h : j = n
  · rw [if_pos h, if_pos (by simp; omega), h]; simp
  · rw [if_neg h, if_neg (by simp; omega)]
theorem Wr_snoc (t : Int → Int) (n x : Int) (L : List Int) : upZ (Wr t n L) (n + (L.length : Int)) x = Wr t n (L ++ [x]) := by
  rw [Wr_one, Wr_app]
theorem Wr_lo {t : Int → Int} {n j : Int} {L : List Int} (h : j < n) : Wr t n L j = t j := apZ_lo h
theorem Wr_at {t : Int → Int} {n j : Int} {L : List Int} (h : n ≤ j ∧ j < n + (L.length : Int)) : Wr t n L j = L.getD (j - n).toNat 0 := if_pos h
/-- decimal digits of y from the unit u on, so many units; shown from the first one that counts -/
def dF : Nat → Int → Int → Bool → List Int
  | 0, _, _, _ => []
  | k + 1, u, y, sh => if (sh || decide (u ≤ y) || decide (u = 1)) = true then (48 + y / u % 10) :: dF k (u / 10) y true else dF k (u / 10) y false
def absZ (x : Int) : Int := if 0 ≤ x then x else -x
def sgnL (x : Int) : List Int := if x < 0 then [45] else []
/-- a whole number below 10000 in size -/
def EXT (x : Int) : List Int := sgnL x ++ dF 4 1000 (absZ x) false
theorem dF_len : ∀ (k : Nat) (u y : Int) (sh : Bool), (dF k u y sh).length ≤ k
  | 0, _, _, _ => Nat.le_refl _
  | k + 1, u, y, sh => by
    rw [dF]
    split
    · rw [List.length_cons]; have := dF_len k (u / 10) y true; omega
    · have := dF_len k (u / 10) y false; omega
theorem EXT_len (x : Int) : ((EXT x).length : Int) ≤ 5 := by
  unfold EXT sgnL
  rw [List.length_append]
  have := dF_len 4 1000 (absZ x) false
  split <;> simp <;> omega
/-- the unit of k digits -/
def U10 (k : Nat) (u : Int) : Prop := (k = 4 ∧ u = 1000) ∨ (k = 3 ∧ u = 100) ∨ (k = 2 ∧ u = 10) ∨ (k = 1 ∧ u = 1) ∨ (k = 0 ∧ u = 0)
theorem U10_s {k : Nat} {u : Int} (h : U10 k u) (hu : 0 < u) : ∃ k', k = k' + 1 ∧ U10 k' (u / 10) := by
  unfold U10 at h
  rcases h with ⟨h, g⟩ | ⟨h, g⟩ | ⟨h, g⟩ | ⟨h, g⟩ | ⟨h, g⟩ <;> subst h <;> subst g
  · exact ⟨3, rfl, Or.inr (Or.inl ⟨rfl, by decide⟩)⟩
  · exact ⟨2, rfl, Or.inr (Or.inr (Or.inl ⟨rfl, by decide⟩))⟩
  · exact ⟨1, rfl, Or.inr (Or.inr (Or.inr (Or.inl ⟨rfl, by decide⟩)))⟩
  · exact ⟨0, rfl, Or.inr (Or.inr (Or.inr (Or.inr ⟨rfl, by decide⟩)))⟩
  · exact absurd hu (by decide)
theorem U10_e {k : Nat} {u : Int} (h : U10 k u) (hu : ¬ 0 < u) : k = 0 := by unfold U10 at h; omega
theorem U10_r {k : Nat} {u : Int} (h : U10 k u) : 0 ≤ u ∧ u ≤ 1000 := by unfold U10 at h; omega
theorem dF_y {k : Nat} {u y : Int} {sh : Bool} (h : sh = true ∨ u ≤ y ∨ u = 1) : dF (k + 1) u y sh = (48 + y / u % 10) :: dF k (u / 10) y true := by
  rw [dF, if_pos]
  rcases h with h | h | h
  · rw [h]; rfl
  · rw [decide_eq_true h]; cases sh <;> rfl
  · rw [decide_eq_true h, Bool.or_true]
theorem dF_n {k : Nat} {u y : Int} {sh : Bool} (h : sh = false) (h2 : y < u) (h3 : u ≠ 1) : dF (k + 1) u y sh = dF k (u / 10) y false := by
  rw [dF, if_neg]
  rw [h, decide_eq_false (by omega), decide_eq_false h3]; decide
/-- digits of x from the unit u on, k of them -/
def gF : Nat → Int → Int → List Int
  | 0, _, _ => []
  | k + 1, u, x => (48 + x / u % 10) :: gF k (u / 10) x
theorem gF_len : ∀ (k : Nat) (u x : Int), (gF k u x).length = k
  | 0, _, _ => rfl
  | k + 1, u, x => by rw [gF, List.length_cons, gF_len k]
def PT10 (k : Nat) : Int := 10 ^ k
theorem PT10_s (k : Nat) : PT10 (k + 1) = 10 * PT10 k := by unfold PT10; rw [Int.pow_succ]; omega
theorem PT10_pos (k : Nat) : 0 < PT10 k := Int.pow_pos (by decide)
theorem PT10_d (k : Nat) : PT10 (k + 1) / 10 = PT10 k := by rw [PT10_s]; omega
theorem PT10_mono {a b : Nat} (h : a ≤ b) : PT10 a ≤ PT10 b := by
  obtain ⟨c, rfl⟩ := Nat.exists_eq_add_of_le h
  induction c with
  | zero => exact Int.le_refl _
  | succ c ih => rw [← Nat.add_assoc, PT10_s]; have := PT10_pos (a + c); have := ih (by omega); omega
theorem PT10_18 : PT10 18 = 1000000000000000000 := by decide +kernel
/-- d digits of x with a point behind the first -/
def DIG (x : Int) (d : Nat) : List Int := (48 + x / PT10 (d - 1) % 10) :: ((if 1 < d then [46] else []) ++ gF (d - 1) (PT10 (d - 1) / 10) x)
theorem DIG_len (x : Int) {d : Nat} : (DIG x d).length ≤ d + 2 := by
  unfold DIG
  rw [List.length_cons, List.length_append, gF_len]
  split <;> simp <;> omega
/-- hexadecimal digits of x, k of them, the lowest last -/
def hxc (x : Int) : Int := if x < 10 then 48 + x else 87 + x
def hF (x : Int) : Nat → List Int
  | 0 => []
  | k + 1 => hxc (x / 16 ^ k % 16) :: hF x k
theorem hF_len (x : Int) : ∀ k : Nat, (hF x k).length = k
  | 0 => rfl
  | k + 1 => by rw [hF, List.length_cons, hF_len x k]
/-- the size in base 16 -/
def B16 (x : Int) : List Int := (if x / 4503599627370496 = 0 then strByt.getD 22 [] else strByt.getD 23 []) ++ (hF x 13 ++ ([112] ++ EXT (max (x / 4503599627370496) 1 - 1023)))
theorem B16_len (x : Int) : ((B16 x).length : Int) ≤ 23 := by
  unfold B16
  have := EXT_len (max (x / 4503599627370496) 1 - 1023)
  rw [List.length_append, List.length_append, List.length_append, hF_len]
  have h : (if x / 4503599627370496 = 0 then strByt.getD 22 [] else strByt.getD 23 []).length = 4 := by split <;> rfl
  rw [h]
  simp only [List.length_cons, List.length_nil]
  omega
