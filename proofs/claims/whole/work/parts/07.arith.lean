/-! sizes of ratios compared -/
theorem P2_neg {k : Int} (h : k ≤ 0) : P2 k = 1 := by unfold P2; rw [show k.toNat = 0 by omega]; rfl
theorem PB224 : PB 224 = P2 6720 := PB_P2 (by decide)
theorem BL_pos {v r : Int} (h : BL v r) (hv : 0 < v) : 1 ≤ r ∧ P2 (r - 1) ≤ v ∧ v < P2 r := by
  rcases h with ⟨a, b⟩ | ⟨a, b, c, d⟩
  · omega
  · exact ⟨b, c, d⟩
theorem BL_le {v r n : Int} (h : BL v r) (hv : 0 < v) (hn : v < P2 n) : r ≤ n := by
  have b := BL_pos h hv
  rcases Int.lt_or_le n r with q | q
  · have := P2_mono (show n ≤ r - 1 by omega); omega
  · exact q
theorem cs_gap {x y r q sh : Int} (hx : 0 < x) (hy : 0 < y) (h1 : BL x r) (h2 : BL y q) (hr : 0 ≤ r ∧ r ≤ 6720) (hq : 0 ≤ q ∧ q ≤ 6720) (hs : -1000000 ≤ sh ∧ sh ≤ 1000000) (hg : r + sh - q ≠ 0) : CmpR (r + sh - q) (x * P2 sh) (y * P2 (-sh)) := by
  have b1 := BL_pos h1 hx; have b2 := BL_pos h2 hy
  have p1 := P2_pos sh; have p2 := P2_pos (-sh)
  rcases Int.lt_or_gt_of_ne hg with z | z
  · have : x * P2 sh < y * P2 (-sh) := by
      rcases Int.lt_or_le sh 0 with s | s
      · rw [P2_neg (show sh ≤ 0 by omega), Int.mul_one]
        have m := Int.mul_le_mul_of_nonneg_right b2.2.1 (show 0 ≤ P2 (-sh) by omega)
        rw [← P2_add (by omega) (by omega)] at m
        have := P2_mono (show r ≤ q - 1 + -sh by omega)
        omega
      · rw [P2_neg (show -sh ≤ 0 by omega), Int.mul_one]
        have m := Int.mul_lt_mul_of_pos_right b1.2.2 p1
        rw [← P2_add (by omega) s] at m
        have := P2_mono (show r + sh ≤ q - 1 by omega)
        omega
    exact ⟨by omega, by omega, by omega⟩
  · have : y * P2 (-sh) < x * P2 sh := by
      rcases Int.lt_or_le sh 0 with s | s
      · rw [P2_neg (show sh ≤ 0 by omega), Int.mul_one]
        have m := Int.mul_lt_mul_of_pos_right b2.2.2 p2
        rw [← P2_add (by omega) (by omega)] at m
        have := P2_mono (show q + -sh ≤ r - 1 by omega)
        omega
      · rw [P2_neg (show -sh ≤ 0 by omega), Int.mul_one]
        have m := Int.mul_le_mul_of_nonneg_right b1.2.1 (show 0 ≤ P2 sh by omega)
        rw [← P2_add (by omega) s] at m
        have := P2_mono (show q ≤ r - 1 + sh by omega)
        omega
    exact ⟨by omega, by omega, by omega⟩
theorem cs_fit {x r q sh : Int} (hx : 0 < x) (h1 : BL x r) (hr : 0 ≤ r ∧ r ≤ 6720) (hq : 0 ≤ q ∧ q ≤ 6720) (hg : r + sh - q ≤ 0) : x * P2 sh < PB 224 := by
  have b1 := BL_pos h1 hx
  rw [PB224]
  rcases Int.lt_or_le sh 0 with s | s
  · rw [P2_neg (show sh ≤ 0 by omega), Int.mul_one]
    have := P2_mono (show r ≤ 6720 by omega)
    omega
  · have m := Int.mul_lt_mul_of_pos_right b1.2.2 (P2_pos sh)
    rw [← P2_add (by omega) s] at m
    have := P2_mono (show r + sh ≤ 6720 by omega)
    omega
/-- the one ratio is above the other one: (n1, v1 / b1 * 2 ^ p1) and (n2, v2 / b2 * 2 ^ p2) -/
def RGT (n1 : Bool) (v1 b1 p1 : Int) (n2 : Bool) (v2 b2 p2 : Int) : Prop := sv n2 v2 * b1 * P2 (p2 - p1) < sv n1 v1 * b2 * P2 (p1 - p2)
theorem sgnR_cases {n : Bool} {v : Int} (hv : 0 ≤ v) : (sgnR n v = 0 ∧ v = 0) ∨ (sgnR n v = 1 ∧ 0 < v ∧ n = false) ∨ (sgnR n v = -1 ∧ 0 < v ∧ n = true) := by
  unfold sgnR
  by_cases h : v = 0
  · left; rw [if_pos h]; exact ⟨rfl, h⟩
  · right; rw [if_neg h]
    cases n
    · left; exact ⟨rfl, by omega, rfl⟩
    · right; exact ⟨rfl, by omega, rfl⟩
theorem sgnR_rng (n : Bool) (v : Int) : -1 ≤ sgnR n v ∧ sgnR n v ≤ 1 := by
  unfold sgnR; split <;> (try split) <;> omega
/-- different signs decide -/
theorem RGT_sign {n1 n2 : Bool} {v1 b1 p1 v2 b2 p2 : Int} (h1 : 0 ≤ v1) (h2 : 0 ≤ v2) (hb1 : 0 < b1) (hb2 : 0 < b2) (h : sgnR n1 v1 ≠ sgnR n2 v2 ∨ sgnR n1 v1 = 0) : RGT n1 v1 b1 p1 n2 v2 b2 p2 ↔ sgnR n2 v2 < sgnR n1 v1 := by
  unfold RGT
  have q1 := P2_pos (p1 - p2); have q2 := P2_pos (p2 - p1)
  have pos : ∀ {x y z : Int}, 0 < x → 0 < y → 0 < z → 0 < x * y * z := fun a b c => Int.mul_pos (Int.mul_pos a b) c
  have neg : ∀ {x y z : Int}, -x * y * z = -(x * y * z) := by intro x y z; rw [Int.neg_mul, Int.neg_mul]
  have g1 := @neg v1 b2 (P2 (p1 - p2))
  have g2 := @neg v2 b1 (P2 (p2 - p1))
  rcases sgnR_cases (n := n1) h1 with ⟨e1, z1⟩ | ⟨e1, z1, m1⟩ | ⟨e1, z1, m1⟩ <;> rcases sgnR_cases (n := n2) h2 with ⟨e2, z2⟩ | ⟨e2, z2, m2⟩ | ⟨e2, z2, m2⟩ <;> rw [e1, e2] at h ⊢
  · subst z1; subst z2; unfold sv; cases n1 <;> cases n2 <;> simp
  · subst z1; subst m2; have := pos z2 hb1 q2; unfold sv; cases n1 <;> simp <;> omega
  · subst z1; subst m2; have := pos z2 hb1 q2; unfold sv; cases n1 <;> simp <;> omega
  · subst z2; subst m1; have := pos z1 hb2 q1; unfold sv; cases n2 <;> simp <;> omega
  · omega
  · subst m1; subst m2; have := pos z1 hb2 q1; have := pos z2 hb1 q2; unfold sv; simp; omega
  · subst z2; subst m1; have := pos z1 hb2 q1; unfold sv; cases n2 <;> simp <;> omega
  · subst m1; subst m2; have := pos z1 hb2 q1; have := pos z2 hb1 q2; unfold sv; simp; omega
  · omega
theorem RGT_pos {n1 n2 : Bool} {v1 b1 p1 v2 b2 p2 r : Int} (h1 : 0 ≤ v1) (h2 : 0 ≤ v2) (e1 : 0 < sgnR n1 v1) (e : sgnR n1 v1 = sgnR n2 v2) (hc : CmpR r (v1 * b2 * P2 (p1 - p2)) (v2 * b1 * P2 (-(p1 - p2)))) : RGT n1 v1 b1 p1 n2 v2 b2 p2 ↔ 0 < r := by
  have a := sgnR_cases (n := n1) h1; have b := sgnR_cases (n := n2) h2
  have m1 : n1 = false := by rcases a with ⟨x, _⟩ | ⟨_, _, y⟩ | ⟨x, _⟩ <;> first | (exfalso; omega) | exact y
  have m2 : n2 = false := by rcases b with ⟨x, _⟩ | ⟨_, _, y⟩ | ⟨x, _⟩ <;> first | (exfalso; omega) | exact y
  subst m1; subst m2
  obtain ⟨c1, c2, c3⟩ := hc
  rw [show -(p1 - p2) = p2 - p1 by omega] at c2 c3
  unfold RGT sv
  simp only [Bool.false_eq_true, if_false]
  omega
theorem RGT_neg {n1 n2 : Bool} {v1 b1 p1 v2 b2 p2 r : Int} (h1 : 0 ≤ v1) (h2 : 0 ≤ v2) (e1 : sgnR n1 v1 < 0) (e : sgnR n1 v1 = sgnR n2 v2) (hc : CmpR r (v1 * b2 * P2 (p1 - p2)) (v2 * b1 * P2 (-(p1 - p2)))) : RGT n1 v1 b1 p1 n2 v2 b2 p2 ↔ r < 0 := by
  have a := sgnR_cases (n := n1) h1; have b := sgnR_cases (n := n2) h2
  have m1 : n1 = true := by rcases a with ⟨x, _⟩ | ⟨x, _⟩ | ⟨_, _, y⟩ <;> first | (exfalso; omega) | exact y
  have m2 : n2 = true := by rcases b with ⟨x, _⟩ | ⟨x, _⟩ | ⟨_, _, y⟩ <;> first | (exfalso; omega) | exact y
  subst m1; subst m2
  obtain ⟨c1, c2, c3⟩ := hc
  rw [show -(p1 - p2) = p2 - p1 by omega] at c2 c3
  unfold RGT sv
  simp only [if_true, Int.neg_mul]
  omega
/-! fillTopLimb -/
theorem ft_sp {g : Int → Int} {k w r : Int} (h : NatOK g k w) (hw : 0 < w) (hr : BL w r) : 0 ≤ k * 30 - r ∧ k * 30 - r ≤ 29 := by
  have hk := h.k; have b := BL_pos hr hw
  have k0 : 0 < k := by have := h.zero; omega
  have g1 := h.ge k0; have g2 := h.bd
  rw [PB_P2 hk.1] at g2
  rw [PB_P2 (by omega)] at g1
  have a1 := BL_le hr hw g2.2
  have a2 : 30 * (k - 1) < r := by
    rcases Int.lt_or_le (30 * (k - 1)) r with q | q
    · exact q
    · have := P2_mono q; omega
  omega
theorem ft_right {g g' : Int → Int} {k k' w r : Int} (h : NatOK g k w) (hw : 0 < w) (hr : BL w r) (h' : NatOK g' k' (w * P2 (k * 30 - r))) : k' = k ∧ P2 (30 * k - 1) ≤ w * P2 (k * 30 - r) := by
  have hk := h.k; have hk' := h'.k; have b := BL_pos hr hw; have s := ft_sp h hw hr
  have m1 := Int.mul_le_mul_of_nonneg_right b.2.1 (show 0 ≤ P2 (k * 30 - r) by have := P2_pos (k * 30 - r); omega)
  rw [← P2_add (by omega) s.1, show r - 1 + (k * 30 - r) = 30 * k - 1 by omega] at m1
  have m2 := Int.mul_lt_mul_of_pos_right b.2.2 (P2_pos (k * 30 - r))
  rw [← P2_add (by omega) s.1, show r + (k * 30 - r) = 30 * k by omega] at m2
  have p := P2_pos (30 * k - 1)
  have k0 : 0 < k' := by have := h'.zero; omega
  have g1 := h'.ge k0; have g2 := h'.bd
  rw [PB_P2 hk'.1] at g2
  rw [PB_P2 (by omega)] at g1
  refine ⟨?_, m1⟩
  rcases Int.lt_trichotomy k' k with q | q | q
  · have := P2_mono (show 30 * k' ≤ 30 * k - 1 by omega); omega
  · exact q
  · have := P2_mono (show 30 * k ≤ 30 * (k' - 1) by omega); omega
theorem ft_left {x sp : Int} (hx : 0 ≤ x) (hs : 0 ≤ sp ∧ sp ≤ 29) (h : x * P2 29 < PB 224) : x * P2 sp < PB 224 := by
  have := Int.mul_le_mul_of_nonneg_left (P2_mono hs.2) hx
  omega
theorem ft_rfit {g : Int → Int} {k w r : Int} (h : NatOK g k w) (hw : 0 < w) (hr : BL w r) : w * P2 (k * 30 - r) < PB 224 := by
  have hk := h.k; have b := BL_pos hr hw; have s := ft_sp h hw hr
  have m2 := Int.mul_lt_mul_of_pos_right b.2.2 (P2_pos (k * 30 - r))
  rw [← P2_add (by omega) s.1, show r + (k * 30 - r) = 30 * k by omega] at m2
  rw [PB224]
  have := P2_mono (show 30 * k ≤ 6720 by omega)
  omega
