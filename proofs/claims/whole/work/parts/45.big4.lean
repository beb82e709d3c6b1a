/-! Big: add -/
theorem ba_s {g g1 g2 : Int → Int} {k k2 i cy x y z : Int} (h : DL g (fun j => mgx g k j + mgx g2 k2 j) 0 0 g1 i cy) (hx : x = mgx g k i) (hy : y = mgx g2 k2 i) (hz : z = x + y + cy) : DL g (fun j => mgx g k j + mgx g2 k2 j) 0 0 (upZ g1 i (z % 65536)) (i + 1) (z / 65536) := by
  have s := DL_s h
  have ex : cy + (fun j => mgx g k j + mgx g2 k2 j) i = z := by
    show cy + (mgx g k i + mgx g2 k2 i) = z
    rw [hz, hx, hy]; omega
  rw [ex] at s; exact s
theorem MV_tail {g g1 : Int → Int} {i n : Int} (hi : 0 ≤ i ∧ i ≤ n) (h : ∀ j : Int, i ≤ j → j < n → g1 j = g j) : MV g1 n - MV g1 i = MV g n - MV g i := by
  have e : n = i + (n - i) := by omega
  rw [e]
  refine z_ind (P := fun r => r ≤ n - i → MV g1 (i + r) - MV g1 i = MV g (i + r) - MV g i) ?_ ?_ (show 0 ≤ n - i by omega) (by omega)
  · intro _; rw [Int.add_zero]; omega
  · intro r h0 ih hr
    have := ih (by omega)
    rw [show i + (r + 1) = i + r + 1 by omega, MV_s (k := i + r) (by omega), MV_s (g := g) (k := i + r) (by omega), h (i + r) (by omega) (by omega)]
    omega
/-- what the carry tells of the sum -/
theorem ba_big {g g1 g2 : Int → Int} {k k2 i cy v w : Int} (hN : BigOK g k v) (hM : BigOK g2 k2 w) (h : DL g (fun j => mgx g k j + mgx g2 k2 j) 0 0 g1 i cy) (hi : k ≤ i ∧ k2 ≤ i) (hc : 0 < cy) : QB i ≤ v + w := by
  have hk := hN.k; have hk2 := hM.k
  have e := h.2.2.2
  have D := DL_dg (fun j h1 h2 => by omega) h
  rw [MV_add (by omega), MV_mgx hk.1 hi.1, MV_mgx hk2.1 hi.2, hN.2.2.2, hM.2.2.2, MV_0, MV_0] at e
  have bd := MV_bd (show 0 ≤ i by omega) D
  have p := QB_pos i
  have := Int.mul_le_mul_of_nonneg_right (show 1 ≤ cy by omega) (show 0 ≤ QB i by omega)
  omega
theorem ba_end {g g1 g2 : Int → Int} {k k2 i v w : Int} (hN : BigOK g k v) (hM : BigOK g2 k2 w) (hi : k2 ≤ i ∧ i ≤ 640) (h : DL g (fun j => mgx g k j + mgx g2 k2 j) 0 0 g1 i 0) (hT : i ≤ max k k2 ∨ QB (i - 1) ≤ v + w) : BigOK g1 (max k i) (v + w) := by
  have hk := hN.k; have hk2 := hM.k; have b1 := hN.bd; have b2 := hM.bd
  have e := h.2.2.2
  have D := DL_dg (fun j h1 h2 => by omega) h
  rw [MV_add (by omega), MV_mgx hk2.1 hi.1, hM.2.2.2, MV_0, MV_0] at e
  by_cases q : i < k
  · rw [show max k i = k by omega]
    have tl := MV_tail (g := g) (g1 := g1) (i := i) (n := k) (by omega) (fun j h1 h2 => h.2.1 j (by omega) (Or.inr h1))
    have em : MV (mgx g k) i = MV g i := MV_congr (fun j h1 h2 => mgx_in (by omega))
    refine ⟨hk, fun j h1 h2 => ?_, fun _ => ?_, ?_⟩
    · by_cases z : j < i
      · exact D j h1 z
      · rw [h.2.1 j h1 (Or.inr (by omega))]; exact hN.2.1 j h1 h2
    · rw [h.2.1 (k - 1) (by omega) (Or.inr (by omega))]; exact hN.2.2.1 (by omega)
    · have := hN.2.2.2
      omega
  · rw [show max k i = i by omega]
    rw [MV_mgx hk.1 (by omega), hN.2.2.2] at e
    refine ⟨by omega, D, fun i0 => ?_, by omega⟩
    intro z
    have t := MV_topz i0 z
    have bd := MV_bd (show 0 ≤ i - 1 by omega) (Eg_sub D (show i - 1 ≤ i by omega))
    rcases hT with y | y
    · rcases Int.lt_or_le k2 i with x | x
      · have e2 : i = k := by omega
        have := hN.ge (by omega)
        rw [← e2] at this
        omega
      · have e2 : i = k2 := by omega
        have := hM.ge (by omega)
        rw [← e2] at this
        omega
    · omega
