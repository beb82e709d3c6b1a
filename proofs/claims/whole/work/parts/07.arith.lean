/-! sizes of ratios compared -/
theorem P2_neg {k : Int} (h : k ≤ 0) : P2 k = 1 := by unfold P2; rw [show k.toNat = 0 by omega]; rfl
theorem PB224 : PB 224 = P2 6720 := PB_P2 (by decide)
theorem BL_pos {v r : Int} (h : BL v r) (hv : 0 < v) : 1 ≤ r ∧ P2 (r - 1) ≤ v ∧ v < P2 r := by
  rcases h with ⟨a, b⟩ | ⟨a, b, c, d⟩
  · omega
  · exact ⟨b, c, d⟩
theorem BL_le {v r n : Int} (h : BL v r) (hv : 0 < v) (hn : v < P2 n) : r ≤ n := by
  have b := BL_pos h hv
  rcases Int.lt_or_le n r with q | q
  · have := P2_mono (show n ≤ r - 1 by omega); omega
  · exact q
theorem cs_gap {x y r q sh : Int} (hx : 0 < x) (hy : 0 < y) (h1 : BL x r) (h2 : BL y q) (hr : 0 ≤ r ∧ r ≤ 6720) (hq : 0 ≤ q ∧ q ≤ 6720) (hs : -1000000 ≤ sh ∧ sh ≤ 1000000) (hg : r + sh - q ≠ 0) : CmpR (r + sh - q) (x * P2 sh) (y * P2 (-sh)) := by
  have b1 := BL_pos h1 hx; have b2 := BL_pos h2 hy
  have p1 := P2_pos sh; have p2 := P2_pos (-sh)
  rcases Int.lt_or_gt_of_ne hg with z | z
  · have : x * P2 sh < y * P2 (-sh) := by
      rcases Int.lt_or_le sh 0 with s | s
      · rw [P2_neg (show sh ≤ 0 by omega), Int.mul_one]
        have m := Int.mul_le_mul_of_nonneg_right b2.2.1 (show 0 ≤ P2 (-sh) by omega)
        rw [← P2_add (by omega) (by omega)] at m
        have := P2_mono (show r ≤ q - 1 + -sh by omega)
        omega
      · rw [P2_neg (show -sh ≤ 0 by omega), Int.mul_one]
        have m := Int.mul_lt_mul_of_pos_right b1.2.2 p1
        rw [← P2_add (by omega) s] at m
        have := P2_mono (show r + sh ≤ q - 1 by omega)
        omega
    exact ⟨by omega, by omega, by omega⟩
  · have : y * P2 (-sh) < x * P2 sh := by
      rcases Int.lt_or_le sh 0 with s | s
      · rw [P2_neg (show sh ≤ 0 by omega), Int.mul_one]
        have m := Int.mul_lt_mul_of_pos_right b2.2.2 p2
        rw [← P2_add (by omega) (by omega)] at m
        have := P2_mono (show q + -sh ≤ r - 1 by omega)
        omega
      · rw [P2_neg (show -sh ≤ 0 by omega), Int.mul_one]
        have m := Int.mul_le_mul_of_nonneg_right b1.2.1 (show 0 ≤ P2 sh by omega)
        rw [← P2_add (by omega) s] at m
        have := P2_mono (show q ≤ r - 1 + sh by omega)
        omega
    exact ⟨by omega, by omega, by omega⟩
theorem cs_fit {x r q sh : Int} (hx : 0 < x) (h1 : BL x r) (hr : 0 ≤ r ∧ r ≤ 6720) (hq : 0 ≤ q ∧ q ≤ 6720) (hg : r + sh - q ≤ 0) : x * P2 sh < PB 224 := by
  have b1 := BL_pos h1 hx
  rw [PB224]
  rcases Int.lt_or_le sh 0 with s | s
  · rw [P2_neg (show sh ≤ 0 by omega), Int.mul_one]
    have := P2_mono (show r ≤ 6720 by omega)
    omega
  · have m := Int.mul_lt_mul_of_pos_right b1.2.2 (P2_pos sh)
    rw [← P2_add (by omega) s] at m
    have := P2_mono (show r + sh ≤ 6720 by omega)
    omega
/-- the one ratio is above the other one: (n1, v1 / b1 * 2 ^ p1) and (n2, v2 / b2 * 2 ^ p2) -/
def RGT (n1 : Bool) (v1 b1 p1 : Int) (n2 : Bool) (v2 b2 p2 : Int) : Prop := sv n2 v2 * b1 * P2 (p2 - p1) < sv n1 v1 * b2 * P2 (p1 - p2)
theorem sgnR_cases {n : Bool} {v : Int} (hv : 0 ≤ v) : (sgnR n v = 0 ∧ v = 0) ∨ (sgnR n v = 1 ∧ 0 < v ∧ n = false) ∨ (sgnR n v = -1 ∧ 0 < v ∧ n = true) := by
  unfold sgnR
  by_cases h : v = 0
  · left; rw [if_pos h]; exact ⟨rfl, h⟩
  · right; rw [if_neg h]
    cases n
    · left; exact ⟨rfl, by omega, rfl⟩
    · right; exact ⟨rfl, by omega, rfl⟩
theorem sgnR_rng (n : Bool) (v : Int) : -1 ≤ sgnR n v ∧ sgnR n v ≤ 1 := by
  unfold sgnR; split <;> (try split) <;> omega
/-- different signs decide -/
theorem RGT_sign {n1 n2 : Bool} {v1 b1 p1 v2 b2 p2 : Int} (h1 : 0 ≤ v1) (h2 : 0 ≤ v2) (hb1 : 0 < b1) (hb2 : 0 < b2) (h : sgnR n1 v1 ≠ sgnR n2 v2 ∨ sgnR n1 v1 = 0) : RGT n1 v1 b1 p1 n2 v2 b2 p2 ↔ sgnR n2 v2 < sgnR n1 v1 := by
  unfold RGT
  have q1 := P2_pos (p1 - p2); have q2 := P2_pos (p2 - p1)
  have pos : ∀ {x y z : Int}, 0 < x → 0 < y → 0 < z → 0 < x * y * z := fun a b c => Int.mul_pos (Int.mul_pos a b) c
  have neg : ∀ {x y z : Int}, -x * y * z = -(x * y * z) := by intro x y z; rw [Int.neg_mul, Int.neg_mul]
  have g1 := @neg v1 b2 (P2 (p1 - p2))
  have g2 := @neg v2 b1 (P2 (p2 - p1))
  rcases sgnR_cases (n := n1) h1 with ⟨e1, z1⟩ | ⟨e1, z1, m1⟩ | ⟨e1, z1, m1⟩ <;> rcases sgnR_cases (n := n2) h2 with ⟨e2, z2⟩ | ⟨e2, z2, m2⟩ | ⟨e2, z2, m2⟩ <;> rw [e1, e2] at h ⊢
  · subst z1; subst z2; unfold sv; cases n1 <;> cases n2 <;> simp
  · subst z1; subst m2; have := pos z2 hb1 q2; unfold sv; cases n1 <;> simp <;> omega
  · subst z1; subst m2; have := pos z2 hb1 q2; unfold sv; cases n1 <;> simp <;> omega
  · subst z2; subst m1; have := pos z1 hb2 q1; unfold sv; cases n2 <;> simp <;> omega
  · omega
  · subst m1; subst m2; have := pos z1 hb2 q1; have := pos z2 hb1 q2; unfold sv; simp; omega
  · subst z2; subst m1; have := pos z1 hb2 q1; unfold sv; cases n2 <;> simp <;> omega
  · subst m1; subst m2; have := pos z1 hb2 q1; have := pos z2 hb1 q2; unfold sv; simp; omega
  · omega
theorem RGT_pos {n1 n2 : Bool} {v1 b1 p1 v2 b2 p2 r : Int} (h1 : 0 ≤ v1) (h2 : 0 ≤ v2) (e1 : 0 < sgnR n1 v1) (e : sgnR n1 v1 = sgnR n2 v2) (hc : CmpR r (v1 * b2 * P2 (p1 - p2)) (v2 * b1 * P2 (-(p1 - p2)))) : RGT n1 v1 b1 p1 n2 v2 b2 p2 ↔ 0 < r := by
  have a := sgnR_cases (n := n1) h1; have b := sgnR_cases (n := n2) h2
  have m1 : n1 = false := by rcases a with ⟨x, _⟩ | ⟨_, _, y⟩ | ⟨x, _⟩ <;> first | (exfalso; omega) | exact y
  have m2 : n2 = false := by rcases b with ⟨x, _⟩ | ⟨_, _, y⟩ | ⟨x, _⟩ <;> first | (exfalso; omega) | exact y
  subst m1; subst m2
  obtain ⟨c1, c2, c3⟩ := hc
  rw [show -(p1 - p2) = p2 - p1 by omega] at c2 c3
  unfold RGT sv
  simp only [Bool.false_eq_true, if_false]
  omega
theorem RGT_neg {n1 n2 : Bool} {v1 b1 p1 v2 b2 p2 r : Int} (h1 : 0 ≤ v1) (h2 : 0 ≤ v2) (e1 : sgnR n1 v1 < 0) (e : sgnR n1 v1 = sgnR n2 v2) (hc : CmpR r (v1 * b2 * P2 (p1 - p2)) (v2 * b1 * P2 (-(p1 - p2)))) : RGT n1 v1 b1 p1 n2 v2 b2 p2 ↔ r < 0 := by
  have a := sgnR_cases (n := n1) h1; have b := sgnR_cases (n := n2) h2
  have m1 : n1 = true := by rcases a with ⟨x, _⟩ | ⟨x, _⟩ | ⟨_, _, y⟩ <;> first | (exfalso; omega) | exact y
  have m2 : n2 = true := by rcases b with ⟨x, _⟩ | ⟨x, _⟩ | ⟨_, _, y⟩ <;> first | (exfalso; omega) | exact y
  subst m1; subst m2
  obtain ⟨c1, c2, c3⟩ := hc
  rw [show -(p1 - p2) = p2 - p1 by omega] at c2 c3
  unfold RGT sv
  simp only [if_true, Int.neg_mul]
  omega
/-! fillTopLimb -/
theorem ft_sp {g : Int → Int} {k w r : Int} (h : NatOK g k w) (hw : 0 < w) (hr : BL w r) : 0 ≤ k * 30 - r ∧ k * 30 - r ≤ 29 := by
  have hk := h.k; have b := BL_pos hr hw
  have k0 : 0 < k := by have := h.zero; omega
  have g1 := h.ge k0; have g2 := h.bd
  rw [PB_P2 hk.1] at g2
  rw [PB_P2 (by omega)] at g1
  have a1 := BL_le hr hw g2.2
  have a2 : 30 * (k - 1) < r := by
    rcases Int.lt_or_le (30 * (k - 1)) r with q | q
    · exact q
    · have := P2_mono q; omega
  omega
theorem ft_right {g g' : Int → Int} {k k' w r : Int} (h : NatOK g k w) (hw : 0 < w) (hr : BL w r) (h' : NatOK g' k' (w * P2 (k * 30 - r))) : k' = k ∧ P2 (30 * k - 1) ≤ w * P2 (k * 30 - r) := by
  have hk := h.k; have hk' := h'.k; have b := BL_pos hr hw; have s := ft_sp h hw hr
  have m1 := Int.mul_le_mul_of_nonneg_right b.2.1 (show 0 ≤ P2 (k * 30 - r) by have := P2_pos (k * 30 - r); omega)
  rw [← P2_add (by omega) s.1, show r - 1 + (k * 30 - r) = 30 * k - 1 by omega] at m1
  have m2 := Int.mul_lt_mul_of_pos_right b.2.2 (P2_pos (k * 30 - r))
  rw [← P2_add (by omega) s.1, show r + (k * 30 - r) = 30 * k by omega] at m2
  have p := P2_pos (30 * k - 1)
  have k0 : 0 < k' := by have := h'.zero; omega
  have g1 := h'.ge k0; have g2 := h'.bd
  rw [PB_P2 hk'.1] at g2
  rw [PB_P2 (by omega)] at g1
  refine ⟨?_, m1⟩
  rcases Int.lt_trichotomy k' k with q | q | q
  · have := P2_mono (show 30 * k' ≤ 30 * k - 1 by omega); omega
  · exact q
  · have := P2_mono (show 30 * k ≤ 30 * (k' - 1) by omega); omega
theorem ft_left {x sp : Int} (hx : 0 ≤ x) (hs : 0 ≤ sp ∧ sp ≤ 29) (h : x * P2 29 < PB 224) : x * P2 sp < PB 224 := by
  have := Int.mul_le_mul_of_nonneg_left (P2_mono hs.2) hx
  omega
theorem ft_rfit {g : Int → Int} {k w r : Int} (h : NatOK g k w) (hw : 0 < w) (hr : BL w r) : w * P2 (k * 30 - r) < PB 224 := by
  have hk := h.k; have b := BL_pos hr hw; have s := ft_sp h hw hr
  have m2 := Int.mul_lt_mul_of_pos_right b.2.2 (P2_pos (k * 30 - r))
  rw [← P2_add (by omega) s.1, show r + (k * 30 - r) = 30 * k by omega] at m2
  rw [PB224]
  have := P2_mono (show 30 * k ≤ 6720 by omega)
  omega
/-! the long division -/
/-- head and rest of a row of n + 1 limbs at most -/
theorem NV_head {g : Int → Int} {k x tp : Int} (h : NatOK g k x) (ht : 1 ≤ tp) (hx : x < PB (tp + 1)) : (lgx g k tp * 1073741824 + lgx g k (tp - 1)) * PB (tp - 1) ≤ x ∧ x < (lgx g k tp * 1073741824 + lgx g k (tp - 1) + 1) * PB (tp - 1) := by
  have hk := h.k
  have D1 : ∀ n : Int, Dg (lgx g k) n := fun n j _ _ => lgx_bd h.2.1 j
  have e0 : NV (lgx g k) (tp + 1) = x := by
    rcases Int.lt_or_le (tp + 1) k with q | q
    · -- longer rows have zeros above, so k is not above tp + 1
      exfalso
      have := h.ge (by omega)
      have := PB_mono (show tp + 1 ≤ k - 1 by omega)
      omega
    · rw [NV_lgx hk.1 q, h.2.2.2]
  have s1 := NV_s (g := lgx g k) (show 0 ≤ tp by omega)
  have s2 := NV_s (g := lgx g k) (show 0 ≤ tp - 1 by omega)
  rw [show tp - 1 + 1 = tp by omega] at s2
  have p := PB_s (show 0 ≤ tp - 1 by omega)
  rw [show tp - 1 + 1 = tp by omega] at p
  have b := NV_bd (show 0 ≤ tp - 1 by omega) (D1 (tp - 1))
  rw [e0, s2, p] at s1
  generalize PB (tp - 1) = P at *
  generalize lgx g k tp = x1 at *
  generalize lgx g k (tp - 1) = x2 at *
  generalize NV (lgx g k) (tp - 1) = x0 at *
  have e1 : (x1 * 1073741824 + x2) * P = x2 * P + x1 * (P * 1073741824) := by grind
  have e2 : (x1 * 1073741824 + x2 + 1) * P = x2 * P + x1 * (P * 1073741824) + P := by grind
  omega
/-- the guess: never too high, too low by 2 at most -/
theorem dv_guess {g gr : Int → Int} {k kr x w up : Int} (hL : NatOK g k x) (hR : NatOK gr kr w) (hw : 0 < w) (htop : P2 (30 * kr - 1) ≤ w) (hup : 0 ≤ up) (hx : x < w * PB (up + 1)) :
    0 ≤ (lgx g k (kr + up) * 1073741824 + lgx g k (kr + up - 1)) ∧ (lgx g k (kr + up) * 1073741824 + lgx g k (kr + up - 1)) < 1152921504606846976 ∧ (lgx gr kr (kr - 1) + 1 > 0 ∧ lgx gr kr (kr - 1) + 1 ≤ 1073741824) ∧
    (lgx g k (kr + up) * 1073741824 + lgx g k (kr + up - 1)) / (lgx gr kr (kr - 1) + 1) * w * PB up ≤ x ∧ x < ((lgx g k (kr + up) * 1073741824 + lgx g k (kr + up - 1)) / (lgx gr kr (kr - 1) + 1) + 3) * (w * PB up) ∧ 0 ≤ (lgx g k (kr + up) * 1073741824 + lgx g k (kr + up - 1)) / (lgx gr kr (kr - 1) + 1) ∧ (lgx g k (kr + up) * 1073741824 + lgx g k (kr + up - 1)) / (lgx gr kr (kr - 1) + 1) ≤ 1073741824 := by
  have hk := hL.k; have hkr := hR.k; have bx := hL.bd; have bw := hR.bd
  have kr0 : 0 < kr := by have := hR.zero; omega
  have b1 := lgx_bd hL.2.1 (kr + up); have b2 := lgx_bd hL.2.1 (kr + up - 1); have b3 := lgx_bd hR.2.1 (kr - 1)
  -- x is below PB (kr + up + 1)
  have pu := PB_pos up; have pu1 := PB_pos (up + 1)
  have hx2 : x < PB (kr + up + 1) := by
    have m := Int.mul_lt_mul_of_pos_right bw.2 pu1
    rw [← PB_add (by omega) (by omega), show kr + (up + 1) = kr + up + 1 by omega] at m
    omega
  have hh := NV_head hL (show 1 ≤ kr + up by omega) hx2
  -- the divisor's top limb
  have s := NV_s (g := gr) (show 0 ≤ kr - 1 by omega)
  rw [show kr - 1 + 1 = kr by omega, hR.2.2.2] at s
  have bn := NV_bd (show 0 ≤ kr - 1 by omega) (Dg_sub hR.2.1 (show kr - 1 ≤ kr by omega))
  have et : lgx gr kr (kr - 1) = gr (kr - 1) := lgx_in (by omega)
  rw [et] at b3 ⊢
  have e30 : P2 (30 * kr - 1) = 536870912 * PB (kr - 1) := by
    rw [PB_P2 (by omega), show (536870912 : Int) = P2 29 by decide +kernel, ← P2_add (by omega) (by omega)]; congr 1; omega
  have epu : PB (kr + up - 1) = PB (kr - 1) * PB up := by rw [← PB_add (by omega) hup]; congr 1; omega
  have eps := PB_s hup
  generalize hhd : lgx g k (kr + up) * 1073741824 + lgx g k (kr + up - 1) = hd at *
  generalize gr (kr - 1) = r1 at *
  have pk := PB_pos (kr - 1)
  have r29 : 536870912 ≤ r1 := by
    rcases Int.lt_or_le r1 536870912 with q | q
    · have := Int.mul_le_mul_of_nonneg_right (show r1 + 1 ≤ 536870912 by omega) (show 0 ≤ PB (kr - 1) by omega)
      rw [Int.add_mul] at this
      omega
    · exact q
  have hd0 : 0 ≤ hd := by omega
  have t0 : 0 ≤ hd / (r1 + 1) := Int.ediv_nonneg hd0 (by omega)
  have t1 : hd / (r1 + 1) * (r1 + 1) ≤ hd := Int.ediv_mul_le hd (by omega)
  have t2 : hd < (hd / (r1 + 1) + 1) * (r1 + 1) := Int.lt_ediv_add_one_mul_self hd (by omega)
  generalize hd / (r1 + 1) = t at *
  rw [epu] at hh
  generalize PB (kr - 1) = P at *
  generalize PB up = U at *
  have pPU := Int.mul_pos pk pu
  -- w is between r1 P and (r1 + 1) P
  have w1 : r1 * P ≤ w := by omega
  have w2 : w ≤ (r1 + 1) * P := by rw [Int.add_mul]; omega
  have lo : t * w * U ≤ x := by
    have a1 : t * w ≤ t * ((r1 + 1) * P) := Int.mul_le_mul_of_nonneg_left w2 t0
    have a2 := Int.mul_le_mul_of_nonneg_right a1 (show 0 ≤ U by omega)
    have a3 := Int.mul_le_mul_of_nonneg_right t1 (show 0 ≤ P * U by omega)
    have a4 : t * ((r1 + 1) * P) * U = t * (r1 + 1) * (P * U) := by grind
    omega
  have wU : 0 < w * U := Int.mul_pos hw pu
  have tb : t < 1073741824 := by
    rcases Int.lt_or_le t 1073741824 with q | q
    · exact q
    · exfalso
      have a1 := Int.mul_le_mul_of_nonneg_right q (show 0 ≤ w * U by omega)
      rw [eps] at hx
      have a2 : w * (U * 1073741824) = 1073741824 * (w * U) := by grind
      have a3 : t * w * U = t * (w * U) := by grind
      omega
  have hi : x < (t + 3) * (w * U) := by
    have a1 : (hd + 1) * (P * U) ≤ (t + 1) * (r1 + 1) * (P * U) := Int.mul_le_mul_of_nonneg_right (by omega) (by omega)
    have a2 : (t + 1) * (r1 + 1) * (P * U) = (t + 1) * (r1 * P * U) + (t + 1) * (P * U) := by grind
    have a3 : r1 * P * U ≤ w * U := Int.mul_le_mul_of_nonneg_right w1 (by omega)
    have a4 := Int.mul_le_mul_of_nonneg_left a3 (show 0 ≤ t + 1 by omega)
    have a5 : (t + 1) * (P * U) ≤ 1073741824 * (P * U) := Int.mul_le_mul_of_nonneg_right (by omega) (by omega)
    have a6 : 536870912 * P * U ≤ w * U := Int.mul_le_mul_of_nonneg_right (by omega) (by omega)
    have a7 : 536870912 * P * U = 536870912 * (P * U) := by grind
    have a8 : (t + 3) * (w * U) = (t + 1) * (w * U) + 2 * (w * U) := by grind
    omega
  exact ⟨hd0, by omega, by omega, lo, hi, t0, by omega⟩
/-- the loop of the division: T is what was divided, w the divisor, q so far, x what is left -/
def DVI (T w up q x : Int) : Prop := T = q * w * PB (up + 1) + x ∧ (0 ≤ x ∧ x < w * PB (up + 1)) ∧ 0 ≤ q
theorem DVI_q {T w up q x : Int} (h : DVI T w up q x) (hw : 0 < w) (hT : T < w * 4611686018427387904) : q < 4611686018427387904 := by
  obtain ⟨h1, h2, h3⟩ := h
  rcases Int.lt_or_le q 4611686018427387904 with z | z
  · exact z
  · exfalso
    have p := PB_pos (up + 1)
    have a1 := Int.mul_le_mul_of_nonneg_right z (show 0 ≤ w by omega)
    have a2 := Int.mul_le_mul_of_nonneg_left (show 1 ≤ PB (up + 1) by omega) (Int.mul_nonneg h3 (show 0 ≤ w by omega))
    have a3 : w * 4611686018427387904 = 4611686018427387904 * w := Int.mul_comm _ _
    omega
theorem DVI_s {T w up q x t y : Int} (h : DVI T w up q x) (hup : 0 ≤ up) (ht : 0 ≤ t) (hx : x = t * w * PB up + y) (hy : 0 ≤ y ∧ y < w * PB up) : DVI T w (up - 1) (q * 1073741824 + t) y := by
  obtain ⟨h1, h2, h3⟩ := h
  unfold DVI
  rw [show up - 1 + 1 = up by omega]
  refine ⟨?_, hy, by omega⟩
  rw [PB_s hup] at h1
  rw [h1, hx]
  grind
theorem DVI_end {T w q x : Int} (h : DVI T w (-1) q x) (hw : 0 < w) : T / w = q ∧ (T % w ≠ 0 ↔ 0 < x) := by
  obtain ⟨h1, h2, h3⟩ := h
  rw [show (-1 : Int) + 1 = 0 by omega, PB_0, Int.mul_one] at h1 h2
  have e1 : T / w = q := by
    rw [h1, Int.add_comm, Int.add_mul_ediv_right _ _ (by omega), Int.ediv_eq_zero_of_lt h2.1 h2.2]; omega
  have e2 : T % w = x := by
    rw [h1, Int.add_comm, Int.add_mul_emod_self_right, Int.emod_eq_of_lt h2.1 h2.2]
  exact ⟨e1, by rw [e2]; omega⟩
theorem DVI_0 {g gr : Int → Int} {k kr x w : Int} (hL : NatOK g k x) (hR : NatOK gr kr w) (hw : 0 < w) (htop : P2 (30 * kr - 1) ≤ w) : (kr ≤ k → DVI x w (k - kr) 0 x) ∧ (k < kr → DVI x w (-1) 0 x) := by
  have bx := hL.bd; have hk := hL.k; have hkr := hR.k
  have kr0 : 0 < kr := by have := hR.zero; omega
  have e30 : P2 (30 * kr - 1) = 536870912 * PB (kr - 1) := by
    rw [PB_P2 (by omega), show (536870912 : Int) = P2 29 by decide +kernel, ← P2_add (by omega) (by omega)]; congr 1; omega
  refine ⟨fun q => ⟨by simp, ⟨bx.1, ?_⟩, Int.le_refl _⟩, fun q => ⟨by simp, ⟨bx.1, ?_⟩, Int.le_refl _⟩⟩
  · have a1 := Int.mul_le_mul_of_nonneg_right htop (show 0 ≤ PB (k - kr + 1) by have := PB_pos (k - kr + 1); omega)
    have a2 : PB k = PB (kr - 1) * PB (k - kr + 1) := by rw [← PB_add (by omega) (by omega)]; congr 1; omega
    have a3 : 536870912 * PB (kr - 1) * PB (k - kr + 1) = 536870912 * PB k := by rw [a2]; grind
    rw [e30, a3] at a1
    have := PB_pos k
    omega
  · rw [show (-1 : Int) + 1 = 0 by omega, PB_0, Int.mul_one]
    have := PB_mono (show k ≤ kr - 1 by omega)
    have := PB_pos (kr - 1)
    omega
theorem DVI_00 {g gr : Int → Int} {k kr x w : Int} (hL : NatOK g k x) (hR : NatOK gr kr w) (hw : 0 < w) (htop : P2 (30 * kr - 1) ≤ w) : DVI x w (max (k - kr) (-1)) 0 x := by
  have h := DVI_0 hL hR hw htop
  rcases Int.lt_or_le k kr with q | q
  · rw [show max (k - kr) (-1) = -1 by omega]; exact h.2 q
  · rw [show max (k - kr) (-1) = k - kr by omega]; exact h.1 q
theorem dv_y {y i Z : Int} (h : y < (4 - i) * Z) (h1 : 3 ≤ i) (h2 : i ≤ 3) : y < Z := by
  rw [show i = 3 by omega] at h; omega
theorem mul_div_same {L R s : Int} (hs : 0 < s) (hR : 0 < R) : (L * s) / (R * s) = L / R ∧ (L * s % (R * s) ≠ 0 ↔ L % R ≠ 0) := by
  refine ⟨Int.mul_ediv_mul_of_pos_left _ _ hs, ?_⟩
  rw [Int.mul_comm L, Int.mul_comm R, Int.mul_emod_mul_of_pos _ _ hs]
  constructor
  · intro h z; exact h (by rw [z]; simp)
  · intro h z
    rcases Int.mul_eq_zero.mp z with q | q
    · omega
    · exact h q
