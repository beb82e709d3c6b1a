/-! floats: the n-th float from 0 on, as a whole number of units 2 ^ -1074 -/
def FV (n : Int) : Int := if n < 4503599627370496 then n else (4503599627370496 + n % 4503599627370496) * P2 (n / 4503599627370496 - 1)
theorem FV_n {s w : Int} (hs : 0 ≤ s) (hw : (s = 0 ∧ 0 ≤ w) ∨ 4503599627370496 ≤ w) (hw2 : w ≤ 9007199254740992) : FV (s * 4503599627370496 + w) = w * P2 s := by
  unfold FV
  by_cases h : s * 4503599627370496 + w < 4503599627370496
  · rw [if_pos h]
    have e : s = 0 := by omega
    rw [e, P2_0]; omega
  · rw [if_neg h]
    by_cases h2 : w = 9007199254740992
    · have e1 : (s * 4503599627370496 + w) % 4503599627370496 = 0 := by omega
      have e2 : (s * 4503599627370496 + w) / 4503599627370496 - 1 = s + 1 := by omega
      rw [e1, e2, P2_s hs, h2]; omega
    · have w1 : 4503599627370496 ≤ w := by omega
      have e1 : (s * 4503599627370496 + w) % 4503599627370496 = w - 4503599627370496 := by omega
      have e2 : (s * 4503599627370496 + w) / 4503599627370496 - 1 = s := by omega
      rw [e1, e2]; congr 1; omega
/-- the ratio v / b * 2 ^ pw in those units -/
def QN (v pw : Int) : Int := v * P2 (pw + 1074)
def QD (b pw : Int) : Int := b * P2 (-(pw + 1074))
/-- n is that size rounded down, rounded up -/
def DNS (n v b pw : Int) : Prop := (0 ≤ n ∧ n ≤ 9218868437227405311) ∧ FV n * QD b pw ≤ QN v pw ∧ (n = 9218868437227405311 ∨ QN v pw < FV (n + 1) * QD b pw)
def UPS (n v b pw : Int) : Prop := (0 ≤ n ∧ n ≤ 9218868437227405312) ∧ (n = 0 ∨ FV (n - 1) * QD b pw < QN v pw) ∧ (n = 9218868437227405312 ∨ QN v pw ≤ FV n * QD b pw)
theorem P2_id {a d : Int} (h : 0 ≤ a + d) : P2 a * P2 d = P2 (-d) * P2 (-a) * P2 (a + d) := by
  rcases Int.lt_or_le a 0 with p | p <;> rcases Int.lt_or_le d 0 with q | q
  · omega
  · rw [P2_neg (show a ≤ 0 by omega), P2_neg (show -d ≤ 0 by omega), Int.one_mul, Int.one_mul, ← P2_add (by omega) h]; congr 1; omega
  · rw [P2_neg (show d ≤ 0 by omega), P2_neg (show -a ≤ 0 by omega), Int.mul_one, Int.mul_one, ← P2_add (by omega) h]; congr 1; omega
  · rw [P2_neg (show -d ≤ 0 by omega), P2_neg (show -a ≤ 0 by omega), Int.one_mul, Int.one_mul, ← P2_add p q]
/-- what the division gives, in those units -/
theorem rs_div {v b pw u w : Int} (hb : 0 < b) (hu : -1074 ≤ u) (hw : w = v * P2 (pw - u) / (b * P2 (u - pw))) : w * P2 (u + 1074) * QD b pw ≤ QN v pw ∧ QN v pw < (w + 1) * P2 (u + 1074) * QD b pw ∧ (v * P2 (pw - u) % (b * P2 (u - pw)) ≠ 0 ↔ w * P2 (u + 1074) * QD b pw ≠ QN v pw) := by
  have hR : 0 < b * P2 (u - pw) := Int.mul_pos hb (P2_pos _)
  have e := P2_id (a := pw + 1074) (d := u - pw) (by omega)
  rw [show -(u - pw) = pw - u by omega, show pw + 1074 + (u - pw) = u + 1074 by omega] at e
  have key : QN v pw * (b * P2 (u - pw)) = v * P2 (pw - u) * (QD b pw * P2 (u + 1074)) := by
    unfold QN QD
    have e1 : v * P2 (pw + 1074) * (b * P2 (u - pw)) = v * b * (P2 (pw + 1074) * P2 (u - pw)) := by grind
    rw [e1, e]; grind
  have hD : 0 < QD b pw * P2 (u + 1074) := Int.mul_pos (Int.mul_pos hb (P2_pos _)) (P2_pos _)
  have d1 : w * (b * P2 (u - pw)) ≤ v * P2 (pw - u) := by rw [hw]; exact Int.ediv_mul_le _ (by omega)
  have d2 : v * P2 (pw - u) < (w + 1) * (b * P2 (u - pw)) := by rw [hw]; exact Int.lt_ediv_add_one_mul_self _ hR
  have d3 : v * P2 (pw - u) % (b * P2 (u - pw)) = v * P2 (pw - u) - (b * P2 (u - pw)) * w := by rw [Int.emod_def, hw]
  rw [d3]
  generalize v * P2 (pw - u) = L at *
  generalize b * P2 (u - pw) = R at *
  have f1 : w * P2 (u + 1074) * QD b pw = w * (QD b pw * P2 (u + 1074)) := by grind
  have f2 : (w + 1) * P2 (u + 1074) * QD b pw = (w + 1) * (QD b pw * P2 (u + 1074)) := by grind
  rw [f1, f2]
  generalize QD b pw * P2 (u + 1074) = K at *
  generalize QN v pw = N at *
  -- N * R = L * K
  refine ⟨?_, ?_, ?_⟩
  · have a1 := Int.mul_le_mul_of_nonneg_right d1 (show 0 ≤ K by omega)
    rw [← key] at a1
    have a2 : w * R * K = w * K * R := by grind
    rw [a2] at a1
    exact Int.le_of_mul_le_mul_right a1 hR
  · have a1 := Int.mul_lt_mul_of_pos_right d2 hD
    rw [← key] at a1
    have a2 : (w + 1) * R * K = (w + 1) * K * R := by grind
    rw [a2] at a1
    exact Int.lt_of_mul_lt_mul_right a1 (by omega)
  · constructor
    · intro h z
      apply h
      have a1 : (w * K) * R = L * K := by rw [z]; exact key
      have a2 : (R * w) * K = L * K := by rw [← a1]; grind
      have := Int.eq_of_mul_eq_mul_right (by omega) a2
      omega
    · intro h z
      apply h
      have a1 : L = R * w := by omega
      have a2 : (w * K) * R = N * R := by rw [key, a1]; grind
      exact Int.eq_of_mul_eq_mul_right (by omega) a2
/-- what stands before the result is put together -/
def RSI (v b pw w u : Int) (ix : Bool) : Prop := (w * P2 (u + 1074) * QD b pw ≤ QN v pw ∧ QN v pw < (w + 1) * P2 (u + 1074) * QD b pw ∧ (ix = true ↔ w * P2 (u + 1074) * QD b pw ≠ QN v pw)) ∧ ((u = -1074 ∧ 0 ≤ w) ∨ 4503599627370496 ≤ w) ∧ w < 9007199254740992 ∧ (-1074 ≤ u ∧ u ≤ 1000)
theorem RSI_half {v b pw w u : Int} {ix jx : Bool} (hu : -1074 ≤ u ∧ u < 1000) (hw : 9007199254740992 ≤ w ∧ w < 18014398509481984) (h : w * P2 (u + 1074) * QD b pw ≤ QN v pw ∧ QN v pw < (w + 1) * P2 (u + 1074) * QD b pw ∧ (ix = true ↔ w * P2 (u + 1074) * QD b pw ≠ QN v pw)) (hb : 0 < b) (hj : jx = true ↔ (ix = true ∨ w % 2 ≠ 0)) : RSI v b pw (w / 2) (u + 1) jx := by
  obtain ⟨h1, h2, h3⟩ := h
  have K0 : 0 < P2 (u + 1074) * QD b pw := Int.mul_pos (P2_pos _) (Int.mul_pos hb (P2_pos _))
  have e1 : P2 (u + 1 + 1074) = P2 (u + 1074) * 2 := by rw [show u + 1 + 1074 = u + 1074 + 1 by omega, P2_s (by omega)]
  have f : ∀ z : Int, z * (P2 (u + 1074) * 2) * QD b pw = 2 * z * (P2 (u + 1074) * QD b pw) := fun z => by grind
  have g : ∀ z : Int, z * P2 (u + 1074) * QD b pw = z * (P2 (u + 1074) * QD b pw) := fun z => by grind
  rw [g] at h1 h2 h3
  have dm : w = 2 * (w / 2) + w % 2 := by omega
  refine ⟨⟨?_, ?_, ?_⟩, by omega, by omega, by omega⟩
  · rw [e1, f]
    have := Int.mul_le_mul_of_nonneg_right (show 2 * (w / 2) ≤ w by omega) (show 0 ≤ P2 (u + 1074) * QD b pw by omega)
    omega
  · rw [e1, f]
    have := Int.mul_le_mul_of_nonneg_right (show w + 1 ≤ 2 * (w / 2 + 1) by omega) (show 0 ≤ P2 (u + 1074) * QD b pw by omega)
    omega
  · rw [e1, f, hj]
    generalize P2 (u + 1074) * QD b pw = K at *
    by_cases q : w % 2 = 0
    · rw [show 2 * (w / 2) = w by omega]
      constructor
      · intro z; rcases z with z | z
        · exact h3.mp z
        · exact absurd q z
      · intro z; exact Or.inl (h3.mpr z)
    · constructor
      · intro _ z
        have := Int.mul_le_mul_of_nonneg_right (show 2 * (w / 2) + 1 ≤ w by omega) (show 0 ≤ K by omega)
        rw [Int.add_mul] at this
        omega
      · intro _; exact Or.inr q
/-- the result: rounded down without ix, and with it where it goes away from 0 -/
theorem RSI_dn {v b pw w u : Int} {ix : Bool} (h : RSI v b pw w u ix) (hu : u ≤ 971) : DNS ((u + 1074) * 4503599627370496 + w) v b pw := by
  obtain ⟨⟨h1, h2, h3⟩, h4, h5, h6⟩ := h
  have e1 := FV_n (s := u + 1074) (w := w) (by omega) (by omega) (by omega)
  have e2 := FV_n (s := u + 1074) (w := w + 1) (by omega) (by omega) (by omega)
  refine ⟨by omega, by rw [e1]; exact h1, Or.inr ?_⟩
  rw [show (u + 1074) * 4503599627370496 + w + 1 = (u + 1074) * 4503599627370496 + (w + 1) by omega, e2]; exact h2
theorem RSI_up {v b pw w u : Int} {ix : Bool} (h : RSI v b pw w u ix) (hv : 0 < v) (hb : 0 < b) (hu : u ≤ 971) : UPS ((u + 1074) * 4503599627370496 + w + (if ix then 1 else 0)) v b pw := by
  obtain ⟨⟨h1, h2, h3⟩, h4, h5, h6⟩ := h
  have e1 := FV_n (s := u + 1074) (w := w) (by omega) (by omega) (by omega)
  have e2 := FV_n (s := u + 1074) (w := w + 1) (by omega) (by omega) (by omega)
  have K0 : 0 < P2 (u + 1074) * QD b pw := Int.mul_pos (P2_pos _) (Int.mul_pos hb (P2_pos _))
  have N0 : 0 < QN v pw := Int.mul_pos hv (P2_pos _)
  have g : ∀ z : Int, z * P2 (u + 1074) * QD b pw = z * (P2 (u + 1074) * QD b pw) := fun z => by grind
  cases ix with
  | true =>
    have ne := h3.mp rfl
    simp only [if_true]
    refine ⟨by omega, Or.inr ?_, Or.inr ?_⟩
    · rw [show (u + 1074) * 4503599627370496 + w + 1 - 1 = (u + 1074) * 4503599627370496 + w by omega, e1]; omega
    · rw [show (u + 1074) * 4503599627370496 + w + 1 = (u + 1074) * 4503599627370496 + (w + 1) by omega, e2]; omega
  | false =>
    have eq : w * P2 (u + 1074) * QD b pw = QN v pw := by
      by_cases z : w * P2 (u + 1074) * QD b pw = QN v pw
      · exact z
      · exact absurd (h3.mpr z) (by decide)
    simp only [Bool.false_eq_true, if_false, Int.add_zero]
    refine ⟨by omega, ?_, Or.inr ?_⟩
    · by_cases z : w = 0
      · exfalso; rw [z] at eq; simp at eq; omega
      · right
        -- one below
        by_cases lo : (u + 1074 = 0 ∧ 0 ≤ w - 1) ∨ 4503599627370496 ≤ w - 1
        · have e3 := FV_n (s := u + 1074) (w := w - 1) (by omega) lo (by omega)
          rw [show (u + 1074) * 4503599627370496 + w - 1 = (u + 1074) * 4503599627370496 + (w - 1) by omega, e3, ← eq, g, g, Int.sub_mul]
          omega
        · -- w is 2 ^ 52 and the unit is not the least one: the float below has half the unit
          have w52 : w = 4503599627370496 := by omega
          have e3 := FV_n (s := u + 1074 - 1) (w := 9007199254740991) (by omega) (Or.inr (by omega)) (by omega)
          rw [show (u + 1074) * 4503599627370496 + w - 1 = (u + 1074 - 1) * 4503599627370496 + 9007199254740991 by omega, e3, ← eq, w52]
          have e4 : P2 (u + 1074) = P2 (u + 1074 - 1) * 2 := by rw [← P2_s (by omega)]; congr 1; omega
          rw [e4]
          have K1 : 0 < P2 (u + 1074 - 1) * QD b pw := Int.mul_pos (P2_pos _) (Int.mul_pos hb (P2_pos _))
          have g2 : 9007199254740991 * P2 (u + 1074 - 1) * QD b pw = 9007199254740991 * (P2 (u + 1074 - 1) * QD b pw) := by grind
          have g3 : 4503599627370496 * (P2 (u + 1074 - 1) * 2) * QD b pw = 9007199254740992 * (P2 (u + 1074 - 1) * QD b pw) := by grind
          rw [g2, g3]
          omega
    · rw [e1, eq]; exact Int.le_refl _
theorem FV_big : FV 9218868437227405311 = 9007199254740991 * P2 2045 ∧ FV 9218868437227405312 = 9007199254740992 * P2 2045 := by
  have e1 := FV_n (s := 2045) (w := 9007199254740991) (by omega) (Or.inr (by omega)) (by omega)
  have e2 := FV_n (s := 2045) (w := 9007199254740992) (by omega) (Or.inr (by omega)) (by omega)
  exact ⟨e1, e2⟩
/-- too large -/
theorem rs_over {v b pw : Int} (hb : 0 < b) (h : 9007199254740992 * P2 2045 * QD b pw ≤ QN v pw) : DNS 9218868437227405311 v b pw ∧ UPS 9218868437227405312 v b pw := by
  obtain ⟨e1, e2⟩ := FV_big
  have K0 : 0 < P2 2045 * QD b pw := Int.mul_pos (P2_pos _) (Int.mul_pos hb (P2_pos _))
  have g : ∀ z : Int, z * P2 2045 * QD b pw = z * (P2 2045 * QD b pw) := fun z => by grind
  rw [g] at h
  refine ⟨⟨by omega, by rw [e1, g]; omega, Or.inl rfl⟩, ⟨by omega, Or.inr ?_, Or.inl rfl⟩⟩
  rw [show (9218868437227405312 : Int) - 1 = 9218868437227405311 by omega, e1, g]
  omega
theorem RSI_over {v b pw w u : Int} {ix : Bool} (h : RSI v b pw w u ix) (hb : 0 < b) (hu : 971 < u) : DNS 9218868437227405311 v b pw ∧ UPS 9218868437227405312 v b pw := by
  obtain ⟨⟨h1, h2, h3⟩, h4, h5, h6⟩ := h
  refine rs_over hb ?_
  have m := P2_mono (show 2046 ≤ u + 1074 by omega)
  have e : P2 2046 = P2 2045 * 2 := by rw [show (2046 : Int) = 2045 + 1 by omega, P2_s (by omega)]
  have q0 : 0 < QD b pw := Int.mul_pos hb (P2_pos _)
  have a1 := Int.mul_le_mul_of_nonneg_right m (show 0 ≤ QD b pw by omega)
  have a2 := Int.mul_le_mul_of_nonneg_right (show 4503599627370496 ≤ w by omega) (show 0 ≤ P2 (u + 1074) * QD b pw by have := Int.mul_pos (P2_pos (u + 1074)) q0; omega)
  have a3 : w * P2 (u + 1074) * QD b pw = w * (P2 (u + 1074) * QD b pw) := by grind
  have a4 : 9007199254740992 * P2 2045 * QD b pw = 4503599627370496 * (P2 2045 * 2 * QD b pw) := by grind
  rw [e] at a1
  omega
/-- far too large, far too small: by the bits alone -/
theorem rs_far {v b pw r1 r2 : Int} (hv : 0 < v) (hb : 0 < b) (h1 : BL v r1) (h2 : BL b r2) (h : 1025 < r1 - r2 + pw) : 9007199254740992 * P2 2045 * QD b pw ≤ QN v pw := by
  have b1 := BL_pos h1 hv; have b2 := BL_pos h2 hb
  unfold QN QD
  have e : (9007199254740992 : Int) * P2 2045 = P2 2098 := by rw [show (9007199254740992 : Int) = P2 53 by decide +kernel, ← P2_add (by omega) (by omega)]; rfl
  rw [e]
  have p0 := P2_pos (pw + 1074); have p1 := P2_pos (-(pw + 1074)); have p2 := P2_pos 2098
  rcases Int.lt_or_le (pw + 1074) 0 with q | q
  · rw [P2_neg (show pw + 1074 ≤ 0 by omega), Int.mul_one]
    have a1 := Int.mul_le_mul_of_nonneg_right (show b ≤ P2 r2 by omega) (show 0 ≤ P2 (-(pw + 1074)) by omega)
    rw [← P2_add (by omega) (by omega)] at a1
    have a2 := Int.mul_le_mul_of_nonneg_left a1 (show 0 ≤ P2 2098 by omega)
    rw [← P2_add (by omega) (by omega)] at a2
    have a3 := P2_mono (show 2098 + (r2 + -(pw + 1074)) ≤ r1 - 1 by omega)
    omega
  · rw [P2_neg (show -(pw + 1074) ≤ 0 by omega), Int.mul_one]
    have a1 := Int.mul_le_mul_of_nonneg_left (show b ≤ P2 r2 by omega) (show 0 ≤ P2 2098 by omega)
    rw [← P2_add (by omega) (by omega)] at a1
    have a2 := Int.mul_le_mul_of_nonneg_right b1.2.1 (show 0 ≤ P2 (pw + 1074) by omega)
    rw [← P2_add (by omega) q] at a2
    have a3 := P2_mono (show 2098 + r2 ≤ r1 - 1 + (pw + 1074) by omega)
    omega
theorem rs_near {v b pw r1 r2 : Int} (hv : 0 < v) (hb : 0 < b) (h1 : BL v r1) (h2 : BL b r2) (h : r1 - r2 + pw < -1075) : DNS 0 v b pw ∧ UPS 1 v b pw := by
  have b1 := BL_pos h1 hv; have b2 := BL_pos h2 hb
  have p0 := P2_pos (pw + 1074); have p1 := P2_pos (-(pw + 1074))
  have N0 : 0 < QN v pw := Int.mul_pos hv p0
  have lt : QN v pw < QD b pw := by
    unfold QN QD
    rcases Int.lt_or_le (pw + 1074) 0 with q | q
    · rw [P2_neg (show pw + 1074 ≤ 0 by omega), Int.mul_one]
      have a2 := Int.mul_le_mul_of_nonneg_right b2.2.1 (show 0 ≤ P2 (-(pw + 1074)) by omega)
      rw [← P2_add (by omega) (by omega)] at a2
      have a3 := P2_mono (show r1 ≤ r2 - 1 + -(pw + 1074) by omega)
      omega
    · rw [P2_neg (show -(pw + 1074) ≤ 0 by omega), Int.mul_one]
      have a1 := Int.mul_lt_mul_of_pos_right b1.2.2 p0
      rw [← P2_add (by omega) q] at a1
      have a3 := P2_mono (show r1 + (pw + 1074) ≤ r2 - 1 by omega)
      omega
  have f0 : FV 0 = 0 := rfl
  have f1 : FV 1 = 1 := rfl
  refine ⟨⟨by omega, by rw [f0]; simp; omega, Or.inr (by rw [show (0 : Int) + 1 = 1 by omega, f1, Int.one_mul]; exact lt)⟩, ⟨by omega, Or.inr (by rw [show (1 : Int) - 1 = 0 by omega, f0]; simp; exact N0), Or.inr (by rw [f1, Int.one_mul]; omega)⟩⟩
/-- the unit that is taken: what the division needs, and how many units there are -/
theorem rs_unit {v b pw r1 r2 u : Int} (hv : 0 < v) (hb : 0 < b) (h1 : BL v r1) (h2 : BL b r2) (hr1 : r1 ≤ 6600) (hr2 : r2 ≤ 6600) (ha : -1075 ≤ r1 - r2 + pw) (hu : u = max (r1 - r2 + pw - 52 - 1) (-1074)) :
    v * P2 (pw - u) * P2 29 < PB 224 ∧ b * P2 (u - pw) < PB 224 ∧ v * P2 (pw - u) < b * P2 (u - pw) * 18014398509481984 ∧ (u = -1074 ∨ 4503599627370496 * (b * P2 (u - pw)) ≤ v * P2 (pw - u)) := by
  have b1 := BL_pos h1 hv; have b2 := BL_pos h2 hb
  rw [PB224]
  have p0 := P2_pos (pw - u); have p1 := P2_pos (u - pw)
  have e54 : (18014398509481984 : Int) = P2 54 := by decide +kernel
  have e52 : (4503599627370496 : Int) = P2 52 := by decide +kernel
  refine ⟨?_, ?_, ?_, ?_⟩
  · rcases Int.lt_or_le (pw - u) 0 with q | q
    · rw [P2_neg (show pw - u ≤ 0 by omega), Int.mul_one]
      have a1 := Int.mul_lt_mul_of_pos_right b1.2.2 (P2_pos 29)
      rw [← P2_add (by omega) (by omega)] at a1
      have a3 := P2_mono (show r1 + 29 ≤ 6720 by omega)
      omega
    · have a1 := Int.mul_lt_mul_of_pos_right b1.2.2 p0
      rw [← P2_add (by omega) q] at a1
      have a2 := Int.mul_lt_mul_of_pos_right a1 (P2_pos 29)
      rw [← P2_add (by omega) (by omega)] at a2
      have a3 := P2_mono (show r1 + (pw - u) + 29 ≤ 6720 by omega)
      omega
  · rcases Int.lt_or_le (u - pw) 0 with q | q
    · rw [P2_neg (show u - pw ≤ 0 by omega), Int.mul_one]
      have a3 := P2_mono (show r2 ≤ 6720 by omega)
      omega
    · have a1 := Int.mul_lt_mul_of_pos_right b2.2.2 p1
      rw [← P2_add (by omega) q] at a1
      have a3 := P2_mono (show r2 + (u - pw) ≤ 6720 by omega)
      omega
  · rw [e54]
    rcases Int.lt_or_le (pw - u) 0 with q | q
    · rw [P2_neg (show pw - u ≤ 0 by omega), Int.mul_one]
      have a1 := Int.mul_le_mul_of_nonneg_right b2.2.1 (show 0 ≤ P2 (u - pw) by omega)
      rw [← P2_add (by omega) (by omega)] at a1
      have a2 := Int.mul_le_mul_of_nonneg_right a1 (show 0 ≤ P2 54 by have := P2_pos 54; omega)
      rw [← P2_add (by omega) (by omega)] at a2
      have a3 := P2_mono (show r1 ≤ r2 - 1 + (u - pw) + 54 by omega)
      omega
    · rw [P2_neg (show u - pw ≤ 0 by omega), Int.mul_one]
      have a1 := Int.mul_lt_mul_of_pos_right b1.2.2 p0
      rw [← P2_add (by omega) q] at a1
      have a2 := Int.mul_le_mul_of_nonneg_right b2.2.1 (show 0 ≤ P2 54 by have := P2_pos 54; omega)
      rw [← P2_add (by omega) (by omega)] at a2
      have a3 := P2_mono (show r1 + (pw - u) ≤ r2 - 1 + 54 by omega)
      omega
  · by_cases z : u = -1074
    · exact Or.inl z
    · right
      rw [e52]
      rcases Int.lt_or_le (pw - u) 0 with q | q
      · rw [P2_neg (show pw - u ≤ 0 by omega), Int.mul_one]
        have a1 := Int.mul_le_mul_of_nonneg_right (show b ≤ P2 r2 by omega) (show 0 ≤ P2 (u - pw) by omega)
        rw [← P2_add (by omega) (by omega)] at a1
        have a2 := Int.mul_le_mul_of_nonneg_left a1 (show 0 ≤ P2 52 by have := P2_pos 52; omega)
        rw [← P2_add (by omega) (by omega)] at a2
        have a3 := P2_mono (show 52 + (r2 + (u - pw)) ≤ r1 - 1 by omega)
        omega
      · rw [P2_neg (show u - pw ≤ 0 by omega), Int.mul_one]
        have a2 := Int.mul_le_mul_of_nonneg_left (show b ≤ P2 r2 by omega) (show 0 ≤ P2 52 by have := P2_pos 52; omega)
        rw [← P2_add (by omega) (by omega)] at a2
        have a1 := Int.mul_le_mul_of_nonneg_right b1.2.1 (show 0 ≤ P2 (pw - u) by omega)
        rw [← P2_add (by omega) q] at a1
        have a3 := P2_mono (show 52 + r2 ≤ r1 - 1 + (pw - u) by omega)
        omega
theorem rs_w {L R w : Int} (hR : 0 < R) (hL : 0 ≤ L) (hw : w = L / R) (h : L < R * 18014398509481984) : 0 ≤ w ∧ w < 18014398509481984 := by
  subst hw
  exact ⟨Int.ediv_nonneg hL (by omega), Int.ediv_lt_of_lt_mul hR (by rw [Int.mul_comm]; exact h)⟩
theorem rs_w52 {L R w : Int} (hR : 0 < R) (hw : w = L / R) (h : 4503599627370496 * R ≤ L) : 4503599627370496 ≤ w := by
  subst hw; exact Int.le_ediv_of_mul_le hR h
/-- what roundedSize answers -/
def RSZ (away : Bool) (n v b pw : Int) : Prop := (away = false → DNS n v b pw) ∧ (away = true → UPS n v b pw)
/-- a float's bits: sign and place -/
def FL (neg : Bool) (n : Int) : Int := if neg = true ∧ n ≠ 0 then n - 9223372036854775808 else n
/-- what rounded answers -/
def RND (up neg : Bool) (v b pw r : Int) : Prop := (v = 0 ∧ r = 0) ∨ (0 < v ∧ ∃ n, r = FL neg n ∧ RSZ (up != neg) n v b pw)
theorem RSZ_t {aw : Bool} {n v b pw : Int} (h : aw = true) (hu : UPS n v b pw) : RSZ aw n v b pw := ⟨fun z => (by rw [h] at z; cases z), fun _ => hu⟩
theorem RSZ_f {aw : Bool} {n v b pw : Int} (h : aw = false) (hu : DNS n v b pw) : RSZ aw n v b pw := ⟨fun _ => hu, fun z => (by rw [h] at z; cases z)⟩
theorem RSI_ja {ix : Bool} {w : Int} (h : ix = true) : true = true ↔ (ix = true ∨ w % 2 ≠ 0) := ⟨fun _ => Or.inl h, fun _ => rfl⟩
theorem RSI_jb {ix : Bool} {w : Int} (h : w % 2 ≠ 0) : true = true ↔ (ix = true ∨ w % 2 ≠ 0) := ⟨fun _ => Or.inr h, fun _ => rfl⟩
theorem RSI_jc {ix : Bool} {w : Int} (h : ix = false) (h2 : w % 2 = 0) : false = true ↔ (ix = true ∨ w % 2 ≠ 0) := ⟨fun z => (by cases z), fun z => by
  rcases z with z | z
  · rw [h] at z; exact z
  · exact absurd h2 z⟩
theorem RSZ_fin {v b pw w u k : Int} {ix aw : Bool} (h : RSI v b pw w u ix) (hv : 0 < v) (hb : 0 < b) (hu : u ≤ 971) (hk : k = if (ix && aw) then 1 else 0) : RSZ aw ((u - (-1074)) * 4503599627370496 + w + k) v b pw := by
  rw [show u - (-1074) = u + 1074 by omega]
  cases aw with
  | false =>
    refine RSZ_f rfl ?_
    rw [hk, Bool.and_false]
    have := RSI_dn h hu
    simpa using this
  | true =>
    refine RSZ_t rfl ?_
    rw [hk, Bool.and_true]
    exact RSI_up h hv hb hu
theorem RSI_of {v b pw w u : Int} {ix : Bool} (hb : 0 < b) (hv : 0 < v) (hu : -1074 ≤ u ∧ u ≤ 1000) (hw : w = v * P2 (pw - u) / (b * P2 (u - pw))) (hi : ix = true ↔ v * P2 (pw - u) % (b * P2 (u - pw)) ≠ 0) (h52 : u = -1074 ∨ 4503599627370496 * (b * P2 (u - pw)) ≤ v * P2 (pw - u)) (hw2 : w < 9007199254740992) : RSI v b pw w u ix := by
  obtain ⟨d1, d2, d3⟩ := rs_div hb hu.1 hw
  have hR : 0 < b * P2 (u - pw) := Int.mul_pos hb (P2_pos _)
  refine ⟨⟨d1, d2, hi.trans d3⟩, ?_, hw2, hu⟩
  rcases h52 with z | z
  · exact Or.inl ⟨z, by rw [hw]; exact Int.ediv_nonneg (Int.mul_nonneg (by omega) (by have := P2_pos (pw - u); omega)) (by omega)⟩
  · exact Or.inr (rs_w52 hR hw z)
theorem RSI_of2 {v b pw w u : Int} {ix jx : Bool} (hb : 0 < b) (hu : -1074 ≤ u ∧ u < 1000) (hw : w = v * P2 (pw - u) / (b * P2 (u - pw))) (hi : ix = true ↔ v * P2 (pw - u) % (b * P2 (u - pw)) ≠ 0) (hw2 : 9007199254740992 ≤ w ∧ w < 18014398509481984) (hj : jx = true ↔ (ix = true ∨ w % 2 ≠ 0)) : RSI v b pw (w / 2) (u + 1) jx := by
  obtain ⟨d1, d2, d3⟩ := rs_div hb hu.1 hw
  exact RSI_half hu hw2 ⟨d1, d2, hi.trans d3⟩ hb hj
theorem RSZ_rng {aw : Bool} {n v b pw : Int} (h : RSZ aw n v b pw) : 0 ≤ n ∧ n ≤ 9218868437227405312 := by
  cases aw with
  | false => have := (h.1 rfl).1; omega
  | true => exact (h.2 rfl).1
theorem FL_f {neg : Bool} {n : Int} (h : neg = false) : FL neg n = n := by unfold FL; rw [h]; simp
theorem FL_0 {neg : Bool} {n : Int} (h : n = 0) : FL neg n = n := by unfold FL; rw [if_neg (fun z => z.2 h)]
theorem FL_t {neg : Bool} {n : Int} (h : neg = true) (h2 : n ≠ 0) : FL neg n = n + (-9223372036854775808) := by unfold FL; rw [if_pos ⟨h, h2⟩]; omega
theorem RND_of {up neg aw : Bool} {v b pw n r : Int} (hv : 0 < v) (he : aw = (up != neg)) (h : RSZ aw n v b pw) (hr : r = FL neg n) : RND up neg v b pw r := Or.inr ⟨hv, n, hr, by rw [← he]; exact h⟩
theorem bne_t {x y : Bool} (h : x ≠ y) : true = (x != y) := by revert h; cases x <;> cases y <;> decide
theorem bne_f {x y : Bool} (h : x = y) : false = (x != y) := by subst h; cases x <;> rfl
