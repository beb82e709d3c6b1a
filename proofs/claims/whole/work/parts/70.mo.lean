/-! the reference's writing -/
theorem tk_s {l : List Int} {k : Int} (hk : 0 ≤ k ∧ k < (l.length : Int)) : l.take k.toNat ++ [l.getD k.toNat 0] = l.take (k + 1).toNat := by
  rw [show (k + 1).toNat = k.toNat + 1 by omega, List.take_add_one, List.getD_eq_getElem?_getD, List.getElem?_eq_getElem (by omega)]
  rfl
theorem pt_s {L M l : List Int} {k : Int} (hk : 0 ≤ k ∧ k < (l.length : Int)) (h : M = L ++ l.take k.toNat) : M ++ [l.getD k.toNat 0] = L ++ l.take (k + 1).toNat := by
  rw [h, List.append_assoc, tk_s hk]
theorem U10_up {k : Nat} {u y : Int} (h : U10 k u) (hu : 0 < u) (h1 : 10 * u ≤ y) (hy : y < 10000) : U10 (k + 1) (10 * u) := by
  unfold U10 at *
  omega
theorem dv_9 {y u : Int} (hu : 0 < u) : (9 < y / u ↔ 10 * u ≤ y) := by
  have := Int.le_ediv_iff_mul_le (a := 10) (b := y) hu
  omega
theorem dF_eq {k : Nat} {u y : Int} (h : U10 k u) (hu : 0 < u) (h1 : u = 1 ∨ u ≤ y) (h2 : y < 10 * u) (hy : 0 ≤ y ∧ y < 10000) : dF 4 1000 y false = dF k u y true := by
  have a3 : ∀ z : Int, z < 1000 → dF 4 1000 z false = dF 3 100 z false := fun z hz => dF_n rfl hz (by decide)
  have a2 : ∀ z : Int, z < 100 → dF 3 100 z false = dF 2 10 z false := fun z hz => dF_n rfl hz (by decide)
  have a1 : ∀ z : Int, z < 10 → dF 2 10 z false = dF 1 1 z false := fun z hz => dF_n rfl hz (by decide)
  have b : ∀ (k : Nat) (u z : Int), (u ≤ z ∨ u = 1) → dF (k + 1) u z false = dF (k + 1) u z true := fun k u z hz => by
    rw [dF_y (Or.inr hz), dF_y (Or.inl rfl)]
  unfold U10 at h
  rcases h with ⟨h, g⟩ | ⟨h, g⟩ | ⟨h, g⟩ | ⟨h, g⟩ | ⟨h, g⟩ <;> subst h <;> subst g
  · exact b 3 1000 y (by omega)
  · rw [a3 y (by omega)]; exact b 2 100 y (by omega)
  · rw [a3 y (by omega), a2 y (by omega)]; exact b 1 10 y (by omega)
  · rw [a3 y (by omega), a2 y (by omega), a1 y (by omega)]; exact b 0 1 y (by omega)
  · omega
/-- powers of 10 -/
def T10 (k : Int) : Int := P5 k * P2 k
theorem T10_pos (k : Int) : 0 < T10 k := Int.mul_pos (P5_pos _) (P2_pos _)
theorem T10_n {k : Int} (h : k ≤ 0) : T10 k = 1 := tt_n h
theorem T10_s {k : Int} (h : 0 ≤ k) : T10 (k + 1) = T10 k * 10 := by unfold T10; rw [tt_s h]; omega
theorem T10_mono {a b : Int} (h : a ≤ b) : T10 a ≤ T10 b := by
  by_cases z : b ≤ 0
  · rw [T10_n z, T10_n (by omega)]; omega
  · have hb : 0 ≤ b := by omega
    have : ∀ j : Nat, T10 (b - j) ≤ T10 b := by
      intro j
      induction j with
      | zero => rw [show b - ((0 : Nat) : Int) = b by omega]; exact Int.le_refl _
      | succ j ih =>
        by_cases y : 0 ≤ b - ((j + 1 : Nat) : Int)
        · have e := T10_s y
          rw [show b - ((j + 1 : Nat) : Int) + 1 = b - (j : Int) by omega] at e
          have := T10_pos (b - ((j + 1 : Nat) : Int))
          omega
        · rw [T10_n (by omega)]; have := T10_pos b; omega
    have t := this (b - a).toNat
    rwa [show b - ((b - a).toNat : Int) = a by omega] at t
theorem tn_fit {v k x B : Int} (hv : 0 ≤ v) (h0 : 0 ≤ k) (hk : k < x) (hB : v * T10 x < B) : v * T10 k * 10 + 0 < B := by
  have e := T10_s h0
  have m := Int.mul_le_mul_of_nonneg_left (T10_mono (show k + 1 ≤ x by omega)) hv
  rw [e] at m
  have e2 : v * T10 k * 10 = v * (T10 k * 10) := by grind
  omega
theorem TN_T {m p k : Int} : TN m p k = m * T10 (-k) * P2 p := by unfold TN T10; grind
theorem TD_T {p k : Int} : TD p k = T10 k * P2 (-p) := by unfold TD T10; grind
/-- a comparison of N * 10 ^ k with m * 2 ^ p -/
theorem cmp_TT {r M m p k X Y : Int} (h : Cmp3 r X Y) (hX : X = M * T10 k * P2 (-p)) (hY : Y = m * T10 (-k) * P2 p) : (-1 ≤ r ∧ r ≤ 1) ∧ (r ≤ 0 ↔ M * TD p k ≤ TN m p k) ∧ (r < 0 ↔ M * TD p k < TN m p k) := by
  rw [TN_T, TD_T]
  have e : M * (T10 k * P2 (-p)) = M * T10 k * P2 (-p) := by grind
  rw [e, ← hX, ← hY]
  unfold Cmp3 at h
  omega
theorem T10_P2 {k : Int} (h : k ≤ 345) : T10 k ≤ P2 1150 := by
  have := T10_mono h
  have e : T10 345 ≤ P2 1150 := by decide +kernel
  omega
theorem fl_10 {f : Int} (hf : 0 < f ∧ f < 9218868437227405312) : 1 * TD (FE f) (-324) ≤ TN (FM f) (FE f) (-324) ∧ TN (FM f) (FE f) 309 < 1 * TD (FE f) 309 := by
  have a : 0 < FM f ∧ FM f < 9007199254740992 := by unfold FM; split <;> omega
  have b : -1074 ≤ FE f ∧ FE f ≤ 971 := by unfold FE; split <;> omega
  rw [TN_T, TN_T, TD_T, TD_T, Int.neg_neg, T10_n (show (-324 : Int) ≤ 0 by decide), T10_n (show -309 ≤ (0 : Int) by decide), Int.one_mul, Int.one_mul, Int.one_mul, Int.mul_one]
  have c1 := P2_mono (show -(FE f) ≤ 1074 by omega)
  have c2 := P2_mono (show FE f ≤ 971 by omega)
  have p1 := P2_pos (FE f)
  have p2 := P2_pos (-(FE f))
  have d1 : P2 1074 ≤ T10 324 := by decide +kernel
  have d2 : 9007199254740992 * P2 971 ≤ T10 309 := by decide +kernel
  have t1 := T10_pos 324
  have t2 := T10_pos 309
  constructor
  · have m1 := Int.mul_le_mul_of_nonneg_right (show (1 : Int) ≤ FM f by omega) (show 0 ≤ T10 324 * P2 (FE f) from Int.le_of_lt (Int.mul_pos t1 p1))
    have m2 := Int.mul_le_mul_of_nonneg_left (show (1 : Int) ≤ P2 (FE f) by omega) (show 0 ≤ T10 324 by omega)
    have e : FM f * T10 324 * P2 (FE f) = FM f * (T10 324 * P2 (FE f)) := by grind
    omega
  · have m1 := Int.mul_lt_mul_of_pos_right a.2 p1
    have m2 := Int.mul_le_mul_of_nonneg_left c2 (show (0 : Int) ≤ 9007199254740992 by decide)
    have m3 := Int.mul_le_mul_of_nonneg_left (show (1 : Int) ≤ P2 (-(FE f)) by omega) (show 0 ≤ T10 309 by omega)
    omega
theorem WRD_of {L : List Int} {i k v : Int} (hk : -1 ≤ k ∧ k ≤ 7) (hL : (L.length : Int) ≤ 64) (hv : (0 ≤ i ∧ i < 25 → v = wvF L (8 * i) (7 - k).toNat) ∧ (¬ (0 ≤ i ∧ i < 25) → v = 0)) (h : k < 0 ∨ i < 0 ∨ 25 ≤ i) : v = WRD L i := by
  unfold WRD
  by_cases z : 0 ≤ i ∧ i < 25
  · rw [hv.1 z, show (7 - k).toNat = 8 by omega]
    by_cases y : 8 ≤ i
    · rw [if_pos (Or.inr y)]
      have : ∀ j : Nat, wvF L (8 * i) j = 0 ∨ 8 < j := by
        intro j
        induction j with
        | zero => exact Or.inl rfl
        | succ j ih =>
          rcases ih with ih | ih
          · by_cases w : j < 8
            · left; rw [wvF, ih, List.getD_eq_getElem?_getD, List.getElem?_eq_none (by omega)]; rfl
            · right; omega
          · right; omega
      rcases this 8 with q | q
      · exact q
      · omega
    · rw [if_neg (by omega)]
  · rw [hv.2 z, if_pos (by omega)]
