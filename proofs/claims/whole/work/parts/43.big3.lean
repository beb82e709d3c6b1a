/-! Big: subtract, product, shift -/
theorem bs_s {g g1 g2 : Int → Int} {k2 i bo x md : Int} (h : DL g (fun j => g j - mgx g2 k2 j) 0 0 g1 i (-bo)) (hm : md = mgx g2 k2 i) (hx : x = g1 i - md - bo) (hr : -65536 ≤ x ∧ x < 65536) : (x < 0 → DL g (fun j => g j - mgx g2 k2 j) 0 0 (upZ g1 i (x % 65536)) (i + 1) (-1)) ∧ (0 ≤ x → DL g (fun j => g j - mgx g2 k2 j) 0 0 (upZ g1 i (x % 65536)) (i + 1) (-0)) := by
  have e := h.2.1 i (by have := h.1; omega) (Or.inr (Int.le_refl _))
  have s := DL_s h
  have ex : -bo + (fun j => g j - mgx g2 k2 j) i = x := by
    show -bo + (g i - mgx g2 k2 i) = x
    rw [hx, hm, e]; omega
  rw [ex] at s
  refine ⟨fun q => ?_, fun q => ?_⟩
  · rw [show x / 65536 = -1 by omega] at s; exact s
  · rw [show x / 65536 = -0 by omega] at s; exact s
theorem bs_end {g g1 g2 : Int → Int} {k k2 v w bo : Int} (hN : BigOK g k v) (hM : BigOK g2 k2 w) (hle : w ≤ v) (hb : bo = 0 ∨ bo = 1) (h : DL g (fun j => g j - mgx g2 k2 j) 0 0 g1 k (-bo)) : Eg g1 k ∧ MV g1 k = v - w := by
  have hk := hN.k; have hk2 := hM.k; have b1 := hN.bd; have b2 := hM.bd
  have D := DL_dg (fun j h1 h2 => by omega) h
  refine ⟨D, ?_⟩
  have kk : k2 ≤ k := by
    rcases Int.lt_or_le k k2 with q | q
    · have := hM.ge (by omega)
      have := QB_mono (show k ≤ k2 - 1 by omega)
      omega
    · exact q
  have e := h.2.2.2
  rw [MV_sub hk.1, MV_mgx hk2.1 kk, hN.2.2.2, hM.2.2.2, MV_0, MV_0] at e
  have bd := MV_bd hk.1 D
  have c0 : -bo = 0 := CL_c0 (QB_pos k) bd (v := v - w) (by omega) (by omega)
  rw [c0] at e
  omega
theorem bp_s {f g1 g2 g3 : Int → Int} {k2 i q c x : Int} (h : DL g1 (fun j => g1 j + x * mgx g2 k2 (j - i)) i 0 g3 (i + q) c) (hq : 0 ≤ q ∧ q < k2) : DL g1 (fun j => g1 j + x * mgx g2 k2 (j - i)) i 0 (upZ g3 (i + q) ((x * g2 q + g3 (i + q) + c) % 65536)) (i + (q + 1)) ((x * g2 q + g3 (i + q) + c) / 65536) := by
  have e := h.2.1 (i + q) (by have := h.1; omega) (Or.inr (Int.le_refl _))
  have s := DL_s h
  have ex : c + (fun j => g1 j + x * mgx g2 k2 (j - i)) (i + q) = x * g2 q + g3 (i + q) + c := by
    show c + (g1 (i + q) + x * mgx g2 k2 (i + q - i)) = _
    rw [show i + q - i = q by omega, mgx_in hq, e]; omega
  rw [ex, show i + q + 1 = i + (q + 1) by omega] at s
  exact s
theorem MV_cut {g : Int → Int} {n q : Int} (hq : 0 ≤ q ∧ q ≤ n) (hz : ∀ j : Int, q ≤ j → j < n → g j = 0) : MV g n = MV g q := by
  have e : n = q + (n - q) := by omega
  rw [e]
  refine z_ind (P := fun r => r ≤ n - q → MV g (q + r) = MV g q) ?_ ?_ (show 0 ≤ n - q by omega) (by omega)
  · intro _; rw [Int.add_zero]
  · intro r h0 ih hr
    rw [show q + (r + 1) = q + r + 1 by omega, MV_s (by omega), ih (by omega), hz (q + r) (by omega) (by omega)]
    omega
theorem bp_end {f g1 g2 g3 : Int → Int} {kf k2 v w i c n : Int} (hN : BigOK f kf v) (hM : BigOK g2 k2 w) (hn : n = kf + k2) (hi : 0 ≤ i ∧ i < kf) (hc : 0 ≤ c ∧ c < 65536) (D1 : Eg g1 n) (e1 : MV g1 n = MV f i * w) (h : DL g1 (fun j => g1 j + f i * mgx g2 k2 (j - i)) i 0 g3 (i + k2) c) : Eg (upZ g3 (i + k2) c) n ∧ MV (upZ g3 (i + k2) c) n = MV f (i + 1) * w := by
  have hk := hN.k; have hk2 := hM.k; have b2 := hM.bd
  have D3 := DL_dg (Eg_sub D1 (by omega)) h
  have bf := MV_bd hi.1 (Eg_sub hN.2.1 (show i ≤ kf by omega))
  have lt1 : MV g1 n < QB (i + k2) := by
    rw [e1, QB_add hi.1 hk2.1]
    have a := Int.mul_le_mul_of_nonneg_right (show MV f i ≤ QB i by omega) b2.1
    have b := Int.mul_lt_mul_of_pos_left b2.2 (QB_pos i)
    omega
  have z1 := MV_high D1 (show 0 ≤ i + k2 by omega) lt1
  have c1 : MV g1 n = MV g1 (i + k2) := MV_cut (by omega) (fun j h1 h2 => z1 j (by omega) h2)
  have e := h.2.2.2
  have i2 : 0 ≤ i + k2 := by omega
  have s1 : MV (fun j => g1 j + f i * mgx g2 k2 (j - i)) (i + k2) = MV g1 (i + k2) + f i * (QB i * w) := by
    rw [MV_add i2, MV_mul i2]
    have := MV_mv (f := mgx g2 k2) hi.1 hk2.1 (fun j h => mgx_out (by omega))
    rw [MV_mgx hk2.1 (Int.le_refl _), hM.2.2.2] at this
    rw [this]
  have s2 : MV (fun j => g1 j + f i * mgx g2 k2 (j - i)) i = MV g1 i := by
    rw [MV_add hi.1, MV_mul hi.1, MV_low0 hi.1 (fun j h1 h2 => mgx_out (by omega))]; omega
  rw [s1, s2, ← c1, e1] at e
  have tot : MV f i * w + f i * (QB i * w) = MV f (i + 1) * w := by rw [MV_s hi.1]; grind
  have hz3 : ∀ j : Int, i + k2 + 1 ≤ j → j < n → upZ g3 (i + k2) c j = 0 := fun j h1 h2 => by
    rw [upZ_n (by omega), h.2.1 j (by omega) (Or.inr (by omega))]; exact z1 j (by omega) h2
  refine ⟨fun j h1 h2 => ?_, ?_⟩
  · by_cases q : j < i + k2
    · rw [upZ_n (by omega)]; exact D3 j h1 q
    · by_cases q2 : j = i + k2
      · rw [q2, upZ_s]; exact hc
      · rw [hz3 j (by omega) h2]; omega
  · rw [MV_cut (n := n) (q := i + k2 + 1) (by omega) hz3, MV_s i2, MV_up, upZ_s]
    omega
/-- moved up by whole places -/
theorem bm_val {g g2 : Int → Int} {k v pl : Int} (hN : BigOK g k v) (hk0 : 0 < k) (hpl : 0 ≤ pl) (hs : k + pl ≤ 640) (hz : ∀ j : Int, 0 ≤ j → j < pl → g2 j = 0) (hm : ∀ j : Int, 0 ≤ j → j < k → g2 (j + pl) = g j) : BigOK g2 (k + pl) (v * QB pl) := by
  have hk := hN.k
  refine ⟨by omega, fun j h1 h2 => ?_, fun _ => ?_, ?_⟩
  · by_cases q : j < pl
    · rw [hz j h1 q]; omega
    · have := hm (j - pl) (by omega) (by omega)
      rw [show j - pl + pl = j by omega] at this
      rw [this]; exact hN.2.1 (j - pl) (by omega) (by omega)
  · have := hm (k - 1) (by omega) (by omega)
    rw [show k + pl - 1 = k - 1 + pl by omega, this]; exact hN.2.2.1 hk0
  · have e : MV g2 (pl + k) = MV (fun j => mgx g k (j - pl)) (pl + k) := MV_congr (fun j h1 h2 => by
      by_cases q : j < pl
      · rw [hz j h1 q]; exact (mgx_out (by omega)).symm
      · have := hm (j - pl) (by omega) (by omega)
        rw [show j - pl + pl = j by omega] at this
        rw [this]; exact (mgx_in (by omega)).symm)
    rw [show k + pl = pl + k by omega, e, MV_mv (f := mgx g k) hpl hk.1 (fun j h => mgx_out (by omega)), MV_mgx hk.1 (Int.le_refl _), hN.2.2.2, Int.mul_comm]
theorem bm_room {g : Int → Int} {k v b : Int} (hN : BigOK g k v) (hk0 : 0 < k) (hb : 0 ≤ b) (hf : v * P2 b < QB 640) : k + b / 16 ≤ 640 ∧ v * QB (b / 16) * (1 * P2 (b % 16)) = v * P2 b := by
  have hk := hN.k; have bd := hN.bd; have ge := hN.ge hk0
  have e : P2 b = QB (b / 16) * P2 (b % 16) := by
    rw [QB_P2 (by omega), ← P2_add (by omega) (by omega)]; congr 1; omega
  have eq : v * QB (b / 16) * (1 * P2 (b % 16)) = v * P2 b := by rw [e]; grind
  refine ⟨?_, eq⟩
  have p1 := P2_pos (b % 16); have p2 := QB_pos (b / 16)
  have m1 : v * QB (b / 16) ≤ v * P2 b := by
    rw [e]
    have := Int.mul_le_mul_of_nonneg_left (show 1 ≤ P2 (b % 16) by omega) (show 0 ≤ QB (b / 16) by omega)
    exact Int.mul_le_mul_of_nonneg_left (by omega) bd.1
  have m2 := Int.mul_le_mul_of_nonneg_right ge (show 0 ≤ QB (b / 16) by omega)
  rw [← QB_add (by omega) (by omega)] at m2
  rcases Int.lt_or_le 640 (k + b / 16) with q | q
  · have := QB_mono (show 640 ≤ k - 1 + b / 16 by omega); omega
  · exact q
theorem P2_15 {r : Int} (h : 0 ≤ r ∧ r < 16) : 1 ≤ 1 * P2 r ∧ 1 * P2 r < 65536 := by
  have a := P2_pos r
  have b := P2_mono (show r ≤ 15 by omega)
  have c : P2 15 = 32768 := by decide +kernel
  omega
