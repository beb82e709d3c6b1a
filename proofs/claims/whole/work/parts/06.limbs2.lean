/-! set, copy, bits, compareWith -/
def SetI (g : Int → Int) (k z v : Int) : Prop := (0 ≤ k ∧ k ≤ 3) ∧ Dg g k ∧ (z = 0 → 0 < k → g (k - 1) ≠ 0) ∧ NV g k + z * PB k = v
theorem SetI_0 {g : Int → Int} (v : Int) : SetI g 0 v v := ⟨by omega, fun j h1 h2 => by omega, fun _ h => by omega, by rw [NV_0, PB_0]; omega⟩
theorem SetI_s {g : Int → Int} {k z v : Int} (h : SetI g k z v) (hz : 0 < z) (hk : k < 3) : SetI (upZ g k (z % 1073741824)) (k + 1) (z / 1073741824) v := by
  obtain ⟨h1, h2, h3, h4⟩ := h
  refine ⟨by omega, ?_, fun e _ => ?_, ?_⟩
  · intro j q1 q2
    by_cases q : j = k
    · rw [q, upZ_s]; omega
    · rw [upZ_n q]; exact h2 j q1 (by omega)
  · rw [show k + 1 - 1 = k by omega, upZ_s]; omega
  · rw [NV_s h1.1, NV_up, upZ_s, PB_s h1.1]
    have e := Int.emod_add_mul_ediv z 1073741824
    generalize z % 1073741824 = r0 at e ⊢
    generalize z / 1073741824 = q0 at e ⊢
    generalize PB k = P at h4 ⊢
    generalize NV g k = x at h4 ⊢
    grind
theorem SetI_end {g : Int → Int} {k z v : Int} (h : SetI g k z v) (hz : z = 0) (hk : k ≤ 3) : NatOK g k v := by
  obtain ⟨h1, h2, h3, h4⟩ := h
  exact ⟨by omega, h2, h3 hz, by rw [hz] at h4; omega⟩
theorem NatOK_copy {g h : Int → Int} {k v : Int} (hN : NatOK g k v) (he : ∀ j : Int, 0 ≤ j → j < k → h j = g j) : NatOK h k v := by
  obtain ⟨h1, h2, h3, h4⟩ := hN
  refine ⟨h1, fun j q1 q2 => by rw [he j q1 q2]; exact h2 j q1 q2, fun hk => by rw [he (k - 1) (by omega) (by omega)]; exact h3 hk, ?_⟩
  rw [← h4]; exact NV_congr he
theorem bits_ge {x P : Int} (hP : 0 < P) (h : x / P ≠ 0) (hx : 0 ≤ x) : P ≤ x := by
  rcases Int.lt_or_le x P with q | q
  · exact absurd (Int.ediv_eq_zero_of_lt hx q) h
  · exact q
theorem bits_lt {x P : Int} (hP : 0 < P) (h : x / P = 0) (hx : 0 ≤ x) : x < P := by
  rcases Int.lt_or_le x P with q | q
  · exact q
  · have := Int.le_ediv_of_mul_le hP (show 1 * P ≤ x by omega)
    omega
theorem bits_rng {x P : Int} (hx : 0 ≤ x ∧ x < 1073741824) (hP : 0 < P) : -2147483648 ≤ x / P ∧ x / P < 2147483648 := by
  have h1 := Int.ediv_nonneg hx.1 (show 0 ≤ P by omega)
  have h2 := Int.ediv_le_self P hx.1
  omega
theorem bits_end {g : Int → Int} {k v u : Int} (hN : NatOK g k v) (hk : 0 < k) (hu : 0 ≤ u ∧ u ≤ 30) (ht : u = 0 ∨ P2 (u - 1) ≤ lgx g k (k - 1)) (hx : lgx g k (k - 1) < P2 u) : BL v ((k - 1) * 30 + u) := by
  have hz := hN.2.2.1 hk
  rw [lgx_in (by omega)] at ht hx
  have d := hN.2.1 (k - 1) (by omega) (by omega)
  have hu1 : 1 ≤ u := by
    rcases Int.lt_or_le u 1 with q | q
    · have : u = 0 := by omega
      rw [this, P2_0] at hx
      omega
    · exact q
  have ht : P2 (u - 1) ≤ g (k - 1) := by
    rcases ht with q | q
    · omega
    · exact q
  have e := NV_s (g := g) (show 0 ≤ k - 1 by omega)
  rw [show k - 1 + 1 = k by omega, hN.2.2.2] at e
  have b := NV_bd (show 0 ≤ k - 1 by omega) (Dg_sub hN.2.1 (show k - 1 ≤ k by omega))
  have p := PB_pos (k - 1)
  have e1 : P2 ((k - 1) * 30 + u - 1) = P2 (u - 1) * PB (k - 1) := by
    rw [PB_P2 (by omega), ← P2_add (by omega) (by omega)]; congr 1; omega
  have e2 : P2 ((k - 1) * 30 + u) = P2 u * PB (k - 1) := by
    rw [PB_P2 (by omega), ← P2_add (by omega) (by omega)]; congr 1; omega
  have m1 := Int.mul_le_mul_of_nonneg_right ht (show 0 ≤ PB (k - 1) by omega)
  have m2 := Int.mul_le_mul_of_nonneg_right (show g (k - 1) + 1 ≤ P2 u by omega) (show 0 ≤ PB (k - 1) by omega)
  rw [Int.add_mul] at m2
  have p3 := P2_pos (u - 1)
  have m3 := Int.mul_pos p3 p
  refine Or.inr ⟨by omega, by omega, by rw [e1]; omega, by rw [e2]; omega⟩
/-- below 0, 0, above 0 -/
def CmpR (r v w : Int) : Prop := (-2147483648 ≤ r ∧ r < 2147483648) ∧ (r < 0 ↔ v < w) ∧ (r = 0 ↔ v = w)
theorem cmp_size {g g2 : Int → Int} {k k2 v w up : Int} (hN : NatOK g k v) (hM : NatOK g2 k2 w) (hup : 0 ≤ up ∧ up ≤ 224) (hw : up = 0 ∨ 0 < w) (h : k ≠ k2 + up) : CmpR (k - k2 - up) v (w * PB up) := by
  have hk := hN.k; have hk2 := hM.k
  have b1 := hN.bd; have b2 := hM.bd
  have p := PB_pos up
  rcases Int.lt_or_le k (k2 + up) with q | q
  · have k0 : 0 < k2 := by
      rcases Int.lt_or_le 0 k2 with z | z
      · exact z
      · have : w = 0 := hM.zero.mp (by omega)
        omega
    have g1 := hM.ge k0
    have m1 := Int.mul_le_mul_of_nonneg_right g1 (show 0 ≤ PB up by omega)
    rw [← PB_add (by omega) (by omega)] at m1
    have m2 := PB_mono (show k ≤ k2 - 1 + up by omega)
    exact ⟨by omega, by omega, by omega⟩
  · have g1 := hN.ge (show 0 < k by omega)
    have m1 := Int.mul_lt_mul_of_pos_right b2.2 p
    rw [← PB_add (by omega) (by omega)] at m1
    have m2 := PB_mono (show k2 + up ≤ k - 1 by omega)
    exact ⟨by omega, by omega, by omega⟩
theorem cmp_val {g2 : Int → Int} {k k2 w up : Int} (hM : NatOK g2 k2 w) (hup : 0 ≤ up) (hk : k = k2 + up) : NV (fun j => lgx g2 k2 (j - up)) k = w * PB up := by
  have hk2 := hM.k
  rw [hk, show k2 + up = up + k2 by omega, NV_mv (f := lgx g2 k2) hup hk2.1 (fun j h => lgx_out (by omega)), NV_lgx hk2.1 (Int.le_refl _), hM.2.2.2, Int.mul_comm]
theorem cmp_limb {g g2 : Int → Int} {k k2 v w up i : Int} (hN : NatOK g k v) (hM : NatOK g2 k2 w) (hup : 0 ≤ up ∧ up ≤ 224) (hk : k = k2 + up) (hi : 0 ≤ i ∧ i < k) (he : ∀ j : Int, i < j → j < k → lgx g k j = lgx g2 k2 (j - up)) (hne : lgx g k i ≠ lgx g2 k2 (i - up)) : CmpR (lgx g k i - lgx g2 k2 (i - up)) v (w * PB up) := by
  have b1 := lgx_bd hN.2.1 i
  have b2 := lgx_bd hM.2.1 (i - up)
  have ev := cmp_val hM hup.1 hk
  have eg : NV (lgx g k) k = v := by rw [NV_lgx hN.k.1 (Int.le_refl _), hN.2.2.2]
  have D1 : Dg (lgx g k) k := fun j _ _ => lgx_bd hN.2.1 j
  have D2 : Dg (fun j => lgx g2 k2 (j - up)) k := fun j _ _ => lgx_bd hM.2.1 (j - up)
  rcases Int.lt_or_gt_of_ne hne with q | q
  · have := NV_cmp D1 D2 hi he q
    rw [ev, eg] at this
    exact ⟨by omega, by omega, by omega⟩
  · have := NV_cmp D2 D1 hi (fun j h1 h2 => (he j h1 h2).symm) q
    rw [ev, eg] at this
    exact ⟨by omega, by omega, by omega⟩
theorem cmp_same {g g2 : Int → Int} {k k2 v w up : Int} (hN : NatOK g k v) (hM : NatOK g2 k2 w) (hup : 0 ≤ up ∧ up ≤ 224) (hk : k = k2 + up) (he : ∀ j : Int, 0 ≤ j → j < k → lgx g k j = lgx g2 k2 (j - up)) : CmpR 0 v (w * PB up) := by
  have ev := cmp_val hM hup.1 hk
  have eg : NV (lgx g k) k = v := by rw [NV_lgx hN.k.1 (Int.le_refl _), hN.2.2.2]
  have := NV_congr he
  rw [ev, eg] at this
  exact ⟨by omega, by omega, by omega⟩
/-! plus, minusTimes, takeFrom -/
theorem lgx_keep {g g1 : Int → Int} {k i : Int} (h : 0 ≤ i → g1 i = g i) : lgx g1 k i = lgx g k i := by
  unfold lgx
  split
  · next q => exact h q.1
  · rfl
theorem plus_s {g g1 g2 : Int → Int} {k k2 i c : Int} (h : CL g (fun j => lgx g k j + lgx g2 k2 j) 0 0 g1 i c) : CL g (fun j => lgx g k j + lgx g2 k2 j) 0 0 (upZ g1 i ((c + (lgx g1 k i + lgx g2 k2 i)) % 1073741824)) (i + 1) ((c + (lgx g1 k i + lgx g2 k2 i)) / 1073741824) := by
  rw [lgx_keep (g := g) (g1 := g1) (fun z => h.2.1 i z (Or.inr (Int.le_refl _)))]
  exact CL_s h
theorem plus_val {g g1 g2 : Int → Int} {k k2 v w c n : Int} (hN : NatOK g k v) (hM : NatOK g2 k2 w) (hf : v + w < PB 224) (hn : n = min (max k k2 + 1) 224) (h : CL g (fun j => lgx g k j + lgx g2 k2 j) 0 0 g1 n c) : Dg g1 n ∧ NV g1 n = v + w := by
  have hk := hN.k; have hk2 := hM.k
  have b1 := hN.bd; have b2 := hM.bd
  have D := CL_dg (fun j h1 h2 => by omega) h
  refine ⟨D, ?_⟩
  have e := h.2.2.2
  have n0 : 0 ≤ n := by omega
  rw [NV_add n0, NV_lgx hk.1 (by omega), NV_lgx hk2.1 (by omega), hN.2.2.2, hM.2.2.2, NV_0, NV_0] at e
  have bd := NV_bd n0 D
  have lt : v + w < PB n := by
    by_cases q : max k k2 + 1 ≤ 224
    · have en : n = max k k2 + 1 := by omega
      have m1 := PB_mono (show k ≤ max k k2 by omega)
      have m2 := PB_mono (show k2 ≤ max k k2 by omega)
      rw [en, PB_s (by omega)]
      omega
    · have en : n = 224 := by omega
      rw [en]; exact hf
  have c0 : c = 0 := CL_c0 (PB_pos n) bd (v := v + w) (by omega) (by omega)
  rw [c0] at e
  omega
theorem take_s {g g1 g2 : Int → Int} {k k2 i c : Int} (h : CL g (fun j => lgx g2 k2 j - lgx g k j) 0 0 g1 i c) : CL g (fun j => lgx g2 k2 j - lgx g k j) 0 0 (upZ g1 i ((c + (lgx g2 k2 i - lgx g1 k i)) % 1073741824)) (i + 1) ((c + (lgx g2 k2 i - lgx g1 k i)) / 1073741824) := by
  rw [lgx_keep (g := g) (g1 := g1) (fun z => h.2.1 i z (Or.inr (Int.le_refl _)))]
  exact CL_s h
theorem take_val {g g1 g2 : Int → Int} {k k2 v w c : Int} (hN : NatOK g k v) (hM : NatOK g2 k2 w) (hle : v ≤ w) (h : CL g (fun j => lgx g2 k2 j - lgx g k j) 0 0 g1 k2 c) : Dg g1 k2 ∧ NV g1 k2 = w - v := by
  have hk := hN.k; have hk2 := hM.k
  have b1 := hN.bd; have b2 := hM.bd
  have D := CL_dg (fun j h1 h2 => by omega) h
  refine ⟨D, ?_⟩
  have kk : k ≤ k2 := by
    rcases Int.lt_or_le k2 k with q | q
    · have := hN.ge (by omega)
      have := PB_mono (show k2 ≤ k - 1 by omega)
      omega
    · exact q
  have e := h.2.2.2
  rw [NV_sub hk2.1, NV_lgx hk.1 kk, NV_lgx hk2.1 (Int.le_refl _), hN.2.2.2, hM.2.2.2, NV_0, NV_0] at e
  have bd := NV_bd hk2.1 D
  have c0 : c = 0 := CL_c0 (PB_pos k2) bd (v := w - v) (by omega) (by omega)
  rw [c0] at e
  omega
theorem mt_s {g g1 g2 : Int → Int} {k2 i c t up : Int} (h : CL g (fun j => g j - t * lgx g2 k2 (j - up)) up 0 g1 i c) : CL g (fun j => g j - t * lgx g2 k2 (j - up)) up 0 (upZ g1 i ((c + (g1 i - t * lgx g2 k2 (i - up))) % 1073741824)) (i + 1) ((c + (g1 i - t * lgx g2 k2 (i - up))) / 1073741824) := by
  have e := h.2.1 i (by have := h.1; omega) (Or.inr (Int.le_refl _))
  rw [e]
  exact CL_s h
theorem mt_val {g g1 g2 : Int → Int} {k k2 v w c t up : Int} (hN : NatOK g k v) (hM : NatOK g2 k2 w) (ht : 0 ≤ t) (hup : 0 ≤ up) (hle : t * w * PB up ≤ v) (huk : up ≤ k) (h : CL g (fun j => g j - t * lgx g2 k2 (j - up)) up 0 g1 k c) : Dg g1 k ∧ NV g1 k = v - t * w * PB up := by
  have hk := hN.k; have hk2 := hM.k
  have b1 := hN.bd; have b2 := hM.bd
  have D := CL_dg (Dg_sub hN.2.1 huk) h
  refine ⟨D, ?_⟩
  have p := PB_pos up
  have e := h.2.2.2
  have s1 : NV (fun j => g j - t * lgx g2 k2 (j - up)) k = NV g k - t * (PB up * NV (lgx g2 k2) (k - up)) := by
    rw [NV_sub hk.1, NV_mul hk.1]
    have := NV_mv (f := lgx g2 k2) hup (show 0 ≤ k - up by omega) (fun j h => lgx_out (by omega))
    rw [show up + (k - up) = k by omega] at this
    rw [this]
  have s2 : NV (fun j => g j - t * lgx g2 k2 (j - up)) up = NV g up := by
    rw [NV_sub hup, NV_mul hup, NV_low0 hup (fun j h1 h2 => lgx_out (by omega))]; omega
  have s3 : t * (PB up * NV (lgx g2 k2) (k - up)) = t * w * PB up := by
    by_cases q : k2 + up ≤ k
    · rw [NV_lgx hk2.1 (by omega), hM.2.2.2]; grind
    · have k0 : 0 < k2 := by omega
      have ge := hM.ge k0
      have m1 := Int.mul_le_mul_of_nonneg_right ge (show 0 ≤ PB up by omega)
      rw [← PB_add (by omega) (by omega)] at m1
      have m2 := PB_mono (show k ≤ k2 - 1 + up by omega)
      have t0 : t = 0 := by
        rcases Int.lt_or_le 0 t with z | z
        · have m3 := Int.mul_le_mul_of_nonneg_right (show 1 ≤ t by omega) (show 0 ≤ w * PB up by omega)
          have hle2 : t * (w * PB up) ≤ v := by rw [← Int.mul_assoc]; exact hle
          omega
        · omega
      rw [t0]; simp
  rw [s1, s2, s3, hN.2.2.2] at e
  have bd := NV_bd hk.1 D
  have nn : 0 ≤ t * w * PB up := Int.mul_nonneg (Int.mul_nonneg ht b2.1) (by omega)
  have e2 : NV g1 k + c * PB k = v - t * w * PB up := by omega
  have c0 : c = 0 := CL_c0 (PB_pos k) bd (v := v - t * w * PB up) (by omega) e2
  rw [c0] at e2
  omega
theorem mt_none {g g2 : Int → Int} {k k2 v w t up : Int} (hN : NatOK g k v) (hM : NatOK g2 k2 w) (ht : 0 ≤ t) (hle : t * w * PB up ≤ v) (huk : k < up) : v - t * w * PB up = v := by
  have b1 := hN.bd; have b2 := hM.bd
  have m := PB_mono (show k ≤ up by omega)
  have nn := Int.mul_nonneg ht b2.1
  have : t * w = 0 := by
    rcases Int.lt_or_le 0 (t * w) with z | z
    · have := Int.mul_le_mul_of_nonneg_right (show 1 ≤ t * w by omega) (show 0 ≤ PB up by have := PB_pos up; omega)
      omega
    · omega
  rw [this]; omega
/-! setProduct -/
theorem sp_s {g1 g2 g3 : Int → Int} {k2 i q c f : Int} (h : CL g1 (fun j => g1 j + f * lgx g2 k2 (j - i)) i 0 g3 q c) : CL g1 (fun j => g1 j + f * lgx g2 k2 (j - i)) i 0 (upZ g3 q ((c + (g3 q + f * lgx g2 k2 (q - i))) % 1073741824)) (q + 1) ((c + (g3 q + f * lgx g2 k2 (q - i))) / 1073741824) := by
  have e := h.2.1 q (by have := h.1; omega) (Or.inr (Int.le_refl _))
  rw [e]
  exact CL_s h
theorem NV_cut {g : Int → Int} {n q : Int} (hq : 0 ≤ q ∧ q ≤ n) (hz : ∀ j : Int, q ≤ j → j < n → g j = 0) : NV g n = NV g q := by
  have e : n = q + (n - q) := by omega
  rw [e]
  refine z_ind (P := fun r => r ≤ n - q → NV g (q + r) = NV g q) ?_ ?_ (show 0 ≤ n - q by omega) (by omega)
  · intro _; rw [Int.add_zero]
  · intro r h0 ih hr
    rw [show q + (r + 1) = q + r + 1 by omega, NV_s (by omega), ih (by omega), hz (q + r) (by omega) (by omega)]
    omega
theorem sp_end {f g1 g2 g3 : Int → Int} {kf k2 v w i c n : Int} (hN : NatOK f kf v) (hM : NatOK g2 k2 w) (hn : n = kf + k2) (hi : 0 ≤ i ∧ i < kf) (D1 : Dg g1 n) (e1 : NV g1 n = NV f i * w) (h : CL g1 (fun j => g1 j + lgx f kf i * lgx g2 k2 (j - i)) i 0 g3 (i + k2 + 1) c) : Dg g3 n ∧ NV g3 n = NV f (i + 1) * w := by
  have hk := hN.k; have hk2 := hM.k; have b2 := hM.bd
  have D3 := CL_dg (Dg_sub D1 (by omega)) h
  have bf := NV_bd hi.1 (Dg_sub hN.2.1 (show i ≤ kf by omega))
  have bf1 := NV_bd (show 0 ≤ i + 1 by omega) (Dg_sub hN.2.1 (show i + 1 ≤ kf by omega))
  have lt1 : NV g1 n < PB (i + k2) := by
    rw [e1, PB_add hi.1 hk2.1]
    have a := Int.mul_le_mul_of_nonneg_right (show NV f i ≤ PB i by omega) b2.1
    have b := Int.mul_lt_mul_of_pos_left b2.2 (PB_pos i)
    omega
  have z1 := NV_high D1 (show 0 ≤ i + k2 by omega) lt1
  have c1 : NV g1 n = NV g1 (i + k2 + 1) := NV_cut (by omega) (fun j h1 h2 => z1 j (by omega) h2)
  have e := h.2.2.2
  have i2 : 0 ≤ i + k2 + 1 := by omega
  have s1 : NV (fun j => g1 j + lgx f kf i * lgx g2 k2 (j - i)) (i + k2 + 1) = NV g1 (i + k2 + 1) + lgx f kf i * (PB i * w) := by
    rw [NV_add i2, NV_mul i2]
    have := NV_mv (f := lgx g2 k2) hi.1 (show 0 ≤ k2 + 1 by omega) (fun j h => lgx_out (by omega))
    rw [show i + (k2 + 1) = i + k2 + 1 by omega, NV_lgx hk2.1 (by omega), hM.2.2.2] at this
    rw [this]
  have s2 : NV (fun j => g1 j + lgx f kf i * lgx g2 k2 (j - i)) i = NV g1 i := by
    rw [NV_add hi.1, NV_mul hi.1, NV_low0 hi.1 (fun j h1 h2 => lgx_out (by omega))]; omega
  rw [s1, s2, ← c1, e1, lgx_in hi] at e
  have tot : NV f i * w + f i * (PB i * w) = NV f (i + 1) * w := by rw [NV_s hi.1]; grind
  have lt2 : NV f (i + 1) * w < PB (i + k2 + 1) := by
    rw [show i + k2 + 1 = i + 1 + k2 by omega, PB_add (by omega) hk2.1]
    have a := Int.mul_le_mul_of_nonneg_right (show NV f (i + 1) ≤ PB (i + 1) by omega) b2.1
    have b := Int.mul_lt_mul_of_pos_left b2.2 (PB_pos (i + 1))
    omega
  have nn : 0 ≤ NV f (i + 1) * w := Int.mul_nonneg bf1.1 b2.1
  have bd := NV_bd i2 D3
  have e3 : NV g3 (i + k2 + 1) + c * PB (i + k2 + 1) = NV f (i + 1) * w := by omega
  have c0 : c = 0 := CL_c0 (PB_pos _) bd ⟨nn, lt2⟩ e3
  have hz3 : ∀ j : Int, i + k2 + 1 ≤ j → j < n → g3 j = 0 := fun j h1 h2 => by
    rw [h.2.1 j (by omega) (Or.inr h1)]; exact z1 j (by omega) h2
  refine ⟨fun j h1 h2 => ?_, ?_⟩
  · by_cases q : j < i + k2 + 1
    · exact D3 j h1 q
    · rw [hz3 j (by omega) h2]; omega
  · rw [NV_cut (n := n) (q := i + k2 + 1) (by omega) hz3]
    rw [c0] at e3
    omega
/-! shiftLeft -/
theorem sl_val {g g1 : Int → Int} {k v w p cnt n : Int} (hN : NatOK g k v) (hk0 : 0 < k) (hw : 0 ≤ w) (hp : 0 ≤ p ∧ p < 30) (hc : cnt = w * 30 + p) (hf : v * P2 cnt < PB 224) (hn : n = min (k + w + 1) 224) (h : ∀ j : Int, 0 ≤ j → j < n → g1 j = sdg g k w p j) : Dg g1 n ∧ NV g1 n = v * P2 cnt := by
  have hk := hN.k; have b := hN.bd
  have D : Dg g1 n := fun j h1 h2 => by rw [h j h1 h2]; exact sdg_bd j
  refine ⟨D, ?_⟩
  have ge := hN.ge hk0
  have ec : P2 cnt = P2 p * PB w := by rw [PB_P2 hw, ← P2_add hp.1 (by omega)]; congr 1; omega
  have p1 := P2_pos p
  have p2 := PB_pos w
  -- the value, moved by whole limbs alone, still has room
  have m1 : v * PB w ≤ v * P2 cnt := by
    rw [ec]
    have := Int.mul_le_mul_of_nonneg_right (show 1 ≤ P2 p by omega) (show 0 ≤ PB w by omega)
    exact Int.mul_le_mul_of_nonneg_left (by omega) b.1
  have m2 := Int.mul_le_mul_of_nonneg_right ge (show 0 ≤ PB w by omega)
  rw [← PB_add (by omega) hw] at m2
  have kw : k + w ≤ 224 := by
    rcases Int.lt_or_le 224 (k + w) with q | q
    · have := PB_mono (show 224 ≤ k - 1 + w by omega)
      omega
    · exact q
  rw [NV_congr h]
  by_cases q : k + w + 1 ≤ 224
  · have en : n = w + (k + 1) := by omega
    rw [en, NV_sd hp hw hN.2.1 (by omega), NV_lgx hk.1 (by omega), hN.2.2.2, show k + 1 - 1 = k by omega, lgx_out (by omega), ec]
    simp
    grind
  · have en : n = w + k := by omega
    have e224 : w + k = 224 := by omega
    have e := NV_sd hp hw hN.2.1 hk.1
    rw [NV_lgx hk.1 (Int.le_refl _), hN.2.2.2] at e
    have s := sd_small hp (lgx_bd hN.2.1 (k - 1))
    have bd := NV_bd (show 0 ≤ w + k by omega) (g := sdg g k w p) (fun j _ _ => sdg_bd j)
    have ev : P2 p * (PB w * v) = v * P2 cnt := by rw [ec]; grind
    rw [ev] at e
    have z : lgx g k (k - 1) / P2 (30 - p) = 0 := by
      have nn : 0 ≤ v * P2 cnt := Int.mul_nonneg b.1 (by have := P2_pos cnt; omega)
      exact CL_c0 (x := NV (sdg g k w p) (w + k)) (PB_pos (w + k)) bd (v := v * P2 cnt) (by rw [e224]; omega) (by omega)
    rw [en, e, z]
    omega
theorem sl_none {g : Int → Int} {k v cnt : Int} (hN : NatOK g k v) (h : cnt ≤ 0 ∨ k = 0) : NatOK g k (v * P2 cnt) := by
  have e : v * P2 cnt = v := by
    rcases h with h | h
    · have : P2 cnt = 1 := by unfold P2; rw [show cnt.toNat = 0 by omega]; rfl
      rw [this]; omega
    · rw [hN.zero.mp h]; simp
  rw [e]; exact hN
theorem sl_rng {y p : Int} (h : 0 ≤ y ∧ y < P2 p) (hp : 0 ≤ p ∧ p < 30) : 0 ≤ y ∧ y < 1073741824 := by
  have := P2_mono (show p ≤ 30 by omega)
  rw [P2_30] at this
  omega
/-! ROWS of chars -/
def rat (t : Int → Int) (n i : Int) : Int := if 0 ≤ i ∧ i < n then t i else -1
theorem rat_in {t : Int → Int} {n i : Int} (h : 0 ≤ i ∧ i < n) : rat t n i = t i := if_pos h
theorem rat_out {t : Int → Int} {n i : Int} (h : ¬ (0 ≤ i ∧ i < n)) : rat t n i = -1 := if_neg h
/-- the first n are bytes -/
def Tx (t : Int → Int) (n : Int) : Prop := ∀ j : Int, 0 ≤ j → j < n → 0 ≤ t j ∧ t j < 256
def low1 (x : Int) : Int := if 65 ≤ x ∧ x ≤ 90 then x + 32 else x
/-- the first i of n are in lower case -/
def LowT (t t2 : Int → Int) (i n : Int) : Prop := (∀ j : Int, 0 ≤ j → j < i → t2 j = low1 (t j)) ∧ (∀ j : Int, i ≤ j → j < n → t2 j = t j) ∧ ∀ j : Int, j < 0 ∨ n ≤ j → t2 j = t j
theorem LowT_0 {t : Int → Int} {n : Int} : LowT t t 0 n := ⟨fun j h1 h2 => by omega, fun _ _ _ => rfl, fun _ _ => rfl⟩
theorem LowT_same {t t1 : Int → Int} {i n : Int} (h : LowT t t1 i n) (hi : 0 ≤ i ∧ i < n) (hx : t i < 65 ∨ 90 < t i) : LowT t t1 (i + 1) n := by
  refine ⟨fun j h1 h2 => ?_, fun j h1 h2 => h.2.1 j (by omega) h2, h.2.2⟩
  by_cases q : j = i
  · rw [q, h.2.1 i (by omega) hi.2]; unfold low1; rw [if_neg (by omega)]
  · exact h.1 j h1 (by omega)
theorem LowT_up {t t1 : Int → Int} {i n : Int} (h : LowT t t1 i n) (hi : 0 ≤ i ∧ i < n) (hx : 65 ≤ t i ∧ t i ≤ 90) : LowT t (upZ t1 i (t1 i - 65 + 97)) (i + 1) n := by
  refine ⟨fun j h1 h2 => ?_, fun j h1 h2 => by rw [upZ_n (by omega)]; exact h.2.1 j (by omega) h2, fun j hj => by rw [upZ_n (by omega)]; exact h.2.2 j hj⟩
  by_cases q : j = i
  · rw [q, upZ_s, h.2.1 i (by omega) hi.2]; unfold low1; rw [if_pos hx]; omega
  · rw [upZ_n q]; exact h.1 j h1 (by omega)
theorem LowT_u {t a b : Int → Int} {n : Int} (h : LowT t a n n) (g : LowT t b n n) : a = b := by
  funext j
  by_cases z : 0 ≤ j ∧ j < n
  · rw [h.1 j z.1 z.2, g.1 j z.1 z.2]
  · rw [h.2.2 j (by omega), g.2.2 j (by omega)]
theorem LowT_lo {t t1 : Int → Int} {i n : Int} (h : LowT t t1 i n) (hi : 0 ≤ i ∧ i < n) : LowT t (upZ t1 i (low1 (t1 i))) (i + 1) n := by
  refine ⟨fun j h1 h2 => ?_, fun j h1 h2 => by rw [upZ_n (by omega)]; exact h.2.1 j (by omega) h2, fun j hj => by rw [upZ_n (by omega)]; exact h.2.2 j hj⟩
  by_cases q : j = i
  · rw [q, upZ_s, h.2.1 i (by omega) hi.2]
  · rw [upZ_n q]; exact h.1 j h1 (by omega)
/-- L chars laid behind the first n -/
def apZ (t : Int → Int) (n L : Int) (ch : Int → Int) : Int → Int := fun j => if n ≤ j ∧ j < n + L then ch (j - n) else t j
theorem apZ_0 (t : Int → Int) (n : Int) (ch : Int → Int) : apZ t n 0 ch = t := by
  funext j; unfold apZ; rw [if_neg (by omega)]
theorem apZ_s {t ch : Int → Int} {n k : Int} (hk : 0 ≤ k) : upZ (apZ t n k ch) (n + k) (ch k) = apZ t n (k + 1) ch := by
  funext j
  unfold upZ apZ
  by_cases h : j = n + k
  · rw [if_pos h, if_pos (by omega), h]; congr 1; omega
  · rw [if_neg h]
    by_cases h2 : n ≤ j ∧ j < n + k
    · rw [if_pos h2, if_pos (by omega)]
    · rw [if_neg h2, if_neg (by omega)]
theorem apZ_lo {t ch : Int → Int} {n k j : Int} (h : j < n) : apZ t n k ch j = t j := by unfold apZ; rw [if_neg (by omega)]
theorem apZ_in {t ch : Int → Int} {n k j : Int} (h : 0 ≤ j ∧ j < k) : apZ t n k ch (n + j) = ch j := by unfold apZ; rw [if_pos (by omega)]; congr 1; omega
/-! powers of 5 -/
def P5 (k : Int) : Int := 5 ^ k.toNat
theorem P5_pos (k : Int) : 0 < P5 k := Int.pow_pos (by decide)
theorem P5_0 {k : Int} (h : k ≤ 0) : P5 k = 1 := by unfold P5; rw [show k.toNat = 0 by omega]; rfl
theorem P5_add {a b : Int} (ha : 0 ≤ a) (hb : 0 ≤ b) : P5 (a + b) = P5 a * P5 b := by
  unfold P5
  rw [show (a + b).toNat = a.toNat + b.toNat by omega, Int.pow_add]
theorem P5_12 {z : Int} (h : 0 ≤ z ∧ z ≤ 12) : 1 ≤ P5 z ∧ P5 z ≤ 244140625 := by
  have : ∀ n : Nat, n ≤ 12 → (5 : Int) ^ n ≤ 244140625 := by decide +kernel
  exact ⟨P5_pos z, this z.toNat (by omega)⟩
theorem fives_at : ∀ n : Nat, n < 13 → fives.getD n 0 = 5 ^ n := by decide +kernel
/-- one step of timesPowerOfFive -/
theorem P5_step {x : Int} (h : 0 < x) : P5 (min x 12) * P5 (x - 12) = P5 x := by
  by_cases q : x ≤ 12
  · rw [show min x 12 = x by omega, P5_0 (show x - 12 ≤ 0 by omega)]; omega
  · rw [show min x 12 = 12 by omega, ← P5_add (by omega) (by omega)]; congr 1; omega
theorem P5_le {w x T B : Int} (hw : 0 ≤ w) (h : 0 < x) (he : w * P5 x = T) (hT : T < B) : w * P5 (min x 12) + 0 < B := by
  have s := P5_step h
  have p := P5_pos (x - 12)
  have p2 := P5_pos (min x 12)
  have m := Int.mul_le_mul_of_nonneg_left (show 1 ≤ P5 (x - 12) by omega) (show 0 ≤ P5 (min x 12) by omega)
  rw [s, Int.mul_one] at m
  have := Int.mul_le_mul_of_nonneg_left m hw
  omega
/-! signs -/
def sv (neg : Bool) (v : Int) : Int := if neg then -v else v
def sgnR (neg : Bool) (v : Int) : Int := if v = 0 then 0 else if neg then -1 else 1
theorem NatOK_0 : NatOK (fun _ => 0) 0 0 := ⟨by omega, fun j h1 h2 => by omega, fun h => by omega, rfl⟩
theorem sv_add {n m : Bool} {v w : Int} (h : n = m) : sv n (v + w) = sv n v + sv m w := by subst h; unfold sv; cases n <;> simp <;> omega
theorem sv_sub {n m : Bool} {v w : Int} (h : n ≠ m) : sv n (v - 1 * w * PB 0) = sv n v + sv m w := by
  rw [PB_0]; unfold sv; cases n <;> cases m <;> simp_all <;> omega
theorem sv_tak {n m : Bool} {v w : Int} (h : n ≠ m) : sv m (w - v) = sv n v + sv m w := by
  unfold sv; cases n <;> cases m <;> simp_all <;> omega
