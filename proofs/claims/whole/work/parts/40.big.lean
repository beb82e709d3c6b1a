/-! LIMBS: whole numbers of base 2 ^ 16, the lowest limb first. -/
def mv (g : Int → Int) : Nat → Int
  | 0 => 0
  | k + 1 => mv g k + g (k : Int) * 65536 ^ k
def QB (k : Int) : Int := 65536 ^ k.toNat
def MV (g : Int → Int) (k : Int) : Int := mv g k.toNat
def Eg (g : Int → Int) (k : Int) : Prop := ∀ j : Int, 0 ≤ j → j < k → 0 ≤ g j ∧ g j < 65536
/-- what limb(j) answers -/
def mgx (g : Int → Int) (k : Int) (j : Int) : Int := if 0 ≤ j ∧ j < k then g j else 0
theorem QB_pos (k : Int) : 0 < QB k := Int.pow_pos (by decide)
theorem QB_0 : QB 0 = 1 := rfl
theorem QB_s {k : Int} (h : 0 ≤ k) : QB (k + 1) = QB k * 65536 := by
  unfold QB
  rw [show (k + 1).toNat = k.toNat + 1 by omega, Int.pow_succ]
theorem QB_add {a b : Int} (ha : 0 ≤ a) (hb : 0 ≤ b) : QB (a + b) = QB a * QB b := by
  unfold QB
  rw [show (a + b).toNat = a.toNat + b.toNat by omega, Int.pow_add]
theorem QB_mono {a b : Int} (h : a ≤ b) : QB a ≤ QB b := by
  by_cases h0 : 0 ≤ a
  · have e := QB_add h0 (show 0 ≤ b - a by omega)
    rw [show a + (b - a) = b by omega] at e
    have p1 := QB_pos a; have p2 := QB_pos (b - a)
    rw [e]
    have := Int.mul_le_mul_of_nonneg_left (show 1 ≤ QB (b - a) by omega) (show 0 ≤ QB a by omega)
    omega
  · have : QB a = 1 := by unfold QB; rw [show a.toNat = 0 by omega]; rfl
    have := QB_pos b
    omega
theorem QB_lt {a b : Int} (h0 : 0 ≤ a) (h : a < b) : QB a < QB b := by
  have h1 := QB_mono (show a + 1 ≤ b by omega)
  rw [QB_s h0] at h1
  have := QB_pos a
  omega
theorem MV_0 (g : Int → Int) : MV g 0 = 0 := rfl
theorem MV_s {g : Int → Int} {k : Int} (h : 0 ≤ k) : MV g (k + 1) = MV g k + g k * QB k := by
  unfold MV QB
  rw [show (k + 1).toNat = k.toNat + 1 by omega, mv, Int.toNat_of_nonneg h]
theorem mv_congr {g h : Int → Int} : ∀ (k : Nat), (∀ j : Int, 0 ≤ j → j < (k : Int) → g j = h j) → mv g k = mv h k
  | 0, _ => rfl
  | k + 1, H => by
    rw [mv, mv, mv_congr k (fun j h1 h2 => H j h1 (by omega)), H k (by omega) (by omega)]
theorem MV_congr {g h : Int → Int} {k : Int} (H : ∀ j : Int, 0 ≤ j → j < k → g j = h j) : MV g k = MV h k :=
  mv_congr k.toNat (fun j h1 h2 => H j h1 (by omega))
theorem Eg_sub {g : Int → Int} {k i : Int} (h : Eg g k) (hi : i ≤ k) : Eg g i := fun j h1 h2 => h j h1 (by omega)
theorem MV_bd {g : Int → Int} {k : Int} (hk : 0 ≤ k) (H : Eg g k) : 0 ≤ MV g k ∧ MV g k < QB k := by
  refine z_ind (P := fun k => Eg g k → 0 ≤ MV g k ∧ MV g k < QB k) ?_ ?_ hk H
  · intro _; rw [MV_0, QB_0]; decide
  · intro k h0 ih H
    have a := ih (Eg_sub H (by omega))
    have d := H k h0 (by omega)
    have p := QB_pos k
    rw [MV_s h0, QB_s h0]
    have h1 : 0 ≤ g k * QB k := Int.mul_nonneg d.1 (by omega)
    have h2 : g k * QB k ≤ 65535 * QB k := Int.mul_le_mul_of_nonneg_right (by omega) (by omega)
    omega
def BigOK (g : Int → Int) (k v : Int) : Prop := (0 ≤ k ∧ k ≤ 640) ∧ Eg g k ∧ (0 < k → g (k - 1) ≠ 0) ∧ MV g k = v
theorem BigOK.k {g : Int → Int} {k v : Int} (h : BigOK g k v) : 0 ≤ k ∧ k ≤ 640 := h.1
theorem BigOK.bd {g : Int → Int} {k v : Int} (h : BigOK g k v) : 0 ≤ v ∧ v < QB k := by
  have := MV_bd h.1.1 h.2.1
  rw [h.2.2.2] at this
  exact this
/-- the top limb is not 0: so long, and not shorter -/
theorem MV_top {g : Int → Int} {k : Int} (hk : 0 < k) (H : Eg g k) (h : g (k - 1) ≠ 0) : QB (k - 1) ≤ MV g k := by
  have e := MV_s (g := g) (show 0 ≤ k - 1 by omega)
  rw [show k - 1 + 1 = k by omega] at e
  have a := MV_bd (show 0 ≤ k - 1 by omega) (Eg_sub H (show k - 1 ≤ k by omega))
  have d := H (k - 1) (by omega) (by omega)
  have p := QB_pos (k - 1)
  have := Int.mul_le_mul_of_nonneg_right (show 1 ≤ g (k - 1) by omega) (show 0 ≤ QB (k - 1) by omega)
  omega
theorem BigOK.ge {g : Int → Int} {k v : Int} (h : BigOK g k v) (hk : 0 < k) : QB (k - 1) ≤ v := by
  rw [← h.2.2.2]
  exact MV_top hk h.2.1 (h.2.2.1 hk)
theorem BigOK.zero {g : Int → Int} {k v : Int} (h : BigOK g k v) : k = 0 ↔ v = 0 := by
  constructor
  · intro e; subst e; have := h.2.2.2; rw [MV_0] at this; omega
  · intro e
    have h1 := h.1
    by_cases q : 0 < k
    · have := h.ge q
      have := QB_pos (k - 1)
      omega
    · omega
theorem MV_topz {g : Int → Int} {k : Int} (hk : 0 < k) (h : g (k - 1) = 0) : MV g k = MV g (k - 1) := by
  have e := MV_s (g := g) (show 0 ≤ k - 1 by omega)
  rw [show k - 1 + 1 = k by omega, h] at e
  omega
theorem mgx_in {g : Int → Int} {k j : Int} (h : 0 ≤ j ∧ j < k) : mgx g k j = g j := if_pos h
theorem mgx_out {g : Int → Int} {k j : Int} (h : ¬ (0 ≤ j ∧ j < k)) : mgx g k j = 0 := if_neg h
theorem mgx_bd {g : Int → Int} {k : Int} (H : Eg g k) (j : Int) : 0 ≤ mgx g k j ∧ mgx g k j < 65536 := by
  unfold mgx
  split
  · next h => exact H j h.1 h.2
  · omega
theorem MV_mgx {g : Int → Int} {k n : Int} (hk : 0 ≤ k) (hn : k ≤ n) : MV (mgx g k) n = MV g k := by
  have e : n = k + (n - k) := by omega
  rw [e]
  refine z_ind (P := fun q => MV (mgx g k) (k + q) = MV g k) ?_ ?_ (show 0 ≤ n - k by omega)
  · rw [Int.add_zero]; exact MV_congr (fun j h1 h2 => mgx_in ⟨h1, h2⟩)
  · intro q h0 ih
    rw [show k + (q + 1) = k + q + 1 by omega, MV_s (by omega), ih, mgx_out (by omega)]
    omega
/-- above the value all limbs are 0 -/
theorem MV_high {g : Int → Int} {n m : Int} (H : Eg g n) (hm : 0 ≤ m) (h : MV g n < QB m) : ∀ j : Int, m ≤ j → j < n → g j = 0 := by
  intro j h1 h2
  have a := MV_bd (show 0 ≤ j by omega) (Eg_sub H (show j ≤ n by omega))
  have d := H j (by omega) h2
  by_cases q : g j = 0
  · exact q
  · exfalso
    have s : QB j ≤ MV g (j + 1) := by
      have := MV_top (g := g) (k := j + 1) (by omega) (Eg_sub H (by omega)) (by rw [show j + 1 - 1 = j by omega]; exact q)
      rwa [show j + 1 - 1 = j by omega] at this
    have mono : MV g (j + 1) ≤ MV g n := by
      have e : n = j + 1 + (n - (j + 1)) := by omega
      rw [e]
      refine z_ind (P := fun q => q ≤ n - (j + 1) → MV g (j + 1) ≤ MV g (j + 1 + q)) ?_ ?_ (show 0 ≤ n - (j + 1) by omega) (by omega)
      · intro _; rw [Int.add_zero]; omega
      · intro q h0 ih hq
        have i1 := ih (by omega)
        rw [show j + 1 + (q + 1) = j + 1 + q + 1 by omega, MV_s (k := j + 1 + q) (by omega)]
        have d2 := H (j + 1 + q) (by omega) (by omega)
        have := Int.mul_nonneg d2.1 (show 0 ≤ QB (j + 1 + q) by have := QB_pos (j + 1 + q); omega)
        omega
    have := QB_mono h1
    omega
/-- two rows of the same length with the same value have the same limbs -/
theorem MV_uniq {g h : Int → Int} {n : Int} (hn : 0 ≤ n) (H : Eg g n) (H' : Eg h n) (e : MV g n = MV h n) : ∀ j : Int, 0 ≤ j → j < n → g j = h j := by
  refine z_ind (P := fun n => Eg g n → Eg h n → MV g n = MV h n → ∀ j : Int, 0 ≤ j → j < n → g j = h j) ?_ ?_ hn H H' e
  · intro _ _ _ j h1 h2; omega
  · intro n h0 ih H H' e j h1 h2
    rw [MV_s h0, MV_s h0] at e
    have a := MV_bd h0 (Eg_sub H (show n ≤ n + 1 by omega))
    have b := MV_bd h0 (Eg_sub H' (show n ≤ n + 1 by omega))
    have d1 := H n h0 (by omega)
    have d2 := H' n h0 (by omega)
    have p := QB_pos n
    have top : g n = h n := by
      rcases Int.lt_trichotomy (g n) (h n) with q | q | q
      · have := Int.mul_le_mul_of_nonneg_right (show g n + 1 ≤ h n by omega) (show 0 ≤ QB n by omega)
        rw [Int.add_mul] at this
        omega
      · exact q
      · have := Int.mul_le_mul_of_nonneg_right (show h n + 1 ≤ g n by omega) (show 0 ≤ QB n by omega)
        rw [Int.add_mul] at this
        omega
    by_cases q : j = n
    · rw [q]; exact top
    · exact ih (Eg_sub H (by omega)) (Eg_sub H' (by omega)) (by rw [top] at e; omega) j h1 (by omega)
/-! timesPlus -/
def GRI (g : Int → Int) (k a b : Int) (g' : Int → Int) (i c : Int) : Prop := (0 ≤ i ∧ i ≤ k) ∧ (∀ j : Int, i ≤ j → j < k → g' j = g j) ∧ Eg g' i ∧ (0 ≤ c ∧ c < 65536) ∧ MV g' i + c * QB i = MV g i * a + b
theorem GRI_0 {g : Int → Int} {k a b : Int} (hk : 0 ≤ k) (hb : 0 ≤ b ∧ b < 65536) : GRI g k a b g 0 b := by
  refine ⟨by omega, fun _ _ _ => rfl, fun j h1 h2 => by omega, hb, ?_⟩
  rw [MV_0, QB_0]; omega
theorem GRI_rng {g g' : Int → Int} {k a b i c : Int} (hg : Eg g k) (ha : 0 ≤ a ∧ a < 65536) (h : GRI g k a b g' i c) (hi : i < k) : 0 ≤ c + g' i * a ∧ c + g' i * a ≤ 4294901760 := by
  obtain ⟨h1, h2, h3, h4, h5⟩ := h
  rw [h2 i (by omega) hi]
  have d := hg i h1.1 hi
  have := Int.mul_nonneg d.1 ha.1
  have : g i * a ≤ 65535 * 65535 := Int.mul_le_mul (by omega) (by omega) ha.1 (by decide)
  omega
theorem MV_up {g : Int → Int} {i v : Int} : MV (upZ g i v) i = MV g i := MV_congr (fun j _ h2 => upZ_n (by omega))
theorem GRI_s {g g' : Int → Int} {k a b i c : Int} (hg : Eg g k) (ha : 0 ≤ a ∧ a < 65536) (h : GRI g k a b g' i c) (hi : i < k) : GRI g k a b (upZ g' i ((c + g' i * a) % 65536)) (i + 1) ((c + g' i * a) / 65536) := by
  have r := GRI_rng hg ha h hi
  obtain ⟨h1, h2, h3, h4, h5⟩ := h
  have e0 := h2 i (by omega) hi
  rw [e0] at r ⊢
  generalize ht : c + g i * a = t at r ⊢
  refine ⟨by omega, fun j q1 q2 => by rw [upZ_n (by omega)]; exact h2 j (by omega) q2, ?_, by omega, ?_⟩
  · intro j q1 q2
    by_cases q : j = i
    · rw [q, upZ_s]; omega
    · rw [upZ_n q]; exact h3 j q1 (by omega)
  · rw [MV_s h1.1, MV_up, upZ_s, MV_s h1.1, QB_s h1.1]
    have e := Int.emod_add_mul_ediv t 65536
    generalize t % 65536 = r0 at e ⊢
    generalize t / 65536 = q0 at e ⊢
    generalize QB i = P at h5 ⊢
    generalize MV g' i = x at h5 ⊢
    generalize MV g i = y at h5 ⊢
    grind
theorem GRI_end {g g' : Int → Int} {k a b c v : Int} (hg : BigOK g k v) (ha : 1 ≤ a ∧ a < 65536) (hb : 0 ≤ b) (h : GRI g k a b g' k c) : (c = 0 → BigOK g' k (v * a + b)) ∧ (0 < c → k < 640 → BigOK (upZ g' k c) (k + 1) (v * a + b)) ∧ (v * a + b < QB 640 → 0 < c → k < 640) := by
  obtain ⟨h1, h2, h3, h4, h5⟩ := h
  have gk := hg.1
  rw [hg.2.2.2] at h5
  refine ⟨fun e => ⟨gk, h3, fun hk => ?_, by rw [e] at h5; omega⟩, fun hc hk => ⟨by omega, ?_, fun _ => ?_, ?_⟩, fun hv hc => ?_⟩
  · intro z
    have e1 := MV_topz hk z
    have b1 := MV_bd (show 0 ≤ k - 1 by omega) (Eg_sub h3 (show k - 1 ≤ k by omega))
    have b2 := hg.ge hk
    have b3 := hg.bd
    have := Int.mul_le_mul_of_nonneg_left ha.1 b3.1
    rw [e] at h5
    omega
  · intro j q1 q2
    by_cases q : j = k
    · rw [q, upZ_s]; exact h4
    · rw [upZ_n q]; exact h3 j q1 (by omega)
  · rw [show k + 1 - 1 = k by omega, upZ_s]; omega
  · rw [MV_s gk.1, MV_up, upZ_s]; exact h5
  · by_cases q : k < 640
    · exact q
    · exfalso
      have e : k = 640 := by omega
      have b1 := MV_bd h1.1 h3
      have p := QB_pos 640
      rw [e] at h5 b1
      have := Int.mul_le_mul_of_nonneg_right (show 1 ≤ c by omega) (show 0 ≤ QB 640 by omega)
      omega
/-! a row of limbs made from below with a carry: plus, minusTimes, takeFrom, setProduct -/
def DL (g src : Int → Int) (lo c0 : Int) (g' : Int → Int) (i c : Int) : Prop := (0 ≤ lo ∧ lo ≤ i) ∧ (∀ j : Int, 0 ≤ j → (j < lo ∨ i ≤ j) → g' j = g j) ∧ (∀ j : Int, lo ≤ j → j < i → 0 ≤ g' j ∧ g' j < 65536) ∧ MV g' i - MV g lo + c * QB i = MV src i - MV src lo + c0 * QB lo
theorem DL_0 {g src : Int → Int} {lo c0 : Int} (h : 0 ≤ lo) : DL g src lo c0 g lo c0 := ⟨by omega, fun _ _ _ => rfl, fun j h1 h2 => by omega, by omega⟩
theorem DL_s {g src g' : Int → Int} {lo c0 i c : Int} (h : DL g src lo c0 g' i c) : DL g src lo c0 (upZ g' i ((c + src i) % 65536)) (i + 1) ((c + src i) / 65536) := by
  obtain ⟨h1, h2, h3, h4⟩ := h
  have h0 : 0 ≤ i := by omega
  refine ⟨by omega, fun j q0 q1 => by rw [upZ_n (by omega)]; exact h2 j q0 (by omega), ?_, ?_⟩
  · intro j q1 q2
    by_cases q : j = i
    · rw [q, upZ_s]; omega
    · rw [upZ_n q]; exact h3 j q1 (by omega)
  · rw [MV_s h0, MV_up, upZ_s, MV_s h0, QB_s h0]
    have e := Int.emod_add_mul_ediv (c + src i) 65536
    generalize (c + src i) % 65536 = r0 at e ⊢
    generalize (c + src i) / 65536 = q0 at e ⊢
    generalize QB i = P at h4 ⊢
    generalize QB lo = P0 at h4 ⊢
    generalize MV g' i = x at h4 ⊢
    generalize MV g lo = x0 at h4 ⊢
    generalize MV src i = y at h4 ⊢
    generalize MV src lo = y0 at h4 ⊢
    grind
theorem DL_dg {g src g' : Int → Int} {lo c0 i c : Int} (hg : Eg g lo) (h : DL g src lo c0 g' i c) : Eg g' i := by
  obtain ⟨h1, h2, h3, h4⟩ := h
  intro j q1 q2
  by_cases q : j < lo
  · rw [h2 j q1 (Or.inl q)]; exact hg j q1 q
  · exact h3 j (by omega) q2
theorem MV_add {f h : Int → Int} {k : Int} (hk : 0 ≤ k) : MV (fun j => f j + h j) k = MV f k + MV h k := by
  refine z_ind (P := fun k => MV (fun j => f j + h j) k = MV f k + MV h k) rfl ?_ hk
  intro k h0 ih
  rw [MV_s h0, ih, MV_s h0, MV_s h0]
  grind
theorem MV_sub {f h : Int → Int} {k : Int} (hk : 0 ≤ k) : MV (fun j => f j - h j) k = MV f k - MV h k := by
  refine z_ind (P := fun k => MV (fun j => f j - h j) k = MV f k - MV h k) rfl ?_ hk
  intro k h0 ih
  rw [MV_s h0, ih, MV_s h0, MV_s h0]
  grind
theorem MV_mul {f : Int → Int} {a k : Int} (hk : 0 ≤ k) : MV (fun j => a * f j) k = a * MV f k := by
  refine z_ind (P := fun k => MV (fun j => a * f j) k = a * MV f k) (by show (0 : Int) = a * 0; omega) ?_ hk
  intro k h0 ih
  rw [MV_s h0, ih, MV_s h0]
  grind
theorem MV_low0 {f : Int → Int} {k : Int} (hk : 0 ≤ k) (h : ∀ j : Int, 0 ≤ j → j < k → f j = 0) : MV f k = 0 := by
  rw [MV_congr (h := fun _ => 0) h]
  refine z_ind (P := fun k => MV (fun _ => 0) k = 0) rfl ?_ hk
  intro k h0 ih
  rw [MV_s h0, ih]
  omega
/-- a row moved up -/
theorem MV_mv {f : Int → Int} {u n : Int} (hu : 0 ≤ u) (hn : 0 ≤ n) (hf : ∀ j : Int, j < 0 → f j = 0) : MV (fun j => f (j - u)) (u + n) = QB u * MV f n := by
  refine z_ind (P := fun n => MV (fun j => f (j - u)) (u + n) = QB u * MV f n) ?_ ?_ hn
  · rw [Int.add_zero, MV_0, MV_low0 hu (fun j h1 h2 => hf _ (by omega))]; omega
  · intro n h0 ih
    rw [show u + (n + 1) = u + n + 1 by omega, MV_s (by omega), ih, MV_s h0, QB_add hu h0, show u + n - u = n by omega]
    grind
/-- trim: the length without zeros above -/
theorem BigOK_of {g : Int → Int} {n k v : Int} (hn : n ≤ 640) (H : Eg g n) (hk : 0 ≤ k ∧ k ≤ n) (hz : ∀ j : Int, k ≤ j → j < n → g j = 0) (ht : 0 < k → g (k - 1) ≠ 0) (hv : MV g n = v) : BigOK g k v := by
  refine ⟨by omega, Eg_sub H hk.2, ht, ?_⟩
  rw [← hv]
  have e : n = k + (n - k) := by omega
  rw [e]
  refine (z_ind (P := fun q => q ≤ n - k → MV g (k + q) = MV g k) ?_ ?_ (show 0 ≤ n - k by omega) (by omega)).symm
  · intro _; rw [Int.add_zero]
  · intro q h0 ih hq
    rw [show k + (q + 1) = k + q + 1 by omega, MV_s (by omega), ih (by omega), hz (k + q) (by omega) (by omega)]
    omega
/-- the first limb from above that differs decides -/
theorem MV_cmp {g h : Int → Int} {n i : Int} (H : Eg g n) (H' : Eg h n) (hi : 0 ≤ i ∧ i < n) (he : ∀ j : Int, i < j → j < n → g j = h j) (hl : g i < h i) : MV g n < MV h n := by
  have base : MV g (i + 1) < MV h (i + 1) := by
    rw [MV_s hi.1, MV_s hi.1]
    have a := MV_bd hi.1 (Eg_sub H (show i ≤ n by omega))
    have b := MV_bd hi.1 (Eg_sub H' (show i ≤ n by omega))
    have := Int.mul_le_mul_of_nonneg_right (show g i + 1 ≤ h i by omega) (show 0 ≤ QB i by have := QB_pos i; omega)
    rw [Int.add_mul] at this
    omega
  have e : n = i + 1 + (n - (i + 1)) := by omega
  rw [e]
  refine z_ind (P := fun q => q ≤ n - (i + 1) → MV g (i + 1 + q) < MV h (i + 1 + q)) ?_ ?_ (show 0 ≤ n - (i + 1) by omega) (by omega)
  · intro _; rw [Int.add_zero]; exact base
  · intro q h0 ih hq
    have i1 := ih (by omega)
    rw [show i + 1 + (q + 1) = i + 1 + q + 1 by omega, MV_s (by omega), MV_s (by omega), he (i + 1 + q) (by omega) (by omega)]
    omega
/-! set, copy, bits, compareWith -/
def StI (g : Int → Int) (k z v : Int) : Prop := (0 ≤ k ∧ k ≤ 4) ∧ Eg g k ∧ (z = 0 → 0 < k → g (k - 1) ≠ 0) ∧ MV g k + z * QB k = v
theorem StI_0 {g : Int → Int} (v : Int) : StI g 0 v v := ⟨by omega, fun j h1 h2 => by omega, fun _ h => by omega, by rw [MV_0, QB_0]; omega⟩
theorem StI_s {g : Int → Int} {k z v : Int} (h : StI g k z v) (hz : 0 < z) (hk : k < 4) : StI (upZ g k (z % 65536)) (k + 1) (z / 65536) v := by
  obtain ⟨h1, h2, h3, h4⟩ := h
  refine ⟨by omega, ?_, fun e _ => ?_, ?_⟩
  · intro j q1 q2
    by_cases q : j = k
    · rw [q, upZ_s]; omega
    · rw [upZ_n q]; exact h2 j q1 (by omega)
  · rw [show k + 1 - 1 = k by omega, upZ_s]; omega
  · rw [MV_s h1.1, MV_up, upZ_s, QB_s h1.1]
    have e := Int.emod_add_mul_ediv z 65536
    generalize z % 65536 = r0 at e ⊢
    generalize z / 65536 = q0 at e ⊢
    generalize QB k = P at h4 ⊢
    generalize MV g k = x at h4 ⊢
    grind
theorem StI_end {g : Int → Int} {k z v : Int} (h : StI g k z v) (hz : z = 0) (hk : k ≤ 4) : BigOK g k v := by
  obtain ⟨h1, h2, h3, h4⟩ := h
  exact ⟨by omega, h2, h3 hz, by rw [hz] at h4; omega⟩
theorem BigOK_copy {g h : Int → Int} {k v : Int} (hN : BigOK g k v) (he : ∀ j : Int, 0 ≤ j → j < k → h j = g j) : BigOK h k v := by
  obtain ⟨h1, h2, h3, h4⟩ := hN
  refine ⟨h1, fun j q1 q2 => by rw [he j q1 q2]; exact h2 j q1 q2, fun hk => by rw [he (k - 1) (by omega) (by omega)]; exact h3 hk, ?_⟩
  rw [← h4]; exact MV_congr he
