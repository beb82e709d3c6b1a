/-! LIMBS: whole numbers of base 2 ^ 30, the lowest limb first. -/
def nv (g : Int → Int) : Nat → Int
  | 0 => 0
  | k + 1 => nv g k + g (k : Int) * 1073741824 ^ k
def PB (k : Int) : Int := 1073741824 ^ k.toNat
def NV (g : Int → Int) (k : Int) : Int := nv g k.toNat
def Dg (g : Int → Int) (k : Int) : Prop := ∀ j : Int, 0 ≤ j → j < k → 0 ≤ g j ∧ g j < 1073741824
/-- what limb(j) answers -/
def lgx (g : Int → Int) (k : Int) (j : Int) : Int := if 0 ≤ j ∧ j < k then g j else 0
theorem PB_pos (k : Int) : 0 < PB k := Int.pow_pos (by decide)
theorem PB_0 : PB 0 = 1 := rfl
theorem PB_s {k : Int} (h : 0 ≤ k) : PB (k + 1) = PB k * 1073741824 := by
  unfold PB
  rw [show (k + 1).toNat = k.toNat + 1 by omega, Int.pow_succ]
theorem PB_add {a b : Int} (ha : 0 ≤ a) (hb : 0 ≤ b) : PB (a + b) = PB a * PB b := by
  unfold PB
  rw [show (a + b).toNat = a.toNat + b.toNat by omega, Int.pow_add]
theorem PB_mono {a b : Int} (h : a ≤ b) : PB a ≤ PB b := by
  by_cases h0 : 0 ≤ a
  · have e := PB_add h0 (show 0 ≤ b - a by omega)
    rw [show a + (b - a) = b by omega] at e
    have p1 := PB_pos a; have p2 := PB_pos (b - a)
    rw [e]
    have := Int.mul_le_mul_of_nonneg_left (show 1 ≤ PB (b - a) by omega) (show 0 ≤ PB a by omega)
    omega
  · have : PB a = 1 := by unfold PB; rw [show a.toNat = 0 by omega]; rfl
    have := PB_pos b
    omega
theorem PB_lt {a b : Int} (h0 : 0 ≤ a) (h : a < b) : PB a < PB b := by
  have h1 := PB_mono (show a + 1 ≤ b by omega)
  rw [PB_s h0] at h1
  have := PB_pos a
  omega
theorem NV_0 (g : Int → Int) : NV g 0 = 0 := rfl
theorem NV_s {g : Int → Int} {k : Int} (h : 0 ≤ k) : NV g (k + 1) = NV g k + g k * PB k := by
  unfold NV PB
  rw [show (k + 1).toNat = k.toNat + 1 by omega, nv, Int.toNat_of_nonneg h]
theorem nv_congr {g h : Int → Int} : ∀ (k : Nat), (∀ j : Int, 0 ≤ j → j < (k : Int) → g j = h j) → nv g k = nv h k
  | 0, _ => rfl
  | k + 1, H => by
    rw [nv, nv, nv_congr k (fun j h1 h2 => H j h1 (by omega)), H k (by omega) (by omega)]
theorem NV_congr {g h : Int → Int} {k : Int} (H : ∀ j : Int, 0 ≤ j → j < k → g j = h j) : NV g k = NV h k :=
  nv_congr k.toNat (fun j h1 h2 => H j h1 (by omega))
/-- induction over a length -/
theorem z_ind {P : Int → Prop} (h0 : P 0) (hs : ∀ k : Int, 0 ≤ k → P k → P (k + 1)) {k : Int} (hk : 0 ≤ k) : P k := by
  have : ∀ n : Nat, P (n : Int) := by
    intro n
    induction n with
    | zero => exact h0
    | succ n ih => exact hs n (by omega) ih
  have q := this k.toNat
  rwa [Int.toNat_of_nonneg hk] at q
theorem Dg_sub {g : Int → Int} {k i : Int} (h : Dg g k) (hi : i ≤ k) : Dg g i := fun j h1 h2 => h j h1 (by omega)
theorem NV_bd {g : Int → Int} {k : Int} (hk : 0 ≤ k) (H : Dg g k) : 0 ≤ NV g k ∧ NV g k < PB k := by
  refine z_ind (P := fun k => Dg g k → 0 ≤ NV g k ∧ NV g k < PB k) ?_ ?_ hk H
  · intro _; rw [NV_0, PB_0]; decide
  · intro k h0 ih H
    have a := ih (Dg_sub H (by omega))
    have d := H k h0 (by omega)
    have p := PB_pos k
    rw [NV_s h0, PB_s h0]
    have h1 : 0 ≤ g k * PB k := Int.mul_nonneg d.1 (by omega)
    have h2 : g k * PB k ≤ 1073741823 * PB k := Int.mul_le_mul_of_nonneg_right (by omega) (by omega)
    omega
def NatOK (g : Int → Int) (k v : Int) : Prop := (0 ≤ k ∧ k ≤ 224) ∧ Dg g k ∧ (0 < k → g (k - 1) ≠ 0) ∧ NV g k = v
theorem NatOK.k {g : Int → Int} {k v : Int} (h : NatOK g k v) : 0 ≤ k ∧ k ≤ 224 := h.1
theorem NatOK.bd {g : Int → Int} {k v : Int} (h : NatOK g k v) : 0 ≤ v ∧ v < PB k := by
  have := NV_bd h.1.1 h.2.1
  rw [h.2.2.2] at this
  exact this
/-- the top limb is not 0: so long, and not shorter -/
theorem NV_top {g : Int → Int} {k : Int} (hk : 0 < k) (H : Dg g k) (h : g (k - 1) ≠ 0) : PB (k - 1) ≤ NV g k := by
  have e := NV_s (g := g) (show 0 ≤ k - 1 by omega)
  rw [show k - 1 + 1 = k by omega] at e
  have a := NV_bd (show 0 ≤ k - 1 by omega) (Dg_sub H (show k - 1 ≤ k by omega))
  have d := H (k - 1) (by omega) (by omega)
  have p := PB_pos (k - 1)
  have := Int.mul_le_mul_of_nonneg_right (show 1 ≤ g (k - 1) by omega) (show 0 ≤ PB (k - 1) by omega)
  omega
theorem NatOK.ge {g : Int → Int} {k v : Int} (h : NatOK g k v) (hk : 0 < k) : PB (k - 1) ≤ v := by
  rw [← h.2.2.2]
  exact NV_top hk h.2.1 (h.2.2.1 hk)
theorem NatOK.zero {g : Int → Int} {k v : Int} (h : NatOK g k v) : k = 0 ↔ v = 0 := by
  constructor
  · intro e; subst e; have := h.2.2.2; rw [NV_0] at this; omega
  · intro e
    have h1 := h.1
    by_cases q : 0 < k
    · have := h.ge q
      have := PB_pos (k - 1)
      omega
    · omega
theorem NV_topz {g : Int → Int} {k : Int} (hk : 0 < k) (h : g (k - 1) = 0) : NV g k = NV g (k - 1) := by
  have e := NV_s (g := g) (show 0 ≤ k - 1 by omega)
  rw [show k - 1 + 1 = k by omega, h] at e
  omega
theorem lgx_in {g : Int → Int} {k j : Int} (h : 0 ≤ j ∧ j < k) : lgx g k j = g j := if_pos h
theorem lgx_out {g : Int → Int} {k j : Int} (h : ¬ (0 ≤ j ∧ j < k)) : lgx g k j = 0 := if_neg h
theorem lgx_bd {g : Int → Int} {k : Int} (H : Dg g k) (j : Int) : 0 ≤ lgx g k j ∧ lgx g k j < 1073741824 := by
  unfold lgx
  split
  · next h => exact H j h.1 h.2
  · omega
theorem NV_lgx {g : Int → Int} {k n : Int} (hk : 0 ≤ k) (hn : k ≤ n) : NV (lgx g k) n = NV g k := by
  have e : n = k + (n - k) := by omega
  rw [e]
  refine z_ind (P := fun q => NV (lgx g k) (k + q) = NV g k) ?_ ?_ (show 0 ≤ n - k by omega)
  · rw [Int.add_zero]; exact NV_congr (fun j h1 h2 => lgx_in ⟨h1, h2⟩)
  · intro q h0 ih
    rw [show k + (q + 1) = k + q + 1 by omega, NV_s (by omega), ih, lgx_out (by omega)]
    omega
/-- above the value all limbs are 0 -/
theorem NV_high {g : Int → Int} {n m : Int} (H : Dg g n) (hm : 0 ≤ m) (h : NV g n < PB m) : ∀ j : Int, m ≤ j → j < n → g j = 0 := by
  intro j h1 h2
  have a := NV_bd (show 0 ≤ j by omega) (Dg_sub H (show j ≤ n by omega))
  have d := H j (by omega) h2
  by_cases q : g j = 0
  · exact q
  · exfalso
    have s : PB j ≤ NV g (j + 1) := by
      have := NV_top (g := g) (k := j + 1) (by omega) (Dg_sub H (by omega)) (by rw [show j + 1 - 1 = j by omega]; exact q)
      rwa [show j + 1 - 1 = j by omega] at this
    have mono : NV g (j + 1) ≤ NV g n := by
      have e : n = j + 1 + (n - (j + 1)) := by omega
      rw [e]
      refine z_ind (P := fun q => q ≤ n - (j + 1) → NV g (j + 1) ≤ NV g (j + 1 + q)) ?_ ?_ (show 0 ≤ n - (j + 1) by omega) (by omega)
      · intro _; rw [Int.add_zero]; omega
      · intro q h0 ih hq
        have i1 := ih (by omega)
        rw [show j + 1 + (q + 1) = j + 1 + q + 1 by omega, NV_s (k := j + 1 + q) (by omega)]
        have d2 := H (j + 1 + q) (by omega) (by omega)
        have := Int.mul_nonneg d2.1 (show 0 ≤ PB (j + 1 + q) by have := PB_pos (j + 1 + q); omega)
        omega
    have := PB_mono h1
    omega
/-- two rows of the same length with the same value have the same limbs -/
theorem NV_uniq {g h : Int → Int} {n : Int} (hn : 0 ≤ n) (H : Dg g n) (H' : Dg h n) (e : NV g n = NV h n) : ∀ j : Int, 0 ≤ j → j < n → g j = h j := by
  refine z_ind (P := fun n => Dg g n → Dg h n → NV g n = NV h n → ∀ j : Int, 0 ≤ j → j < n → g j = h j) ?_ ?_ hn H H' e
  · intro _ _ _ j h1 h2; omega
  · intro n h0 ih H H' e j h1 h2
    rw [NV_s h0, NV_s h0] at e
    have a := NV_bd h0 (Dg_sub H (show n ≤ n + 1 by omega))
    have b := NV_bd h0 (Dg_sub H' (show n ≤ n + 1 by omega))
    have d1 := H n h0 (by omega)
    have d2 := H' n h0 (by omega)
    have p := PB_pos n
    have top : g n = h n := by
      rcases Int.lt_trichotomy (g n) (h n) with q | q | q
      · have := Int.mul_le_mul_of_nonneg_right (show g n + 1 ≤ h n by omega) (show 0 ≤ PB n by omega)
        rw [Int.add_mul] at this
        omega
      · exact q
      · have := Int.mul_le_mul_of_nonneg_right (show h n + 1 ≤ g n by omega) (show 0 ≤ PB n by omega)
        rw [Int.add_mul] at this
        omega
    by_cases q : j = n
    · rw [q]; exact top
    · exact ih (Dg_sub H (by omega)) (Dg_sub H' (by omega)) (by rw [top] at e; omega) j h1 (by omega)
/-! timesPlus -/
def TPI (g : Int → Int) (k a b : Int) (g' : Int → Int) (i c : Int) : Prop := (0 ≤ i ∧ i ≤ k) ∧ (∀ j : Int, i ≤ j → j < k → g' j = g j) ∧ Dg g' i ∧ (0 ≤ c ∧ c < 1073741824) ∧ NV g' i + c * PB i = NV g i * a + b
theorem TPI_0 {g : Int → Int} {k a b : Int} (hk : 0 ≤ k) (hb : 0 ≤ b ∧ b < 1073741824) : TPI g k a b g 0 b := by
  refine ⟨by omega, fun _ _ _ => rfl, fun j h1 h2 => by omega, hb, ?_⟩
  rw [NV_0, PB_0]; omega
theorem TPI_rng {g g' : Int → Int} {k a b i c : Int} (hg : Dg g k) (ha : 0 ≤ a ∧ a < 1073741824) (h : TPI g k a b g' i c) (hi : i < k) : 0 ≤ c + g' i * a ∧ c + g' i * a ≤ 1152921503533105152 := by
  obtain ⟨h1, h2, h3, h4, h5⟩ := h
  rw [h2 i (by omega) hi]
  have d := hg i h1.1 hi
  have := Int.mul_nonneg d.1 ha.1
  have : g i * a ≤ 1073741823 * 1073741823 := Int.mul_le_mul (by omega) (by omega) ha.1 (by decide)
  omega
theorem NV_up {g : Int → Int} {i v : Int} : NV (upZ g i v) i = NV g i := NV_congr (fun j _ h2 => upZ_n (by omega))
theorem TPI_s {g g' : Int → Int} {k a b i c : Int} (hg : Dg g k) (ha : 0 ≤ a ∧ a < 1073741824) (h : TPI g k a b g' i c) (hi : i < k) : TPI g k a b (upZ g' i ((c + g' i * a) % 1073741824)) (i + 1) ((c + g' i * a) / 1073741824) := by
  have r := TPI_rng hg ha h hi
  obtain ⟨h1, h2, h3, h4, h5⟩ := h
  have e0 := h2 i (by omega) hi
  rw [e0] at r ⊢
  generalize ht : c + g i * a = t at r ⊢
  refine ⟨by omega, fun j q1 q2 => by rw [upZ_n (by omega)]; exact h2 j (by omega) q2, ?_, by omega, ?_⟩
  · intro j q1 q2
    by_cases q : j = i
    · rw [q, upZ_s]; omega
    · rw [upZ_n q]; exact h3 j q1 (by omega)
  · rw [NV_s h1.1, NV_up, upZ_s, NV_s h1.1, PB_s h1.1]
    have e := Int.emod_add_mul_ediv t 1073741824
    generalize t % 1073741824 = r0 at e ⊢
    generalize t / 1073741824 = q0 at e ⊢
    generalize PB i = P at h5 ⊢
    generalize NV g' i = x at h5 ⊢
    generalize NV g i = y at h5 ⊢
    grind
theorem TPI_end {g g' : Int → Int} {k a b c v : Int} (hg : NatOK g k v) (ha : 1 ≤ a ∧ a < 1073741824) (hb : 0 ≤ b) (h : TPI g k a b g' k c) : (c = 0 → NatOK g' k (v * a + b)) ∧ (0 < c → k < 224 → NatOK (upZ g' k c) (k + 1) (v * a + b)) ∧ (v * a + b < PB 224 → 0 < c → k < 224) := by
  obtain ⟨h1, h2, h3, h4, h5⟩ := h
  have gk := hg.1
  rw [hg.2.2.2] at h5
  refine ⟨fun e => ⟨gk, h3, fun hk => ?_, by rw [e] at h5; omega⟩, fun hc hk => ⟨by omega, ?_, fun _ => ?_, ?_⟩, fun hv hc => ?_⟩
  · intro z
    have e1 := NV_topz hk z
    have b1 := NV_bd (show 0 ≤ k - 1 by omega) (Dg_sub h3 (show k - 1 ≤ k by omega))
    have b2 := hg.ge hk
    have b3 := hg.bd
    have := Int.mul_le_mul_of_nonneg_left ha.1 b3.1
    rw [e] at h5
    omega
  · intro j q1 q2
    by_cases q : j = k
    · rw [q, upZ_s]; exact h4
    · rw [upZ_n q]; exact h3 j q1 (by omega)
  · rw [show k + 1 - 1 = k by omega, upZ_s]; omega
  · rw [NV_s gk.1, NV_up, upZ_s]; exact h5
  · by_cases q : k < 224
    · exact q
    · exfalso
      have e : k = 224 := by omega
      have b1 := NV_bd h1.1 h3
      have p := PB_pos 224
      rw [e] at h5 b1
      have := Int.mul_le_mul_of_nonneg_right (show 1 ≤ c by omega) (show 0 ≤ PB 224 by omega)
      omega
/-! a row of limbs made from below with a carry: plus, minusTimes, takeFrom, setProduct -/
def CL (g src : Int → Int) (lo c0 : Int) (g' : Int → Int) (i c : Int) : Prop := (0 ≤ lo ∧ lo ≤ i) ∧ (∀ j : Int, 0 ≤ j → (j < lo ∨ i ≤ j) → g' j = g j) ∧ (∀ j : Int, lo ≤ j → j < i → 0 ≤ g' j ∧ g' j < 1073741824) ∧ NV g' i - NV g lo + c * PB i = NV src i - NV src lo + c0 * PB lo
theorem CL_0 {g src : Int → Int} {lo c0 : Int} (h : 0 ≤ lo) : CL g src lo c0 g lo c0 := ⟨by omega, fun _ _ _ => rfl, fun j h1 h2 => by omega, by omega⟩
theorem CL_s {g src g' : Int → Int} {lo c0 i c : Int} (h : CL g src lo c0 g' i c) : CL g src lo c0 (upZ g' i ((c + src i) % 1073741824)) (i + 1) ((c + src i) / 1073741824) := by
  obtain ⟨h1, h2, h3, h4⟩ := h
  have h0 : 0 ≤ i := by omega
  refine ⟨by omega, fun j q0 q1 => by rw [upZ_n (by omega)]; exact h2 j q0 (by omega), ?_, ?_⟩
  · intro j q1 q2
    by_cases q : j = i
    · rw [q, upZ_s]; omega
    · rw [upZ_n q]; exact h3 j q1 (by omega)
  · rw [NV_s h0, NV_up, upZ_s, NV_s h0, PB_s h0]
    have e := Int.emod_add_mul_ediv (c + src i) 1073741824
    generalize (c + src i) % 1073741824 = r0 at e ⊢
    generalize (c + src i) / 1073741824 = q0 at e ⊢
    generalize PB i = P at h4 ⊢
    generalize PB lo = P0 at h4 ⊢
    generalize NV g' i = x at h4 ⊢
    generalize NV g lo = x0 at h4 ⊢
    generalize NV src i = y at h4 ⊢
    generalize NV src lo = y0 at h4 ⊢
    grind
theorem CL_dg {g src g' : Int → Int} {lo c0 i c : Int} (hg : Dg g lo) (h : CL g src lo c0 g' i c) : Dg g' i := by
  obtain ⟨h1, h2, h3, h4⟩ := h
  intro j q1 q2
  by_cases q : j < lo
  · rw [h2 j q1 (Or.inl q)]; exact hg j q1 q
  · exact h3 j (by omega) q2
/-- a carry behind a row that holds all -/
theorem CL_c0 {x c P v : Int} (hP : 0 < P) (hx : 0 ≤ x ∧ x < P) (hv : 0 ≤ v ∧ v < P) (h : x + c * P = v) : c = 0 := by
  rcases Int.lt_trichotomy c 0 with q | q | q
  · have := Int.mul_le_mul_of_nonneg_right (show c ≤ -1 by omega) (show 0 ≤ P by omega)
    omega
  · exact q
  · have := Int.mul_le_mul_of_nonneg_right (show 1 ≤ c by omega) (show 0 ≤ P by omega)
    omega
theorem NV_add {f h : Int → Int} {k : Int} (hk : 0 ≤ k) : NV (fun j => f j + h j) k = NV f k + NV h k := by
  refine z_ind (P := fun k => NV (fun j => f j + h j) k = NV f k + NV h k) rfl ?_ hk
  intro k h0 ih
  rw [NV_s h0, ih, NV_s h0, NV_s h0]
  grind
theorem NV_sub {f h : Int → Int} {k : Int} (hk : 0 ≤ k) : NV (fun j => f j - h j) k = NV f k - NV h k := by
  refine z_ind (P := fun k => NV (fun j => f j - h j) k = NV f k - NV h k) rfl ?_ hk
  intro k h0 ih
  rw [NV_s h0, ih, NV_s h0, NV_s h0]
  grind
theorem NV_mul {f : Int → Int} {a k : Int} (hk : 0 ≤ k) : NV (fun j => a * f j) k = a * NV f k := by
  refine z_ind (P := fun k => NV (fun j => a * f j) k = a * NV f k) (by show (0 : Int) = a * 0; omega) ?_ hk
  intro k h0 ih
  rw [NV_s h0, ih, NV_s h0]
  grind
theorem NV_low0 {f : Int → Int} {k : Int} (hk : 0 ≤ k) (h : ∀ j : Int, 0 ≤ j → j < k → f j = 0) : NV f k = 0 := by
  rw [NV_congr (h := fun _ => 0) h]
  refine z_ind (P := fun k => NV (fun _ => 0) k = 0) rfl ?_ hk
  intro k h0 ih
  rw [NV_s h0, ih]
  omega
/-- a row moved up -/
theorem NV_mv {f : Int → Int} {u n : Int} (hu : 0 ≤ u) (hn : 0 ≤ n) (hf : ∀ j : Int, j < 0 → f j = 0) : NV (fun j => f (j - u)) (u + n) = PB u * NV f n := by
  refine z_ind (P := fun n => NV (fun j => f (j - u)) (u + n) = PB u * NV f n) ?_ ?_ hn
  · rw [Int.add_zero, NV_0, NV_low0 hu (fun j h1 h2 => hf _ (by omega))]; omega
  · intro n h0 ih
    rw [show u + (n + 1) = u + n + 1 by omega, NV_s (by omega), ih, NV_s h0, PB_add hu h0, show u + n - u = n by omega]
    grind
/-- trim: the length without zeros above -/
theorem NatOK_of {g : Int → Int} {n k v : Int} (hn : n ≤ 224) (H : Dg g n) (hk : 0 ≤ k ∧ k ≤ n) (hz : ∀ j : Int, k ≤ j → j < n → g j = 0) (ht : 0 < k → g (k - 1) ≠ 0) (hv : NV g n = v) : NatOK g k v := by
  refine ⟨by omega, Dg_sub H hk.2, ht, ?_⟩
  rw [← hv]
  have e : n = k + (n - k) := by omega
  rw [e]
  refine (z_ind (P := fun q => q ≤ n - k → NV g (k + q) = NV g k) ?_ ?_ (show 0 ≤ n - k by omega) (by omega)).symm
  · intro _; rw [Int.add_zero]
  · intro q h0 ih hq
    rw [show k + (q + 1) = k + q + 1 by omega, NV_s (by omega), ih (by omega), hz (k + q) (by omega) (by omega)]
    omega
/-- the first limb from above that differs decides -/
theorem NV_cmp {g h : Int → Int} {n i : Int} (H : Dg g n) (H' : Dg h n) (hi : 0 ≤ i ∧ i < n) (he : ∀ j : Int, i < j → j < n → g j = h j) (hl : g i < h i) : NV g n < NV h n := by
  have base : NV g (i + 1) < NV h (i + 1) := by
    rw [NV_s hi.1, NV_s hi.1]
    have a := NV_bd hi.1 (Dg_sub H (show i ≤ n by omega))
    have b := NV_bd hi.1 (Dg_sub H' (show i ≤ n by omega))
    have := Int.mul_le_mul_of_nonneg_right (show g i + 1 ≤ h i by omega) (show 0 ≤ PB i by have := PB_pos i; omega)
    rw [Int.add_mul] at this
    omega
  have e : n = i + 1 + (n - (i + 1)) := by omega
  rw [e]
  refine z_ind (P := fun q => q ≤ n - (i + 1) → NV g (i + 1 + q) < NV h (i + 1 + q)) ?_ ?_ (show 0 ≤ n - (i + 1) by omega) (by omega)
  · intro _; rw [Int.add_zero]; exact base
  · intro q h0 ih hq
    have i1 := ih (by omega)
    rw [show i + 1 + (q + 1) = i + 1 + q + 1 by omega, NV_s (by omega), NV_s (by omega), he (i + 1 + q) (by omega) (by omega)]
    omega
/-! powers of 2 -/
def P2 (k : Int) : Int := 2 ^ k.toNat
theorem P2_pos (k : Int) : 0 < P2 k := Int.pow_pos (by decide)
theorem P2_0 : P2 0 = 1 := rfl
theorem P2_s {k : Int} (h : 0 ≤ k) : P2 (k + 1) = P2 k * 2 := by
  unfold P2
  rw [show (k + 1).toNat = k.toNat + 1 by omega, Int.pow_succ]
theorem P2_add {a b : Int} (ha : 0 ≤ a) (hb : 0 ≤ b) : P2 (a + b) = P2 a * P2 b := by
  unfold P2
  rw [show (a + b).toNat = a.toNat + b.toNat by omega, Int.pow_add]
theorem P2_mono {a b : Int} (h : a ≤ b) : P2 a ≤ P2 b := by
  by_cases h0 : 0 ≤ a
  · have e := P2_add h0 (show 0 ≤ b - a by omega)
    rw [show a + (b - a) = b by omega] at e
    have p1 := P2_pos a; have p2 := P2_pos (b - a)
    rw [e]
    have := Int.mul_le_mul_of_nonneg_left (show 1 ≤ P2 (b - a) by omega) (show 0 ≤ P2 a by omega)
    omega
  · have : P2 a = 1 := by unfold P2; rw [show a.toNat = 0 by omega]; rfl
    have := P2_pos b
    omega
theorem P2_lt {a b : Int} (h0 : 0 ≤ a) (h : a < b) : P2 a < P2 b := by
  have h1 := P2_mono (show a + 1 ≤ b by omega)
  rw [P2_s h0] at h1
  have := P2_pos a
  omega
theorem P2_30 : P2 30 = 1073741824 := by decide +kernel
theorem PB_P2 {k : Int} (hk : 0 ≤ k) : PB k = P2 (30 * k) := by
  refine z_ind (P := fun k => PB k = P2 (30 * k)) rfl ?_ hk
  intro k h0 ih
  rw [PB_s h0, ih, show 30 * (k + 1) = 30 * k + 30 by omega, P2_add (by omega) (by omega), P2_30]
/-- how many bits -/
def BL (v r : Int) : Prop := (v = 0 ∧ r = 0) ∨ (0 < v ∧ 1 ≤ r ∧ P2 (r - 1) ≤ v ∧ v < P2 r)
theorem BL_uniq {v r q : Int} (h : BL v r) (h' : BL v q) : r = q := by
  rcases h with ⟨a1, a2⟩ | ⟨a1, a2, a3, a4⟩ <;> rcases h' with ⟨b1, b2⟩ | ⟨b1, b2, b3, b4⟩
  · omega
  · omega
  · omega
  · rcases Int.lt_trichotomy r q with z | z | z
    · have := P2_mono (show r ≤ q - 1 by omega); omega
    · exact z
    · have := P2_mono (show q ≤ r - 1 by omega); omega
/-! shiftLeft: the new limb at place i -/
def sdg (g : Int → Int) (k w p : Int) (i : Int) : Int := (lgx g k (i - w) * P2 p + lgx g k (i - w - 1) / P2 (30 - p)) % 1073741824
theorem sd_q {x p : Int} (hp : 0 ≤ p ∧ p < 30) (hx : 0 ≤ x) : x * P2 p / 1073741824 = x / P2 (30 - p) := by
  have e : (1073741824 : Int) = P2 (30 - p) * P2 p := by
    rw [← P2_add (by omega) (by omega), show 30 - p + p = 30 by omega, P2_30]
  have p1 := P2_pos p
  rw [e, Int.mul_ediv_mul_of_pos_left _ _ p1]
theorem sd_small {x p : Int} (hp : 0 ≤ p ∧ p < 30) (hx : 0 ≤ x ∧ x < 1073741824) : 0 ≤ x / P2 (30 - p) ∧ x / P2 (30 - p) < P2 p := by
  have e : (1073741824 : Int) = P2 p * P2 (30 - p) := by
    rw [← P2_add (by omega) (by omega), show p + (30 - p) = 30 by omega, P2_30]
  have p1 := P2_pos (30 - p)
  refine ⟨Int.ediv_nonneg hx.1 (by omega), Int.ediv_lt_of_lt_mul p1 ?_⟩
  rw [← e]; exact hx.2
theorem sd_eq {g : Int → Int} {k w p i : Int} (hp : 0 ≤ p ∧ p < 30) (H : Dg g k) : sdg g k w p i = lgx g k (i - w) * P2 p - lgx g k (i - w) / P2 (30 - p) * 1073741824 + lgx g k (i - w - 1) / P2 (30 - p) := by
  unfold sdg
  have b1 := lgx_bd H (i - w)
  have b2 := lgx_bd H (i - w - 1)
  have s1 := sd_small hp b2
  generalize lgx g k (i - w) = x at b1 ⊢
  generalize lgx g k (i - w - 1) / P2 (30 - p) = y at s1 ⊢
  have q := sd_q hp b1.1
  -- x * 2^p = q * B + r, r a multiple of 2^p below B
  have e := Int.emod_add_mul_ediv (x * P2 p) 1073741824
  have em : (x * P2 p) % 1073741824 = x % P2 (30 - p) * P2 p := by
    have e2 : (1073741824 : Int) = P2 (30 - p) * P2 p := by
      rw [← P2_add (by omega) (by omega), show 30 - p + p = 30 by omega, P2_30]
    rw [e2, Int.mul_comm x, Int.mul_comm (P2 (30 - p)), Int.mul_emod_mul_of_pos _ _ (P2_pos p), Int.mul_comm]
  have r1 := Int.emod_nonneg x (show P2 (30 - p) ≠ 0 by have := P2_pos (30 - p); omega)
  have r2 := Int.emod_lt_of_pos x (P2_pos (30 - p))
  have r3 : x % P2 (30 - p) * P2 p ≤ (P2 (30 - p) - 1) * P2 p := Int.mul_le_mul_of_nonneg_right (by omega) (by have := P2_pos p; omega)
  have r4 : 0 ≤ x % P2 (30 - p) * P2 p := Int.mul_nonneg r1 (by have := P2_pos p; omega)
  have e3 : P2 (30 - p) * P2 p = 1073741824 := by rw [← P2_add (by omega) (by omega), show 30 - p + p = 30 by omega, P2_30]
  rw [Int.sub_mul, e3] at r3
  rw [q, em] at e
  generalize x % P2 (30 - p) * P2 p = r at e r3 r4
  generalize x / P2 (30 - p) = d at e ⊢
  generalize x * P2 p = z at e ⊢
  omega
theorem NV_sd {g : Int → Int} {k w p : Int} (hp : 0 ≤ p ∧ p < 30) (hw : 0 ≤ w) (H : Dg g k) {n : Int} (hn : 0 ≤ n) : NV (sdg g k w p) (w + n) = P2 p * (PB w * NV (lgx g k) n) - lgx g k (n - 1) / P2 (30 - p) * PB (w + n) := by
  refine z_ind (P := fun n => NV (sdg g k w p) (w + n) = P2 p * (PB w * NV (lgx g k) n) - lgx g k (n - 1) / P2 (30 - p) * PB (w + n)) ?_ ?_ hn
  · rw [Int.add_zero, NV_0, lgx_out (by omega), NV_low0 hw (fun j h1 h2 => ?_)]
    · simp
    · rw [sd_eq hp H, lgx_out (by omega), lgx_out (by omega)]; simp
  · intro n h0 ih
    rw [show w + (n + 1) = w + n + 1 by omega, NV_s (by omega), ih, sd_eq hp H, show w + n - w = n by omega, show n + 1 - 1 = n by omega, NV_s h0, PB_s (by omega), PB_add hw h0]
    grind
theorem sdg_bd {g : Int → Int} {k w p : Int} (i : Int) : 0 ≤ sdg g k w p i ∧ sdg g k w p i < 1073741824 := by
  unfold sdg; omega
