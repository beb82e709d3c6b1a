/-! rows and rows of thought for Big -/
section BigRows
variable {p : Program} {l : Launch} {e : Env} {R : Room} {s : State} {m : MethodId} {args : Array Value} {below : List Frame} {meth : Method} {c : Code} {H : Heap} {locs : List Loc} {cells slots : Nat} {Q : State → Prop} {cc : ByteArray} {pc : Nat} {ls : Array Slot} {rest : List Value}
theorem lI_ushr {a : Int} (n : Nat) (ha : 0 ≤ a ∧ a < 9223372036854775808) (hn : n < 64) : ((lI a).toUInt64 >>> ((iI (n : Int)).toInt64.toUInt64 &&& Int64.toUInt64 63)).toInt64 = lI (a / 2 ^ n) := by
  have h := Jvm.Kit.i64_lushr (x := lI a) (by rw [lI_zero, lI_le (by omega) (by omega)]; exact ha.1) (sh_u n hn) hn
  rw [lI_toInt (by omega)] at h
  rw [← lI_back ((lI a).toUInt64 >>> ((iI (n : Int)).toInt64.toUInt64 &&& Int64.toUInt64 63)).toInt64, h]
theorem wi_lushr (hx : p.tables.exec = Jvm.exec) (hb : c.code = cc) {x y : Int} (n : Nat) (M : Int) (hM : (2 : Int) ^ n = M) (hy : y = (n : Int)) (hn : n < 64) (hx1 : 0 ≤ x ∧ x < 9223372036854775808) (hd : decode cc pc = .ok (.lushr, 1)) (k : W p l e R s m args below meth c H locs cells slots Q (F0 m (pc + 1) ls (.long (lI (x / M)) :: rest))) : W p l e R s m args below meth c H locs cells slots Q (F0 m pc ls (.int (iI y) :: .long (lI x) :: rest)) := by
  subst hy; subst hM
  exact lv_lushr hx hb hd (lI_ushr n hx1 hn) k
end BigRows
theorem P2_16 : P2 16 = 65536 := by decide +kernel
theorem QB_P2 {k : Int} (hk : 0 ≤ k) : QB k = P2 (16 * k) := by
  refine z_ind (P := fun k => QB k = P2 (16 * k)) rfl ?_ hk
  intro k h0 ih
  rw [QB_s h0, ih, show 16 * (k + 1) = 16 * k + 16 by omega, P2_add (by omega) (by omega), P2_16]
theorem bb_end {g : Int → Int} {k v u : Int} (hN : BigOK g k v) (hk : 0 < k) (hu : 0 ≤ u ∧ u ≤ 16) (ht : u = 0 ∨ P2 (u - 1) ≤ g (k - 1)) (hx : g (k - 1) < P2 u) : BL v (16 * (k - 1) + u) := by
  have hz := hN.2.2.1 hk
  have d := hN.2.1 (k - 1) (by omega) (by omega)
  have hu1 : 1 ≤ u := by
    rcases Int.lt_or_le u 1 with q | q
    · have : u = 0 := by omega
      rw [this, P2_0] at hx
      omega
    · exact q
  have ht : P2 (u - 1) ≤ g (k - 1) := by
    rcases ht with q | q
    · omega
    · exact q
  have e := MV_s (g := g) (show 0 ≤ k - 1 by omega)
  rw [show k - 1 + 1 = k by omega, hN.2.2.2] at e
  have b := MV_bd (show 0 ≤ k - 1 by omega) (Eg_sub hN.2.1 (show k - 1 ≤ k by omega))
  have p := QB_pos (k - 1)
  have e1 : P2 (16 * (k - 1) + u - 1) = P2 (u - 1) * QB (k - 1) := by
    rw [QB_P2 (by omega), ← P2_add (by omega) (by omega)]; congr 1; omega
  have e2 : P2 (16 * (k - 1) + u) = P2 u * QB (k - 1) := by
    rw [QB_P2 (by omega), ← P2_add (by omega) (by omega)]; congr 1; omega
  have m1 := Int.mul_le_mul_of_nonneg_right ht (show 0 ≤ QB (k - 1) by omega)
  have m2 := Int.mul_le_mul_of_nonneg_right (show g (k - 1) + 1 ≤ P2 u by omega) (show 0 ≤ QB (k - 1) by omega)
  rw [Int.add_mul] at m2
  have m3 := Int.mul_pos (P2_pos (u - 1)) p
  refine Or.inr ⟨by omega, by omega, by rw [e1]; omega, by rw [e2]; omega⟩
/-- behind grow's first loop -/
def GRE (g : Int → Int) (k cy w : Int) : Prop := (0 ≤ cy ∧ cy < 65536) ∧ (cy = 0 → BigOK g k w) ∧ (0 < cy → (0 ≤ k ∧ k < 640) ∧ BigOK (upZ g k cy) (k + 1) w)
theorem GRE_of {g g' : Int → Int} {k a b c v : Int} (hg : BigOK g k v) (ha : 1 ≤ a ∧ a < 65536) (hb : 0 ≤ b) (h : GRI g k a b g' k c) (hf : v * a + b < QB 640) : GRE g' k c (v * a + b) := by
  obtain ⟨h1, h2, h3⟩ := GRI_end hg ha hb h
  exact ⟨h.2.2.2.1, h1, fun z => ⟨⟨hg.k.1, h3 hf z⟩, h2 z (h3 hf z)⟩⟩
theorem GRE_s {g : Int → Int} {k cy w : Int} (h : GRE g k cy w) (hc : 0 < cy) : GRE (upZ g k (cy % 65536)) (k + 1) (cy / 65536) w := by
  obtain ⟨h1, h2, h3⟩ := h
  rw [show cy % 65536 = cy by omega, show cy / 65536 = 0 by omega]
  exact ⟨by omega, fun _ => (h3 hc).2, fun z => by omega⟩
theorem bc_size {g g2 : Int → Int} {k k2 v w : Int} (hN : BigOK g k v) (hM : BigOK g2 k2 w) (h : k ≠ k2) : (k < k2 → v < w) ∧ (k2 < k → w < v) := by
  have hk := hN.k; have hk2 := hM.k; have b1 := hN.bd; have b2 := hM.bd
  refine ⟨fun q => ?_, fun q => ?_⟩
  · have := hM.ge (by omega)
    have := QB_mono (show k ≤ k2 - 1 by omega)
    omega
  · have := hN.ge (by omega)
    have := QB_mono (show k2 ≤ k - 1 by omega)
    omega
theorem bc_limb {g g2 : Int → Int} {k k2 v w i : Int} (hN : BigOK g k v) (hM : BigOK g2 k2 w) (hk : k = k2) (hi : 0 ≤ i ∧ i < k) (he : ∀ j : Int, i < j → j < k → g j = g2 j) : (g i < g2 i → v < w) ∧ (g2 i < g i → w < v) := by
  subst hk
  have e1 := hN.2.2.2; have e2 := hM.2.2.2
  rw [← e1, ← e2]
  exact ⟨fun q => MV_cmp hN.2.1 hM.2.1 hi he q, fun q => MV_cmp hM.2.1 hN.2.1 hi (fun j h1 h2 => (he j h1 h2).symm) q⟩
theorem bc_same {g g2 : Int → Int} {k k2 v w : Int} (hN : BigOK g k v) (hM : BigOK g2 k2 w) (hk : k = k2) (he : ∀ j : Int, 0 ≤ j → j < k → g j = g2 j) : v = w := by
  subst hk
  rw [← hN.2.2.2, ← hM.2.2.2]; exact MV_congr he
/-- -1, 0, 1 -/
def Cmp3 (r v w : Int) : Prop := (r = -1 ∧ v < w) ∨ (r = 0 ∧ v = w) ∨ (r = 1 ∧ w < v)
theorem b_one {g : Int → Int} {k v : Int} (hN : BigOK g k v) : (k = 1 ∧ g 0 = 1) ↔ v = 1 := by
  have hk := hN.k
  constructor
  · intro ⟨h1, h2⟩
    have e := hN.2.2.2
    rw [h1, show (1 : Int) = 0 + 1 by omega, MV_s (Int.le_refl _), MV_0, QB_0, h2] at e
    omega
  · intro h
    have k0 : k ≠ 0 := fun z => by have := hN.zero.mp z; omega
    have k1 : k = 1 := by
      rcases Int.lt_or_le 1 k with q | q
      · have := hN.ge (by omega)
        have := QB_lt (show (0 : Int) ≤ 0 by omega) (show 0 < k - 1 by omega)
        rw [QB_0] at this
        omega
      · omega
    refine ⟨k1, ?_⟩
    have e := hN.2.2.2
    rw [k1, show (1 : Int) = 0 + 1 by omega, MV_s (Int.le_refl _), MV_0, QB_0, h] at e
    omega
