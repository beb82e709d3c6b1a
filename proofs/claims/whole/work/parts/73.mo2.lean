/-! the reference's decimals -/
theorem cmp_T1 {r k m p : Int} (h : Cmp3 r (sv false (1 * T10 k) * 1 * P2 (0 - p)) (sv false m * (1 * T10 (-k)) * P2 (p - 0))) : (-1 ≤ r ∧ r ≤ 1) ∧ (r ≤ 0 ↔ 1 * TD p k ≤ TN m p k) ∧ (r < 0 ↔ 1 * TD p k < TN m p k) := by
  refine cmp_TT h ?_ ?_
  · show 1 * T10 k * 1 * P2 (0 - p) = _
    rw [Int.zero_sub, Int.mul_one]
  · show m * (1 * T10 (-k)) * P2 (p - 0) = _
    rw [Int.sub_zero, Int.one_mul]
theorem cmp_T2 {r k m p M : Int} (h : Cmp3 r (sv (false != false) (M * (1 * T10 k)) * 1 * P2 (0 + 0 - p)) (sv false m * (1 * (1 * T10 (-k))) * P2 (p - (0 + 0)))) : (-1 ≤ r ∧ r ≤ 1) ∧ (r ≤ 0 ↔ M * TD p k ≤ TN m p k) ∧ (r < 0 ↔ M * TD p k < TN m p k) := by
  refine cmp_TT h ?_ ?_
  · show M * (1 * T10 k) * 1 * P2 (0 + 0 - p) = _
    rw [show 0 + 0 - p = -p by omega, Int.mul_one, Int.one_mul]
  · show m * (1 * (1 * T10 (-k))) * P2 (p - (0 + 0)) = _
    rw [show p - (0 + 0) = p by omega, Int.one_mul, Int.one_mul]
theorem QB72 : QB 72 = P2 1152 := by rw [QB_P2 (by decide)]; rfl
theorem T10_k {g : Int → Int} {k x : Int} (hx : x ≤ 345) (h : BigOK g k (1 * T10 x)) : k ≤ 72 := by
  refine Big_k h (by decide) ?_
  have := T10_P2 hx
  rw [QB72, Int.one_mul]
  have := P2_lt (show (0 : Int) ≤ 1150 by decide) (show (1150 : Int) < 1152 by decide)
  omega
theorem T10_fit {x : Int} (hx : x ≤ 345) : 1 * T10 x < QB 640 := by
  have := T10_P2 hx
  rw [QB640, Int.one_mul]
  have := P2_lt (show (0 : Int) ≤ 1150 by decide) (show (1150 : Int) < 10240 by decide)
  omega
theorem tn_z {v k x : Int} (h0 : 0 ≤ k) (h : (k ≤ x ∨ (x < 0 ∧ k = 0))) (h2 : x ≤ k) : v * T10 k = v * T10 x := by
  by_cases z : x < 0
  · rw [T10_n (show x ≤ 0 by omega), show k = 0 by omega, T10_n (Int.le_refl _)]
  · rw [show k = x by omega]
theorem lo_d {m p E : Int} {d : Nat} (hd : 1 ≤ d) (h1 : 1 * TD p E ≤ TN m p E) (h2 : TN m p (E + 1) < 1 * TD p (E + 1)) : PT10 (d - 1) * TD p (E - d + 1) ≤ TN m p (E - d + 1) ∧ TN m p (E - d + 1) < PT10 d * TD p (E - d + 1) := by
  have a := (lev_j m p (E - d + 1) 1 (d - 1)).1
  have b := (lev_j m p (E - d + 1) 1 d).2
  rw [show E - d + 1 + ((d - 1 : Nat) : Int) = E by omega, Int.mul_one] at a
  rw [show E - d + 1 + (d : Int) = E + 1 by omega, Int.mul_one] at b
  exact ⟨a.mp h1, b.mp h2⟩
theorem dcr_ref {m p N0 E0 N1 : Int} {d : Nat} {aw : Bool} (hd : 1 ≤ d) (h : N0 * TD p (E0 - d + 1) ≤ TN m p (E0 - d + 1) ∧ TN m p (E0 - d + 1) < (N0 + 1) * TD p (E0 - d + 1)) (hr : PT10 (d - 1) ≤ N0 ∧ N0 < PT10 d) (hN : N1 = N0 + (if aw = true ∧ N0 * TD p (E0 - d + 1) < TN m p (E0 - d + 1) then 1 else 0)) :
    (N1 = 10 * PT10 (d - 1) → DCR m p d aw (PT10 (d - 1)) (E0 + 1)) ∧ (N1 ≠ 10 * PT10 (d - 1) → DCR m p d aw N1 E0) ∧ (PT10 (d - 1) ≤ N1 ∧ N1 ≤ PT10 d) := by
  have hs : PT10 d = 10 * PT10 (d - 1) := by rw [← PT10_s, show d - 1 + 1 = d by omega]
  have e : N1 = N0 + (if aw = true ∧ N0 * TD p (E0 - d + 1) ≠ TN m p (E0 - d + 1) then 1 else 0) := by
    rw [hN]; congr 1
    by_cases z : N0 * TD p (E0 - d + 1) < TN m p (E0 - d + 1)
    · have z2 : N0 * TD p (E0 - d + 1) ≠ TN m p (E0 - d + 1) := by omega
      simp only [z, z2, ne_eq, not_false_eq_true, and_true]
    · have z2 : N0 * TD p (E0 - d + 1) = TN m p (E0 - d + 1) := by omega
      simp only [z2, Int.lt_irrefl, ne_eq, not_true_eq_false]
  have r : N0 ≤ N1 ∧ N1 ≤ N0 + 1 := by rw [hN]; split <;> omega
  refine ⟨fun z => ⟨E0, N0, N1, h, hr, e, Or.inl ⟨by omega, rfl, rfl⟩⟩, fun z => ⟨E0, N0, N1, h, hr, e, Or.inr ⟨by omega, rfl, rfl⟩⟩, by omega⟩
theorem DCR_rng {m p num ex : Int} {d : Nat} {aw : Bool} (hd : 1 ≤ d) (h : DCR m p d aw num ex) : PT10 (d - 1) ≤ num ∧ num < PT10 d := by
  obtain ⟨E0, N0, N1, _, h2, h3, h4⟩ := h
  have hs : PT10 d = 10 * PT10 (d - 1) := by rw [← PT10_s, show d - 1 + 1 = d by omega]
  have hp := PT10_pos (d - 1)
  have r : N0 ≤ N1 ∧ N1 ≤ N0 + 1 := by rw [h3]; split <;> omega
  omega
theorem q_10 {x u : Int} (hu : 0 < u) (h : u ≤ x ∧ x < 10 * u) : 1 ≤ x / u ∧ x / u ≤ 9 := by
  have a := Int.le_ediv_iff_mul_le (a := 1) (b := x) hu
  have b := Int.ediv_lt_iff_lt_mul (a := x) (b := 10) hu
  omega
theorem DIG_1 {x : Int} {d : Nat} {L : List Int} (hd : ¬ 1 < d) (h : d ≠ 0) : L ++ DIG x d = L ++ [48 + x / PT10 (d - 1) % 10] ++ gF (d - 1) (PT10 (d - 1) / 10) x := by
  unfold DIG; rw [if_neg hd, List.nil_append, ap_c]
theorem DIG_2 {x : Int} {d : Nat} {L : List Int} (hd : 1 < d) : L ++ DIG x d = L ++ [48 + x / PT10 (d - 1) % 10] ++ [46] ++ gF (d - 1) (PT10 (d - 1) / 10) x := by
  unfold DIG; rw [if_pos hd, ap_c, List.append_assoc, List.append_assoc, List.append_assoc]
/-- the unit of k digits, any k -/
def UG (k : Nat) (u : Int) : Prop := (k = 0 ∧ u = 0) ∨ (1 ≤ k ∧ u = PT10 (k - 1))
theorem UG_0 {d : Nat} (hd : 1 ≤ d) : UG (d - 1) (PT10 (d - 1) / 10) := by
  unfold UG
  by_cases z : d = 1
  · left; subst z; exact ⟨rfl, by decide⟩
  · right; refine ⟨by omega, ?_⟩
    obtain ⟨j, hj⟩ : ∃ j, d - 1 = j + 1 := ⟨d - 2, by omega⟩
    rw [hj, PT10_d]; rfl
theorem UG_s {k : Nat} {u : Int} (h : UG k u) (hu : 0 < u) : ∃ j, k = j + 1 ∧ UG j (u / 10) := by
  unfold UG at h
  rcases h with ⟨_, b⟩ | ⟨a, b⟩
  · omega
  · refine ⟨k - 1, by omega, ?_⟩
    rw [b]; exact UG_0 a
theorem UG_e {k : Nat} {u : Int} (h : UG k u) (hu : ¬ 0 < u) : k = 0 := by
  unfold UG at h
  rcases h with ⟨a, _⟩ | ⟨a, b⟩
  · exact a
  · have := PT10_pos (k - 1); omega
theorem UG_r {k : Nat} {u : Int} (h : UG k u) (hk : k ≤ 18) : 0 ≤ u ∧ u ≤ 1000000000000000000 := by
  unfold UG at h
  rcases h with ⟨a, b⟩ | ⟨a, b⟩
  · omega
  · have := PT10_pos (k - 1)
    have := PT10_mono (show k - 1 ≤ 18 by omega)
    rw [PT10_18] at this
    omega
theorem TM_k {g : Int → Int} {k x M : Int} (hM : 0 ≤ M ∧ M ≤ 1000000000000000000) (hx : x ≤ 345) (h : BigOK g k (M * (1 * T10 x))) : k ≤ 80 := by
  refine Big_k h (by decide) ?_
  have a := T10_P2 hx
  have p := T10_pos x
  have m := mul_lim (x := M) (y := 1 * T10 x) (a := 60) (b := 1150) ⟨hM.1, by have : (1000000000000000000 : Int) ≤ P2 60 := (by decide +kernel); omega⟩ ⟨by omega, by omega⟩ (by decide) (by decide)
  rw [QB_P2 (by decide)]
  have := P2_lt (show (0 : Int) ≤ 60 + 1150 by decide) (show (60 + 1150 : Int) < 16 * 80 by decide)
  omega
theorem TQ_k {g : Int → Int} {k x : Int} (hx : x ≤ 345) (h : BigOK g k (1 * (1 * T10 x))) : k ≤ 72 := by
  rw [Int.one_mul (1 * T10 x)] at h; exact T10_k hx h
