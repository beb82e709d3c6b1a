/-! bisection's steps -/
theorem DNI_0 {v b e : Int} {n : Bool} (hv : 0 ≤ v) (h : 0 ≤ sgnR n v) : DNI 0 9218868437227405312 v b e n := by
  refine ⟨?_, Or.inl ⟨rfl, Int.le_refl _⟩⟩
  rw [show SO 0 = 0 from rfl, Int.zero_mul]
  rcases sgnR_cases hv (n := n) with ⟨a, b'⟩ | ⟨a, b', c'⟩ | ⟨a, b', c'⟩
  · rw [b', QN_0, sv_0]; exact Int.le_refl _
  · rw [c']; have := QN_pos (e := e) b'; show 0 ≤ QN v e; omega
  · omega
theorem DNI_n {v b e r : Int} {n : Bool} (hv : 0 ≤ v) (h : sgnR n v < 0) (hc : Cmp3 r (SO (-9218868437227405311) * QD b e) (sv n (QN v e))) (hr : r ≤ 0) : DNI (-9218868437227405311) 0 v b e n := by
  refine ⟨by unfold Cmp3 at hc; omega, Or.inr ?_⟩
  rw [show SO 0 = 0 from rfl, Int.zero_mul]
  rcases sgnR_cases hv (n := n) with ⟨a, b'⟩ | ⟨a, b', c'⟩ | ⟨a, b', c'⟩
  · omega
  · omega
  · rw [c']; have := QN_pos (e := e) b'; show -QN v e < 0; omega
theorem DNI_lo {lo hi md v b e r : Int} {n : Bool} (h : DNI lo hi v b e n) (hm : lo ≤ md) (hc : Cmp3 r (SO md * QD b e) (sv n (QN v e))) (hr : r ≤ 0) : DNI md hi v b e n := by
  refine ⟨by unfold Cmp3 at hc; omega, ?_⟩
  rcases h.2 with z | z
  · exact Or.inl ⟨z.1, by omega⟩
  · exact Or.inr z
theorem DNI_hi {lo hi md v b e r : Int} {n : Bool} (h : DNI lo hi v b e n) (hc : Cmp3 r (SO md * QD b e) (sv n (QN v e))) (hr : 0 < r) : DNI lo md v b e n :=
  ⟨h.1, Or.inr (by unfold Cmp3 at hc; omega)⟩
theorem fOf_rng {lo : Int} (h : -9218868437227405311 ≤ lo ∧ lo ≤ 9218868437227405312) : -9223372036854775808 ≤ fOf lo ∧ fOf lo < 9223372036854775808 := by
  unfold fOf; split <;> omega
theorem fl_of (md : Int) : ∃ N : Int, N = (if md < 0 then -md else md) ∧ ((decide (md < 0) = true ∧ fOf md = N - 9223372036854775808) ∨ (decide (md < 0) = false ∧ fOf md = N)) ∧ sv (decide (md < 0)) (FV N) = SO md := by
  refine ⟨_, rfl, ?_, ?_⟩
  · unfold fOf
    by_cases z : md < 0
    · exact Or.inl ⟨decide_eq_true z, by rw [if_pos z, if_pos z]⟩
    · exact Or.inr ⟨decide_eq_false z, by rw [if_neg z, if_neg z]⟩
  · rw [SO_sv]
theorem QB4 : QB 4 = 18446744073709551616 := by decide +kernel
theorem fl_sz {N pk qk : Int} {pg qg : Int → Int} (hN : 0 ≤ N ∧ N < 9223372036854775808) (hP : BigOK pg pk (FM N)) (hQ : BigOK qg qk 1) : (-1074 ≤ FE N ∧ FE N ≤ 1000) ∧ pk ≤ 4 ∧ qk ≤ 1 := by
  have f := FE_rng hN
  refine ⟨f.1, Big_k hP (by decide) (by rw [QB4]; omega), Big_k hQ (by decide) (by decide +kernel)⟩
theorem mnF_rng {f : Int} (h : -9223372036854775808 ≤ f ∧ f < 9223372036854775808) : -9223372036854775808 ≤ mnF f ∧ mnF f < 9223372036854775808 := by
  unfold mnF flip63; split <;> (try split) <;> omega
