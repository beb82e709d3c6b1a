/-! sums of reference numbers -/
theorem sv_sub2 {n m : Bool} {v w : Int} (h : n ≠ m) : sv n (v - w) = sv n v + sv m w := by
  unfold sv
  cases n <;> cases m <;> simp at h ⊢ <;> omega
theorem sv_mul {n : Bool} {v w : Int} : sv n (v * w) = sv n v * w := by
  unfold sv
  cases n
  · simp
  · simp [Int.neg_mul]
theorem sv_0 (n : Bool) : sv n 0 = 0 := by unfold sv; cases n <;> simp
theorem np_c {v1 v2 e1 e2 v3 : Int} {b1 b2 b3 : Bool} (he1 : e1 = 0) (he2 : e2 = 0 ∨ e2 = -1) (h : sv b3 v3 = sv b1 (v1 * P2 (e1 - e2)) + sv b2 (v2 * P2 (e2 - e2))) : sv b3 v3 * P2 (e2 + 1) = sv b1 v1 * 2 + sv b2 v2 * P2 (e2 + 1) := by
  rw [h, sv_mul, sv_mul, show e2 - e2 = 0 by omega, P2_0, Int.mul_one, Int.add_mul, Int.mul_assoc]
  congr 2
  subst he1
  rcases he2 with z | z <;> subst z <;> rfl
theorem np_s {v1 v2 e1 e2 : Int} (hv1 : 0 ≤ v1) (hv2 : 0 ≤ v2) (he1 : e1 = 0) (he2 : e2 = 0 ∨ e2 = -1) (h : v1 * 2 + v2 < QB 640) : v1 * P2 (e1 - e2) < QB 640 ∧ v2 * P2 (e2 - e2) < QB 640 ∧ v1 * P2 (e1 - e2) + v2 * P2 (e2 - e2) < QB 640 := by
  have e : P2 (e2 - e2) = 1 := by rw [show e2 - e2 = 0 by omega]; rfl
  rw [e, Int.mul_one]
  subst he1
  rcases he2 with z | z <;> subst z
  · have e1 : P2 (0 - 0) = 1 := rfl
    rw [e1]; omega
  · have e1 : P2 (0 - -1) = 2 := rfl
    rw [e1]; omega
