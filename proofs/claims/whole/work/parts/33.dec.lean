/-! DECIMALS: m * 2 ^ p told with d digits -/
def TN (m p k : Int) : Int := m * (P2 p * (P5 (-k) * P2 (-k)))
def TD (p k : Int) : Int := P2 (-p) * (P5 k * P2 k)
theorem TD_pos (p k : Int) : 0 < TD p k := Int.mul_pos (P2_pos _) (Int.mul_pos (P5_pos _) (P2_pos _))
theorem tt_s {k : Int} (h : 0 ≤ k) : P5 (k + 1) * P2 (k + 1) = 10 * (P5 k * P2 k) := by
  rw [P5_add h (by omega), P2_add h (by omega), show P5 1 = 5 from rfl, show P2 1 = 2 from rfl]; grind
theorem tt_n {k : Int} (h : k ≤ 0) : P5 k * P2 k = 1 := by rw [P5_0 h, P2_neg h]; rfl
theorem lev_s (m p k N : Int) : (N * TD p (k + 1) ≤ TN m p (k + 1) ↔ (10 * N) * TD p k ≤ TN m p k) ∧ (N * TD p (k + 1) < TN m p (k + 1) ↔ (10 * N) * TD p k < TN m p k) ∧ (TN m p (k + 1) < N * TD p (k + 1) ↔ TN m p k < (10 * N) * TD p k) := by
  unfold TN TD
  rcases Int.lt_or_le k 0 with h | h
  · rw [tt_n (show k + 1 ≤ 0 by omega), tt_n (show k ≤ 0 by omega)]
    have e := tt_s (show 0 ≤ -(k + 1) by omega)
    rw [show -(k + 1) + 1 = -k by omega] at e
    rw [e]
    generalize P5 (-(k + 1)) * P2 (-(k + 1)) = z
    have e1 : m * (P2 p * (10 * z)) = 10 * (m * (P2 p * z)) := by grind
    have e2 : 10 * N * (P2 (-p) * 1) = 10 * (N * (P2 (-p) * 1)) := by grind
    rw [e1, e2]; omega
  · rw [tt_n (show -(k + 1) ≤ 0 by omega), tt_n (show -k ≤ 0 by omega), tt_s h]
    have e2 : N * (P2 (-p) * (10 * (P5 k * P2 k))) = 10 * N * (P2 (-p) * (P5 k * P2 k)) := by grind
    rw [e2]; omega
theorem lev_j (m p k N : Int) : ∀ j : Nat, (N * TD p (k + j) ≤ TN m p (k + j) ↔ (PT10 j * N) * TD p k ≤ TN m p k) ∧ (TN m p (k + j) < N * TD p (k + j) ↔ TN m p k < (PT10 j * N) * TD p k)
  | 0 => by rw [show k + ((0 : Nat) : Int) = k by omega, show PT10 0 = 1 from rfl, Int.one_mul]; exact ⟨Iff.rfl, Iff.rfl⟩
  | j + 1 => by
    have a := lev_s m p (k + j) N
    have b := lev_j m p k (10 * N) j
    rw [show k + ((j + 1 : Nat) : Int) = k + j + 1 by omega, PT10_s, show 10 * PT10 j * N = PT10 j * (10 * N) by grind]
    exact ⟨a.1.trans b.1, a.2.2.trans b.2⟩
theorem lev_mono {m p k N : Int} (hN : 0 ≤ N) : ∀ j : Nat, N * TD p (k + j) ≤ TN m p (k + j) → N * TD p k ≤ TN m p k := by
  intro j h
  have a := (lev_j m p k N j).1.mp h
  have q := PT10_mono (Nat.zero_le j)
  rw [show PT10 0 = 1 from rfl] at q
  have b := Int.mul_le_mul_of_nonneg_right (Int.mul_le_mul_of_nonneg_right q hN) (show 0 ≤ TD p k by have := TD_pos p k; omega)
  rw [Int.one_mul] at b
  omega
/-- the number and the exponent of 10 that are written -/
def DCR (m p : Int) (d : Nat) (aw : Bool) (num ex : Int) : Prop :=
  ∃ E0 N0 N1 : Int, (N0 * TD p (E0 - d + 1) ≤ TN m p (E0 - d + 1) ∧ TN m p (E0 - d + 1) < (N0 + 1) * TD p (E0 - d + 1)) ∧ (PT10 (d - 1) ≤ N0 ∧ N0 < PT10 d) ∧
    N1 = N0 + (if aw = true ∧ N0 * TD p (E0 - d + 1) ≠ TN m p (E0 - d + 1) then 1 else 0) ∧ ((N1 = PT10 d ∧ num = PT10 (d - 1) ∧ ex = E0 + 1) ∨ (N1 ≠ PT10 d ∧ num = N1 ∧ ex = E0))
theorem fl_u {N M T D : Int} (hD : 0 < D) (h1 : N * D ≤ T) (h2 : T < (M + 1) * D) : N ≤ M := by
  have := Int.lt_of_mul_lt_mul_right (show N * D < (M + 1) * D by omega) (by omega)
  omega
theorem dc_E {m p E E' : Int} {d : Nat} (hd : 1 ≤ d) (h1 : PT10 (d - 1) * TD p (E' - d + 1) ≤ TN m p (E' - d + 1)) (h2 : TN m p (E - d + 1) < PT10 d * TD p (E - d + 1)) : E' ≤ E := by
  rcases Int.lt_or_le E E' with h | h
  · exfalso
    obtain ⟨j, hj⟩ : ∃ j : Nat, E' - d + 1 = E - d + 1 + 1 + j := ⟨(E' - E - 1).toNat, by omega⟩
    rw [hj] at h1
    have a := lev_mono (by have := PT10_pos (d - 1); omega) j h1
    have b := (lev_s m p (E - d + 1) (PT10 (d - 1))).1.mp a
    rw [← PT10_s, show d - 1 + 1 = d by omega] at b
    omega
  · exact h
theorem DCR_u {m p num ex num' ex' : Int} {d : Nat} {aw : Bool} (hd : 1 ≤ d) (h : DCR m p d aw num ex) (h' : DCR m p d aw num' ex') : num = num' ∧ ex = ex' := by
  obtain ⟨E, N, N1, ⟨a1, a2⟩, ⟨a3, a4⟩, a5, a6⟩ := h
  obtain ⟨E', N', N1', ⟨b1, b2⟩, ⟨b3, b4⟩, b5, b6⟩ := h'
  have lo : ∀ E N : Int, N * TD p (E - d + 1) ≤ TN m p (E - d + 1) → PT10 (d - 1) ≤ N → PT10 (d - 1) * TD p (E - d + 1) ≤ TN m p (E - d + 1) := by
    intro E N x1 x2
    have := Int.mul_le_mul_of_nonneg_right x2 (show 0 ≤ TD p (E - d + 1) by have := TD_pos p (E - d + 1); omega)
    omega
  have hi : ∀ E N : Int, TN m p (E - d + 1) < (N + 1) * TD p (E - d + 1) → N < PT10 d → TN m p (E - d + 1) < PT10 d * TD p (E - d + 1) := by
    intro E N x1 x2
    have := Int.mul_le_mul_of_nonneg_right (show N + 1 ≤ PT10 d by omega) (show 0 ≤ TD p (E - d + 1) by have := TD_pos p (E - d + 1); omega)
    omega
  have e1 := dc_E hd (lo E' N' b1 b3) (hi E N a2 a4)
  have e2 := dc_E hd (lo E N a1 a3) (hi E' N' b2 b4)
  have e : E' = E := by omega
  subst e
  have n1 := fl_u (TD_pos p (E' - d + 1)) a1 b2
  have n2 := fl_u (TD_pos p (E' - d + 1)) b1 a2
  have n : N' = N := by omega
  subst n
  rw [← b5] at a5
  subst a5
  omega
def DC1 (m p : Int) (d : Nat) (N0 E0 : Int) (ix : Bool) : Prop :=
  (N0 * TD p (E0 - d + 1) ≤ TN m p (E0 - d + 1) ∧ TN m p (E0 - d + 1) < (N0 + 1) * TD p (E0 - d + 1)) ∧ (PT10 (d - 1) ≤ N0 ∧ N0 < PT10 d) ∧ (ix = true ↔ N0 * TD p (E0 - d + 1) ≠ TN m p (E0 - d + 1))
theorem DC1_fin {m p N0 E0 N1 : Int} {d : Nat} {ix aw : Bool} (hd : 1 ≤ d) (h : DC1 m p d N0 E0 ix) (hN : N1 = N0 + (if (ix && aw) = true then 1 else 0)) : (N1 / 10 < PT10 (d - 1) → DCR m p d aw N1 E0) ∧ (PT10 (d - 1) ≤ N1 / 10 → DCR m p d aw (N1 / 10) (E0 + 1)) ∧ (0 ≤ N1 ∧ N1 ≤ PT10 d) := by
  obtain ⟨h1, h2, h3⟩ := h
  have hs : PT10 d = 10 * PT10 (d - 1) := by rw [← PT10_s, show d - 1 + 1 = d by omega]
  have hp := PT10_pos (d - 1)
  have e : N1 = N0 + (if aw = true ∧ N0 * TD p (E0 - d + 1) ≠ TN m p (E0 - d + 1) then 1 else 0) := by
    rw [hN]; congr 1
    by_cases z : aw = true ∧ N0 * TD p (E0 - d + 1) ≠ TN m p (E0 - d + 1)
    · rw [if_pos z, if_pos (by rw [h3.mpr z.2, z.1]; rfl)]
    · rw [if_neg z, if_neg]
      intro y
      refine z ?_
      cases ix with
      | false => cases y
      | true => exact ⟨y, h3.mp rfl⟩
  have r : N0 ≤ N1 ∧ N1 ≤ N0 + 1 := by rw [hN]; split <;> omega
  refine ⟨fun z => ⟨E0, N0, N1, h1, h2, e, Or.inr ⟨by omega, rfl, rfl⟩⟩, fun z => ⟨E0, N0, N1, h1, h2, e, Or.inl ⟨by omega, by omega, rfl⟩⟩, by omega⟩
theorem DC1_lo {m p q E0 : Int} {d : Nat} {ix : Bool} (h : q * TD p (E0 - d + 1) ≤ TN m p (E0 - d + 1) ∧ TN m p (E0 - d + 1) < (q + 1) * TD p (E0 - d + 1)) (hi : ix = true ↔ q * TD p (E0 - d + 1) ≠ TN m p (E0 - d + 1)) (h1 : PT10 (d - 1) ≤ q) (h2 : q < PT10 d) : DC1 m p d q E0 ix := ⟨h, ⟨h1, h2⟩, hi⟩
theorem DC1_hi {m p q E0 : Int} {d : Nat} {ix jx : Bool} (hd : 1 ≤ d) (h : q * TD p (E0 - d + 1) ≤ TN m p (E0 - d + 1) ∧ TN m p (E0 - d + 1) < (q + 1) * TD p (E0 - d + 1)) (hi : ix = true ↔ q * TD p (E0 - d + 1) ≠ TN m p (E0 - d + 1)) (h1 : PT10 (d - 1) ≤ q / 10) (h2 : q < 2 * PT10 d) (hj : jx = true ↔ (ix = true ∨ q % 10 ≠ 0)) : DC1 m p d (q / 10) (E0 + 1) jx := by
  have hs : PT10 d = 10 * PT10 (d - 1) := by rw [← PT10_s, show d - 1 + 1 = d by omega]
  have hp := PT10_pos (d - 1)
  have D := TD_pos p (E0 - d + 1)
  have a := lev_s m p (E0 - d + 1) (q / 10)
  have b := lev_s m p (E0 - d + 1) (q / 10 + 1)
  have m1 := Int.mul_le_mul_of_nonneg_right (show 10 * (q / 10) ≤ q by omega) (show 0 ≤ TD p (E0 - d + 1) by omega)
  have m2 := Int.mul_le_mul_of_nonneg_right (show q + 1 ≤ 10 * (q / 10 + 1) by omega) (show 0 ≤ TD p (E0 - d + 1) by omega)
  unfold DC1
  rw [show E0 + 1 - d + 1 = E0 - d + 1 + 1 by omega]
  refine ⟨⟨a.1.mpr (by omega), b.2.2.mpr (by omega)⟩, ⟨h1, by omega⟩, ?_⟩
  rw [hj, hi]
  have ne : q / 10 * TD p (E0 - d + 1 + 1) ≠ TN m p (E0 - d + 1 + 1) ↔ 10 * (q / 10) * TD p (E0 - d + 1) ≠ TN m p (E0 - d + 1) := by
    have := a.1; have := a.2.1; omega
  rw [ne]
  by_cases z : q % 10 = 0
  · rw [show 10 * (q / 10) = q by omega]
    exact ⟨fun y => y.elim id (fun x => absurd z x), Or.inl⟩
  · refine ⟨fun _ => ?_, fun _ => Or.inr z⟩
    have := Int.mul_lt_mul_of_pos_right (show 10 * (q / 10) < q by omega) D
    omega
theorem fr_id (p e : Int) : P2 p * P2 e * P2 (-(p + e)) = P2 (p + e) * (P2 (-p) * P2 (-e)) := by
  rcases Int.lt_or_le p 0 with hp | hp <;> rcases Int.lt_or_le e 0 with he | he <;> rcases Int.lt_or_le (p + e) 0 with hs | hs
  · rw [P2_neg (show p ≤ 0 by omega), P2_neg (show e ≤ 0 by omega), P2_neg (show p + e ≤ 0 by omega), ← P2_add (by omega) (by omega), show -(p + e) = -p + -e by omega]; omega
  · omega
  · rw [P2_neg (show p ≤ 0 by omega), P2_neg (show p + e ≤ 0 by omega), P2_neg (show -e ≤ 0 by omega), Int.one_mul, Int.mul_one, Int.one_mul, ← P2_add (by omega) (by omega), show e + -(p + e) = -p by omega]
  · rw [P2_neg (show p ≤ 0 by omega), P2_neg (show -(p + e) ≤ 0 by omega), P2_neg (show -e ≤ 0 by omega), Int.one_mul, Int.mul_one, Int.mul_one, ← P2_add (by omega) (by omega), show p + e + -p = e by omega]
  · rw [P2_neg (show e ≤ 0 by omega), P2_neg (show p + e ≤ 0 by omega), P2_neg (show -p ≤ 0 by omega), Int.mul_one, Int.one_mul, Int.one_mul, ← P2_add (by omega) (by omega), show p + -(p + e) = -e by omega]
  · rw [P2_neg (show e ≤ 0 by omega), P2_neg (show -(p + e) ≤ 0 by omega), P2_neg (show -p ≤ 0 by omega), Int.mul_one, Int.mul_one, Int.one_mul, ← P2_add (by omega) (by omega), show p + e + -e = p by omega]
  · omega
  · rw [P2_neg (show -(p + e) ≤ 0 by omega), P2_neg (show -e ≤ 0 by omega), P2_neg (show -p ≤ 0 by omega), ← P2_add (by omega) (by omega)]; omega
/-- X / Y is TN / TD -/
theorem fr_TN (m p e : Int) : TN m p (-e) * (P5 (-e) * P2 (-(p + e))) = (m * P5 e * P2 (p + e)) * TD p (-e) := by
  unfold TN TD
  have i := fr_id p e
  rw [Int.neg_neg]
  have : m * (P2 p * (P5 e * P2 e)) * (P5 (-e) * P2 (-(p + e))) = m * P5 e * P5 (-e) * (P2 p * P2 e * P2 (-(p + e))) := by grind
  rw [this, i]; grind
theorem fr_c {X Y T D N : Int} (hY : 0 < Y) (hD : 0 < D) (h : T * Y = X * D) : (N * Y ≤ X ↔ N * D ≤ T) ∧ (X < N * Y ↔ T < N * D) := by
  have e : N * Y * D = N * D * Y := by grind
  constructor
  · constructor
    · intro z
      have := Int.mul_le_mul_of_nonneg_right z (show 0 ≤ D by omega)
      exact Int.le_of_mul_le_mul_right (show N * D * Y ≤ T * Y by omega) hY
    · intro z
      have := Int.mul_le_mul_of_nonneg_right z (show 0 ≤ Y by omega)
      exact Int.le_of_mul_le_mul_right (show N * Y * D ≤ X * D by omega) hD
  · constructor
    · intro z
      have := Int.mul_lt_mul_of_pos_right z hD
      exact Int.lt_of_mul_lt_mul_right (show T * Y < N * D * Y by omega) (by omega)
    · intro z
      have := Int.mul_lt_mul_of_pos_right z hY
      exact Int.lt_of_mul_lt_mul_right (show X * D < N * Y * D by omega) (by omega)
/-! the exponent of 10 that is told from the bits -/
def ex10 (L : Int) : Int := L * 78913 / 262144
def exChk (L : Int) : Bool := decide (P5 (ex10 L) * P2 (ex10 L) * P2 (-L) ≤ P2 L * (P5 (-(ex10 L)) * P2 (-(ex10 L)))) && decide (P2 L * (P5 (-(ex10 L + 1)) * P2 (-(ex10 L + 1))) < P5 (ex10 L + 1) * P2 (ex10 L + 1) * P2 (-L))
def exAll : Nat → Bool
  | 0 => true
  | k + 1 => exChk ((k : Int) - 1074) && exAll k
theorem exAll_at : ∀ (k : Nat), exAll k = true → ∀ L : Int, -1074 ≤ L → L < (k : Int) - 1074 → exChk L = true
  | 0, _, L, h1, h2 => by omega
  | k + 1, h, L, h1, h2 => by
    rw [exAll, Bool.and_eq_true] at h
    by_cases z : L = (k : Int) - 1074
    · rw [z]; exact h.1
    · exact exAll_at k h.2 L h1 (by omega)
set_option maxRecDepth 100000 in
theorem exAll_ok : exAll 2098 = true := by decide +kernel
theorem ex_ok {L : Int} (h : -1074 ≤ L ∧ L ≤ 1023) : P5 (ex10 L) * P2 (ex10 L) * P2 (-L) ≤ P2 L * (P5 (-(ex10 L)) * P2 (-(ex10 L))) ∧ P2 L * (P5 (-(ex10 L + 1)) * P2 (-(ex10 L + 1))) < P5 (ex10 L + 1) * P2 (ex10 L + 1) * P2 (-L) := by
  have := exAll_at 2098 exAll_ok L h.1 (by omega)
  unfold exChk at this
  rw [Bool.and_eq_true] at this
  exact ⟨of_decide_eq_true this.1, of_decide_eq_true this.2⟩
theorem ex_rng {L : Int} (h : -1074 ≤ L ∧ L ≤ 1023) : -324 ≤ ex10 L ∧ ex10 L ≤ 307 := by unfold ex10; omega
theorem ex_lo {m p r L : Int} (hm : 0 < m) (hr : BL m r) (hL : L = r + p - 1) (h : -1074 ≤ L ∧ L ≤ 1023) : 1 * TD p (ex10 L) ≤ TN m p (ex10 L) ∧ TN m p (ex10 L + 1) < 2 * TD p (ex10 L + 1) := by
  rcases hr with ⟨z, _⟩ | ⟨_, r1, r2, r3⟩
  · omega
  obtain ⟨a, b⟩ := ex_ok h
  have id := P2_id (a := L) (d := -p) (by omega)
  rw [Int.neg_neg, show L + -p = r - 1 by omega] at id
  have pL := P2_pos (-L)
  have pp := P2_pos (-p)
  have pq := P2_pos p
  have r4 : m < 2 * P2 (r - 1) := by have := P2_s (k := r - 1) (by omega); rw [show r - 1 + 1 = r by omega] at this; omega
  unfold TN TD
  constructor
  · generalize hA : P5 (ex10 L) * P2 (ex10 L) = A at a ⊢
    generalize hB : P5 (-(ex10 L)) * P2 (-(ex10 L)) = B at a ⊢
    have pB : 0 < B := by rw [← hB]; exact Int.mul_pos (P5_pos _) (P2_pos _)
    have m1 := Int.mul_le_mul_of_nonneg_right a (show 0 ≤ P2 (-p) by omega)
    have m2 := Int.mul_le_mul_of_nonneg_right r2 (show 0 ≤ P2 p * P2 (-L) * B from Int.le_of_lt (Int.mul_pos (Int.mul_pos pq pL) pB))
    have e1 : P2 L * B * P2 (-p) = P2 (r - 1) * (P2 p * P2 (-L) * B) := by
      have : P2 L * B * P2 (-p) = P2 L * P2 (-p) * B := by grind
      rw [this, id]; grind
    refine Int.le_of_mul_le_mul_right (a := P2 (-L)) ?_ pL
    have e2 : 1 * (P2 (-p) * A) * P2 (-L) = A * P2 (-L) * P2 (-p) := by grind
    have e3 : m * (P2 p * B) * P2 (-L) = m * (P2 p * P2 (-L) * B) := by grind
    omega
  · generalize hA : P5 (ex10 L + 1) * P2 (ex10 L + 1) = A at b ⊢
    generalize hB : P5 (-(ex10 L + 1)) * P2 (-(ex10 L + 1)) = B at b ⊢
    have pB : 0 < B := by rw [← hB]; exact Int.mul_pos (P5_pos _) (P2_pos _)
    have m1 := Int.mul_lt_mul_of_pos_right b pp
    have m2 := Int.mul_lt_mul_of_pos_right r4 (show 0 < P2 p * P2 (-L) * B from Int.mul_pos (Int.mul_pos pq pL) pB)
    have e1 : P2 L * B * P2 (-p) = P2 (r - 1) * (P2 p * P2 (-L) * B) := by
      have : P2 L * B * P2 (-p) = P2 L * P2 (-p) * B := by grind
      rw [this, id]; grind
    refine Int.lt_of_mul_lt_mul_right (a := P2 (-L)) ?_ (by omega)
    have e2 : 2 * (P2 (-p) * A) * P2 (-L) = 2 * (A * P2 (-L) * P2 (-p)) := by grind
    have e3 : m * (P2 p * B) * P2 (-L) = m * (P2 p * P2 (-L) * B) := by grind
    have e4 : 2 * P2 (r - 1) * (P2 p * P2 (-L) * B) = 2 * (P2 (r - 1) * (P2 p * P2 (-L) * B)) := by grind
    omega
/-- what divide answers, told as decimals -/
theorem dc_div {m p r L q e : Int} {d : Nat} {ix : Bool} (hd : 1 ≤ d) (hm : 0 < m) (hr : BL m r) (hL : L = r + p - 1) (h : -1074 ≤ L ∧ L ≤ 1023) (he : e = (d : Int) - 1 - ex10 L)
    (hq : q = m * P5 e * P2 (p + e - 0) / (P5 (-e) * P2 (0 - (p + e)))) (hi : ix = true ↔ m * P5 e * P2 (p + e - 0) % (P5 (-e) * P2 (0 - (p + e))) ≠ 0) :
    (q * TD p (ex10 L - d + 1) ≤ TN m p (ex10 L - d + 1) ∧ TN m p (ex10 L - d + 1) < (q + 1) * TD p (ex10 L - d + 1)) ∧ (ix = true ↔ q * TD p (ex10 L - d + 1) ≠ TN m p (ex10 L - d + 1)) ∧ PT10 (d - 1) ≤ q ∧ q < 2 * PT10 d := by
  obtain ⟨a, b⟩ := ex_lo hm hr hL h
  rw [show p + e - 0 = p + e by omega, show 0 - (p + e) = -(p + e) by omega] at hq hi
  have Y : 0 < P5 (-e) * P2 (-(p + e)) := Int.mul_pos (P5_pos _) (P2_pos _)
  have D := TD_pos p (-e)
  have f := fun N => fr_c (N := N) Y D (fr_TN m p e)
  have ek : ex10 L - d + 1 = -e := by omega
  rw [ek]
  have g1 : q * (P5 (-e) * P2 (-(p + e))) ≤ m * P5 e * P2 (p + e) := by rw [hq]; exact Int.ediv_mul_le _ (by omega)
  have g2 : m * P5 e * P2 (p + e) < (q + 1) * (P5 (-e) * P2 (-(p + e))) := by rw [hq]; exact Int.lt_ediv_add_one_mul_self _ Y
  have t1 := (f q).1.mp g1
  have t2 := (f (q + 1)).2.mp g2
  have j1 := (lev_j m p (-e) 1 (d - 1)).1
  have j2 := (lev_j m p (-e) 2 d).2
  rw [show -e + ((d - 1 : Nat) : Int) = ex10 L by omega, Int.mul_one] at j1
  rw [show -e + (d : Int) = ex10 L + 1 by omega] at j2
  refine ⟨⟨t1, t2⟩, ?_, fl_u D (j1.mp a) t2, ?_⟩
  · rw [hi]
    have em : m * P5 e * P2 (p + e) % (P5 (-e) * P2 (-(p + e))) = m * P5 e * P2 (p + e) - q * (P5 (-e) * P2 (-(p + e))) := by rw [hq, Int.emod_def]; grind
    rw [em]
    have : q * (P5 (-e) * P2 (-(p + e))) = m * P5 e * P2 (p + e) ↔ q * TD p (-e) = TN m p (-e) := by
      have w := fr_TN m p e
      constructor
      · intro z
        refine Int.eq_of_mul_eq_mul_right (show P5 (-e) * P2 (-(p + e)) ≠ 0 by omega) ?_
        rw [w, ← z]; grind
      · intro z
        refine Int.eq_of_mul_eq_mul_right (show TD p (-e) ≠ 0 by omega) ?_
        rw [← w, ← z]; grind
    omega
  · have := Int.lt_of_mul_lt_mul_right (show q * TD p (-e) < PT10 d * 2 * TD p (-e) by have := j2.mp b; omega) (by omega)
    omega
