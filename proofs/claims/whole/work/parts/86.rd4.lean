/-! values: rounding and order do not see how a number is told -/
theorem QD_p {b e : Int} (hb : 0 < b) : 0 < QD b e := Int.mul_pos hb (P2_pos _)
theorem fr_c2 {X Y T D N : Int} (hY : 0 < Y) (hD : 0 < D) (h : T * Y = X * D) : (N * Y < X ↔ N * D < T) ∧ (X ≤ N * Y ↔ T ≤ N * D) := by
  have e : N * Y * D = N * D * Y := by grind
  constructor
  · constructor
    · intro z
      have := Int.mul_lt_mul_of_pos_right z hD
      exact Int.lt_of_mul_lt_mul_right (show N * D * Y < T * Y by omega) (by omega)
    · intro z
      have := Int.mul_lt_mul_of_pos_right z hY
      exact Int.lt_of_mul_lt_mul_right (show N * Y * D < X * D by omega) (by omega)
  · constructor
    · intro z
      have := Int.mul_le_mul_of_nonneg_right z (show 0 ≤ D by omega)
      exact Int.le_of_mul_le_mul_right (show T * Y ≤ N * D * Y by omega) hY
    · intro z
      have := Int.mul_le_mul_of_nonneg_right z (show 0 ≤ Y by omega)
      exact Int.le_of_mul_le_mul_right (show X * D ≤ N * Y * D by omega) hD
theorem NEQ_rnd {up neg : Bool} {v b e r : Int} {N : NQ} (hv : 0 ≤ v) (hb : 0 < b) (hN : 0 < N.2.2.1 ∧ 0 ≤ N.2.1) (h : NEQ neg v b e N) (hr : RND up neg v b e r) : rndQ up N r := by
  obtain ⟨h1, h2⟩ := h
  have d1 := QD_p (e := e) hb
  have d2 := QD_p (e := N.2.2.2) hN.1
  have p1 := P2_pos (e + 1074)
  have p2 := P2_pos (N.2.2.2 + 1074)
  unfold rndQ
  rcases hr with ⟨z, hr⟩ | ⟨hv0, n, hn, hs⟩
  · refine Or.inl ⟨?_, hr⟩
    rw [z] at h2
    have : QN N.2.1 N.2.2.2 * QD b e = 0 := by rw [← h2]; unfold QN; grind
    rcases Int.mul_eq_zero.mp this with q | q
    · unfold QN at q
      rcases Int.mul_eq_zero.mp q with y | y
      · exact y
      · omega
    · omega
  · have qp : 0 < QN v e := Int.mul_pos hv0 p1
    have qq : 0 < QN N.2.1 N.2.2.2 := by
      have := Int.mul_pos qp d2
      rw [h2] at this
      exact Int.pos_of_mul_pos_left this d1 |> fun x => x
    have nv : 0 < N.2.1 := by
      rcases Int.lt_or_le 0 N.2.1 with y | y
      · exact y
      · have : N.2.1 = 0 := by omega
        unfold QN at qq; rw [this, Int.zero_mul] at qq; omega
    have key := fun M => fr_c (X := QN v e) (Y := QD b e) (T := QN N.2.1 N.2.2.2) (D := QD N.2.2.1 N.2.2.2) (N := M) d1 d2 h2.symm
    have key2 := fun M => fr_c2 (X := QN v e) (Y := QD b e) (T := QN N.2.1 N.2.2.2) (D := QD N.2.2.1 N.2.2.2) (N := M) d1 d2 h2.symm
    have sn : neg = N.1 := by
      rcases h1 with y | y
      · omega
      · exact y
    refine Or.inr ⟨nv, n, by rw [← sn]; exact hn, ?_⟩
    rw [← sn]
    refine ⟨fun z => ?_, fun z => ?_⟩
    · obtain ⟨a, b', c⟩ := hs.1 z
      exact ⟨a, (key _).1.mp b', c.elim Or.inl (fun y => Or.inr ((key _).2.mp y))⟩
    · obtain ⟨a, b', c⟩ := hs.2 z
      refine ⟨a, b'.elim Or.inl (fun y => Or.inr ?_), c.elim Or.inl (fun y => Or.inr ?_)⟩
      · exact (key2 _).1.mp y
      · exact (key2 _).2.mp y

/-- one float rounds a number downward, one upward -/
theorem FV_s {n : Int} (h : 0 ≤ n) : FV n < FV (n + 1) := by
  unfold FV
  by_cases a : n + 1 < 4503599627370496
  · rw [if_pos (by omega), if_pos a]; omega
  · by_cases b : n < 4503599627370496
    · rw [if_pos b, if_neg a, show n + 1 = 4503599627370496 by omega]
      rw [show (4503599627370496 : Int) % 4503599627370496 = 0 by decide, show (4503599627370496 : Int) / 4503599627370496 - 1 = 0 by decide, P2_0]
      omega
    · rw [if_neg b, if_neg a]
      by_cases c : (n + 1) % 4503599627370496 = 0
      · have e1 : (n + 1) / 4503599627370496 - 1 = n / 4503599627370496 - 1 + 1 := by omega
        have e2 : n % 4503599627370496 = 4503599627370495 := by omega
        rw [e1, c, e2, P2_s (by omega)]
        have := P2_pos (n / 4503599627370496 - 1)
        omega
      · have e1 : (n + 1) / 4503599627370496 = n / 4503599627370496 := by omega
        have e2 : (n + 1) % 4503599627370496 = n % 4503599627370496 + 1 := by omega
        rw [e1, e2]
        exact Int.mul_lt_mul_of_pos_right (by omega) (P2_pos _)
theorem FV_mono {a b : Int} (ha : 0 ≤ a) (h : a ≤ b) : FV a ≤ FV b := by
  obtain ⟨k, hk⟩ : ∃ k : Nat, b = a + k := ⟨(b - a).toNat, by omega⟩
  subst hk
  clear h
  induction k with
  | zero => rw [show a + ((0 : Nat) : Int) = a by omega]; exact Int.le_refl _
  | succ k ih =>
    have := FV_s (n := a + k) (by omega)
    rw [show a + ((k + 1 : Nat) : Int) = a + k + 1 by omega]
    omega
theorem RSZ_u {aw : Bool} {n m v b pw : Int} (hb : 0 < b) (h : RSZ aw n v b pw) (g : RSZ aw m v b pw) : n = m := by
  have d := QD_p (e := pw) hb
  have mul : ∀ a c : Int, 0 ≤ a → a ≤ c → FV a * QD b pw ≤ FV c * QD b pw := fun a c h1 h2 => Int.mul_le_mul_of_nonneg_right (FV_mono h1 h2) (by omega)
  cases aw with
  | false =>
    obtain ⟨a1, a2, a3⟩ := h.1 rfl
    obtain ⟨b1, b2, b3⟩ := g.1 rfl
    rcases Int.lt_trichotomy n m with z | z | z
    · rcases a3 with y | y
      · omega
      · have := mul (n + 1) m (by omega) (by omega); omega
    · exact z
    · rcases b3 with y | y
      · omega
      · have := mul (m + 1) n (by omega) (by omega); omega
  | true =>
    obtain ⟨a1, a2, a3⟩ := h.2 rfl
    obtain ⟨b1, b2, b3⟩ := g.2 rfl
    rcases Int.lt_trichotomy n m with z | z | z
    · rcases b2 with y | y
      · omega
      · rcases a3 with x | x
        · omega
        · have := mul n (m - 1) (by omega) (by omega); omega
    · exact z
    · rcases a2 with y | y
      · omega
      · rcases b3 with x | x
        · omega
        · have := mul m (n - 1) (by omega) (by omega); omega
theorem rndQ_u {up : Bool} {N : NQ} {r s : Int} (hN : 0 < N.2.2.1) (h : rndQ up N r) (g : rndQ up N s) : r = s := by
  rcases h with ⟨a, b⟩ | ⟨a, n, hn, hs⟩ <;> rcases g with ⟨c, d⟩ | ⟨c, m, hm, hs2⟩
  · omega
  · omega
  · omega
  · have := RSZ_u hN hs hs2
    subst this
    rw [hn, hm]
/-- order -/
theorem P2_sc (a b : Int) : ∃ K : Int, 0 < K ∧ P2 (a - b) * K = P2 a * P2 (-b) ∧ P2 (b - a) * K = P2 b * P2 (-a) := by
  have i := fr_id a (-b)
  have j := fr_id b (-a)
  rw [Int.neg_neg, show a + -b = a - b by omega, show -(a - b) = b - a by omega] at i
  rw [Int.neg_neg, show b + -a = b - a by omega, show -(b - a) = a - b by omega] at j
  rcases Int.lt_or_le (a - b) 0 with h | h
  · rw [P2_neg (show a - b ≤ 0 by omega), Int.one_mul] at i
    exact ⟨P2 a * P2 (-b), Int.mul_pos (P2_pos _) (P2_pos _), by rw [P2_neg (show a - b ≤ 0 by omega), Int.one_mul], by rw [Int.mul_comm (P2 (b - a)), i, Int.mul_comm]⟩
  · rw [P2_neg (show b - a ≤ 0 by omega), Int.one_mul] at j
    exact ⟨P2 b * P2 (-a), Int.mul_pos (P2_pos _) (P2_pos _), by rw [Int.mul_comm (P2 (a - b)), j, Int.mul_comm], by rw [P2_neg (show b - a ≤ 0 by omega), Int.one_mul]⟩
theorem lt_sc {a b K : Int} (hK : 0 < K) : a < b ↔ a * K < b * K := ⟨fun h => Int.mul_lt_mul_of_pos_right h hK, fun h => Int.lt_of_mul_lt_mul_right h (by omega)⟩
/-- told with the same offset -/
theorem ord_Q {x1 b1 p1 x2 b2 p2 : Int} : x2 * b1 * P2 (p2 - p1) < x1 * b2 * P2 (p1 - p2) ↔ (x2 * P2 (p2 + 1074)) * QD b1 p1 < (x1 * P2 (p1 + 1074)) * QD b2 p2 := by
  obtain ⟨K, hK, h1, h2⟩ := P2_sc (p1 + 1074) (p2 + 1074)
  rw [show p1 + 1074 - (p2 + 1074) = p1 - p2 by omega] at h1
  rw [show p2 + 1074 - (p1 + 1074) = p2 - p1 by omega] at h2
  rw [lt_sc hK]
  have e1 : x2 * b1 * P2 (p2 - p1) * K = x2 * P2 (p2 + 1074) * QD b1 p1 := by
    unfold QD
    have : x2 * b1 * P2 (p2 - p1) * K = x2 * b1 * (P2 (p2 - p1) * K) := by grind
    rw [this, h2]; grind
  have e2 : x1 * b2 * P2 (p1 - p2) * K = x1 * P2 (p1 + 1074) * QD b2 p2 := by
    unfold QD
    have : x1 * b2 * P2 (p1 - p2) * K = x1 * b2 * (P2 (p1 - p2) * K) := by grind
    rw [this, h1]; grind
  rw [e1, e2]
theorem NEQ_sv {neg : Bool} {v b e : Int} {N : NQ} (hb : 0 < b) (hN : 0 < N.2.2.1) (h : NEQ neg v b e N) : sv neg v * P2 (e + 1074) * QD N.2.2.1 N.2.2.2 = sv N.1 N.2.1 * P2 (N.2.2.2 + 1074) * QD b e := by
  obtain ⟨h1, h2⟩ := h
  unfold QN at h2
  have p1 := P2_pos (e + 1074)
  have p2 := P2_pos (N.2.2.2 + 1074)
  rcases h1 with z | z
  · have d1 := QD_p (e := e) hb
    rw [z, Int.zero_mul, Int.zero_mul] at h2
    have y : N.2.1 = 0 := by
      rcases Int.mul_eq_zero.mp h2.symm with q | q
      · rcases Int.mul_eq_zero.mp q with y | y
        · exact y
        · omega
      · omega
    rw [z, y]; unfold sv; cases neg <;> cases N.1 <;> simp
  · rw [z]; unfold sv
    cases N.1 with
    | false => simp only [Bool.false_eq_true, if_false]; exact h2
    | true =>
      simp only [if_true]
      have e1 : -v * P2 (e + 1074) * QD N.2.2.1 N.2.2.2 = -(v * P2 (e + 1074) * QD N.2.2.1 N.2.2.2) := by grind
      have e2 : -N.2.1 * P2 (N.2.2.2 + 1074) * QD b e = -(N.2.1 * P2 (N.2.2.2 + 1074) * QD b e) := by grind
      rw [e1, e2, h2]
/-- the reference's order of two numbers is that of their values -/
theorem ord_rgt {n1 n2 : Bool} {v1 b1 e1 v2 b2 e2 r : Int} {M N : NQ} (hb1 : 0 < b1) (hb2 : 0 < b2) (hM : 0 < M.2.2.1) (hN : 0 < N.2.2.1) (h1 : NEQ n1 v1 b1 e1 M) (h2 : NEQ n2 v2 b2 e2 N) (hc : Cmp3 r (sv n1 v1 * b2 * P2 (e1 - e2)) (sv n2 v2 * b1 * P2 (e2 - e1))) : r ≤ 0 ↔ rgt M N = false := by
  have a := NEQ_sv hb1 hM h1
  have b := NEQ_sv hb2 hN h2
  have q := ord_Q (x1 := sv n1 v1) (b1 := b1) (p1 := e1) (x2 := sv n2 v2) (b2 := b2) (p2 := e2)
  have q2 := ord_Q (x1 := sv M.1 M.2.1) (b1 := M.2.2.1) (p1 := M.2.2.2) (x2 := sv N.1 N.2.1) (b2 := N.2.2.1) (p2 := N.2.2.2)
  have d1 := QD_p (e := e1) hb1
  have d2 := QD_p (e := e2) hb2
  have d3 := QD_p (e := M.2.2.2) hM
  have d4 := QD_p (e := N.2.2.2) hN
  generalize QD b1 e1 = B1 at *
  generalize QD b2 e2 = B2 at *
  generalize QD M.2.2.1 M.2.2.2 = B3 at *
  generalize QD N.2.2.1 N.2.2.2 = B4 at *
  generalize sv n1 v1 * P2 (e1 + 1074) = X1 at *
  generalize sv n2 v2 * P2 (e2 + 1074) = X2 at *
  generalize sv M.1 M.2.1 * P2 (M.2.2.2 + 1074) = X3 at *
  generalize sv N.1 N.2.1 * P2 (N.2.2.2 + 1074) = X4 at *
  have k : X2 * B1 < X1 * B2 ↔ X4 * B3 < X3 * B4 := by
    rw [lt_sc (show 0 < B3 * B4 from Int.mul_pos d3 d4), lt_sc (a := X4 * B3) (show 0 < B1 * B2 from Int.mul_pos d1 d2)]
    have f1 : X2 * B1 * (B3 * B4) = X4 * B3 * (B1 * B2) := by
      have : X2 * B1 * (B3 * B4) = (X2 * B4) * (B1 * B3) := by grind
      rw [this, b]; grind
    have f2 : X1 * B2 * (B3 * B4) = X3 * B4 * (B1 * B2) := by
      have : X1 * B2 * (B3 * B4) = (X1 * B3) * (B2 * B4) := by grind
      rw [this, a]; grind
    rw [f1, f2]
  have w : r ≤ 0 ↔ ¬ (sv n2 v2 * b1 * P2 (e2 - e1) < sv n1 v1 * b2 * P2 (e1 - e2)) := by unfold Cmp3 at hc; omega
  rw [w, q, k, ← q2]
  unfold rgt
  rw [decide_eq_false_iff_not]
