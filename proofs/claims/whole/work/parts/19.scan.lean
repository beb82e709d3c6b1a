/-! SCANNING: what the small methods of the scanner answer, as functions of the tape t with n chars -/
def blk (c : Int) : Bool := decide (c = 32 ∨ c = 9)
def dig (c : Int) : Int := if 48 ≤ c ∧ c ≤ 57 then c - 48 else if 97 ≤ c ∧ c ≤ 102 then c - 97 + 10 else 16
theorem dig_rng (c : Int) : 0 ≤ dig c ∧ dig c ≤ 16 := by unfold dig; split <;> (try split) <;> omega
theorem rat_rng {t : Int → Int} {n : Int} (h : Tx t n) (i : Int) : -1 ≤ rat t n i ∧ rat t n i < 256 := by
  unfold rat
  split
  · next q => have := h i q.1 q.2; omega
  · omega
theorem rat_neg {t : Int → Int} {n i : Int} (h : rat t n i ≠ -1) : 0 ≤ i ∧ i < n := by
  unfold rat at h
  split at h
  · next q => exact q
  · exact absurd rfl h
/-- behind the blanks from p on -/
def skF (t : Int → Int) (n : Int) : Nat → Int → Int
  | 0, p => p
  | f + 1, p => if p < n ∧ blk (t p) = true then skF t n f (p + 1) else p
def sk (t : Int → Int) (n p : Int) : Int := skF t n (n - p).toNat p
theorem sk_step {t : Int → Int} {n p : Int} (h : p < n) (hb : blk (t p) = true) : sk t n p = sk t n (p + 1) := by
  unfold sk
  rw [show (n - p).toNat = (n - (p + 1)).toNat + 1 by omega, skF, if_pos ⟨h, hb⟩]
theorem sk_stop {t : Int → Int} {n p : Int} (h : ¬ (p < n ∧ blk (t p) = true)) : sk t n p = p := by
  unfold sk
  cases (n - p).toNat with
  | zero => rfl
  | succ f => rw [skF, if_neg h]
/-- the word l stands at p -/
def wdL (t : Int → Int) (n : Int) : Int → List Int → Bool
  | _, [] => true
  | p, c :: l => (decide (rat t n p = c)) && wdL t n (p + 1) l
def wdB (t : Int → Int) (n p : Int) (i : Nat) : Bool := wdL t n p (strByt.getD i [])
/-- behind a word that stands at p, or p -/
def wq (t : Int → Int) (n p : Int) (i : Nat) : Int := if wdB t n p i then p + (strLen i : Int) else p
theorem wq_t {t : Int → Int} {n p : Int} {i : Nat} (h : wdB t n p i = true) : wq t n p i = p + (strLen i : Int) := by unfold wq; rw [h]; rfl
theorem wq_f {t : Int → Int} {n p : Int} {i : Nat} (h : wdB t n p i = false) : wq t n p i = p := by unfold wq; rw [h]; rfl
theorem str_drop {i : Nat} {k : Int} (hk : 0 ≤ k ∧ k < (strLen i : Int)) : (strByt.getD i []).drop k.toNat = strCh i k :: (strByt.getD i []).drop (k + 1).toNat := by
  unfold strCh strLen at *
  generalize strByt.getD i [] = l at hk ⊢
  have h : k.toNat < l.length := by omega
  rw [List.drop_eq_getElem_cons h, show (k + 1).toNat = k.toNat + 1 by omega, List.getD_eq_getElem?_getD, List.getElem?_eq_getElem h]
  rfl
/-- sign: whether it is -, and where it ends -/
def sgN (t : Int → Int) (n p : Int) : Bool := decide (rat t n p = 45)
def sgP (t : Int → Int) (n p : Int) : Int := if rat t n p = 45 ∨ rat t n p = 43 then p + 1 else p
/-- digits of an exponent, so many at most: where they end, their number, how many -/
def exL (t : Int → Int) (n : Int) : Nat → Int → Int → Int → Int × Int × Int
  | 0, p, x, k => (p, x, k)
  | f + 1, p, x, k => if dig (rat t n p) < 10 then exL t n f (p + 1) (x * 10 + dig (rat t n p)) (k + 1) else (p, x, k)
/-- an exponent behind a letter: whether it is right, where it ends, its number -/
def EXP (t : Int → Int) (n letter : Int) (most : Nat) (mm : Bool) (p : Int) : Bool × Int × Int :=
  if rat t n p ≠ letter then (mm, p, 0) else
    (decide (0 < (exL t n most (sgP t n (p + 1)) 0 0).2.2), (exL t n most (sgP t n (p + 1)) 0 0).1, if sgN t n (p + 1) then -(exL t n most (sgP t n (p + 1)) 0 0).2.1 else (exL t n most (sgP t n (p + 1)) 0 0).2.1)
theorem sgP_rng {t : Int → Int} {n p : Int} (h : 0 ≤ p ∧ p ≤ n) : p ≤ sgP t n p ∧ sgP t n p ≤ n := by
  unfold sgP
  split
  · next q =>
    have := rat_neg (t := t) (n := n) (i := p) (by rcases q with q | q <;> rw [q] <;> decide)
    omega
  · omega
theorem exL_rng {t : Int → Int} {n : Int} : ∀ (f : Nat) (p x k : Int), 0 ≤ p ∧ p ≤ n → p ≤ (exL t n f p x k).1 ∧ (exL t n f p x k).1 ≤ n
  | 0, p, x, k, h => by simp [exL]; omega
  | f + 1, p, x, k, h => by
    rw [exL]
    split
    · next q =>
      have hp := rat_neg (t := t) (n := n) (i := p) (by intro z; rw [z] at q; exact absurd q (by decide))
      have := exL_rng (t := t) (n := n) f (p + 1) (x * 10 + dig (rat t n p)) (k + 1) (by omega)
      omega
    · simp; omega
theorem exL_val {t : Int → Int} {n : Int} : ∀ (f : Nat) (p x k : Int), 0 ≤ x → 0 ≤ (exL t n f p x k).2.1 ∧ (exL t n f p x k).2.1 < (x + 1) * 10 ^ f ∧ k ≤ (exL t n f p x k).2.2
  | 0, p, x, k, h => by simp [exL]; omega
  | f + 1, p, x, k, h => by
    rw [exL]
    split
    · next q =>
      have d := dig_rng (rat t n p)
      have ih := exL_val (t := t) (n := n) f (p + 1) (x * 10 + dig (rat t n p)) (k + 1) (by omega)
      have m := Int.mul_le_mul_of_nonneg_right (show x * 10 + dig (rat t n p) + 1 ≤ (x + 1) * 10 by omega) (show (0 : Int) ≤ 10 ^ f by have : (0 : Int) < 10 ^ f := Int.pow_pos (by decide); omega)
      have e : (x + 1) * (10 : Int) ^ (f + 1) = (x + 1) * 10 * 10 ^ f := by rw [Int.pow_succ]; grind
      rw [e]
      omega
    · have p1 : (0 : Int) < 10 ^ (f + 1) := Int.pow_pos (by decide)
      have m := Int.mul_le_mul_of_nonneg_left (show (1 : Int) ≤ 10 ^ (f + 1) by omega) (show 0 ≤ x + 1 by omega)
      simp only
      omega
theorem EXP_rng {t : Int → Int} {n letter p : Int} {most : Nat} {mm : Bool} (h : 0 ≤ p ∧ p ≤ n) (hl : letter ≠ -1) (hm : most ≤ 4) : p ≤ (EXP t n letter most mm p).2.1 ∧ (EXP t n letter most mm p).2.1 ≤ n ∧ -10000 < (EXP t n letter most mm p).2.2 ∧ (EXP t n letter most mm p).2.2 < 10000 := by
  unfold EXP
  split
  · simp; omega
  · next q =>
    have e : rat t n p = letter := by
      by_cases z : rat t n p = letter
      · exact z
      · exact absurd z q
    have hp := rat_neg (t := t) (n := n) (i := p) (by rw [e]; exact hl)
    have s := sgP_rng (t := t) (n := n) (p := p + 1) (by omega)
    have r := exL_rng (t := t) (n := n) most (sgP t n (p + 1)) 0 0 (by omega)
    have v := exL_val (t := t) (n := n) most (sgP t n (p + 1)) 0 0 (Int.le_refl _)
    have m : (0 + 1 : Int) * 10 ^ most ≤ 10000 := by
      have : ∀ k : Nat, k ≤ 4 → (0 + 1 : Int) * 10 ^ k ≤ 10000 := by decide
      exact this most hm
    refine ⟨by simp only; omega, by simp only; omega, ?_, ?_⟩
    · simp only; split <;> omega
    · simp only; split <;> omega
/-- digits with perhaps a point: (value, how many, how many behind the point, whether there was a point) -/
abbrev DgS : Type := Int × Int × Int × Bool
def dgStep (base : Int) (s : DgS) (c : Int) : DgS := if c = 46 then (s.1, s.2.1, s.2.2.1, true) else (s.1 * base + dig c, s.2.1 + 1, s.2.2.1 + (if s.2.2.2 then 1 else 0), s.2.2.2)
def dgAcc (base : Int) (pm hp : Bool) (c : Int) : Bool := (decide (c = 46) && pm && !hp) || decide (dig c < base)
def dgF (t : Int → Int) (n base : Int) (pm : Bool) : Nat → Int → DgS → Int × DgS
  | 0, p, s => (p, s)
  | f + 1, p, s => if p < n ∧ dgAcc base pm s.2.2.2 (t p) = true then dgF t n base pm f (p + 1) (dgStep base s (t p)) else (p, s)
def DGs (t : Int → Int) (n base : Int) (pm : Bool) (p : Int) (s : DgS) : Int × DgS := dgF t n base pm (n - p).toNat p s
theorem DGs_step {t : Int → Int} {n base p : Int} {pm : Bool} {s : DgS} (h : p < n) (ha : dgAcc base pm s.2.2.2 (t p) = true) : DGs t n base pm p s = DGs t n base pm (p + 1) (dgStep base s (t p)) := by
  unfold DGs
  rw [show (n - p).toNat = (n - (p + 1)).toNat + 1 by omega, dgF, if_pos ⟨h, ha⟩]
theorem DGs_stop {t : Int → Int} {n base p : Int} {pm : Bool} {s : DgS} (h : ¬ (p < n ∧ dgAcc base pm s.2.2.2 (t p) = true)) : DGs t n base pm p s = (p, s) := by
  unfold DGs
  cases (n - p).toNat with
  | zero => rfl
  | succ f => rw [dgF, if_neg h]
theorem EXP_of {t : Int → Int} {n le p q x k : Int} {mo : Nat} {mm : Bool} (h : rat t n p = le) (hE : exL t n mo (sgP t n (p + 1)) 0 0 = (q, x, k)) : EXP t n le mo mm p = (decide (0 < k), q, if sgN t n (p + 1) then -x else x) := by
  unfold EXP
  rw [if_neg (fun z => z h), hE]
theorem exL_s {t : Int → Int} {n mo p x k : Int} (hk : k < mo) (hd : dig (rat t n p) < 10) : exL t n (mo - k).toNat p x k = exL t n (mo - (k + 1)).toNat (p + 1) (x * 10 + dig (rat t n p)) (k + 1) := by
  rw [show (mo - k).toNat = (mo - (k + 1)).toNat + 1 by omega, exL, if_pos hd]
theorem exL_e {t : Int → Int} {n mo p x k : Int} (h : mo ≤ k ∨ 10 ≤ dig (rat t n p)) : exL t n (mo - k).toNat p x k = (p, x, k) := by
  cases hf : (mo - k).toNat with
  | zero => rfl
  | succ f =>
    rw [exL, if_neg (by omega)]
theorem DG_digit {t : Int → Int} {n ba p V V' cn fr fr' : Int} {pm hp : Bool} (h0 : 0 ≤ p) (h : p < n) (hd : dig (rat t n p) < ba) (hba : ba ≤ 16) (hV : V' = V * ba + dig (rat t n p)) (hf : fr' = fr + (if hp then 1 else 0)) : DGs t n ba pm p (V, cn, fr, hp) = DGs t n ba pm (p + 1) (V', cn + 1, fr', hp) := by
  rw [rat_in (by omega)] at hd hV
  have ne : t p ≠ 46 := by
    intro z
    rw [z] at hd
    have : dig 46 = 16 := by decide
    omega
  rw [DGs_step h (by unfold dgAcc; rw [decide_eq_true hd, Bool.or_true])]
  congr 1
  unfold dgStep
  rw [if_neg ne, hV, hf]
theorem DG_point {t : Int → Int} {n ba p V cn fr : Int} {pm hp : Bool} (h0 : 0 ≤ p) (h : p < n) (hc : rat t n p = 46) (hpm : pm = true) (hh : hp = false) : DGs t n ba pm p (V, cn, fr, hp) = DGs t n ba pm (p + 1) (V, cn, fr, true) := by
  rw [rat_in (by omega)] at hc
  rw [DGs_step h (by unfold dgAcc; rw [hc, hpm, hh]; rfl)]
  congr 1
  unfold dgStep
  rw [if_pos hc]
theorem DG_stop {t : Int → Int} {n ba p V cn fr : Int} {pm hp : Bool} (h0 : 0 ≤ p) (h : n ≤ p ∨ (ba ≤ dig (rat t n p) ∧ (rat t n p ≠ 46 ∨ pm = false ∨ hp = true))) : DGs t n ba pm p (V, cn, fr, hp) = (p, V, cn, fr, hp) := by
  refine DGs_stop (fun z => ?_)
  rcases h with h | ⟨h, h2⟩
  · omega
  · rw [rat_in (by omega)] at h h2
    have z2 := z.2
    unfold dgAcc at z2
    rw [decide_eq_false (show ¬ dig (t p) < ba by omega), Bool.or_false] at z2
    rcases h2 with h2 | h2 | h2
    · rw [decide_eq_false h2] at z2; cases z2
    · rw [h2, Bool.and_false] at z2; cases z2
    · have z3 : (decide (t p = 46) && pm && !hp) = true := z2
      rw [h2, Bool.not_true, Bool.and_false] at z3; cases z3
theorem dg_part {fa pt ba d : Int} (hfa : 1 ≤ fa ∧ fa < 67108864) (hpt : 0 ≤ pt ∧ pt < fa) (hba : ba = 10 ∨ ba = 16) (hd : 0 ≤ d ∧ d < ba) : (0 ≤ pt * ba + d ∧ pt * ba + d < fa * ba) ∧ (1 ≤ fa * ba ∧ fa * ba < 1073741824) := by
  rcases hba with rfl | rfl <;> omega
theorem dg_bd {V ba d cn : Int} (hV : 0 ≤ V ∧ V < P2 (4 * cn)) (hcn : 0 ≤ cn) (hba : ba = 10 ∨ ba = 16) (hd : 0 ≤ d ∧ d < ba) : 0 ≤ V * ba + d ∧ V * ba + d < P2 (4 * (cn + 1)) := by
  have e : P2 (4 * (cn + 1)) = P2 (4 * cn) * 16 := by rw [show 4 * (cn + 1) = 4 * cn + 4 by omega, P2_add (by omega) (by omega)]; rfl
  rw [e]
  rcases hba with rfl | rfl <;> omega
theorem dg_fit {V cn : Int} (hV : V < P2 (4 * cn)) (hcn : cn ≤ 400) : V < PB 224 := by
  have := P2_mono (show 4 * cn ≤ 6720 by omega)
  rw [PB224]; omega
