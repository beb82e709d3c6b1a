/-! marks, closing, the start -/
def mkI (k : Int) : Nat := if k = 4 then 14 else if k = 3 then 15 else if k = 2 then 16 else 17
theorem mkI_lt (k : Int) : mkI k < 43 := by unfold mkI; split <;> (try split) <;> (try split) <;> decide
theorem mkI_len (k : Int) : strLen (mkI k) = 4 := by unfold mkI; split <;> (try split) <;> (try split) <;> rfl
def strong (em ob oa : Bool) : Int := if em then 1 else if ob || oa then 3 else 4
def mkF (t : Int → Int) (n p : Int) : Nat → Int → Int
  | 0, _ => 0
  | f + 1, k => if wdB t n p (mkI k) then (if p + 4 = n then k else 0) else mkF t n p f (k + 1)
/-- the mark that stands at p, if s is the strongest one that may be -/
def MARK (t : Int → Int) (n p s : Int) : Int := if p = n then s else mkF t n p s.toNat 1
theorem mkF_s {t : Int → Int} {n p s k : Int} (hk : k ≤ s) : mkF t n p (s + 1 - k).toNat k = if wdB t n p (mkI k) then (if p + 4 = n then k else 0) else mkF t n p (s + 1 - (k + 1)).toNat (k + 1) := by
  rw [show (s + 1 - k).toNat = (s + 1 - (k + 1)).toNat + 1 by omega, mkF]
theorem mkF_e {t : Int → Int} {n p s k : Int} (hk : s < k) : mkF t n p (s + 1 - k).toNat k = 0 := by
  rw [show (s + 1 - k).toNat = 0 by omega, mkF]
/-- behind inf or infinity -/
def infq (t : Int → Int) (n p : Int) (i : Nat) : Int := if wdB t n p i then wq t n (p + (strLen i : Int)) 5 else p
/-- without the blanks at the end -/
def trF (t : Int → Int) : Nat → Int
  | 0 => 0
  | k + 1 => if blk (t (k : Int)) = true then trF t k else ((k + 1 : Nat) : Int)
def trR (t : Int → Int) (n : Int) : Int := trF t n.toNat
theorem trR_s {t : Int → Int} {n : Int} (h : 0 < n) (hb : blk (t (n - 1)) = true) : trR t n = trR t (n - 1) := by
  unfold trR
  rw [show n.toNat = (n - 1).toNat + 1 by omega, trF, show (((n - 1).toNat : Nat) : Int) = n - 1 by omega, if_pos hb]
theorem trR_e {t : Int → Int} {n : Int} (h0 : 0 ≤ n) (h : n ≤ 0 ∨ blk (t (n - 1)) = false) : trR t n = n := by
  unfold trR
  cases hk : n.toNat with
  | zero => rw [trF]; omega
  | succ k =>
    have e : (k : Int) = n - 1 := by omega
    rw [trF, e]
    rcases h with z | z
    · omega
    · rw [z, if_neg (by decide)]; omega
theorem LowT_Tx {t t2 : Int → Int} {n : Int} (h : LowT t t2 n n) (hT : Tx t n) : Tx t2 n := by
  intro j h1 h2
  rw [h.1 j h1 h2]
  have := hT j h1 h2
  unfold low1
  split <;> omega
theorem Tx_sub {t : Int → Int} {n m : Int} (h : Tx t n) (hm : m ≤ n) : Tx t m := fun j h1 h2 => h j h1 (by omega)
