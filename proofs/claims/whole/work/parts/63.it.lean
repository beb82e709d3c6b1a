/-! the class itself: feed, word, write, read -/
def byt (x i : Int) : Int := x / P2 (8 * i) % 256
theorem byt_u {x i : Int} (h : 0 ≤ i ∧ i < 8) : x % 18446744073709551616 / P2 (8 * i) % 256 = byt x i := by
  unfold byt
  have e : i = 0 ∨ i = 1 ∨ i = 2 ∨ i = 3 ∨ i = 4 ∨ i = 5 ∨ i = 6 ∨ i = 7 := by omega
  rcases e with e | e | e | e | e | e | e | e <;> subst e
  · rw [show P2 (8 * 0) = 1 by decide +kernel]; omega
  · rw [show P2 (8 * 1) = 256 by decide +kernel]; omega
  · rw [show P2 (8 * 2) = 65536 by decide +kernel]; omega
  · rw [show P2 (8 * 3) = 16777216 by decide +kernel]; omega
  · rw [show P2 (8 * 4) = 4294967296 by decide +kernel]; omega
  · rw [show P2 (8 * 5) = 1099511627776 by decide +kernel]; omega
  · rw [show P2 (8 * 6) = 281474976710656 by decide +kernel]; omega
  · rw [show P2 (8 * 7) = 72057594037927936 by decide +kernel]; omega
def FDr (n k : Int) : Int := if k < 1 ∨ 8 < k then -1 else if 400 < n + k then -2 else n + k
def FDn (n k : Int) : Int := if k < 1 ∨ 8 < k then n else if 400 < n + k then n else n + k
def FDt (t : Int → Int) (n x k : Int) : Int → Int := if k < 1 ∨ 8 < k then t else if 400 < n + k then t else apZ t n k (byt x)
theorem FD_1 {t : Int → Int} {n x k : Int} (h : k < 1 ∨ 8 < k) : FDr n k = -1 ∧ FDn n k = n ∧ FDt t n x k = t := by unfold FDr FDn FDt; rw [if_pos h, if_pos h, if_pos h]; exact ⟨rfl, rfl, rfl⟩
theorem FD_2 {t : Int → Int} {n x k : Int} (h : ¬ (k < 1 ∨ 8 < k)) (h2 : 400 < n + k) : FDr n k = -2 ∧ FDn n k = n ∧ FDt t n x k = t := by unfold FDr FDn FDt; rw [if_neg h, if_neg h, if_neg h, if_pos h2, if_pos h2, if_pos h2]; exact ⟨rfl, rfl, rfl⟩
theorem FD_3 {t : Int → Int} {n x k : Int} (h : ¬ (k < 1 ∨ 8 < k)) (h2 : ¬ 400 < n + k) : FDr n k = n + k ∧ FDn n k = n + k ∧ FDt t n x k = apZ t n k (byt x) := by unfold FDr FDn FDt; rw [if_neg h, if_neg h, if_neg h, if_neg h2, if_neg h2, if_neg h2]; exact ⟨rfl, rfl, rfl⟩
/-- eight bytes from b on, the first one lowest; so many of them -/
def wvF (L : List Int) (b : Int) : Nat → Int
  | 0 => 0
  | k + 1 => wvF L b k * 256 + L.getD (b + (7 - (k : Int))).toNat 0
def WRD (L : List Int) (i : Int) : Int := if i < 0 ∨ 8 ≤ i then 0 else wvF L (8 * i) 8
def wz (f : Int) : Int := if f = -9223372036854775808 then 0 else f
def stm (a b : Int) : Int := if a = -4503599627370496 ∨ b = 9218868437227405312 then 3 else 4
def plc (f : Int) : Int := if 0 ≤ f then f else -(f % 9223372036854775808)
def AEN (a b : Int) : Prop := a % 9223372036854775808 ≤ 9218868437227405312 ∧ b % 9223372036854775808 ≤ 9218868437227405312 ∧ a ≠ 9218868437227405312 ∧ b ≠ -4503599627370496 ∧ plc a ≤ plc b
/-- what is written -/
def WRL (lo hi mk d : Int) (L : List Int) : Prop := (¬ AEN (wz lo) (wz hi) ∧ L = strByt.getD 18 [] ++ strByt.getD (mkI 1) []) ∨ (AEN (wz lo) (wz hi) ∧ mk = 0 ∧ L = strByt.getD 19 []) ∨
  (AEN (wz lo) (wz hi) ∧ mk ≠ 0 ∧ ∃ M : List Int, INTL (wz lo) (wz hi) d M ∧ L = M ++ strByt.getD (mkI (min mk (stm (wz lo) (wz hi)))) [])
theorem mkI_lenZ (k : Int) : ((strByt.getD (mkI k) []).length : Int) = 4 := by have := mkI_len k; unfold strLen at this; omega
theorem WRL_ok {lo hi mk d : Int} {L : List Int} (hd : d ≤ 18) (h : WRL lo hi mk d L) : BdL L ∧ (L.length : Int) ≤ 61 := by
  rcases h with ⟨_, h⟩ | ⟨_, _, h⟩ | ⟨_, _, M, h1, h⟩ <;> rw [h]
  · refine ⟨BdL_app (BdL_str _) (BdL_str _), ?_⟩
    rw [List.length_append, show (strByt.getD 18 []).length = 7 from rfl]; have := mkI_lenZ 1; omega
  · exact ⟨BdL_str _, by rw [show (strByt.getD 19 []).length = 5 from rfl]; omega⟩
  · refine ⟨BdL_app (INTL_bd h1) (BdL_str _), ?_⟩
    have a := INTL_len hd h1
    have b := mkI_lenZ (min mk (stm (wz lo) (wz hi)))
    rw [List.length_append]; omega
/-- the scan of the whole text: what stands at p -/
def SCN (t : Int → Int) (n p : Int) : SC := if rat t n p = 91 then BRK t n p else SPR t n p
/-- the mark before rounding -/
def MK0 (t : Int → Int) (n : Int) (S : SC) : Int := if S.1 = true then MARK t n S.2.1 (strong S.2.2.1 S.2.2.2.1 S.2.2.2.2.1) else 0
def rndQ (up : Bool) (N : NQ) (r : Int) : Prop := RND up N.1 N.2.1 N.2.2.1 N.2.2.2 r
/-- what reading answers, for the text in lower case without the blanks at its end -/
def RDL (t : Int → Int) (n mk lo hi : Int) : Prop :=
  (MK0 t n (SCN t n (sk t n 0)) = 0 ∧ mk = 0 ∧ lo = 9221120237041090560 ∧ hi = 9221120237041090560) ∨
  (MK0 t n (SCN t n (sk t n 0)) ≠ 0 ∧ (SCN t n (sk t n 0)).2.2.1 = true ∧ mk = MK0 t n (SCN t n (sk t n 0)) ∧ lo = 9218868437227405312 ∧ hi = -4503599627370496) ∨
  (MK0 t n (SCN t n (sk t n 0)) ≠ 0 ∧ (SCN t n (sk t n 0)).2.2.1 = false ∧ mk = min (MK0 t n (SCN t n (sk t n 0))) (stm lo hi) ∧
    (((SCN t n (sk t n 0)).2.2.2.1 = true ∧ lo = -4503599627370496) ∨ ((SCN t n (sk t n 0)).2.2.2.1 = false ∧ rndQ false (SCN t n (sk t n 0)).2.2.2.2.2.1 lo)) ∧
    (((SCN t n (sk t n 0)).2.2.2.2.1 = true ∧ hi = 9218868437227405312) ∨ ((SCN t n (sk t n 0)).2.2.2.2.1 = false ∧ rndQ true (SCN t n (sk t n 0)).2.2.2.2.2.2 hi)))
def RDT (t : Int → Int) (n mk lo hi : Int) : Prop := ∃ t2 : Int → Int, LowT t t2 n n ∧ RDL t2 (trR t2 n) mk lo hi
theorem RND_sw {up neg ng : Bool} {v b pw r : Int} (h : v = 0 ∨ neg = ng) (hr : RND up neg v b pw r) : RND up ng v b pw r := by
  rcases h with h | h
  · rcases hr with z | z
    · exact Or.inl z
    · omega
  · rw [← h]; exact hr
theorem RND_rng {up neg : Bool} {v b pw r : Int} (h : RND up neg v b pw r) : -9223372036854775808 ≤ r ∧ r < 9223372036854775808 := by
  rcases h with z | ⟨_, n, e, z⟩
  · omega
  · have := RSZ_rng z
    rw [e]; unfold FL; split <;> omega
theorem wd_at {u : Int → Int} {L : List Int} {j : Int} (h : 0 ≤ j) : (rat (Wr u 0 L) (L.length : Int) j = -1 ∧ L.getD j.toNat 0 = 0 ∧ (L.length : Int) ≤ j) ∨ (rat (Wr u 0 L) (L.length : Int) j = L.getD j.toNat 0 ∧ j < (L.length : Int)) := by
  by_cases z : j < (L.length : Int)
  · right
    rw [rat_in ⟨h, z⟩, Wr_at (by omega), show j - 0 = j by omega]; exact ⟨rfl, z⟩
  · left
    rw [rat_out (by omega), List.getD_eq_getElem?_getD, List.getElem?_eq_none (by omega)]; exact ⟨rfl, rfl, by omega⟩
