/-! rows for the law: the script; longs that are alike -/
def scr (xs : Nat → Int32) (z : Int) : Int := (xs z.toNat).toInt
theorem scr_rng (xs : Nat → Int32) (z : Int) : -2147483648 ≤ scr xs z ∧ scr xs z < 2147483648 := by
  unfold scr
  have h1 := Int32.le_toInt (xs z.toNat)
  have h2 := Int32.toInt_lt (xs z.toNat)
  omega
section LawRows
variable {p : Program} {l : Launch} {e : Env} {R : Room} {s : State} {m : MethodId} {args : Array Value} {below : List Frame} {meth : Method} {c : Code} {H : Heap} {locs : List Loc} {cells slots : Nat} {Q : State → Prop} {cc : ByteArray} {pc : Nat} {ls : Array Slot} {rest : List Value} {A : Nat → Prop} {H0 : Heap}
theorem wk_sld (hx : p.tables.exec = Jvm.exec) (hb : c.code = cc) {b L : Nat} {xs : Nat → Int32} (hX : va_X b L xs s H0) (hbl : b < H0.size) (hbA : ¬ A b) (hS : va_S A H0 H locs) {z : Int} (hz : 0 ≤ z ∧ z < (L : Int)) (hL : L < 2147483648) (hd : decode cc pc = .ok (.iaload, 1))
    (k : W p l e R s m args below meth c H locs cells slots Q (F0 m (pc + 1) ls (.int (iI (scr xs z)) :: rest))) : W p l e R s m args below meth c H locs cells slots Q (F0 m pc ls (.int (iI z) :: .ref b :: rest)) := by
  refine va_sld hx hb hX hbl hbA hS (iI_in hz hL) hd ?_
  rw [iI_clamp (by omega), ← iI_back (xs z.toNat)]
  exact k
theorem wk_slen (hx : p.tables.exec = Jvm.exec) (hb : c.code = cc) {b L : Nat} {xs : Nat → Int32} (hX : va_X b L xs s H0) (hbl : b < H0.size) (hbA : ¬ A b) (hS : va_S A H0 H locs) (hd : decode cc pc = .ok (.arraylength, 1))
    (k : W p l e R s m args below meth c H locs cells slots Q (F0 m (pc + 1) ls (.int (iI (L : Int)) :: rest))) : W p l e R s m args below meth c H locs cells slots Q (F0 m pc ls (.ref b :: rest)) := by
  refine va_slen hx hb hX hbl hbA hS hd ?_
  rw [iI_nat]; exact k
theorem wk_lcmpS (hx : p.tables.exec = Jvm.exec) (hb : c.code = cc) {y : Int64} (hd : decode cc pc = .ok (.lcmp, 1)) (k : W p l e R s m args below meth c H locs cells slots Q (F0 m (pc + 1) ls (.int (iI 0) :: rest))) : W p l e R s m args below meth c H locs cells slots Q (F0 m pc ls (.long y :: .long y :: rest)) := by
  have h1 := Int64.le_toInt y
  have h2 := Int64.toInt_lt y
  rw [← lI_back y]
  refine wi_lcmp hx hb (by omega) (by omega) hd ?_
  rw [show cmpZ y.toInt y.toInt = 0 by unfold cmpZ; simp]
  exact k
end LawRows
theorem FDr_rng {n k : Int} (hn : 0 ≤ n ∧ n ≤ 400) : -2147483648 ≤ FDr n k ∧ FDr n k < 2147483648 := by unfold FDr; split <;> (try split) <;> omega
theorem FD_ok {t : Int → Int} {n x k : Int} (hn : 0 ≤ n ∧ n ≤ 400) (hT : Tx t n) : (0 ≤ FDn n k ∧ FDn n k ≤ 400) ∧ Tx (FDt t n x k) (FDn n k) := by
  by_cases h : k < 1 ∨ 8 < k
  · obtain ⟨_, a, b⟩ := FD_1 (t := t) (n := n) (x := x) h
    rw [a, b]; exact ⟨hn, hT⟩
  · by_cases h2 : 400 < n + k
    · obtain ⟨_, a, b⟩ := FD_2 (t := t) (n := n) (x := x) h h2
      rw [a, b]; exact ⟨hn, hT⟩
    · obtain ⟨_, a, b⟩ := FD_3 (t := t) (n := n) (x := x) h h2
      rw [a, b]
      refine ⟨by omega, fun j h3 h4 => ?_⟩
      by_cases z : j < n
      · rw [apZ_lo z]; exact hT j h3 z
      · rw [show j = n + (j - n) by omega, apZ_in (by omega)]
        unfold byt; omega
theorem bk_ok {t : Int → Int} {n : Int} {L : List Int} (hn : 0 ≤ n ∧ n ≤ 400) (hT : Tx t n) (hb : BdL L) : (0 ≤ (if 400 < n + (L.length : Int) then n else n + (L.length : Int)) ∧ (if 400 < n + (L.length : Int) then n else n + (L.length : Int)) ≤ 400) ∧ Tx (if 400 < n + (L.length : Int) then t else Wr t n L) (if 400 < n + (L.length : Int) then n else n + (L.length : Int)) := by
  by_cases h : 400 < n + (L.length : Int)
  · rw [if_pos h, if_pos h]; exact ⟨hn, hT⟩
  · rw [if_neg h, if_neg h]
    refine ⟨by omega, fun j h3 h4 => ?_⟩
    by_cases z : j < n
    · rw [Wr_lo z]; exact hT j h3 z
    · rw [Wr_at (by omega)]; have := BdL_at hb (j - n).toNat; omega
theorem bk_rng {n : Int} {L : List Int} (hn : 0 ≤ n ∧ n ≤ 400) (hL : (L.length : Int) ≤ 64) : -2147483648 ≤ (if 400 < n + (L.length : Int) then -2 else n + (L.length : Int)) ∧ (if 400 < n + (L.length : Int) then -2 else n + (L.length : Int)) < 2147483648 := by split <;> omega
theorem Tx_0 (t : Int → Int) : Tx t 0 := fun j h1 h2 => by omega
/-! what is written is one text -/
theorem ENDL_u {f d : Int} {up : Bool} {M N : List Int} (h : ENDL f d up M) (g : ENDL f d up N) : M = N := by
  obtain ⟨K, e, h⟩ := h
  obtain ⟨J, k, g⟩ := g
  rw [e, k]; congr 1
  rcases h with ⟨a, h⟩ | ⟨a, h⟩ | ⟨a, b, h⟩ | ⟨a, b, num, ex, c, h⟩ <;> rcases g with ⟨a', g⟩ | ⟨a', g⟩ | ⟨a', b', g⟩ | ⟨a', b', num', ex', c', g⟩ <;> first | omega | (rw [h, g]; done) | (obtain ⟨x, y⟩ := DCR_u (by omega) c c'; rw [h, g, x, y])
theorem INTL_u {lo hi d : Int} {M N : List Int} (h : INTL lo hi d M) (g : INTL lo hi d N) : M = N := by
  rcases h with ⟨a, b, h⟩ | ⟨a, A, B, h1, h2, h⟩ <;> rcases g with ⟨a', b', g⟩ | ⟨a', A', B', g1, g2, g⟩
  · rw [h, g]
  · exact absurd ⟨a, b⟩ a'
  · exact absurd ⟨a', b'⟩ a
  · rw [h, g, ENDL_u h1 g1, ENDL_u h2 g2]
theorem WRL_u {lo hi mk d : Int} {M N : List Int} (h : WRL lo hi mk d M) (g : WRL lo hi mk d N) : M = N := by
  rcases h with ⟨a, h⟩ | ⟨a, b, h⟩ | ⟨a, b, X, c, h⟩ <;> rcases g with ⟨a', g⟩ | ⟨a', b', g⟩ | ⟨a', b', Y, c', g⟩
  · rw [h, g]
  · exact absurd a' a
  · exact absurd a' a
  · exact absurd a a'
  · rw [h, g]
  · exact absurd b b'
  · exact absurd a a'
  · exact absurd b' b
  · rw [h, g, INTL_u c c']
theorem wr_tie {lo hi mk d r r' : Int} {L M N : List Int} (h : (¬ (0 ≤ mk ∧ mk ≤ 4 ∧ 0 ≤ d ∧ d ≤ 18) ∧ r = -1 ∧ M = L) ∨ ((0 ≤ mk ∧ mk ≤ 4 ∧ 0 ≤ d ∧ d ≤ 18) ∧ r = (M.length : Int) ∧ WRL lo hi mk d M)) (g : (¬ (0 ≤ mk ∧ mk ≤ 4 ∧ 0 ≤ d ∧ d ≤ 18) ∧ r' = -1 ∧ N = L) ∨ ((0 ≤ mk ∧ mk ≤ 4 ∧ 0 ≤ d ∧ d ≤ 18) ∧ r' = (N.length : Int) ∧ WRL lo hi mk d N)) (hL : (L.length : Int) ≤ 64 ∧ BdL L) : N = M ∧ r' = r ∧ ((M.length : Int) ≤ 64 ∧ BdL M) ∧ (-1 ≤ r ∧ r ≤ 64) := by
  rcases h with ⟨a, b, c⟩ | ⟨a, b, c⟩ <;> rcases g with ⟨a', b', c'⟩ | ⟨a', b', c'⟩
  · rw [b, b', c, c']; exact ⟨rfl, rfl, hL, by omega⟩
  · exact absurd a' a
  · exact absurd a a'
  · have e := WRL_u c c'
    have w := WRL_ok a.2.2.2 c
    subst e
    exact ⟨rfl, by rw [b, b'], ⟨by omega, w.1⟩, by omega⟩
theorem va_P_nil {D : va_G} {cl : List vw_C} {H : Heap} : va_P D cl [] H := fun k q h => by cases h
theorem va_D_nil {A : Nat → Prop} : va_D A [] := ⟨fun i j p q h => (by cases h), fun k q h => (by cases h)⟩
def R_law : String := "IntervalTextLaw"
