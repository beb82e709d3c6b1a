/-! sizes in writing a float with digits -/
theorem fl_L {s r : Int} (hs : 0 < s ∧ s < 9218868437227405312) (hr : BL (FM s) r) : 0 < FM s ∧ FM s < 9007199254740992 ∧ (-1074 ≤ FE s ∧ FE s ≤ 971) ∧ -1074 ≤ r + FE s - 1 ∧ r + FE s - 1 ≤ 1023 := by
  have a : 0 < FM s ∧ FM s < 9007199254740992 := by unfold FM; split <;> omega
  have b : -1074 ≤ FE s ∧ FE s ≤ 971 := by unfold FE; split <;> omega
  have c := BL_le hr a.1 (n := 53) (by rw [show P2 53 = 9007199254740992 by decide +kernel]; exact a.2)
  rcases hr with z | z
  · omega
  · omega
theorem P5_lim {e : Int} (h : e ≤ 341) : P5 e ≤ P2 800 := by
  rcases Int.lt_or_le e 0 with q | q
  · rw [P5_0 (by omega)]; have := P2_mono (show (0 : Int) ≤ 800 by omega); rw [P2_0] at this; exact this
  · have a := P5_P2 q
    have := P2_mono (show 7 * ((e + 2) / 3) ≤ 800 by omega)
    omega
theorem mul_lim {x y a b : Int} (hx : 0 ≤ x ∧ x ≤ P2 a) (hy : 0 ≤ y ∧ y ≤ P2 b) (ha : 0 ≤ a) (hb : 0 ≤ b) : 0 ≤ x * y ∧ x * y ≤ P2 (a + b) := by
  rw [P2_add ha hb]
  exact ⟨Int.mul_nonneg hx.1 hy.1, Int.mul_le_mul hx.2 hy.2 hy.1 (by have := P2_pos a; omega)⟩
theorem dec_fit {m p e : Int} (hm : 0 ≤ m ∧ m < 9007199254740992) (hp : -1074 ≤ p ∧ p ≤ 971) (he : -341 ≤ e ∧ e ≤ 341) : m * P5 e < PB 224 ∧ P5 (-e) < PB 224 ∧ m * P5 e * P2 (p + e - 0) * P2 29 < PB 224 ∧ P5 (-e) * P2 (0 - (p + e)) < PB 224 := by
  have e53 : P2 53 = 9007199254740992 := by decide +kernel
  have a1 := P5_lim he.2
  have a2 := P5_lim (show -e ≤ 341 by omega)
  have p1 := P5_pos e
  have p2 := P5_pos (-e)
  have b1 := P2_mono (show p + e - 0 ≤ 1400 by omega)
  have b2 := P2_mono (show 0 - (p + e) ≤ 1500 by omega)
  have q1 := P2_pos (p + e - 0)
  have q2 := P2_pos (0 - (p + e))
  have q3 := P2_pos 29
  have c1 := mul_lim (x := m) (y := P5 e) (a := 53) (b := 800) ⟨hm.1, by omega⟩ ⟨by omega, a1⟩ (by omega) (by omega)
  have c2 := mul_lim c1 (y := P2 (p + e - 0)) (b := 1400) ⟨by omega, b1⟩ (by omega) (by omega)
  have c3 := mul_lim c2 (y := P2 29) (b := 29) ⟨by omega, Int.le_refl _⟩ (by omega) (by omega)
  have c4 := mul_lim (x := P5 (-e)) (y := P2 (0 - (p + e))) (a := 800) (b := 1500) ⟨by omega, a2⟩ ⟨by omega, b2⟩ (by omega) (by omega)
  rw [PB224]
  have g : ∀ k : Int, 0 ≤ k → k < 6720 → P2 k < P2 6720 := fun k h1 h2 => P2_lt h1 h2
  have g1 := g (53 + 800) (by omega) (by omega)
  have g2 := g 800 (by omega) (by omega)
  have g3 := g (53 + 800 + 1400 + 29) (by omega) (by omega)
  have g4 := g (800 + 1500) (by omega) (by omega)
  exact ⟨by omega, by omega, by omega, by omega⟩
theorem dec_q {m p r L e : Int} {d : Nat} (hd : 1 ≤ d ∧ d ≤ 18) (hm : 0 < m) (hr : BL m r) (hL : L = r + p - 1) (h : -1074 ≤ L ∧ L ≤ 1023) (he : e = (d : Int) - 1 - ex10 L) : m * P5 e * P2 (p + e - 0) < P5 (-e) * P2 (0 - (p + e)) * 4611686018427387904 := by
  have a := dc_div (ix := decide (m * P5 e * P2 (p + e - 0) % (P5 (-e) * P2 (0 - (p + e))) ≠ 0)) hd.1 hm hr hL h he rfl (by rw [decide_eq_true_iff])
  have b := a.2.2.2
  have Y : 0 < P5 (-e) * P2 (0 - (p + e)) := Int.mul_pos (P5_pos _) (P2_pos _)
  have c := Int.lt_ediv_add_one_mul_self (m * P5 e * P2 (p + e - 0)) Y
  have m1 := PT10_mono hd.2
  rw [PT10_18] at m1
  have m2 := Int.mul_le_mul_of_nonneg_right (show m * P5 e * P2 (p + e - 0) / (P5 (-e) * P2 (0 - (p + e))) + 1 ≤ 4611686018427387904 by omega) (show 0 ≤ P5 (-e) * P2 (0 - (p + e)) by omega)
  rw [Int.mul_comm (P5 (-e) * P2 (0 - (p + e)))]
  omega
/-- plain chars -/
def BdL (L : List Int) : Prop := ∀ x ∈ L, 0 ≤ x ∧ x < 128
theorem BdL_nil : BdL [] := fun x h => by cases h
theorem BdL_cons {x : Int} {L : List Int} (hx : 0 ≤ x ∧ x < 128) (h : BdL L) : BdL (x :: L) := fun y hy => by
  rcases List.mem_cons.mp hy with z | z
  · rw [z]; exact hx
  · exact h y z
theorem BdL_app {L M : List Int} (h : BdL L) (g : BdL M) : BdL (L ++ M) := fun x hx => (List.mem_append.mp hx).elim (h x) (g x)
theorem BdL_1 {x : Int} (hx : 0 ≤ x ∧ x < 128) : BdL [x] := BdL_cons hx BdL_nil
theorem BdL_at {L : List Int} (h : BdL L) (k : Nat) : 0 ≤ L.getD k 0 ∧ L.getD k 0 < 128 := by
  rw [List.getD_eq_getElem?_getD]
  cases z : L[k]? with
  | none => show (0 : Int) ≤ 0 ∧ (0 : Int) < 128; omega
  | some x => exact h x (List.mem_of_getElem? z)
theorem BdL_str : ∀ i : Nat, BdL (strByt.getD i []) := by
  intro i x hx
  have all : ∀ l ∈ strByt, ∀ x ∈ l, 0 ≤ x ∧ x < 128 := by decide +kernel
  rw [List.getD_eq_getElem?_getD] at hx
  cases z : strByt[i]? with
  | none => rw [z] at hx; cases hx
  | some l => rw [z] at hx; exact all l (List.mem_of_getElem? z) x hx
theorem dF_bd : ∀ (k : Nat) (u y : Int) (sh : Bool), BdL (dF k u y sh)
  | 0, _, _, _ => BdL_nil
  | k + 1, u, y, sh => by
    rw [dF]
    split
    · exact BdL_cons (by omega) (dF_bd k _ _ _)
    · exact dF_bd k _ _ _
theorem EXT_bd (x : Int) : BdL (EXT x) := by
  unfold EXT sgnL
  refine BdL_app ?_ (dF_bd _ _ _ _)
  split
  · exact BdL_1 (by omega)
  · exact BdL_nil
theorem gF_bd : ∀ (k : Nat) (u x : Int), BdL (gF k u x)
  | 0, _, _ => BdL_nil
  | k + 1, u, x => by rw [gF]; exact BdL_cons (by omega) (gF_bd k _ _)
theorem DIG_bd (x : Int) (d : Nat) : BdL (DIG x d) := by
  unfold DIG
  refine BdL_cons (by omega) (BdL_app ?_ (gF_bd _ _ _))
  split
  · exact BdL_1 (by omega)
  · exact BdL_nil
theorem hF_bd (x : Int) : ∀ k : Nat, BdL (hF x k)
  | 0 => BdL_nil
  | k + 1 => by rw [hF]; exact BdL_cons (by unfold hxc; split <;> omega) (hF_bd x k)
theorem B16_bd (x : Int) : BdL (B16 x) := by
  unfold B16
  refine BdL_app ?_ (BdL_app (hF_bd _ _) (BdL_app (BdL_1 (by omega)) (EXT_bd _)))
  split
  · exact BdL_str 22
  · exact BdL_str 23
theorem ENDL_bd {f d : Int} {up : Bool} {M : List Int} (h : ENDL f d up M) : BdL M := by
  obtain ⟨K, e, h⟩ := h
  rw [e]
  refine BdL_app ?_ ?_
  · unfold sgnL; split
    · exact BdL_1 (by omega)
    · exact BdL_nil
  · rcases h with ⟨_, h⟩ | ⟨_, h⟩ | ⟨_, _, h⟩ | ⟨_, _, num, ex, _, h⟩ <;> rw [h]
    · exact BdL_1 (by omega)
    · exact BdL_str 21
    · exact B16_bd _
    · exact BdL_app (BdL_app (DIG_bd _ _) (BdL_1 (by omega))) (EXT_bd _)
theorem INTL_bd {lo hi d : Int} {M : List Int} (h : INTL lo hi d M) : BdL M := by
  rcases h with ⟨_, _, h⟩ | ⟨_, A, B, a, b, h⟩ <;> rw [h]
  · exact BdL_str 20
  · refine BdL_app (BdL_app (BdL_1 (by omega)) ?_) (BdL_1 (by omega))
    split
    · exact ENDL_bd a
    · exact BdL_app (BdL_app (ENDL_bd a) (BdL_1 (by omega))) (ENDL_bd b)
theorem INTL_len {lo hi d : Int} {M : List Int} (hd : d ≤ 18) (h : INTL lo hi d M) : (M.length : Int) ≤ 57 := by
  rcases h with ⟨_, _, h⟩ | ⟨_, A, B, a, b, h⟩ <;> rw [h]
  · rw [show (strByt.getD 20 []).length = 8 from rfl]; omega
  · have := ENDL_len hd a
    have := ENDL_len hd b
    split <;> simp only [List.length_append, List.length_cons, List.length_nil] <;> omega
