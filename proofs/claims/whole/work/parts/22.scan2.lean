/-! NUMBERS of a text -/
theorem P5_P2 {k : Int} (hk : 0 ≤ k) : P5 k ≤ P2 (7 * ((k + 2) / 3)) := by
  have h3 : ∀ j : Int, 0 ≤ j → P5 (3 * j) ≤ P2 (7 * j) := by
    intro j hj
    refine z_ind (P := fun j => P5 (3 * j) ≤ P2 (7 * j)) (Int.le_refl _) ?_ hj
    intro j h0 ih
    rw [show 3 * (j + 1) = 3 * j + 3 by omega, P5_add (by omega) (by omega), show 7 * (j + 1) = 7 * j + 7 by omega, P2_add (by omega) (by omega)]
    have e1 : P5 3 = 125 := by decide +kernel
    have e2 : P2 7 = 128 := by decide +kernel
    rw [e1, e2]
    have := P5_pos (3 * j)
    omega
  have m : P5 k ≤ P5 (3 * ((k + 2) / 3)) := by
    have e : 3 * ((k + 2) / 3) = k + (3 * ((k + 2) / 3) - k) := by omega
    rw [e, P5_add hk (by omega)]
    have p1 := P5_pos k
    have p2 := P5_pos (3 * ((k + 2) / 3) - k)
    have := Int.mul_le_mul_of_nonneg_left (show 1 ≤ P5 (3 * ((k + 2) / 3) - k) by omega) (show 0 ≤ P5 k by omega)
    omega
  have := h3 ((k + 2) / 3) (by omega)
  omega
abbrev z0 : DgS := (0, 0, 0, false)
/-- (right, where it ends, negative, top, bottom, power of 2) -/
def NUM (t : Int → Int) (n p : Int) : Bool × Int × Bool × Int × Int × Int :=
  if wdB t n (sgP t n p) 6 then
    if 0 < (DGs t n 16 true (sgP t n p + (strLen 6 : Int)) z0).2.2.1 then
      ((EXP t n 112 (Int.toNat 4) false (DGs t n 16 true (sgP t n p + (strLen 6 : Int)) z0).1).1, (EXP t n 112 (Int.toNat 4) false (DGs t n 16 true (sgP t n p + (strLen 6 : Int)) z0).1).2.1, sgN t n p, (DGs t n 16 true (sgP t n p + (strLen 6 : Int)) z0).2.1, 1,
        (EXP t n 112 (Int.toNat 4) false (DGs t n 16 true (sgP t n p + (strLen 6 : Int)) z0).1).2.2 - 4 * (DGs t n 16 true (sgP t n p + (strLen 6 : Int)) z0).2.2.2.1)
    else (false, 0, false, 0, 1, 0)
  else
    if 0 < (DGs t n 10 true (sgP t n p) z0).2.2.1 then
      if (DGs t n 10 true (sgP t n p) z0).2.2.2.2 = false ∧ wdB t n (DGs t n 10 true (sgP t n p) z0).1 7 = true then
        (decide (0 < (DGs t n 10 false ((DGs t n 10 true (sgP t n p) z0).1 + (strLen 7 : Int)) z0).2.2.1 ∧ 0 < (DGs t n 10 false ((DGs t n 10 true (sgP t n p) z0).1 + (strLen 7 : Int)) z0).2.1), (DGs t n 10 false ((DGs t n 10 true (sgP t n p) z0).1 + (strLen 7 : Int)) z0).1, sgN t n p, (DGs t n 10 true (sgP t n p) z0).2.1, (DGs t n 10 false ((DGs t n 10 true (sgP t n p) z0).1 + (strLen 7 : Int)) z0).2.1, 0)
      else
        ((EXP t n 101 (Int.toNat 3) true (DGs t n 10 true (sgP t n p) z0).1).1, (EXP t n 101 (Int.toNat 3) true (DGs t n 10 true (sgP t n p) z0).1).2.1, sgN t n p, (DGs t n 10 true (sgP t n p) z0).2.1 * P5 ((EXP t n 101 (Int.toNat 3) true (DGs t n 10 true (sgP t n p) z0).1).2.2 - (DGs t n 10 true (sgP t n p) z0).2.2.2.1), P5 (-((EXP t n 101 (Int.toNat 3) true (DGs t n 10 true (sgP t n p) z0).1).2.2 - (DGs t n 10 true (sgP t n p) z0).2.2.2.1)), (EXP t n 101 (Int.toNat 3) true (DGs t n 10 true (sgP t n p) z0).1).2.2 - (DGs t n 10 true (sgP t n p) z0).2.2.2.1)
    else (false, 0, false, 0, 1, 0)
theorem NUM_h0 {t : Int → Int} {n p : Int} (h : wdB t n (sgP t n p) 6 = true) (hc : ¬ 0 < (DGs t n 16 true (sgP t n p + (strLen 6 : Int)) z0).2.2.1) : (NUM t n p).1 = false := by unfold NUM; rw [if_pos h, if_neg hc]
theorem NUM_h {t : Int → Int} {n p q v c fr : Int} {hp : Bool} (h : wdB t n (sgP t n p) 6 = true) (hd : DGs t n 16 true (sgP t n p + (strLen 6 : Int)) z0 = (q, v, c, fr, hp)) (hc : 0 < c) : NUM t n p = ((EXP t n 112 (Int.toNat 4) false q).1, (EXP t n 112 (Int.toNat 4) false q).2.1, sgN t n p, v, 1, (EXP t n 112 (Int.toNat 4) false q).2.2 - 4 * fr) := by
  unfold NUM; rw [if_pos h, hd, if_pos hc]
theorem NUM_d0 {t : Int → Int} {n p : Int} (h : wdB t n (sgP t n p) 6 = false) (hc : ¬ 0 < (DGs t n 10 true (sgP t n p) z0).2.2.1) : (NUM t n p).1 = false := by unfold NUM; rw [if_neg (by rw [h]; decide), if_neg hc]
theorem NUM_r {t : Int → Int} {n p q v c fr : Int} {hp : Bool} (h : wdB t n (sgP t n p) 6 = false) (hd : DGs t n 10 true (sgP t n p) z0 = (q, v, c, fr, hp)) (hc : 0 < c) (hh : hp = false) (hs : wdB t n q 7 = true) : NUM t n p = (decide (0 < (DGs t n 10 false (q + (strLen 7 : Int)) z0).2.2.1 ∧ 0 < (DGs t n 10 false (q + (strLen 7 : Int)) z0).2.1), (DGs t n 10 false (q + (strLen 7 : Int)) z0).1, sgN t n p, v, (DGs t n 10 false (q + (strLen 7 : Int)) z0).2.1, 0) := by
  unfold NUM; rw [if_neg (by rw [h]; decide), hd, if_pos hc, if_pos ⟨hh, hs⟩]
theorem NUM_d {t : Int → Int} {n p q v c fr : Int} {hp : Bool} (h : wdB t n (sgP t n p) 6 = false) (hd : DGs t n 10 true (sgP t n p) z0 = (q, v, c, fr, hp)) (hc : 0 < c) (hh : hp = true ∨ wdB t n q 7 = false) : NUM t n p = ((EXP t n 101 (Int.toNat 3) true q).1, (EXP t n 101 (Int.toNat 3) true q).2.1, sgN t n p, v * P5 ((EXP t n 101 (Int.toNat 3) true q).2.2 - fr), P5 (-((EXP t n 101 (Int.toNat 3) true q).2.2 - fr)), (EXP t n 101 (Int.toNat 3) true q).2.2 - fr) := by
  unfold NUM; rw [if_neg (by rw [h]; decide), hd, if_pos hc, if_neg (fun z => hh.elim (fun q => by rw [q] at z; cases z.1) (fun q => by rw [q] at z; cases z.2))]
/-- the sizes of a number that has so many chars -/
theorem num_size {v k len : Int} (hv : 0 ≤ v ∧ v < P2 (4 * k)) (hk : 0 ≤ k ∧ k ≤ len) (e : Int) (he : e < 1000) : 0 ≤ v * P5 e ∧ v * P5 e < P2 (4 * len + 2340) := by
  have p := P5_pos e
  refine ⟨Int.mul_nonneg hv.1 (by omega), ?_⟩
  rcases Int.lt_or_le e 0 with q | q
  · rw [P5_0 (by omega), Int.mul_one]
    have := P2_mono (show 4 * k ≤ 4 * len + 2340 by omega)
    omega
  · have a := P5_P2 q
    have b := P2_mono (show 7 * ((e + 2) / 3) ≤ 2331 by omega)
    have m1 := Int.mul_lt_mul_of_pos_right hv.2 p
    have m2 := Int.mul_le_mul_of_nonneg_left (show P5 e ≤ P2 2331 by omega) (show 0 ≤ P2 (4 * k) by have := P2_pos (4 * k); omega)
    rw [← P2_add (by omega) (by omega)] at m2
    have := P2_mono (show 4 * k + 2331 ≤ 4 * len + 2340 by omega)
    omega
theorem num_bot {len e : Int} (hl : 0 ≤ len) (he : e < 1000 + len) : 0 < P5 e ∧ P5 e < P2 (4 * len + 2340) := by
  have p := P5_pos e
  refine ⟨p, ?_⟩
  rcases Int.lt_or_le e 0 with q | q
  · rw [P5_0 (by omega)]
    have := P2_mono (show 1 ≤ 4 * len + 2340 by omega)
    have e1 : P2 1 = 2 := rfl
    omega
  · have a := P5_P2 q
    have := P2_lt (show 0 ≤ 7 * ((e + 2) / 3) by omega) (show 7 * ((e + 2) / 3) < 4 * len + 2340 by omega)
    omega
theorem num_one {len : Int} (hl : 0 ≤ len) : (1 : Int) < P2 (4 * len + 2340) := by
  have := P2_lt (show (0 : Int) ≤ 0 by omega) (show 0 < 4 * len + 2340 by omega)
  rw [P2_0] at this; exact this
theorem num_fit {x len : Int} (h : x < P2 (4 * len + 2340)) (hl : len ≤ 400) : x < PB 224 := by
  rw [PB224]
  have := P2_mono (show 4 * len + 2340 ≤ 6720 by omega)
  omega
theorem num_mono {x a b : Int} (h : x < P2 (4 * a)) (hab : a ≤ b) : x < P2 (4 * b + 2340) := by
  have := P2_mono (show 4 * a ≤ 4 * b + 2340 by omega)
  omega
theorem NUM_rt {t : Int → Int} {n p q v c fr q2 v2 c2 fr2 : Int} {hp hp2 : Bool} (h : wdB t n (sgP t n p) 6 = false) (hd : DGs t n 10 true (sgP t n p) z0 = (q, v, c, fr, hp)) (hc : 0 < c) (hh : hp = false) (hs : wdB t n q 7 = true) (hd2 : DGs t n 10 false (q + (strLen 7 : Int)) z0 = (q2, v2, c2, fr2, hp2)) (hc2 : 0 < c2) (hv2 : 0 < v2) : NUM t n p = (true, q2, sgN t n p, v, v2, 0) := by
  rw [NUM_r h hd hc hh hs, hd2, decide_eq_true ⟨hc2, hv2⟩]
theorem NUM_rf {t : Int → Int} {n p q v c fr q2 v2 c2 fr2 : Int} {hp hp2 : Bool} (h : wdB t n (sgP t n p) 6 = false) (hd : DGs t n 10 true (sgP t n p) z0 = (q, v, c, fr, hp)) (hc : 0 < c) (hh : hp = false) (hs : wdB t n q 7 = true) (hd2 : DGs t n 10 false (q + (strLen 7 : Int)) z0 = (q2, v2, c2, fr2, hp2)) (hc2 : ¬ 0 < c2 ∨ ¬ 0 < v2) : (NUM t n p).1 = false := by
  rw [NUM_r h hd hc hh hs, hd2]
  exact decide_eq_false (fun z => hc2.elim (fun y => y z.1) (fun y => y z.2))
theorem EXP_rng2 {t : Int → Int} {n letter p : Int} {most : Nat} {mm : Bool} : -(10 ^ most) < (EXP t n letter most mm p).2.2 ∧ (EXP t n letter most mm p).2.2 < 10 ^ most := by
  have p1 : (0 : Int) < 10 ^ most := Int.pow_pos (by decide)
  unfold EXP
  split
  · simp only; omega
  · have v := exL_val (t := t) (n := n) most (sgP t n (p + 1)) 0 0 (Int.le_refl _)
    rw [Int.zero_add, Int.one_mul] at v
    simp only
    split <;> omega
theorem EXP_3 {t : Int → Int} {n letter p x : Int} {mm : Bool} (h : x = (EXP t n letter (Int.toNat 3) mm p).2.2) : -1000 < x ∧ x < 1000 := by
  have r := EXP_rng2 (t := t) (n := n) (letter := letter) (p := p) (most := Int.toNat 3) (mm := mm)
  rw [← h, show (10 : Int) ^ (Int.toNat 3) = 1000 by decide +kernel] at r
  exact r
