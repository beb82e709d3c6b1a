theorem ifc {α : Type} {p q : Prop} [Decidable p] [Decidable q] (h : p ↔ q) {x y : α} : (if p then x else y) = if q then x else y := by
  by_cases z : p
  · rw [if_pos z, if_pos (h.mp z)]
  · rw [if_neg z, if_neg (fun w => z (h.mpr w))]
/-! the mark's line stops the scan -/
section Lim
variable {t : Int → Int} {N s : Int}
theorem rat_iff (hs : 0 ≤ s ∧ s < N) (h95 : t s = 95) {q x : Int} (hq : q ≤ s) (hx : x ≠ 95 ∧ x ≠ -1) : rat t N q = x ↔ rat t s q = x := by
  by_cases e : q = s
  · rw [e, (rat_at hs).1, (rat_at hs).2, h95]
    exact ⟨fun z => absurd z.symm hx.1, fun z => absurd z.symm hx.2⟩
  · rw [rat_lim (show q < s by omega) (by omega)]
theorem sk_l (hs : 0 ≤ s ∧ s < N) (h95 : t s = 95) {q : Int} (hq : q ≤ s) : sk t N q = sk t s q ∧ q ≤ sk t s q ∧ sk t s q ≤ s := by
  have r := sk_rng (t := t) (n := s) _ q rfl hq
  exact ⟨sk_lim hs.2 (by rw [h95]; decide) hq, r.1, r.2.1⟩
theorem wd_l (hs : 0 ≤ s ∧ s < N) (h95 : t s = 95) {q : Int} {i : Nat} (hi : (95 : Int) ∉ strByt.getD i []) (hq : q ≤ s) : wdB t N q i = wdB t s q i ∧ wq t N q i = wq t s q i ∧ q ≤ wq t s q i ∧ wq t s q i ≤ s ∧ (wdB t s q i = true → q + (strLen i : Int) ≤ s) := by
  have w := wd_lim (t := t) (p := q) (i := i) hs (by rw [h95]; exact hi) hq
  refine ⟨w.1, ?_, ?_, ?_, w.2⟩
  · unfold wq; rw [w.1]
  · unfold wq; split <;> omega
  · unfold wq; split
    · next z => exact w.2 z
    · exact hq
theorem inf_l (hs : 0 ≤ s ∧ s < N) (h95 : t s = 95) {q : Int} {i : Nat} (hi : (95 : Int) ∉ strByt.getD i []) (hq : q ≤ s) : infq t N q i = infq t s q i ∧ q ≤ infq t s q i ∧ infq t s q i ≤ s := by
  have w := wd_l hs h95 (q := q) (i := i) hi hq
  unfold infq
  rw [w.1]
  cases z : wdB t s q i with
  | false => exact ⟨rfl, Int.le_refl _, hq⟩
  | true =>
    have w5 := wd_l hs h95 (q := q + (strLen i : Int)) (i := 5) (by decide) (w.2.2.2.2 z)
    exact ⟨w5.2.1, by have := w5.2.2.1; show q ≤ wq t s (q + (strLen i : Int)) 5; omega, w5.2.2.2.1⟩
theorem E4_l (hs : 0 ≤ s ∧ s < N) (h95 : t s = 95) {q : Int} (ob oa : Bool) (N1 N2 : NQ) (hq : q ≤ s) : E4 t N ob oa N1 N2 q = E4 t s ob oa N1 N2 q := by
  have k := sk_l hs h95 hq
  have w := wd_l hs h95 (q := sk t s q) (i := 2) (by decide) k.2.2
  unfold E4; rw [k.1, w.1, w.2.1]
theorem E3_l (hs : 0 ≤ s ∧ s < N) (h95 : t s = 95) {q : Int} (ob oa : Bool) (N1 : NQ) (h0 : 0 ≤ q) (hq : q ≤ s) : E3 t N ob oa N1 q = E3 t s ob oa N1 q := by
  have nm : NUM t N q = NUM t s q := NUM_lim hs (by rw [h95]; exact stp_93.2.2.2.2) hq
  unfold E3
  rw [nm, E4_l hs h95 ob true N1 n0 hq]
  by_cases z : (NUM t s q).1 = true
  · rw [E4_l hs h95 ob false N1 _ (NUM_rng ⟨h0, hq⟩ z).2]
  · rw [if_neg z, if_neg z]
theorem E2_l (hs : 0 ≤ s ∧ s < N) (h95 : t s = 95) {q : Int} (ob : Bool) (N1 : NQ) (h0 : 0 ≤ q) (hq : q ≤ s) : E2 t N ob N1 q = E2 t s ob N1 q := by
  have w9 := wd_l hs h95 (q := q) (i := 9) (by decide) hq
  have w10 := wd_l hs h95 (q := q) (i := 10) (by decide) hq
  have i9 := inf_l hs h95 (q := q) (i := 9) (by decide) hq
  have i10 := inf_l hs h95 (q := q) (i := 10) (by decide) hq
  unfold E2
  rw [ifc (rat_iff hs h95 hq (x := 93) (by decide)), w9.1, w10.1, i9.1, i10.1, E3_l hs h95 ob true N1 h0 hq, E3_l hs h95 ob true N1 (by omega) i9.2.2, E3_l hs h95 ob true N1 (by omega) i10.2.2, E3_l hs h95 ob false N1 h0 hq]
theorem E1_l (hs : 0 ≤ s ∧ s < N) (h95 : t s = 95) {q : Int} (ob : Bool) (N1 : NQ) (h0 : 0 ≤ q) (hq : q ≤ s) : E1 t N ob N1 q = E1 t s ob N1 q := by
  have k := sk_l hs h95 hq
  have k2 := sk_l hs h95 (q := sk t s q) k.2.2
  have w2 := wd_l hs h95 (q := sk t s (sk t s q)) (i := 2) (by decide) k2.2.2
  have w8 := wd_l hs h95 (q := sk t s q) (i := 8) (by decide) k.2.2
  unfold E1
  rw [k.1, k2.1, w2.1, w2.2.1, w8.1, ifc (and_congr Iff.rfl (rat_iff hs h95 k.2.2 (x := 93) (by decide)))]
  cases z : wdB t s (sk t s q) 8 with
  | false => rfl
  | true =>
    have k3 := sk_l hs h95 (q := sk t s q + (strLen 8 : Int)) (w8.2.2.2.2 z)
    have l8 : (strLen 8 : Int) = 1 := rfl
    rw [k3.1, E2_l hs h95 ob N1 (by omega) k3.2.2]
theorem E0_l (hs : 0 ≤ s ∧ s < N) (h95 : t s = 95) {q : Int} (ob : Bool) (h0 : 0 ≤ q) (hq : q ≤ s) : E0 t N ob q = E0 t s ob q := by
  have nm : NUM t N q = NUM t s q := NUM_lim hs (by rw [h95]; exact stp_93.2.2.2.2) hq
  unfold E0
  rw [nm, E1_l hs h95 true n0 h0 hq]
  by_cases z : (NUM t s q).1 = true
  · have r := NUM_rng ⟨h0, hq⟩ z
    rw [E1_l hs h95 false _ (by omega) r.2]
  · rw [if_neg z, if_neg z]
theorem ENDS_l (hs : 0 ≤ s ∧ s < N) (h95 : t s = 95) {q : Int} (h0 : 0 ≤ q) (hq : q ≤ s) : ENDS t N q = ENDS t s q := by
  have w4 := wd_l hs h95 (q := q) (i := 4) (by decide) hq
  have i4 := inf_l hs h95 (q := q) (i := 4) (by decide) hq
  unfold ENDS
  rw [ifc (rat_iff hs h95 hq (x := 44) (by decide)), w4.1, i4.1, E0_l hs h95 true h0 hq, E0_l hs h95 true (by omega) i4.2.2, E0_l hs h95 false h0 hq]
theorem CLO_l (hs : 0 ≤ s ∧ s < N) (h95 : t s = 95) {q : Int} (em op : Bool) (hq : q ≤ s) : CLO t N q em op = CLO t s q em op := by
  have k := sk_l hs h95 hq
  have w := wd_l hs h95 (q := sk t s q) (i := 2) (by decide) k.2.2
  unfold CLO; rw [k.1, w.1, w.2.1]
theorem BRK_l (hs : 0 ≤ s ∧ s < N) (h95 : t s = 95) {q : Int} (h0 : 0 ≤ q) (hq : q ≤ s) : BRK t N q = BRK t s q := by
  have w0 := wd_l hs h95 (q := q) (i := 0) (by decide) hq
  have k := sk_l hs h95 (q := wq t s q 0) w0.2.2.2.1
  have w1 := wd_l hs h95 (q := sk t s (wq t s q 0)) (i := 1) (by decide) k.2.2
  have w3 := wd_l hs h95 (q := sk t s (wq t s q 0)) (i := 3) (by decide) k.2.2
  have l1 : (strLen 1 : Int) = 5 := rfl
  have l3 : (strLen 3 : Int) = 6 := rfl
  unfold BRK
  rw [w0.2.1, k.1, w1.1, w3.1, ifc (rat_iff hs h95 k.2.2 (x := 93) (by decide)), CLO_l hs h95 true false k.2.2, ENDS_l hs h95 (by omega) k.2.2]
  cases z1 : wdB t s (sk t s (wq t s q 0)) 1 with
  | true => rw [if_pos rfl, if_pos rfl, CLO_l hs h95 true false (w1.2.2.2.2 z1)]
  | false =>
    cases z3 : wdB t s (sk t s (wq t s q 0)) 3 with
    | true => rw [CLO_l hs h95 false true (w3.2.2.2.2 z3)]; rfl
    | false => rfl
theorem SP3_l (hs : 0 ≤ s ∧ s < N) (h95 : t s = 95) {x v w pw f : Int} (far up dn neg : Bool) (hx : x ≤ s) : SP3 t N far up dn neg v w pw f x = SP3 t s far up dn neg v w pw f x := by
  unfold SP3
  rw [(EXP_lim (t := t) (n := N) (s := s) (p := x) (le := 101) (most := Int.toNat 3) (mm := true) hs ⟨by rw [h95]; decide, by rw [h95]; decide, by rw [h95]; decide, by rw [h95]; decide⟩ (by decide) hx).1]
theorem SP2_l (hs : 0 ≤ s ∧ s < N) (h95 : t s = 95) {x v w pw f : Int} (far neg : Bool) (hx : x ≤ s) : SP2 t N far neg v w pw f x = SP2 t s far neg v w pw f x := by
  have w12 := wd_l hs h95 (q := x) (i := 12) (by decide) hx
  have w13 := wd_l hs h95 (q := x) (i := 13) (by decide) hx
  unfold SP2
  rw [w12.1, w13.1, SP3_l hs h95 far false false neg hx]
  cases z : wdB t s x 12 with
  | true => rw [if_pos rfl, if_pos rfl, SP3_l hs h95 far true false neg (w12.2.2.2.2 z)]
  | false =>
    cases y : wdB t s x 13 with
    | true => rw [SP3_l hs h95 far false true neg (w13.2.2.2.2 y)]; rfl
    | false => rfl
theorem DG_l (hs : 0 ≤ s ∧ s < N) (h95 : t s = 95) {x : Int} (pm : Bool) (hx : x ≤ s) : DGs t N 10 pm x z0 = DGs t s 10 pm x z0 ∧ x ≤ (DGs t s 10 pm x z0).1 ∧ (DGs t s 10 pm x z0).1 ≤ s := by
  refine ⟨DGs_lim hs ⟨by rw [h95]; decide, by rw [h95]; decide⟩ (by decide) _ x z0 rfl hx, ?_⟩
  exact DGs_rng _ x z0 rfl hx
theorem SP1_l (hs : 0 ≤ s ∧ s < N) (h95 : t s = 95) {x v f : Int} (neg : Bool) (hx : x ≤ s) : SP1 t N neg v f x = SP1 t s neg v f x := by
  have w11 := wd_l hs h95 (q := x) (i := 11) (by decide) hx
  have d := DG_l hs h95 (x := x) false hx
  unfold SP1
  rw [w11.1, d.1, SP2_l hs h95 false neg d.2.2, SP2_l hs h95 false neg d.2.2]
  cases z : wdB t s x 11 with
  | true => rw [if_pos rfl, if_pos rfl, SP2_l hs h95 true neg (w11.2.2.2.2 z)]
  | false => rfl
theorem SPR_l (hs : 0 ≤ s ∧ s < N) (h95 : t s = 95) {q : Int} (hq : q ≤ s) : SPR t N q = SPR t s q := by
  have sg := sg_lim (t := t) (n := N) (s := s) (p := q) hs ⟨by rw [h95]; decide, by rw [h95]; decide⟩ hq
  have d := DG_l hs h95 (x := sgP t s q) true (by rw [← sg.1]; exact sg.2.2)
  have w11 := wd_l hs h95 (q := (DGs t s 10 true (sgP t s q) z0).1) (i := 11) (by decide) d.2.2
  unfold SPR
  rw [sg.1, sg.2.1, d.1, w11.1]
  by_cases z : 0 < (DGs t s 10 true (sgP t s q) z0).2.2.1 ∧ wdB t s (DGs t s 10 true (sgP t s q) z0).1 11 = true
  · rw [if_pos z, if_pos z, SP1_l hs h95 _ (w11.2.2.2.2 z.2)]
  · rw [if_neg z, if_neg z]
theorem SCN_l (hs : 0 ≤ s ∧ s < N) (h95 : t s = 95) {q : Int} (h0 : 0 ≤ q) (hq : q ≤ s) : SCN t N q = SCN t s q := by
  unfold SCN
  rw [ifc (rat_iff hs h95 hq (x := 91) (by decide)), BRK_l hs h95 h0 hq, SPR_l hs h95 hq]
end Lim
/-- floats that come of rounding downward are never above all, nor upward below all -/
theorem rnd_dn {N : NQ} {r : Int} (h : rndQ false N r) : r % 9223372036854775808 = 9218868437227405312 ↔ r = -4503599627370496 := by
  rcases h with ⟨_, h⟩ | ⟨_, n, hn, hs⟩
  · rw [h]; decide
  · have rg := RSZ_rng hs
    unfold FL at hn
    cases q : N.1 with
    | false =>
      rw [q] at hn hs
      have := (hs.1 rfl).1
      rw [if_neg (fun z => by cases z.1)] at hn
      omega
    | true =>
      rw [q] at hn
      by_cases z : n = 0
      · rw [if_neg (fun y => y.2 z)] at hn; omega
      · rw [if_pos ⟨rfl, z⟩] at hn; omega
theorem rnd_up {N : NQ} {r : Int} (h : rndQ true N r) : r % 9223372036854775808 = 9218868437227405312 ↔ r = 9218868437227405312 := by
  rcases h with ⟨_, h⟩ | ⟨_, n, hn, hs⟩
  · rw [h]; decide
  · have rg := RSZ_rng hs
    unfold FL at hn
    cases q : N.1 with
    | false =>
      rw [q] at hn
      rw [if_neg (fun z => by cases z.1)] at hn
      omega
    | true =>
      rw [q] at hn hs
      have := (hs.1 rfl).1
      by_cases z : n = 0
      · rw [if_neg (fun y => y.2 z)] at hn; omega
      · rw [if_pos ⟨rfl, z⟩] at hn; omega
/-- the mark's word -/
theorem mk_wd {t : Int → Int} {n p : Int} (hp : 0 ≤ p ∧ p < n) (h95 : t p = 95) : wdB t n p 14 = wdB t n (p + 1) 32 ∧ wdB t n p 15 = wdB t n (p + 1) 33 ∧ wdB t n p 16 = wdB t n (p + 1) 34 ∧ wdB t n p 17 = wdB t n (p + 1) 35 := by
  have r : rat t n p = 95 := by rw [rat_in hp]; exact h95
  refine ⟨?_, ?_, ?_, ?_⟩
  · show (decide (rat t n p = 95) && wdL t n (p + 1) [99, 111, 109]) = _; rw [decide_eq_true r]; rfl
  · show (decide (rat t n p = 95) && wdL t n (p + 1) [100, 97, 99]) = _; rw [decide_eq_true r]; rfl
  · show (decide (rat t n p = 95) && wdL t n (p + 1) [100, 101, 102]) = _; rw [decide_eq_true r]; rfl
  · show (decide (rat t n p = 95) && wdL t n (p + 1) [116, 114, 118]) = _; rw [decide_eq_true r]; rfl
/-- the class's search of the mark's word is the reference's -/
theorem mk_tie {t : Int → Int} {n p s : Int} (hp : 0 ≤ p ∧ p < n) (h95 : t p = 95) (hs : s = 1 ∨ s = 3 ∨ s = 4) : mkF t n p s.toNat 1 = if MKW t (p + 1) n ≤ s then MKW t (p + 1) n else 0 := by
  obtain ⟨w4, w3, w2, w1⟩ := mk_wd (t := t) (n := n) hp h95
  have x12 : ∀ i j : Nat, (i = 32 ∨ i = 33 ∨ i = 34 ∨ i = 35) → (j = 32 ∨ j = 33 ∨ j = 34 ∨ j = 35) → wdB t n (p + 1) i = true → wdB t n (p + 1) j = true → i = j := by
    intro i j hi hj a b
    have key : ∀ (i : Nat) (x y z : Int), strByt.getD i [] = [x, y, z] → wdB t n (p + 1) i = true → rat t n (p + 1) = x ∧ rat t n (p + 1 + 1) = y := by
      intro i x y z e h
      unfold wdB at h
      rw [e, wdL, wdL, Bool.and_eq_true, Bool.and_eq_true] at h
      exact ⟨of_decide_eq_true h.1, of_decide_eq_true h.2.1⟩
    rcases hi with hi | hi | hi | hi <;> rcases hj with hj | hj | hj | hj <;> subst hi <;> subst hj <;> first | rfl | (exfalso; first
      | (have q := key 32 99 111 109 rfl a; first | (have r := key 33 100 97 99 rfl b; omega) | (have r := key 34 100 101 102 rfl b; omega) | (have r := key 35 116 114 118 rfl b; omega))
      | (have q := key 33 100 97 99 rfl a; first | (have r := key 32 99 111 109 rfl b; omega) | (have r := key 34 100 101 102 rfl b; omega) | (have r := key 35 116 114 118 rfl b; omega))
      | (have q := key 34 100 101 102 rfl a; first | (have r := key 32 99 111 109 rfl b; omega) | (have r := key 33 100 97 99 rfl b; omega) | (have r := key 35 116 114 118 rfl b; omega))
      | (have q := key 35 116 114 118 rfl a; first | (have r := key 32 99 111 109 rfl b; omega) | (have r := key 33 100 97 99 rfl b; omega) | (have r := key 34 100 101 102 rfl b; omega)))
  have len : ∀ i : Nat, (i = 32 ∨ i = 33 ∨ i = 34 ∨ i = 35) → (strLen i : Int) = 3 := by intro i hi; rcases hi with h | h | h | h <;> subst h <;> rfl
  have st : ∀ (f : Nat) (k : Int), mkF t n p (f + 1) k = if wdB t n p (mkI k) then (if p + 4 = n then k else 0) else mkF t n p f (k + 1) := fun _ _ => rfl
  have m1 : mkI 1 = 17 := rfl
  have m2 : mkI (1 + 1) = 16 := rfl
  have m3 : mkI (1 + 1 + 1) = 15 := rfl
  have m4 : mkI (1 + 1 + 1 + 1) = 14 := rfl
  have sl : ∀ i : Nat, (i = 32 ∨ i = 33 ∨ i = 34 ∨ i = 35) → slw t (p + 1) n i = (decide (p + 4 = n) && wdB t n (p + 1) i) := by
    intro i hi
    unfold slw
    rw [len i hi]
    congr 1
    by_cases z : p + 4 = n
    · rw [decide_eq_true z, decide_eq_true (by omega)]
    · rw [decide_eq_false z, decide_eq_false (by omega)]
  unfold MKW
  rw [sl 32 (by decide), sl 33 (by decide), sl 34 (by decide), sl 35 (by decide)]
  have y43 := x12 32 33 (by decide) (by decide)
  have y42 := x12 32 34 (by decide) (by decide)
  have y41 := x12 32 35 (by decide) (by decide)
  have y32 := x12 33 34 (by decide) (by decide)
  have y31 := x12 33 35 (by decide) (by decide)
  have y21 := x12 34 35 (by decide) (by decide)
  have e0 : ∀ k : Int, mkF t n p 0 k = 0 := fun _ => rfl
  by_cases e : p + 4 = n
  · rw [decide_eq_true e]
    rcases hs with hs | hs | hs <;> subst hs
    · rw [show (1 : Int).toNat = 0 + 1 from rfl, st, m1, w1, e0]
      cases a : wdB t n (p + 1) 32 <;> cases b : wdB t n (p + 1) 33 <;> cases c : wdB t n (p + 1) 34 <;> cases d : wdB t n (p + 1) 35 <;> rw [a] at y43 y42 y41 <;> rw [b] at y43 y32 y31 <;> rw [c] at y42 y32 y21 <;> rw [d] at y41 y31 y21 <;> first | (simp [e]; done) | (exfalso; first | (exact absurd (y43 rfl rfl) (by decide)) | (exact absurd (y42 rfl rfl) (by decide)) | (exact absurd (y41 rfl rfl) (by decide)) | (exact absurd (y32 rfl rfl) (by decide)) | (exact absurd (y31 rfl rfl) (by decide)) | (exact absurd (y21 rfl rfl) (by decide)))
    · rw [show (3 : Int).toNat = 0 + 1 + 1 + 1 from rfl, st, st, st, m1, m2, m3, w1, w2, w3, e0]
      cases a : wdB t n (p + 1) 32 <;> cases b : wdB t n (p + 1) 33 <;> cases c : wdB t n (p + 1) 34 <;> cases d : wdB t n (p + 1) 35 <;> rw [a] at y43 y42 y41 <;> rw [b] at y43 y32 y31 <;> rw [c] at y42 y32 y21 <;> rw [d] at y41 y31 y21 <;> first | (simp [e]; done) | (exfalso; first | (exact absurd (y43 rfl rfl) (by decide)) | (exact absurd (y42 rfl rfl) (by decide)) | (exact absurd (y41 rfl rfl) (by decide)) | (exact absurd (y32 rfl rfl) (by decide)) | (exact absurd (y31 rfl rfl) (by decide)) | (exact absurd (y21 rfl rfl) (by decide)))
    · rw [show (4 : Int).toNat = 0 + 1 + 1 + 1 + 1 from rfl, st, st, st, st, m1, m2, m3, m4, w1, w2, w3, w4, e0]
      cases a : wdB t n (p + 1) 32 <;> cases b : wdB t n (p + 1) 33 <;> cases c : wdB t n (p + 1) 34 <;> cases d : wdB t n (p + 1) 35 <;> rw [a] at y43 y42 y41 <;> rw [b] at y43 y32 y31 <;> rw [c] at y42 y32 y21 <;> rw [d] at y41 y31 y21 <;> first | (simp [e]; done) | (exfalso; first | (exact absurd (y43 rfl rfl) (by decide)) | (exact absurd (y42 rfl rfl) (by decide)) | (exact absurd (y41 rfl rfl) (by decide)) | (exact absurd (y32 rfl rfl) (by decide)) | (exact absurd (y31 rfl rfl) (by decide)) | (exact absurd (y21 rfl rfl) (by decide)))
  · have z : ∀ (f : Nat) (k : Int), mkF t n p f k = 0 := by
      intro f
      induction f with
      | zero => intro k; rfl
      | succ f ih => intro k; rw [st, if_neg e, ih]; split <;> rfl
    rw [decide_eq_false e, z]; simp
/-! reading is the same on both sides -/
def LES (n : Int) (S : SC) : Prop := S.1 = true → S.2.1 ≤ n
theorem LES_3 {t : Int → Int} {n x v w pw f : Int} (far up dn neg : Bool) (hx : 0 ≤ x ∧ x ≤ n) : LES n (SP3 t n far up dn neg v w pw f x) := by
  unfold SP3; split
  · intro _
    exact (EXP_rng (t := t) (n := n) (letter := 101) (most := Int.toNat 3) (mm := true) (p := x) hx (by decide) (by decide)).2.1
  · exact fun h => absurd h (by decide)
theorem LES_2 {t : Int → Int} {n x v w pw f : Int} (far neg : Bool) (hx : 0 ≤ x ∧ x ≤ n) : LES n (SP2 t n far neg v w pw f x) := by
  have l12 : (strLen 12 : Int) = 1 := rfl
  have l13 : (strLen 13 : Int) = 1 := rfl
  unfold SP2; split
  · next z => have := (wd_head (i := 12) (x := 117) (l := []) rfl (by decide) z).1; exact LES_3 _ _ _ _ (by omega)
  · split
    · next z => have := (wd_head (i := 13) (x := 100) (l := []) rfl (by decide) z).1; exact LES_3 _ _ _ _ (by omega)
    · exact LES_3 _ _ _ _ hx
theorem LES_S {t : Int → Int} {n p : Int} (hp : 0 ≤ p ∧ p ≤ n) : LES n (SPR t n p) := by
  have l11 : (strLen 11 : Int) = 1 := rfl
  have sg := sgP_rng (t := t) (n := n) hp
  have d := DGs_rng (t := t) (n := n) (ba := 10) (pm := true) _ (sgP t n p) z0 rfl sg.2
  unfold SPR; split
  · next z =>
    have q := (wd_head (i := 11) (x := 63) (l := []) rfl (by decide) z.2).1
    have hx : 0 ≤ (DGs t n 10 true (sgP t n p) z0).1 + (strLen 11 : Int) ∧ (DGs t n 10 true (sgP t n p) z0).1 + (strLen 11 : Int) ≤ n := by omega
    generalize (DGs t n 10 true (sgP t n p) z0).1 + (strLen 11 : Int) = x at hx ⊢
    have d2 := DGs_rng (t := t) (n := n) (ba := 10) (pm := false) _ x z0 rfl hx.2
    unfold SP1; split
    · next y =>
      have q := (wd_head (i := 11) (x := 63) (l := []) rfl (by decide) y).1
      exact LES_2 _ _ (by omega)
    · split <;> exact LES_2 _ _ (by omega)
  · exact fun h => absurd h (by decide)
theorem LES_C {t : Int → Int} {n p : Int} (hp : 0 ≤ p ∧ p ≤ n) : LES n (SCN t n p) := by
  unfold SCN; split
  · intro h
    obtain ⟨s, w, e⟩ := CLQ_B t n p h
    have q := (wd_head (i := 2) (x := 93) (l := []) rfl (by decide) w).1
    have l2 : (strLen 2 : Int) = 1 := rfl
    rw [e, wq_t w, l2]; omega
  · exact LES_S hp
theorem SPR_0 {t : Int → Int} {n p : Int} (h0 : 0 ≤ p) (hp : n ≤ p) : SPR t n p = scBad := by
  have e : sgP t n p = p := by unfold sgP; rw [if_neg (by rw [rat_out (by omega)]; decide)]
  obtain ⟨q, v, c, fr, hp', hd⟩ : ∃ q v c fr hp', DGs t n 10 true (sgP t n p) z0 = (q, v, c, fr, hp') := ⟨_, _, _, _, _, rfl⟩
  refine SPR_b hd (Or.inl ?_)
  have s := DG_stop (t := t) (n := n) (ba := 10) (p := p) (V := 0) (cn := 0) (fr := 0) (pm := true) (hp := false) h0 (Or.inl hp)
  rw [e, s] at hd
  have : c = 0 := by injection hd with _ h2; injection h2 with _ h3; injection h3 with h4; exact h4.symm
  omega
theorem MK0_no {t : Int → Int} {n en : Int} {S : SC} (hle : LES en S) (hen : en ≤ n) (hno : ∀ j : Int, 0 ≤ j → j < en → t j ≠ 95) (h : ¬ (S.1 = true ∧ S.2.1 = en)) : MK0 t n S = 0 := by
  unfold MK0
  by_cases z : S.1 = true
  · rw [if_pos z]
    have le := hle z
    have ne : S.2.1 ≠ en := fun e => h ⟨z, e⟩
    unfold MARK
    rw [if_neg (fun e => ne (by omega))]
    have key : ∀ (f : Nat) (k : Int), mkF t n S.2.1 f k = 0 := by
      intro f
      induction f with
      | zero => intro k; rfl
      | succ f ih =>
        intro k
        show (if wdB t n S.2.1 (mkI k) = true then (if S.2.1 + 4 = n then k else 0) else mkF t n S.2.1 f (k + 1)) = 0
        rw [if_neg, ih]
        intro y
        have q : (0 ≤ S.2.1 ∧ S.2.1 < n) ∧ t S.2.1 = 95 := by
          unfold mkI at y
          split at y
          · exact wd_head (i := 14) (x := 95) (l := [99, 111, 109]) rfl (by decide) y
          · split at y
            · exact wd_head (i := 15) (x := 95) (l := [100, 97, 99]) rfl (by decide) y
            · split at y
              · exact wd_head (i := 16) (x := 95) (l := [100, 101, 102]) rfl (by decide) y
              · exact wd_head (i := 17) (x := 95) (l := [116, 114, 118]) rfl (by decide) y
        exact hno _ q.1.1 (by omega) q.2
    exact key _ _
  · rw [if_neg z]
theorem stm_b {lo hi : Int} (hl : lo % 9223372036854775808 = 9218868437227405312 ↔ lo = -4503599627370496) (hh : hi % 9223372036854775808 = 9218868437227405312 ↔ hi = 9218868437227405312) : stm lo hi = if infB lo hi = true then 3 else 4 := by
  unfold stm infB
  by_cases a : lo = -4503599627370496
  · rw [if_pos (Or.inl a), decide_eq_true (hl.mpr a)]; rfl
  · by_cases b : hi = 9218868437227405312
    · rw [if_pos (Or.inr b), decide_eq_true (hh.mpr b), Bool.or_true]; rfl
    · rw [if_neg (fun z => z.elim a b), decide_eq_false (fun z => a (hl.mp z)), decide_eq_false (fun z => b (hh.mp z))]; rfl
/-- bottoms are above 0 -/
def POS (S : SC) : Prop := S.1 = true → (S.2.2.2.1 = false → 0 < S.2.2.2.2.2.1.2.2.1) ∧ (S.2.2.2.2.1 = false → 0 < S.2.2.2.2.2.2.2.2.1)
theorem PO_b : POS scBad := fun h => absurd h (by decide)
theorem PO_4 {t : Int → Int} {n q : Int} {ob oa : Bool} {N1 N2 : NQ} (h1 : ob = false → 0 < N1.2.2.1) (h2 : oa = false → 0 < N2.2.2.1) : POS (E4 t n ob oa N1 N2 q) := fun _ => ⟨h1, h2⟩
theorem PO_3 {t : Int → Int} {n q : Int} {ob oa : Bool} {N1 : NQ} (h1 : ob = false → 0 < N1.2.2.1) : POS (E3 t n ob oa N1 q) := by
  unfold E3; split
  · exact PO_4 h1 (fun z => by cases z)
  · split
    · next z => exact PO_4 h1 (fun _ => (NUM_pos z).1)
    · exact PO_b
theorem PO_2 {t : Int → Int} {n q : Int} {ob : Bool} {N1 : NQ} (h1 : ob = false → 0 < N1.2.2.1) : POS (E2 t n ob N1 q) := by
  unfold E2; split
  · exact PO_3 h1
  · split
    · exact PO_3 h1
    · split <;> exact PO_3 h1
theorem PO_1 {t : Int → Int} {n q : Int} {ob : Bool} {N1 : NQ} (h1 : ob = false → 0 < N1.2.2.1) : POS (E1 t n ob N1 q) := by
  unfold E1; split
  · next z => exact fun _ => ⟨fun _ => h1 z.1, fun _ => h1 z.1⟩
  · split
    · exact PO_2 h1
    · exact PO_b
theorem PO_0 {t : Int → Int} {n q : Int} {ob : Bool} : POS (E0 t n ob q) := by
  unfold E0; split
  · exact PO_1 (fun z => by cases z)
  · split
    · next z => exact PO_1 (fun _ => (NUM_pos z).1)
    · exact PO_b
theorem PO_C {t : Int → Int} {n p : Int} : POS (SCN t n p) := by
  have cl : ∀ (q : Int) (em op : Bool), POS (CLO t n q em op) := fun q em op _ => ⟨fun _ => (by decide : (0 : Int) < 1), fun _ => (by decide : (0 : Int) < 1)⟩
  have sp3 : ∀ (far up dn neg : Bool) (v w pw f x : Int), POS (SP3 t n far up dn neg v w pw f x) := by
    intro far up dn neg v w pw f x
    unfold SP3; split
    · exact fun _ => ⟨fun _ => (NX_pos _ _ _).1, fun _ => (NX_pos _ _ _).1⟩
    · exact PO_b
  have sp2 : ∀ (far neg : Bool) (v w pw f x : Int), POS (SP2 t n far neg v w pw f x) := by
    intro far neg v w pw f x
    unfold SP2; split
    · exact sp3 _ _ _ _ _ _ _ _ _
    · split <;> exact sp3 _ _ _ _ _ _ _ _ _
  unfold SCN; split
  · unfold BRK; split
    · exact cl _ _ _
    · split
      · exact cl _ _ _
      · split
        · exact cl _ _ _
        · unfold ENDS; split
          · exact PO_0
          · split <;> exact PO_0
  · unfold SPR; split
    · unfold SP1; split
      · exact sp2 _ _ _ _ _ _ _
      · split <;> exact sp2 _ _ _ _ _ _ _
    · exact PO_b
set_option maxHeartbeats 2000000 in
theorem read_tie {t t2c t2r : Int → Int} {n mkc lec gec mkr rlr rhr : Int} (hn : 0 ≤ n ∧ n ≤ 400) (hC : LowT t t2c n n) (hR : LowT t t2r n n) (h : RDT t n mkc lec gec) (g : RRT t n mkr rlr rhr) : t2r = t2c ∧ mkr = mkc ∧ rlr = lec ∧ rhr = gec := by
  refine ⟨LowT_u hR hC, ?_⟩
  obtain ⟨a, ha, h⟩ := h
  obtain ⟨b, hb, g⟩ := g
  have e := LowT_u hb ha
  subst e
  obtain ⟨a1, a2, a3, a4⟩ := sk_rng (t := b) (n := n) _ 0 rfl hn.1
  by_cases hf : sk b n 0 < n
  · obtain ⟨e1, e2, e3⟩ := trim_eq (t := b) hn.1 hf
    rw [← e1] at g
    generalize hN : trR b n = N at *
    generalize hF : sk b n 0 = f at *
    unfold RDL at h
    rw [e2] at h
    obtain ⟨ln, en, gd, no, on, lo, hi, fb, hen, hg, hmk, hrl, hrh⟩ := g
    have nN : N ≤ n := by have := (trR_is (t := b) hn.1).2.1; omega
    have enr : f ≤ en ∧ en ≤ N := by rcases fb with z | z <;> rcases hen with y | y <;> omega
    have noU : ∀ j : Int, 0 ≤ j → j < en → b j ≠ 95 := by
      intro j j1 j2
      rcases Int.lt_or_le j f with z | z
      · have := a3 j j1 z
        intro q; rw [q] at this; exact absurd this (by decide)
      · rcases fb with ⟨x1, x2⟩ | ⟨x1, x2, x3⟩
        · exact x2 j z (by rcases hen with y | y <;> omega)
        · exact x3 j z (by rcases hen with y | y <;> omega)
    have hS : SCN b N f = SCN b en f := by
      rcases hen with y | y
      · rw [y.2]
      · rcases fb with ⟨x1, _⟩ | ⟨x1, x2, _⟩
        · omega
        · exact SCN_l (s := en) ⟨by omega, by omega⟩ (by rw [y.2]; exact x2) (by omega) enr.1
    rw [hS] at h
    have rel := RPS_tie (t := b) (f := f) (en := en) ⟨by omega, enr.1⟩
    have les := LES_C (t := b) (n := en) (p := f) ⟨by omega, enr.1⟩
    have pos := PO_C (t := b) (n := en) (p := f)
    generalize SCN b en f = S at *
    generalize RPS b f en = R at *
    by_cases ok : S.1 = true ∧ S.2.1 = en
    · have gt : gd = true := hg.1.trans (rel.1.mpr ok)
      obtain ⟨r1, r2, r3, r4, r5⟩ := rel.2 ok
      obtain ⟨g1, g2, g3⟩ := hg.2 gt
      have mk0 : MK0 b N S = MARK b N en (strong S.2.2.1 S.2.2.2.1 S.2.2.2.2.1) := by unfold MK0; rw [if_pos ok.1, ok.2]
      rw [mk0] at h
      -- the marks before rounding
      have hno : no = S.2.2.1 := g1.trans r1.symm
      have hon : on = (S.2.2.2.1 || S.2.2.2.2.1) := by rw [g2, r2, r3]
      have sv4 : strong S.2.2.1 S.2.2.2.1 S.2.2.2.2.1 = if no = true then 1 else if on = true then 3 else 4 := by
        unfold strong; rw [hno, hon]
      generalize hs : strong S.2.2.1 S.2.2.2.1 S.2.2.2.2.1 = s at *
      have sr : s = 1 ∨ s = 3 ∨ s = 4 := by rw [sv4]; split <;> (try split) <;> omega
      have mk : MARK b N en s = if ln = -1 then s else (if MKW b (en + 1) N ≤ s then MKW b (en + 1) N else 0) := by
        unfold MARK
        rcases hen with y | y
        · rw [if_pos y.2, if_pos y.1]
        · have lt : en < N := by rcases fb with x | x <;> omega
          have h95 : b en = 95 := by
            rcases fb with ⟨x1, _⟩ | ⟨x1, x2, _⟩
            · omega
            · rw [y.2]; exact x2
          rw [if_neg (by omega), if_neg (by omega)]
          exact mk_tie ⟨by omega, lt⟩ h95 sr
      have mw := MKW_rng b (en + 1) N
      -- the ends of both sides
      rcases h with ⟨h1, h2, h3, h4⟩ | ⟨h1, h2, h3, h4, h5⟩ | ⟨h1, h2, h3, h4, h5⟩
      · -- ill
        have z : mkr = 0 := by
          rcases hmk with ⟨y, hmk⟩ | ⟨y, hmk⟩
          · rw [mk, if_pos y] at h1; omega
          · rw [mk, if_neg (by omega)] at h1
            rw [hmk]
            have en' : en = ln := by rcases hen with q | q <;> omega
            rw [← en']
            unfold MOT MAY
            by_cases q : MKW b (en + 1) N ≤ s
            · rw [if_pos q] at h1; rw [h1]; simp
            · rw [if_neg]
              rw [gt]
              intro w
              rw [Bool.true_and, Bool.and_eq_true] at w
              rw [sv4] at q
              cases no with
              | true =>
                have w1 := w.1
                rw [Bool.not_true, Bool.false_or] at w1
                have := of_decide_eq_true w1
                rw [if_pos rfl] at q; omega
              | false =>
                cases on with
                | true =>
                  have w2 := w.2
                  rw [Bool.true_and] at w2
                  rw [if_neg (by decide), if_pos rfl] at q
                  have : MKW b (en + 1) N = 4 := by omega
                  rw [this] at w2; exact absurd w2 (by decide)
                | false =>
                  rw [if_neg (by decide), if_neg (by decide)] at q; omega
        rw [hrl, hrh, z, h2, h3, h4]
        exact ⟨rfl, rfl, rfl⟩
      · -- empty
        have nt : no = true := hno.trans h2
        rw [nt, if_pos rfl] at sv4
        have z : mkr = mkc := by
          rw [h3, mk]
          rcases hmk with ⟨y, hmk⟩ | ⟨y, hmk⟩
          · rw [if_pos y, hmk, if_pos gt, if_pos nt, sv4]
          · rw [if_neg (by omega), hmk]
            have en' : en = ln := by rcases hen with q | q <;> omega
            rw [← en', sv4]
            unfold MOT MAY
            rw [mk, if_neg (by omega), sv4] at h1
            by_cases q : MKW b (en + 1) N ≤ 1
            · rw [if_pos q] at h1 ⊢
              have m1 : MKW b (en + 1) N = 1 := by omega
              rw [m1, gt, nt]; simp
            · rw [if_neg q] at h1; exact absurd rfl h1
        have m0 : mkc ≠ 0 := by rw [h3]; exact h1
        rw [hrl, hrh, z, if_neg m0, if_neg m0, if_pos nt, if_pos nt, h4, h5]
        exact ⟨rfl, rfl, rfl⟩
      · -- an interval
        have nf : no = false := hno.trans h2
        obtain ⟨k1, k2⟩ := g3 nf
        have el : lo = lec ∧ (lec % 9223372036854775808 = 9218868437227405312 ↔ lec = -4503599627370496) := by
          rcases h4 with ⟨x1, x2⟩ | ⟨x1, x2⟩
          · rcases k1 with ⟨y1, y2⟩ | ⟨y1, y2⟩
            · exact ⟨by rw [x2, y2], by rw [x2]; decide⟩
            · rw [← r2, x1] at y1; cases y1
          · rcases k1 with ⟨y1, y2⟩ | ⟨y1, y2⟩
            · rw [← r2, x1] at y1; cases y1
            · rw [← r4 x1] at y2
              exact ⟨rndQ_u ((pos ok.1).1 x1) y2 x2, rnd_dn x2⟩
        have eh : hi = gec ∧ (gec % 9223372036854775808 = 9218868437227405312 ↔ gec = 9218868437227405312) := by
          rcases h5 with ⟨x1, x2⟩ | ⟨x1, x2⟩
          · rcases k2 with ⟨y1, y2⟩ | ⟨y1, y2⟩
            · exact ⟨by rw [x2, y2], by rw [x2]; decide⟩
            · rw [← r3, x1] at y1; cases y1
          · rcases k2 with ⟨y1, y2⟩ | ⟨y1, y2⟩
            · rw [← r3, x1] at y1; cases y1
            · rw [← r5 x1] at y2
              exact ⟨rndQ_u ((pos ok.1).2 x1) y2 x2, rnd_up x2⟩
        have st := stm_b el.2 eh.2
        rw [el.1, eh.1] at hmk
        have inf3 : on = true → infB lec gec = true := by
          intro q
          rw [hon, Bool.or_eq_true] at q
          unfold infB
          rcases q with q | q
          · rcases h4 with ⟨x1, x2⟩ | ⟨x1, x2⟩
            · rw [x2]; rfl
            · rw [x1] at q; cases q
          · rcases h5 with ⟨x1, x2⟩ | ⟨x1, x2⟩
            · rw [x2, Bool.or_eq_true]; exact Or.inr (by decide)
            · rw [x1] at q; cases q
        rw [nf, if_neg (by decide)] at sv4
        have z : mkr = mkc := by
          rw [h3, st, mk]
          rcases hmk with ⟨y, hmk⟩ | ⟨y, hmk⟩
          · rw [if_pos y, hmk, if_pos gt, if_neg (by rw [nf]; decide)]
            cases on with
            | true => rw [inf3 rfl, sv4]; rfl
            | false => rw [sv4]; split <;> rfl
          · rw [if_neg (by omega), hmk]
            have en' : en = ln := by rcases hen with q | q <;> omega
            rw [← en']
            rw [mk, if_neg (by omega)] at h1
            by_cases q : MKW b (en + 1) N ≤ s
            · rw [if_pos q] at h1 ⊢
              have may : MAY gd no on (MKW b (en + 1) N) = true := by
                unfold MAY
                rw [gt, nf]
                cases on with
                | false => rfl
                | true =>
                  rw [if_pos rfl] at sv4
                  rw [decide_eq_false (show ¬ MKW b (en + 1) N = 4 by omega)]; rfl
              unfold MOT
              rw [if_pos may, nf, Bool.false_or]
              by_cases m4 : MKW b (en + 1) N = 4
              · rw [m4]
                cases infB lec gec <;> rfl
              · rw [if_neg (fun w => m4 w.1)]
                split <;> omega
            · rw [if_neg q] at h1; exact absurd rfl h1
        have m0 : mkc ≠ 0 := by
          have : stm lec gec = 3 ∨ stm lec gec = 4 := by unfold stm; split <;> omega
          have p : 0 ≤ MARK b N en s := by rw [mk]; split <;> (try split) <;> omega
          rw [h3]; omega
        rw [hrl, hrh, z, if_neg m0, if_neg m0, if_neg (by rw [nf]; decide), if_neg (by rw [nf]; decide)]
        exact ⟨rfl, el.1, eh.1⟩
    · have m0 := MK0_no (t := b) (n := N) les enr.2 noU ok
      have gf : gd = false := b_false (fun y => ok (rel.1.mp (hg.1.symm.trans y)))
      have z : mkr = 0 := by
        rcases hmk with ⟨y, hmk⟩ | ⟨y, hmk⟩
        · rw [hmk, gf]; rfl
        · rw [hmk]; unfold MOT MAY; rw [gf]; rfl
      rcases h with ⟨h1, h2, h3, h4⟩ | ⟨h1, _⟩ | ⟨h1, _⟩
      · rw [hrl, hrh, z, h2, h3, h4]; exact ⟨rfl, rfl, rfl⟩
      · exact absurd m0 h1
      · exact absurd m0 h1
  · have fe : sk b n 0 = n := by omega
    have tz : trR b n = 0 := by
      obtain ⟨b1, b2, b3, b4⟩ := trR_is (t := b) hn.1
      rcases Int.lt_or_le 0 (trR b n) with z | z
      · have := a3 (trR b n - 1) (by omega) (by omega)
        rw [b4 z] at this; cases this
      · omega
    have sk0 : sk b 0 0 = 0 := sk_stop (fun z => by omega)
    have cS : SCN b 0 0 = scBad := by
      unfold SCN; rw [if_neg (by rw [rat_out (by omega)]; decide)]; exact SPR_0 (Int.le_refl _) (Int.le_refl _)
    unfold RDL at h
    rw [tz, sk0, cS] at h
    have m0 : MK0 b 0 scBad = 0 := rfl
    rw [fe, TRB_e (Int.le_refl _) (Or.inl (Int.le_refl _))] at g
    obtain ⟨ln, en, gd, no, on, lo, hi, fb, hen, hg, hmk, hrl, hrh⟩ := g
    have ln1 : ln = -1 := by rcases fb with x | x <;> omega
    have en1 : en = n := by rcases hen with y | y <;> omega
    have gf : gd = false := by
      rw [hg.1, en1]
      unfold RPS; rw [if_neg (fun z => by omega)]
      exact RUN_b (SPR_0 hn.1 (Int.le_refl _))
    have z : mkr = 0 := by
      rcases hmk with ⟨y, hmk⟩ | ⟨y, hmk⟩
      · rw [hmk, gf]; rfl
      · omega
    rcases h with ⟨h1, h2, h3, h4⟩ | ⟨h1, _⟩ | ⟨h1, _⟩
    · rw [hrl, hrh, z, h2, h3, h4]; exact ⟨rfl, rfl, rfl⟩
    · exact absurd m0 h1
    · exact absurd m0 h1
