/-! THE TIE: the class's scan from left to right finds what the reference finds in slices -/
theorem blk_f {c : Int} : blk c = false ↔ (c ≠ 32 ∧ c ≠ 9) := by unfold blk; rw [decide_eq_false_iff_not]; omega
theorem sk_rng {t : Int → Int} {n : Int} : ∀ (f : Nat) (p : Int), (n - p).toNat = f → p ≤ n → p ≤ sk t n p ∧ sk t n p ≤ n ∧ (∀ j : Int, p ≤ j → j < sk t n p → blk (t j) = true) ∧ (sk t n p < n → blk (t (sk t n p)) = false)
  | 0, p, hf, hp => by
    rw [sk_stop (fun z => by omega)]
    exact ⟨Int.le_refl _, hp, fun j h1 h2 => by omega, fun h => by omega⟩
  | f + 1, p, hf, hp => by
    by_cases b : blk (t p) = true
    · rw [sk_step (by omega) b]
      obtain ⟨h1, h2, h3, h4⟩ := sk_rng (t := t) (n := n) f (p + 1) (by omega) (by omega)
      refine ⟨by omega, h2, fun j g1 g2 => ?_, h4⟩
      by_cases z : j = p
      · rw [z]; exact b
      · exact h3 j (by omega) g2
    · rw [sk_stop (fun z => b z.2)]
      refine ⟨Int.le_refl _, hp, fun j h1 h2 => by omega, fun _ => ?_⟩
      cases q : blk (t p) with
      | true => exact absurd q b
      | false => rfl
/-- where the blanks end is told by what stands there -/
theorem sk_is {t : Int → Int} {n p q : Int} (hp : p ≤ q) (hq : q ≤ n) (hb : ∀ j : Int, p ≤ j → j < q → blk (t j) = true) (he : q = n ∨ blk (t q) = false) : sk t n p = q := by
  obtain ⟨h1, h2, h3, h4⟩ := sk_rng (t := t) (n := n) _ p rfl (by omega)
  rcases Int.lt_trichotomy (sk t n p) q with z | z | z
  · have a := hb _ h1 z
    rw [h4 (by omega)] at a; cases a
  · exact z
  · rcases he with e | e
    · omega
    · have := h3 q hp z
      rw [e] at this; cases this
theorem TRB_is {t : Int → Int} {fr to : Int} (h : fr ≤ to) : fr ≤ TRB t fr to ∧ TRB t fr to ≤ to ∧ (∀ j : Int, TRB t fr to ≤ j → j < to → blk (t j) = true) ∧ (fr < TRB t fr to → blk (t (TRB t fr to - 1)) = false) := by
  obtain ⟨k, hk⟩ : ∃ k : Nat, (to - fr).toNat = k := ⟨_, rfl⟩
  have e : to = fr + k := by omega
  clear hk
  subst e
  clear h
  induction k with
  | zero => rw [TRB_e (by omega) (Or.inl (by omega))]; exact ⟨by omega, by omega, fun j h1 h2 => by omega, fun h => by omega⟩
  | succ k ih =>
    cases b : blk (t (fr + ((k + 1 : Nat) : Int) - 1)) with
    | true =>
      rw [TRB_s (by omega) b, show fr + ((k + 1 : Nat) : Int) - 1 = fr + (k : Int) by omega]
      rw [show fr + ((k + 1 : Nat) : Int) - 1 = fr + (k : Int) by omega] at b
      obtain ⟨h1, h2, h3, h4⟩ := ih
      refine ⟨h1, by omega, fun j g1 g2 => ?_, h4⟩
      by_cases z : j = fr + (k : Int)
      · rw [z]; exact b
      · exact h3 j g1 (by omega)
    | false => rw [TRB_e (by omega) (Or.inr b)]; exact ⟨by omega, by omega, fun j h1 h2 => by omega, fun _ => b⟩
theorem trR_is {t : Int → Int} {n : Int} (h : 0 ≤ n) : 0 ≤ trR t n ∧ trR t n ≤ n ∧ (∀ j : Int, trR t n ≤ j → j < n → blk (t j) = true) ∧ (0 < trR t n → blk (t (trR t n - 1)) = false) := by
  obtain ⟨k, hk⟩ : ∃ k : Nat, n = k := ⟨n.toNat, by omega⟩
  subst hk
  clear h
  induction k with
  | zero => rw [trR_e (by omega) (Or.inl (by omega))]; exact ⟨by omega, by omega, fun j h1 h2 => by omega, fun h => by omega⟩
  | succ k ih =>
    cases b : blk (t (((k + 1 : Nat) : Int) - 1)) with
    | true =>
      rw [trR_s (by omega) b, show ((k + 1 : Nat) : Int) - 1 = (k : Int) by omega]
      rw [show ((k + 1 : Nat) : Int) - 1 = (k : Int) by omega] at b
      obtain ⟨h1, h2, h3, h4⟩ := ih
      refine ⟨h1, by omega, fun j g1 g2 => ?_, h4⟩
      by_cases z : j = (k : Int)
      · rw [z]; exact b
      · exact h3 j g1 (by omega)
    | false => rw [trR_e (by omega) (Or.inr b)]; exact ⟨by omega, by omega, fun j h1 h2 => by omega, fun _ => b⟩
/-- both ways of trimming -/
theorem trim_eq {t : Int → Int} {n : Int} (hn : 0 ≤ n) (hf : sk t n 0 < n) : trR t n = TRB t (sk t n 0) n ∧ sk t (trR t n) 0 = sk t n 0 ∧ sk t n 0 < trR t n := by
  obtain ⟨a1, a2, a3, a4⟩ := sk_rng (t := t) (n := n) _ 0 rfl hn
  obtain ⟨b1, b2, b3, b4⟩ := trR_is (t := t) hn
  obtain ⟨c1, c2, c3, c4⟩ := TRB_is (t := t) (fr := sk t n 0) (to := n) (by omega)
  have nb := a4 hf
  have lt : sk t n 0 < trR t n := by
    rcases Int.lt_or_le (sk t n 0) (trR t n) with z | z
    · exact z
    · have := b3 _ z hf; rw [nb] at this; cases this
  have lt2 : sk t n 0 < TRB t (sk t n 0) n := by
    rcases Int.lt_or_le (sk t n 0) (TRB t (sk t n 0) n) with z | z
    · exact z
    · have := c3 _ z hf; rw [nb] at this; cases this
  refine ⟨?_, sk_is a1 (by omega) a3 (Or.inr nb), lt⟩
  rcases Int.lt_trichotomy (trR t n) (TRB t (sk t n 0) n) with z | z | z
  · have := b3 (TRB t (sk t n 0) n - 1) (by omega) (by omega)
    rw [c4 lt2] at this; cases this
  · exact z
  · have := c3 (trR t n - 1) (by omega) (by omega)
    rw [b4 (by omega)] at this; cases this
/-- blanks do not go over what is none -/
theorem sk_lim {t : Int → Int} {n s p : Int} (hs : s < n) (hb : blk (t s) = false) (hp : p ≤ s) : sk t n p = sk t s p := by
  obtain ⟨h1, h2, h3, h4⟩ := sk_rng (t := t) (n := s) _ p rfl hp
  refine sk_is h1 (by omega) h3 (Or.inr ?_)
  rcases Int.lt_or_le (sk t s p) s with z | z
  · exact h4 z
  · rw [show sk t s p = s by omega]; exact hb

theorem w93 (t : Int → Int) (n q : Int) : wdB t n q 2 = decide (rat t n q = 93) := sw_one rfl
theorem w44 (t : Int → Int) (n q : Int) : wdB t n q 8 = decide (rat t n q = 44) := sw_one rfl
theorem w91 (t : Int → Int) (n q : Int) : wdB t n q 0 = decide (rat t n q = 91) := sw_one rfl
/-- the content of brackets: from fr to tt, blanks, then the closing bracket at c -/
def CNT (t : Int → Int) (fr tt c : Int) : Prop := (0 ≤ fr ∧ fr < tt ∧ tt ≤ c) ∧ t c = 93 ∧ (∀ j : Int, tt ≤ j → j < c → blk (t j) = true) ∧ blk (t (tt - 1)) = false ∧ blk (t fr) = false
theorem blk93 : blk 93 = false := by decide
theorem CNT_sk {t : Int → Int} {fr tt c q : Int} (h : CNT t fr tt c) (hq : 0 ≤ q ∧ q ≤ tt) : (q = tt → sk t (c + 1) q = c) ∧ (q < tt → sk t (c + 1) q < tt ∧ sk t (c + 1) q = sk t tt q) := by
  obtain ⟨h0, h1, h2, h3, h4⟩ := h
  refine ⟨fun e => ?_, fun e => ?_⟩
  · rw [e]; exact sk_is (by omega) (by omega) h2 (Or.inr (by rw [h1]; decide))
  · obtain ⟨g1, g2, g3, g4⟩ := sk_rng (t := t) (n := tt) _ q rfl (by omega)
    have lt : sk t tt q < tt := by
      rcases Int.lt_or_le (sk t tt q) tt with z | z
      · exact z
      · have := g3 (tt - 1) (by omega) (by omega); rw [h3] at this; cases this
    have eq : sk t (c + 1) q = sk t tt q := sk_is g1 (by omega) g3 (Or.inr (g4 lt))
    rw [eq]; exact ⟨lt, rfl⟩
/-- it closes at the end just behind tt -/
theorem CNT_cl {t : Int → Int} {fr tt c q : Int} (h : CNT t fr tt c) (hq : 0 ≤ q ∧ q ≤ tt) : (wdB t (c + 1) (sk t (c + 1) q) 2 = true ∧ wq t (c + 1) (sk t (c + 1) q) 2 = c + 1) ↔ q = tt := by
  have l2 : (strLen 2 : Int) = 1 := rfl
  obtain ⟨k1, k2⟩ := CNT_sk h hq
  obtain ⟨h0, h1, h2, h3, h4⟩ := h
  constructor
  · intro z
    rcases Int.lt_or_le q tt with y | y
    · have := (k2 y).1
      have e := wq_t z.1
      rw [l2] at e
      omega
    · omega
  · intro z
    have e := k1 z
    have w : wdB t (c + 1) c 2 = true := by rw [w93, rat_in (by omega)]; exact decide_eq_true h1
    rw [e, wq_t w, l2]; exact ⟨w, rfl⟩
/-- the char behind the content's end stops every number -/
theorem CNT_tt {t : Int → Int} {fr tt c : Int} (h : CNT t fr tt c) : t tt = 93 ∨ t tt = 32 ∨ t tt = 9 := by
  obtain ⟨h0, h1, h2, h3, h4⟩ := h
  rcases Int.lt_or_le tt c with z | z
  · have := h2 tt (by omega) z
    unfold blk at this
    exact Or.inr (of_decide_eq_true this)
  · left; rw [show tt = c by omega]; exact h1
theorem stp_93 : stp 93 ∧ stp 32 ∧ stp 9 ∧ stp 44 ∧ stp 95 := by unfold stp; decide
theorem CNT_stp {t : Int → Int} {fr tt c : Int} (h : CNT t fr tt c) : stp (t tt) := by
  rcases CNT_tt h with z | z | z <;> rw [z]
  · exact stp_93.1
  · exact stp_93.2.1
  · exact stp_93.2.2.1
/-- a number from q on, up to the content's end -/
theorem CNT_num {t : Int → Int} {fr tt c q : Int} (h : CNT t fr tt c) (hq : q ≤ tt) : NUM t (c + 1) q = NUM t tt q := by
  have s := CNT_stp h
  obtain ⟨h0, h1, h2, h3, h4⟩ := h
  exact NUM_lim ⟨by omega, by omega⟩ s hq
theorem CNT_wd {t : Int → Int} {fr tt c q : Int} {i : Nat} (h : CNT t fr tt c) (hq : q ≤ tt) (hi : (93 : Int) ∉ strByt.getD i [] ∧ (32 : Int) ∉ strByt.getD i [] ∧ (9 : Int) ∉ strByt.getD i []) : wdB t (c + 1) q i = wdB t tt q i ∧ (wdB t tt q i = true → q + (strLen i : Int) ≤ tt) := by
  have s := CNT_tt h
  obtain ⟨h0, h1, h2, h3, h4⟩ := h
  refine wd_lim ⟨by omega, by omega⟩ ?_ hq
  rcases s with z | z | z <;> rw [z]
  · exact hi.1
  · exact hi.2.1
  · exact hi.2.2
theorem wdL_app {t : Int → Int} {n : Int} : ∀ (l m : List Int) (p : Int), wdL t n p (l ++ m) = (wdL t n p l && wdL t n (p + (l.length : Int)) m)
  | [], m, p => by simp [wdL]
  | c :: l, m, p => by
    rw [List.cons_append, wdL, wdL, wdL_app l m (p + 1), Bool.and_assoc, List.length_cons]
    congr 3; omega
theorem NUM_no {t : Int → Int} {n p : Int} (h0 : 0 ≤ sgP t n p) (h : 10 ≤ dig (rat t n (sgP t n p)) ∧ rat t n (sgP t n p) ≠ 46) : (NUM t n p).1 = false := by
  have w : wdB t n (sgP t n p) 6 = false := by
    cases q : wdB t n (sgP t n p) 6 with
    | false => rfl
    | true =>
      exfalso
      have e : wdB t n (sgP t n p) 6 = (decide (rat t n (sgP t n p) = 48) && (decide (rat t n (sgP t n p + 1) = 120) && true)) := rfl
      rw [e, Bool.and_eq_true] at q
      have := of_decide_eq_true q.1
      rw [this] at h
      exact absurd h.1 (by decide)
  refine NUM_d0 w ?_
  rw [DG_stop h0 (by
    rcases Int.lt_or_le (sgP t n p) n with z | z
    · exact Or.inr ⟨h.1, Or.inl h.2⟩
    · exact Or.inl z)]
  show ¬ (0 : Int) < 0
  decide
theorem NUM_rng {t : Int → Int} {n p : Int} (hp : 0 ≤ p ∧ p ≤ n) (h : (NUM t n p).1 = true) : p ≤ (NUM t n p).2.1 ∧ (NUM t n p).2.1 ≤ n := by
  have sg := sgP_rng (t := t) (n := n) hp
  have l6 : (strLen 6 : Int) = 2 := rfl
  have l7 : (strLen 7 : Int) = 1 := rfl
  by_cases hw : wdB t n (sgP t n p) 6 = true
  · have hx := (sw_hex (by omega)).mp hw
    have dr := DGs_rng (t := t) (n := n) (ba := 16) (pm := true) _ (sgP t n p + (strLen 6 : Int)) z0 rfl (by omega)
    obtain ⟨q, v, c, fr, hp', hd⟩ : ∃ q v c fr hp', DGs t n 16 true (sgP t n p + (strLen 6 : Int)) z0 = (q, v, c, fr, hp') := ⟨_, _, _, _, _, rfl⟩
    rw [hd] at dr
    have dr : sgP t n p + (strLen 6 : Int) ≤ q ∧ q ≤ n := dr
    by_cases hc : 0 < c
    · rw [NUM_h hw hd hc]
      have er := EXP_rng (t := t) (n := n) (letter := 112) (most := Int.toNat 4) (mm := false) (p := q) ⟨by omega, dr.2⟩ (by decide) (by decide)
      exact ⟨show p ≤ (EXP t n 112 (Int.toNat 4) false q).2.1 by omega, er.2.1⟩
    · rw [NUM_h0 hw (by rw [hd]; exact hc)] at h; cases h
  · have hw : wdB t n (sgP t n p) 6 = false := by
      cases q : wdB t n (sgP t n p) 6 with
      | true => exact absurd q hw
      | false => rfl
    have dr := DGs_rng (t := t) (n := n) (ba := 10) (pm := true) _ (sgP t n p) z0 rfl sg.2
    obtain ⟨q, v, c, fr, hp', hd⟩ : ∃ q v c fr hp', DGs t n 10 true (sgP t n p) z0 = (q, v, c, fr, hp') := ⟨_, _, _, _, _, rfl⟩
    rw [hd] at dr
    have dr : sgP t n p ≤ q ∧ q ≤ n := dr
    by_cases hc : 0 < c
    · by_cases hr : hp' = false ∧ wdB t n q 7 = true
      · rw [NUM_r hw hd hc hr.1 hr.2]
        have hq := hr.2
        rw [sw_one (i := 7) (x := 47) rfl] at hq
        have hn := rat_neg (t := t) (n := n) (i := q) (by rw [of_decide_eq_true hq]; decide)
        have d2 := DGs_rng (t := t) (n := n) (ba := 10) (pm := false) _ (q + (strLen 7 : Int)) z0 rfl (by omega)
        exact ⟨show p ≤ (DGs t n 10 false (q + (strLen 7 : Int)) z0).1 by omega, d2.2⟩
      · rw [NUM_d hw hd hc (by
          cases hp' with
          | true => exact Or.inl rfl
          | false =>
            right
            cases q2 : wdB t n q 7 with
            | true => exact absurd ⟨rfl, q2⟩ hr
            | false => rfl)]
        have er := EXP_rng (t := t) (n := n) (letter := 101) (most := Int.toNat 3) (mm := true) (p := q) ⟨by omega, dr.2⟩ (by decide) (by decide)
        exact ⟨show p ≤ (EXP t n 101 (Int.toNat 3) true q).2.1 by omega, er.2.1⟩
    · rw [NUM_d0 hw (by rw [hd]; exact hc)] at h; cases h
/-- inf and infinity, up to a char that stops them -/
theorem inf_tie {t : Int → Int} {n s p : Int} {i iS iL : Nat} (hs : 0 ≤ s ∧ s < n) (hp : p ≤ s) (hx : t s ∉ strByt.getD i [] ∧ t s ∉ strByt.getD 5 []) (eS : strByt.getD iS [] = strByt.getD i []) (eL : strByt.getD iL [] = strByt.getD i [] ++ strByt.getD 5 []) :
    (wdB t n p i = true → p ≤ infq t n p i ∧ infq t n p i ≤ s ∧ (infq t n p i = s ↔ (slw t p s iS || slw t p s iL) = true)) ∧ (wdB t n p i = false → slw t p s iS = false ∧ slw t p s iL = false) := by
  have l5 : (strLen 5 : Int) = 5 := rfl
  have w := wd_lim (p := p) (i := i) hs hx.1 hp
  have lS : (strLen iS : Int) = (strLen i : Int) := by unfold strLen; rw [eS]
  have lL : (strLen iL : Int) = (strLen i : Int) + 5 := by unfold strLen; rw [eL, List.length_append]; show ((_ + 5 : Nat) : Int) = _; omega
  have bS : wdB t s p iS = wdB t s p i := by unfold wdB; rw [eS]
  have bL : wdB t s p iL = (wdB t s p i && wdB t s (p + (strLen i : Int)) 5) := by unfold wdB strLen; rw [eL, wdL_app]
  refine ⟨fun h => ?_, fun h => ?_⟩
  · have hl := w.2 (by rw [← w.1]; exact h)
    have w5 := wd_lim (p := p + (strLen i : Int)) (i := 5) hs hx.2 hl
    have e : infq t n p i = wq t n (p + (strLen i : Int)) 5 := by unfold infq; rw [h]; rfl
    rw [w.1] at h
    unfold slw
    rw [e, bS, bL, h, lS, lL, Bool.true_and, Bool.and_true]
    cases q : wdB t s (p + (strLen i : Int)) 5 with
    | true =>
      have := w5.2 q
      rw [wq_t (by rw [w5.1]; exact q), l5]
      refine ⟨by omega, by omega, ?_⟩
      rw [Bool.and_true, Bool.or_eq_true, decide_eq_true_eq, decide_eq_true_eq]
      omega
    | false =>
      rw [wq_f (by rw [w5.1]; exact q)]
      refine ⟨by omega, by omega, ?_⟩
      rw [Bool.and_false, Bool.or_false, decide_eq_true_eq]
      omega
  · rw [w.1] at h
    unfold slw
    rw [bS, bL, h]
    exact ⟨by rw [Bool.and_false], by rw [Bool.false_and, Bool.and_false]⟩
/-- the class's outcome S at the end en is the reference's R -/
def REL (S R : SC) (en : Int) : Prop := (R.1 = true ↔ (S.1 = true ∧ S.2.1 = en)) ∧ ((S.1 = true ∧ S.2.1 = en) → S.2.2.1 = R.2.2.1 ∧ S.2.2.2.1 = R.2.2.2.1 ∧ S.2.2.2.2.1 = R.2.2.2.2.1 ∧ (S.2.2.2.1 = false → S.2.2.2.2.2.1 = R.2.2.2.2.2.1) ∧ (S.2.2.2.2.1 = false → S.2.2.2.2.2.2 = R.2.2.2.2.2.2))
theorem b_false {x : Bool} (h : ¬ x = true) : x = false := by cases x; rfl; exact absurd rfl h
theorem slw_c {t : Int → Int} {fr to x : Int} {i : Nat} {l : List Int} (hl : strByt.getD i [] = x :: l) (h0 : 0 ≤ fr ∧ fr < to) (h : t fr ≠ x) : slw t fr to i = false := by
  unfold slw wdB
  rw [hl, wdL, rat_in h0, decide_eq_false h, Bool.false_and, Bool.and_false]
theorem nok_c {t : Int → Int} {fr to : Int} (h0 : 0 ≤ fr ∧ fr < to) (h : 10 ≤ dig (t fr) ∧ t fr ≠ 46 ∧ t fr ≠ 45 ∧ t fr ≠ 43) : nok t fr to = false := by
  have e : sgP t to fr = fr := by unfold sgP; rw [if_neg (by rw [rat_in h0]; omega)]
  unfold nok
  rw [NUM_no (by rw [e]; exact h0.1) (by rw [e, rat_in h0]; exact ⟨h.1, h.2.1⟩)]; rfl
/-- a sign, then no digit -/
theorem nok_s {t : Int → Int} {fr to : Int} (h0 : 0 ≤ fr ∧ fr + 1 < to) (h : t fr = 45 ∨ t fr = 43) (h2 : 10 ≤ dig (t (fr + 1)) ∧ t (fr + 1) ≠ 46) : nok t fr to = false := by
  have e : sgP t to fr = fr + 1 := by unfold sgP; rw [if_pos (by rw [rat_in (by omega)]; exact h)]
  unfold nok
  rw [NUM_no (by rw [e]; omega) (by rw [e, rat_in (by omega)]; exact h2)]; rfl
theorem E4_ok {t : Int → Int} {n q m : Int} {ob oa : Bool} {N1 N2 : NQ} : ((E4 t n ob oa N1 N2 q).1 = true ∧ (E4 t n ob oa N1 N2 q).2.1 = m) ↔ ((wdB t n (sk t n q) 2 = true ∧ wq t n (sk t n q) 2 = m) ∧ (ob || oa || !rgt N1 N2) = true) := by
  unfold E4
  show ((wdB t n (sk t n q) 2 && (ob || oa || !rgt N1 N2)) = true ∧ wq t n (sk t n q) 2 = m) ↔ _
  rw [Bool.and_eq_true]
  exact ⟨fun z => ⟨⟨z.1.1, z.2⟩, z.1.2⟩, fun z => ⟨⟨z.1.1, z.2⟩, z.1.2⟩⟩
theorem wd_head {t : Int → Int} {n p x : Int} {i : Nat} {l : List Int} (hl : strByt.getD i [] = x :: l) (hx : x ≠ -1) (h : wdB t n p i = true) : (0 ≤ p ∧ p < n) ∧ t p = x := by
  unfold wdB at h
  rw [hl, wdL, Bool.and_eq_true] at h
  have e := of_decide_eq_true h.1
  have q := rat_neg (t := t) (n := n) (i := p) (by rw [e]; exact hx)
  rw [rat_in q] at e
  exact ⟨q, e⟩
theorem bad_no {m : Int} (p : Prop) : (scBad.1 = true ∧ scBad.2.1 = m) → p := fun z => absurd z.1 (by decide)
/-- the upper end -/
theorem E2_tie {t : Int → Int} {fr tt c cm b : Int} (h : CNT t fr tt c) (hcm : fr ≤ cm ∧ cm < tt) (ob : Bool) (N1 : NQ) (hb : b = sk t tt (cm + 1)) :
    (((E2 t (c + 1) ob N1 (sk t (c + 1) (cm + 1))).1 = true ∧ (E2 t (c + 1) ob N1 (sk t (c + 1) (cm + 1))).2.1 = c + 1) ↔ ((nhB t b tt || nok t b tt) = true ∧ (ob || nhB t b tt || !rgt N1 (nqs t b tt)) = true)) ∧
    (((E2 t (c + 1) ob N1 (sk t (c + 1) (cm + 1))).1 = true ∧ (E2 t (c + 1) ob N1 (sk t (c + 1) (cm + 1))).2.1 = c + 1) → (E2 t (c + 1) ob N1 (sk t (c + 1) (cm + 1))).2.2 = (false, ob, nhB t b tt, N1, if nhB t b tt = true then n0 else nqs t b tt)) := by
  have h' := h
  obtain ⟨h0, h1, h2, h3, h4⟩ := h'
  have hsk := CNT_sk h (q := cm + 1) ⟨by omega, by omega⟩
  by_cases e : cm + 1 = tt
  · have eb : b = tt := by rw [hb, e, sk_stop (fun z => by omega)]
    have nh : nhB t b tt = true := by unfold nhB; rw [decide_eq_true eb]; rfl
    have ec := hsk.1 e
    have cl : wdB t (c + 1) (sk t (c + 1) c) 2 = true ∧ wq t (c + 1) (sk t (c + 1) c) 2 = c + 1 := by
      have s : sk t (c + 1) c = c := sk_stop (fun z => by have := z.2; rw [h1] at this; exact absurd this (by decide))
      have w : wdB t (c + 1) c 2 = true := by rw [w93, rat_in (by omega)]; exact decide_eq_true h1
      rw [s, wq_t w]; exact ⟨w, rfl⟩
    have E : E2 t (c + 1) ob N1 (sk t (c + 1) (cm + 1)) = E4 t (c + 1) ob true N1 n0 c := by
      rw [ec, E2_a (by rw [rat_in (by omega)]; exact h1), E3_t rfl]
    rw [E, E4_ok, nh]
    refine ⟨⟨fun _ => ⟨rfl, by rw [Bool.or_true]; rfl⟩, fun _ => ⟨cl, by rw [Bool.or_true]; rfl⟩⟩, fun _ => rfl⟩
  · have lt : cm + 1 < tt := by omega
    obtain ⟨g1, g2⟩ := hsk.2 lt
    rw [g2, ← hb]
    rw [g2, ← hb] at g1
    obtain ⟨k1, k2, k3, k4⟩ := sk_rng (t := t) (n := tt) _ (cm + 1) rfl (by omega)
    rw [← hb] at k1 k2 k3 k4
    have nb := k4 g1
    have hbr : 0 ≤ b ∧ b < tt := ⟨by omega, g1⟩
    have dne : decide (b = tt) = false := decide_eq_false (by omega)
    have l9 : strByt.getD 9 [] = [105, 110, 102] := rfl
    have hstop := CNT_tt h
    by_cases x1 : t b = 93
    · have E : E2 t (c + 1) ob N1 b = E4 t (c + 1) ob true N1 n0 b := by rw [E2_a (by rw [rat_in (by omega)]; exact x1), E3_t rfl]
      have nh : nhB t b tt = false := by
        unfold nhB
        rw [dne, slw_c (x := 105) (l := [110, 102]) rfl hbr (by rw [x1]; decide), slw_c (x := 43) (l := [105, 110, 102]) rfl hbr (by rw [x1]; decide), slw_c (x := 105) (l := [110, 102, 105, 110, 105, 116, 121]) rfl hbr (by rw [x1]; decide), slw_c (x := 43) (l := [105, 110, 102, 105, 110, 105, 116, 121]) rfl hbr (by rw [x1]; decide)]
        rfl
      have nk : nok t b tt = false := nok_c hbr (by rw [x1]; decide)
      have no : ¬ ((E4 t (c + 1) ob true N1 n0 b).1 = true ∧ (E4 t (c + 1) ob true N1 n0 b).2.1 = c + 1) := by
        intro z
        have := (CNT_cl h (q := b) ⟨by omega, by omega⟩).mp (E4_ok.mp z).1
        omega
      rw [E, nh, nk]
      exact ⟨⟨fun z => absurd z no, fun z => absurd z.1 (by decide)⟩, fun z => absurd z no⟩
    · have r93 : rat t (c + 1) b ≠ 93 := by rw [rat_in (by omega)]; exact x1
      have i9 := inf_tie (t := t) (n := c + 1) (s := tt) (p := b) (i := 9) (iS := 28) (iL := 30) ⟨by omega, by omega⟩ (by omega) ⟨by rcases hstop with z | z | z <;> rw [z] <;> decide, by rcases hstop with z | z | z <;> rw [z] <;> decide⟩ rfl rfl
      have i10 := inf_tie (t := t) (n := c + 1) (s := tt) (p := b) (i := 10) (iS := 29) (iL := 31) ⟨by omega, by omega⟩ (by omega) ⟨by rcases hstop with z | z | z <;> rw [z] <;> decide, by rcases hstop with z | z | z <;> rw [z] <;> decide⟩ rfl rfl
      cases x2 : wdB t (c + 1) b 9 with
      | true =>
        obtain ⟨j1, j2, j3⟩ := i9.1 x2
        have hd := (wd_head (i := 9) (x := 105) (l := [110, 102]) rfl (by decide) x2).2
        have E : E2 t (c + 1) ob N1 b = E4 t (c + 1) ob true N1 n0 (infq t (c + 1) b 9) := by rw [E2_b r93 x2, E3_t rfl]
        have nh : nhB t b tt = (slw t b tt 28 || slw t b tt 30) := by
          unfold nhB
          rw [dne, slw_c (i := 29) (x := 43) (l := [105, 110, 102]) rfl hbr (by rw [hd]; decide), slw_c (i := 31) (x := 43) (l := [105, 110, 102, 105, 110, 105, 116, 121]) rfl hbr (by rw [hd]; decide), Bool.false_or, Bool.or_false, Bool.or_false]
        have nk : nok t b tt = false := nok_c hbr (by rw [hd]; decide)
        rw [E, E4_ok, CNT_cl h ⟨by omega, j2⟩, j3, ← nh, nk, Bool.or_false]
        refine ⟨⟨fun z => ⟨z.1, by rw [z.1, Bool.or_true]; rfl⟩, fun z => ⟨z.1, by rw [Bool.or_true]; rfl⟩⟩, fun z => ?_⟩
        rw [z.1]; rfl
      | false =>
        have f9 := i9.2 x2
        cases x3 : wdB t (c + 1) b 10 with
        | true =>
          obtain ⟨j1, j2, j3⟩ := i10.1 x3
          have hd := (wd_head (i := 10) (x := 43) (l := [105, 110, 102]) rfl (by decide) x3).2
          have hd2 : t (b + 1) = 105 ∧ b + 1 < tt := by
            have w := CNT_wd h (q := b) (i := 10) (by omega) (by decide)
            have y := x3
            rw [w.1] at y
            have l4 : (strLen 10 : Int) = 4 := rfl
            have len := w.2 y
            have e2 : wdB t tt b 10 = (decide (rat t tt b = 43) && (decide (rat t tt (b + 1) = 105) && wdL t tt (b + 1 + 1) [110, 102])) := rfl
            rw [e2, Bool.and_eq_true, Bool.and_eq_true] at y
            have y2 := of_decide_eq_true y.2.1
            rw [rat_in (by omega)] at y2
            exact ⟨y2, by omega⟩
          have E : E2 t (c + 1) ob N1 b = E4 t (c + 1) ob true N1 n0 (infq t (c + 1) b 10) := by rw [E2_c r93 x2 x3, E3_t rfl]
          have nh : nhB t b tt = (slw t b tt 29 || slw t b tt 31) := by
            unfold nhB
            rw [dne, f9.1, f9.2, Bool.false_or, Bool.false_or, Bool.or_false]
          have nk : nok t b tt = false := nok_s ⟨by omega, hd2.2⟩ (Or.inr hd) (by rw [hd2.1]; decide)
          rw [E, E4_ok, CNT_cl h ⟨by omega, j2⟩, j3, ← nh, nk, Bool.or_false]
          refine ⟨⟨fun z => ⟨z.1, by rw [z.1, Bool.or_true]; rfl⟩, fun z => ⟨z.1, by rw [Bool.or_true]; rfl⟩⟩, fun z => ?_⟩
          rw [z.1]; rfl
        | false =>
          have f10 := i10.2 x3
          have nh : nhB t b tt = false := by unfold nhB; rw [dne, f9.1, f9.2, f10.1, f10.2]; rfl
          have nm := CNT_num h (q := b) (by omega)
          have E := E2_d (t := t) (n := c + 1) (q := b) (ob := ob) (N1 := N1) r93 x2 x3
          rw [E, nh]
          cases x4 : (NUM t tt b).1 with
          | false =>
            have nk : nok t b tt = false := by unfold nok; rw [x4]; rfl
            have E' : E3 t (c + 1) ob false N1 b = scBad := E3_b rfl (by rw [nm]; exact x4)
            rw [E', nk]
            exact ⟨⟨bad_no _, fun z => absurd z.1 (by decide)⟩, bad_no _⟩
          | true =>
            have rg := NUM_rng (t := t) (n := tt) (p := b) ⟨by omega, by omega⟩ x4
            have E' : E3 t (c + 1) ob false N1 b = E4 t (c + 1) ob false N1 (nqs t b tt) (NUM t tt b).2.1 := by
              unfold E3 nqs; rw [if_neg (by decide), nm, if_pos x4]
            have nk : (nok t b tt = true) ↔ (NUM t tt b).2.1 = tt := by unfold nok; rw [x4, Bool.true_and, decide_eq_true_eq]
            rw [E', E4_ok, CNT_cl h ⟨by omega, rg.2⟩, Bool.false_or, nk, Bool.or_false]
            exact ⟨Iff.rfl, fun _ => rfl⟩
