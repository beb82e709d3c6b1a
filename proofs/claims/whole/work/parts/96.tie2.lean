theorem RBK_c {t : Int → Int} {fr tt c : Int} (h : CNT t fr tt c) (hx : t fr ≠ 44 ∧ 10 ≤ dig (t fr) ∧ t fr ≠ 46 ∧ t fr ≠ 45 ∧ t fr ≠ 43) (h24 : slw t fr tt 24 = false) (h25 : slw t fr tt 25 = false) (hcm : FB t fr tt 44 < 0 ∨ (fr < FB t fr tt 44 ∧ FB t fr tt 44 < tt)) : (RBK t fr tt).1 = false := by
  obtain ⟨h0, h1, h2, h3, h4⟩ := h
  unfold RBK
  rw [if_neg (fun z => z.elim (fun y => by omega) (fun y => by rw [h24] at y; cases y)), if_neg (by rw [h25]; decide)]
  rcases hcm with z | z
  · rw [if_neg (by omega)]
    exact nok_c ⟨h0.1, h0.2.1⟩ ⟨hx.2.1, hx.2.2⟩
  · rw [if_pos (by omega)]
    obtain ⟨c1, c2, c3, c4⟩ := TRB_is (t := t) (fr := fr) (to := FB t fr tt 44) (by omega)
    have ne : TRB t fr (FB t fr tt 44) ≠ fr := fun e => by
      have := c3 fr (by omega) (by omega); rw [h4] at this; cases this
    have nl : nlB t fr (TRB t fr (FB t fr tt 44)) = false := by
      unfold nlB
      rw [decide_eq_false ne, slw_c (x := 45) (l := [105, 110, 102]) rfl ⟨h0.1, by omega⟩ hx.2.2.2.1, slw_c (x := 45) (l := [105, 110, 102, 105, 110, 105, 116, 121]) rfl ⟨h0.1, by omega⟩ hx.2.2.2.1]
      rfl
    have nk := nok_c (t := t) (fr := fr) (to := TRB t fr (FB t fr tt 44)) ⟨h0.1, by omega⟩ ⟨hx.2.1, hx.2.2⟩
    unfold REN REN2
    rw [nl, nk]; rfl
/-- behind the lower end, at a comma -/
theorem E1_tie {t : Int → Int} {fr tt c cm a q : Int} {ob : Bool} {N1 : NQ} (h : CNT t fr tt c) (hcm : fr ≤ cm ∧ cm < tt ∧ t cm = 44) (hno : ∀ j : Int, fr ≤ j → j < cm → t j ≠ 44) (ha : a = TRB t fr cm) (hq : fr ≤ q ∧ q ≤ a) :
    (q = a → E1 t (c + 1) ob N1 q = E2 t (c + 1) ob N1 (sk t (c + 1) (cm + 1))) ∧ (q < a → ¬ ((E1 t (c + 1) ob N1 q).1 = true ∧ (E1 t (c + 1) ob N1 q).2.1 = c + 1)) := by
  have l8 : (strLen 8 : Int) = 1 := rfl
  have l2 : (strLen 2 : Int) = 1 := rfl
  obtain ⟨h0, h1, h2, h3, h4⟩ := h
  obtain ⟨c1, c2, c3, c4⟩ := TRB_is (t := t) (fr := fr) (to := cm) hcm.1
  rw [← ha] at c1 c2 c3 c4
  refine ⟨fun e => ?_, fun e => ?_⟩
  · have s : sk t (c + 1) q = cm := sk_is (by omega) (by omega) (fun j g1 g2 => c3 j (by omega) g2) (Or.inr (by rw [hcm.2.2]; decide))
    rw [E1_c (Or.inr (by rw [s, rat_in (by omega), hcm.2.2]; decide)) (by rw [s, w44, rat_in (by omega)]; exact decide_eq_true hcm.2.2), s, l8]
  · obtain ⟨g1, g2, g3, g4⟩ := sk_rng (t := t) (n := a) _ q rfl (by omega)
    have lt : sk t a q < a := by
      rcases Int.lt_or_le (sk t a q) a with z | z
      · exact z
      · have := g3 (a - 1) (by omega) (by omega); rw [c4 (by omega)] at this; cases this
    have s : sk t (c + 1) q = sk t a q := sk_is g1 (by omega) g3 (Or.inr (g4 lt))
    have n44 : t (sk t a q) ≠ 44 := hno _ (by omega) (by omega)
    have rin := rat_in (t := t) (n := c + 1) (i := sk t a q) (by omega)
    by_cases z : ob = false ∧ rat t (c + 1) (sk t (c + 1) q) = 93
    · intro y
      rw [E1_s z.1 z.2] at y
      have y2 : wq t (c + 1) (sk t (c + 1) (sk t (c + 1) q)) 2 = c + 1 := y.2
      have y1 : wdB t (c + 1) (sk t (c + 1) (sk t (c + 1) q)) 2 = true := y.1
      have ss : sk t (c + 1) (sk t (c + 1) q) = sk t a q := by
        rw [s]; exact sk_stop (fun x => by have := x.2; rw [g4 lt] at this; cases this)
      rw [ss] at y1 y2
      rw [wq_t y1, l2] at y2
      omega
    · have nn : ob = true ∨ rat t (c + 1) (sk t (c + 1) q) ≠ 93 := by
        cases ob with
        | true => exact Or.inl rfl
        | false => exact Or.inr (fun y => z ⟨rfl, y⟩)
      rw [E1_b nn (by rw [s, w44, rin]; exact decide_eq_false n44)]
      exact bad_no _
/-- two ends -/
theorem ENDS_c {t : Int → Int} {fr tt c cm : Int} (h : CNT t fr tt c) (hcm : fr ≤ cm ∧ cm < tt ∧ t cm = 44) (hno : ∀ j : Int, fr ≤ j → j < cm → t j ≠ 44) : REL (ENDS t (c + 1) fr) (REN t fr cm tt) (c + 1) := by
  have h' := h
  obtain ⟨h0, h1, h2, h3, h4⟩ := h'
  obtain ⟨c1, c2, c3, c4⟩ := TRB_is (t := t) (fr := fr) (to := cm) hcm.1
  have e1 := fun (q : Int) (ob : Bool) (N1 : NQ) (hq : fr ≤ q ∧ q ≤ TRB t fr cm) => E1_tie (ob := ob) (N1 := N1) h hcm hno rfl hq
  have e2 := fun (ob : Bool) (N1 : NQ) => E2_tie h ⟨hcm.1, hcm.2.1⟩ ob N1 rfl
  -- the scan goes on behind the lower end
  have go : ∀ (ob : Bool) (N1 : NQ) (q : Int), fr ≤ q ∧ q ≤ TRB t fr cm → ENDS t (c + 1) fr = E1 t (c + 1) ob N1 q → ob = nlB t fr (TRB t fr cm) → (ob = false → N1 = nqs t fr (TRB t fr cm)) → ((nlB t fr (TRB t fr cm) || nok t fr (TRB t fr cm)) = true ↔ q = TRB t fr cm) → REL (ENDS t (c + 1) fr) (REN t fr cm tt) (c + 1) := by
    intro ob N1 q hq hE hob hN hnk
    unfold REL
    rw [hE]
    rcases Int.lt_or_le q (TRB t fr cm) with z | z
    · have no := (e1 q ob N1 hq).2 z
      have nf : (REN t fr cm tt).1 = false := by
        unfold REN REN2
        show ((nlB t fr (TRB t fr cm) || nok t fr (TRB t fr cm)) && _ && _) = false
        rw [b_false (x := nlB t fr (TRB t fr cm) || nok t fr (TRB t fr cm)) (fun y => by have := hnk.mp y; omega)]; rfl
      rw [nf]
      exact ⟨⟨fun y => (by cases y), fun y => absurd y no⟩, fun y => absurd y no⟩
    · have eq : q = TRB t fr cm := by omega
      rw [(e1 q ob N1 hq).1 eq]
      have k := e2 ob N1
      have pr : ((REN t fr cm tt).1 = true) ↔ ((nhB t (sk t tt (cm + 1)) tt || nok t (sk t tt (cm + 1)) tt) = true ∧ (ob || nhB t (sk t tt (cm + 1)) tt || !rgt N1 (nqs t (sk t tt (cm + 1)) tt)) = true) := by
        unfold REN REN2
        show (((nlB t fr (TRB t fr cm) || nok t fr (TRB t fr cm)) && (nhB t (sk t tt (cm + 1)) tt || nok t (sk t tt (cm + 1)) tt) && (nlB t fr (TRB t fr cm) || nhB t (sk t tt (cm + 1)) tt || !rgt (nqs t fr (TRB t fr cm)) (nqs t (sk t tt (cm + 1)) tt))) = true) ↔ _
        rw [hnk.mpr eq, Bool.true_and, Bool.and_eq_true, ← hob]
        cases ob with
        | true => exact Iff.rfl
        | false => rw [hN rfl]
      refine ⟨pr.trans k.1.symm, fun y => ?_⟩
      rw [k.2 y]
      unfold REN REN2
      refine ⟨rfl, hob, rfl, hN, fun x => ?_⟩
      have x : nhB t (sk t tt (cm + 1)) tt = false := x
      show (if nhB t (sk t tt (cm + 1)) tt = true then n0 else _) = _
      rw [if_neg (by rw [x]; decide)]
  by_cases z : cm = fr
  · have ea : TRB t fr cm = fr := by rw [z]; exact TRB_e (Int.le_refl _) (Or.inl (Int.le_refl _))
    have nl : nlB t fr (TRB t fr cm) = true := by unfold nlB; rw [decide_eq_true ea]; rfl
    refine go true n0 fr ⟨Int.le_refl _, by omega⟩ ?_ nl.symm (fun y => by cases y) ⟨fun _ => ea.symm, fun _ => by rw [nl]; rfl⟩
    rw [ENDS_44 (by rw [rat_in (by omega), ← z]; exact hcm.2.2), E0_t rfl]
  · have n44 : t fr ≠ 44 := hno fr (Int.le_refl _) (by omega)
    have r44 : rat t (c + 1) fr ≠ 44 := by rw [rat_in (by omega)]; exact n44
    have ne : TRB t fr cm ≠ fr := fun e => by
      have := c3 fr (by omega) (by omega); rw [h4] at this; cases this
    have ta : t (TRB t fr cm) = 44 ∨ t (TRB t fr cm) = 32 ∨ t (TRB t fr cm) = 9 := by
      rcases Int.lt_or_le (TRB t fr cm) cm with y | y
      · have := c3 _ (Int.le_refl _) y
        unfold blk at this
        exact Or.inr (of_decide_eq_true this)
      · left; rw [show TRB t fr cm = cm by omega]; exact hcm.2.2
    have it := inf_tie (t := t) (n := c + 1) (s := TRB t fr cm) (p := fr) (i := 4) (iS := 26) (iL := 27) ⟨by omega, by omega⟩ c1 ⟨by rcases ta with y | y | y <;> rw [y] <;> decide, by rcases ta with y | y | y <;> rw [y] <;> decide⟩ rfl rfl
    cases x : wdB t (c + 1) fr 4 with
    | true =>
      obtain ⟨j1, j2, j3⟩ := it.1 x
      have w := wd_lim (t := t) (n := c + 1) (s := TRB t fr cm) (p := fr) (i := 4) ⟨by omega, by omega⟩ (by rcases ta with y | y | y <;> rw [y] <;> decide) c1
      have hd : t fr = 45 ∧ t (fr + 1) = 105 ∧ fr + 1 < TRB t fr cm := by
        have y := x
        rw [w.1] at y
        have len := w.2 y
        have l4 : (strLen 4 : Int) = 4 := rfl
        have e : wdB t (TRB t fr cm) fr 4 = (decide (rat t (TRB t fr cm) fr = 45) && (decide (rat t (TRB t fr cm) (fr + 1) = 105) && wdL t (TRB t fr cm) (fr + 1 + 1) [110, 102])) := rfl
        rw [e, Bool.and_eq_true, Bool.and_eq_true] at y
        have y1 := of_decide_eq_true y.1
        have y2 := of_decide_eq_true y.2.1
        rw [rat_in (by omega)] at y1 y2
        exact ⟨y1, y2, by omega⟩
      have nk : nok t fr (TRB t fr cm) = false := nok_s ⟨h0.1, hd.2.2⟩ (Or.inl hd.1) (by rw [hd.2.1]; decide)
      have nl : nlB t fr (TRB t fr cm) = (slw t fr (TRB t fr cm) 26 || slw t fr (TRB t fr cm) 27) := by unfold nlB; rw [decide_eq_false ne, Bool.false_or]
      rcases Int.lt_or_le (infq t (c + 1) fr 4) (TRB t fr cm) with y | y
      · have nlf : nlB t fr (TRB t fr cm) = false := by
          rw [nl]; exact b_false (fun q => by have := j3.mpr q; omega)
        have hE : ENDS t (c + 1) fr = E1 t (c + 1) true n0 (infq t (c + 1) fr 4) := by rw [ENDS_in r44 x, E0_t rfl]
        have no := (e1 _ true n0 ⟨j1, j2⟩).2 y
        have nf : (REN t fr cm tt).1 = false := by
          unfold REN REN2
          show ((nlB t fr (TRB t fr cm) || nok t fr (TRB t fr cm)) && _ && _) = false
          rw [nlf, nk]; rfl
        unfold REL
        rw [hE, nf]
        exact ⟨⟨fun q => (by cases q), fun q => absurd q no⟩, fun q => absurd q no⟩
      · have eq : infq t (c + 1) fr 4 = TRB t fr cm := by omega
        have nlt : nlB t fr (TRB t fr cm) = true := by rw [nl]; exact j3.mp eq
        refine go true n0 _ ⟨j1, j2⟩ (by rw [ENDS_in r44 x, E0_t rfl]) nlt.symm (fun q => by cases q) ⟨fun _ => eq, fun _ => by rw [nlt]; rfl⟩
    | false =>
      have f := it.2 x
      have nl : nlB t fr (TRB t fr cm) = false := by unfold nlB; rw [decide_eq_false ne, f.1, f.2]; rfl
      have st : stp (t (TRB t fr cm)) := by
        rcases ta with y | y | y <;> rw [y]
        · exact stp_93.2.2.2.1
        · exact stp_93.2.1
        · exact stp_93.2.2.1
      have nm : NUM t (c + 1) fr = NUM t (TRB t fr cm) fr := NUM_lim ⟨by omega, by omega⟩ st c1
      cases y : (NUM t (TRB t fr cm) fr).1 with
      | false =>
        have hE : ENDS t (c + 1) fr = scBad := by rw [ENDS_no r44 x, E0_b rfl (by rw [nm]; exact y)]
        have nk : nok t fr (TRB t fr cm) = false := by unfold nok; rw [y]; rfl
        have nf : (REN t fr cm tt).1 = false := by
          unfold REN REN2
          show ((nlB t fr (TRB t fr cm) || nok t fr (TRB t fr cm)) && _ && _) = false
          rw [nl, nk]; rfl
        unfold REL
        rw [hE, nf]
        exact ⟨⟨fun q => (by cases q), bad_no _⟩, bad_no _⟩
      | true =>
        have rg := NUM_rng (t := t) (n := TRB t fr cm) (p := fr) ⟨h0.1, c1⟩ y
        refine go false (nqs t fr (TRB t fr cm)) (NUM t (TRB t fr cm) fr).2.1 rg ?_ nl.symm (fun _ => rfl) ?_
        · rw [ENDS_no r44 x]
          unfold E0 nqs
          rw [if_neg (by decide), nm, if_pos y]
        · rw [nl, Bool.false_or]; unfold nok; rw [y, Bool.true_and, decide_eq_true_eq]
/-- one end -/
theorem ENDS_s {t : Int → Int} {fr tt c : Int} (h : CNT t fr tt c) (hno : ∀ j : Int, fr ≤ j → j < tt → t j ≠ 44) : REL (ENDS t (c + 1) fr) (nok t fr tt, 0, false, false, false, nqs t fr tt, nqs t fr tt) (c + 1) := by
  have l2 : (strLen 2 : Int) = 1 := rfl
  have h' := h
  obtain ⟨h0, h1, h2, h3, h4⟩ := h'
  have r44 : rat t (c + 1) fr ≠ 44 := by rw [rat_in (by omega)]; exact hno fr (Int.le_refl _) (by omega)
  have hstop := CNT_tt h
  have it := inf_tie (t := t) (n := c + 1) (s := tt) (p := fr) (i := 4) (iS := 26) (iL := 27) ⟨by omega, by omega⟩ (by omega) ⟨by rcases hstop with y | y | y <;> rw [y] <;> decide, by rcases hstop with y | y | y <;> rw [y] <;> decide⟩ rfl rfl
  have e1 : ∀ (ob : Bool) (N1 : NQ) (q : Int), fr ≤ q ∧ q ≤ tt → (ob = true ∨ q < tt) → ¬ ((E1 t (c + 1) ob N1 q).1 = true ∧ (E1 t (c + 1) ob N1 q).2.1 = c + 1) := by
    intro ob N1 q hq hc
    have k := CNT_sk h (q := q) ⟨by omega, hq.2⟩
    rcases Int.lt_or_le q tt with z | z
    · obtain ⟨k1, k2⟩ := k.2 z
      have g := sk_rng (t := t) (n := tt) _ q rfl hq.2
      rw [k2] at k1
      have n44 : t (sk t tt q) ≠ 44 := hno _ (by omega) k1
      by_cases y : ob = false ∧ rat t (c + 1) (sk t (c + 1) q) = 93
      · intro x
        rw [E1_s y.1 y.2] at x
        have x2 : wq t (c + 1) (sk t (c + 1) (sk t (c + 1) q)) 2 = c + 1 := x.2
        have x1 : wdB t (c + 1) (sk t (c + 1) (sk t (c + 1) q)) 2 = true := x.1
        have ss : sk t (c + 1) (sk t (c + 1) q) = sk t tt q := by
          rw [k2]; exact sk_stop (fun w => by have := w.2; rw [g.2.2.2 k1] at this; cases this)
        rw [ss] at x1 x2
        rw [wq_t x1, l2] at x2
        omega
      · have nn : ob = true ∨ rat t (c + 1) (sk t (c + 1) q) ≠ 93 := by
          cases ob with
          | true => exact Or.inl rfl
          | false => exact Or.inr (fun w => y ⟨rfl, w⟩)
        rw [E1_b nn (by rw [k2, w44, rat_in (by omega)]; exact decide_eq_false n44)]
        exact bad_no _
    · have ot : ob = true := by
        rcases hc with y | y
        · exact y
        · omega
      have s := k.1 (by omega)
      rw [E1_b (Or.inl ot) (by rw [s, w44, rat_in (by omega), h1]; decide)]
      exact bad_no _
  unfold REL
  cases x : wdB t (c + 1) fr 4 with
  | true =>
    obtain ⟨j1, j2, j3⟩ := it.1 x
    have hE : ENDS t (c + 1) fr = E1 t (c + 1) true n0 (infq t (c + 1) fr 4) := by rw [ENDS_in r44 x, E0_t rfl]
    have no := e1 true n0 _ ⟨j1, j2⟩ (Or.inl rfl)
    have w := CNT_wd h (q := fr) (i := 4) (by omega) (by decide)
    have hd : t fr = 45 ∧ t (fr + 1) = 105 ∧ fr + 1 < tt := by
      have y := x
      rw [w.1] at y
      have len := w.2 y
      have l4 : (strLen 4 : Int) = 4 := rfl
      have e : wdB t tt fr 4 = (decide (rat t tt fr = 45) && (decide (rat t tt (fr + 1) = 105) && wdL t tt (fr + 1 + 1) [110, 102])) := rfl
      rw [e, Bool.and_eq_true, Bool.and_eq_true] at y
      have y1 := of_decide_eq_true y.1
      have y2 := of_decide_eq_true y.2.1
      rw [rat_in (by omega)] at y1 y2
      exact ⟨y1, y2, by omega⟩
    have nk : nok t fr tt = false := nok_s ⟨h0.1, hd.2.2⟩ (Or.inl hd.1) (by rw [hd.2.1]; decide)
    rw [hE, nk]
    exact ⟨⟨fun q => (by cases q), fun q => absurd q no⟩, fun q => absurd q no⟩
  | false =>
    have nm := CNT_num h (q := fr) (by omega)
    cases y : (NUM t tt fr).1 with
    | false =>
      have hE : ENDS t (c + 1) fr = scBad := by rw [ENDS_no r44 x, E0_b rfl (by rw [nm]; exact y)]
      have nk : nok t fr tt = false := by unfold nok; rw [y]; rfl
      rw [hE, nk]
      exact ⟨⟨fun q => (by cases q), bad_no _⟩, bad_no _⟩
    | true =>
      have rg := NUM_rng (t := t) (n := tt) (p := fr) ⟨h0.1, by omega⟩ y
      have hE : ENDS t (c + 1) fr = E1 t (c + 1) false (nqs t fr tt) (NUM t tt fr).2.1 := by
        rw [ENDS_no r44 x]
        unfold E0 nqs
        rw [if_neg (by decide), nm, if_pos y]
      have nk : (nok t fr tt = true) ↔ (NUM t tt fr).2.1 = tt := by unfold nok; rw [y, Bool.true_and, decide_eq_true_eq]
      rw [hE]
      rcases Int.lt_or_le (NUM t tt fr).2.1 tt with z | z
      · have no := e1 false (nqs t fr tt) _ rg (Or.inr z)
        have nf : nok t fr tt = false := b_false (fun q => by have := nk.mp q; omega)
        rw [nf]
        exact ⟨⟨fun q => (by cases q), fun q => absurd q no⟩, fun q => absurd q no⟩
      · have eq : (NUM t tt fr).2.1 = tt := by omega
        have s := (CNT_sk h (q := (NUM t tt fr).2.1) ⟨by omega, rg.2⟩).1 eq
        have cs : sk t (c + 1) c = c := sk_stop (fun w => by have := w.2; rw [h1] at this; exact absurd this (by decide))
        have w : wdB t (c + 1) c 2 = true := by rw [w93, rat_in (by omega)]; exact decide_eq_true h1
        rw [E1_s rfl (by rw [s, rat_in (by omega)]; exact h1), s, cs, w, wq_t w, l2, nk.mpr eq]
        exact ⟨⟨fun _ => ⟨rfl, rfl⟩, fun _ => rfl⟩, fun _ => ⟨rfl, rfl, rfl, fun _ => rfl, fun _ => rfl⟩⟩
theorem CLO_ok {t : Int → Int} {n q m : Int} {em op : Bool} : ((CLO t n q em op).1 = true ∧ (CLO t n q em op).2.1 = m) ↔ (wdB t n (sk t n q) 2 = true ∧ wq t n (sk t n q) 2 = m) := Iff.rfl
theorem FB_is {t : Int → Int} {b : Int} : ∀ (k : Nat) (fr to : Int), (to - fr).toNat = k → 0 ≤ fr → FBR t fr to b (fbN t b k fr)
  | 0, fr, to, hk, h0 => Or.inl ⟨rfl, fun j h1 h2 => by omega⟩
  | k + 1, fr, to, hk, h0 => by
    rw [fbN]
    by_cases z : t fr = b
    · rw [if_pos z]; exact Or.inr ⟨by omega, z, fun j h1 h2 => by omega⟩
    · rw [if_neg z]
      rcases FB_is (t := t) (b := b) k (fr + 1) to (by omega) (by omega) with ⟨h1, h2⟩ | ⟨h1, h2, h3⟩
      · exact Or.inl ⟨h1, fun j g1 g2 => if y : j = fr then (by rw [y]; exact z) else h2 j (by omega) g2⟩
      · exact Or.inr ⟨by omega, h2, fun j g1 g2 => if y : j = fr then (by rw [y]; exact z) else h3 j (by omega) g2⟩
/-- brackets -/
theorem BRK_tie {t : Int → Int} {f c : Int} (h0 : 0 ≤ f ∧ f < c) (hf : t f = 91) (hc : t c = 93) : REL (BRK t (c + 1) f) (RBK t (sk t c (f + 1)) (TRB t (sk t c (f + 1)) c)) (c + 1) := by
  have l0 : (strLen 0 : Int) = 1 := rfl
  have l1 : (strLen 1 : Int) = 5 := rfl
  have l3 : (strLen 3 : Int) = 6 := rfl
  have l24 : (strLen 24 : Int) = 5 := rfl
  have l25 : (strLen 25 : Int) = 6 := rfl
  have wq0 : wq t (c + 1) f 0 = f + 1 := by rw [wq_t (by rw [w91, rat_in (by omega)]; exact decide_eq_true hf), l0]
  have b93 : blk (t c) = false := by rw [hc]; decide
  have p1 : sk t (c + 1) (wq t (c + 1) f 0) = sk t c (f + 1) := by rw [wq0]; exact sk_lim (by omega) b93 (by omega)
  obtain ⟨s1, s2, s3, s4⟩ := sk_rng (t := t) (n := c) _ (f + 1) rfl (by omega)
  generalize hfr : sk t c (f + 1) = fr at *
  obtain ⟨c1, c2, c3, c4⟩ := TRB_is (t := t) (fr := fr) (to := c) s2
  generalize htt : TRB t fr c = tt at *
  rcases Int.lt_or_le fr c with z | z
  · have nb := s4 z
    have lt : fr < tt := by
      rcases Int.lt_or_le fr tt with y | y
      · exact y
      · have := c3 fr y z; rw [nb] at this; cases this
    have h : CNT t fr tt c := ⟨⟨by omega, lt, c2⟩, hc, c3, c4 lt, nb⟩
    have fb := FB_is (t := t) (b := 44) _ fr tt rfl (by omega)
    have w1 := CNT_wd h (q := fr) (i := 1) (by omega) (by decide)
    have w3 := CNT_wd h (q := fr) (i := 3) (by omega) (by decide)
    have v24 : slw t fr tt 24 = (decide (tt - fr = 5) && wdB t tt fr 1) := rfl
    have v25 : slw t fr tt 25 = (decide (tt - fr = 6) && wdB t tt fr 3) := rfl
    have fr' : FB t fr tt 44 < 0 ∨ (fr ≤ FB t fr tt 44 ∧ FB t fr tt 44 < tt) := by
      unfold FB; rcases fb with y | y
      · left; omega
      · right; omega
    have fr2 : t fr ≠ 44 → FB t fr tt 44 < 0 ∨ (fr < FB t fr tt 44 ∧ FB t fr tt 44 < tt) := by
      intro y
      rcases fb with q | ⟨q, q2, _⟩
      · left; unfold FB; omega
      · right; unfold FB
        have : fbN t 44 (tt - fr).toNat fr ≠ fr := fun e => by rw [e] at q2; exact y q2
        omega
    cases x1 : wdB t (c + 1) fr 1 with
    | true =>
      have y1 := x1
      rw [w1.1] at y1
      have hd := (wd_head (i := 1) (x := 101) (l := [109, 112, 116, 121]) rfl (by decide) y1).2
      have len := w1.2 y1
      have E : BRK t (c + 1) f = CLO t (c + 1) (fr + (strLen 1 : Int)) true false := by rw [BRK_e (by rw [p1]; exact x1), p1]
      have cl := CNT_cl h (q := fr + (strLen 1 : Int)) ⟨by omega, by omega⟩
      unfold REL
      rw [E, CLO_ok, cl]
      by_cases e : fr + (strLen 1 : Int) = tt
      · have s24 : slw t fr tt 24 = true := by rw [v24, y1, decide_eq_true (by omega)]; rfl
        have R : RBK t fr tt = (true, 0, true, false, false, n0, n0) := by unfold RBK; rw [if_pos (Or.inr s24)]
        rw [R]
        exact ⟨⟨fun _ => e, fun _ => rfl⟩, fun _ => ⟨rfl, rfl, rfl, fun _ => rfl, fun _ => rfl⟩⟩
      · have s24 : slw t fr tt 24 = false := by rw [v24, decide_eq_false (by omega)]; rfl
        have hd2 : t (fr + 1) = 109 := by
          have q := y1
          have e2 : wdB t tt fr 1 = (decide (rat t tt fr = 101) && (decide (rat t tt (fr + 1) = 109) && wdL t tt (fr + 1 + 1) [112, 116, 121])) := rfl
          rw [e2, Bool.and_eq_true, Bool.and_eq_true] at q
          have q2 := of_decide_eq_true q.2.1
          rw [rat_in (by omega)] at q2; exact q2
        have s25 : slw t fr tt 25 = false := by
          have e2 : wdB t tt fr 3 = (decide (rat t tt fr = 101) && (decide (rat t tt (fr + 1) = 110) && wdL t tt (fr + 1 + 1) [116, 105, 114, 101])) := rfl
          rw [v25, e2, rat_in (show 0 ≤ fr + 1 ∧ fr + 1 < tt by omega), hd2, decide_eq_false (show ¬ (109 : Int) = 110 by decide), Bool.false_and, Bool.and_false, Bool.and_false]
        have R := RBK_c h (by rw [hd]; decide) s24 s25 (fr2 (by rw [hd]; decide))
        rw [R]
        exact ⟨⟨fun q => (by cases q), fun q => absurd q e⟩, fun q => absurd q e⟩
    | false =>
      have y1 := x1
      rw [w1.1] at y1
      have s24 : slw t fr tt 24 = false := by rw [v24, y1, Bool.and_false]
      by_cases x2 : t fr = 93
      · have E : BRK t (c + 1) f = CLO t (c + 1) fr true false := by rw [BRK_c (by rw [p1]; exact x1) (by rw [p1, rat_in (by omega)]; exact x2), p1]
        have cl := CNT_cl h (q := fr) ⟨by omega, by omega⟩
        have s25 : slw t fr tt 25 = false := slw_c (x := 101) (l := [110, 116, 105, 114, 101]) rfl ⟨by omega, lt⟩ (by rw [x2]; decide)
        have R := RBK_c h (by rw [x2]; decide) s24 s25 (fr2 (by rw [x2]; decide))
        unfold REL
        rw [E, CLO_ok, cl, R]
        exact ⟨⟨fun q => (by cases q), fun q => by omega⟩, fun q => by omega⟩
      · have r93 : rat t (c + 1) (sk t (c + 1) (wq t (c + 1) f 0)) ≠ 93 := by rw [p1, rat_in (by omega)]; exact x2
        cases x3 : wdB t (c + 1) fr 3 with
        | true =>
          have y3 := x3
          rw [w3.1] at y3
          have hd := (wd_head (i := 3) (x := 101) (l := [110, 116, 105, 114, 101]) rfl (by decide) y3).2
          have len := w3.2 y3
          have E : BRK t (c + 1) f = CLO t (c + 1) (fr + (strLen 3 : Int)) false true := by rw [BRK_n (by rw [p1]; exact x1) r93 (by rw [p1]; exact x3), p1]
          have cl := CNT_cl h (q := fr + (strLen 3 : Int)) ⟨by omega, by omega⟩
          unfold REL
          rw [E, CLO_ok, cl]
          by_cases e : fr + (strLen 3 : Int) = tt
          · have s25 : slw t fr tt 25 = true := by rw [v25, y3, decide_eq_true (by omega)]; rfl
            have R : RBK t fr tt = (true, 0, false, true, true, n0, n0) := by unfold RBK; rw [if_neg (fun q => q.elim (fun y => by omega) (fun y => by rw [s24] at y; cases y)), if_pos s25]
            rw [R]
            exact ⟨⟨fun _ => e, fun _ => rfl⟩, fun _ => ⟨rfl, rfl, rfl, fun _ => rfl, fun _ => rfl⟩⟩
          · have s25 : slw t fr tt 25 = false := by rw [v25, decide_eq_false (by omega)]; rfl
            have R := RBK_c h (by rw [hd]; decide) s24 s25 (fr2 (by rw [hd]; decide))
            rw [R]
            exact ⟨⟨fun q => (by cases q), fun q => absurd q e⟩, fun q => absurd q e⟩
        | false =>
          have y3 := x3
          rw [w3.1] at y3
          have s25 : slw t fr tt 25 = false := by rw [v25, y3, Bool.and_false]
          have E : BRK t (c + 1) f = ENDS t (c + 1) fr := by rw [BRK_b (by rw [p1]; exact x1) r93 (by rw [p1]; exact x3), p1]
          rw [E]
          unfold RBK
          rw [if_neg (fun q => q.elim (fun y => by omega) (fun y => by rw [s24] at y; cases y)), if_neg (by rw [s25]; decide)]
          have fb' : FBR t fr tt 44 (FB t fr tt 44) := fb
          rcases fb' with ⟨q1, q2⟩ | ⟨q1, q2, q3⟩
          · rw [if_neg (by omega)]
            exact ENDS_s h q2
          · rw [if_pos (by omega)]
            exact ENDS_c h ⟨q1.1, q1.2, q2⟩ q3
  · have e : fr = c := by omega
    have et : tt = c := by omega
    have E : BRK t (c + 1) f = CLO t (c + 1) c true false := by
      rw [BRK_c (by rw [p1, e]; exact b_false (fun q => by have := (wd_head (i := 1) (x := 101) (l := [109, 112, 116, 121]) rfl (by decide) q).2; rw [hc] at this; exact absurd this (by decide))) (by rw [p1, e, rat_in (by omega)]; exact hc), p1, e]
    have cs : sk t (c + 1) c = c := sk_stop (fun w => by have := w.2; rw [hc] at this; exact absurd this (by decide))
    have w : wdB t (c + 1) c 2 = true := by rw [w93, rat_in (by omega)]; exact decide_eq_true hc
    have ok : (CLO t (c + 1) c true false).1 = true ∧ (CLO t (c + 1) c true false).2.1 = c + 1 := by rw [CLO_ok, cs, wq_t w]; exact ⟨w, rfl⟩
    have R : RBK t fr tt = (true, 0, true, false, false, n0, n0) := by unfold RBK; rw [if_pos (Or.inl (by omega))]
    unfold REL
    rw [E, R]
    exact ⟨⟨fun _ => ok, fun _ => rfl⟩, fun _ => ⟨rfl, rfl, rfl, fun _ => rfl, fun _ => rfl⟩⟩
/-- where brackets end, a closing one stands -/
def CLQ (t : Int → Int) (n : Int) (S : SC) : Prop := S.1 = true → ∃ s : Int, wdB t n s 2 = true ∧ S.2.1 = wq t n s 2
theorem CLQ_bad (t : Int → Int) (n : Int) : CLQ t n scBad := fun h => absurd h (by decide)
theorem CLQ_4 (t : Int → Int) (n : Int) (ob oa : Bool) (N1 N2 : NQ) (q : Int) : CLQ t n (E4 t n ob oa N1 N2 q) := fun h => ⟨sk t n q, (E4_ok.mp ⟨h, rfl⟩).1.1, rfl⟩
theorem CLQ_3 (t : Int → Int) (n : Int) (ob oa : Bool) (N1 : NQ) (q : Int) : CLQ t n (E3 t n ob oa N1 q) := by
  unfold E3; split
  · exact CLQ_4 _ _ _ _ _ _ _
  · split
    · exact CLQ_4 _ _ _ _ _ _ _
    · exact CLQ_bad _ _
theorem CLQ_2 (t : Int → Int) (n : Int) (ob : Bool) (N1 : NQ) (q : Int) : CLQ t n (E2 t n ob N1 q) := by
  unfold E2; split
  · exact CLQ_3 _ _ _ _ _ _
  · split
    · exact CLQ_3 _ _ _ _ _ _
    · split <;> exact CLQ_3 _ _ _ _ _ _
theorem CLQ_1 (t : Int → Int) (n : Int) (ob : Bool) (N1 : NQ) (q : Int) : CLQ t n (E1 t n ob N1 q) := by
  unfold E1; split
  · exact fun h => ⟨_, h, rfl⟩
  · split
    · exact CLQ_2 _ _ _ _ _
    · exact CLQ_bad _ _
theorem CLQ_0 (t : Int → Int) (n : Int) (ob : Bool) (q : Int) : CLQ t n (E0 t n ob q) := by
  unfold E0; split
  · exact CLQ_1 _ _ _ _ _
  · split
    · exact CLQ_1 _ _ _ _ _
    · exact CLQ_bad _ _
theorem CLQ_B (t : Int → Int) (n : Int) (p : Int) : CLQ t n (BRK t n p) := by
  unfold BRK; split
  · exact fun h => ⟨_, h, rfl⟩
  · split
    · exact fun h => ⟨_, h, rfl⟩
    · split
      · exact fun h => ⟨_, h, rfl⟩
      · unfold ENDS; split
        · exact CLQ_0 _ _ _ _
        · split <;> exact CLQ_0 _ _ _ _
/-- the whole text without its mark -/
theorem RPS_tie {t : Int → Int} {f en : Int} (h0 : 0 ≤ f ∧ f ≤ en) : REL (SCN t en f) (RPS t f en) en := by
  have l2 : (strLen 2 : Int) = 1 := rfl
  by_cases hb : f < en ∧ t f = 91
  · have S : SCN t en f = BRK t en f := by unfold SCN; rw [if_pos (by rw [rat_in (by omega)]; exact hb.2)]
    rw [S]
    by_cases hc : t (en - 1) = 93 ∧ 1 < en - f
    · have R : RPS t f en = RBK t (sk t (en - 1) (f + 1)) (TRB t (sk t (en - 1) (f + 1)) (en - 1)) := by unfold RPS; rw [if_pos ⟨hb.1, hb.2, hc.1, hc.2⟩]
      rw [R]
      have k := BRK_tie (t := t) (f := f) (c := en - 1) ⟨h0.1, by omega⟩ hb.2 hc.1
      rw [show en - 1 + 1 = en by omega] at k
      exact k
    · have R : RPS t f en = RUN t f en := by unfold RPS; rw [if_neg (fun z => hc ⟨z.2.2.1, z.2.2.2⟩)]
      have e : sgP t en f = f := by unfold sgP; rw [if_neg (by rw [rat_in (by omega), hb.2]; decide)]
      have bad : SPR t en f = scBad := by
        obtain ⟨q, v, c, fr, hp, hd⟩ : ∃ q v c fr hp, DGs t en 10 true (sgP t en f) z0 = (q, v, c, fr, hp) := ⟨_, _, _, _, _, rfl⟩
        refine SPR_b hd (Or.inl ?_)
        have s := DG_stop (t := t) (n := en) (ba := 10) (p := f) (V := 0) (cn := 0) (fr := 0) (pm := true) (hp := false) h0.1 (Or.inr ⟨by rw [rat_in (by omega), hb.2]; decide, Or.inl (by rw [rat_in (by omega), hb.2]; decide)⟩)
        rw [e, s] at hd
        have : c = 0 := by injection hd with _ h2; injection h2 with _ h3; injection h3 with h4; exact h4.symm
        omega
      have no : ¬ ((BRK t en f).1 = true ∧ (BRK t en f).2.1 = en) := by
        intro z
        obtain ⟨s, w, e2⟩ := CLQ_B t en f z.1
        have hd := wd_head (i := 2) (x := 93) (l := []) rfl (by decide) w
        rw [wq_t w, l2] at e2
        have es : s = en - 1 := by have := z.2; omega
        rw [es] at hd
        refine hc ⟨hd.2, ?_⟩
        have : f ≠ en - 1 := fun x => by rw [← x, hb.2] at hd; exact absurd hd.2 (by decide)
        omega
      unfold REL
      rw [R, RUN_b bad]
      exact ⟨⟨fun q => (by cases q), fun q => absurd q no⟩, fun q => absurd q no⟩
  · have S : SCN t en f = SPR t en f := by
      unfold SCN
      rw [if_neg (fun z => by have q := rat_neg (t := t) (n := en) (i := f) (by rw [z]; decide); rw [rat_in q] at z; exact hb ⟨q.2, z⟩)]
    have R : RPS t f en = RUN t f en := by unfold RPS; rw [if_neg (fun z => hb ⟨z.1, z.2.1⟩)]
    rw [S, R]
    unfold REL RUN
    refine ⟨?_, fun _ => ⟨rfl, rfl, rfl, fun _ => rfl, fun _ => rfl⟩⟩
    show ((SPR t en f).1 && decide ((SPR t en f).2.1 = en)) = true ↔ _
    rw [Bool.and_eq_true, decide_eq_true_eq]
