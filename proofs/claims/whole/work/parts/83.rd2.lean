/-! a number in a slice: the reference's three ways -/
theorem sw_hex {t : Int → Int} {n p : Int} (hp : 0 ≤ p) : wdB t n p 6 = true ↔ (p + 1 < n ∧ t p = 48 ∧ t (p + 1) = 120) := by
  have e : wdB t n p 6 = (decide (rat t n p = 48) && (decide (rat t n (p + 1) = 120) && true)) := rfl
  rw [e]
  by_cases h : p + 1 < n
  · rw [rat_in (by omega), rat_in (by omega)]
    simp [h]
  · by_cases g : p < n
    · rw [rat_out (show ¬ (0 ≤ p + 1 ∧ p + 1 < n) by omega)]
      constructor
      · intro z; simp at z
      · intro z; omega
    · rw [rat_out (show ¬ (0 ≤ p ∧ p < n) by omega)]
      constructor
      · intro z; simp at z
      · intro z; omega
theorem sw_one {t : Int → Int} {n p x : Int} {i : Nat} (hi : strByt.getD i [] = [x]) : wdB t n p i = decide (rat t n p = x) := by
  unfold wdB; rw [hi, wdL, wdL, Bool.and_true]
theorem EXP_XE {t : Int → Int} {to q : Int} {most : Nat} {mm : Bool} {le : Int} (h : rat t to q = le) : EXP t to le most mm q = (decide (0 < (XE t to (q + 1) most).2.2), (XE t to (q + 1) most).1, if sgN t to (q + 1) then -(XE t to (q + 1) most).2.1 else (XE t to (q + 1) most).2.1) := by
  unfold EXP XE; rw [if_neg (fun z => z h)]
/-- hexadecimal -/
theorem NOK_h {t : Int → Int} {a b q v c fr : Int} {hp : Bool} (h : wdB t b (sgP t b a) 6 = true) (hd : DGs t b 16 true (sgP t b a + 2) z0 = (q, v, c, fr, hp)) (hl : rat t b q ≠ -1 → q < b) : NOK t a b ↔ (0 < c ∧ rat t b q = 112 ∧ XEok t b (q + 1) 4) := by
  have h2 : (strLen 6 : Int) = 2 := rfl
  unfold NOK
  by_cases hc : 0 < c
  · rw [NUM_h h (by rw [h2]; exact hd) hc]
    by_cases hr : rat t b q = 112
    · rw [EXP_XE hr]
      simp only [decide_eq_true_eq]
      exact ⟨fun z => ⟨hc, hr, z⟩, fun z => z.2.2⟩
    · have e : EXP t b 112 (Int.toNat 4) false q = (false, q, 0) := by unfold EXP; rw [if_pos hr]
      rw [e]
      exact ⟨fun z => (by cases z.1), fun z => absurd z.2.1 hr⟩
  · have e := NUM_h0 h (by rw [h2, hd]; exact hc)
    rw [e]
    exact ⟨fun z => (by cases z.1), fun z => absurd z.1 hc⟩
theorem nqs_h {t : Int → Int} {a b q v c fr ex : Int} {hp : Bool} (h : wdB t b (sgP t b a) 6 = true) (hd : DGs t b 16 true (sgP t b a + 2) z0 = (q, v, c, fr, hp)) (hc : 0 < c) (hr : rat t b q = 112) (hx : ex = if sgN t b (q + 1) then -(XE t b (q + 1) 4).2.1 else (XE t b (q + 1) 4).2.1) : nqs t a b = (sgN t b a, v, 1, ex - 4 * fr) := by
  have h2 : (strLen 6 : Int) = 2 := rfl
  unfold nqs
  rw [NUM_h h (by rw [h2]; exact hd) hc, EXP_XE hr, hx]
  rfl
/-! LIMITS: at a char that nothing takes, a scan ends as at the end of the text -/
theorem rat_lim {t : Int → Int} {n s j : Int} (h : j < s) (hs : s ≤ n) : rat t n j = rat t s j := by
  unfold rat
  by_cases z : 0 ≤ j
  · rw [if_pos (by omega), if_pos (by omega)]
  · rw [if_neg (by omega), if_neg (by omega)]
theorem rat_at {t : Int → Int} {n s : Int} (h : 0 ≤ s ∧ s < n) : rat t n s = t s ∧ rat t s s = -1 := ⟨rat_in h, rat_out (by omega)⟩
theorem DGs_lim {t : Int → Int} {n s ba : Int} {pm : Bool} (hs : 0 ≤ s ∧ s < n) (hx : 16 ≤ dig (t s) ∧ t s ≠ 46) (hb : ba ≤ 16) : ∀ (f : Nat) (p : Int) (st : DgS), (s - p).toNat = f → p ≤ s → DGs t n ba pm p st = DGs t s ba pm p st
  | 0, p, st, hf, hp => by
    have e : p = s := by omega
    subst e
    rw [DGs_stop (fun z => by
      have z2 := z.2; unfold dgAcc at z2
      rw [decide_eq_false hx.2, decide_eq_false (show ¬ dig (t p) < ba by omega)] at z2; cases z2), DGs_stop (fun z => by omega)]
  | f + 1, p, st, hf, hp => by
    by_cases a : dgAcc ba pm st.2.2.2 (t p) = true
    · rw [DGs_step (by omega) a, DGs_step (show p < s by omega) a]
      exact DGs_lim hs hx hb f (p + 1) _ (by omega) (by omega)
    · rw [DGs_stop (fun z => a z.2), DGs_stop (fun z => a z.2)]
theorem DGs_rng {t : Int → Int} {n ba : Int} {pm : Bool} : ∀ (f : Nat) (p : Int) (st : DgS), (n - p).toNat = f → p ≤ n → p ≤ (DGs t n ba pm p st).1 ∧ (DGs t n ba pm p st).1 ≤ n
  | 0, p, st, hf, hp => by rw [DGs_stop (fun z => by omega)]; simp only; omega
  | f + 1, p, st, hf, hp => by
    by_cases a : dgAcc ba pm st.2.2.2 (t p) = true
    · rw [DGs_step (by omega) a]
      have := DGs_rng (t := t) (n := n) (ba := ba) (pm := pm) f (p + 1) (dgStep ba st (t p)) (by omega) (by omega)
      omega
    · rw [DGs_stop (fun z => a z.2)]; simp only; omega
theorem exL_lim {t : Int → Int} {n s : Int} (hs : 0 ≤ s ∧ s < n) (hx : 10 ≤ dig (t s)) : ∀ (f : Nat) (p x k : Int), p ≤ s → exL t n f p x k = exL t s f p x k
  | 0, p, x, k, hp => rfl
  | f + 1, p, x, k, hp => by
    by_cases e : p = s
    · subst e
      rw [exL, exL, if_neg (by rw [(rat_at hs).1]; omega), if_neg (by rw [(rat_at hs).2]; decide)]
    · rw [exL, exL, rat_lim (show p < s by omega) (by omega)]
      split
      · exact exL_lim hs hx f (p + 1) _ _ (by omega)
      · rfl
theorem sg_lim {t : Int → Int} {n s p : Int} (hs : 0 ≤ s ∧ s < n) (hx : t s ≠ 45 ∧ t s ≠ 43) (hp : p ≤ s) : sgP t n p = sgP t s p ∧ sgN t n p = sgN t s p ∧ sgP t n p ≤ s := by
  unfold sgP sgN
  by_cases e : p = s
  · subst e
    rw [(rat_at hs).1, (rat_at hs).2, if_neg (by omega), if_neg (by decide), decide_eq_false hx.1]
    exact ⟨rfl, rfl, Int.le_refl _⟩
  · rw [rat_lim (show p < s by omega) (by omega)]
    refine ⟨rfl, rfl, ?_⟩
    split <;> omega
theorem EXP_lim {t : Int → Int} {n s p le : Int} {most : Nat} {mm : Bool} (hs : 0 ≤ s ∧ s < n) (hx : 10 ≤ dig (t s) ∧ t s ≠ 45 ∧ t s ≠ 43 ∧ t s ≠ le) (hl : le ≠ -1) (hp : p ≤ s) : EXP t n le most mm p = EXP t s le most mm p ∧ (EXP t n le most mm p).2.1 ≤ s := by
  by_cases e : p = s
  · subst e
    unfold EXP
    rw [(rat_at hs).1, (rat_at hs).2, if_pos hx.2.2.2, if_pos (Ne.symm hl)]
    exact ⟨rfl, Int.le_refl _⟩
  · have sg := sg_lim (p := p + 1) hs ⟨hx.2.1, hx.2.2.1⟩ (by omega)
    have ex := exL_lim (t := t) hs hx.1 most (sgP t s (p + 1)) 0 0 (by omega)
    unfold EXP
    rw [rat_lim (show p < s by omega) (by omega), sg.1, sg.2.1, ex]
    refine ⟨rfl, ?_⟩
    split
    · exact hp
    · simp only
      by_cases z : 0 ≤ sgP t s (p + 1)
      · exact (exL_rng (t := t) (n := s) most (sgP t s (p + 1)) 0 0 ⟨z, by omega⟩).2
      · have := exL_pos (t := t) (n := s) most (sgP t s (p + 1)) 0 0
        rcases Int.lt_or_le s (exL t s most (sgP t s (p + 1)) 0 0).1 with q | q
        · exfalso
          exact absurd q (by
            have : ∀ (f : Nat) (p x k : Int), p ≤ s → (exL t s f p x k).1 ≤ s := by
              intro f
              induction f with
              | zero => intro p x k h; exact h
              | succ f ih =>
                intro p x k h
                rw [exL]
                split
                · next q =>
                  have hp := rat_neg (t := t) (n := s) (i := p) (by intro z; rw [z] at q; exact absurd q (by decide))
                  exact ih _ _ _ (by omega)
                · exact h
            have := this most (sgP t s (p + 1)) 0 0 (by omega)
            omega)
        · exact q
theorem wdL_lim {t : Int → Int} {n s : Int} (hs : 0 ≤ s ∧ s < n) : ∀ (l : List Int) (p : Int), t s ∉ l → (-1 : Int) ∉ l → p ≤ s → wdL t n p l = wdL t s p l ∧ (wdL t s p l = true → p + (l.length : Int) ≤ s)
  | [], p, _, _, hp => ⟨rfl, fun _ => by simp; exact hp⟩
  | c :: l, p, hx, hy, hp => by
    have hx1 : t s ≠ c := fun z => hx (by rw [z]; exact List.mem_cons_self)
    have hy1 : (-1 : Int) ≠ c := fun z => hy (by rw [z]; exact List.mem_cons_self)
    rw [wdL, wdL]
    by_cases e : p = s
    · subst e
      rw [(rat_at hs).1, (rat_at hs).2, decide_eq_false hx1, decide_eq_false hy1]
      exact ⟨rfl, fun z => by cases z⟩
    · have ih := wdL_lim hs l (p + 1) (fun z => hx (List.mem_cons_of_mem _ z)) (fun z => hy (List.mem_cons_of_mem _ z)) (by omega)
      rw [rat_lim (show p < s by omega) (by omega), ih.1]
      refine ⟨rfl, fun z => ?_⟩
      rw [Bool.and_eq_true] at z
      have := ih.2 z.2
      rw [List.length_cons]; omega
theorem wd_lim {t : Int → Int} {n s p : Int} {i : Nat} (hs : 0 ≤ s ∧ s < n) (hx : t s ∉ strByt.getD i []) (hp : p ≤ s) : wdB t n p i = wdB t s p i ∧ (wdB t s p i = true → p + (strLen i : Int) ≤ s) := by
  have hy : (-1 : Int) ∉ strByt.getD i [] := fun z => by have := BdL_str i (-1) z; omega
  exact wdL_lim hs _ p hx hy hp
/-- no char of a number -/
def stp (x : Int) : Prop := dig x = 16 ∧ x ≠ 46 ∧ x ≠ 45 ∧ x ≠ 43 ∧ x ≠ 112 ∧ x ≠ 120 ∧ x ≠ 47
theorem NUM_lim {t : Int → Int} {n s p : Int} (hs : 0 ≤ s ∧ s < n) (hx : stp (t s)) (hp : p ≤ s) : NUM t n p = NUM t s p := by
  obtain ⟨x1, x2, x3, x4, x5, x6, x7⟩ := hx
  have x8 : t s ≠ 48 := fun z => by rw [z] at x1; exact absurd x1 (by decide)
  have x9 : t s ≠ 101 := fun z => by rw [z] at x1; exact absurd x1 (by decide)
  have sg := sg_lim (p := p) hs ⟨x3, x4⟩ hp
  have w6 := wd_lim (p := sgP t s p) (i := 6) hs (by show t s ∉ [48, 120]; simp; omega) (by omega)
  have l6 : (strLen 6 : Int) = 2 := rfl
  have l7 : (strLen 7 : Int) = 1 := rfl
  unfold NUM
  rw [sg.1, sg.2.1, w6.1]
  by_cases hw : wdB t s (sgP t s p) 6 = true
  · have := w6.2 hw
    have d16 := DGs_lim (t := t) (ba := 16) (pm := true) hs ⟨by omega, x2⟩ (by decide) _ (sgP t s p + (strLen 6 : Int)) z0 rfl (by omega)
    have r16 := DGs_rng (t := t) (n := s) (ba := 16) (pm := true) _ (sgP t s p + (strLen 6 : Int)) z0 rfl (by omega)
    rw [if_pos hw, if_pos hw, d16]
    have ex := (EXP_lim (t := t) (p := (DGs t s 16 true (sgP t s p + (strLen 6 : Int)) z0).1) (le := 112) (most := Int.toNat 4) (mm := false) hs ⟨by omega, x3, x4, x5⟩ (by decide) r16.2).1
    rw [ex]
  · have d10 := DGs_lim (t := t) (ba := 10) (pm := true) hs ⟨by omega, x2⟩ (by decide) _ (sgP t s p) z0 rfl (by omega)
    have r10 := DGs_rng (t := t) (n := s) (ba := 10) (pm := true) _ (sgP t s p) z0 rfl (by omega)
    rw [if_neg hw, if_neg hw, d10]
    have ex := (EXP_lim (t := t) (p := (DGs t s 10 true (sgP t s p) z0).1) (le := 101) (most := Int.toNat 3) (mm := true) hs ⟨by omega, x3, x4, x9⟩ (by decide) r10.2).1
    have w7 := wd_lim (p := (DGs t s 10 true (sgP t s p) z0).1) (i := 7) hs (by show t s ∉ [47]; simp; exact x7) r10.2
    rw [ex, w7.1]
    by_cases hv : wdB t s (DGs t s 10 true (sgP t s p) z0).1 7 = true
    · have := w7.2 hv
      have e10 := DGs_lim (t := t) (ba := 10) (pm := false) hs ⟨by omega, x2⟩ (by decide) _ ((DGs t s 10 true (sgP t s p) z0).1 + (strLen 7 : Int)) z0 rfl (by omega)
      rw [e10]
    · have hv2 : wdB t s (DGs t s 10 true (sgP t s p) z0).1 7 = false := by
        cases q : wdB t s (DGs t s 10 true (sgP t s p) z0).1 7 with
        | true => exact absurd q hv
        | false => rfl
      rw [hv2]; simp
theorem EXP_m {t : Int → Int} {n le q : Int} {most : Nat} {mm : Bool} (h : rat t n q ≠ le) : EXP t n le most mm q = (mm, q, 0) := by unfold EXP; rw [if_pos h]
/-- a/b: the first slash is sl -/
theorem NOK_r {t : Int → Int} {a b sl : Int} (h : wdB t b (sgP t b a) 6 = false) (h0 : 0 ≤ sgP t b a ∧ sgP t b a ≤ sl ∧ sl < b) (hs : t sl = 47) (hf : ∀ j : Int, sgP t b a ≤ j → j < sl → t j ≠ 47) : NOK t a b ↔ (RTOK t (sgP t b a) sl b ∧ 0 < (DGs t b 10 false (sl + 1) z0).2.1) := by
  have h7 : (strLen 7 : Int) = 1 := rfl
  have w7 : ∀ q, wdB t b q 7 = decide (rat t b q = 47) := fun q => sw_one rfl
  have dl := DGs_lim (t := t) (ba := 10) (pm := true) (s := sl) (n := b) ⟨by omega, h0.2.2⟩ ⟨by rw [hs]; decide, by rw [hs]; decide⟩ (by decide) _ (sgP t b a) z0 rfl h0.2.1
  have dr := DGs_rng (t := t) (n := sl) (ba := 10) (pm := true) _ (sgP t b a) z0 rfl h0.2.1
  rw [← dl] at dr
  obtain ⟨q, v, c, fr, hp, hd⟩ : ∃ q v c fr hp, DGs t b 10 true (sgP t b a) z0 = (q, v, c, fr, hp) := ⟨_, _, _, _, _, rfl⟩
  rw [hd] at dr
  have dr : sgP t b a ≤ q ∧ q ≤ sl := dr
  by_cases hc : 0 < c
  · by_cases hh : hp = false ∧ rat t b q = 47
    · have eq : q = sl := by
        rcases Int.lt_or_le q sl with z | z
        · have := hh.2; rw [rat_in (by omega)] at this; exact absurd this (hf q dr.1 z)
        · omega
      subst eq
      unfold NOK RTOK
      rw [NUM_r h hd hc hh.1 (by rw [w7]; exact decide_eq_true hh.2), hd, h7]
      simp only [decide_eq_true_eq]
      exact ⟨fun z => ⟨⟨⟨hc, trivial, hh.1⟩, z.1.1, z.2⟩, z.1.2⟩, fun z => ⟨⟨z.1.2.1, z.2⟩, z.1.2.2⟩⟩
    · have nd := NUM_d h hd hc (by
        cases hp with
        | true => exact Or.inl rfl
        | false => exact Or.inr (by rw [w7]; exact decide_eq_false (fun z => hh ⟨rfl, z⟩)))
      have el := (EXP_lim (t := t) (n := b) (s := sl) (p := q) (le := 101) (most := Int.toNat 3) (mm := true) ⟨by omega, h0.2.2⟩ ⟨by rw [hs]; decide, by rw [hs]; decide, by rw [hs]; decide, by rw [hs]; decide⟩ (by decide) dr.2).2
      unfold NOK RTOK
      rw [nd, hd]
      constructor
      · intro z
        have z2 : (EXP t b 101 (Int.toNat 3) true q).2.1 = b := z.2
        omega
      · intro z
        have z1 : q = sl := z.1.1.2.1
        have z2 : hp = false := z.1.1.2.2
        exact absurd ⟨z2, by rw [z1, rat_in (by omega)]; exact hs⟩ hh
  · unfold NOK RTOK
    rw [NUM_d0 h (by rw [hd]; exact hc), hd]
    exact ⟨fun z => (by cases z.1), fun z => absurd z.1.1.1 hc⟩
theorem nqs_r {t : Int → Int} {a b sl v w : Int} (h : wdB t b (sgP t b a) 6 = false) (h0 : 0 ≤ sgP t b a ∧ sgP t b a ≤ sl ∧ sl < b) (hs : t sl = 47) (hr : RTOK t (sgP t b a) sl b) (hv : (DGs t b 10 true (sgP t b a) z0).2.1 = v) (hw : (DGs t b 10 false (sl + 1) z0).2.1 = w) : nqs t a b = (sgN t b a, v, w, 0) := by
  have h7 : (strLen 7 : Int) = 1 := rfl
  have w7 : ∀ q, wdB t b q 7 = decide (rat t b q = 47) := fun q => sw_one rfl
  obtain ⟨q, v', c, fr, hp, hd⟩ : ∃ q v c fr hp, DGs t b 10 true (sgP t b a) z0 = (q, v, c, fr, hp) := ⟨_, _, _, _, _, rfl⟩
  unfold RTOK at hr
  rw [hd] at hr hv
  obtain ⟨⟨r1, r2, r3⟩, r4, r5⟩ := hr
  have r2 : q = sl := r2
  unfold nqs
  rw [NUM_r h hd r1 r3 (by rw [w7, r2]; exact decide_eq_true (by rw [rat_in (by omega)]; exact hs)), h7, r2, hw, ← hv]
/-- no slash: a decimal number -/
theorem NOK_d {t : Int → Int} {a b q v c fr : Int} {hp : Bool} (h : wdB t b (sgP t b a) 6 = false) (h0 : 0 ≤ sgP t b a) (hf : ∀ j : Int, sgP t b a ≤ j → j < b → t j ≠ 47) (hd : DGs t b 10 true (sgP t b a) z0 = (q, v, c, fr, hp)) (hq : sgP t b a ≤ q ∧ q ≤ b) : NOK t a b ↔ (0 < c ∧ (q = b ∨ (q < b ∧ t q = 101 ∧ XEok t b (q + 1) 3))) := by
  have w7 : ∀ q, wdB t b q 7 = decide (rat t b q = 47) := fun q => sw_one rfl
  by_cases hc : 0 < c
  · have nd := NUM_d h hd hc (Or.inr (by
      rw [w7]; refine decide_eq_false (fun z => ?_)
      have := rat_neg (t := t) (n := b) (i := q) (by rw [z]; decide)
      rw [rat_in this] at z
      exact hf q hq.1 this.2 z))
    unfold NOK
    rw [nd]
    by_cases e : q = b
    · subst e
      rw [EXP_m (by rw [rat_out (by omega)]; decide)]
      exact ⟨fun _ => ⟨hc, Or.inl rfl⟩, fun _ => ⟨rfl, rfl⟩⟩
    · have hr : rat t b q = t q := rat_in (by omega)
      by_cases g : t q = 101
      · rw [EXP_XE (by rw [hr]; exact g)]
        simp only [decide_eq_true_eq]
        exact ⟨fun z => ⟨hc, Or.inr ⟨by omega, g, z⟩⟩, fun z => (z.2.resolve_left e).2.2⟩
      · rw [EXP_m (by rw [hr]; exact g)]
        exact ⟨fun z => absurd z.2 e, fun z => absurd (z.2.resolve_left e).2.1 g⟩
  · unfold NOK
    rw [NUM_d0 h (by rw [hd]; exact hc)]
    exact ⟨fun z => (by cases z.1), fun z => absurd z.1 hc⟩
theorem nqs_d {t : Int → Int} {a b q v c fr ex : Int} {hp : Bool} (h : wdB t b (sgP t b a) 6 = false) (h0 : 0 ≤ sgP t b a) (hf : ∀ j : Int, sgP t b a ≤ j → j < b → t j ≠ 47) (hd : DGs t b 10 true (sgP t b a) z0 = (q, v, c, fr, hp)) (hq : sgP t b a ≤ q ∧ q ≤ b) (hc : 0 < c) (hx : (q = b ∧ ex = 0) ∨ (q < b ∧ t q = 101 ∧ ex = if sgN t b (q + 1) then -(XE t b (q + 1) 3).2.1 else (XE t b (q + 1) 3).2.1)) : nqs t a b = (sgN t b a, v * P5 (ex - fr), P5 (-(ex - fr)), ex - fr) := by
  have w7 : ∀ q, wdB t b q 7 = decide (rat t b q = 47) := fun q => sw_one rfl
  have nd := NUM_d h hd hc (Or.inr (by
    rw [w7]; refine decide_eq_false (fun z => ?_)
    have := rat_neg (t := t) (n := b) (i := q) (by rw [z]; decide)
    rw [rat_in this] at z
    exact hf q hq.1 this.2 z))
  unfold nqs
  rw [nd]
  rcases hx with ⟨e, hx⟩ | ⟨e, g, hx⟩
  · subst e
    rw [EXP_m (by rw [rat_out (by omega)]; decide), hx]
  · rw [EXP_XE (by rw [rat_in (by omega)]; exact g), hx]
    rfl
theorem NEQ_d {neg : Bool} {v x : Int} : NEQ neg (v * T10 x) (1 * T10 (-x)) 0 (neg, v * P5 x, P5 (-x), x) := by
  have h := NEQ_in (neg := neg) (v := v * P5 x) (b := P5 (-x)) (pw := x)
  unfold T10
  rw [Int.one_mul, ← Int.mul_assoc]
  exact h
theorem rn_fit {v c x : Int} (hv : 0 ≤ v ∧ v < P2 (4 * c)) (hc : 0 ≤ c ∧ c ≤ 400) (hx : x < 1000) : v * T10 x < P2 4950 := by
  have a := (num_size hv ⟨hc.1, hc.2⟩ x hx).2
  unfold T10
  rw [← Int.mul_assoc]
  by_cases z : x ≤ 0
  · rw [P2_neg z, Int.mul_one]
    have := P2_mono (show 4 * (400 : Int) + 2340 ≤ 4950 by omega)
    omega
  · have p := P2_pos x
    have m := Int.mul_lt_mul_of_pos_right a p
    rw [← P2_add (by decide) (by omega)] at m
    have := P2_mono (show 4 * (400 : Int) + 2340 + x ≤ 4950 by omega)
    omega
theorem rb_fit {x : Int} (hx : -1400 < x) : 1 * T10 (-x) < P2 4950 := by
  have a := T10_mono (show -x ≤ 1400 by omega)
  have b : T10 1400 < P2 4950 := by decide +kernel
  omega
theorem big310 {g : Int → Int} {k v : Int} (h : BigOK g k v) (hv : v < P2 4950) : k ≤ 310 := by
  refine Big_k h (by decide) ?_
  rw [QB_P2 (by decide)]
  have := P2_mono (show (4950 : Int) ≤ 16 * 310 by decide)
  omega
theorem p4950 {v c : Int} (h : v < P2 (4 * c)) (hc : c ≤ 400) : v < P2 4950 := by
  have := P2_mono (show 4 * c ≤ 4950 by omega)
  omega
theorem q4950 {v : Int} (h : v < P2 4950) : v < QB 640 := by
  rw [QB640]
  have := P2_mono (show (4950 : Int) ≤ 10240 by decide)
  omega
theorem one4950 : (1 : Int) < P2 4950 := by
  have := P2_lt (show (0 : Int) ≤ 0 by decide) (show (0 : Int) < 4950 by decide)
  rw [P2_0] at this; exact this
theorem rt_bd {v k x : Int} (hv : 0 ≤ v ∧ v < P2 (4 * k)) (hk : 0 ≤ k) (hx : 48 ≤ x ∧ x ≤ 57) : 0 ≤ v * 10 + (x - 48) ∧ v * 10 + (x - 48) < P2 (4 * (k + 1)) := dg_bd hv hk (Or.inl rfl) (by omega)
theorem rt_mo {v k : Int} (hv : 0 ≤ v ∧ v < P2 (4 * k)) : 0 ≤ v ∧ v < P2 (4 * (k + 1)) := by
  have := P2_mono (show 4 * k ≤ 4 * (k + 1) by omega)
  omega
theorem XE_4 {t : Int → Int} {to fr : Int} : 0 ≤ (XE t to fr 4).2.1 ∧ (XE t to fr 4).2.1 < 10000 := by
  have v := exL_val (t := t) (n := to) 4 (sgP t to fr) 0 0 (Int.le_refl _)
  unfold XE
  exact ⟨v.1, by have := v.2.1; rw [show (0 + 1 : Int) * 10 ^ 4 = 10000 by decide] at this; exact this⟩
theorem XE_3 {t : Int → Int} {to fr : Int} : 0 ≤ (XE t to fr 3).2.1 ∧ (XE t to fr 3).2.1 < 1000 := by
  have v := exL_val (t := t) (n := to) 3 (sgP t to fr) 0 0 (Int.le_refl _)
  unfold XE
  exact ⟨v.1, by have := v.2.1; rw [show (0 + 1 : Int) * 10 ^ 3 = 1000 by decide] at this; exact this⟩
