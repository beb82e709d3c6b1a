/-! M ? R V X in a slice -/
def RUN (t : Int → Int) (fr to : Int) : SC := ((SPR t to fr).1 && decide ((SPR t to fr).2.1 = to), (SPR t to fr).2)
theorem RUN_b {t : Int → Int} {fr to : Int} (h : SPR t to fr = scBad) : (RUN t fr to).1 = false := by unfold RUN; rw [h]; rfl
theorem w63 (t : Int → Int) (n q : Int) : wdB t n q 11 = decide (rat t n q = 63) := sw_one rfl
/-- up to the first ? -/
theorem SPR_ask {t : Int → Int} {fr to ask : Int} (h0 : 0 ≤ fr ∧ fr ≤ to) (hf : FBR t fr to 63 ask) : (∀ q v c f hp, sgP t to fr < ask → DGs t ask 10 true (sgP t to fr) z0 = (q, v, c, f, hp) → 0 < c → q = ask → SPR t to fr = SP1 t to (sgN t to fr) v f (ask + 1)) ∧
    ((¬ sgP t to fr < ask ∨ ¬ 0 < (DGs t ask 10 true (sgP t to fr) z0).2.2.1 ∨ (DGs t ask 10 true (sgP t to fr) z0).1 ≠ ask) → SPR t to fr = scBad) := by
  have l11 : (strLen 11 : Int) = 1 := rfl
  have sr := sgP_rng (t := t) (n := to) (p := fr) h0
  obtain ⟨q, v, c, f, hp, hd⟩ : ∃ q v c f hp, DGs t to 10 true (sgP t to fr) z0 = (q, v, c, f, hp) := ⟨_, _, _, _, _, rfl⟩
  have rr := DGs_rng (t := t) (n := to) (ba := 10) (pm := true) _ (sgP t to fr) z0 rfl sr.2
  rw [hd] at rr
  have rr : sgP t to fr ≤ q ∧ q ≤ to := rr
  rcases hf with ⟨f1, f2⟩ | ⟨f1, f2, f3⟩
  · refine ⟨fun _ _ _ _ _ z => by omega, fun _ => SPR_b hd (Or.inr ?_)⟩
    rw [w63]
    refine decide_eq_false (fun z => ?_)
    have y := rat_neg (t := t) (n := to) (i := q) (by rw [z]; decide)
    rw [rat_in y] at z
    exact f2 q (by omega) y.2 z
  · by_cases hl : sgP t to fr ≤ ask
    · have dl := DGs_lim (t := t) (ba := 10) (pm := true) (s := ask) (n := to) ⟨by omega, f1.2⟩ ⟨by rw [f2]; decide, by rw [f2]; decide⟩ (by decide) _ (sgP t to fr) z0 rfl hl
      have r2 := DGs_rng (t := t) (n := ask) (ba := 10) (pm := true) _ (sgP t to fr) z0 rfl hl
      rw [← dl]
      rw [← dl, hd] at r2
      have r2 : sgP t to fr ≤ q ∧ q ≤ ask := r2
      refine ⟨fun q' v' c' f' hp' h1 h2 h3 h4 => ?_, fun h => ?_⟩
      · have e := SPR_g h2 h3 (by rw [w63, h4, rat_in (by omega)]; exact decide_eq_true f2)
        rw [e, l11, h4]
      · rw [hd] at h
        refine SPR_b hd ?_
        rcases h with h | h | h
        · left
          have e : sgP t to fr = ask := by omega
          have : DGs t to 10 true (sgP t to fr) z0 = (sgP t to fr, z0) := DGs_stop (fun z => by
            have z2 := z.2; rw [e, f2] at z2; exact absurd z2 (by decide))
          rw [hd] at this
          have : c = 0 := by injection this with _ h2; injection h2 with _ h3; injection h3
          omega
        · exact Or.inl h
        · right
          have h : q ≠ ask := h
          rw [w63]
          refine decide_eq_false (fun z => ?_)
          rw [rat_in (by omega)] at z
          exact f3 q (by omega) (by omega) z
    · exfalso
      have e : sgP t to fr = fr ∨ sgP t to fr = fr + 1 := by
        unfold sgP; split
        · exact Or.inr rfl
        · exact Or.inl rfl
      have e : sgP t to fr = fr + 1 := by omega
      have e2 : ask = fr := by omega
      have : rat t to fr = 45 ∨ rat t to fr = 43 := by
        refine Classical.byContradiction (fun z => ?_)
        unfold sgP at e; rw [if_neg z] at e; omega
      rw [rat_in (by omega), ← e2, f2] at this
      omega
theorem RUN_g {t : Int → Int} {fr to v w pw f x : Int} {far up dn neg : Bool} (hx : 0 ≤ x ∧ x ≤ to) (h : SPR t to fr = SP3 t to far up dn neg v w pw f x) : ((RUN t fr to).1 = true ↔ (x = to ∨ (x < to ∧ t x = 101 ∧ XEok t to (x + 1) 3))) ∧
    (∀ ex : Int, ((x = to ∧ ex = 0) ∨ (x < to ∧ t x = 101 ∧ XEok t to (x + 1) 3 ∧ ex = if sgN t to (x + 1) then -(XE t to (x + 1) 3).2.1 else (XE t to (x + 1) 3).2.1)) → (RUN t fr to).2.2 = (false, far && !up, far && !dn, NX (sv neg v - (if far || up then 0 else w)) pw (ex - f), NX (sv neg v + (if far || dn then 0 else w)) pw (ex - f))) := by
  have t3 : Int.toNat 3 = 3 := rfl
  by_cases e : x = to
  · have em : EXP t to 101 (Int.toNat 3) true x = (true, x, 0) := EXP_m (by rw [rat_out (by omega)]; decide)
    have s3 := SP3_g (t := t) (n := to) (v := v) (w := w) (pw := pw) (fr := f) (x := x) (q := x) (ex := 0) (far := far) (up := up) (dn := dn) (neg := neg) (by rw [em]) (by rw [em]) (by rw [em])
    unfold RUN
    rw [h, s3]
    refine ⟨⟨fun _ => Or.inl e, fun _ => ?_⟩, fun ex hex => ?_⟩
    · show (true && decide (x = to)) = true; rw [decide_eq_true e]; rfl
    · rcases hex with ⟨_, y⟩ | ⟨y, _⟩
      · rw [y]
      · omega
  · have hr : rat t to x = t x := rat_in (by omega)
    by_cases g : t x = 101
    · have em := EXP_XE (t := t) (to := to) (q := x) (most := Int.toNat 3) (mm := true) (le := 101) (by rw [hr]; exact g)
      by_cases k : 0 < (XE t to (x + 1) (Int.toNat 3)).2.2
      · have s3 := SP3_g (t := t) (n := to) (v := v) (w := w) (pw := pw) (fr := f) (x := x) (q := _) (ex := _) (far := far) (up := up) (dn := dn) (neg := neg) (by rw [em]; exact decide_eq_true k) rfl rfl
        unfold RUN
        rw [h, s3, em]
        refine ⟨⟨fun z => Or.inr ⟨by omega, g, k, ?_⟩, fun z => ?_⟩, fun ex hex => ?_⟩
        · have z : (true && decide ((XE t to (x + 1) (Int.toNat 3)).1 = to)) = true := z
          rw [Bool.true_and] at z; exact of_decide_eq_true z
        · show (true && decide ((XE t to (x + 1) (Int.toNat 3)).1 = to)) = true
          rw [decide_eq_true (show (XE t to (x + 1) (Int.toNat 3)).1 = to from (z.resolve_left e).2.2.2)]; rfl
        · rcases hex with ⟨y, _⟩ | ⟨_, _, _, y⟩
          · omega
          · rw [y]; rfl
      · have s3 := SP3_b (t := t) (n := to) (v := v) (w := w) (pw := pw) (fr := f) (x := x) (far := far) (up := up) (dn := dn) (neg := neg) (by rw [em]; exact decide_eq_false k)
        refine ⟨⟨fun z => ?_, fun z => absurd (z.resolve_left e).2.2.1 k⟩, fun ex hex => ?_⟩
        · rw [RUN_b (h.trans s3)] at z; cases z
        · rcases hex with ⟨y, _⟩ | ⟨_, _, y, _⟩
          · omega
          · exact absurd y.1 k
    · have em : EXP t to 101 (Int.toNat 3) true x = (true, x, 0) := EXP_m (by rw [hr]; exact g)
      have s3 := SP3_g (t := t) (n := to) (v := v) (w := w) (pw := pw) (fr := f) (x := x) (q := x) (ex := 0) (far := far) (up := up) (dn := dn) (neg := neg) (by rw [em]) (by rw [em]) (by rw [em])
      unfold RUN
      rw [h, s3]
      refine ⟨⟨fun z => ?_, fun z => absurd (z.resolve_left e).2.1 g⟩, fun ex hex => ?_⟩
      · have z : (true && decide (x = to)) = true := z
        rw [decide_eq_false e] at z; cases z
      · rcases hex with ⟨y, _⟩ | ⟨_, y, _⟩
        · omega
        · exact absurd y g
/-- the value that the reference makes is the one told -/
theorem NX_neq {be : Bool} {w S pw e ee : Int} (hw : 0 ≤ w) (he : ee = 0 ∨ ee = -1) (hp : pw = 0 ∨ pw = -1) (h : sv be w * P2 (ee + 1) = S * P2 (pw + 1)) : NEQ be (w * T10 e) (1 * T10 (-e)) ee (NX S pw e) := by
  have a1 := P2_pos (ee + 1)
  have a2 := P2_pos (pw + 1)
  have k : w * P2 (ee + 1) = (if S < 0 then -S else S) * P2 (pw + 1) ∧ (w = 0 ∨ be = decide (S < 0)) := by
    have y0 : 0 ≤ w * P2 (ee + 1) := Int.mul_nonneg hw (by omega)
    have hy : sv be (w * P2 (ee + 1)) = S * P2 (pw + 1) := by
      rw [← h]; unfold sv; cases be
      · rfl
      · simp only [if_true]; grind
    obtain ⟨b1, b2⟩ := sv_abs y0 hy
    have sg : S * P2 (pw + 1) < 0 ↔ S < 0 := by
      have := lt_sc (a := S) (b := 0) a2
      rw [Int.zero_mul] at this; exact this.symm
    refine ⟨?_, ?_⟩
    · rw [b1]
      by_cases z : S < 0
      · rw [if_pos (sg.mpr z), if_pos z]; grind
      · rw [if_neg (fun q => z (sg.mp q)), if_neg z]
    · rcases b2 with q | q
      · left
        rcases Int.mul_eq_zero.mp q with x | x
        · exact x
        · omega
      · right; rw [q]; by_cases z : S < 0
        · rw [decide_eq_true z, decide_eq_true (sg.mpr z)]
        · rw [decide_eq_false z, decide_eq_false (fun x => z (sg.mp x))]
  unfold NEQ NX QN QD T10
  simp only
  refine ⟨?_, ?_⟩
  · rcases k.2 with z | z
    · left; rw [z, Int.zero_mul]
    · right; exact z
  · have i := fr_id (pw + 1074) e
    rw [P2_neg (show -(pw + 1074) ≤ 0 by omega), Int.one_mul, show pw + 1074 + e = pw + e + 1074 by omega] at i
    have j1 : P2 (ee + 1074) = P2 (ee + 1) * P2 1073 := by rw [← P2_add (by omega) (by decide)]; congr 1; omega
    have j2 : P2 (pw + 1074) = P2 (pw + 1) * P2 1073 := by rw [← P2_add (by omega) (by decide)]; congr 1; omega
    rw [P2_neg (show -(ee + 1074) ≤ 0 by omega), j1]
    rw [j2] at i
    generalize (if S < 0 then -S else S) = Sa at k ⊢
    have l1 : w * (P5 e * P2 e) * (P2 (ee + 1) * P2 1073) * (P5 (-e) * P2 (-(pw + e + 1074))) = w * P2 (ee + 1) * (P5 e * P5 (-e)) * (P2 1073 * P2 e * P2 (-(pw + e + 1074))) := by grind
    have l2 : Sa * P5 e * P2 (pw + e + 1074) * (1 * (P5 (-e) * P2 (-e)) * 1) = Sa * (P5 e * P5 (-e)) * (P2 (pw + e + 1074) * P2 (-e)) := by grind
    rw [l1, l2, k.1, ← i]; grind
/-! sizes in the uncertain form; marks -/
theorem eo_bd {w v1 v2 e4 e6 : Int} {b4 b5 ls mv : Bool} (hw : 0 ≤ w) (he : e4 = 0 ∨ e4 = -1) (h1 : 0 ≤ v1 ∧ v1 < P2 1604) (h2 : 0 ≤ v2 ∧ v2 < P2 1604) (h6 : e6 = 0 ∨ e6 = -1) (h : sv b4 w * P2 (e4 + 1) = sv b5 v1 * 2 + (if mv = true then sv ls v2 * P2 (e6 + 1) else 0)) : 0 ≤ w ∧ w < P2 1607 := by
  have e : P2 1607 = P2 1604 * 8 := by rw [show (1607 : Int) = 1604 + 3 by decide, P2_add (by decide) (by decide)]; rfl
  refine ⟨hw, ?_⟩
  rw [e]
  have p1 : P2 (0 + 1) = 2 := rfl
  have p0 : P2 (-1 + 1) = 1 := rfl
  unfold sv at h
  rcases he with he | he <;> rcases h6 with h6 | h6 <;> subst he <;> subst h6 <;> simp only [p1, p0] at h <;> cases b4 <;> cases b5 <;> cases ls <;> cases mv <;> simp at h <;> omega
theorem eo_sum {v1 v2 : Int} (h1 : 0 ≤ v1 ∧ v1 < P2 1604) (h2 : 0 ≤ v2 ∧ v2 < P2 1604) : v1 * 2 + v2 < QB 640 := by
  rw [QB640]
  have e : P2 1607 = P2 1604 * 8 := by rw [show (1607 : Int) = 1604 + 3 by decide, P2_add (by decide) (by decide)]; rfl
  have := P2_mono (show (1607 : Int) ≤ 10240 by decide)
  omega
theorem eo_fit {w pw : Int} (hw : 0 ≤ w ∧ w < P2 1607) (hp : pw < 1000) : w * T10 pw < P2 5100 := by
  have a := T10_mono (show pw ≤ 1000 by omega)
  have b : T10 1000 ≤ P2 3400 := by decide +kernel
  have m := mul_lim (x := w) (y := T10 pw) (a := 1607) (b := 3400) ⟨hw.1, by omega⟩ ⟨by have := T10_pos pw; omega, by omega⟩ (by decide) (by decide)
  have := P2_lt (show (0 : Int) ≤ 1607 + 3400 by decide) (show (1607 + 3400 : Int) < 5100 by decide)
  omega
theorem eo_bot {pw : Int} (hp : -1400 < pw) : 1 * T10 (-pw) < P2 5100 := by
  have a := rb_fit hp
  have := P2_mono (show (4950 : Int) ≤ 5100 by decide)
  omega
theorem q5120 {v : Int} (h : v < P2 5100) : v < QB 640 := by
  rw [QB640]
  have := P2_mono (show (5100 : Int) ≤ 10240 by decide)
  omega
theorem eo_k {g : Int → Int} {k v : Int} (h : BigOK g k v) (hv : v < P2 5100) : k ≤ 320 := by
  refine Big_k h (by decide) ?_
  rw [QB_P2 (by decide)]
  have := P2_mono (show (5100 : Int) ≤ 16 * 320 by decide)
  omega
theorem NX_pos (S pw e : Int) : 0 < (NX S pw e).2.2.1 ∧ 0 ≤ (NX S pw e).2.1 := by
  unfold NX
  refine ⟨P5_pos _, Int.mul_nonneg ?_ (Int.le_of_lt (P5_pos _))⟩
  split <;> omega
/-- the mark that a slice names -/
def MKW (t : Int → Int) (fr to : Int) : Int := if slw t fr to 32 = true then 4 else if slw t fr to 33 = true then 3 else if slw t fr to 34 = true then 2 else if slw t fr to 35 = true then 1 else 0
theorem MKW_rng (t : Int → Int) (fr to : Int) : 0 ≤ MKW t fr to ∧ MKW t fr to ≤ 4 := by unfold MKW; split <;> (try split) <;> (try split) <;> (try split) <;> omega
theorem MKW_4 {t : Int → Int} {fr to : Int} (a : slw t fr to 32 = true) : MKW t fr to = 4 := by unfold MKW; rw [if_pos a]
theorem MKW_3 {t : Int → Int} {fr to : Int} (a : slw t fr to 32 = false) (b : slw t fr to 33 = true) : MKW t fr to = 3 := by unfold MKW; rw [if_neg (by rw [a]; decide), if_pos b]
theorem MKW_2 {t : Int → Int} {fr to : Int} (a : slw t fr to 32 = false) (b : slw t fr to 33 = false) (c : slw t fr to 34 = true) : MKW t fr to = 2 := by unfold MKW; rw [if_neg (by rw [a]; decide), if_neg (by rw [b]; decide), if_pos c]
theorem MKW_1 {t : Int → Int} {fr to : Int} (a : slw t fr to 32 = false) (b : slw t fr to 33 = false) (c : slw t fr to 34 = false) (d : slw t fr to 35 = true) : MKW t fr to = 1 := by unfold MKW; rw [if_neg (by rw [a]; decide), if_neg (by rw [b]; decide), if_neg (by rw [c]; decide), if_pos d]
theorem MKW_0 {t : Int → Int} {fr to : Int} (a : slw t fr to 32 = false) (b : slw t fr to 33 = false) (c : slw t fr to 34 = false) (d : slw t fr to 35 = false) : MKW t fr to = 0 := by unfold MKW; rw [if_neg (by rw [a]; decide), if_neg (by rw [b]; decide), if_neg (by rw [c]; decide), if_neg (by rw [d]; decide)]
def MAY (gd no on : Bool) (m : Int) : Bool := gd && (!no || decide (m = 1)) && !(on && decide (m = 4))
def MOT (t : Int → Int) (fr to : Int) (gd no on inf : Bool) : Int := if MAY gd no on (MKW t fr to) = true then (if MKW t fr to = 4 ∧ (no || inf) = true then 3 else MKW t fr to) else 0
theorem mot_b {no bd : Bool} {a b : Int} (h : bd = true ↔ (no = false ∧ a % 9223372036854775808 ≠ 9218868437227405312 ∧ b % 9223372036854775808 ≠ 9218868437227405312)) (hb : bd = false) : (no || (decide (a % 9223372036854775808 = 9218868437227405312) || decide (b % 9223372036854775808 = 9218868437227405312))) = true := by
  cases no with
  | true => rfl
  | false =>
    by_cases z : a % 9223372036854775808 = 9218868437227405312
    · rw [decide_eq_true z]; rfl
    · by_cases y : b % 9223372036854775808 = 9218868437227405312
      · rw [decide_eq_true y, Bool.or_true]; rfl
      · rw [h.mpr ⟨rfl, z, y⟩] at hb; cases hb
theorem mot_c {no bd : Bool} {a b : Int} (h : bd = true ↔ (no = false ∧ a % 9223372036854775808 ≠ 9218868437227405312 ∧ b % 9223372036854775808 ≠ 9218868437227405312)) (hb : bd = true) : (no || (decide (a % 9223372036854775808 = 9218868437227405312) || decide (b % 9223372036854775808 = 9218868437227405312))) = false := by
  obtain ⟨x, y, z⟩ := h.mp hb
  rw [x, decide_eq_false y, decide_eq_false z]; rfl
