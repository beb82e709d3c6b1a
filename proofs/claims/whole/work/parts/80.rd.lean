/-! the reference's reading: slices -/
def hd (x : Int) : Int := if dig x < 16 then dig x else 99
theorem hd_lt {x b : Int} (hb : b = 10 ∨ b = 16) : hd x < b ↔ dig x < b := by
  unfold hd; have := dig_rng x; split <;> omega
theorem hd_eq {x b : Int} (hb : b = 10 ∨ b = 16) (h : hd x < b) : hd x = dig x := by
  unfold hd at *; split at h <;> (try rw [if_pos (by assumption)]) <;> omega
/-- the first b between from and to, or -1 -/
def FBR (t : Int → Int) (fr to b r : Int) : Prop := (r = -1 ∧ ∀ j : Int, fr ≤ j → j < to → t j ≠ b) ∨ ((fr ≤ r ∧ r < to) ∧ t r = b ∧ ∀ j : Int, fr ≤ j → j < r → t j ≠ b)
/-- the slice from .. to is word i -/
def SLW (t : Int → Int) (fr to : Int) (i : Nat) : Prop := to - fr = (strLen i : Int) ∧ wdB t to fr i = true
theorem wdL_s {t : Int → Int} {n p : Int} {i : Nat} {k : Int} (hk : 0 ≤ k ∧ k < (strLen i : Int)) (hp : 0 ≤ p + k ∧ p + k < n) : wdL t n (p + k) ((strByt.getD i []).drop k.toNat) = (decide (t (p + k) = strCh i k) && wdL t n (p + (k + 1)) ((strByt.getD i []).drop (k + 1).toNat)) := by
  rw [str_drop hk, wdL, rat_in hp, Int.add_assoc]
/-- without the blanks at the right end -/
def trB (t : Int → Int) (fr : Int) : Nat → Int
  | 0 => fr
  | k + 1 => if blk (t (fr + (k : Int))) = true then trB t fr k else fr + (k : Int) + 1
def TRB (t : Int → Int) (fr to : Int) : Int := trB t fr (to - fr).toNat
theorem TRB_s {t : Int → Int} {fr to : Int} (h : fr < to) (hb : blk (t (to - 1)) = true) : TRB t fr to = TRB t fr (to - 1) := by
  unfold TRB
  rw [show (to - fr).toNat = (to - 1 - fr).toNat + 1 by omega, trB, show fr + ((to - 1 - fr).toNat : Int) = to - 1 by omega, if_pos hb]
theorem TRB_e {t : Int → Int} {fr to : Int} (h0 : fr ≤ to) (h : to ≤ fr ∨ blk (t (to - 1)) = false) : TRB t fr to = to := by
  unfold TRB
  cases hk : (to - fr).toNat with
  | zero => rw [trB]; omega
  | succ k =>
    rw [trB, show fr + (k : Int) = to - 1 by omega]
    rcases h with z | z
    · omega
    · rw [z, if_neg (by decide)]; omega
theorem TRB_rng {t : Int → Int} {fr : Int} : ∀ (k : Nat), fr ≤ trB t fr k ∧ trB t fr k ≤ fr + k
  | 0 => by rw [trB]; omega
  | k + 1 => by
    have := TRB_rng (t := t) (fr := fr) k
    rw [trB]; split <;> omega
/-- an exponent's digits up to the end -/
def XE (t : Int → Int) (to fr : Int) (most : Nat) : Int × Int × Int := exL t to most (sgP t to fr) 0 0
def XEok (t : Int → Int) (to fr : Int) (most : Nat) : Prop := 0 < (XE t to fr most).2.2 ∧ (XE t to fr most).1 = to
theorem exL_pos {t : Int → Int} {n : Int} : ∀ (f : Nat) (p x k : Int), (exL t n f p x k).1 - p = (exL t n f p x k).2.2 - k ∧ (exL t n f p x k).2.2 - k ≤ f ∧ 0 ≤ (exL t n f p x k).2.2 - k
  | 0, p, x, k => by simp [exL]
  | f + 1, p, x, k => by
    rw [exL]
    split
    · have := exL_pos (t := t) (n := n) f (p + 1) (x * 10 + dig (rat t n p)) (k + 1)
      omega
    · simp; omega
theorem dig_10 {x : Int} : (48 ≤ x ∧ x ≤ 57) ↔ dig x < 10 := by unfold dig; split <;> (try split) <;> omega
theorem dig_d {x : Int} (h : 48 ≤ x ∧ x ≤ 57) : dig x = x - 48 := by unfold dig; rw [if_pos h]
/-- the number in a slice -/
def NOK (t : Int → Int) (a b : Int) : Prop := (NUM t b a).1 = true ∧ (NUM t b a).2.1 = b
def nqs (t : Int → Int) (a b : Int) : NQ := (NUM t b a).2.2
/-- the same value -/
def NEQ (neg : Bool) (v b e : Int) (N : NQ) : Prop := (v = 0 ∨ neg = N.1) ∧ QN v e * QD N.2.2.1 N.2.2.2 = QN N.2.1 N.2.2.2 * QD b e
theorem QN_sc {p : Int} : ∃ K : Int, 0 < K ∧ P2 p * P2 1074 = P2 (p + 1074) * K ∧ P2 (-p) = P2 (-(p + 1074)) * K := by
  rcases Int.lt_or_le p 0 with h | h
  · rcases Int.lt_or_le p (-1074) with g | g
    · refine ⟨P2 1074, P2_pos _, ?_, ?_⟩
      · rw [P2_neg (show p ≤ 0 by omega), P2_neg (show p + 1074 ≤ 0 by omega)]
      · rw [← P2_add (by omega) (by omega)]; congr 1; omega
    · refine ⟨P2 (-p), P2_pos _, ?_, ?_⟩
      · rw [P2_neg (show p ≤ 0 by omega), Int.one_mul, ← P2_add (by omega) (by omega)]; congr 1; omega
      · rw [P2_neg (show -(p + 1074) ≤ 0 by omega), Int.one_mul]
  · refine ⟨1, by decide, ?_, ?_⟩
    · rw [Int.mul_one, ← P2_add h (by omega)]
    · rw [P2_neg (show -p ≤ 0 by omega), P2_neg (show -(p + 1074) ≤ 0 by omega)]; rfl
/-- the power of 2 laid into top and bottom -/
theorem NEQ_in {neg : Bool} {v b pw : Int} : NEQ neg (v * P2 pw) (b * P2 (-pw)) 0 (neg, v, b, pw) := by
  refine ⟨Or.inr rfl, ?_⟩
  obtain ⟨K, _, h1, h2⟩ := QN_sc (p := pw)
  unfold QN QD
  simp only
  rw [show (0 : Int) + 1074 = 1074 by omega, P2_neg (show (-1074 : Int) ≤ 0 by decide), h2]
  have e : v * P2 pw * P2 1074 = v * (P2 pw * P2 1074) := by grind
  rw [e, h1]; grind
theorem NEQ_id {neg : Bool} {v b pw : Int} : NEQ neg v b pw (neg, v, b, pw) := ⟨Or.inr rfl, rfl⟩
/-- a slice that is a/b -/
def RTOK (t : Int → Int) (fr sl to : Int) : Prop := (0 < (DGs t to 10 true fr z0).2.2.1 ∧ (DGs t to 10 true fr z0).1 = sl ∧ (DGs t to 10 true fr z0).2.2.2.2 = false) ∧ 0 < (DGs t to 10 false (sl + 1) z0).2.2.1 ∧ (DGs t to 10 false (sl + 1) z0).1 = to
theorem DGs_hp {t : Int → Int} {n ba : Int} : ∀ (f : Nat) (p : Int) (s : DgS), s.2.2.2 = true → (dgF t n ba true f p s).2.2.2.2 = true
  | 0, p, s, h => h
  | f + 1, p, s, h => by
    rw [dgF]
    split
    · refine DGs_hp f (p + 1) _ ?_
      unfold dgStep; split
      · rfl
      · exact h
    · exact h
theorem DGs_cnt {t : Int → Int} {n ba : Int} {pm : Bool} : ∀ (f : Nat) (p : Int) (s : DgS), p ≤ (dgF t n ba pm f p s).1 ∧ s.2.1 ≤ (dgF t n ba pm f p s).2.2.1 ∧ (dgF t n ba pm f p s).2.2.1 - s.2.1 ≤ (dgF t n ba pm f p s).1 - p
  | 0, p, s => by rw [dgF]; simp only; omega
  | f + 1, p, s => by
    rw [dgF]
    split
    · have := DGs_cnt (t := t) (n := n) (ba := ba) (pm := pm) f (p + 1) (dgStep ba s (t p))
      have e : s.2.1 ≤ (dgStep ba s (t p)).2.1 ∧ (dgStep ba s (t p)).2.1 ≤ s.2.1 + 1 := by unfold dgStep; split <;> simp only <;> omega
      omega
    · simp only; omega
/-- the loop over a slice a/b: at k, good, the top v, the bottom w -/
def RTI (t : Int → Int) (fr sl to k : Int) (gd : Bool) (v w : Int) : Prop :=
  (gd = false → ¬ RTOK t fr sl to) ∧ (gd = true → fr < sl ∧ sl + 1 < to ∧ ((k ≤ sl ∧ w = 0 ∧ DGs t to 10 true fr z0 = DGs t to 10 true k (v, k - fr, 0, false)) ∨ (sl < k ∧ DGs t to 10 true fr z0 = (sl, v, sl - fr, 0, false) ∧ DGs t to 10 false (sl + 1) z0 = DGs t to 10 false k (w, k - sl - 1, 0, false))))
theorem RTI_0 {t : Int → Int} {fr sl to : Int} (h : fr ≤ sl ∧ sl < to) : RTI t fr sl to fr (decide (fr < sl ∧ sl + 1 < to)) 0 0 := by
  refine ⟨fun z y => ?_, fun z => ?_⟩
  · have z := of_decide_eq_false z
    obtain ⟨⟨y1, y2, _⟩, y3, _⟩ := y
    have a := DGs_cnt (t := t) (n := to) (ba := 10) (pm := true) (to - fr).toNat fr z0
    have b : to ≤ sl + 1 → (DGs t to 10 false (sl + 1) z0) = (sl + 1, z0) := fun q => DGs_stop (fun x => by omega)
    unfold DGs at y1 y2
    by_cases q : to ≤ sl + 1
    · rw [b q] at y3; exact absurd y3 (by show ¬ (0 : Int) < 0; decide)
    · have c : z0.2.1 = 0 := rfl
      omega
  · have z := of_decide_eq_true z
    exact ⟨z.1, z.2, Or.inl ⟨h.1, rfl, by rw [show fr - fr = 0 by omega]⟩⟩
theorem RTI_bad {t : Int → Int} {fr sl to k v w v2 w2 : Int} {gd : Bool} (h : RTI t fr sl to k gd v w) (hg : gd = false) : RTI t fr sl to (k + 1) false v2 w2 := ⟨fun _ => h.1 hg, fun z => by cases z⟩
theorem RTI_non {t : Int → Int} {fr sl to k v w v2 w2 : Int} {gd : Bool} (h0 : 0 ≤ fr ∧ fr ≤ k ∧ k < to ∧ k ≠ sl) (h : RTI t fr sl to k gd v w) (hg : gd = true) (hd : ¬ (48 ≤ t k ∧ t k ≤ 57)) : RTI t fr sl to (k + 1) false v2 w2 := by
  refine ⟨fun _ y => ?_, fun z => by cases z⟩
  obtain ⟨h1, h2, h3⟩ := h.2 hg
  obtain ⟨⟨y1, y2, y3⟩, y4, y5⟩ := y
  have dd : ¬ dig (t k) < 10 := fun z => hd (dig_10.mpr z)
  rcases h3 with ⟨a, _, b⟩ | ⟨a, b, c⟩
  · by_cases q : t k = 46
    · rw [b, DGs_step (by omega) (by unfold dgAcc; rw [q]; rfl)] at y3
      have := DGs_hp (t := t) (n := to) (ba := 10) (to - (k + 1)).toNat (k + 1) (dgStep 10 (v, k - fr, 0, false) (t k)) (by unfold dgStep; rw [if_pos q])
      unfold DGs at y3
      rw [this] at y3; cases y3
    · rw [b, DGs_stop (fun z => by
        have z2 := z.2; unfold dgAcc at z2
        rw [decide_eq_false q, decide_eq_false dd] at z2; cases z2)] at y2
      have y2 : k = sl := y2
      omega
  · rw [c, DGs_stop (fun z => by
      have z2 := z.2; unfold dgAcc at z2
      rw [decide_eq_false dd, Bool.and_false, Bool.false_and] at z2; cases z2)] at y5
    have y5 : k = to := y5
    omega
theorem RTI_top {t : Int → Int} {fr sl to k v w : Int} {gd : Bool} (h0 : 0 ≤ fr ∧ fr ≤ k ∧ k < sl ∧ sl < to) (h : RTI t fr sl to k gd v w) (hg : gd = true) (hd : 48 ≤ t k ∧ t k ≤ 57) : RTI t fr sl to (k + 1) true (v * 10 + (t k - 48)) w := by
  refine ⟨(fun z => by cases z), fun _ => ?_⟩
  obtain ⟨h1, h2, h3⟩ := h.2 hg
  rcases h3 with ⟨a, e, b⟩ | ⟨a, b, c⟩
  · refine ⟨h1, h2, Or.inl ⟨by omega, e, ?_⟩⟩
    rw [b, DG_digit (V' := v * 10 + (t k - 48)) (fr' := 0) (by omega) (by omega) (by rw [rat_in (by omega)]; exact dig_10.mp hd) (by decide) (by rw [rat_in (by omega), dig_d hd]) rfl]
    congr 3; omega
  · omega
theorem RTI_bot {t : Int → Int} {fr sl to k v w : Int} {gd : Bool} (h0 : 0 ≤ fr ∧ fr ≤ sl ∧ sl < k ∧ k < to) (h : RTI t fr sl to k gd v w) (hg : gd = true) (hd : 48 ≤ t k ∧ t k ≤ 57) : RTI t fr sl to (k + 1) true v (w * 10 + (t k - 48)) := by
  refine ⟨(fun z => by cases z), fun _ => ?_⟩
  obtain ⟨h1, h2, h3⟩ := h.2 hg
  rcases h3 with ⟨a, b⟩ | ⟨a, b, c⟩
  · omega
  · refine ⟨h1, h2, Or.inr ⟨by omega, b, ?_⟩⟩
    rw [c, DG_digit (V' := w * 10 + (t k - 48)) (fr' := 0) (by omega) (by omega) (by rw [rat_in (by omega)]; exact dig_10.mp hd) (by decide) (by rw [rat_in (by omega), dig_d hd]) rfl]
    congr 3; omega
theorem RTI_sl {t : Int → Int} {fr sl to v w : Int} {gd : Bool} (h0 : 0 ≤ fr ∧ fr ≤ sl ∧ sl < to) (hs : t sl = 47) (h : RTI t fr sl to sl gd v w) : RTI t fr sl to (sl + 1) gd v w := by
  refine ⟨h.1, fun hg => ?_⟩
  obtain ⟨h1, h2, h3⟩ := h.2 hg
  rcases h3 with ⟨a, e, b⟩ | ⟨a, b, c⟩
  · refine ⟨h1, h2, Or.inr ⟨by omega, ?_, ?_⟩⟩
    · rw [b, DGs_stop (fun z => by have z2 := z.2; unfold dgAcc at z2; rw [hs] at z2; exact absurd z2 (by show ¬ ((decide ((47 : Int) = 46) && true && !false || decide (dig 47 < 10)) = true); decide))]
    · rw [e, show sl + 1 - sl - 1 = 0 by omega]
  · omega
theorem RTI_end {t : Int → Int} {fr sl to k v w : Int} {gd : Bool} (hk : to ≤ k ∧ k ≤ to) (h0 : 0 ≤ fr ∧ fr ≤ sl ∧ sl < to) (h : RTI t fr sl to k gd v w) : (gd = true ↔ RTOK t fr sl to) ∧ (gd = true → (DGs t to 10 true fr z0).2.1 = v ∧ (DGs t to 10 false (sl + 1) z0).2.1 = w) := by
  have e : k = to := by omega
  subst e
  have key : gd = true → DGs t k 10 true fr z0 = (sl, v, sl - fr, 0, false) ∧ DGs t k 10 false (sl + 1) z0 = (k, w, k - sl - 1, 0, false) ∧ fr < sl ∧ sl + 1 < k := by
    intro hg
    obtain ⟨h1, h2, h3⟩ := h.2 hg
    rcases h3 with ⟨a, b⟩ | ⟨a, b, c⟩
    · omega
    · exact ⟨b, by rw [c, DGs_stop (fun z => by omega)], h1, h2⟩
  refine ⟨⟨fun hg => ?_, fun hr => ?_⟩, fun hg => ?_⟩
  · obtain ⟨a, b, c, d⟩ := key hg
    unfold RTOK; rw [a, b]; exact ⟨⟨show 0 < sl - fr by omega, rfl, rfl⟩, show 0 < k - sl - 1 by omega, rfl⟩
  · cases gd with
    | true => rfl
    | false => exact absurd hr (h.1 rfl)
  · obtain ⟨a, b, _, _⟩ := key hg
    rw [a, b]; exact ⟨rfl, rfl⟩
def XEb (k p x : Int) : Prop := (0 ≤ k - p ∧ k - p ≤ 4) ∧ -(23 * PT10 (k - p).toNat - 23) ≤ x ∧ x ≤ 23 * PT10 (k - p).toNat - 23
theorem XEb_0 (p : Int) : XEb p p 0 := by unfold XEb; rw [show p - p = 0 by omega]; decide
theorem XEb_s {k p x c : Int} (h : XEb k p x) (hk : k - p < 4) (hc : 0 ≤ c ∧ c < 256) : XEb (k + 1) p (10 * x + c - 48) := by
  unfold XEb at *
  rw [show (k + 1 - p).toNat = (k - p).toNat + 1 by omega, PT10_s]
  omega
theorem XEb_r {k p x : Int} (h : XEb k p x) : -230000 ≤ x ∧ x ≤ 230000 := by
  obtain ⟨h1, h2⟩ := h
  have := PT10_mono (show (k - p).toNat ≤ 4 by omega)
  rw [show PT10 4 = 10000 by decide] at this
  omega
/-- the loop of the exponent's digits -/
def XEi (t : Int → Int) (to fr mo p k x : Int) (is : Bool) : Prop := (is = true → p < to ∧ to - p ≤ mo ∧ XE t to fr mo.toNat = exL t to (mo - (k - p)).toNat k x (k - p)) ∧ (is = false → ¬ XEok t to fr mo.toNat)
theorem xe_no {t : Int → Int} {to fr mo : Int} (h0 : 1 ≤ mo) (h : to - sgP t to fr ≤ 0 ∨ mo < to - sgP t to fr) : ¬ XEok t to fr mo.toNat := by
  intro z
  unfold XEok XE at z
  have := exL_pos (t := t) (n := to) mo.toNat (sgP t to fr) 0 0
  omega
theorem XEi_0 {t : Int → Int} {to fr mo p : Int} (hp : p = sgP t to fr) (h : p < to ∧ to - p ≤ mo) : XEi t to fr mo p p 0 true := by
  refine ⟨fun _ => ⟨h.1, h.2, ?_⟩, fun z => by cases z⟩
  unfold XE
  rw [← hp, show p - p = 0 by omega, show mo - 0 = mo by omega]
theorem XEi_s {t : Int → Int} {to fr mo p k x : Int} {is : Bool} (hp : 0 ≤ p) (hk : p ≤ k ∧ k < to) (h : XEi t to fr mo p k x is) (hi : is = true) : XEi t to fr mo p (k + 1) (10 * x + t k - 48) (decide (48 ≤ t k ∧ t k ≤ 57)) := by
  obtain ⟨h1, h2, h3⟩ := h.1 hi
  have hr := rat_in (t := t) (n := to) (i := k) (by omega)
  refine ⟨fun z => ⟨h1, h2, ?_⟩, fun z y => ?_⟩
  · have z := of_decide_eq_true z
    rw [h3, exL_s (by omega) (by rw [hr]; exact dig_10.mp z), hr, dig_d z, show k - p + 1 = k + 1 - p by omega, show x * 10 + (t k - 48) = 10 * x + t k - 48 by omega]
  · have z := of_decide_eq_false z
    unfold XEok at y
    rw [h3, exL_e (Or.inr (by rw [hr]; have := dig_10 (x := t k); omega))] at y
    have y2 : k = to := y.2
    omega
theorem XEi_e {t : Int → Int} {to fr mo p k x : Int} {is : Bool} (hk : k ≤ to ∨ k = p) (h : XEi t to fr mo p k x is) (he : to ≤ k ∨ is = false) : (is = true ↔ XEok t to fr mo.toNat) ∧ (is = true → (XE t to fr mo.toNat).2.1 = x) := by
  have key : is = true → XE t to fr mo.toNat = (to, x, to - p) ∧ p < to := by
    intro z
    obtain ⟨h1, h2, h3⟩ := h.1 z
    have e : k = to := by
      rcases he with q | q
      · omega
      · rw [z] at q; cases q
    subst e
    rw [h3, exL_e (Or.inr (by rw [rat_out (by omega)]; decide))]
    exact ⟨rfl, h1⟩
  refine ⟨⟨fun z => ?_, fun z => ?_⟩, fun z => ?_⟩
  · obtain ⟨a, b⟩ := key z
    unfold XEok; rw [a]; exact ⟨show 0 < to - p by omega, rfl⟩
  · cases is with
    | true => rfl
    | false => exact absurd z (h.2 rfl)
  · rw [(key z).1]

theorem rd_fit {x c : Int} (h : x < P2 (4 * c)) (hc : c ≤ 400) : x < QB 640 := by
  rw [QB640]
  have := P2_mono (show 4 * c ≤ 10240 by omega)
  omega
