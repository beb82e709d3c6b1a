/-! the whole text: brackets, ends -/
/-- negative, top, bottom, power of 2 -/
abbrev NQ : Type := Bool × Int × Int × Int
def n0 : NQ := (false, 0, 1, 0)
def rgt (a b : NQ) : Bool := decide (sv b.1 b.2.1 * a.2.2.1 * P2 (b.2.2.2 - a.2.2.2) < sv a.1 a.2.1 * b.2.2.1 * P2 (a.2.2.2 - b.2.2.2))
theorem rgt_t {a b : NQ} (h : RGT a.1 a.2.1 a.2.2.1 a.2.2.2 b.1 b.2.1 b.2.2.1 b.2.2.2) : rgt a b = true := decide_eq_true h
theorem rgt_f {a b : NQ} (h : ¬ RGT a.1 a.2.1 a.2.2.1 a.2.2.2 b.1 b.2.1 b.2.2.1 b.2.2.2) : rgt a b = false := decide_eq_false h
/-- right, where it ends, empty, open below, open above, the ends -/
abbrev SC : Type := Bool × Int × Bool × Bool × Bool × NQ × NQ
def scBad : SC := (false, 0, false, false, false, n0, n0)
def E4 (t : Int → Int) (n : Int) (ob oa : Bool) (N1 N2 : NQ) (q : Int) : SC := (wdB t n (sk t n q) 2 && (ob || oa || !rgt N1 N2), wq t n (sk t n q) 2, false, ob, oa, N1, N2)
def E3 (t : Int → Int) (n : Int) (ob oa : Bool) (N1 : NQ) (q : Int) : SC :=
  if oa = true then E4 t n ob true N1 n0 q else if (NUM t n q).1 = true then E4 t n ob false N1 (NUM t n q).2.2 (NUM t n q).2.1 else scBad
def E2 (t : Int → Int) (n : Int) (ob : Bool) (N1 : NQ) (q : Int) : SC :=
  if rat t n q = 93 then E3 t n ob true N1 q else if wdB t n q 9 = true then E3 t n ob true N1 (infq t n q 9) else if wdB t n q 10 = true then E3 t n ob true N1 (infq t n q 10) else E3 t n ob false N1 q
def E1 (t : Int → Int) (n : Int) (ob : Bool) (N1 : NQ) (q : Int) : SC :=
  if ob = false ∧ rat t n (sk t n q) = 93 then (wdB t n (sk t n (sk t n q)) 2, wq t n (sk t n (sk t n q)) 2, false, false, false, N1, N1)
  else if wdB t n (sk t n q) 8 = true then E2 t n ob N1 (sk t n (sk t n q + (strLen 8 : Int))) else scBad
def E0 (t : Int → Int) (n : Int) (ob : Bool) (q : Int) : SC :=
  if ob = true then E1 t n true n0 q else if (NUM t n q).1 = true then E1 t n false (NUM t n q).2.2 (NUM t n q).2.1 else scBad
def ENDS (t : Int → Int) (n p : Int) : SC :=
  if rat t n p = 44 then E0 t n true p else if wdB t n p 4 = true then E0 t n true (infq t n p 4) else E0 t n false p
def CLO (t : Int → Int) (n q : Int) (em op : Bool) : SC := (wdB t n (sk t n q) 2, wq t n (sk t n q) 2, em, op, op, n0, n0)
def BRK (t : Int → Int) (n p : Int) : SC :=
  if wdB t n (sk t n (wq t n p 0)) 1 = true then CLO t n (sk t n (wq t n p 0) + (strLen 1 : Int)) true false
  else if rat t n (sk t n (wq t n p 0)) = 93 then CLO t n (sk t n (wq t n p 0)) true false
  else if wdB t n (sk t n (wq t n p 0)) 3 = true then CLO t n (sk t n (wq t n p 0) + (strLen 3 : Int)) false true
  else ENDS t n (sk t n (wq t n p 0))
/-- a ratio in two rows of limbs -/
def RHd (tg : Int → Int) (tk : Int) (bg : Int → Int) (bk pw : Int) (neg : Bool) (N : NQ) (K : Int) : Prop :=
  NatOK tg tk N.2.1 ∧ NatOK bg bk N.2.2.1 ∧ 0 < N.2.2.1 ∧ (N.2.1 = 0 ∨ neg = N.1) ∧ pw = N.2.2.2 ∧ (N.2.1 < P2 K ∧ N.2.2.1 < P2 K) ∧ (-12000 < pw ∧ pw < 12000)
theorem RHd_mono {tg bg : Int → Int} {tk bk pw K L : Int} {neg : Bool} {N : NQ} (h : RHd tg tk bg bk pw neg N K) (hK : K ≤ L) : RHd tg tk bg bk pw neg N L := by
  obtain ⟨a, b, c, d, e, f, g⟩ := h
  have := P2_mono hK
  exact ⟨a, b, c, d, e, by omega, g⟩
theorem nat_lim {g : Int → Int} {k v K : Int} (h : NatOK g k v) (hv : v < P2 K) (hK : 0 ≤ K) : 30 * k ≤ K + 29 := by
  by_cases z : 0 < k
  · have a := h.ge z
    have hk := h.k
    rw [PB_P2 (by omega)] at a
    by_cases y : K ≤ 30 * (k - 1)
    · have := P2_mono y; omega
    · omega
  · omega
/-- what a scan has found: the ends in their ratios where they are not open -/
def SOK (S : SC) (q : Int) (em ob oa : Bool) (tg1 : Int → Int) (tk1 : Int) (bg1 : Int → Int) (bk1 pw1 : Int) (neg1 : Bool) (tg2 : Int → Int) (tk2 : Int) (bg2 : Int → Int) (bk2 pw2 : Int) (neg2 : Bool) : Prop :=
  S.1 = true ∧ S.2.1 = q ∧ S.2.2.1 = em ∧ S.2.2.2.1 = ob ∧ S.2.2.2.2.1 = oa ∧ (em = false → ob = false → RHd tg1 tk1 bg1 bk1 pw1 neg1 S.2.2.2.2.2.1 6000) ∧ (em = false → oa = false → RHd tg2 tk2 bg2 bk2 pw2 neg2 S.2.2.2.2.2.2 6000)
theorem ENDS_44 {t : Int → Int} {n p : Int} (h : rat t n p = 44) : ENDS t n p = E0 t n true p := by unfold ENDS; rw [if_pos h]
theorem ENDS_in {t : Int → Int} {n p : Int} (h : rat t n p ≠ 44) (h2 : wdB t n p 4 = true) : ENDS t n p = E0 t n true (infq t n p 4) := by unfold ENDS; rw [if_neg h, if_pos h2]
theorem ENDS_no {t : Int → Int} {n p : Int} (h : rat t n p ≠ 44) (h2 : wdB t n p 4 = false) : ENDS t n p = E0 t n false p := by unfold ENDS; rw [if_neg h, if_neg (by rw [h2]; decide)]
theorem infq_f {t : Int → Int} {n p : Int} {i : Nat} (h : wdB t n p i = false) : infq t n p i = p := by unfold infq; rw [h]; rfl
theorem E0_t {t : Int → Int} {n q : Int} {ob : Bool} (h : ob = true) : E0 t n ob q = E1 t n ob n0 q := by unfold E0; rw [h, if_pos rfl]
theorem E0_f {t : Int → Int} {n q q2 v b pw : Int} {ob ng : Bool} (h : ob = false) (hN : NUM t n q = (true, q2, ng, v, b, pw)) : E0 t n ob q = E1 t n ob (ng, v, b, pw) q2 := by
  unfold E0; rw [h, if_neg (by decide), hN, if_pos rfl]
theorem E0_b {t : Int → Int} {n q : Int} {ob : Bool} (h : ob = false) (hN : (NUM t n q).1 = false) : E0 t n ob q = scBad := by
  unfold E0; rw [h, if_neg (by decide), if_neg (by rw [hN]; decide)]
theorem E1_s {t : Int → Int} {n q : Int} {ob : Bool} {N1 : NQ} (h : ob = false) (h2 : rat t n (sk t n q) = 93) : E1 t n ob N1 q = (wdB t n (sk t n (sk t n q)) 2, wq t n (sk t n (sk t n q)) 2, false, false, false, N1, N1) := by unfold E1; rw [if_pos ⟨h, h2⟩]
theorem E1_c {t : Int → Int} {n q : Int} {ob : Bool} {N1 : NQ} (h : ob = true ∨ rat t n (sk t n q) ≠ 93) (h2 : wdB t n (sk t n q) 8 = true) : E1 t n ob N1 q = E2 t n ob N1 (sk t n (sk t n q + (strLen 8 : Int))) := by
  unfold E1; rw [if_neg (fun z => by rcases h with h | h; · rw [h] at z; cases z.1
                                     · exact h z.2), if_pos h2]
theorem E1_b {t : Int → Int} {n q : Int} {ob : Bool} {N1 : NQ} (h : ob = true ∨ rat t n (sk t n q) ≠ 93) (h2 : wdB t n (sk t n q) 8 = false) : E1 t n ob N1 q = scBad := by
  unfold E1; rw [if_neg (fun z => by rcases h with h | h; · rw [h] at z; cases z.1
                                     · exact h z.2), if_neg (by rw [h2]; decide)]
theorem E2_a {t : Int → Int} {n q : Int} {ob : Bool} {N1 : NQ} (h : rat t n q = 93) : E2 t n ob N1 q = E3 t n ob true N1 q := by unfold E2; rw [if_pos h]
theorem E2_b {t : Int → Int} {n q : Int} {ob : Bool} {N1 : NQ} (h : rat t n q ≠ 93) (h2 : wdB t n q 9 = true) : E2 t n ob N1 q = E3 t n ob true N1 (infq t n q 9) := by unfold E2; rw [if_neg h, if_pos h2]
theorem E2_c {t : Int → Int} {n q : Int} {ob : Bool} {N1 : NQ} (h : rat t n q ≠ 93) (h2 : wdB t n q 9 = false) (h3 : wdB t n q 10 = true) : E2 t n ob N1 q = E3 t n ob true N1 (infq t n q 10) := by unfold E2; rw [if_neg h, if_neg (by rw [h2]; decide), if_pos h3]
theorem E2_d {t : Int → Int} {n q : Int} {ob : Bool} {N1 : NQ} (h : rat t n q ≠ 93) (h2 : wdB t n q 9 = false) (h3 : wdB t n q 10 = false) : E2 t n ob N1 q = E3 t n ob false N1 q := by unfold E2; rw [if_neg h, if_neg (by rw [h2]; decide), if_neg (by rw [h3]; decide)]
theorem E3_t {t : Int → Int} {n q : Int} {ob oa : Bool} {N1 : NQ} (h : oa = true) : E3 t n ob oa N1 q = E4 t n ob oa N1 n0 q := by unfold E3; rw [h, if_pos rfl]
theorem E3_f {t : Int → Int} {n q q2 v b pw : Int} {ob oa ng : Bool} {N1 : NQ} (h : oa = false) (hN : NUM t n q = (true, q2, ng, v, b, pw)) : E3 t n ob oa N1 q = E4 t n ob oa N1 (ng, v, b, pw) q2 := by
  unfold E3; rw [h, if_neg (by decide), hN, if_pos rfl]
theorem E3_b {t : Int → Int} {n q : Int} {ob oa : Bool} {N1 : NQ} (h : oa = false) (hN : (NUM t n q).1 = false) : E3 t n ob oa N1 q = scBad := by
  unfold E3; rw [h, if_neg (by decide), if_neg (by rw [hN]; decide)]
theorem E4_f {t : Int → Int} {n q : Int} {ob oa : Bool} {N1 N2 : NQ} (h : wdB t n (sk t n q) 2 = false) : (E4 t n ob oa N1 N2 q).1 = false := by unfold E4; rw [h]; rfl
theorem E4_t {t : Int → Int} {n q : Int} {ob oa : Bool} {N1 N2 : NQ} (h : wdB t n (sk t n q) 2 = true) (h2 : ob = true ∨ oa = true ∨ rgt N1 N2 = false) : (E4 t n ob oa N1 N2 q).1 = true := by
  unfold E4; rw [h]
  rcases h2 with h2 | h2 | h2
  · rw [h2]; rfl
  · rw [h2, Bool.or_true]; rfl
  · rw [h2]; cases ob <;> cases oa <;> rfl
theorem E4_n {t : Int → Int} {n q : Int} {ob oa : Bool} {N1 N2 : NQ} (h : ob = false) (h1 : oa = false) (h2 : rgt N1 N2 = true) : (E4 t n ob oa N1 N2 q).1 = false := by
  unfold E4; rw [h, h1, h2]; cases wdB t n (sk t n q) 2 <;> rfl
theorem BRK_e {t : Int → Int} {n p : Int} (h : wdB t n (sk t n (wq t n p 0)) 1 = true) : BRK t n p = CLO t n (sk t n (wq t n p 0) + (strLen 1 : Int)) true false := by unfold BRK; rw [if_pos h]
theorem BRK_c {t : Int → Int} {n p : Int} (h : wdB t n (sk t n (wq t n p 0)) 1 = false) (h2 : rat t n (sk t n (wq t n p 0)) = 93) : BRK t n p = CLO t n (sk t n (wq t n p 0)) true false := by unfold BRK; rw [if_neg (by rw [h]; decide), if_pos h2]
theorem BRK_n {t : Int → Int} {n p : Int} (h : wdB t n (sk t n (wq t n p 0)) 1 = false) (h2 : rat t n (sk t n (wq t n p 0)) ≠ 93) (h3 : wdB t n (sk t n (wq t n p 0)) 3 = true) : BRK t n p = CLO t n (sk t n (wq t n p 0) + (strLen 3 : Int)) false true := by unfold BRK; rw [if_neg (by rw [h]; decide), if_neg h2, if_pos h3]
theorem BRK_b {t : Int → Int} {n p : Int} (h : wdB t n (sk t n (wq t n p 0)) 1 = false) (h2 : rat t n (sk t n (wq t n p 0)) ≠ 93) (h3 : wdB t n (sk t n (wq t n p 0)) 3 = false) : BRK t n p = ENDS t n (sk t n (wq t n p 0)) := by unfold BRK; rw [if_neg (by rw [h]; decide), if_neg h2, if_neg (by rw [h3]; decide)]
/-! M ? R V X -/
def NX (S pw e : Int) : NQ := (decide (S < 0), (if S < 0 then -S else S) * P5 e, P5 (-e), pw + e)
def SP3 (t : Int → Int) (n : Int) (far up dn neg : Bool) (v w pw fr x : Int) : SC :=
  if (EXP t n 101 (Int.toNat 3) true x).1 = true then (true, (EXP t n 101 (Int.toNat 3) true x).2.1, false, far && !up, far && !dn, NX (sv neg v - (if far || up then 0 else w)) pw ((EXP t n 101 (Int.toNat 3) true x).2.2 - fr), NX (sv neg v + (if far || dn then 0 else w)) pw ((EXP t n 101 (Int.toNat 3) true x).2.2 - fr)) else scBad
def SP2 (t : Int → Int) (n : Int) (far neg : Bool) (v w pw fr x : Int) : SC :=
  if wdB t n x 12 = true then SP3 t n far true false neg v w pw fr (x + (strLen 12 : Int)) else if wdB t n x 13 = true then SP3 t n far false true neg v w pw fr (x + (strLen 13 : Int)) else SP3 t n far false false neg v w pw fr x
def SP1 (t : Int → Int) (n : Int) (neg : Bool) (v fr x : Int) : SC :=
  if wdB t n x 11 = true then SP2 t n true neg v 0 0 fr (x + (strLen 11 : Int))
  else if 0 < (DGs t n 10 false x z0).2.2.1 then SP2 t n false neg v (DGs t n 10 false x z0).2.1 0 fr (DGs t n 10 false x z0).1
  else SP2 t n false neg (v * 2) 1 (-1) fr (DGs t n 10 false x z0).1
def SPR (t : Int → Int) (n p : Int) : SC :=
  if 0 < (DGs t n 10 true (sgP t n p) z0).2.2.1 ∧ wdB t n (DGs t n 10 true (sgP t n p) z0).1 11 = true then
    SP1 t n (sgN t n p) (DGs t n 10 true (sgP t n p) z0).2.1 (DGs t n 10 true (sgP t n p) z0).2.2.2.1 ((DGs t n 10 true (sgP t n p) z0).1 + (strLen 11 : Int))
  else scBad
theorem SPR_b {t : Int → Int} {n p q v c fr : Int} {hp : Bool} (hd : DGs t n 10 true (sgP t n p) z0 = (q, v, c, fr, hp)) (h : ¬ 0 < c ∨ wdB t n q 11 = false) : SPR t n p = scBad := by
  unfold SPR; rw [hd]; rw [if_neg (fun z => by rcases h with h | h; · exact h z.1
                                               · have z2 : wdB t n q 11 = true := z.2; rw [h] at z2; cases z2)]
theorem SPR_g {t : Int → Int} {n p q v c fr : Int} {hp : Bool} (hd : DGs t n 10 true (sgP t n p) z0 = (q, v, c, fr, hp)) (h : 0 < c) (h2 : wdB t n q 11 = true) : SPR t n p = SP1 t n (sgN t n p) v fr (q + (strLen 11 : Int)) := by
  unfold SPR; rw [hd, if_pos ⟨h, h2⟩]
theorem SP1_f {t : Int → Int} {n v fr x : Int} {neg : Bool} (h : wdB t n x 11 = true) : SP1 t n neg v fr x = SP2 t n true neg v 0 0 fr (x + (strLen 11 : Int)) := by unfold SP1; rw [if_pos h]
theorem SP1_d {t : Int → Int} {n v fr x q w c f2 : Int} {neg hp : Bool} (h : wdB t n x 11 = false) (hd : DGs t n 10 false x z0 = (q, w, c, f2, hp)) (hc : 0 < c) : SP1 t n neg v fr x = SP2 t n false neg v w 0 fr q := by
  unfold SP1; rw [if_neg (by rw [h]; decide), hd, if_pos hc]
theorem SP1_h {t : Int → Int} {n v fr x q w c f2 : Int} {neg hp : Bool} (h : wdB t n x 11 = false) (hd : DGs t n 10 false x z0 = (q, w, c, f2, hp)) (hc : ¬ 0 < c) : SP1 t n neg v fr x = SP2 t n false neg (v * 2) 1 (-1) fr q := by
  unfold SP1; rw [if_neg (by rw [h]; decide), hd, if_neg hc]
theorem SP2_u {t : Int → Int} {n v w pw fr x : Int} {far neg : Bool} (h : wdB t n x 12 = true) : SP2 t n far neg v w pw fr x = SP3 t n far (wdB t n x 12) false neg v w pw fr (x + (strLen 12 : Int)) := by unfold SP2; rw [if_pos h, h]
theorem SP2_d {t : Int → Int} {n v w pw fr x : Int} {far neg : Bool} (h : wdB t n x 12 = false) (h2 : wdB t n x 13 = true) : SP2 t n far neg v w pw fr x = SP3 t n far (wdB t n x 12) true neg v w pw fr (x + (strLen 13 : Int)) := by unfold SP2; rw [if_neg (by rw [h]; decide), if_pos h2, h]
theorem SP2_n {t : Int → Int} {n v w pw fr x : Int} {far neg : Bool} (h : wdB t n x 12 = false) (h2 : wdB t n x 13 = false) : SP2 t n far neg v w pw fr x = SP3 t n far (wdB t n x 12) false neg v w pw fr x := by unfold SP2; rw [if_neg (by rw [h]; decide), if_neg (by rw [h2]; decide), h]
theorem SP3_b {t : Int → Int} {n v w pw fr x : Int} {far up dn neg : Bool} (h : (EXP t n 101 (Int.toNat 3) true x).1 = false) : SP3 t n far up dn neg v w pw fr x = scBad := by unfold SP3; rw [if_neg (by rw [h]; decide)]
theorem SP3_g {t : Int → Int} {n v w pw fr x q ex : Int} {far up dn neg : Bool} (h : (EXP t n 101 (Int.toNat 3) true x).1 = true) (hq : q = (EXP t n 101 (Int.toNat 3) true x).2.1) (he : ex = (EXP t n 101 (Int.toNat 3) true x).2.2) : SP3 t n far up dn neg v w pw fr x = (true, q, false, far && !up, far && !dn, NX (sv neg v - (if far || up then 0 else w)) pw (ex - fr), NX (sv neg v + (if far || dn then 0 else w)) pw (ex - fr)) := by
  unfold SP3; rw [if_pos h, ← hq, ← he]
theorem sv_abs {neg : Bool} {v S : Int} (hv : 0 ≤ v) (h : sv neg v = S) : v = (if S < 0 then -S else S) ∧ (v = 0 ∨ neg = decide (S < 0)) := by
  subst h
  unfold sv
  cases neg with
  | false => simp only [Bool.false_eq_true, if_false]; exact ⟨by rw [if_neg (by omega)], Or.inr (by rw [decide_eq_false (by omega)])⟩
  | true =>
    simp only [if_true]
    by_cases z : v = 0
    · subst z; exact ⟨by simp, Or.inl rfl⟩
    · exact ⟨by rw [if_pos (by omega)]; omega, Or.inr (by rw [decide_eq_true (by omega)])⟩
theorem sp_fit {v x e : Int} (hv : 0 ≤ v ∧ v < P2 (4 * (x + 1))) (hx : 0 ≤ x ∧ x ≤ 400) (he : e < 1000) : v * P5 e < P2 6000 := by
  have a := (num_size hv ⟨by omega, show x + 1 ≤ 401 by omega⟩ e he).2
  have b := P2_mono (show 4 * (401 : Int) + 2340 ≤ 6000 by omega)
  omega
theorem sp_bot {e : Int} (he : -1400 < e) : P5 (-e) < P2 6000 := by
  have a := (num_bot (len := 400) (e := -e) (by omega) (by omega)).2
  have b := P2_mono (show 4 * (400 : Int) + 2340 ≤ 6000 by omega)
  omega
theorem P6000 {x : Int} (h : x < P2 6000) : x < PB 224 := by
  rw [PB224]
  have := P2_mono (show (6000 : Int) ≤ 6720 by omega)
  omega
theorem NX_hd {tg bg : Int → Int} {tk bk pw e v S : Int} {neg : Bool} (hv : 0 ≤ v) (hs : sv neg v = S) (hT : NatOK tg tk (v * P5 e)) (hB : NatOK bg bk (1 * P5 (-e))) (hz : v * P5 e < P2 6000) (he : -1400 < e ∧ e < 1000) (hpw : -1 ≤ pw ∧ pw ≤ 0) : RHd tg tk bg bk (pw + e) neg (NX S pw e) 6000 := by
  obtain ⟨h1, h2⟩ := sv_abs hv hs
  unfold NX RHd
  simp only
  rw [Int.one_mul] at hB
  rw [← h1]
  refine ⟨hT, hB, P5_pos _, ?_, trivial, ⟨hz, sp_bot he.1⟩, by omega⟩
  rcases h2 with z | z
  · exact Or.inl (by rw [z, Int.zero_mul])
  · exact Or.inr z
theorem sp_dbl {v c x : Int} (h : 0 ≤ v ∧ v < P2 (4 * c)) (hc : 0 ≤ c ∧ c + 1 ≤ x) : 0 ≤ v * 2 + 0 ∧ v * 2 + 0 < P2 (4 * x) := by
  have e1 : P2 (4 * c + 1) = P2 (4 * c) * 2 := by rw [P2_add (by omega) (by omega)]; rfl
  have := P2_mono (show 4 * c + 1 ≤ 4 * x by omega)
  omega
theorem sp_mon {v c x : Int} (h : 0 ≤ v ∧ v < P2 (4 * c)) (hc : c ≤ x) : 0 ≤ v ∧ v < P2 (4 * x) := by
  have := P2_mono (show 4 * c ≤ 4 * x by omega)
  omega
theorem sp_sum {v w x : Int} (h : 0 ≤ v ∧ v < P2 (4 * x)) (h2 : 0 ≤ w ∧ w < P2 (4 * x)) (hx : 0 ≤ x) : v + w < P2 (4 * (x + 1)) := by
  have e1 : P2 (4 * (x + 1)) = P2 (4 * x) * 16 := by rw [show 4 * (x + 1) = 4 * x + 4 by omega, P2_add (by omega) (by omega)]; rfl
  omega
theorem sv_le {neg isn n3 : Bool} {v w v3 : Int} (hv : 0 ≤ v) (hw : 0 ≤ w) (h : sv n3 v3 = sv neg v + sv isn w) : v3 ≤ v + w := by
  unfold sv at h
  cases neg <;> cases isn <;> cases n3 <;> simp at h <;> omega
