/-! what the reference finds in a slice -/
def slw (t : Int → Int) (fr to : Int) (i : Nat) : Bool := decide (to - fr = (strLen i : Int)) && wdB t to fr i
theorem slw_iff {t : Int → Int} {fr to : Int} {i : Nat} : slw t fr to i = true ↔ SLW t fr to i := by unfold slw SLW; rw [Bool.and_eq_true, decide_eq_true_eq]
def nok (t : Int → Int) (a b : Int) : Bool := (NUM t b a).1 && decide ((NUM t b a).2.1 = b)
theorem nok_iff {t : Int → Int} {a b : Int} : nok t a b = true ↔ NOK t a b := by unfold nok NOK; rw [Bool.and_eq_true, decide_eq_true_eq]
theorem b_of {r s : Bool} {p : Prop} (h : r = true ↔ p) (g : s = true ↔ p) : r = s := by
  have q := h.trans g.symm
  cases r <;> cases s
  · rfl
  · exact absurd (q.mpr rfl) (by decide)
  · exact absurd (q.mp rfl) (by decide)
  · rfl
def fbN (t : Int → Int) (b : Int) : Nat → Int → Int
  | 0, _ => -1
  | k + 1, p => if t p = b then p else fbN t b k (p + 1)
def FB (t : Int → Int) (fr to b : Int) : Int := fbN t b (to - fr).toNat fr
theorem FB_eq {t : Int → Int} {b : Int} : ∀ (k : Nat) (fr to r : Int), (to - fr).toNat = k → FBR t fr to b r → 0 ≤ fr → r = fbN t b k fr
  | 0, fr, to, r, hk, h, h0 => by
    rw [fbN]
    rcases h with h | h
    · exact h.1
    · omega
  | k + 1, fr, to, r, hk, h, h0 => by
    rw [fbN]
    by_cases z : t fr = b
    · rw [if_pos z]
      rcases h with h | ⟨h1, h2, h3⟩
      · exact absurd z (h.2 fr (by omega) (by omega))
      · rcases Int.lt_or_le fr r with q | q
        · exact absurd z (h3 fr (by omega) q)
        · omega
    · rw [if_neg z]
      refine FB_eq k (fr + 1) to r (by omega) ?_ (by omega)
      rcases h with h | ⟨h1, h2, h3⟩
      · exact Or.inl ⟨h.1, fun j q1 q2 => h.2 j (by omega) q2⟩
      · refine Or.inr ⟨⟨?_, h1.2⟩, h2, fun j q1 q2 => h3 j (by omega) q2⟩
        rcases Int.lt_or_le fr r with q | q
        · omega
        · have : r = fr := by omega
          rw [this] at h2; exact absurd h2 z
theorem DGs_nn {t : Int → Int} {n ba : Int} {pm : Bool} (hb : 0 ≤ ba) : ∀ (f : Nat) (p : Int) (s : DgS), 0 ≤ s.1 → 0 ≤ (dgF t n ba pm f p s).2.1
  | 0, p, s, h => h
  | f + 1, p, s, h => by
    rw [dgF]
    split
    · refine DGs_nn hb f (p + 1) _ ?_
      unfold dgStep
      split
      · exact h
      · have := dig_rng (t p)
        have := Int.mul_nonneg h hb
        simp only; omega
    · exact h
theorem NUM_pos {t : Int → Int} {n p : Int} (h : (NUM t n p).1 = true) : 0 < (NUM t n p).2.2.2.2.1 ∧ 0 ≤ (NUM t n p).2.2.2.1 := by
  have nn : ∀ (ba : Int) (pm : Bool) (q : Int), 0 ≤ ba → 0 ≤ (DGs t n ba pm q z0).2.1 := fun ba pm q hb => DGs_nn hb _ q z0 (Int.le_refl 0)
  unfold NUM at h ⊢
  split at h
  · next hw =>
    rw [if_pos hw]
    split at h
    · next hc => rw [if_pos hc]; exact ⟨(by decide : (0 : Int) < 1), nn 16 true _ (by decide)⟩
    · cases h
  · next hw =>
    rw [if_neg hw]
    split at h
    · next hc =>
      rw [if_pos hc]
      split at h
      · next hr =>
        rw [if_pos hr]
        exact ⟨(of_decide_eq_true h).2, nn 10 true _ (by decide)⟩
      · next hr =>
        rw [if_neg hr]
        exact ⟨P5_pos _, Int.mul_nonneg (nn 10 true _ (by decide)) (Int.le_of_lt (P5_pos _))⟩
    · cases h
theorem nok_pos {t : Int → Int} {a b : Int} (h : nok t a b = true) : 0 < (nqs t a b).2.2.1 ∧ 0 ≤ (nqs t a b).2.1 := NUM_pos (nok_iff.mp h).1
/-- two ends with a comma at cm -/
def nlB (t : Int → Int) (fr a : Int) : Bool := decide (a = fr) || slw t fr a 26 || slw t fr a 27
def nhB (t : Int → Int) (b tt : Int) : Bool := decide (b = tt) || slw t b tt 28 || slw t b tt 29 || slw t b tt 30 || slw t b tt 31
def REN2 (t : Int → Int) (fr a b tt : Int) : SC := ((nlB t fr a || nok t fr a) && (nhB t b tt || nok t b tt) && (nlB t fr a || nhB t b tt || !rgt (nqs t fr a) (nqs t b tt)), 0, false, nlB t fr a, nhB t b tt, nqs t fr a, nqs t b tt)
def REN (t : Int → Int) (fr cm tt : Int) : SC := REN2 t fr (TRB t fr cm) (sk t tt (cm + 1)) tt
def RBK (t : Int → Int) (fr tt : Int) : SC :=
  if fr = tt ∨ slw t fr tt 24 = true then (true, 0, true, false, false, n0, n0) else if slw t fr tt 25 = true then (true, 0, false, true, true, n0, n0)
  else if 0 ≤ FB t fr tt 44 then REN t fr (FB t fr tt 44) tt else (nok t fr tt, 0, false, false, false, nqs t fr tt, nqs t fr tt)
/-- the reference's state behind a scan -/
def GST (S : SC) (gd no on : Bool) (lo hi : Int) : Prop := gd = S.1 ∧ (gd = true → no = S.2.2.1 ∧ on = (S.2.2.2.1 || S.2.2.2.2.1) ∧ (no = false → ((S.2.2.2.1 = true ∧ lo = -4503599627370496) ∨ (S.2.2.2.1 = false ∧ rndQ false S.2.2.2.2.2.1 lo)) ∧ ((S.2.2.2.2.1 = true ∧ hi = 9218868437227405312) ∨ (S.2.2.2.2.1 = false ∧ rndQ true S.2.2.2.2.2.2 hi))))
/-- a number held in two rows -/
def OKB (pg : Int → Int) (pk : Int) (qg : Int → Int) (qk v b e : Int) (ng : Bool) (N : NQ) : Prop := (BigOK pg pk v ∧ BigOK qg qk b) ∧ 0 < b ∧ NEQ ng v b e N ∧ (pk ≤ 310 ∧ qk ≤ 310) ∧ (-12000 < e ∧ e < 12000)
theorem OKB_rnd {up ng : Bool} {pg qg : Int → Int} {pk qk v b e r : Int} {N : NQ} (h : OKB pg pk qg qk v b e ng N) (hN : 0 < N.2.2.1 ∧ 0 ≤ N.2.1) (hr : RND up ng v b e r) : rndQ up N r := NEQ_rnd h.1.1.bd.1 h.2.1 hN h.2.2.1 hr
