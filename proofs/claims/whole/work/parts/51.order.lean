/-! order of reference numbers; rounding by bisection -/
theorem bv_and0 (w : Nat) (q b : Int) (n : Nat) (hb : 0 ≤ b ∧ b < 2 ^ n) : BitVec.ofInt w b &&& BitVec.ofInt w (q * 2 ^ n) = 0#w := by
  have e : b = ((b.toNat : Nat) : Int) := (Int.toNat_of_nonneg hb.1).symm
  have hlt : b.toNat < 2 ^ n := by
    have h2 : ((b.toNat : Nat) : Int) < ((2 ^ n : Nat) : Int) := by rw [← e]; simpa using hb.2
    exact Int.ofNat_lt.mp h2
  rw [← bv_shl, e, BitVec.ofInt_natCast]
  apply BitVec.eq_of_getLsbD_eq
  intro i hi
  rw [BitVec.getLsbD_and, BitVec.getLsbD_shiftLeft, BitVec.getLsbD_ofNat, BitVec.getLsbD_zero]
  by_cases h : i < n
  · simp [h]
  · have : b.toNat.testBit i = false := Nat.testBit_lt_two_pow (Nat.lt_of_lt_of_le hlt (Nat.pow_le_pow_right (by decide) (by omega)))
    simp [this]
theorem lI_xor1 {n : Int} (hn : 0 ≤ n ∧ n < 9223372036854775808) : lI n ^^^ lI (-9223372036854775808) = lI (n - 9223372036854775808) := by
  have h1 := lI_or2 (-1) n 63 (by omega)
  have z := bv_and0 64 (-1) n 63 (by omega)
  rw [show (-1 : Int) * 2 ^ 63 = -9223372036854775808 by decide] at h1 z
  rw [show n - 9223372036854775808 = n + -9223372036854775808 by omega, ← h1]
  apply Int64.toBitVec_inj.mp
  show BitVec.ofInt 64 n ^^^ BitVec.ofInt 64 (-9223372036854775808) = BitVec.ofInt 64 n ||| BitVec.ofInt 64 (-9223372036854775808)
  apply BitVec.eq_of_getLsbD_eq
  intro i hi
  have zi : (BitVec.ofInt 64 n &&& BitVec.ofInt 64 (-9223372036854775808)).getLsbD i = false := by rw [z]; simp
  rw [BitVec.getLsbD_and] at zi
  rw [BitVec.getLsbD_xor, BitVec.getLsbD_or]
  revert zi
  cases (BitVec.ofInt 64 n).getLsbD i <;> cases (BitVec.ofInt 64 (-9223372036854775808)).getLsbD i <;> decide
theorem lI_xor2 {n : Int} (hn : 0 ≤ n ∧ n < 9223372036854775808) : lI (n - 9223372036854775808) ^^^ lI (-9223372036854775808) = lI n := by
  rw [← lI_xor1 hn]
  apply Int64.toBitVec_inj.mp
  show (BitVec.ofInt 64 n ^^^ BitVec.ofInt 64 (-9223372036854775808)) ^^^ BitVec.ofInt 64 (-9223372036854775808) = BitVec.ofInt 64 n
  rw [BitVec.xor_assoc, BitVec.xor_self, BitVec.xor_zero]
def flip63 (f : Int) : Int := if 0 ≤ f then f - 9223372036854775808 else f + 9223372036854775808
theorem lI_xor {f : Int} (hf : -9223372036854775808 ≤ f ∧ f < 9223372036854775808) : lI f ^^^ lI (-9223372036854775808) = lI (flip63 f) := by
  unfold flip63
  split
  · exact lI_xor1 (by omega)
  · have := lI_xor2 (n := f + 9223372036854775808) (by omega)
    rwa [show f + 9223372036854775808 - 9223372036854775808 = f by omega] at this
section XorRow
variable {p : Program} {l : Launch} {e : Env} {R : Room} {s : State} {m : MethodId} {args : Array Value} {below : List Frame} {meth : Method} {c : Code} {H : Heap} {locs : List Loc} {cells slots : Nat} {Q : State → Prop} {cc : ByteArray} {pc : Nat} {ls : Array Slot} {rest : List Value}
theorem wi_lxor (hx : p.tables.exec = Jvm.exec) (hb : c.code = cc) {x y : Int} (hx1 : -9223372036854775808 ≤ x ∧ x < 9223372036854775808) (hy : y = -9223372036854775808) (hd : decode cc pc = .ok (.lxor, 1)) (k : W p l e R s m args below meth c H locs cells slots Q (F0 m (pc + 1) ls (.long (lI (flip63 x)) :: rest))) : W p l e R s m args below meth c H locs cells slots Q (F0 m pc ls (.long (lI y) :: .long (lI x) :: rest)) := by
  subst hy
  exact lv_lxor hx hb hd (by rw [lI_xor hx1]; exact k)
end XorRow
theorem Big_k {g : Int → Int} {k v j : Int} (h : BigOK g k v) (hj : 0 ≤ j) (hv : v < QB j) : k ≤ j := by
  rcases Int.lt_or_le j k with q | q
  · have := h.ge (by omega)
    have := QB_mono (show j ≤ k - 1 by omega)
    omega
  · exact q
theorem cs_lt {x y r q d : Int} (hx : 0 < x) (hy : 0 < y) (h1 : BL x r) (h2 : BL y q) (h : r + d < q) : x * P2 d < y * P2 (-d) := by
  obtain ⟨a1, a2, a3⟩ := BL_pos h1 hx
  obtain ⟨b1, b2, b3⟩ := BL_pos h2 hy
  have p1 := P2_pos d
  have p2 := P2_pos (-d)
  rcases Int.lt_or_le d 0 with z | z
  · rw [P2_neg (show d ≤ 0 by omega), Int.mul_one]
    have m := Int.mul_le_mul_of_nonneg_right b2 (show 0 ≤ P2 (-d) by omega)
    rw [← P2_add (by omega) (by omega)] at m
    have := P2_mono (show r ≤ q - 1 + -d by omega)
    omega
  · rw [P2_neg (show -d ≤ 0 by omega), Int.mul_one]
    have m := Int.mul_lt_mul_of_pos_right a3 p1
    rw [← P2_add (by omega) z] at m
    have := P2_mono (show r + d ≤ q - 1 by omega)
    omega
theorem QB640 : QB 640 = P2 10240 := by rw [QB_P2 (by decide)]; rfl
theorem cs_fit3 {x r q d : Int} (hx : 0 < x) (h1 : BL x r) (hd : 0 ≤ d) (hq : q ≤ 10240) (h : r + d = q) : x * P2 d < QB 640 := by
  obtain ⟨a1, a2, a3⟩ := BL_pos h1 hx
  have m := Int.mul_lt_mul_of_pos_right a3 (P2_pos d)
  rw [← P2_add (by omega) hd] at m
  have := P2_mono (show r + d ≤ 10240 by omega)
  rw [QB640]; omega
theorem ord_lt {n1 n2 : Bool} {v1 b1 p1 v2 b2 p2 : Int} (h1 : 0 ≤ v1) (h2 : 0 ≤ v2) (hb1 : 0 < b1) (hb2 : 0 < b2) (h : sgnR n1 v1 ≠ sgnR n2 v2 ∨ sgnR n1 v1 = 0) :
    (sgnR n1 v1 < sgnR n2 v2 → Cmp3 (-1) (sv n1 v1 * b2 * P2 (p1 - p2)) (sv n2 v2 * b1 * P2 (p2 - p1))) ∧ (sgnR n2 v2 < sgnR n1 v1 → Cmp3 1 (sv n1 v1 * b2 * P2 (p1 - p2)) (sv n2 v2 * b1 * P2 (p2 - p1))) ∧ (sgnR n1 v1 = sgnR n2 v2 → Cmp3 0 (sv n1 v1 * b2 * P2 (p1 - p2)) (sv n2 v2 * b1 * P2 (p2 - p1))) := by
  have g1 := RGT_sign (p1 := p1) (p2 := p2) h1 h2 hb1 hb2 h
  have g2 := RGT_sign (p1 := p2) (p2 := p1) h2 h1 hb2 hb1 (n1 := n2) (n2 := n1) (by omega)
  unfold RGT at g1 g2
  unfold Cmp3
  refine ⟨fun z => Or.inl ⟨rfl, g2.mpr z⟩, fun z => Or.inr (Or.inr ⟨rfl, g1.mpr z⟩), fun z => Or.inr (Or.inl ⟨rfl, ?_⟩)⟩
  rcases Int.lt_trichotomy (sv n1 v1 * b2 * P2 (p1 - p2)) (sv n2 v2 * b1 * P2 (p2 - p1)) with q | q | q
  · have := g2.mp q; omega
  · exact q
  · have := g1.mp q; omega
theorem ord_same {n1 n2 : Bool} {v1 b1 p1 v2 b2 p2 r : Int} (h1 : 0 ≤ v1) (h2 : 0 ≤ v2) (e : sgnR n1 v1 = sgnR n2 v2) (e0 : sgnR n1 v1 ≠ 0) (hc : Cmp3 r (v1 * b2 * P2 (p1 - p2)) (v2 * b1 * P2 (p2 - p1))) : Cmp3 (sgnR n1 v1 * r) (sv n1 v1 * b2 * P2 (p1 - p2)) (sv n2 v2 * b1 * P2 (p2 - p1)) := by
  rcases sgnR_cases h1 (n := n1) with ⟨a, b⟩ | ⟨a, b, c⟩ | ⟨a, b, c⟩
  · omega
  · rcases sgnR_cases h2 (n := n2) with ⟨a', b'⟩ | ⟨a', b', c'⟩ | ⟨a', b', c'⟩ <;> try omega
    rw [a, c, c']
    unfold sv
    simp only [Bool.false_eq_true, if_false, Int.one_mul]
    exact hc
  · rcases sgnR_cases h2 (n := n2) with ⟨a', b'⟩ | ⟨a', b', c'⟩ | ⟨a', b', c'⟩ <;> try omega
    rw [a, c, c']
    unfold sv
    simp only [if_true, Int.neg_mul]
    unfold Cmp3 at hc ⊢
    omega
/-- comparing with float: one scale -/
theorem scl {M b v F E : Int} (hF : 0 ≤ F) : ∃ K : Int, 0 < K ∧ M * b * P2 (F - E) * K = M * P2 F * (b * P2 (-E)) ∧ v * P2 (E - F) * K = v * P2 E := by
  rcases Int.lt_or_le 0 E with z | z
  · rw [P2_neg (show -E ≤ 0 by omega), Int.mul_one]
    rcases Int.lt_or_le F E with y | y
    · refine ⟨P2 F, P2_pos F, ?_, ?_⟩
      · rw [P2_neg (show F - E ≤ 0 by omega)]; grind
      · rw [Int.mul_assoc, ← P2_add (by omega) hF, show E - F + F = E by omega]
    · refine ⟨P2 E, P2_pos E, ?_, ?_⟩
      · rw [Int.mul_assoc, ← P2_add (by omega) (by omega), show F - E + E = F by omega]; grind
      · rw [P2_neg (show E - F ≤ 0 by omega), Int.mul_one]
  · refine ⟨1, by decide, ?_, ?_⟩
    · rw [show F - E = F + -E by omega, P2_add hF (by omega), Int.mul_one]; grind
    · rw [P2_neg (show E - F ≤ 0 by omega), P2_neg z]; omega
theorem FE_rng {n : Int} (hn : 0 ≤ n ∧ n < 9223372036854775808) : (-1074 ≤ FE n ∧ FE n ≤ 1000) ∧ 0 ≤ FM n ∧ FM n < 9007199254740992 := by
  unfold FE FM
  split <;> omega
/-- a signed order's value -/
def SO (o : Int) : Int := if o < 0 then -FV (-o) else FV o
theorem ord_fl {n0 v b e r : Int} {neg n : Bool} (hn0 : 0 ≤ n0 ∧ n0 < 9223372036854775808) (h : Cmp3 r (sv neg (FM n0) * b * P2 (FE n0 - e)) (sv n v * 1 * P2 (e - FE n0))) : Cmp3 r (sv neg (FV n0) * QD b e) (sv n (QN v e)) := by
  have fr := FE_rng hn0
  obtain ⟨K, k0, k1, k2⟩ := scl (M := FM n0) (b := b) (v := v) (F := FE n0 + 1074) (E := e + 1074) (by omega)
  rw [show FE n0 + 1074 - (e + 1074) = FE n0 - e by omega, FM_FV] at k1
  rw [show e + 1074 - (FE n0 + 1074) = e - FE n0 by omega] at k2
  have e1 : sv neg (FM n0) * b * P2 (FE n0 - e) * K = sv neg (FV n0) * QD b e := by
    unfold QD
    rw [← sv_mul, ← sv_mul, ← sv_mul, ← sv_mul, k1]
  have e2 : sv n v * 1 * P2 (e - FE n0) * K = sv n (QN v e) := by
    unfold QN
    rw [Int.mul_one, ← sv_mul, ← sv_mul, k2]
  rw [← e1, ← e2]
  generalize sv neg (FM n0) * b * P2 (FE n0 - e) = x at h
  generalize sv n v * 1 * P2 (e - FE n0) = y at h
  unfold Cmp3 at h ⊢
  rcases h with ⟨h1, h2⟩ | ⟨h1, h2⟩ | ⟨h1, h2⟩
  · exact Or.inl ⟨h1, Int.mul_lt_mul_of_pos_right h2 k0⟩
  · exact Or.inr (Or.inl ⟨h1, by rw [h2]⟩)
  · exact Or.inr (Or.inr ⟨h1, Int.mul_lt_mul_of_pos_right h2 k0⟩)
theorem FV_pos {n : Int} (h : 0 < n) : 0 < FV n := by
  rw [← FM_FV]
  refine Int.mul_pos ?_ (P2_pos _)
  unfold FM
  split <;> omega
theorem QD_pos {b e : Int} (hb : 0 < b) : 0 < QD b e := Int.mul_pos hb (P2_pos _)
/-- bisection: the greatest order that is not above -/
def DNI (lo hi v b e : Int) (n : Bool) : Prop := SO lo * QD b e ≤ sv n (QN v e) ∧ ((hi = 9218868437227405312 ∧ 0 ≤ lo) ∨ sv n (QN v e) < SO hi * QD b e)
theorem SO_sv (o : Int) : SO o = sv (decide (o < 0)) (FV (if o < 0 then -o else o)) := by
  unfold SO sv
  by_cases h : o < 0
  · simp [h]
  · simp [h]
theorem FV_0 : FV 0 = 0 := rfl
theorem QN_0 (e : Int) : QN 0 e = 0 := by unfold QN; rw [Int.zero_mul]
theorem QN_pos {v e : Int} (h : 0 < v) : 0 < QN v e := Int.mul_pos h (P2_pos _)
def fOf (o : Int) : Int := if o < 0 then -o - 9223372036854775808 else o
theorem DNI_end {lo hi v b e : Int} {n : Bool} (hv : 0 ≤ v) (hb : 0 < b) (h : DNI lo hi v b e n) (hh : hi = lo + 1) (hr : (sgnR n v < 0 ∧ -9218868437227405311 ≤ lo ∧ lo < 0) ∨ (0 ≤ sgnR n v ∧ 0 ≤ lo ∧ lo ≤ 9218868437227405311)) : RND false n v b e (fOf lo) := by
  obtain ⟨h1, h2⟩ := h
  have qd := QD_pos (e := e) hb
  unfold fOf
  rcases sgnR_cases hv (n := n) with ⟨a, b'⟩ | ⟨a, b', c'⟩ | ⟨a, b', c'⟩
  · have l0 : 0 ≤ lo := by omega
    rw [if_neg (by omega)]
    refine Or.inl ⟨b', ?_⟩
    rw [b', QN_0, sv_0] at h1
    unfold SO at h1
    rw [if_neg (by omega)] at h1
    rcases Int.lt_or_le 0 lo with z | z
    · have := Int.mul_pos (FV_pos z) qd
      omega
    · omega
  · have l0 : 0 ≤ lo := by omega
    rw [if_neg (by omega)]
    refine Or.inr ⟨b', lo, ?_, ?_⟩
    · rw [FL_f c']
    · refine RSZ_f (by rw [c']; rfl) ⟨by omega, ?_, ?_⟩
      · have : SO lo = FV lo := by unfold SO; rw [if_neg (by omega)]
        rw [this, c'] at h1
        exact h1
      · rcases h2 with z | z
        · exact Or.inl (by omega)
        · refine Or.inr ?_
          have : SO hi = FV (lo + 1) := by unfold SO; rw [if_neg (by omega), hh]
          rw [this, c'] at z
          exact z
  · have l0 : lo < 0 := by omega
    rw [if_pos l0]
    refine Or.inr ⟨b', -lo, ?_, ?_⟩
    · rw [FL_t c' (by omega)]; omega
    · refine RSZ_t (by rw [c']; rfl) ⟨by omega, Or.inr ?_, Or.inr ?_⟩
      · rcases h2 with z | z
        · omega
        · have e1 : SO hi = -FV (-lo - 1) := by
            unfold SO
            split
            · rw [hh]; congr 2; omega
            · have : hi = 0 := by omega
              rw [this, show -lo - 1 = 0 by omega]; rfl
          rw [e1, c', Int.neg_mul] at z
          have z2 : -QN v e < -(FV (-lo - 1) * QD b e) := z
          omega
      · have e1 : SO lo = -FV (-lo) := by unfold SO; rw [if_pos l0]
        rw [e1, c', Int.neg_mul] at h1
        have z2 : -(FV (-lo) * QD b e) ≤ -QN v e := h1
        omega
theorem DN_inf {v b e r : Int} {n : Bool} (hv : 0 ≤ v) (hs : sgnR n v < 0) (h : Cmp3 r (SO (-9218868437227405311) * QD b e) (sv n (QN v e))) (hr : 0 < r) : RND false n v b e (-4503599627370496) := by
  rcases sgnR_cases hv (n := n) with ⟨a, b'⟩ | ⟨a, b', c'⟩ | ⟨a, b', c'⟩ <;> try omega
  refine Or.inr ⟨b', 9218868437227405312, ?_, ?_⟩
  · rw [FL_t c' (by decide)]; decide
  · refine RSZ_t (by rw [c']; rfl) ⟨by omega, Or.inr ?_, Or.inl rfl⟩
    have z : sv n (QN v e) < SO (-9218868437227405311) * QD b e := by unfold Cmp3 at h; omega
    have e1 : SO (-9218868437227405311) = -FV 9218868437227405311 := rfl
    rw [e1, c', Int.neg_mul] at z
    have z2 : -QN v e < -(FV 9218868437227405311 * QD b e) := z
    show FV (9218868437227405312 - 1) * QD b e < QN v e
    rw [show (9218868437227405312 : Int) - 1 = 9218868437227405311 by decide]
    omega
def mnF (f : Int) : Int := if f = 0 then 0 else flip63 f
theorem UP_of {v b e r : Int} {n : Bool} (h : RND false (!n) v b e r) : RND true n v b e (mnF r) := by
  rcases h with ⟨h1, h2⟩ | ⟨h1, N, h2, h3⟩
  · exact Or.inl ⟨h1, by rw [h2]; rfl⟩
  · have rg := RSZ_rng h3
    refine Or.inr ⟨h1, N, ?_, ?_⟩
    · rw [h2]
      unfold mnF FL flip63
      cases n <;> simp <;> omega
    · have : (true != n) = (false != !n) := by cases n <;> rfl
      rw [this]; exact h3
