/-! NUMBERS: ints, longs and booleans of the machine as Lean's integers. -/
def iI (z : Int) : Int32 := Int32.ofInt z
def lI (z : Int) : Int64 := Int64.ofInt z
def bI (b : Bool) : Int32 := if b then 1 else 0
theorem iI_add (a b : Int) : iI a + iI b = iI (a + b) := (Int32.ofInt_add a b).symm
theorem iI_sub (a b : Int) : iI a - iI b = iI (a - b) := (Int32.ofInt_sub a b).symm
theorem iI_mul (a b : Int) : iI a * iI b = iI (a * b) := (Int32.ofInt_mul a b).symm
theorem iI_neg (a : Int) : -iI a = iI (-a) := (Int32.ofInt_neg a).symm
theorem lI_add (a b : Int) : lI a + lI b = lI (a + b) := (Int64.ofInt_add a b).symm
theorem lI_sub (a b : Int) : lI a - lI b = lI (a - b) := (Int64.ofInt_sub a b).symm
theorem lI_mul (a b : Int) : lI a * lI b = lI (a * b) := (Int64.ofInt_mul a b).symm
theorem lI_neg (a : Int) : -lI a = lI (-a) := (Int64.ofInt_neg a).symm
theorem iI_toInt {z : Int} (h : -2147483648 ≤ z ∧ z < 2147483648) : (iI z).toInt = z := Int32.toInt_ofInt_of_le (by omega) (by omega)
theorem lI_toInt {z : Int} (h : -9223372036854775808 ≤ z ∧ z < 9223372036854775808) : (lI z).toInt = z := Int64.toInt_ofInt_of_le (by omega) (by omega)
theorem iI_back (x : Int32) : iI x.toInt = x := Int32.ofInt_toInt x
theorem lI_back (x : Int64) : lI x.toInt = x := Int64.ofInt_toInt x
theorem iI_rng (x : Int32) : -2147483648 ≤ x.toInt ∧ x.toInt < 2147483648 := by
  have a := x.toInt_lt; have b := x.le_toInt; omega
theorem lI_rng (x : Int64) : -9223372036854775808 ≤ x.toInt ∧ x.toInt < 9223372036854775808 := by
  have a := x.toInt_lt; have b := x.le_toInt; omega
theorem iI_of (x : Int32) : ∃ z : Int, (-2147483648 ≤ z ∧ z < 2147483648) ∧ x = iI z := ⟨x.toInt, iI_rng x, (iI_back x).symm⟩
theorem lI_of (x : Int64) : ∃ z : Int, (-9223372036854775808 ≤ z ∧ z < 9223372036854775808) ∧ x = lI z := ⟨x.toInt, lI_rng x, (lI_back x).symm⟩
theorem iI_le {a b : Int} (ha : -2147483648 ≤ a ∧ a < 2147483648) (hb : -2147483648 ≤ b ∧ b < 2147483648) : iI a ≤ iI b ↔ a ≤ b := by rw [Int32.le_iff_toInt_le, iI_toInt ha, iI_toInt hb]
theorem iI_lt {a b : Int} (ha : -2147483648 ≤ a ∧ a < 2147483648) (hb : -2147483648 ≤ b ∧ b < 2147483648) : iI a < iI b ↔ a < b := by rw [Int32.lt_iff_toInt_lt, iI_toInt ha, iI_toInt hb]
theorem iI_inj {a b : Int} (ha : -2147483648 ≤ a ∧ a < 2147483648) (hb : -2147483648 ≤ b ∧ b < 2147483648) : iI a = iI b ↔ a = b := by rw [← Int32.toInt_inj, iI_toInt ha, iI_toInt hb]
theorem lI_le {a b : Int} (ha : -9223372036854775808 ≤ a ∧ a < 9223372036854775808) (hb : -9223372036854775808 ≤ b ∧ b < 9223372036854775808) : lI a ≤ lI b ↔ a ≤ b := by rw [Int64.le_iff_toInt_le, lI_toInt ha, lI_toInt hb]
theorem lI_lt {a b : Int} (ha : -9223372036854775808 ≤ a ∧ a < 9223372036854775808) (hb : -9223372036854775808 ≤ b ∧ b < 9223372036854775808) : lI a < lI b ↔ a < b := by rw [Int64.lt_iff_toInt_lt, lI_toInt ha, lI_toInt hb]
theorem lI_inj {a b : Int} (ha : -9223372036854775808 ≤ a ∧ a < 9223372036854775808) (hb : -9223372036854775808 ≤ b ∧ b < 9223372036854775808) : lI a = lI b ↔ a = b := by rw [← Int64.toInt_inj, lI_toInt ha, lI_toInt hb]
theorem iI_clamp {z : Int} (h : 0 ≤ z ∧ z < 2147483648) : (iI z).toNatClampNeg = z.toNat := Int32.toNatClampNeg_ofInt_of_le (by omega) (by omega)
theorem iI_in {z : Int} {n : Nat} (h : 0 ≤ z ∧ z < n) (hn : n < 2147483648) : vp_in (iI z) n := vp_in_iff.mpr (by rw [iI_toInt (by omega)]; exact h)
theorem iI_toL {z : Int} (h : -2147483648 ≤ z ∧ z < 2147483648) : (iI z).toInt64 = lI z := by
  rw [← lI_back (iI z).toInt64, Int32.toInt_toInt64, iI_toInt h]
theorem lI_toI (z : Int) : (lI z).toInt32 = iI z := Int64.toInt32_ofInt
theorem bI_f : bI false = iI 0 := by decide
theorem bI_t : bI true = iI 1 := by decide
theorem iI_zero : (0 : Int32) = iI 0 := by decide
theorem lI_zero : (0 : Int64) = lI 0 := by decide
theorem iI_one : (1 : Int32) = iI 1 := by decide
theorem iI_div {a b : Int} (ha : 0 ≤ a ∧ a < 2147483648) (hb : 0 < b ∧ b < 2147483648) : iI a / iI b = iI (a / b) := by
  have h := Jvm.Kit.i32_div (x := iI a) (y := iI b) (by rw [iI_toInt (by omega), iI_toInt (by omega)]; omega)
  rw [iI_toInt (by omega), iI_toInt (by omega), Int.tdiv_eq_ediv_of_nonneg ha.1] at h
  rw [← iI_back (iI a / iI b), h]
theorem lI_div {a b : Int} (ha : 0 ≤ a ∧ a < 9223372036854775808) (hb : 0 < b ∧ b < 9223372036854775808) : lI a / lI b = lI (a / b) := by
  have h := Jvm.Kit.i64_div (x := lI a) (y := lI b) (by rw [lI_toInt (by omega), lI_toInt (by omega)]; omega)
  rw [lI_toInt (by omega), lI_toInt (by omega), Int.tdiv_eq_ediv_of_nonneg ha.1] at h
  rw [← lI_back (lI a / lI b), h]
theorem iI_rem {a b : Int} (ha : 0 ≤ a ∧ a < 2147483648) (hb : 0 < b ∧ b < 2147483648) : iI a - iI a / iI b * iI b = iI (a % b) := by
  rw [iI_div ha hb, iI_mul, iI_sub, Int.emod_def, Int.mul_comm]
theorem lI_rem {a b : Int} (ha : 0 ≤ a ∧ a < 9223372036854775808) (hb : 0 < b ∧ b < 9223372036854775808) : lI a - lI a / lI b * lI b = lI (a % b) := by
  rw [lI_div ha hb, lI_mul, lI_sub, Int.emod_def, Int.mul_comm]
theorem iI_ne0 {b : Int} (hb : -2147483648 ≤ b ∧ b < 2147483648) (h : b ≠ 0) : ¬ iI b = 0 := by
  rw [iI_zero, iI_inj hb (by omega)]; exact h
theorem lI_ne0 {b : Int} (hb : -9223372036854775808 ≤ b ∧ b < 9223372036854775808) (h : b ≠ 0) : ¬ lI b = 0 := by
  rw [lI_zero, lI_inj hb (by omega)]; exact h
theorem sh_i : ∀ n : Nat, n < 32 → (((iI (n : Int)) &&& 31).toBitVec.smod 32).toNat = n := by decide +kernel
theorem sh_l : ∀ n : Nat, n < 64 → (((iI (n : Int)).toInt64 &&& 63).toBitVec.smod 64).toNat = n := by decide +kernel
theorem sh_u : ∀ n : Nat, n < 64 → (((iI (n : Int)).toInt64.toUInt64 &&& Int64.toUInt64 63)).toNat = n := by decide +kernel
theorem iI_shr {a : Int} (n : Nat) (ha : -2147483648 ≤ a ∧ a < 2147483648) (hn : n < 32) : iI a >>> (iI (n : Int) &&& 31) = iI (a / 2 ^ n) := by
  rw [← iI_back (iI a >>> (iI (n : Int) &&& 31)), pk_shr _ _ n (sh_i n hn), iI_toInt ha, Int.shiftRight_eq_div_pow]
  rfl
theorem i64_sshr (a s : Int64) (k : Nat) (hs : (s.toBitVec.smod 64).toNat = k) : (a >>> s).toInt = a.toInt >>> k := by
  have e : (a >>> s).toInt = (a >>> s).toBitVec.toInt := rfl
  rw [e, Int64.toBitVec_shiftRight, BitVec.sshiftRight_eq', hs, BitVec.toInt_sshiftRight]
  rfl
theorem lI_shr {a : Int} (n : Nat) (ha : -9223372036854775808 ≤ a ∧ a < 9223372036854775808) (hn : n < 64) : lI a >>> ((iI (n : Int)).toInt64 &&& 63) = lI (a / 2 ^ n) := by
  rw [← lI_back (lI a >>> ((iI (n : Int)).toInt64 &&& 63)), i64_sshr _ _ n (sh_l n hn), lI_toInt ha, Int.shiftRight_eq_div_pow]
  rfl
theorem bv_shl (w : Nat) (a : Int) (n : Nat) : BitVec.ofInt w a <<< n = BitVec.ofInt w (a * 2 ^ n) := by
  have e : ((2 : Int) ^ n) = ((2 ^ n : Nat) : Int) := by simp
  rw [BitVec.shiftLeft_eq_mul_twoPow, BitVec.ofInt_mul, e, BitVec.ofInt_natCast]
  congr 1
  exact BitVec.eq_of_toNat_eq (by simp [BitVec.toNat_twoPow])
theorem iI_shl (a : Int) (n : Nat) (hn : n < 32) : iI a <<< (iI (n : Int) &&& 31) = iI (a * 2 ^ n) := by
  apply Int32.toBitVec_inj.mp
  rw [Int32.toBitVec_shiftLeft]
  show BitVec.ofInt 32 a <<< ((iI (n : Int) &&& 31).toBitVec.smod 32) = BitVec.ofInt 32 (a * 2 ^ n)
  rw [← bv_shl, BitVec.shiftLeft_eq', sh_i n hn]
theorem lI_shl (a : Int) (n : Nat) (hn : n < 64) : lI a <<< ((iI (n : Int)).toInt64 &&& 63) = lI (a * 2 ^ n) := by
  apply Int64.toBitVec_inj.mp
  rw [Int64.toBitVec_shiftLeft]
  show BitVec.ofInt 64 a <<< (((iI (n : Int)).toInt64 &&& 63).toBitVec.smod 64) = BitVec.ofInt 64 (a * 2 ^ n)
  rw [← bv_shl, BitVec.shiftLeft_eq', sh_l n hn]
theorem bv_mask (w : Nat) (a : Int) (n : Nat) (hn : n < w) : BitVec.ofInt w a &&& BitVec.ofInt w (2 ^ n - 1) = BitVec.ofInt w (a % 2 ^ n) := by
  have p0 : (0 : Int) < 2 ^ n := Int.pow_pos (by decide)
  have e : ((2 : Int) ^ n - 1) = ((2 ^ n - 1 : Nat) : Int) := by
    have : 0 < 2 ^ n := Nat.two_pow_pos n
    rw [Int.natCast_sub (by omega)]; simp
  have hlt : 2 ^ n < 2 ^ w := Nat.pow_lt_pow_right (by decide) hn
  have hp0 : 0 < 2 ^ n := Nat.two_pow_pos n
  rw [e, BitVec.ofInt_natCast]
  apply BitVec.eq_of_toNat_eq
  rw [BitVec.toNat_and, BitVec.toNat_ofNat, Nat.mod_eq_of_lt (show 2 ^ n - 1 < 2 ^ w by omega), Nat.and_two_pow_sub_one_eq_mod, BitVec.toNat_ofInt, BitVec.toNat_ofInt]
  have pw : (0 : Int) < 2 ^ w := Int.pow_pos (by decide)
  have h1 : 0 ≤ a % 2 ^ w := Int.emod_nonneg _ (by omega)
  have h2 : 0 ≤ a % 2 ^ n := Int.emod_nonneg _ (by omega)
  have h3 : a % 2 ^ n < 2 ^ n := Int.emod_lt_of_pos _ p0
  have hlt' : (2 : Int) ^ n < 2 ^ w := by
    have := Int.ofNat_lt.mpr hlt
    simpa using this
  have h4 : (a % 2 ^ n) % ((2 ^ w : Nat) : Int) = a % 2 ^ n := Int.emod_eq_of_lt h2 (by simp; omega)
  have dv : ((2 : Int) ^ n) ∣ 2 ^ w := ⟨2 ^ (w - n), by rw [← Int.pow_add]; congr 1; omega⟩
  apply Int.ofNat_inj.mp
  rw [Int.natCast_emod, Int.toNat_of_nonneg (by simpa using h1), Int.toNat_of_nonneg (by rw [h4]; exact h2), h4]
  simp only [Int.natCast_pow]
  exact Int.emod_emod_of_dvd a dv
theorem iI_mask (a : Int) (n : Nat) (hn : n < 32) : iI a &&& iI (2 ^ n - 1) = iI (a % 2 ^ n) := by
  apply Int32.toBitVec_inj.mp
  exact bv_mask 32 a n hn
theorem lI_mask (a : Int) (n : Nat) (hn : n < 64) : lI a &&& lI (2 ^ n - 1) = lI (a % 2 ^ n) := by
  apply Int64.toBitVec_inj.mp
  exact bv_mask 64 a n hn
theorem iI_char {x : Int} (h : 0 ≤ x ∧ x < 65536) : ((iI x).toUInt32 % 65536).toInt32 = iI x := lg_i2c_word (by rw [iI_toInt (by omega)]; exact h.1) (by rw [iI_toInt (by omega)]; exact h.2)
theorem vp_c {x : Int} (h : 0 ≤ x ∧ x < 65536) : vp_nar .char (iI x) = iI x := by
  rw [vp_nar_char, ← lg_i2c_nf]; exact iI_char h
theorem iI_8 {n : Int} (h : -128 ≤ n ∧ n < 128) : (Int8.ofInt n).toInt32 = iI n := by
  rw [← iI_back (Int8.ofInt n).toInt32, Int8.toInt_toInt32, Int8.toInt_ofInt_of_le (by omega) (by omega)]
theorem iI_16 {n : Int} (h : -32768 ≤ n ∧ n < 32768) : (Int16.ofInt n).toInt32 = iI n := by
  rw [← iI_back (Int16.ofInt n).toInt32, Int16.toInt_toInt32, Int16.toInt_ofInt_of_le (by omega) (by omega)]
def cmpZ (x y : Int) : Int := if y < x then 1 else if x = y then 0 else -1
theorem cmpZ_rng (x y : Int) : -1 ≤ cmpZ x y ∧ cmpZ x y ≤ 1 := by unfold cmpZ; split <;> (try split) <;> omega
theorem cmpZ_le {x y : Int} : cmpZ x y ≤ 0 ↔ x ≤ y := by unfold cmpZ; split <;> (try split) <;> omega
theorem cmpZ_gt {x y : Int} : 0 < cmpZ x y ↔ y < x := by unfold cmpZ; split <;> (try split) <;> omega
theorem cmpZ_lt {x y : Int} : cmpZ x y < 0 ↔ x < y := by unfold cmpZ; split <;> (try split) <;> omega
theorem cmpZ_ge {x y : Int} : 0 ≤ cmpZ x y ↔ y ≤ x := by unfold cmpZ; split <;> (try split) <;> omega
theorem cmpZ_eq {x y : Int} : cmpZ x y = 0 ↔ x = y := by unfold cmpZ; split <;> (try split) <;> omega
theorem cmpZ_ne {x y : Int} : cmpZ x y ≠ 0 ↔ x ≠ y := by unfold cmpZ; split <;> (try split) <;> omega
theorem lI_cmp {x y : Int} (hx : -9223372036854775808 ≤ x ∧ x < 9223372036854775808) (hy : -9223372036854775808 ≤ y ∧ y < 9223372036854775808) : lg_cmp (lI x) (lI y) = iI (cmpZ x y) := by
  unfold lg_cmp cmpZ
  by_cases h : y < x
  · rw [if_pos h, if_pos ((lI_lt hy hx).mpr h)]; decide
  · rw [if_neg h, if_neg (fun z => h ((lI_lt hy hx).mp z))]
    by_cases h2 : x = y
    · subst h2; simp; decide
    · rw [if_neg h2, if_neg (fun z => h2 ((lI_inj hx hy).mp z))]; decide
theorem iI_max {x y : Int} (hx : -2147483648 ≤ x ∧ x < 2147483648) (hy : -2147483648 ≤ y ∧ y < 2147483648) : (if iI x < iI y then iI y else iI x) = iI (max x y) := by
  by_cases h : x < y
  · rw [if_pos ((iI_lt hx hy).mpr h)]; congr 1; omega
  · rw [if_neg (fun z => h ((iI_lt hx hy).mp z))]; congr 1; omega
theorem iI_min {x y : Int} (hx : -2147483648 ≤ x ∧ x < 2147483648) (hy : -2147483648 ≤ y ∧ y < 2147483648) : (if iI y < iI x then iI y else iI x) = iI (min x y) := by
  by_cases h : y < x
  · rw [if_pos ((iI_lt hy hx).mpr h)]; congr 1; omega
  · rw [if_neg (fun z => h ((iI_lt hy hx).mp z))]; congr 1; omega
theorem iI_abs {x : Int} (hx : -2147483648 ≤ x ∧ x < 2147483648) : (if 0 ≤ iI x then iI x else 0 - iI x) = iI (if 0 ≤ x then x else -x) := by
  rw [iI_zero]
  by_cases h : 0 ≤ x
  · rw [if_pos h, if_pos ((iI_le (a := 0) (by decide) hx).mpr h)]
  · rw [if_neg h, if_neg (fun z => h ((iI_le (a := 0) (by decide) hx).mp z)), iI_sub]; congr 1; omega
/-- an array of ints or chars: its contents as a function of Lean's integers -/
def ia (g : Int → Int) : Nat → Int32 := fun j => iI (g (j : Int))
def upZ (g : Int → Int) (i v : Int) : Int → Int := fun j => if j = i then v else g j
theorem upZ_s {g : Int → Int} {i v : Int} : upZ g i v i = v := if_pos rfl
theorem upZ_n {g : Int → Int} {i v j : Int} (h : j ≠ i) : upZ g i v j = g j := if_neg h
theorem ia_at {g : Int → Int} {i : Int} (h : 0 ≤ i) : ia g i.toNat = iI (g i) := by
  unfold ia; rw [Int.toNat_of_nonneg h]
theorem ia_up {g : Int → Int} {i v : Int} (h : 0 ≤ i) : upd (ia g) i.toNat (iI v) = ia (upZ g i v) := by
  funext j
  unfold upd ia upZ
  by_cases q : j = i.toNat
  · rw [if_pos q, if_pos (by omega)]
  · rw [if_neg q, if_neg (by omega)]
theorem bv_or (w : Nat) (q b : Int) (n : Nat) (hb : 0 ≤ b ∧ b < 2 ^ n) : BitVec.ofInt w (q * 2 ^ n) ||| BitVec.ofInt w b = BitVec.ofInt w (q * 2 ^ n + b) := by
  have e : b = ((b.toNat : Nat) : Int) := (Int.toNat_of_nonneg hb.1).symm
  have hlt : b.toNat < 2 ^ n := by
    have h2 : ((b.toNat : Nat) : Int) < ((2 ^ n : Nat) : Int) := by rw [← e]; simpa using hb.2
    exact Int.ofNat_lt.mp h2
  rw [BitVec.ofInt_add]
  have z : BitVec.ofInt w (q * 2 ^ n) &&& BitVec.ofInt w b = 0#w := by
    rw [← bv_shl, e, BitVec.ofInt_natCast]
    apply BitVec.eq_of_getLsbD_eq
    intro i hi
    rw [BitVec.getLsbD_and, BitVec.getLsbD_shiftLeft, BitVec.getLsbD_ofNat, BitVec.getLsbD_zero]
    by_cases h : i < n
    · simp [h]
    · have : b.toNat.testBit i = false := Nat.testBit_lt_two_pow (Nat.lt_of_lt_of_le hlt (Nat.pow_le_pow_right (by decide) (by omega)))
      simp [this]
  exact (BitVec.add_eq_or_of_and_eq_zero _ _ z).symm
theorem lI_or (q b : Int) (n : Nat) (hb : 0 ≤ b ∧ b < 2 ^ n) : lI (q * 2 ^ n) ||| lI b = lI (q * 2 ^ n + b) := by
  apply Int64.toBitVec_inj.mp
  exact bv_or 64 q b n hb
theorem iI_or (q b : Int) (n : Nat) (hb : 0 ≤ b ∧ b < 2 ^ n) : iI (q * 2 ^ n) ||| iI b = iI (q * 2 ^ n + b) := by
  apply Int32.toBitVec_inj.mp
  exact bv_or 32 q b n hb
theorem bI_inj {x y : Bool} (h : bI x = bI y) : x = y := by
  cases x <;> cases y <;> first | rfl | (exfalso; revert h; decide)
theorem iI_nat (n : Nat) : Int32.ofNat n = iI (n : Int) := Int32.ofInt_eq_ofNat.symm
theorem iI_narc {x : Int} (h : 0 ≤ x ∧ x < 65536) : narrow .char (.int (iI x)) = .int (iI x) := by
  have := (pk_charN (q := x.toNat) (by omega)).1
  rwa [show nI x.toNat = iI x by rw [← Int.toNat_of_nonneg h.1]; exact iI_nat _] at this
theorem lI_or2 (q b : Int) (n : Nat) (hb : 0 ≤ b ∧ b < 2 ^ n) : lI b ||| lI (q * 2 ^ n) = lI (b + q * 2 ^ n) := by
  rw [Int.add_comm, ← lI_or q b n hb]
  apply Int64.toBitVec_inj.mp
  exact BitVec.or_comm _ _
/-! ROWS: an instruction over integers of Lean -/
section WiRows
variable {p : Program} {l : Launch} {e : Env} {R : Room} {s : State} {m : MethodId} {args : Array Value} {below : List Frame} {meth : Method} {c : Code} {H : Heap} {locs : List Loc} {cells slots : Nat} {Q : State → Prop} {cc : ByteArray} {pc : Nat} {ls : Array Slot} {rest : List Value}
theorem wi_iadd (hx : p.tables.exec = Jvm.exec) (hb : c.code = cc) {x y : Int} (hd : decode cc pc = .ok (.iadd, 1))  (k : W p l e R s m args below meth c H locs cells slots Q (F0 m (pc + 1) ls (.int (iI (x + y)) :: rest))) : W p l e R s m args below meth c H locs cells slots Q (F0 m pc ls (.int (iI y) :: .int (iI x) :: rest)) := by
  refine lv_iadd hx hb hd ?_
  rw [iI_add]; exact k
theorem wi_isub (hx : p.tables.exec = Jvm.exec) (hb : c.code = cc) {x y : Int} (hd : decode cc pc = .ok (.isub, 1))  (k : W p l e R s m args below meth c H locs cells slots Q (F0 m (pc + 1) ls (.int (iI (x - y)) :: rest))) : W p l e R s m args below meth c H locs cells slots Q (F0 m pc ls (.int (iI y) :: .int (iI x) :: rest)) := by
  refine lv_isub hx hb hd ?_
  rw [iI_sub]; exact k
theorem wi_imul (hx : p.tables.exec = Jvm.exec) (hb : c.code = cc) {x y : Int} (hd : decode cc pc = .ok (.imul, 1))  (k : W p l e R s m args below meth c H locs cells slots Q (F0 m (pc + 1) ls (.int (iI (x * y)) :: rest))) : W p l e R s m args below meth c H locs cells slots Q (F0 m pc ls (.int (iI y) :: .int (iI x) :: rest)) := by
  refine lv_imul hx hb hd ?_
  rw [iI_mul]; exact k
theorem wi_idiv (hx : p.tables.exec = Jvm.exec) (hb : c.code = cc) {x y : Int} (hd : decode cc pc = .ok (.idiv, 1)) (hx1 : 0 ≤ x ∧ x < 2147483648) (hy1 : 0 < y ∧ y < 2147483648) (k : W p l e R s m args below meth c H locs cells slots Q (F0 m (pc + 1) ls (.int (iI (x / y)) :: rest))) : W p l e R s m args below meth c H locs cells slots Q (F0 m pc ls (.int (iI y) :: .int (iI x) :: rest)) := by
  refine lv_idiv hx hb hd (iI_ne0 (by omega) (by omega)) ?_
  rw [iI_div hx1 hy1]; exact k
theorem wi_irem (hx : p.tables.exec = Jvm.exec) (hb : c.code = cc) {x y : Int} (hd : decode cc pc = .ok (.irem, 1)) (hx1 : 0 ≤ x ∧ x < 2147483648) (hy1 : 0 < y ∧ y < 2147483648) (k : W p l e R s m args below meth c H locs cells slots Q (F0 m (pc + 1) ls (.int (iI (x % y)) :: rest))) : W p l e R s m args below meth c H locs cells slots Q (F0 m pc ls (.int (iI y) :: .int (iI x) :: rest)) := by
  refine lv_irem hx hb hd (iI_ne0 (by omega) (by omega)) ?_
  rw [iI_rem hx1 hy1]; exact k
theorem wi_ineg (hx : p.tables.exec = Jvm.exec) (hb : c.code = cc) {x : Int} (hd : decode cc pc = .ok (.ineg, 1)) (k : W p l e R s m args below meth c H locs cells slots Q (F0 m (pc + 1) ls (.int (iI (-x)) :: rest))) : W p l e R s m args below meth c H locs cells slots Q (F0 m pc ls (.int (iI x) :: rest)) := by
  refine lv_ineg hx hb hd ?_
  rw [iI_neg]; exact k
theorem wi_imask (hx : p.tables.exec = Jvm.exec) (hb : c.code = cc) {x y : Int} (n : Nat) (M : Int) (hM : (2 : Int) ^ n = M) (hn : n < 32) (hy : y = M - 1) (hd : decode cc pc = .ok (.iand, 1)) (k : W p l e R s m args below meth c H locs cells slots Q (F0 m (pc + 1) ls (.int (iI (x % M)) :: rest))) : W p l e R s m args below meth c H locs cells slots Q (F0 m pc ls (.int (iI y) :: .int (iI x) :: rest)) := by
  refine lv_iand hx hb hd ?_
  subst hM
  rw [hy, iI_mask x n hn]; exact k
theorem wi_ladd (hx : p.tables.exec = Jvm.exec) (hb : c.code = cc) {x y : Int} (hd : decode cc pc = .ok (.ladd, 1))  (k : W p l e R s m args below meth c H locs cells slots Q (F0 m (pc + 1) ls (.long (lI (x + y)) :: rest))) : W p l e R s m args below meth c H locs cells slots Q (F0 m pc ls (.long (lI y) :: .long (lI x) :: rest)) := by
  refine lv_ladd hx hb hd ?_
  rw [lI_add]; exact k
theorem wi_lsub (hx : p.tables.exec = Jvm.exec) (hb : c.code = cc) {x y : Int} (hd : decode cc pc = .ok (.lsub, 1))  (k : W p l e R s m args below meth c H locs cells slots Q (F0 m (pc + 1) ls (.long (lI (x - y)) :: rest))) : W p l e R s m args below meth c H locs cells slots Q (F0 m pc ls (.long (lI y) :: .long (lI x) :: rest)) := by
  refine lv_lsub hx hb hd ?_
  rw [lI_sub]; exact k
theorem wi_lmul (hx : p.tables.exec = Jvm.exec) (hb : c.code = cc) {x y : Int} (hd : decode cc pc = .ok (.lmul, 1))  (k : W p l e R s m args below meth c H locs cells slots Q (F0 m (pc + 1) ls (.long (lI (x * y)) :: rest))) : W p l e R s m args below meth c H locs cells slots Q (F0 m pc ls (.long (lI y) :: .long (lI x) :: rest)) := by
  refine lv_lmul hx hb hd ?_
  rw [lI_mul]; exact k
theorem wi_ldiv (hx : p.tables.exec = Jvm.exec) (hb : c.code = cc) {x y : Int} (hd : decode cc pc = .ok (.ldiv, 1)) (hx1 : 0 ≤ x ∧ x < 9223372036854775808) (hy1 : 0 < y ∧ y < 9223372036854775808) (k : W p l e R s m args below meth c H locs cells slots Q (F0 m (pc + 1) ls (.long (lI (x / y)) :: rest))) : W p l e R s m args below meth c H locs cells slots Q (F0 m pc ls (.long (lI y) :: .long (lI x) :: rest)) := by
  refine lv_ldiv hx hb hd (lI_ne0 (by omega) (by omega)) ?_
  rw [lI_div hx1 hy1]; exact k
theorem wi_lrem (hx : p.tables.exec = Jvm.exec) (hb : c.code = cc) {x y : Int} (hd : decode cc pc = .ok (.lrem, 1)) (hx1 : 0 ≤ x ∧ x < 9223372036854775808) (hy1 : 0 < y ∧ y < 9223372036854775808) (k : W p l e R s m args below meth c H locs cells slots Q (F0 m (pc + 1) ls (.long (lI (x % y)) :: rest))) : W p l e R s m args below meth c H locs cells slots Q (F0 m pc ls (.long (lI y) :: .long (lI x) :: rest)) := by
  refine lv_lrem hx hb hd (lI_ne0 (by omega) (by omega)) ?_
  rw [lI_rem hx1 hy1]; exact k
theorem wi_lneg (hx : p.tables.exec = Jvm.exec) (hb : c.code = cc) {x : Int} (hd : decode cc pc = .ok (.lneg, 1)) (k : W p l e R s m args below meth c H locs cells slots Q (F0 m (pc + 1) ls (.long (lI (-x)) :: rest))) : W p l e R s m args below meth c H locs cells slots Q (F0 m pc ls (.long (lI x) :: rest)) := by
  refine lv_lneg hx hb hd ?_
  rw [lI_neg]; exact k
theorem wi_lmask (hx : p.tables.exec = Jvm.exec) (hb : c.code = cc) {x y : Int} (n : Nat) (M : Int) (hM : (2 : Int) ^ n = M) (hn : n < 64) (hy : y = M - 1) (hd : decode cc pc = .ok (.land, 1)) (k : W p l e R s m args below meth c H locs cells slots Q (F0 m (pc + 1) ls (.long (lI (x % M)) :: rest))) : W p l e R s m args below meth c H locs cells slots Q (F0 m pc ls (.long (lI y) :: .long (lI x) :: rest)) := by
  refine lv_land hx hb hd ?_
  subst hM
  rw [hy, lI_mask x n hn]; exact k
theorem wi_ior (hx : p.tables.exec = Jvm.exec) (hb : c.code = cc) {x y : Int} (n : Nat) (q : Int) (hq : x = q * 2 ^ n) (hy : 0 ≤ y ∧ y < 2 ^ n) (hd : decode cc pc = .ok (.ior, 1)) (k : W p l e R s m args below meth c H locs cells slots Q (F0 m (pc + 1) ls (.int (iI (x + y)) :: rest))) : W p l e R s m args below meth c H locs cells slots Q (F0 m pc ls (.int (iI y) :: .int (iI x) :: rest)) := by
  subst hq
  refine lv_ior hx hb hd ?_
  rw [iI_or q y n hy]; exact k
theorem wi_lor (hx : p.tables.exec = Jvm.exec) (hb : c.code = cc) {x y : Int} (n : Nat) (q : Int) (hq : x = q * 2 ^ n) (hy : 0 ≤ y ∧ y < 2 ^ n) (hd : decode cc pc = .ok (.lor, 1)) (k : W p l e R s m args below meth c H locs cells slots Q (F0 m (pc + 1) ls (.long (lI (x + y)) :: rest))) : W p l e R s m args below meth c H locs cells slots Q (F0 m pc ls (.long (lI y) :: .long (lI x) :: rest)) := by
  subst hq
  refine lv_lor hx hb hd ?_
  rw [lI_or q y n hy]; exact k
theorem wi_lor2 (hx : p.tables.exec = Jvm.exec) (hb : c.code = cc) {x y : Int} (n : Nat) (q : Int) (hq : y = q * 2 ^ n) (hy : 0 ≤ x ∧ x < 2 ^ n) (hd : decode cc pc = .ok (.lor, 1)) (k : W p l e R s m args below meth c H locs cells slots Q (F0 m (pc + 1) ls (.long (lI (x + y)) :: rest))) : W p l e R s m args below meth c H locs cells slots Q (F0 m pc ls (.long (lI y) :: .long (lI x) :: rest)) := by
  subst hq
  refine lv_lor hx hb hd ?_
  rw [lI_or2 q x n hy]; exact k
theorem wi_ishr (hx : p.tables.exec = Jvm.exec) (hb : c.code = cc) {x y : Int} (n : Nat) (M : Int) (hM : (2 : Int) ^ n = M) (hy : y = (n : Int)) (hn : n < 32) (hx1 : -2147483648 ≤ x ∧ x < 2147483648) (hd : decode cc pc = .ok (.ishr, 1)) (k : W p l e R s m args below meth c H locs cells slots Q (F0 m (pc + 1) ls (.int (iI (x / M)) :: rest))) : W p l e R s m args below meth c H locs cells slots Q (F0 m pc ls (.int (iI y) :: .int (iI x) :: rest)) := by
  subst hy; subst hM
  refine lv_ishr hx hb hd ?_
  rw [iI_shr n hx1 hn]; exact k
theorem wi_ishl (hx : p.tables.exec = Jvm.exec) (hb : c.code = cc) {x y : Int} (n : Nat) (M : Int) (hM : (2 : Int) ^ n = M) (hy : y = (n : Int)) (hn : n < 32) (hd : decode cc pc = .ok (.ishl, 1)) (k : W p l e R s m args below meth c H locs cells slots Q (F0 m (pc + 1) ls (.int (iI (x * M)) :: rest))) : W p l e R s m args below meth c H locs cells slots Q (F0 m pc ls (.int (iI y) :: .int (iI x) :: rest)) := by
  subst hy; subst hM
  refine lv_ishl hx hb hd ?_
  rw [iI_shl x n hn]; exact k
theorem wi_lshr (hx : p.tables.exec = Jvm.exec) (hb : c.code = cc) {x y : Int} (n : Nat) (M : Int) (hM : (2 : Int) ^ n = M) (hy : y = (n : Int)) (hn : n < 64) (hx1 : -9223372036854775808 ≤ x ∧ x < 9223372036854775808) (hd : decode cc pc = .ok (.lshr, 1)) (k : W p l e R s m args below meth c H locs cells slots Q (F0 m (pc + 1) ls (.long (lI (x / M)) :: rest))) : W p l e R s m args below meth c H locs cells slots Q (F0 m pc ls (.int (iI y) :: .long (lI x) :: rest)) := by
  subst hy; subst hM
  exact lv_lshr hx hb hd (lI_shr n hx1 hn) k
theorem wi_lshl (hx : p.tables.exec = Jvm.exec) (hb : c.code = cc) {x y : Int} (n : Nat) (M : Int) (hM : (2 : Int) ^ n = M) (hy : y = (n : Int)) (hn : n < 64) (hd : decode cc pc = .ok (.lshl, 1)) (k : W p l e R s m args below meth c H locs cells slots Q (F0 m (pc + 1) ls (.long (lI (x * M)) :: rest))) : W p l e R s m args below meth c H locs cells slots Q (F0 m pc ls (.int (iI y) :: .long (lI x) :: rest)) := by
  subst hy; subst hM
  exact lv_lshl hx hb hd (lI_shl x n hn) k
theorem wi_i2l (hx : p.tables.exec = Jvm.exec) (hb : c.code = cc) {x : Int} (hx1 : -2147483648 ≤ x ∧ x < 2147483648) (hd : decode cc pc = .ok (.i2l, 1)) (k : W p l e R s m args below meth c H locs cells slots Q (F0 m (pc + 1) ls (.long (lI x) :: rest))) : W p l e R s m args below meth c H locs cells slots Q (F0 m pc ls (.int (iI x) :: rest)) := lv_i2l hx hb hd (iI_toL hx1) k
theorem wi_l2i (hx : p.tables.exec = Jvm.exec) (hb : c.code = cc) {x : Int} (hd : decode cc pc = .ok (.l2i, 1)) (k : W p l e R s m args below meth c H locs cells slots Q (F0 m (pc + 1) ls (.int (iI x) :: rest))) : W p l e R s m args below meth c H locs cells slots Q (F0 m pc ls (.long (lI x) :: rest)) := lv_l2i hx hb hd (lI_toI x) k
theorem wi_i2c (hx : p.tables.exec = Jvm.exec) (hb : c.code = cc) {x : Int} (hx1 : 0 ≤ x ∧ x < 65536) (hd : decode cc pc = .ok (.i2c, 1)) (k : W p l e R s m args below meth c H locs cells slots Q (F0 m (pc + 1) ls (.int (iI x) :: rest))) : W p l e R s m args below meth c H locs cells slots Q (F0 m pc ls (.int (iI x) :: rest)) := lv_i2c hx hb hd (iI_char hx1) k
theorem wi_lcmp (hx : p.tables.exec = Jvm.exec) (hb : c.code = cc) {x y : Int} (hx1 : -9223372036854775808 ≤ x ∧ x < 9223372036854775808) (hy1 : -9223372036854775808 ≤ y ∧ y < 9223372036854775808) (hd : decode cc pc = .ok (.lcmp, 1)) (k : W p l e R s m args below meth c H locs cells slots Q (F0 m (pc + 1) ls (.int (iI (cmpZ x y)) :: rest))) : W p l e R s m args below meth c H locs cells slots Q (F0 m pc ls (.long (lI y) :: .long (lI x) :: rest)) := by
  refine W.lcmp hx hb hd ?_
  rw [lI_cmp hx1 hy1]; exact k
theorem wi_icmp_eq (hx : p.tables.exec = Jvm.exec) (hb : c.code = cc) {x y : Int} {off : Int} {tgt : Nat} (hd : decode cc pc = .ok (.if_icmp .eq off, 3)) (ht : (pc : Int) + off = (tgt : Int)) (hx1 : -2147483648 ≤ x ∧ x < 2147483648) (hy1 : -2147483648 ≤ y ∧ y < 2147483648) (kt : x = y → W p l e R s m args below meth c H locs cells slots Q (F0 m tgt ls rest)) (kf : x ≠ y → W p l e R s m args below meth c H locs cells slots Q (F0 m (pc + 3) ls rest)) : W p l e R s m args below meth c H locs cells slots Q (F0 m pc ls (.int (iI y) :: .int (iI x) :: rest)) := by
  exact lv_icmp_eq hx hb hd ht (fun h => kt ((iI_inj hx1 hy1).mp h)) (fun h => kf (fun z => h ((iI_inj hx1 hy1).mpr z)))
theorem wi_if_eq (hx : p.tables.exec = Jvm.exec) (hb : c.code = cc) {x : Int} {off : Int} {tgt : Nat} (hd : decode cc pc = .ok (.ifCond .eq off, 3)) (ht : (pc : Int) + off = (tgt : Int)) (hx1 : -2147483648 ≤ x ∧ x < 2147483648) (kt : x = 0 → W p l e R s m args below meth c H locs cells slots Q (F0 m tgt ls rest)) (kf : x ≠ 0 → W p l e R s m args below meth c H locs cells slots Q (F0 m (pc + 3) ls rest)) : W p l e R s m args below meth c H locs cells slots Q (F0 m pc ls (.int (iI x) :: rest)) := by
  have hy1 : -2147483648 ≤ (0 : Int) ∧ (0 : Int) < 2147483648 := by decide
  exact lv_if_eq hx hb hd ht (fun h => kt ((iI_inj hx1 hy1).mp h)) (fun h => kf (fun z => h ((iI_inj hx1 hy1).mpr z)))
theorem wi_icmp_ne (hx : p.tables.exec = Jvm.exec) (hb : c.code = cc) {x y : Int} {off : Int} {tgt : Nat} (hd : decode cc pc = .ok (.if_icmp .ne off, 3)) (ht : (pc : Int) + off = (tgt : Int)) (hx1 : -2147483648 ≤ x ∧ x < 2147483648) (hy1 : -2147483648 ≤ y ∧ y < 2147483648) (kt : x ≠ y → W p l e R s m args below meth c H locs cells slots Q (F0 m tgt ls rest)) (kf : x = y → W p l e R s m args below meth c H locs cells slots Q (F0 m (pc + 3) ls rest)) : W p l e R s m args below meth c H locs cells slots Q (F0 m pc ls (.int (iI y) :: .int (iI x) :: rest)) := by
  exact lv_icmp_ne hx hb hd ht (fun h => kt (fun z => h ((iI_inj hx1 hy1).mpr z))) (fun h => kf ((iI_inj hx1 hy1).mp h))
theorem wi_if_ne (hx : p.tables.exec = Jvm.exec) (hb : c.code = cc) {x : Int} {off : Int} {tgt : Nat} (hd : decode cc pc = .ok (.ifCond .ne off, 3)) (ht : (pc : Int) + off = (tgt : Int)) (hx1 : -2147483648 ≤ x ∧ x < 2147483648) (kt : x ≠ 0 → W p l e R s m args below meth c H locs cells slots Q (F0 m tgt ls rest)) (kf : x = 0 → W p l e R s m args below meth c H locs cells slots Q (F0 m (pc + 3) ls rest)) : W p l e R s m args below meth c H locs cells slots Q (F0 m pc ls (.int (iI x) :: rest)) := by
  have hy1 : -2147483648 ≤ (0 : Int) ∧ (0 : Int) < 2147483648 := by decide
  exact lv_if_ne hx hb hd ht (fun h => kt (fun z => h ((iI_inj hx1 hy1).mpr z))) (fun h => kf ((iI_inj hx1 hy1).mp h))
theorem wi_icmp_lt (hx : p.tables.exec = Jvm.exec) (hb : c.code = cc) {x y : Int} {off : Int} {tgt : Nat} (hd : decode cc pc = .ok (.if_icmp .lt off, 3)) (ht : (pc : Int) + off = (tgt : Int)) (hx1 : -2147483648 ≤ x ∧ x < 2147483648) (hy1 : -2147483648 ≤ y ∧ y < 2147483648) (kt : x < y → W p l e R s m args below meth c H locs cells slots Q (F0 m tgt ls rest)) (kf : y ≤ x → W p l e R s m args below meth c H locs cells slots Q (F0 m (pc + 3) ls rest)) : W p l e R s m args below meth c H locs cells slots Q (F0 m pc ls (.int (iI y) :: .int (iI x) :: rest)) := by
  exact lv_icmp_lt hx hb hd ht (fun h => kt ((iI_lt hx1 hy1).mp h)) (fun h => kf (by have q := mt (iI_lt hx1 hy1).mpr h; omega))
theorem wi_if_lt (hx : p.tables.exec = Jvm.exec) (hb : c.code = cc) {x : Int} {off : Int} {tgt : Nat} (hd : decode cc pc = .ok (.ifCond .lt off, 3)) (ht : (pc : Int) + off = (tgt : Int)) (hx1 : -2147483648 ≤ x ∧ x < 2147483648) (kt : x < 0 → W p l e R s m args below meth c H locs cells slots Q (F0 m tgt ls rest)) (kf : 0 ≤ x → W p l e R s m args below meth c H locs cells slots Q (F0 m (pc + 3) ls rest)) : W p l e R s m args below meth c H locs cells slots Q (F0 m pc ls (.int (iI x) :: rest)) := by
  have hy1 : -2147483648 ≤ (0 : Int) ∧ (0 : Int) < 2147483648 := by decide
  exact lv_if_lt hx hb hd ht (fun h => kt ((iI_lt hx1 hy1).mp h)) (fun h => kf (by have q := mt (iI_lt hx1 hy1).mpr h; omega))
theorem wi_icmp_ge (hx : p.tables.exec = Jvm.exec) (hb : c.code = cc) {x y : Int} {off : Int} {tgt : Nat} (hd : decode cc pc = .ok (.if_icmp .ge off, 3)) (ht : (pc : Int) + off = (tgt : Int)) (hx1 : -2147483648 ≤ x ∧ x < 2147483648) (hy1 : -2147483648 ≤ y ∧ y < 2147483648) (kt : y ≤ x → W p l e R s m args below meth c H locs cells slots Q (F0 m tgt ls rest)) (kf : x < y → W p l e R s m args below meth c H locs cells slots Q (F0 m (pc + 3) ls rest)) : W p l e R s m args below meth c H locs cells slots Q (F0 m pc ls (.int (iI y) :: .int (iI x) :: rest)) := by
  exact lv_icmp_ge hx hb hd ht (fun h => kt ((iI_le hy1 hx1).mp h)) (fun h => kf (by have q := mt (iI_le hy1 hx1).mpr h; omega))
theorem wi_if_ge (hx : p.tables.exec = Jvm.exec) (hb : c.code = cc) {x : Int} {off : Int} {tgt : Nat} (hd : decode cc pc = .ok (.ifCond .ge off, 3)) (ht : (pc : Int) + off = (tgt : Int)) (hx1 : -2147483648 ≤ x ∧ x < 2147483648) (kt : 0 ≤ x → W p l e R s m args below meth c H locs cells slots Q (F0 m tgt ls rest)) (kf : x < 0 → W p l e R s m args below meth c H locs cells slots Q (F0 m (pc + 3) ls rest)) : W p l e R s m args below meth c H locs cells slots Q (F0 m pc ls (.int (iI x) :: rest)) := by
  have hy1 : -2147483648 ≤ (0 : Int) ∧ (0 : Int) < 2147483648 := by decide
  exact lv_if_ge hx hb hd ht (fun h => kt ((iI_le hy1 hx1).mp h)) (fun h => kf (by have q := mt (iI_le hy1 hx1).mpr h; omega))
theorem wi_icmp_gt (hx : p.tables.exec = Jvm.exec) (hb : c.code = cc) {x y : Int} {off : Int} {tgt : Nat} (hd : decode cc pc = .ok (.if_icmp .gt off, 3)) (ht : (pc : Int) + off = (tgt : Int)) (hx1 : -2147483648 ≤ x ∧ x < 2147483648) (hy1 : -2147483648 ≤ y ∧ y < 2147483648) (kt : y < x → W p l e R s m args below meth c H locs cells slots Q (F0 m tgt ls rest)) (kf : x ≤ y → W p l e R s m args below meth c H locs cells slots Q (F0 m (pc + 3) ls rest)) : W p l e R s m args below meth c H locs cells slots Q (F0 m pc ls (.int (iI y) :: .int (iI x) :: rest)) := by
  exact lv_icmp_gt hx hb hd ht (fun h => kt ((iI_lt hy1 hx1).mp h)) (fun h => kf (by have q := mt (iI_lt hy1 hx1).mpr h; omega))
theorem wi_if_gt (hx : p.tables.exec = Jvm.exec) (hb : c.code = cc) {x : Int} {off : Int} {tgt : Nat} (hd : decode cc pc = .ok (.ifCond .gt off, 3)) (ht : (pc : Int) + off = (tgt : Int)) (hx1 : -2147483648 ≤ x ∧ x < 2147483648) (kt : 0 < x → W p l e R s m args below meth c H locs cells slots Q (F0 m tgt ls rest)) (kf : x ≤ 0 → W p l e R s m args below meth c H locs cells slots Q (F0 m (pc + 3) ls rest)) : W p l e R s m args below meth c H locs cells slots Q (F0 m pc ls (.int (iI x) :: rest)) := by
  have hy1 : -2147483648 ≤ (0 : Int) ∧ (0 : Int) < 2147483648 := by decide
  exact lv_if_gt hx hb hd ht (fun h => kt ((iI_lt hy1 hx1).mp h)) (fun h => kf (by have q := mt (iI_lt hy1 hx1).mpr h; omega))
theorem wi_icmp_le (hx : p.tables.exec = Jvm.exec) (hb : c.code = cc) {x y : Int} {off : Int} {tgt : Nat} (hd : decode cc pc = .ok (.if_icmp .le off, 3)) (ht : (pc : Int) + off = (tgt : Int)) (hx1 : -2147483648 ≤ x ∧ x < 2147483648) (hy1 : -2147483648 ≤ y ∧ y < 2147483648) (kt : x ≤ y → W p l e R s m args below meth c H locs cells slots Q (F0 m tgt ls rest)) (kf : y < x → W p l e R s m args below meth c H locs cells slots Q (F0 m (pc + 3) ls rest)) : W p l e R s m args below meth c H locs cells slots Q (F0 m pc ls (.int (iI y) :: .int (iI x) :: rest)) := by
  exact lv_icmp_le hx hb hd ht (fun h => kt ((iI_le hx1 hy1).mp h)) (fun h => kf (by have q := mt (iI_le hx1 hy1).mpr h; omega))
theorem wi_if_le (hx : p.tables.exec = Jvm.exec) (hb : c.code = cc) {x : Int} {off : Int} {tgt : Nat} (hd : decode cc pc = .ok (.ifCond .le off, 3)) (ht : (pc : Int) + off = (tgt : Int)) (hx1 : -2147483648 ≤ x ∧ x < 2147483648) (kt : x ≤ 0 → W p l e R s m args below meth c H locs cells slots Q (F0 m tgt ls rest)) (kf : 0 < x → W p l e R s m args below meth c H locs cells slots Q (F0 m (pc + 3) ls rest)) : W p l e R s m args below meth c H locs cells slots Q (F0 m pc ls (.int (iI x) :: rest)) := by
  have hy1 : -2147483648 ≤ (0 : Int) ∧ (0 : Int) < 2147483648 := by decide
  exact lv_if_le hx hb hd ht (fun h => kt ((iI_le hx1 hy1).mp h)) (fun h => kf (by have q := mt (iI_le hx1 hy1).mpr h; omega))
theorem wb_if_eq (hx : p.tables.exec = Jvm.exec) (hb : c.code = cc) {x : Bool} {off : Int} {tgt : Nat} (hd : decode cc pc = .ok (.ifCond .eq off, 3)) (ht : (pc : Int) + off = (tgt : Int)) (kt : x = false → W p l e R s m args below meth c H locs cells slots Q (F0 m tgt ls rest)) (kf : x = true → W p l e R s m args below meth c H locs cells slots Q (F0 m (pc + 3) ls rest)) : W p l e R s m args below meth c H locs cells slots Q (F0 m pc ls (.int (bI x) :: rest)) := by
  cases x
  · exact lv_if_eq hx hb hd ht (fun _ => kt rfl) (fun h => absurd rfl h)
  · exact lv_if_eq hx hb hd ht (fun h => absurd h (by decide)) (fun _ => kf rfl)
theorem wb_if_ne (hx : p.tables.exec = Jvm.exec) (hb : c.code = cc) {x : Bool} {off : Int} {tgt : Nat} (hd : decode cc pc = .ok (.ifCond .ne off, 3)) (ht : (pc : Int) + off = (tgt : Int)) (kt : x = true → W p l e R s m args below meth c H locs cells slots Q (F0 m tgt ls rest)) (kf : x = false → W p l e R s m args below meth c H locs cells slots Q (F0 m (pc + 3) ls rest)) : W p l e R s m args below meth c H locs cells slots Q (F0 m pc ls (.int (bI x) :: rest)) := by
  cases x
  · exact lv_if_ne hx hb hd ht (fun h => absurd rfl h) (fun _ => kf rfl)
  · exact lv_if_ne hx hb hd ht (fun _ => kt rfl) (fun h => absurd h (by decide))
theorem wb_icmp_eq (hx : p.tables.exec = Jvm.exec) (hb : c.code = cc) {x y : Bool} {off : Int} {tgt : Nat} (hd : decode cc pc = .ok (.if_icmp .eq off, 3)) (ht : (pc : Int) + off = (tgt : Int)) (kt : x = y → W p l e R s m args below meth c H locs cells slots Q (F0 m tgt ls rest)) (kf : x ≠ y → W p l e R s m args below meth c H locs cells slots Q (F0 m (pc + 3) ls rest)) : W p l e R s m args below meth c H locs cells slots Q (F0 m pc ls (.int (bI y) :: .int (bI x) :: rest)) := by
  exact lv_icmp_eq hx hb hd ht (fun h => kt (bI_inj h)) (fun h => kf (fun z => h (by rw [z])))
theorem wb_icmp_ne (hx : p.tables.exec = Jvm.exec) (hb : c.code = cc) {x y : Bool} {off : Int} {tgt : Nat} (hd : decode cc pc = .ok (.if_icmp .ne off, 3)) (ht : (pc : Int) + off = (tgt : Int)) (kt : x ≠ y → W p l e R s m args below meth c H locs cells slots Q (F0 m tgt ls rest)) (kf : x = y → W p l e R s m args below meth c H locs cells slots Q (F0 m (pc + 3) ls rest)) : W p l e R s m args below meth c H locs cells slots Q (F0 m pc ls (.int (bI y) :: .int (bI x) :: rest)) := by
  exact lv_icmp_ne hx hb hd ht (fun h => kt (fun z => h (by rw [z]))) (fun h => kf (bI_inj h))
theorem wi_iconst (hx : p.tables.exec = Jvm.exec) (hb : c.code = cc) {n : Int} (hd : decode cc pc = .ok (.iconst n, 1)) (k : W p l e R s m args below meth c H locs cells slots Q (F0 m (pc + 1) ls (.int (iI n) :: rest))) : W p l e R s m args below meth c H locs cells slots Q (F0 m pc ls rest) := lv_iconst hx hb hd rfl k
theorem wi_bipush (hx : p.tables.exec = Jvm.exec) (hb : c.code = cc) {n : Int} (hd : decode cc pc = .ok (.bipush n, 2)) (hn : -128 ≤ n ∧ n < 128) (k : W p l e R s m args below meth c H locs cells slots Q (F0 m (pc + 2) ls (.int (iI n) :: rest))) : W p l e R s m args below meth c H locs cells slots Q (F0 m pc ls rest) := lv_bipush hx hb hd (iI_8 hn) k
theorem wi_sipush (hx : p.tables.exec = Jvm.exec) (hb : c.code = cc) {n : Int} (hd : decode cc pc = .ok (.sipush n, 3)) (hn : -32768 ≤ n ∧ n < 32768) (k : W p l e R s m args below meth c H locs cells slots Q (F0 m (pc + 3) ls (.int (iI n) :: rest))) : W p l e R s m args below meth c H locs cells slots Q (F0 m pc ls rest) := lv_sipush hx hb hd (iI_16 hn) k
theorem wi_lconst (hx : p.tables.exec = Jvm.exec) (hb : c.code = cc) {n : Fin 2} {z : Int} (hd : decode cc pc = .ok (.lconst n, 1)) (hz : Int64.ofNat (n : Nat) = lI z) (k : W p l e R s m args below meth c H locs cells slots Q (F0 m (pc + 1) ls (.long (lI z) :: rest))) : W p l e R s m args below meth c H locs cells slots Q (F0 m pc ls rest) := lv_lconst hx hb hd hz k
theorem wi_ldc (hx : p.tables.exec = Jvm.exec) (hb : c.code = cc) {own : String} {index : Nat} {v : Int32} (z : Int) (ho : s.vm.findClass own = some m.cls) (hc : (Jvm.Cond.constant own index v).before args s = true) (hv : v = iI z) (hd : decode cc pc = .ok (.ldc index, 2)) (k : W p l e R s m args below meth c H locs cells slots Q (F0 m (pc + 2) ls (.int (iI z) :: rest))) : W p l e R s m args below meth c H locs cells slots Q (F0 m pc ls rest) := by
  subst hv
  exact lv_ldc hx hb ho hc hd k
theorem wi_ldc2 (hx : p.tables.exec = Jvm.exec) (hb : c.code = cc) {own : String} {index : Nat} {v : Int64} (z : Int) (ho : s.vm.findClass own = some m.cls) (hc : (Jvm.Cond.constantLong own index v).before args s = true) (hv : v = lI z) (hd : decode cc pc = .ok (.ldc2_w index, 3)) (k : W p l e R s m args below meth c H locs cells slots Q (F0 m (pc + 3) ls (.long (lI z) :: rest))) : W p l e R s m args below meth c H locs cells slots Q (F0 m pc ls rest) := by
  subst hv
  exact lv_ldc2 hx hb ho hc hd k
theorem wi_iald (hx : p.tables.exec = Jvm.exec) (hb : c.code = cc) {D : va_G} {cl : List vw_C} {tys : List (ClassId × FieldType)} {ws : va_W} {a : Nat} (hK : va_K D cl tys s) (hP : va_P D cl ws H) (q0 t0 : Nat) {cA : ClassId} {n : Nat} {g : Int → Int} (ha : ws[q0]? = some (a, .inl (cA, n, .inl (ia g)))) (ht : tys[t0]? = some (cA, .int)) {i : Int} (hi : 0 ≤ i ∧ i < n) (hn : n < 2147483648) (hd : decode cc pc = .ok (.iaload, 1)) (k : W p l e R s m args below meth c H locs cells slots Q (F0 m (pc + 1) ls (.int (iI (g i)) :: rest))) : W p l e R s m args below meth c H locs cells slots Q (F0 m pc ls (.int (iI i) :: .ref a :: rest)) := by
  refine va_iald hx hb hK hP q0 t0 ha ht (iI_in hi hn) hd ?_
  rw [iI_clamp (by omega), ia_at hi.1]; exact k
theorem wi_iast (hx : p.tables.exec = Jvm.exec) (hb : c.code = cc) {D : va_G} {cl : List vw_C} {tys : List (ClassId × FieldType)} {ws : va_W} {a : Nat} {A : Nat → Prop} {H0 : Heap} (hK : va_K D cl tys s) (hP : va_P D cl ws H) (hD : va_D A ws) (hS : va_S A H0 H locs) (q0 t0 : Nat) {cA : ClassId} {n : Nat} {g : Int → Int} (ha : ws[q0]? = some (a, .inl (cA, n, .inl (ia g)))) (ht : tys[t0]? = some (cA, .int)) {i v : Int} (hi : 0 ≤ i ∧ i < n) (hn : n < 2147483648) (hd : decode cc pc = .ok (.iastore, 1)) (k : ∀ (H1 : Heap) (locs1 : List Loc), va_P D cl (ws.set q0 (a, .inl (cA, n, .inl (ia (upZ g i v))))) H1 → va_D A (ws.set q0 (a, .inl (cA, n, .inl (ia (upZ g i v))))) → va_S A H0 H1 locs1 → W p l e R s m args below meth c H1 locs1 cells slots Q (F0 m (pc + 1) ls rest)) : W p l e R s m args below meth c H locs cells slots Q (F0 m pc ls (.int (iI v) :: .int (iI i) :: .ref a :: rest)) := by
  refine va_iast hx hb hK hP hD hS q0 t0 ha ht (iI_in hi hn) hd ?_
  rw [iI_clamp (by omega), ia_up hi.1]; exact k
theorem wi_cald (hx : p.tables.exec = Jvm.exec) (hb : c.code = cc) {D : va_G} {cl : List vw_C} {tys : List (ClassId × FieldType)} {ws : va_W} {a : Nat} (hK : va_K D cl tys s) (hP : va_P D cl ws H) (q0 t0 : Nat) {cA : ClassId} {n : Nat} {g : Int → Int} (ha : ws[q0]? = some (a, .inl (cA, n, .inl (ia g)))) (ht : tys[t0]? = some (cA, .char)) {i : Int} (hi : 0 ≤ i ∧ i < n) (hn : n < 2147483648) (hd : decode cc pc = .ok (.caload, 1)) (k : W p l e R s m args below meth c H locs cells slots Q (F0 m (pc + 1) ls (.int (iI (g i)) :: rest))) : W p l e R s m args below meth c H locs cells slots Q (F0 m pc ls (.int (iI i) :: .ref a :: rest)) := by
  refine va_cald hx hb hK hP q0 t0 ha ht (iI_in hi hn) hd ?_
  rw [iI_clamp (by omega), ia_at hi.1]; exact k
theorem wi_cast (hx : p.tables.exec = Jvm.exec) (hb : c.code = cc) {D : va_G} {cl : List vw_C} {tys : List (ClassId × FieldType)} {ws : va_W} {a : Nat} {A : Nat → Prop} {H0 : Heap} (hK : va_K D cl tys s) (hP : va_P D cl ws H) (hD : va_D A ws) (hS : va_S A H0 H locs) (q0 t0 : Nat) {cA : ClassId} {n : Nat} {g : Int → Int} (ha : ws[q0]? = some (a, .inl (cA, n, .inl (ia g)))) (ht : tys[t0]? = some (cA, .char)) {i v : Int} (hi : 0 ≤ i ∧ i < n) (hn : n < 2147483648) (hv : 0 ≤ v ∧ v < 65536) (hd : decode cc pc = .ok (.castore, 1)) (k : ∀ (H1 : Heap) (locs1 : List Loc), va_P D cl (ws.set q0 (a, .inl (cA, n, .inl (ia (upZ g i v))))) H1 → va_D A (ws.set q0 (a, .inl (cA, n, .inl (ia (upZ g i v))))) → va_S A H0 H1 locs1 → W p l e R s m args below meth c H1 locs1 cells slots Q (F0 m (pc + 1) ls rest)) : W p l e R s m args below meth c H locs cells slots Q (F0 m pc ls (.int (iI v) :: .int (iI i) :: .ref a :: rest)) := by
  refine va_cast hx hb hK hP hD hS q0 t0 ha ht (iI_in hi hn) hd ?_
  rw [vp_c hv, iI_clamp (by omega), ia_up hi.1]; exact k
theorem wi_iinc (hx : p.tables.exec = Jvm.exec) (hb : c.code = cc) {i nL k : Nat} {n : Int} {x v : Int} {lv lv' : List (Nat × Value)} (hd : decode cc pc = .ok (.iinc i n, 3)) (h : lv_has ls nL lv) (hk : lv[k]? = some (i, .int (iI x))) (hv : x + n = v) (hn : i < nL) (hl : (i, Value.int (iI v)) :: lv.filter (fun q => !(q.1 == i) && !(q.1 + 1 == i && q.2.category == 2)) = lv') (kk : ∀ ls' : Array Slot, lv_has ls' nL lv' → W p l e R s m args below meth c H locs cells slots Q (F0 m (pc + 3) ls' rest)) : W p l e R s m args below meth c H locs cells slots Q (F0 m pc ls rest) := lv_iinc hx hb hd h hk (by rw [← hv, ← iI_add]; rfl) hn hl kk
theorem wi_mmax (hx : p.tables.exec = Jvm.exec) (hb : c.code = cc) {own : String} {index : Nat} (ho : s.vm.findClass own = some m.cls) (hml : c.maxLocals = ls.size) (hl : (Cond.methodLink own index Lib.Math.max.name).before args s = true) (hst : (Cond.static Lib.Math.max.name).before args s = true) (hini : (Cond.initialized "java/lang/Math").before args s = true) (hcode : (Cond.code Lib.Math.max.name Lib.Math.max.code 2 (some .int)).before args s = true) (hfr : 1 ≤ R.frames) (hlo : (rest.map fun v => v.category).sum + 13 ≤ R.locals) (hcs : cells ≤ R.cells ∧ slots ≤ R.slots) {x y : Int} (hx1 : -2147483648 ≤ x ∧ x < 2147483648) (hy1 : -2147483648 ≤ y ∧ y < 2147483648) (hd : decode cc pc = .ok (.invokestatic index, 3)) (k : W p l e R s m args below meth c H locs cells slots Q (F0 m (pc + 3) ls (.int (iI (max x y)) :: rest))) : W p l e R s m args below meth c H locs cells slots Q (F0 m pc ls (.int (iI y) :: .int (iI x) :: rest)) := by
  refine va_mmax hx hb hml ho hl hst hini hcode hfr hlo hcs.1 hcs.2 hd ?_
  rw [iI_max hx1 hy1]; exact k
theorem wi_mmin (hx : p.tables.exec = Jvm.exec) (hb : c.code = cc) {own : String} {index : Nat} (ho : s.vm.findClass own = some m.cls) (hml : c.maxLocals = ls.size) (hl : (Cond.methodLink own index Lib.Math.min.name).before args s = true) (hst : (Cond.static Lib.Math.min.name).before args s = true) (hini : (Cond.initialized "java/lang/Math").before args s = true) (hcode : (Cond.code Lib.Math.min.name Lib.Math.min.code 2 (some .int)).before args s = true) (hfr : 1 ≤ R.frames) (hlo : (rest.map fun v => v.category).sum + 13 ≤ R.locals) (hcs : cells ≤ R.cells ∧ slots ≤ R.slots) {x y : Int} (hx1 : -2147483648 ≤ x ∧ x < 2147483648) (hy1 : -2147483648 ≤ y ∧ y < 2147483648) (hd : decode cc pc = .ok (.invokestatic index, 3)) (k : W p l e R s m args below meth c H locs cells slots Q (F0 m (pc + 3) ls (.int (iI (min x y)) :: rest))) : W p l e R s m args below meth c H locs cells slots Q (F0 m pc ls (.int (iI y) :: .int (iI x) :: rest)) := by
  refine va_mmin hx hb hml ho hl hst hini hcode hfr hlo hcs.1 hcs.2 hd ?_
  rw [iI_min hx1 hy1]; exact k
theorem wi_mabs (hx : p.tables.exec = Jvm.exec) (hb : c.code = cc) {own : String} {index : Nat} (ho : s.vm.findClass own = some m.cls) (hml : c.maxLocals = ls.size) (hl : (Cond.methodLink own index Lib.Math.abs.name).before args s = true) (hst : (Cond.static Lib.Math.abs.name).before args s = true) (hini : (Cond.initialized "java/lang/Math").before args s = true) (hcode : (Cond.code Lib.Math.abs.name Lib.Math.abs.code 1 (some .int)).before args s = true) (hfr : 1 ≤ R.frames) (hlo : (rest.map fun v => v.category).sum + 13 ≤ R.locals) (hcs : cells ≤ R.cells ∧ slots ≤ R.slots) {x : Int} (hx1 : -2147483648 ≤ x ∧ x < 2147483648) (hd : decode cc pc = .ok (.invokestatic index, 3)) (k : W p l e R s m args below meth c H locs cells slots Q (F0 m (pc + 3) ls (.int (iI (if 0 ≤ x then x else -x)) :: rest))) : W p l e R s m args below meth c H locs cells slots Q (F0 m pc ls (.int (iI x) :: rest)) := by
  refine va_mabs hx hb hml ho hl hst hini hcode hfr hlo hcs.1 hcs.2 hd ?_
  rw [iI_abs hx1]; exact k
theorem w_eqi {x y : Int} (h : x = y) (k : W p l e R s m args below meth c H locs cells slots Q (F0 m pc ls (.int (iI y) :: rest))) : W p l e R s m args below meth c H locs cells slots Q (F0 m pc ls (.int (iI x) :: rest)) := by subst h; exact k
theorem w_eql {x y : Int} (h : x = y) (k : W p l e R s m args below meth c H locs cells slots Q (F0 m pc ls (.long (lI y) :: rest))) : W p l e R s m args below meth c H locs cells slots Q (F0 m pc ls (.long (lI x) :: rest)) := by subst h; exact k
theorem w_eqz {x y : Bool} (h : x = y) (k : W p l e R s m args below meth c H locs cells slots Q (F0 m pc ls (.int (bI y) :: rest))) : W p l e R s m args below meth c H locs cells slots Q (F0 m pc ls (.int (bI x) :: rest)) := by subst h; exact k
theorem w_as1 (k : W p l e R s m args below meth c H locs cells slots Q (F0 m pc ls (.int (bI true) :: rest))) : W p l e R s m args below meth c H locs cells slots Q (F0 m pc ls (.int (iI 1) :: rest)) := by rw [← bI_t]; exact k
theorem w_as0 (k : W p l e R s m args below meth c H locs cells slots Q (F0 m pc ls (.int (bI false) :: rest))) : W p l e R s m args below meth c H locs cells slots Q (F0 m pc ls (.int (iI 0) :: rest)) := by rw [← bI_f]; exact k
end WiRows
