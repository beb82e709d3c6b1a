/-! laying text behind a text -/
theorem Wr_sn0 (t : Int → Int) (L : List Int) (x : Int) : upZ (Wr t 0 L) (L.length : Int) x = Wr t 0 (L ++ [x]) := by
  have h := Wr_snoc t 0 x L
  rw [Int.zero_add] at h
  exact h
theorem Wr_ln (L : List Int) (x : Int) : (L.length : Int) + 1 = ((L ++ [x]).length : Int) := by simp
theorem Wr_tx (t : Int → Int) (L : List Int) (i : Nat) : apZ (Wr t 0 L) (L.length : Int) (strLen i : Int) (strCh i) = Wr t 0 (L ++ strByt.getD i []) := by
  have h := Wr_app t 0 L (strByt.getD i [])
  rw [Int.zero_add, ← Wr_str] at h
  exact h
theorem Wr_tl (L : List Int) (i : Nat) : (L.length : Int) + (strLen i : Int) = ((L ++ strByt.getD i []).length : Int) := by
  rw [List.length_append]; unfold strLen; omega
theorem Wr_pre (t : Int → Int) (X Y : List Int) : Wr (Wr t 0 (X ++ Y)) 0 X = Wr t 0 (X ++ Y) := by
  funext j
  by_cases h : 0 ≤ j ∧ j < 0 + (X.length : Int)
  · rw [Wr_at h, Wr_at (by rw [List.length_append]; omega), List.getD_eq_getElem?_getD, List.getD_eq_getElem?_getD, List.getElem?_append_left (by omega)]
  · show apZ _ _ _ _ j = _
    unfold apZ
    rw [if_neg h]
theorem Wr_e0 (t : Int → Int) : t = Wr t 0 ([] : List Int) := (Wr_nil t 0).symm
theorem Wr_l0 : (0 : Int) = (([] : List Int).length : Int) := rfl
theorem EXT_n {x : Int} (h : x < 0) (L : List Int) : L ++ EXT x = L ++ [45] ++ dF 4 1000 (absZ x) false := by unfold EXT sgnL; rw [if_pos h, List.append_assoc]
theorem EXT_p {x : Int} (h : 0 ≤ x) (L : List Int) : L ++ EXT x = L ++ dF 4 1000 (absZ x) false := by unfold EXT sgnL; rw [if_neg (by omega), List.nil_append]
theorem ap_c {M R : List Int} {x : Int} : M ++ x :: R = M ++ [x] ++ R := by rw [List.append_assoc]; rfl
theorem dv_r {y u : Int} (hy : 0 ≤ y) (hu : 0 < u) : 0 ≤ y / u ∧ y / u ≤ y := ⟨Int.ediv_nonneg hy (by omega), Int.ediv_le_self _ hy⟩
/-- the loop of the digits: left of d digits are to be laid -/
def DGI (L M : List Int) (num d lf u : Int) : Prop := (0 ≤ lf ∧ lf ≤ d) ∧ ((lf = 0 ∧ u = 0) ∨ (1 ≤ lf ∧ u = PT10 (lf - 1).toNat)) ∧ ((lf = d ∧ M = L) ∨ (lf < d ∧ L ++ DIG num d.toNat = M ++ gF lf.toNat u num)) ∧ (M.length : Int) + lf ≤ (L.length : Int) + d + 1
theorem DGI_0 {L : List Int} {num d : Int} (hd : 1 ≤ d) : DGI L L num d d (PT10 (Int.toNat (d - 1))) := ⟨by omega, Or.inr ⟨hd, rfl⟩, Or.inl ⟨rfl, rfl⟩, by omega⟩
theorem DGI_u {L M : List Int} {num d lf u : Int} (h : DGI L M num d lf u) (hd : d ≤ 18) (hu : 0 < u) : 1 ≤ lf ∧ u ≤ 1000000000000000000 ∧ ((lf - 1 = 0 ∧ u / 10 = 0) ∨ (1 ≤ lf - 1 ∧ u / 10 = PT10 (lf - 1 - 1).toNat)) := by
  obtain ⟨h1, h2, h3, h4⟩ := h
  rcases h2 with ⟨a, b⟩ | ⟨a, b⟩
  · omega
  · refine ⟨a, ?_, ?_⟩
    · have := PT10_mono (show (lf - 1).toNat ≤ 18 by omega)
      rw [PT10_18] at this; omega
    · by_cases z : lf = 1
      · left; refine ⟨by omega, ?_⟩
        rw [b, z, show (1 - 1 : Int).toNat = 0 from rfl]; decide
      · right; refine ⟨by omega, ?_⟩
        rw [b, show (lf - 1).toNat = (lf - 1 - 1).toNat + 1 by omega, PT10_d]
theorem DGI_s {L M : List Int} {num d lf u : Int} (h : DGI L M num d lf u) (hd : d ≤ 18) (hu : 0 < u) (hl : lf ≠ d) : DGI L (M ++ [48 + num / u % 10]) num d (lf - 1) (u / 10) := by
  have r := DGI_u h hd hu
  obtain ⟨h1, h2, h3, h4⟩ := h
  rcases h3 with h3 | h3
  · exact absurd h3.1 hl
  · refine ⟨by omega, r.2.2, Or.inr ⟨by omega, ?_⟩, by rw [List.length_append]; simp only [List.length_cons, List.length_nil]; omega⟩
    rw [h3.2, show lf.toNat = (lf - 1).toNat + 1 by omega, gF, ap_c]
theorem DGI_f1 {L M : List Int} {num d lf u : Int} (h : DGI L M num d lf u) (hd : d ≤ 18) (hu : 0 < u) (hl : lf = d) (h1 : d ≤ 1) : DGI L (M ++ [48 + num / u % 10]) num d (lf - 1) (u / 10) := by
  have r := DGI_u h hd hu
  obtain ⟨g1, h2, h3, h4⟩ := h
  refine ⟨by omega, r.2.2, Or.inr ⟨by omega, ?_⟩, by rw [List.length_append]; simp only [List.length_cons, List.length_nil]; omega⟩
  have d1 : d = 1 := by omega
  subst d1; subst hl
  rcases h3 with h3 | h3
  · rcases h2 with ⟨a, b⟩ | ⟨a, b⟩
    · omega
    · rw [h3.2, b]; unfold DIG; simp [gF]
  · omega
theorem DGI_f2 {L M : List Int} {num d lf u : Int} (h : DGI L M num d lf u) (hd : d ≤ 18) (hu : 0 < u) (hl : lf = d) (h1 : 1 < d) : DGI L (M ++ [48 + num / u % 10] ++ [46]) num d (lf - 1) (u / 10) := by
  have r := DGI_u h hd hu
  obtain ⟨g1, h2, h3, h4⟩ := h
  refine ⟨by omega, r.2.2, Or.inr ⟨by omega, ?_⟩, by rcases h3 with h3 | h3 <;> (try rw [h3.2]) <;> (try rw [List.length_append, List.length_append]) <;> (try simp only [List.length_cons, List.length_nil]) <;> omega⟩
  subst hl
  rcases h3 with h3 | h3
  · rcases h2 with ⟨a, b⟩ | ⟨a, b⟩
    · omega
    · rw [h3.2, b]; unfold DIG
      rw [if_pos (by omega), show lf.toNat - 1 = (lf - 1).toNat by omega, ap_c, List.append_assoc, List.append_assoc, List.append_assoc]
  · omega
theorem DGI_e {L M : List Int} {num d lf u : Int} (h : DGI L M num d lf u) (hd : 1 ≤ d) (hu : u ≤ 0) : M = L ++ DIG num d.toNat := by
  obtain ⟨g1, h2, h3, h4⟩ := h
  rcases h2 with ⟨a, b⟩ | ⟨a, b⟩
  · rcases h3 with h3 | h3
    · omega
    · rw [h3.2, a]; simp [gF]
  · have := PT10_pos (lf - 1).toNat; omega
theorem pow16 {s : Int} {k : Nat} (h : s = 4 * (k : Int)) : (2 : Int) ^ s.toNat = 16 ^ k := by
  rw [show s.toNat = 4 * k by omega, Int.pow_mul]; rfl
theorem hF_s {x : Int} {k : Nat} {M R : List Int} : M ++ (hF x (k + 1) ++ R) = M ++ [hxc (x / 16 ^ k % 16)] ++ (hF x k ++ R) := by rw [hF]; simp
/-- what an end looks like -/
def ENDL (f d : Int) (up : Bool) (M : List Int) : Prop := ∃ K : List Int, M = sgnL f ++ K ∧
  ((f % 9223372036854775808 = 0 ∧ K = [48]) ∨ (f % 9223372036854775808 = 9218868437227405312 ∧ K = strByt.getD 21 []) ∨ ((0 < f % 9223372036854775808 ∧ f % 9223372036854775808 < 9218868437227405312) ∧ d = 0 ∧ K = B16 (f % 9223372036854775808)) ∨
   ((0 < f % 9223372036854775808 ∧ f % 9223372036854775808 < 9218868437227405312) ∧ 1 ≤ d ∧ ∃ num ex : Int, DCR (FM (f % 9223372036854775808)) (FE (f % 9223372036854775808)) d.toNat (up != decide (f < 0)) num ex ∧ K = DIG num d.toNat ++ [101] ++ EXT ex))
def INTL (lo hi d : Int) (M : List Int) : Prop := (lo = -4503599627370496 ∧ hi = 9218868437227405312 ∧ M = strByt.getD 20 []) ∨
  (¬ (lo = -4503599627370496 ∧ hi = 9218868437227405312) ∧ ∃ A B : List Int, ENDL lo d false A ∧ ENDL hi d true B ∧ M = [91] ++ (if A = B then A else A ++ [44] ++ B) ++ [93])
theorem sgnL_len (f : Int) : (sgnL f).length ≤ 1 := by unfold sgnL; split <;> simp
theorem ENDL_len {f d : Int} {up : Bool} {M : List Int} (hd : d ≤ 18) (h : ENDL f d up M) : (M.length : Int) ≤ 27 := by
  obtain ⟨K, e, h⟩ := h
  have s := sgnL_len f
  rw [e, List.length_append]
  rcases h with ⟨_, h⟩ | ⟨_, h⟩ | ⟨_, _, h⟩ | ⟨_, hd1, num, ex, _, h⟩
  · rw [h]; simp; omega
  · rw [h, show (strByt.getD 21 []).length = 3 from rfl]; omega
  · rw [h]; have := B16_len (f % 9223372036854775808); omega
  · rw [h, List.length_append, List.length_append]
    have := EXT_len ex
    have := DIG_len num (d := d.toNat)
    simp only [List.length_cons, List.length_nil]
    omega
/-- two ends that are written alike -/
theorem tw_a {t : Int → Int} {L A B : List Int} {i : Int} (hi : 0 ≤ i ∧ i < (A.length : Int)) : rat (Wr t 0 (L ++ [91] ++ A ++ [44] ++ B)) ((L ++ [91] ++ A ++ [44] ++ B).length : Int) (((L ++ [91]).length : Int) + i) = A.getD i.toNat 0 := by
  rw [rat_in (by simp only [List.length_append, List.length_cons, List.length_nil]; omega), Wr_at (by simp only [List.length_append, List.length_cons, List.length_nil]; omega)]
  rw [List.getD_eq_getElem?_getD, List.getD_eq_getElem?_getD, List.getElem?_append_left (by simp only [List.length_append, List.length_cons, List.length_nil]; omega), List.getElem?_append_left (by simp only [List.length_append, List.length_cons, List.length_nil]; omega), List.getElem?_append_right (by omega)]
  congr 2; omega
theorem tw_b {t : Int → Int} {L A B : List Int} {i : Int} (hi : 0 ≤ i ∧ i < (B.length : Int)) : rat (Wr t 0 (L ++ [91] ++ A ++ [44] ++ B)) ((L ++ [91] ++ A ++ [44] ++ B).length : Int) (((L ++ [91] ++ A).length : Int) + 1 + i) = B.getD i.toNat 0 := by
  rw [rat_in (by simp only [List.length_append, List.length_cons, List.length_nil]; omega), Wr_at (by simp only [List.length_append, List.length_cons, List.length_nil]; omega)]
  rw [List.getD_eq_getElem?_getD, List.getD_eq_getElem?_getD, List.getElem?_append_right (by simp only [List.length_append, List.length_cons, List.length_nil]; omega)]
  congr 2; simp only [List.length_append, List.length_cons, List.length_nil]; omega
theorem tw_eq {A B : List Int} (hl : A.length = B.length) (h : ∀ j : Int, 0 ≤ j → j < (A.length : Int) → A.getD j.toNat 0 = B.getD j.toNat 0) : A = B := by
  refine List.ext_getElem hl (fun k h1 h2 => ?_)
  have := h (k : Int) (by omega) (by omega)
  rw [show ((k : Int)).toNat = k by omega, List.getD_eq_getElem?_getD, List.getD_eq_getElem?_getD, List.getElem?_eq_getElem h1, List.getElem?_eq_getElem h2] at this
  exact this
