/-! rows over links between nest mates; rows of longs -/
def FLinkN (TB : List Cond) (cl : List vw_C) (C : String) (T : u_T) (N ci k : Nat) : Prop := cl[ci]? = some (C, T, N) ∧ k < N ∧ (∀ w ∈ u_ws C T N, w ∈ TB)
section NestRows
variable {p : Program} {l : Launch} {e : Env} {R : Room} {s : State} {m : MethodId} {args : Array Value} {below : List Frame} {meth : Method} {c : Code} {H : Heap} {locs : List Loc} {cells slots : Nat} {Q : State → Prop} {pc : Nat} {ls : Array Slot} {rest : List Value}
variable {D : va_G} {cl : List vw_C} {tys : List (ClassId × FieldType)} {X : EnvP} {y y0 : MethodName} {rm : Room} {mc ms : Nat} {As : List Value} {wi ws wr : va_W} {S : Type} {wo : S → va_W} {rv : S → Option Value} {post : S → Prop} {cc bytes b0 : ByteArray} {nL maxL n0 n index : Nat} {ret r0 : Option FieldType} {A : Nat → Prop} {TB : List Cond} {own C host : String} {T : u_T} {N ci k a : Nat}
theorem wk_getN (B : Bd l D cl tys X p m c cc nL s args (Cond.code y0 b0 n0 r0 :: TB) own A) (hP : va_P D cl ws H) (q0 : Nat) {fs : List Value} (he : ws[q0]? = some (a, .inr (ci, fs))) (fl : FLinkN TB cl C T N ci k) (hN : va_Nw (.fieldLinkNest own index (T k).1 (T k).2.1 (T k).2.2.1 host) s) {v : Value} (hv : fs[k]? = some v) (hd : decode cc pc = .ok (.getfield index, 3)) (kk : W p l e R s m args below meth c H locs cells slots Q (F0 m (pc + 3) ls (v :: rest))) : W p l e R s m args below meth c H locs cells slots Q (F0 m pc ls (.ref a :: rest)) := by
  obtain ⟨⟨hx, hb, hml, hown, hts⟩, hX, hK, hE, hA⟩ := B
  obtain ⟨f1, f2, f3⟩ := fl
  exact va_getN hx hb hts (fun w h => List.mem_cons_of_mem _ (f3 w h)) hown hK hP q0 he f1 k f2 (hN.use rfl) (fun _ h => h) hv hd kk
theorem wk_putN (B : Bd l D cl tys X p m c cc nL s args (Cond.code y0 b0 n0 r0 :: TB) own A) (hP : va_P D cl ws H) (hD : va_D A ws) (hS : va_S A s.heap H locs) (q0 : Nat) {fs : List Value} (he : ws[q0]? = some (a, .inr (ci, fs))) (fl : FLinkN TB cl C T N ci k) (hN : va_Nw (.fieldLinkNest own index (T k).1 (T k).2.1 (T k).2.2.1 host) s) {ty : FieldType} (fp : FPut C T N k ty false) {v : Value} (hn : narrow ty v = v) (hfit : fits ty v = true) (hlf : k < fs.length) (hd : decode cc pc = .ok (.putfield index, 3))
    (kk : ∀ (H1 : Heap) (locs1 : List Loc), va_P D cl (ws.set q0 (a, .inr (ci, fs.set k v))) H1 → va_D A (ws.set q0 (a, .inr (ci, fs.set k v))) → va_S A s.heap H1 locs1 → W p l e R s m args below meth c H1 locs1 cells slots Q (F0 m (pc + 3) ls rest)) : W p l e R s m args below meth c H locs cells slots Q (F0 m pc ls (v :: .ref a :: rest)) := by
  obtain ⟨⟨hx, hb, hml, hown, hts⟩, hX, hK, hE, hA⟩ := B
  obtain ⟨f1, f2, f3⟩ := fl
  obtain ⟨g1, g2, g3, g4⟩ := fp
  exact va_putN hx hb hts (fun w h => List.mem_cons_of_mem _ (f3 w h)) (ty_of T) (ty_of_ok g1) g2 hown hK hP hD hS q0 he f1 k f2 (hN.use rfl) (fun _ h => h) g3 g4 hn hfit hlf hd kk
theorem ct_callIN {Ws Ts : List Cond} {b : Nat} (B : Bd l D cl tys X p m c cc nL s args Ts own A) (hM : CT l D cl tys X y Ws rm mc ms (.ref b :: As) wi wo rv post) (cw : va_CN R s args own index y host bytes maxL none Ws rm mc ms n ∧ y.name = "<init>" ∧ (Cond.instanceMethod y).before args s = true) (hP : va_P D cl ws H) (hD : va_D A ws) (hS : va_S A s.heap H locs) (isC isR : List Nat) (hC : isC.map (fun i => ws[i]?) = wi.map some) (hnC : va_nd isC = true) (hR : isR.map (fun i => ws[i]?) = wr.map some) (hn : va_nd isR = true) (hdis : ∀ i ∈ isR, i ∉ isC) (hls : ls.size = nL) (hlen : As.length = n) (hrm : (rest.map fun v => v.category).sum ≤ 8) (hd : decode cc pc = .ok (.invokespecial index, 3)) (hf : cells + mc ≤ R.cells ∧ slots + ms ≤ R.slots) {st0 : List Value} (hst : st0 = As.reverse ++ .ref b :: rest)
    (kk : ∀ (u : S) (H1 : Heap) (locs1 : List Loc), post u → va_P D cl (wr ++ wo u) H1 → va_D A (wr ++ wo u) → va_S A s.heap H1 locs1 → W p l e R s m args below meth c H1 locs1 (cells + mc) (slots + ms) Q (F0 m (pc + 3) ls ((rv u).toList ++ rest))) : W p l e R s m args below meth c H locs cells slots Q (F0 m pc ls st0) := by
  obtain ⟨C0, hX, hK, hE, hA⟩ := B
  subst hst
  exact ct_after (va_runIN (As := As) (rest := rest) C0 (hM H.size) cw ⟨cPre_blind hX, ct_pre hX hK hE hA hP hD hS isC hC hnC⟩ rfl hlen hls rfl (lv_room hrm) hd hf) hP hD hS hA isC isR hC hR hn hdis kk
theorem wk_callIN {b : Nat} (B : Bd l D cl tys X p m c cc nL s args (Cond.code y0 b0 n0 r0 :: TB) own A) (hg : GoodTB TB) (hN : va_Nw (.methodLinkNest own index y host) s) (L : Cond.instanceMethod y ∈ TB ∧ y.name = "<init>" ∧ Cond.initialized y.cls ∈ TB ∧ Cond.code y bytes maxL none ∈ TB ∧ y.cls ≠ "java/lang/invoke/MethodHandle" ∧ y.cls ≠ "java/lang/invoke/VarHandle" ∧ (parseMethodDescriptor y.desc).map (fun d => d.parameters.length) = some n) (hM : CT l D cl tys X y (Cond.code y bytes maxL none :: TB) rm mc ms (.ref b :: As) wi wo rv post) (hrm : (rm.cells = mc ∧ rm.slots = ms) ∧ rm.frames + 1 ≤ R.frames ∧ 8 + (maxL + 11) + rm.locals ≤ R.locals) (hP : va_P D cl ws H) (hD : va_D A ws) (hS : va_S A s.heap H locs) (isC isR : List Nat) (hC : isC.map (fun i => ws[i]?) = wi.map some) (hR : isR.map (fun i => ws[i]?) = wr.map some) (hnd : (va_nd isC && va_nd isR && isR.all (fun i => !isC.contains i)) = true) (hls : lv_wf ls ∧ ls.size = nL) (hlen : As.length = n) (hst8 : (rest.map fun v => v.category).sum ≤ 8) (hd : decode cc pc = .ok (.invokespecial index, 3)) (hf : cells + mc ≤ R.cells ∧ slots + ms ≤ R.slots) {st0 : List Value} (hst : st0 = As.reverse ++ .ref b :: rest)
    (kk : ∀ (u : S) (H1 : Heap) (locs1 : List Loc), post u → va_P D cl (wr ++ wo u) H1 → va_D A (wr ++ wo u) → va_S A s.heap H1 locs1 → W p l e R s m args below meth c H1 locs1 (cells + mc) (slots + ms) Q (F0 m (pc + 3) ls ((rv u).toList ++ rest))) : W p l e R s m args below meth c H locs cells slots Q (F0 m pc ls st0) := by
  obtain ⟨hn1, hn2, hn3⟩ : va_nd isC = true ∧ va_nd isR = true ∧ ∀ i ∈ isR, i ∉ isC := by
    simp only [Bool.and_eq_true, List.all_eq_true] at hnd
    exact ⟨hnd.1.1, hnd.1.2, fun i hi hc => by have q := hnd.2 i hi; simp at q; exact q hc⟩
  have hts := B.1.2.2.2.2
  obtain ⟨h0, h1, h2, h3, h4, h5, h6⟩ := L
  refine ct_callIN (host := host) (n := n) (bytes := bytes) (maxL := maxL) B hM ⟨⟨⟨hrm.1.1, hrm.1.2, hrm.2.1, hrm.2.2, tb_good hg hts h3, List.mem_cons_self⟩, tb_h hts h3, tb_h hts h2, ⟨h4, h5⟩, fun sig q => ?_, hN.use rfl⟩, h1, tb_h hts h0⟩ hP hD hS isC isR hC hn1 hR hn2 hn3 hls.2 hlen hst8 hd hf hst kk
  rw [q] at h6
  exact (Option.some.inj h6).symm
theorem lI_U (a : Int) : (lI a).toUInt64 = UInt64.ofNat (a % 18446744073709551616).toNat := by
  apply UInt64.toNat_inj.mp
  rw [UInt64.toNat_ofNat_of_lt' (by have := Int.emod_lt_of_pos a (show (0 : Int) < 18446744073709551616 by decide); have := Int.emod_nonneg a (show (18446744073709551616 : Int) ≠ 0 by decide); show (a % 18446744073709551616).toNat < 18446744073709551616; omega)]
  show (BitVec.ofInt 64 a).toNat = _
  rw [BitVec.toNat_ofInt]
  rfl
theorem lI_ushr2 (a : Int) (n : Nat) (hn : n < 64) : ((lI a).toUInt64 >>> ((iI (n : Int)).toInt64.toUInt64 &&& Int64.toUInt64 63)).toInt64 = lI ((a % 18446744073709551616) / 2 ^ n) := by
  have hm1 := Int.emod_lt_of_pos a (show (0 : Int) < 18446744073709551616 by decide)
  have hm0 := Int.emod_nonneg a (show (18446744073709551616 : Int) ≠ 0 by decide)
  have h1 : ((lI a).toUInt64 >>> ((iI (n : Int)).toInt64.toUInt64 &&& Int64.toUInt64 63)).toNat = (a % 18446744073709551616).toNat / 2 ^ n := by
    rw [UInt64.toNat_shiftRight, sh_u n hn, Nat.mod_eq_of_lt hn, Nat.shiftRight_eq_div_pow, lI_U, UInt64.toNat_ofNat_of_lt' (by show (a % 18446744073709551616).toNat < 18446744073709551616; omega)]
  generalize hq : ((lI a).toUInt64 >>> ((iI (n : Int)).toInt64.toUInt64 &&& Int64.toUInt64 63)) = q at h1
  have e : (a % 18446744073709551616) / 2 ^ n = ((q.toNat : Nat) : Int) := by
    rw [h1, Int.natCast_ediv, Int.toNat_of_nonneg hm0]
    push_cast
    rfl
  rw [e]
  apply Int64.toBitVec_inj.mp
  show q.toBitVec = BitVec.ofInt 64 ((q.toNat : Nat) : Int)
  rw [BitVec.ofInt_natCast]
  apply BitVec.eq_of_toNat_eq
  rw [BitVec.toNat_ofNat]
  exact (Nat.mod_eq_of_lt q.toBitVec.isLt).symm
theorem wi_lushr2 (hx : p.tables.exec = Jvm.exec) (hb : c.code = cc) {x y : Int} (n : Nat) (M : Int) (hM : (2 : Int) ^ n = M) (hy : y = (n : Int)) (hn : n < 64) (hd : decode cc pc = .ok (.lushr, 1)) (k : W p l e R s m args below meth c H locs cells slots Q (F0 m (pc + 1) ls (.long (lI (x % 18446744073709551616 / M)) :: rest))) : W p l e R s m args below meth c H locs cells slots Q (F0 m pc ls (.int (iI y) :: .long (lI x) :: rest)) := by
  subst hy; subst hM
  exact lv_lushr hx hb hd (lI_ushr2 x n hn) k
end NestRows
/-- the mantissa and the exponent of float n -/
def FM (n : Int) : Int := if n < 4503599627370496 then n else 4503599627370496 + n % 4503599627370496
def FE (n : Int) : Int := if n < 4503599627370496 then -1074 else n / 4503599627370496 - 1075
theorem FM_FV (n : Int) : FM n * P2 (FE n + 1074) = FV n := by
  unfold FM FE FV
  split
  · rw [show (-1074 : Int) + 1074 = 0 by decide, P2_0, Int.mul_one]
  · rw [show n / 4503599627370496 - 1075 + 1074 = n / 4503599627370496 - 1 by omega]
