/-! LINKS: rows for fields and calls over one list of words TB that all methods share. -/
def GoodTB (TB : List Cond) : Prop := ∀ w ∈ TB, (w.onTables && w.keeps) = true ∨ ∃ ty, w = .arrayClass ty
/-- place 'index' in own's pool is field k of the class that has place ci in cl -/
def FLink (TB : List Cond) (cl : List vw_C) (own : String) (index : Nat) (C : String) (T : u_T) (N ci k : Nat) : Prop := cl[ci]? = some (C, T, N) ∧ k < N ∧ (∀ w ∈ u_ws C T N, w ∈ TB) ∧ Cond.fieldLink own index (T k).1 (T k).2.1 (T k).2.2.1 ∈ TB
/-- .. of type ty, not final or final -/
def FPut (C : String) (T : u_T) (N k : Nat) (ty : FieldType) (fin : Bool) : Prop := (∀ k, k < N → ∃ t, parseFieldDescriptor (T k).2.2.1 = some t) ∧ (∀ a, a < N → ∀ b, b < N → a ≠ b → (T a).2.1 ≠ (T b).2.1) ∧ (T k).2.2.2 = fin ∧ parseFieldDescriptor (T k).2.2.1 = some ty
def CLinkB (TB : List Cond) (own : String) (index : Nat) (y : MethodName) (bytes : ByteArray) (maxL : Nat) (ret : Option FieldType) (n : Nat) : Prop := Cond.methodLink own index y ∈ TB ∧ Cond.initialized y.cls ∈ TB ∧ Cond.code y bytes maxL ret ∈ TB ∧ y.cls ≠ "java/lang/invoke/MethodHandle" ∧ y.cls ≠ "java/lang/invoke/VarHandle" ∧ (parseMethodDescriptor y.desc).map (fun d => d.parameters.length) = some n
def CLinkV (TB : List Cond) (own : String) (index : Nat) (C : String) (y : MethodName) (bytes : ByteArray) (maxL : Nat) (ret : Option FieldType) (n : Nat) : Prop := CLinkB TB own index y bytes maxL ret n ∧ Cond.instanceMethod y ∈ TB ∧ Cond.selects C y y ∈ TB
def CLinkS (TB : List Cond) (own : String) (index : Nat) (y : MethodName) (bytes : ByteArray) (maxL : Nat) (ret : Option FieldType) (n : Nat) : Prop := CLinkB TB own index y bytes maxL ret n ∧ Cond.static y ∈ TB
def CLinkI (TB : List Cond) (own : String) (index : Nat) (y : MethodName) (bytes : ByteArray) (maxL n : Nat) : Prop := CLinkB TB own index y bytes maxL none n ∧ y.name = "<init>" ∧ Cond.instanceMethod y ∈ TB
section LinkRows
variable {p : Program} {l : Launch} {e : Env} {R : Room} {s : State} {m : MethodId} {args : Array Value} {below : List Frame} {meth : Method} {c : Code} {H : Heap} {locs : List Loc} {cells slots : Nat} {Q : State → Prop} {pc : Nat} {ls : Array Slot} {rest : List Value}
variable {D : va_G} {cl : List vw_C} {tys : List (ClassId × FieldType)} {X : EnvP} {y y0 : MethodName} {rm : Room} {mc ms : Nat} {As : List Value} {wi ws wr : va_W} {S : Type} {wo : S → va_W} {rv : S → Option Value} {post : S → Prop} {cc bytes b0 : ByteArray} {nL maxL n0 n index : Nat} {ret r0 : Option FieldType} {A : Nat → Prop} {TB : List Cond} {own C : String} {T : u_T} {N ci k a : Nat}
theorem tb_h {w : Cond} (h : ∀ w ∈ (Cond.code y0 b0 n0 r0 :: TB), w.before args s = true) (hw : w ∈ TB) : w.before args s = true := h w (List.mem_cons_of_mem _ hw)
theorem tb_good (hg : GoodTB TB) (h : ∀ w ∈ (Cond.code y0 b0 n0 r0 :: TB), w.before args s = true) (hm : Cond.code y bytes maxL ret ∈ TB) : ∀ w ∈ (Cond.code y bytes maxL ret :: TB), ∀ (a' : Array Value) (U : State), s.WarmedH U.vm → w.before a' U = true := by
  intro w hw a' U hW
  rcases List.mem_cons.mp hw with rfl | hw
  · exact word_at hW (hg _ hm) (tb_h h hm)
  · exact word_at hW (hg _ hw) (tb_h h hw)
theorem cw_B (hg : GoodTB TB) (h : ∀ w ∈ (Cond.code y0 b0 n0 r0 :: TB), w.before args s = true) (L : CLinkB TB own index y bytes maxL ret n) (hrc : rm.cells = mc) (hrs : rm.slots = ms) (hR : rm.frames + 1 ≤ R.frames ∧ 8 + (maxL + 11) + rm.locals ≤ R.locals) : CallB R s args own index y bytes maxL ret (Cond.code y bytes maxL ret :: TB) rm mc ms n := by
  obtain ⟨h1, h2, h3, h4, h5, h6⟩ := L
  refine ⟨hrc, hrs, hR.1, hR.2, tb_good hg h h3, List.mem_cons_self, tb_h h h3, tb_h h h2, ⟨h4, h5⟩, fun sig q => ?_, tb_h h h1⟩
  rw [q] at h6
  exact (Option.some.inj h6).symm
/-- getfield -/
theorem wk_get (B : Bd l D cl tys X p m c cc nL s args (Cond.code y0 b0 n0 r0 :: TB) own A) (hP : va_P D cl ws H) (q0 : Nat) {fs : List Value} (he : ws[q0]? = some (a, .inr (ci, fs))) (fl : FLink TB cl own index C T N ci k) {v : Value} (hv : fs[k]? = some v) (hd : decode cc pc = .ok (.getfield index, 3)) (kk : W p l e R s m args below meth c H locs cells slots Q (F0 m (pc + 3) ls (v :: rest))) : W p l e R s m args below meth c H locs cells slots Q (F0 m pc ls (.ref a :: rest)) := by
  obtain ⟨⟨hx, hb, hml, hown, hts⟩, hX, hK, hE, hA⟩ := B
  obtain ⟨f1, f2, f3, f4⟩ := fl
  exact va_get hx hb hts (fun w h => List.mem_cons_of_mem _ (f3 w h)) hown hK hP q0 he f1 k f2 (tb_h hts f4) (fun _ h => h) hv hd kk
noncomputable def ty_of (T : u_T) : Nat → FieldType := fun k => (parseFieldDescriptor (T k).2.2.1).getD .int
theorem ty_of_ok {T : u_T} {N : Nat} (h : ∀ k, k < N → ∃ t, parseFieldDescriptor (T k).2.2.1 = some t) : ∀ k, k < N → parseFieldDescriptor (T k).2.2.1 = some (ty_of T k) := by
  intro k hk
  obtain ⟨t, ht⟩ := h k hk
  unfold ty_of
  rw [ht]; rfl
/-- putfield -/
theorem wk_put (B : Bd l D cl tys X p m c cc nL s args (Cond.code y0 b0 n0 r0 :: TB) own A) (hP : va_P D cl ws H) (hD : va_D A ws) (hS : va_S A s.heap H locs) (q0 : Nat) {fs : List Value} (he : ws[q0]? = some (a, .inr (ci, fs))) (fl : FLink TB cl own index C T N ci k) {ty : FieldType} (fp : FPut C T N k ty false) {v : Value} (hn : narrow ty v = v) (hfit : fits ty v = true) (hlf : k < fs.length) (hd : decode cc pc = .ok (.putfield index, 3))
    (kk : ∀ (H1 : Heap) (locs1 : List Loc), va_P D cl (ws.set q0 (a, .inr (ci, fs.set k v))) H1 → va_D A (ws.set q0 (a, .inr (ci, fs.set k v))) → va_S A s.heap H1 locs1 → W p l e R s m args below meth c H1 locs1 cells slots Q (F0 m (pc + 3) ls rest)) : W p l e R s m args below meth c H locs cells slots Q (F0 m pc ls (v :: .ref a :: rest)) := by
  obtain ⟨⟨hx, hb, hml, hown, hts⟩, hX, hK, hE, hA⟩ := B
  obtain ⟨f1, f2, f3, f4⟩ := fl
  obtain ⟨g1, g2, g3, g4⟩ := fp
  exact va_put hx hb hts (fun w h => List.mem_cons_of_mem _ (f3 w h)) (ty_of T) (ty_of_ok g1) g2 hown hK hP hD hS q0 he f1 k f2 (tb_h hts f4) (fun _ h => h) g3 g4 hn hfit hlf hd kk
/-- putfield of a final field, in its class's constructor -/
theorem wk_putF (B : Bd l D cl tys X p m c cc nL s args (Cond.code y0 b0 n0 r0 :: TB) own A) (hmn : meth.name = "<init>") (hP : va_P D cl ws H) (hD : va_D A ws) (hS : va_S A s.heap H locs) (q0 : Nat) {fs : List Value} (he : ws[q0]? = some (a, .inr (ci, fs))) (fl : FLink TB cl own index C T N ci k) (hdc : (T k).1 = own) {ty : FieldType} (fp : FPut C T N k ty true) {v : Value} (hn : narrow ty v = v) (hfit : fits ty v = true) (hlf : k < fs.length) (hd : decode cc pc = .ok (.putfield index, 3))
    (kk : ∀ (H1 : Heap) (locs1 : List Loc), va_P D cl (ws.set q0 (a, .inr (ci, fs.set k v))) H1 → va_D A (ws.set q0 (a, .inr (ci, fs.set k v))) → va_S A s.heap H1 locs1 → W p l e R s m args below meth c H1 locs1 cells slots Q (F0 m (pc + 3) ls rest)) : W p l e R s m args below meth c H locs cells slots Q (F0 m pc ls (v :: .ref a :: rest)) := by
  obtain ⟨⟨hx, hb, hml, hown, hts⟩, hX, hK, hE, hA⟩ := B
  obtain ⟨f1, f2, f3, f4⟩ := fl
  obtain ⟨g1, g2, g3, g4⟩ := fp
  exact va_putF hx hb hts (fun w h => List.mem_cons_of_mem _ (f3 w h)) (ty_of T) (ty_of_ok g1) g2 hown hK hP hD hS q0 he f1 k f2 (tb_h hts f4) (fun _ h => h) g3 hmn hdc g4 hn hfit hlf hd kk
/-- invokevirtual -/
theorem wk_callV {b : Nat} (B : Bd l D cl tys X p m c cc nL s args (Cond.code y0 b0 n0 r0 :: TB) own A) (hg : GoodTB TB) (L : CLinkV TB own index C y bytes maxL ret n) (hM : CT l D cl tys X y (Cond.code y bytes maxL ret :: TB) rm mc ms (.ref b :: As) wi wo rv post) (hrm : (rm.cells = mc ∧ rm.slots = ms) ∧ rm.frames + 1 ≤ R.frames ∧ 8 + (maxL + 11) + rm.locals ≤ R.locals) (hP : va_P D cl ws H) (hD : va_D A ws) (hS : va_S A s.heap H locs) (isC isR : List Nat) (hC : isC.map (fun i => ws[i]?) = wi.map some) (hR : isR.map (fun i => ws[i]?) = wr.map some) (hnd : (va_nd isC && va_nd isR && isR.all (fun i => !isC.contains i)) = true) (q0 : Nat) {q : vw_C} {fs : List Value} (hc : cl[ci]? = some q) (hq : q.1 = C) (he : ws[q0]? = some (b, .inr (ci, fs))) (hls : lv_wf ls ∧ ls.size = nL) (hlen : As.length = n) (hst8 : (rest.map fun v => v.category).sum ≤ 8) (hd : decode cc pc = .ok (.invokevirtual index, 3)) (hf : cells + mc ≤ R.cells ∧ slots + ms ≤ R.slots) {st0 : List Value} (hst : st0 = As.reverse ++ .ref b :: rest)
    (kk : ∀ (u : S) (H1 : Heap) (locs1 : List Loc), post u → va_P D cl (wr ++ wo u) H1 → va_D A (wr ++ wo u) → va_S A s.heap H1 locs1 → W p l e R s m args below meth c H1 locs1 (cells + mc) (slots + ms) Q (F0 m (pc + 3) ls ((rv u).toList ++ rest))) : W p l e R s m args below meth c H locs cells slots Q (F0 m pc ls st0) := by
  obtain ⟨hn1, hn2, hn3⟩ : va_nd isC = true ∧ va_nd isR = true ∧ ∀ i ∈ isR, i ∉ isC := by
    simp only [Bool.and_eq_true, List.all_eq_true] at hnd
    exact ⟨hnd.1.1, hnd.1.2, fun i hi hc => by have q := hnd.2 i hi; simp at q; exact q hc⟩
  have hts := B.1.2.2.2.2
  exact ct_callV (C := C) B hM ⟨cw_B hg hts L.1 hrm.1.1 hrm.1.2 hrm.2, tb_h hts L.2.1, tb_h hts L.2.2⟩ hP hD hS isC isR hC hn1 hR hn2 hn3 q0 hc hq he hls.2 hlen hst8 hd hf hst kk
/-- invokevirtual on an object that is no part of the world -/
theorem wk_callO {b : Nat} (B : Bd l D cl tys X p m c cc nL s args (Cond.code y0 b0 n0 r0 :: TB) own A) (hg : GoodTB TB) (L : CLinkV TB own index C y bytes maxL ret n) (hM : CT l D cl tys X y (Cond.code y bytes maxL ret :: TB) rm mc ms (.ref b :: As) wi wo rv post) (hrm : (rm.cells = mc ∧ rm.slots = ms) ∧ rm.frames + 1 ≤ R.frames ∧ 8 + (maxL + 11) + rm.locals ≤ R.locals) (hP : va_P D cl ws H) (hD : va_D A ws) (hS : va_S A s.heap H locs) (isC isR : List Nat) (hC : isC.map (fun i => ws[i]?) = wi.map some) (hR : isR.map (fun i => ws[i]?) = wr.map some) (hnd : (va_nd isC && va_nd isR && isR.all (fun i => !isC.contains i)) = true) (hrc : ∃ cell : Cell, H[b]? = some cell ∧ cell.vm.isStatics = false ∧ s.vm.findClass C = some cell.cls) (hls : lv_wf ls ∧ ls.size = nL) (hlen : As.length = n) (hst8 : (rest.map fun v => v.category).sum ≤ 8) (hd : decode cc pc = .ok (.invokevirtual index, 3)) (hf : cells + mc ≤ R.cells ∧ slots + ms ≤ R.slots) {st0 : List Value} (hst : st0 = As.reverse ++ .ref b :: rest)
    (kk : ∀ (u : S) (H1 : Heap) (locs1 : List Loc), post u → va_P D cl (wr ++ wo u) H1 → va_D A (wr ++ wo u) → va_S A s.heap H1 locs1 → W p l e R s m args below meth c H1 locs1 (cells + mc) (slots + ms) Q (F0 m (pc + 3) ls ((rv u).toList ++ rest))) : W p l e R s m args below meth c H locs cells slots Q (F0 m pc ls st0) := by
  obtain ⟨hn1, hn2, hn3⟩ : va_nd isC = true ∧ va_nd isR = true ∧ ∀ i ∈ isR, i ∉ isC := by
    simp only [Bool.and_eq_true, List.all_eq_true] at hnd
    exact ⟨hnd.1.1, hnd.1.2, fun i hi hc => by have q := hnd.2 i hi; simp at q; exact q hc⟩
  have hts := B.1.2.2.2.2
  exact ct_callO (C := C) B hM ⟨cw_B hg hts L.1 hrm.1.1 hrm.1.2 hrm.2, tb_h hts L.2.1, tb_h hts L.2.2⟩ hP hD hS isC isR hC hn1 hR hn2 hn3 hrc hls.2 hlen hst8 hd hf hst kk
/-- invokestatic -/
theorem wk_callS (B : Bd l D cl tys X p m c cc nL s args (Cond.code y0 b0 n0 r0 :: TB) own A) (hg : GoodTB TB) (L : CLinkS TB own index y bytes maxL ret n) (hM : CT l D cl tys X y (Cond.code y bytes maxL ret :: TB) rm mc ms As wi wo rv post) (hrm : (rm.cells = mc ∧ rm.slots = ms) ∧ rm.frames + 1 ≤ R.frames ∧ 8 + (maxL + 11) + rm.locals ≤ R.locals) (hP : va_P D cl ws H) (hD : va_D A ws) (hS : va_S A s.heap H locs) (isC isR : List Nat) (hC : isC.map (fun i => ws[i]?) = wi.map some) (hR : isR.map (fun i => ws[i]?) = wr.map some) (hnd : (va_nd isC && va_nd isR && isR.all (fun i => !isC.contains i)) = true) (hls : lv_wf ls ∧ ls.size = nL) (hlen : As.length = n) (hst8 : (rest.map fun v => v.category).sum ≤ 8) (hd : decode cc pc = .ok (.invokestatic index, 3)) (hf : cells + mc ≤ R.cells ∧ slots + ms ≤ R.slots) {st0 : List Value} (hst : st0 = As.reverse ++ rest)
    (kk : ∀ (u : S) (H1 : Heap) (locs1 : List Loc), post u → va_P D cl (wr ++ wo u) H1 → va_D A (wr ++ wo u) → va_S A s.heap H1 locs1 → W p l e R s m args below meth c H1 locs1 (cells + mc) (slots + ms) Q (F0 m (pc + 3) ls ((rv u).toList ++ rest))) : W p l e R s m args below meth c H locs cells slots Q (F0 m pc ls st0) := by
  obtain ⟨hn1, hn2, hn3⟩ : va_nd isC = true ∧ va_nd isR = true ∧ ∀ i ∈ isR, i ∉ isC := by
    simp only [Bool.and_eq_true, List.all_eq_true] at hnd
    exact ⟨hnd.1.1, hnd.1.2, fun i hi hc => by have q := hnd.2 i hi; simp at q; exact q hc⟩
  have hts := B.1.2.2.2.2
  exact ct_callS B hM ⟨cw_B hg hts L.1 hrm.1.1 hrm.1.2 hrm.2, tb_h hts L.2⟩ hP hD hS isC isR hC hn1 hR hn2 hn3 hls.2 hlen hst8 hd hf hst kk
/-- invokespecial <init> -/
theorem wk_callI {b : Nat} (B : Bd l D cl tys X p m c cc nL s args (Cond.code y0 b0 n0 r0 :: TB) own A) (hg : GoodTB TB) (L : CLinkI TB own index y bytes maxL n) (hM : CT l D cl tys X y (Cond.code y bytes maxL none :: TB) rm mc ms (.ref b :: As) wi wo rv post) (hrm : (rm.cells = mc ∧ rm.slots = ms) ∧ rm.frames + 1 ≤ R.frames ∧ 8 + (maxL + 11) + rm.locals ≤ R.locals) (hP : va_P D cl ws H) (hD : va_D A ws) (hS : va_S A s.heap H locs) (isC isR : List Nat) (hC : isC.map (fun i => ws[i]?) = wi.map some) (hR : isR.map (fun i => ws[i]?) = wr.map some) (hnd : (va_nd isC && va_nd isR && isR.all (fun i => !isC.contains i)) = true) (hls : lv_wf ls ∧ ls.size = nL) (hlen : As.length = n) (hst8 : (rest.map fun v => v.category).sum ≤ 8) (hd : decode cc pc = .ok (.invokespecial index, 3)) (hf : cells + mc ≤ R.cells ∧ slots + ms ≤ R.slots) {st0 : List Value} (hst : st0 = As.reverse ++ .ref b :: rest)
    (kk : ∀ (u : S) (H1 : Heap) (locs1 : List Loc), post u → va_P D cl (wr ++ wo u) H1 → va_D A (wr ++ wo u) → va_S A s.heap H1 locs1 → W p l e R s m args below meth c H1 locs1 (cells + mc) (slots + ms) Q (F0 m (pc + 3) ls ((rv u).toList ++ rest))) : W p l e R s m args below meth c H locs cells slots Q (F0 m pc ls st0) := by
  obtain ⟨hn1, hn2, hn3⟩ : va_nd isC = true ∧ va_nd isR = true ∧ ∀ i ∈ isR, i ∉ isC := by
    simp only [Bool.and_eq_true, List.all_eq_true] at hnd
    exact ⟨hnd.1.1, hnd.1.2, fun i hi hc => by have q := hnd.2 i hi; simp at q; exact q hc⟩
  have hts := B.1.2.2.2.2
  exact ct_callI B hM ⟨cw_B hg hts L.1 hrm.1.1 hrm.1.2 hrm.2, L.2.1, tb_h hts L.2.2⟩ hP hD hS isC isR hC hn1 hR hn2 hn3 hls.2 hlen hst8 hd hf hst kk
/-- invokestatic of a nest mate's private method: the link is part of the environment -/
theorem wk_callSN {host : String} (B : Bd l D cl tys X p m c cc nL s args (Cond.code y0 b0 n0 r0 :: TB) own A) (hg : GoodTB TB) (hN : va_Nw (.methodLinkNest own index y host) s) (L : Cond.static y ∈ TB ∧ Cond.initialized y.cls ∈ TB ∧ Cond.code y bytes maxL ret ∈ TB ∧ y.cls ≠ "java/lang/invoke/MethodHandle" ∧ y.cls ≠ "java/lang/invoke/VarHandle" ∧ (parseMethodDescriptor y.desc).map (fun d => d.parameters.length) = some n) (hM : CT l D cl tys X y (Cond.code y bytes maxL ret :: TB) rm mc ms As wi wo rv post) (hrm : (rm.cells = mc ∧ rm.slots = ms) ∧ rm.frames + 1 ≤ R.frames ∧ 8 + (maxL + 11) + rm.locals ≤ R.locals) (hP : va_P D cl ws H) (hD : va_D A ws) (hS : va_S A s.heap H locs) (isC isR : List Nat) (hC : isC.map (fun i => ws[i]?) = wi.map some) (hR : isR.map (fun i => ws[i]?) = wr.map some) (hnd : (va_nd isC && va_nd isR && isR.all (fun i => !isC.contains i)) = true) (hls : lv_wf ls ∧ ls.size = nL) (hlen : As.length = n) (hst8 : (rest.map fun v => v.category).sum ≤ 8) (hd : decode cc pc = .ok (.invokestatic index, 3)) (hf : cells + mc ≤ R.cells ∧ slots + ms ≤ R.slots) {st0 : List Value} (hst : st0 = As.reverse ++ rest)
    (kk : ∀ (u : S) (H1 : Heap) (locs1 : List Loc), post u → va_P D cl (wr ++ wo u) H1 → va_D A (wr ++ wo u) → va_S A s.heap H1 locs1 → W p l e R s m args below meth c H1 locs1 (cells + mc) (slots + ms) Q (F0 m (pc + 3) ls ((rv u).toList ++ rest))) : W p l e R s m args below meth c H locs cells slots Q (F0 m pc ls st0) := by
  obtain ⟨hn1, hn2, hn3⟩ : va_nd isC = true ∧ va_nd isR = true ∧ ∀ i ∈ isR, i ∉ isC := by
    simp only [Bool.and_eq_true, List.all_eq_true] at hnd
    exact ⟨hnd.1.1, hnd.1.2, fun i hi hc => by have q := hnd.2 i hi; simp at q; exact q hc⟩
  have hts := B.1.2.2.2.2
  obtain ⟨h0, h2, h3, h4, h5, h6⟩ := L
  refine ct_callSN (host := host) (n := n) (bytes := bytes) (maxL := maxL) (ret := ret) B hM ⟨⟨⟨hrm.1.1, hrm.1.2, hrm.2.1, hrm.2.2, tb_good hg hts h3, List.mem_cons_self⟩, tb_h hts h3, tb_h hts h2, ⟨h4, h5⟩, fun sig q => ?_, hN.use rfl⟩, tb_h hts h0, trivial⟩ hP hD hS isC isR hC hn1 hR hn2 hn3 hls.2 hlen hst8 hd hf hst kk
  rw [q] at h6
  exact (Option.some.inj h6).symm
/-- new -/
theorem wk_new (B : Bd l D cl tys X p m c cc nL s args (Cond.code y0 b0 n0 r0 :: TB) own A) (hP : va_P D cl ws H) (hD : va_D A ws) (hS : va_S A s.heap H locs) (L : Cond.classLink own index C ∈ TB ∧ Cond.instantiable C N ∈ TB ∧ Cond.initialized C ∈ TB) (hc : cl[ci]? = some (C, T, N)) (hin : ∀ w ∈ u_ws C T N, w ∈ TB) {ty : Nat → FieldType} (hty : ∀ k, k < N → parseFieldDescriptor (T k).2.2.1 = some (ty k)) {fs : List Value} (hfs : ∀ j, j < N → defaultValue (ty j) = vp_V fs j) (hcs : cells + 1 ≤ R.cells ∧ slots + N ≤ R.slots) (hd : decode cc pc = .ok (.new index, 3))
    (kk : ∀ (q : Nat) (H1 : Heap), va_P D cl (ws ++ [(q, .inr (ci, fs))]) H1 → va_D A (ws ++ [(q, .inr (ci, fs))]) → va_S A s.heap H1 locs → W p l e R s m args below meth c H1 locs (cells + 1) (slots + N) Q (F0 m (pc + 3) ls (.ref q :: rest))) : W p l e R s m args below meth c H locs cells slots Q (F0 m pc ls rest) := by
  obtain ⟨⟨hx, hb, hml, hown, hts⟩, hX, hK, hE, hA⟩ := B
  exact va_new hx hb hts (fun w h => List.mem_cons_of_mem _ (hin w h)) ty hty hown (tb_h hts L.1) (tb_h hts L.2.1) (tb_h hts L.2.2) hK hP hD hS hA hc hfs hcs.1 hcs.2 hd kk
/-- newarray of ints or chars: its class is the one that the tables have -/
theorem wk_newa (B : Bd l D cl tys X p m c cc nL s args (Cond.code y0 b0 n0 r0 :: TB) own A) (hP : va_P D cl ws H) (hD : va_D A ws) (hS : va_S A s.heap H locs) {atype : ArrayType} (ty : FieldType) (hty : newarray.typeOf atype = ty) (hp : ty = .int ∨ ty = .char) (L : Cond.arrayClass ty ∈ TB) (t0 : Nat) {cA : ClassId} (ht : tys[t0]? = some (cA, ty)) {z : Int} {N' : Nat} (hz : z = (N' : Int)) (hN : N' < 65536) (hcs : cells + 1 ≤ R.cells ∧ slots + N' ≤ R.slots) (hd : decode cc pc = .ok (.newarray atype, 2))
    (kk : ∀ (q : Nat) (H1 : Heap), va_P D cl (ws ++ [(q, .inl (cA, N', .inl (ia (fun _ => 0))))]) H1 → va_D A (ws ++ [(q, .inl (cA, N', .inl (ia (fun _ => 0))))]) → va_S A s.heap H1 locs → W p l e R s m args below meth c H1 locs (cells + 1) (slots + N') Q (F0 m (pc + 2) ls (.ref q :: rest))) : W p l e R s m args below meth c H locs cells slots Q (F0 m pc ls (.int (iI z) :: rest)) := by
  obtain ⟨⟨hx, hb, hml, hown, hts⟩, hX, hK, hE, hA⟩ := B
  subst hz
  have hbytes : N' * componentBytes ty ≤ 536870912 := by
    have : componentBytes ty ≤ 8 := by rcases hp with rfl | rfl <;> decide
    have := Nat.mul_le_mul (show N' ≤ 65536 by omega) this
    omega
  have hdef : ∀ cB : ClassId, vp_cell cB (N', .inl (ia (fun _ => 0))) = arrV cB N' (fun _ => defaultValue ty) := by
    intro cB; rcases hp with rfl | rfl <;> rfl
  refine va_newa (a0 := (N', .inl (ia (fun _ => 0)))) hx hb (by rw [hty]; exact tb_h hts L) hty hK hP hD hS hA hdef (by rw [iI_zero, iI_lt (by omega) (by omega)]; omega) (by rw [iI_clamp (by omega)]; omega) hbytes hcs.1 hcs.2 hd ?_
  intro q cB H1 hK1 hP1 hD1 hS1
  have e : cB = cA := by
    have h1 := (hK1.2 tys.length (cB, ty) (by simp)).2
    have h2 := (hK.2 t0 (cA, ty) ht).2
    rcases hp with rfl | rfl <;> exact Option.some.inj (h1.symm.trans h2)
  subst e
  exact kk q H1 hP1 hD1 hS1
/-- the constructor of Object -/
theorem wk_objInit (B : Bd l D cl tys X p m c cc nL s args (Cond.code y0 b0 n0 r0 :: TB) own A) (L : Cond.methodLink own index objectInit ∈ TB ∧ Cond.instanceMethod objectInit ∈ TB ∧ Cond.code objectInit ⟨#[0xb1]⟩ 1 none ∈ TB) (hls : lv_wf ls ∧ ls.size = nL) (hd : decode cc pc = .ok (.invokespecial index, 3)) (hfr : 1 ≤ R.frames) (hlo : (rest.map fun v => v.category).sum ≤ 8 ∧ 20 ≤ R.locals) (kk : W p l e R s m args below meth c H locs cells slots Q (F0 m (pc + 3) ls rest)) : W p l e R s m args below meth c H locs cells slots Q (F0 m pc ls (.ref a :: rest)) := by
  obtain ⟨⟨hx, hb, hml, hown, hts⟩, hX, hK, hE, hA⟩ := B
  refine W.objInit hx hb hown (tb_h hts L.1) (tb_h hts L.2.1) (tb_h hts L.2.2) rfl (by rw [hml]; exact hls.2) rfl hd hfr ?_ kk
  have h1 := lv_room (m := m) (pc := pc) (ls := ls) (rest := rest) hlo.1
  have : 2 * (F0 m pc ls (.ref a :: rest)).monitorRoom = 2 * (F0 m pc ls rest).monitorRoom := rfl
  omega
theorem va_O_at {C : String} {t : Nat} (h : va_O C t A s s.heap) (hS : va_S A s.heap H locs) : ∃ cell : Cell, H[t]? = some cell ∧ cell.vm.isStatics = false ∧ s.vm.findClass C = some cell.cls := by
  obtain ⟨cell, h1, h2, h3, h4⟩ := h
  have hlt : t < s.heap.size := (Array.getElem?_eq_some_iff.mp h1).1
  exact ⟨cell, by rw [hS.2.1 t hlt h4]; exact h1, h2, h3⟩
end LinkRows
