/-! CONTRACTS: a method's cells before and behind it, its answer, and what stands outside (EnvP: strings, statics, links between nest mates). -/
abbrev EnvP : Type := (Nat → Prop) → State → Heap → Prop
/-- an environment that calls keep -/
def EnvOk (X : EnvP) : Prop := (∀ (A : Nat → Prop) (u U : State) (H : Heap), u.WarmedH U.vm → X A u H → X A U H) ∧ (∀ (A : Nat → Prop) (u U : State) (H : Heap), u.vm = U.vm → X A u H → X A U H) ∧ (∀ (A : Nat → Prop) (U : State) (H H1 : Heap), X A U H → (∀ a : Nat, a < H.size → ¬ A a → H1[a]? = H[a]?) → X A U H1) ∧ (∀ (A B : Nat → Prop) (U : State) (H : Heap), X A U H → (∀ q, B q → A q) → X B U H)
def cPre (D : va_G) (cl : List vw_C) (tys : List (ClassId × FieldType)) (X : EnvP) (ws : va_W) (sz : Nat) (U : State) : Prop := U.heap.size = sz ∧ va_P D cl ws U.heap ∧ va_K D cl tys U ∧ va_D (fun _ => True) ws ∧ X (va_A ws sz) U U.heap
def cQ (D : va_G) (cl : List vw_C) (tys : List (ClassId × FieldType)) {S : Type} (rv : S → Option Value) (post : S → Prop) (wo : S → va_W) (A : Nat → Prop) : Array Value → State → Outcome → State → Prop := fun _ st oc t => (∃ u : S, oc = .returned (rv u) ∧ post u ∧ va_P D cl (wo u) t.heap ∧ va_K D cl tys t ∧ va_D A (wo u)) ∧ va_F A st t
def CT (l : Launch) (D : va_G) (cl : List vw_C) (tys : List (ClassId × FieldType)) (X : EnvP) (y : MethodName) (Ws : List Cond) (rm : Room) (mc ms : Nat) (as : List Value) (wi : va_W) {S : Type} (wo : S → va_W) (rv : S → Option Value) (post : S → Prop) : Prop := ∀ sz : Nat, Met l y Ws rm (va_Pc as (cPre D cl tys X wi sz)) (cQ D cl tys rv post wo (va_A wi sz)) mc ms (va_A wi sz)
abbrev rmK (f c s l : Nat) : Room := { frames := f, cells := c, slots := s, locals := l }
theorem cPre_blind {D : va_G} {cl : List vw_C} {tys : List (ClassId × FieldType)} {X : EnvP} (hX : EnvOk X) {ws : va_W} {sz : Nat} {as : List Value} : FrameBlind (va_Pc as (cPre D cl tys X ws sz)) := by
  intro a U g mk h
  obtain ⟨h0, h1, h2, h3, h4, h5⟩ := h
  exact ⟨h0, h1, h2, va_K.moved (u := U) (U := U.calling g mk a) (Vm.Alike.refl U.vm) h3, h4, hX.2.1 _ U (U.calling g mk a) U.heap rfl h5⟩
/-- what holds in a method's body from its start on -/
abbrev Bd (l : Launch) (D : va_G) (cl : List vw_C) (tys : List (ClassId × FieldType)) (X : EnvP) (p : Program) (m : MethodId) (c : Code) (cc : ByteArray) (nL : Nat) (s : State) (args : Array Value) (Ts : List Cond) (own : String) (A : Nat → Prop) : Prop := CallFix p m c cc nL s args Ts own ∧ EnvOk X ∧ va_K D cl tys s ∧ X A s s.heap ∧ (∀ q : Nat, s.heap.size ≤ q → A q)
section FrameRows
variable {l : Launch} {D : va_G} {cl : List vw_C} {tys : List (ClassId × FieldType)} {X : EnvP} {y : MethodName} {Ws Ts' : List Cond} {rm : Room} {mc ms : Nat} {as : List Value} {wi : va_W} {S : Type} {wo : S → va_W} {post : S → Prop} {cc : ByteArray} {nL : Nat}
theorem CT.ofv (hX : EnvOk X) (hy : plainName y.cls = true) (hw : Ws = .code y cc nL none :: Ts') (hlen : (lg_sl as).length ≤ nL)
    (body : ∀ (p : Program) (e : Env) (s : State) (m : MethodId) (args : Array Value) (below : List Frame) (meth : Method) (c : Code) (A : Nat → Prop) (Q : State → Prop) (ls : Array Slot), Bd l D cl tys X p m c cc nL s args Ws y.cls A → meth.name = y.name → va_P D cl wi s.heap → va_D A wi → va_S A s.heap s.heap [] → lv_has ls nL (lv_args 0 as) →
      (∀ (u : S) (H : Heap) (locs : List Loc) (pc : Nat) (ls : Array Slot), decode cc pc = .ok (.return_, 1) → post u → va_P D cl (wo u) H → va_D A (wo u) → va_S A s.heap H locs → W p l e rm s m args below meth c H locs mc ms Q (F0 m pc ls [])) →
      W p l e rm s m args below meth c s.heap [] 0 0 Q (F0 m 0 ls [])) : CT l D cl tys X y Ws rm mc ms as wi wo (fun _ => none) post := by
  intro sz
  refine Met.ofW (cc := cc) (maxL := nL) (ret := none) hy hw ?_
  intro p e s m args below meth c s₁ B hml hv
  obtain ⟨rfl, hsz, hP, hK, hD0, hE⟩ := hv
  subst hsz
  have hD := hD0.self (sz := s.heap.size)
  have hl := lv_entry as hlen
  rw [lg_entry_eq]
  exact body p e s m _ below meth c (va_A wi s.heap.size) _ _ ⟨⟨B.exec, B.bytes, hml, findClass_of_methodNamed B.named, atoms_spec (ws := Ws) B.pre⟩, hX, hK, hE, fun q h => Or.inr h⟩ (name_of_methodNamed B.named B.method).1 hP hD va_S.rf hl
    (fun u H locs pc ls hd hp hP hD hS => W.vret B.exec B.bytes B.returns (fun t ht hW => ⟨⟨u, rfl, hp, by rw [ht]; exact hP, va_K.moved hW.alike hK, hD⟩, hS.F ht⟩) hS.2.2 hd B.notSynchronized)
theorem CT.ofi {fv : S → Int} (hX : EnvOk X) (hy : plainName y.cls = true) (hw : Ws = .code y cc nL (some .int) :: Ts') (hlen : (lg_sl as).length ≤ nL)
    (body : ∀ (p : Program) (e : Env) (s : State) (m : MethodId) (args : Array Value) (below : List Frame) (meth : Method) (c : Code) (A : Nat → Prop) (Q : State → Prop) (ls : Array Slot), Bd l D cl tys X p m c cc nL s args Ws y.cls A → meth.name = y.name → va_P D cl wi s.heap → va_D A wi → va_S A s.heap s.heap [] → lv_has ls nL (lv_args 0 as) →
      (∀ (u : S) (H : Heap) (locs : List Loc) (pc : Nat) (ls : Array Slot), decode cc pc = .ok (.ireturn, 1) → post u → va_P D cl (wo u) H → va_D A (wo u) → va_S A s.heap H locs → W p l e rm s m args below meth c H locs mc ms Q (F0 m pc ls [.int (iI (fv u))])) →
      W p l e rm s m args below meth c s.heap [] 0 0 Q (F0 m 0 ls [])) : CT l D cl tys X y Ws rm mc ms as wi wo (fun u => some (.int (iI (fv u)))) post := by
  intro sz
  refine Met.ofW (cc := cc) (maxL := nL) (ret := (some .int)) hy hw ?_
  intro p e s m args below meth c s₁ B hml hv
  obtain ⟨rfl, hsz, hP, hK, hD0, hE⟩ := hv
  subst hsz
  have hD := hD0.self (sz := s.heap.size)
  have hl := lv_entry as hlen
  rw [lg_entry_eq]
  exact body p e s m _ below meth c (va_A wi s.heap.size) _ _ ⟨⟨B.exec, B.bytes, hml, findClass_of_methodNamed B.named, atoms_spec (ws := Ws) B.pre⟩, hX, hK, hE, fun q h => Or.inr h⟩ (name_of_methodNamed B.named B.method).1 hP hD va_S.rf hl
    (fun u H locs pc ls hd hp hP hD hS => W.iret B.exec B.bytes B.returns (fun t ht hW => ⟨⟨u, rfl, hp, by rw [ht]; exact hP, va_K.moved hW.alike hK, hD⟩, hS.F ht⟩) hS.2.2 hd B.notSynchronized)
theorem bI_fit (b : Bool) : fits .boolean (.int (bI b)) = true := by cases b <;> decide
theorem bI_nar (b : Bool) : narrow .boolean (.int (bI b)) = .int (bI b) := by cases b <;> decide
theorem CT.ofz {fv : S → Bool} (hX : EnvOk X) (hy : plainName y.cls = true) (hw : Ws = .code y cc nL (some .boolean) :: Ts') (hlen : (lg_sl as).length ≤ nL)
    (body : ∀ (p : Program) (e : Env) (s : State) (m : MethodId) (args : Array Value) (below : List Frame) (meth : Method) (c : Code) (A : Nat → Prop) (Q : State → Prop) (ls : Array Slot), Bd l D cl tys X p m c cc nL s args Ws y.cls A → meth.name = y.name → va_P D cl wi s.heap → va_D A wi → va_S A s.heap s.heap [] → lv_has ls nL (lv_args 0 as) →
      (∀ (u : S) (H : Heap) (locs : List Loc) (pc : Nat) (ls : Array Slot), decode cc pc = .ok (.ireturn, 1) → post u → va_P D cl (wo u) H → va_D A (wo u) → va_S A s.heap H locs → W p l e rm s m args below meth c H locs mc ms Q (F0 m pc ls [.int (bI (fv u))])) →
      W p l e rm s m args below meth c s.heap [] 0 0 Q (F0 m 0 ls [])) : CT l D cl tys X y Ws rm mc ms as wi wo (fun u => some (.int (bI (fv u)))) post := by
  intro sz
  refine Met.ofW (cc := cc) (maxL := nL) (ret := (some .boolean)) hy hw ?_
  intro p e s m args below meth c s₁ B hml hv
  obtain ⟨rfl, hsz, hP, hK, hD0, hE⟩ := hv
  subst hsz
  have hD := hD0.self (sz := s.heap.size)
  have hl := lv_entry as hlen
  rw [lg_entry_eq]
  exact body p e s m _ below meth c (va_A wi s.heap.size) _ _ ⟨⟨B.exec, B.bytes, hml, findClass_of_methodNamed B.named, atoms_spec (ws := Ws) B.pre⟩, hX, hK, hE, fun q h => Or.inr h⟩ (name_of_methodNamed B.named B.method).1 hP hD va_S.rf hl
    (fun u H locs pc ls hd hp hP hD hS => W.zret B.exec B.bytes B.returns (bI_nar _) (fun t ht hW => ⟨⟨u, rfl, hp, by rw [ht]; exact hP, va_K.moved hW.alike hK, hD⟩, hS.F ht⟩) hS.2.2 hd B.notSynchronized)
theorem CT.ofl {fv : S → Int} (hX : EnvOk X) (hy : plainName y.cls = true) (hw : Ws = .code y cc nL (some .long) :: Ts') (hlen : (lg_sl as).length ≤ nL)
    (body : ∀ (p : Program) (e : Env) (s : State) (m : MethodId) (args : Array Value) (below : List Frame) (meth : Method) (c : Code) (A : Nat → Prop) (Q : State → Prop) (ls : Array Slot), Bd l D cl tys X p m c cc nL s args Ws y.cls A → meth.name = y.name → va_P D cl wi s.heap → va_D A wi → va_S A s.heap s.heap [] → lv_has ls nL (lv_args 0 as) →
      (∀ (u : S) (H : Heap) (locs : List Loc) (pc : Nat) (ls : Array Slot), decode cc pc = .ok (.lreturn, 1) → post u → va_P D cl (wo u) H → va_D A (wo u) → va_S A s.heap H locs → W p l e rm s m args below meth c H locs mc ms Q (F0 m pc ls [.long (lI (fv u))])) →
      W p l e rm s m args below meth c s.heap [] 0 0 Q (F0 m 0 ls [])) : CT l D cl tys X y Ws rm mc ms as wi wo (fun u => some (.long (lI (fv u)))) post := by
  intro sz
  refine Met.ofW (cc := cc) (maxL := nL) (ret := (some .long)) hy hw ?_
  intro p e s m args below meth c s₁ B hml hv
  obtain ⟨rfl, hsz, hP, hK, hD0, hE⟩ := hv
  subst hsz
  have hD := hD0.self (sz := s.heap.size)
  have hl := lv_entry as hlen
  rw [lg_entry_eq]
  exact body p e s m _ below meth c (va_A wi s.heap.size) _ _ ⟨⟨B.exec, B.bytes, hml, findClass_of_methodNamed B.named, atoms_spec (ws := Ws) B.pre⟩, hX, hK, hE, fun q h => Or.inr h⟩ (name_of_methodNamed B.named B.method).1 hP hD va_S.rf hl
    (fun u H locs pc ls hd hp hP hD hS => W.lret B.exec B.bytes B.returns (fun t ht hW => ⟨⟨u, rfl, hp, by rw [ht]; exact hP, va_K.moved hW.alike hK, hD⟩, hS.F ht⟩) hS.2.2 hd B.notSynchronized)
theorem CT.ofn {fv : S → Int} {rt : FieldType} (hX : EnvOk X) (hy : plainName y.cls = true) (hw : Ws = .code y cc nL (some rt) :: Ts') (hlen : (lg_sl as).length ≤ nL) (hnar : ∀ u : S, post u → narrow rt (.int (iI (fv u))) = .int (iI (fv u)))
    (body : ∀ (p : Program) (e : Env) (s : State) (m : MethodId) (args : Array Value) (below : List Frame) (meth : Method) (c : Code) (A : Nat → Prop) (Q : State → Prop) (ls : Array Slot), Bd l D cl tys X p m c cc nL s args Ws y.cls A → meth.name = y.name → va_P D cl wi s.heap → va_D A wi → va_S A s.heap s.heap [] → lv_has ls nL (lv_args 0 as) →
      (∀ (u : S) (H : Heap) (locs : List Loc) (pc : Nat) (ls : Array Slot), decode cc pc = .ok (.ireturn, 1) → post u → va_P D cl (wo u) H → va_D A (wo u) → va_S A s.heap H locs → W p l e rm s m args below meth c H locs mc ms Q (F0 m pc ls [.int (iI (fv u))])) →
      W p l e rm s m args below meth c s.heap [] 0 0 Q (F0 m 0 ls [])) : CT l D cl tys X y Ws rm mc ms as wi wo (fun u => some (.int (iI (fv u)))) post := by
  intro sz
  refine Met.ofW (cc := cc) (maxL := nL) (ret := (some rt)) hy hw ?_
  intro p e s m args below meth c s₁ B hml hv
  obtain ⟨rfl, hsz, hP, hK, hD0, hE⟩ := hv
  subst hsz
  have hD := hD0.self (sz := s.heap.size)
  have hl := lv_entry as hlen
  rw [lg_entry_eq]
  exact body p e s m _ below meth c (va_A wi s.heap.size) _ _ ⟨⟨B.exec, B.bytes, hml, findClass_of_methodNamed B.named, atoms_spec (ws := Ws) B.pre⟩, hX, hK, hE, fun q h => Or.inr h⟩ (name_of_methodNamed B.named B.method).1 hP hD va_S.rf hl
    (fun u H locs pc ls hd hp hP hD hS => W.zret B.exec B.bytes B.returns (hnar u hp) (fun t ht hW => ⟨⟨u, rfl, hp, by rw [ht]; exact hP, va_K.moved hW.alike hK, hD⟩, hS.F ht⟩) hS.2.2 hd B.notSynchronized)
theorem CT.ofr {fv : S → Nat} {rt : FieldType} (hX : EnvOk X) (hy : plainName y.cls = true) (hw : Ws = .code y cc nL (some rt) :: Ts') (hlen : (lg_sl as).length ≤ nL) (hrt : (∃ n, rt = .object n) ∨ ∃ t, rt = .array t)
    (body : ∀ (p : Program) (e : Env) (s : State) (m : MethodId) (args : Array Value) (below : List Frame) (meth : Method) (c : Code) (A : Nat → Prop) (Q : State → Prop) (ls : Array Slot), Bd l D cl tys X p m c cc nL s args Ws y.cls A → meth.name = y.name → va_P D cl wi s.heap → va_D A wi → va_S A s.heap s.heap [] → lv_has ls nL (lv_args 0 as) →
      (∀ (u : S) (H : Heap) (locs : List Loc) (pc : Nat) (ls : Array Slot), decode cc pc = .ok (.areturn, 1) → post u → va_P D cl (wo u) H → va_D A (wo u) → va_S A s.heap H locs → W p l e rm s m args below meth c H locs mc ms Q (F0 m pc ls [.ref (fv u)])) →
      W p l e rm s m args below meth c s.heap [] 0 0 Q (F0 m 0 ls [])) : CT l D cl tys X y Ws rm mc ms as wi wo (fun u => some (.ref (fv u))) post := by
  intro sz
  refine Met.ofW (cc := cc) (maxL := nL) (ret := (some rt)) hy hw ?_
  intro p e s m args below meth c s₁ B hml hv
  obtain ⟨rfl, hsz, hP, hK, hD0, hE⟩ := hv
  subst hsz
  have hD := hD0.self (sz := s.heap.size)
  have hl := lv_entry as hlen
  rw [lg_entry_eq]
  exact body p e s m _ below meth c (va_A wi s.heap.size) _ _ ⟨⟨B.exec, B.bytes, hml, findClass_of_methodNamed B.named, atoms_spec (ws := Ws) B.pre⟩, hX, hK, hE, fun q h => Or.inr h⟩ (name_of_methodNamed B.named B.method).1 hP hD va_S.rf hl
    (fun u H locs pc ls hd hp hP hD hS => W.aret B.exec B.bytes B.returns hrt (Or.inr ⟨_, rfl⟩) (fun t ht hW => ⟨⟨u, rfl, hp, by rw [ht]; exact hP, va_K.moved hW.alike hK, hD⟩, hS.F ht⟩) hS.2.2 hd B.notSynchronized)
end FrameRows
section CallRows
variable {p : Program} {l : Launch} {e : Env} {R : Room} {s : State} {m : MethodId} {args : Array Value} {below : List Frame} {meth : Method} {c : Code} {H : Heap} {locs : List Loc} {cells slots : Nat} {Q : State → Prop} {pc : Nat} {ls : Array Slot} {rest : List Value}
variable {D : va_G} {cl : List vw_C} {tys : List (ClassId × FieldType)} {X : EnvP} {y : MethodName} {Ws : List Cond} {rm : Room} {mc ms : Nat} {As : List Value} {wi ws wr : va_W} {S : Type} {wo : S → va_W} {rv : S → Option Value} {post : S → Prop} {cc bytes : ByteArray} {nL maxL n index : Nat} {ret : Option FieldType} {A : Nat → Prop} {Ts : List Cond} {own : String}
/-- behind a call: the callee's cells as it left them, the rest as it was -/
theorem ct_after {st0 : List Value} {a : Array Value} (hr : va_Run p l e R s m args below meth c H locs cells slots mc ms (F0 m pc ls st0) rest (cQ D cl tys rv post wo (va_A wi H.size) a) (va_A wi H.size)) (hP : va_P D cl ws H) (hD : va_D A ws) (hS : va_S A s.heap H locs) (hA : ∀ q : Nat, s.heap.size ≤ q → A q)
    (isC isR : List Nat) (hC : isC.map (fun i => ws[i]?) = wi.map some) (hR : isR.map (fun i => ws[i]?) = wr.map some) (hn : va_nd isR = true) (hdis : ∀ i ∈ isR, i ∉ isC)
    (kk : ∀ (u : S) (H1 : Heap) (locs1 : List Loc), post u → va_P D cl (wr ++ wo u) H1 → va_D A (wr ++ wo u) → va_S A s.heap H1 locs1 → W p l e R s m args below meth c H1 locs1 (cells + mc) (slots + ms) Q (F0 m (pc + 3) ls ((rv u).toList ++ rest))) : W p l e R s m args below meth c H locs cells slots Q (F0 m pc ls st0) := by
  have hF := va_free (wc := wi) hD hS hA isC hC
  intro T hT X0
  obtain ⟨v, st₀, t, T', L, h0, X', hL, e1, e2, ⟨⟨u, hv, hp, hP1, -, hD1⟩, hz, hk⟩, st⟩ := hr T hT X0
  cases hv
  rw [h0] at hz hk
  rw [← e1] at hP1 hz hk
  obtain ⟨hP2, hD2⟩ := va_join hP hD isC isR hC hR hn hdis hk hF hP1 hD1
  obtain ⟨t2, a1, b1⟩ := kk u T'.heap (locs ++ L) hp hP2 hD2 ⟨Nat.le_trans hS.1 hz, fun q h1 h2 => by rw [hk q (Nat.lt_of_lt_of_le h1 hS.1) (fun z => h2 (hF q z))]; exact hS.2.1 q h1 h2, fun q hq => by
      rcases List.mem_append.mp hq with h | h
      · exact hS.2.2 q h
      · exact hF _ (hL q h)⟩ T' rfl X'
  exact ⟨t2, st t2 a1, b1⟩
/-- before a call: the callee's start -/
theorem ct_pre {as : List Value} (hX : EnvOk X) (hK : va_K D cl tys s) (hE : X A s s.heap) (hA : ∀ q : Nat, s.heap.size ≤ q → A q) (hP : va_P D cl ws H) (hD : va_D A ws) (hS : va_S A s.heap H locs) (isC : List Nat) (hC : isC.map (fun i => ws[i]?) = wi.map some) (hnC : va_nd isC = true) :
    ∀ U : State, U.heap = H → s.WarmedH U.vm → va_Pc as (cPre D cl tys X wi H.size) as.toArray U := by
  intro U hU hW
  have hF := va_free (wc := wi) hD hS hA isC hC
  have hPc : va_P D cl wi H := hP.sub isC (by
    have e : (isC.map (fun i => ws[i]?)).filterMap id = (wi.map some).filterMap id := by rw [hC]
    simpa [List.filterMap_map] using e)
  have hDc := hD.sub isC hnC hC
  have hE1 : X A s H := hX.2.2.1 _ _ _ _ hE (fun a h1 h2 => hS.2.1 a h1 h2)
  refine ⟨rfl, by rw [hU], by rw [hU]; exact hPc, va_K.moved hW.alike hK, hDc.weaken (fun _ _ _ _ => trivial), ?_⟩
  rw [hU]
  exact hX.1 _ _ _ _ hW (hX.2.2.2 _ _ _ _ hE1 hF)
theorem ct_callV {b : Nat} {C : String} (B : Bd l D cl tys X p m c cc nL s args Ts own A) (hM : CT l D cl tys X y Ws rm mc ms (.ref b :: As) wi wo rv post) (cw : CallW R s args own C index y bytes maxL ret Ws rm mc ms n) (hP : va_P D cl ws H) (hD : va_D A ws) (hS : va_S A s.heap H locs) (isC isR : List Nat) (hC : isC.map (fun i => ws[i]?) = wi.map some) (hnC : va_nd isC = true) (hR : isR.map (fun i => ws[i]?) = wr.map some) (hn : va_nd isR = true) (hdis : ∀ i ∈ isR, i ∉ isC) (q0 : Nat) {ci : Nat} {q : vw_C} {fs : List Value} (hc : cl[ci]? = some q) (hq : q.1 = C) (he : ws[q0]? = some (b, .inr (ci, fs))) (hls : ls.size = nL) (hlen : As.length = n) (hrm : (rest.map fun v => v.category).sum ≤ 8) (hd : decode cc pc = .ok (.invokevirtual index, 3)) (hf : cells + mc ≤ R.cells ∧ slots + ms ≤ R.slots) {st0 : List Value} (hst : st0 = As.reverse ++ .ref b :: rest)
    (kk : ∀ (u : S) (H1 : Heap) (locs1 : List Loc), post u → va_P D cl (wr ++ wo u) H1 → va_D A (wr ++ wo u) → va_S A s.heap H1 locs1 → W p l e R s m args below meth c H1 locs1 (cells + mc) (slots + ms) Q (F0 m (pc + 3) ls ((rv u).toList ++ rest))) : W p l e R s m args below meth c H locs cells slots Q (F0 m pc ls st0) := by
  obtain ⟨C0, hX, hK, hE, hA⟩ := B
  subst hst
  subst hq
  exact ct_after (va_runV (As := As) (rest := rest) C0 (hM H.size) cw ⟨cPre_blind hX, va_recv hK hP hc he, ct_pre hX hK hE hA hP hD hS isC hC hnC⟩ rfl hlen hls rfl (lv_room hrm) hd hf) hP hD hS hA isC isR hC hR hn hdis kk
theorem ct_callO {b : Nat} {C : String} (B : Bd l D cl tys X p m c cc nL s args Ts own A) (hM : CT l D cl tys X y Ws rm mc ms (.ref b :: As) wi wo rv post) (cw : CallW R s args own C index y bytes maxL ret Ws rm mc ms n) (hP : va_P D cl ws H) (hD : va_D A ws) (hS : va_S A s.heap H locs) (isC isR : List Nat) (hC : isC.map (fun i => ws[i]?) = wi.map some) (hnC : va_nd isC = true) (hR : isR.map (fun i => ws[i]?) = wr.map some) (hn : va_nd isR = true) (hdis : ∀ i ∈ isR, i ∉ isC) (hrc : ∃ cell : Cell, H[b]? = some cell ∧ cell.vm.isStatics = false ∧ s.vm.findClass C = some cell.cls) (hls : ls.size = nL) (hlen : As.length = n) (hrm : (rest.map fun v => v.category).sum ≤ 8) (hd : decode cc pc = .ok (.invokevirtual index, 3)) (hf : cells + mc ≤ R.cells ∧ slots + ms ≤ R.slots) {st0 : List Value} (hst : st0 = As.reverse ++ .ref b :: rest)
    (kk : ∀ (u : S) (H1 : Heap) (locs1 : List Loc), post u → va_P D cl (wr ++ wo u) H1 → va_D A (wr ++ wo u) → va_S A s.heap H1 locs1 → W p l e R s m args below meth c H1 locs1 (cells + mc) (slots + ms) Q (F0 m (pc + 3) ls ((rv u).toList ++ rest))) : W p l e R s m args below meth c H locs cells slots Q (F0 m pc ls st0) := by
  obtain ⟨C0, hX, hK, hE, hA⟩ := B
  subst hst
  exact ct_after (va_runV (As := As) (rest := rest) C0 (hM H.size) cw ⟨cPre_blind hX, hrc, ct_pre hX hK hE hA hP hD hS isC hC hnC⟩ rfl hlen hls rfl (lv_room hrm) hd hf) hP hD hS hA isC isR hC hR hn hdis kk
theorem ct_callS (B : Bd l D cl tys X p m c cc nL s args Ts own A) (hM : CT l D cl tys X y Ws rm mc ms As wi wo rv post) (cw : CallB R s args own index y bytes maxL ret Ws rm mc ms n ∧ (Cond.static y).before args s = true) (hP : va_P D cl ws H) (hD : va_D A ws) (hS : va_S A s.heap H locs) (isC isR : List Nat) (hC : isC.map (fun i => ws[i]?) = wi.map some) (hnC : va_nd isC = true) (hR : isR.map (fun i => ws[i]?) = wr.map some) (hn : va_nd isR = true) (hdis : ∀ i ∈ isR, i ∉ isC) (hls : ls.size = nL) (hlen : As.length = n) (hrm : (rest.map fun v => v.category).sum ≤ 8) (hd : decode cc pc = .ok (.invokestatic index, 3)) (hf : cells + mc ≤ R.cells ∧ slots + ms ≤ R.slots) {st0 : List Value} (hst : st0 = As.reverse ++ rest)
    (kk : ∀ (u : S) (H1 : Heap) (locs1 : List Loc), post u → va_P D cl (wr ++ wo u) H1 → va_D A (wr ++ wo u) → va_S A s.heap H1 locs1 → W p l e R s m args below meth c H1 locs1 (cells + mc) (slots + ms) Q (F0 m (pc + 3) ls ((rv u).toList ++ rest))) : W p l e R s m args below meth c H locs cells slots Q (F0 m pc ls st0) := by
  obtain ⟨C0, hX, hK, hE, hA⟩ := B
  subst hst
  exact ct_after (va_runS (As := As) (rest := rest) C0 (hM H.size) cw ⟨cPre_blind hX, ct_pre hX hK hE hA hP hD hS isC hC hnC⟩ rfl hlen hls rfl (lv_room hrm) hd hf) hP hD hS hA isC isR hC hR hn hdis kk
theorem ct_callI {b : Nat} (B : Bd l D cl tys X p m c cc nL s args Ts own A) (hM : CT l D cl tys X y Ws rm mc ms (.ref b :: As) wi wo rv post) (cw : CallB R s args own index y bytes maxL none Ws rm mc ms n ∧ y.name = "<init>" ∧ (Cond.instanceMethod y).before args s = true) (hP : va_P D cl ws H) (hD : va_D A ws) (hS : va_S A s.heap H locs) (isC isR : List Nat) (hC : isC.map (fun i => ws[i]?) = wi.map some) (hnC : va_nd isC = true) (hR : isR.map (fun i => ws[i]?) = wr.map some) (hn : va_nd isR = true) (hdis : ∀ i ∈ isR, i ∉ isC) (hls : ls.size = nL) (hlen : As.length = n) (hrm : (rest.map fun v => v.category).sum ≤ 8) (hd : decode cc pc = .ok (.invokespecial index, 3)) (hf : cells + mc ≤ R.cells ∧ slots + ms ≤ R.slots) {st0 : List Value} (hst : st0 = As.reverse ++ .ref b :: rest)
    (kk : ∀ (u : S) (H1 : Heap) (locs1 : List Loc), post u → va_P D cl (wr ++ wo u) H1 → va_D A (wr ++ wo u) → va_S A s.heap H1 locs1 → W p l e R s m args below meth c H1 locs1 (cells + mc) (slots + ms) Q (F0 m (pc + 3) ls ((rv u).toList ++ rest))) : W p l e R s m args below meth c H locs cells slots Q (F0 m pc ls st0) := by
  obtain ⟨C0, hX, hK, hE, hA⟩ := B
  subst hst
  exact ct_after (va_runI (As := As) (rest := rest) C0 (hM H.size) cw ⟨cPre_blind hX, ct_pre hX hK hE hA hP hD hS isC hC hnC⟩ rfl hlen hls rfl (lv_room hrm) hd hf) hP hD hS hA isC isR hC hR hn hdis kk
theorem ct_callSN {host : String} (B : Bd l D cl tys X p m c cc nL s args Ts own A) (hM : CT l D cl tys X y Ws rm mc ms As wi wo rv post) (cw : va_CN R s args own index y host bytes maxL ret Ws rm mc ms n ∧ (Cond.static y).before args s = true ∧ True) (hP : va_P D cl ws H) (hD : va_D A ws) (hS : va_S A s.heap H locs) (isC isR : List Nat) (hC : isC.map (fun i => ws[i]?) = wi.map some) (hnC : va_nd isC = true) (hR : isR.map (fun i => ws[i]?) = wr.map some) (hn : va_nd isR = true) (hdis : ∀ i ∈ isR, i ∉ isC) (hls : ls.size = nL) (hlen : As.length = n) (hrm : (rest.map fun v => v.category).sum ≤ 8) (hd : decode cc pc = .ok (.invokestatic index, 3)) (hf : cells + mc ≤ R.cells ∧ slots + ms ≤ R.slots) {st0 : List Value} (hst : st0 = As.reverse ++ rest)
    (kk : ∀ (u : S) (H1 : Heap) (locs1 : List Loc), post u → va_P D cl (wr ++ wo u) H1 → va_D A (wr ++ wo u) → va_S A s.heap H1 locs1 → W p l e R s m args below meth c H1 locs1 (cells + mc) (slots + ms) Q (F0 m (pc + 3) ls ((rv u).toList ++ rest))) : W p l e R s m args below meth c H locs cells slots Q (F0 m pc ls st0) := by
  obtain ⟨C0, hX, hK, hE, hA⟩ := B
  subst hst
  exact ct_after (va_runSN (As := As) (rest := rest) C0 (hM H.size) cw ⟨cPre_blind hX, ct_pre hX hK hE hA hP hD hS isC hC hnC⟩ rfl hlen hls rfl (lv_room hrm) hd hf) hP hD hS hA isC isR hC hR hn hdis kk
end CallRows
