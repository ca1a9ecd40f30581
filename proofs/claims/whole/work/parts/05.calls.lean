/-! contracts and calls -/
def xGs (z : Nat) (H0 : Heap) (U : State) : Prop := va_Zq "java/lang/Throwable" "UNASSIGNED_STACK" "[Ljava/lang/StackTraceElement;" (fun q => z ≤ q) U H0 ∧ va_Zq "java/lang/Throwable" "SUPPRESSED_SENTINEL" "Ljava/util/List;" (fun q => z ≤ q) U H0 ∧ (∀ q ∈ xstr, ∃ a, vk_R q.1 q.2.1 q.2.2 a U) ∧ ∀ w ∈ xnw, va_Nw w U
theorem xGs.moved {z : Nat} {H0 : Heap} {s U : State} (hW : s.WarmedH U.vm) (h : xGs z H0 s) : xGs z H0 U := ⟨va_Zq.moved hW.alike h.1, va_Zq.moved hW.alike h.2.1, fun q hq => by
  obtain ⟨a, ha⟩ := h.2.2.1 q hq
  exact ⟨a, vk_R.warm hW ha⟩, fun w hw => xnw_warm (List.mem_filter.mp hw).2 hW (h.2.2.2 w hw)⟩
def xrm (d mc ms : Nat) : Room := { frames := d, cells := mc, slots := ms, locals := 60 * d }
def xPc (cl : List vw_C) (D : va_G) (ts : Nat → ClassId) (z : Nat) (H0 : Heap) (av : List Value) (ct : xCT) : Array Value → State → Prop := fun v U => v = av.toArray ∧ va_K D cl (xtys ts) U ∧ xGs z H0 U ∧ xw cl D z H0 ct U.heap
def xQ (cl : List vw_C) (D : va_G) (z : Nat) (H0 : Heap) (mc ms : Nat) (Z : xZ) : Array Value → State → Outcome → State → Prop := fun _ st o t => ∃ (L : List Loc) (ct' : xCT), (∀ q ∈ L, z ≤ q.base) ∧ st.WarmedH t.vm ∧ st.sameButNew ({ t with vm := st.vm } : State) L mc ms ∧ xw cl D z H0 ct' t.heap ∧
  ((∃ r : Option Value, o = .returned r ∧ Z (.inl r) ct') ∨ ∃ (q : Addr) (E : String) (ce : Cell), o = .threw q ∧ t.heap[q]? = some ce ∧ ce.vm = .none ∧ st.vm.findClass E = some ce.cls ∧ Z (.inr E) ct')
/-- the contract of a method: from every picture and every end Z for which its own condition sp holds, it comes to Z -/
def xM (cl : List vw_C) (xt : List Cond) (l : Launch) (y : MethodName) (hw : Cond) (d mc ms : Nat) (sp : xS) : Prop :=
  ∀ (D : va_G) (ts : Nat → ClassId) (z : Nat) (H0 : Heap) (av : List Value) (ct : xCT) (Z : xZ), sp ts z av ct Z → MetFree l y (headSpec (hw :: xt) (xrm d mc ms)) (xPc cl D ts z H0 av ct) (fun _ _ _ _ _ => True) (xQ cl D z H0 mc ms Z)
def xMQ (below : List Frame) (Qx : Array Value → State → Outcome → State → Prop) (a : Array Value) (s : State) : State → Prop := fun t => ∃ o, t.status = .running ∧ Ended t below o ∧ Qx a s o t
section XC
variable {cl : List vw_C} {D : va_G} {ts : Nat → ClassId} {z : Nat} {H0 : Heap} {nL : Nat} {p : Program} {l : Launch} {e : Env} {R : Room} {s : State} {m : MethodId} {args : Array Value} {below : List Frame} {meth : Method} {c : Code} {Q : State → Prop}
variable {cc : ByteArray} {pc nx tg nc ns : Nat} {ls : xL} {st r : List Value} {ct : xCT} {xt : List Cond} {T : State} {locs : List Loc} {cells slots : Nat}
/-- the callee runs, from the state behind the linking -/
theorem x_run {y : MethodName} {hw : Cond} {d kc ks maxL : Nat} {sp : xS} {As : List Value} {Z' : xZ} (hM : xM cl xt l y hw d kc ks sp) (X : Stand p l e R s m args below meth c T locs nc ns)
    (hK : va_K D cl (xtys ts) T) (hG : xGs z H0 T) (hwd : xw cl D z H0 ct T.heap) (hsp : sp ts z As ct Z') {g : JFrame} (hg : g.method = m) (hsize : g.locals.size = c.maxLocals) {ig : Instr} {len : Nat} (hdg : decode c.code g.pc = .ok (ig, len))
    (hW : 2 * g.monitorRoom + (g.stack.map fun v => v.category).sum ≤ 8) {mk : MethodId} (hn : T.methodNamed? y = some mk) (hws : ∀ w ∈ hw :: xt, w.before As.toArray T = true) {methY : Method} {cY : Code} (hmY : T.vm.method? mk = some methY) (hcY : methY.code = some cY) (hlY : cY.maxLocals = maxL)
    (hini : (Cond.initialized y.cls).before As.toArray T = true) (hfr : d + 1 ≤ R.frames) (hlo : 8 + (maxL + 11) + 60 * d ≤ R.locals) (hc : nc + kc ≤ R.cells) (hs : ns + ks ≤ R.slots) :
    ∃ (o : Outcome) (t : State), Steps p.tables e below (doInvoke e (T.setTop g) [] mk As.toArray).1 t ∧ Ended t (.java g :: below) o ∧ xQ cl D z H0 kc ks Z' As.toArray (T.calling g mk As.toArray) o t := by
  obtain ⟨kY, hkY, -⟩ := className_of_methodNamed hn
  have hinitY : kY.init = .initialized := Cond.initialized_spec (findClass_of_methodNamed hn) hkY hini
  have h : At T g.method c below := by rw [hg]; exact X.here
  have happ : (headSpec (hw :: xt) (xrm d kc ks)).appliesLoose y e.platform (T.calling g mk As.toArray) = true :=
    Spec.appliesLoose_calling (g := g) h hdg hn hkY hinitY
      (X.room_calling (g := g) (R' := (headSpec (hw :: xt) (xrm d kc ks)).room) hsize hmY hcY hfr (by rw [hlY]; show _ + 60 * d ≤ _; omega) hc hs) (atoms_intro hws)
  obtain ⟨mid, hmid⟩ := h.above
  have hfr : (T.setTop g).frames = (.java g :: mid) ++ below := by rw [State.frames_setTop' g h.top, hmid]; rfl
  obtain ⟨o, s₂, hsteps, -, hend, hq⟩ := Steps.callFree (hM D ts z H0 As ct Z' hsp) p X.admits X.cas X.clock (acts := []) hfr happ ⟨rfl, va_K.moved (u := T) (U := T.calling g mk As.toArray) (Vm.Alike.refl T.vm) hK, xGs.moved (s := T) (U := T.calling g mk As.toArray) (State.WarmedH.refl T) hG, hwd⟩ trivial
  rw [State.frames_setTop' g h.top, X.tail] at hend
  exact ⟨o, s₂, hsteps, hend, hq⟩
/-- where something has been thrown: the machine comes to its end from here -/
def xX (cl : List vw_C) (D : va_G) (z : Nat) (H0 : Heap) (nL : Nat) (p : Program) (l : Launch) (e : Env) (R : Room) (s : State) (m : MethodId) (args : Array Value) (below : List Frame) (meth : Method) (c : Code) (Q : State → Prop) (pc nc ns : Nat) (ls : xL) (E : String) (ct : xCT) : Prop :=
  ∀ (H : Heap) (locs : List Loc) (la : Array Slot) (st : List Value) (q : Addr) (ce : Cell), xw cl D z H0 ct H → xlv la nL ls → (∀ q ∈ locs, z ≤ q.base) → H[q]? = some ce → ce.vm = .none → s.vm.findClass E = some ce.cls →
    ∀ T : State, T.heap = H → Stand p l e R s m args below meth c T locs nc ns → ∃ t, Steps p.tables e below ((T.setTop (F0 m pc la st)).pushFrame (.throwing q)) t ∧ Q t
/-- the linking of a call, whatever the state -/
def xInv (cl : List vw_C) (D : va_G) (z : Nat) (H0 : Heap) (p : Program) (l : Launch) (e : Env) (R : Room) (s : State) (m : MethodId) (args : Array Value) (below : List Frame) (meth : Method) (c : Code) (y : MethodName) (pc : Nat) (ct : xCT) (As rest : List Value) : Prop :=
  ∀ (T : State) (locs : List Loc) (nc ns : Nat) (la : Array Slot), xw cl D z H0 ct T.heap → Stand p l e R s m args below meth c T locs nc ns → ∃ (vm₁ : Vm) (mk : MethodId), s.methodNamed? y = some mk ∧ Stand p l e R s m args below meth c (T.setVm vm₁) locs nc ns ∧
    ∀ target, Steps p.tables e below (doInvoke e ((T.setVm vm₁).setTop (F0 m pc la rest)) [] mk As.toArray).1 target → Steps p.tables e below (T.setTop (F0 m pc la (As.reverse ++ rest))) target
/-- A CALL: the callee's condition, and what follows in both cases -/
theorem x_call {y : MethodName} {hw : Cond} {d kc ks maxL : Nat} {sp : xS} {As rest : List Value} {Z' : xZ} {ig : Instr} (hM : xM cl xt l y hw d kc ks sp) (hml : c.maxLocals = nL) (hb : c.code = cc)
    (hK : va_K D cl (xtys ts) s) (hG : xGs z H0 s) (hinv : xInv cl D z H0 p l e R s m args below meth c y pc ct As rest) (hdg : decode cc pc = .ok (ig, 3)) (hW : (rest.map fun v => v.category).sum ≤ 8)
    (hws : ∀ w ∈ hw :: xt, ∀ (a' : Array Value) (U : State), s.WarmedH U.vm → w.before a' U = true) (hcode : ∀ mk, s.methodNamed? y = some mk → ∃ methY cY, s.vm.method? mk = some methY ∧ methY.code = some cY ∧ cY.maxLocals = maxL)
    (hini : (Cond.initialized y.cls).before args s = true) (hfr : d + 1 ≤ R.frames) (hlo : 8 + (maxL + 11) + 60 * d ≤ R.locals) (hc : nc + kc ≤ R.cells) (hs : ns + ks ≤ R.slots) (hsp : sp ts z As ct Z')
    (k1 : ∀ (v : Option Value) (ct' : xCT), Z' (.inl v) ct' → xW cl D z H0 nL p l e R s m args below meth c Q (pc + 3) (nc + kc) (ns + ks) ls (v.toList ++ rest) ct')
    (k2 : ∀ (E : String) (ct' : xCT), Z' (.inr E) ct' → xX cl D z H0 nL p l e R s m args below meth c Q pc (nc + kc) (ns + ks) ls E ct') :
    xW cl D z H0 nL p l e R s m args below meth c Q pc nc ns ls (As.reverse ++ rest) ct := by
  intro H locs la hwd hl hq T hT X
  subst hT
  obtain ⟨vm₁, mk, hnm, X₁, hst⟩ := hinv T locs nc ns la hwd X
  have hW1 : s.WarmedH (T.setVm vm₁).vm := X₁.warmed
  obtain ⟨methY, cY, q1, q2, q3⟩ := hcode mk hnm
  have hdg' : decode c.code (F0 m pc la rest).pc = .ok (ig, 3) := by rw [hb]; exact hdg
  obtain ⟨o, t, hsteps, hend, L, ct', hL, hWt, hsame, hwd', ho⟩ := x_run (ts := ts) (g := F0 m pc la rest) (maxL := maxL) hM X₁ (va_K.moved hW1.alike hK) (xGs.moved hW1 hG) hwd hsp rfl (hl.1.trans hml.symm) hdg' (lv_room hW) (X₁.named hnm) (fun w hw' => hws w hw' _ _ hW1) (by rw [hW1.alike.method?]; exact q1) q2 q3
    (word_at hW1 (Or.inl (by first | rfl | simp [Cond.onTables, Cond.keeps, Cond.steady])) hini) hfr hlo hc hs
  rcases ho with ⟨v, rfl, hZ⟩ | ⟨q, E, ce, rfl, hce, hcv, hcl, hZ⟩
  · obtain ⟨T', X', hW', -, ht⟩ := X₁.outOf (g := F0 m pc la rest) rfl hdg' hend hWt hsame
    have hh : T'.heap = t.heap := by rw [ht, State.heap_setTop]
    obtain ⟨t2, a1, b1⟩ := k1 v ct' hZ T'.heap (locs ++ L) la (by rw [hh]; exact hwd') hl (fun q hq' => (List.mem_append.mp hq').elim (hq q) (hL q)) T' rfl X'
    refine ⟨t2, hst t2 (hsteps.trans ?_), b1⟩
    rw [ht]
    exact a1
  · obtain ⟨T', X', hW', -, ht⟩ := X₁.outOfThrown (g := F0 m pc la rest) rfl hend hWt hsame
    have hh : T'.heap = t.heap := by rw [ht]; rfl
    have hcl' : s.vm.findClass E = some ce.cls := by
      have h9 : (T.setVm vm₁).vm.findClass E = some ce.cls := hcl
      rw [hW1.alike.findClass] at h9
      exact h9
    obtain ⟨t2, a1, b1⟩ := k2 E ct' hZ T'.heap (locs ++ L) la rest q ce (by rw [hh]; exact hwd') hl (fun q hq' => (List.mem_append.mp hq').elim (hq q) (hL q)) (by rw [hh]; exact hce) hcv hcl' T' rfl X'
    refine ⟨t2, hst t2 (hsteps.trans ?_), b1⟩
    rw [ht]
    exact a1
/-! the linkings -/
theorem xi_static {own : String} {index : Nat} {y : MethodName} {bytes : ByteArray} {maxL n : Nat} {ret : Option FieldType} {As rest : List Value} (hx : p.tables.exec = Jvm.exec) (hb : c.code = cc) (hown : s.vm.findClass own = some m.cls) (hlink : (Cond.methodLink own index y).before args s = true) (hstat : (Cond.static y).before args s = true) (hinit : (Cond.initialized y.cls).before args s = true)
    (hcode : (Cond.code y bytes maxL ret).before args s = true) (hy : y.cls ≠ "java/lang/invoke/MethodHandle" ∧ y.cls ≠ "java/lang/invoke/VarHandle" ∧ (parseMethodDescriptor y.desc).map (fun d => d.parameters.length) = some n) (hn : As.length = n) (hdg : decode cc pc = .ok (.invokestatic index, 3)) :
    xInv cl D z H0 p l e R s m args below meth c y pc ct As rest := by
  intro T locs nc ns la hwd X
  obtain ⟨mk, hnamed⟩ := Cond.code_named hcode
  obtain ⟨methM, cM, hmethM, -, -, -, -, -, -, hsigM⟩ := Cond.code_spec hnamed hcode
  have hstatic : methM.isStatic = true := Cond.static_spec hnamed hmethM hstat
  obtain ⟨kP, hkP, -⟩ := className_of_methodNamed hnamed
  have hinitP : kP.init = .initialized := Cond.initialized_spec (findClass_of_methodNamed hnamed) hkP hinit
  have hlen : As.length = methM.sig.parameters.length := by
    have h2 := hy.2.2
    rw [hsigM] at h2
    rw [hn]
    exact (Option.some.inj h2).symm
  obtain ⟨vm₁, X₁, hstep₁⟩ := X.invokestatic hx hown hlink hnamed hmethM hstatic hkP hinitP ⟨hy.1, hy.2.1⟩ (g := F0 m pc la (As.reverse ++ rest)) rfl (argsL := As) (rest := rest) hlen rfl (by rw [hb]; exact hdg)
  exact ⟨vm₁, mk, hnamed, X₁, fun target h => hstep₁ _ fun acts => by rw [doInvoke_state]; exact h⟩
theorem xi_staticN {own host : String} {index : Nat} {y : MethodName} {bytes : ByteArray} {maxL n : Nat} {ret : Option FieldType} {As rest : List Value} (hx : p.tables.exec = Jvm.exec) (hb : c.code = cc) (hown : s.vm.findClass own = some m.cls) (hlink : (Cond.methodLinkNest own index y host).before args s = true) (hstat : (Cond.static y).before args s = true) (hinit : (Cond.initialized y.cls).before args s = true)
    (hcode : (Cond.code y bytes maxL ret).before args s = true) (hy : y.cls ≠ "java/lang/invoke/MethodHandle" ∧ y.cls ≠ "java/lang/invoke/VarHandle" ∧ (parseMethodDescriptor y.desc).map (fun d => d.parameters.length) = some n) (hn : As.length = n) (hdg : decode cc pc = .ok (.invokestatic index, 3)) :
    xInv cl D z H0 p l e R s m args below meth c y pc ct As rest := by
  intro T locs nc ns la hwd X
  obtain ⟨mk, hnamed⟩ := Cond.code_named hcode
  obtain ⟨methM, cM, hmethM, -, -, -, -, -, -, hsigM⟩ := Cond.code_spec hnamed hcode
  have hstatic : methM.isStatic = true := Cond.static_spec hnamed hmethM hstat
  obtain ⟨kP, hkP, -⟩ := className_of_methodNamed hnamed
  have hinitP : kP.init = .initialized := Cond.initialized_spec (findClass_of_methodNamed hnamed) hkP hinit
  have hlen : As.length = methM.sig.parameters.length := by
    have h2 := hy.2.2
    rw [hsigM] at h2
    rw [hn]
    exact (Option.some.inj h2).symm
  obtain ⟨vm₁, X₁, hstep₁⟩ := X.invokestaticNest hx hown hlink hnamed hmethM hstatic hkP hinitP ⟨hy.1, hy.2.1⟩ (g := F0 m pc la (As.reverse ++ rest)) rfl (argsL := As) (rest := rest) hlen rfl (by rw [hb]; exact hdg)
  exact ⟨vm₁, mk, hnamed, X₁, fun target h => hstep₁ _ fun acts => by rw [doInvoke_state]; exact h⟩
theorem xi_virtual {own C : String} {index : Nat} {y : MethodName} {bytes : ByteArray} {maxL n ci : Nat} {ret : Option FieldType} {b : Nat} {As rest : List Value} {fs : List Value} {q : vw_C} (hx : p.tables.exec = Jvm.exec) (hb : c.code = cc) (hK : va_K D cl (xtys ts) s) (hown : s.vm.findClass own = some m.cls) (hlink : (Cond.methodLink own index y).before args s = true) (hinst : (Cond.instanceMethod y).before args s = true) (hsel : (Cond.selects C y y).before args s = true)
    (hcode : (Cond.code y bytes maxL ret).before args s = true) (hy : y.cls ≠ "java/lang/invoke/MethodHandle" ∧ y.cls ≠ "java/lang/invoke/VarHandle" ∧ (parseMethodDescriptor y.desc).map (fun d => d.parameters.length) = some n) (hn : As.length = n) (hcl : cl[ci]? = some q) (hq : q.1 = C) (hct : ct b = some (.inr (ci, fs))) (hdg : decode cc pc = .ok (.invokevirtual index, 3)) :
    xInv cl D z H0 p l e R s m args below meth c y pc ct (.ref b :: As) rest := by
  intro T locs nc ns la hwd X
  subst hq
  obtain ⟨cellB, hcell, hobj, hcls⟩ := va_recv hK (hwd.one hct) hcl (q0 := 0) rfl
  obtain ⟨mk, methM, hnamed, hmethM, hstM, habM⟩ := Cond.instanceMethod_spec hinst
  obtain ⟨methM', cM, hmethM', -, -, -, -, -, -, hsigM⟩ := Cond.code_spec hnamed hcode
  cases hmethM.symm.trans hmethM'
  obtain ⟨c2, r2, m2, q1, q2, q3, q4, kP, hkP, hkPi⟩ := Cond.selects_spec hsel
  cases hcls.symm.trans q1
  cases (State.methodFound?_of_named hnamed ⟨hy.1, hy.2.1⟩).symm.trans q2
  cases hnamed.symm.trans q3
  have hselP : selectMethod e.platform s.vm cellB.cls mk = .method mk := by rw [Launch.admits_selectMethod X.admits]; exact q4
  have hlen : As.length = methM.sig.parameters.length := by
    have h2 := hy.2.2
    rw [hsigM] at h2
    rw [hn]
    exact (Option.some.inj h2).symm
  have hstk : ((Value.ref b :: As).reverse ++ rest) = As.reverse ++ .ref b :: rest := by simp
  obtain ⟨vm₁, X₁, hstep₁⟩ := X.invokevirtual hx hown hlink hnamed hmethM hstM hkP hkPi ⟨hy.1, hy.2.1⟩ (a := b) (cell := cellB) hcell
    (fun z h => by rw [h] at hobj; cases hobj) hselP hmethM habM hkP hkPi (g := F0 m pc la ((Value.ref b :: As).reverse ++ rest)) rfl (argsL := As) (rest := rest) hlen hstk (by rw [hb]; exact hdg)
  exact ⟨vm₁, mk, hnamed, X₁, fun target h => hstep₁ _ fun acts => by rw [doInvoke_state]; exact h⟩
theorem xi_init {own : String} {index : Nat} {y : MethodName} {bytes : ByteArray} {maxL n : Nat} {b : Nat} {As rest : List Value} (hx : p.tables.exec = Jvm.exec) (hb : c.code = cc) (hown : s.vm.findClass own = some m.cls) (hy1 : y.name = "<init>") (hlink : (Cond.methodLink own index y).before args s = true) (hinst : (Cond.instanceMethod y).before args s = true)
    (hcode : (Cond.code y bytes maxL none).before args s = true) (hy : y.cls ≠ "java/lang/invoke/MethodHandle" ∧ y.cls ≠ "java/lang/invoke/VarHandle" ∧ (parseMethodDescriptor y.desc).map (fun d => d.parameters.length) = some n) (hn : As.length = n) (hdg : decode cc pc = .ok (.invokespecial index, 3)) :
    xInv cl D z H0 p l e R s m args below meth c y pc ct (.ref b :: As) rest := by
  intro T locs nc ns la hwd X
  have hpl : e.platform.magicAccessors = ({} : Platform).magicAccessors := by rw [X.admits.platform]
  have hstk : (F0 m pc la ((Value.ref b :: As).reverse ++ rest)).stack = As.reverse ++ .ref b :: rest := by simp [F0]
  obtain ⟨mk, methM, cM, kP, vm₁, hnamed, hmethM, hcodeM, -, hlocalsM, -, hkP, -, hW₁, hstep₁⟩ := Steps.initColdArgs (e := e) X.here hx X.warmed hpl hown hy1 ⟨hy.1, hy.2.1⟩ hlink hinst hcode (f := F0 m pc la ((Value.ref b :: As).reverse ++ rest)) rfl (argsL := As) (fun sig h => by
    have h2 := hy.2.2
    rw [h] at h2
    rw [hn]
    exact (Option.some.inj h2).symm) hstk (by rw [hb]; exact hdg)
  exact ⟨vm₁, mk, hnamed, X.noted hW₁, fun target h => hstep₁ _ fun acts => by rw [doInvoke_state]; exact h⟩
end XC
