def xgd (xt : List Cond) : Prop := ∀ w ∈ xt, (w.onTables && w.keeps) = true ∨ ∃ ty, w = .arrayClass ty
section XU
variable {cl : List vw_C} {xt : List Cond} {l : Launch} {own : String} {cc : ByteArray} {nL d pc : Nat} {y : MethodName} {index : Nat} {bytes : ByteArray} {maxL n d' kc ks : Nat} {ret : Option FieldType} {sp : xS}
theorem xgd.ws (hg : xgd xt) {args : Array Value} {s : State} (hts : ∀ w ∈ xt, w.before args s = true) {hw : Cond} (h4 : hw ∈ xt) : ∀ w ∈ hw :: xt, ∀ (a' : Array Value) (U : State), s.WarmedH U.vm → w.before a' U = true := by
  intro w hw' a' U hW
  have hin : w ∈ xt := by
    rcases List.mem_cons.mp hw' with rfl | h
    · exact h4
    · exact h
  exact word_at hW (hg w hin) (hts w hin)
theorem xcd {args : Array Value} {s : State} (h : (Cond.code y bytes maxL ret).before args s = true) : ∀ mk, s.methodNamed? y = some mk → ∃ methY cY, s.vm.method? mk = some methY ∧ methY.code = some cY ∧ cY.maxLocals = maxL := by
  intro mk hn
  obtain ⟨meth, c, q1, q2, -, q4, -⟩ := Cond.code_spec hn h
  exact ⟨meth, c, q1, q2, q4⟩
theorem xcw_static (hg : xgd xt) (hM : xM cl xt l y (Cond.code y bytes maxL ret) d' kc ks sp) (w1 : Cond.methodLink own index y ∈ xt) (w2 : Cond.static y ∈ xt) (w3 : Cond.initialized y.cls ∈ xt) (w4 : Cond.code y bytes maxL ret ∈ xt)
    (hy : y.cls ≠ "java/lang/invoke/MethodHandle" ∧ y.cls ≠ "java/lang/invoke/VarHandle" ∧ (parseMethodDescriptor y.desc).map (fun d => d.parameters.length) = some n) (hR : d' + 1 ≤ d ∧ 8 + (maxL + 11) + 60 * d' ≤ 60 * d) (hdg : decode cc pc = .ok (.invokestatic index, 3)) :
    xCw cl xt l own cc nL d (pc, pc + 3, n, sp, kc, ks) := by
  intro D ts z H0 p e R s m args below meth c Q hd1 hd2 hx hb hml hK hG hown hts nc ns ls As rest ct Z' hn hW hc hs hsp k1 k2
  exact x_call (maxL := maxL) (ig := .invokestatic index) hM hml hb hK hG (xi_static hx hb hown (hts _ w1) (hts _ w2) (hts _ w3) (hts _ w4) hy hn hdg) hdg hW (hg.ws hts w4) (xcd (hts _ w4)) (hts _ w3) (Nat.le_trans hR.1 hd1) (Nat.le_trans hR.2 hd2) hc hs hsp k1 k2
theorem xcw_staticN {host : String} (hg : xgd xt) (hM : xM cl xt l y (Cond.code y bytes maxL ret) d' kc ks sp) (w1 : Cond.methodLinkNest own index y host ∈ xnw) (w2 : Cond.static y ∈ xt) (w3 : Cond.initialized y.cls ∈ xt) (w4 : Cond.code y bytes maxL ret ∈ xt)
    (hy : y.cls ≠ "java/lang/invoke/MethodHandle" ∧ y.cls ≠ "java/lang/invoke/VarHandle" ∧ (parseMethodDescriptor y.desc).map (fun d => d.parameters.length) = some n) (hR : d' + 1 ≤ d ∧ 8 + (maxL + 11) + 60 * d' ≤ 60 * d) (hdg : decode cc pc = .ok (.invokestatic index, 3)) :
    xCw cl xt l own cc nL d (pc, pc + 3, n, sp, kc, ks) := by
  intro D ts z H0 p e R s m args below meth c Q hd1 hd2 hx hb hml hK hG hown hts nc ns ls As rest ct Z' hn hW hc hs hsp k1 k2
  exact x_call (maxL := maxL) (ig := .invokestatic index) hM hml hb hK hG (xi_staticN hx hb hown (va_Nw.use rfl (hG.2.2.2 _ w1)) (hts _ w2) (hts _ w3) (hts _ w4) hy hn hdg) hdg hW (hg.ws hts w4) (xcd (hts _ w4)) (hts _ w3) (Nat.le_trans hR.1 hd1) (Nat.le_trans hR.2 hd2) hc hs hsp k1 k2
theorem xcw_virtual {ci : Nat} {q : vw_C} (hg : xgd xt) (hM : xM cl xt l y (Cond.code y bytes maxL ret) d' kc ks sp) (hr : ∀ ts z As ct Z, sp ts z As ct Z → ∃ b As' fs, As = .ref b :: As' ∧ ct b = some (.inr (ci, fs))) (hcl : cl[ci]? = some q) (hq : q.1 = y.cls) (w1 : Cond.methodLink own index y ∈ xt) (w2 : Cond.instanceMethod y ∈ xt) (w5 : Cond.selects y.cls y y ∈ xt) (w3 : Cond.initialized y.cls ∈ xt) (w4 : Cond.code y bytes maxL ret ∈ xt)
    (hy : y.cls ≠ "java/lang/invoke/MethodHandle" ∧ y.cls ≠ "java/lang/invoke/VarHandle" ∧ (parseMethodDescriptor y.desc).map (fun d => d.parameters.length) = some n) (hR : d' + 1 ≤ d ∧ 8 + (maxL + 11) + 60 * d' ≤ 60 * d) (hdg : decode cc pc = .ok (.invokevirtual index, 3)) :
    xCw cl xt l own cc nL d (pc, pc + 3, n + 1, sp, kc, ks) := by
  intro D ts z H0 p e R s m args below meth c Q hd1 hd2 hx hb hml hK hG hown hts nc ns ls As rest ct Z' hn hW hc hs hsp k1 k2
  obtain ⟨b, As', fs, rfl, hct⟩ := hr _ _ _ _ _ hsp
  exact x_call (maxL := maxL) (ig := .invokevirtual index) hM hml hb hK hG (xi_virtual hx hb hK hown (hts _ w1) (hts _ w2) (hts _ w5) (hts _ w4) hy (Nat.succ.inj hn) hcl hq hct hdg) hdg hW (hg.ws hts w4) (xcd (hts _ w4)) (hts _ w3) (Nat.le_trans hR.1 hd1) (Nat.le_trans hR.2 hd2) hc hs hsp k1 k2
theorem xcw_init (hg : xgd xt) (hM : xM cl xt l y (Cond.code y bytes maxL none) d' kc ks sp) (hr : ∀ ts z As ct Z, sp ts z As ct Z → ∃ b As', As = .ref b :: As') (hy1 : y.name = "<init>") (w1 : Cond.methodLink own index y ∈ xt) (w2 : Cond.instanceMethod y ∈ xt) (w3 : Cond.initialized y.cls ∈ xt) (w4 : Cond.code y bytes maxL none ∈ xt)
    (hy : y.cls ≠ "java/lang/invoke/MethodHandle" ∧ y.cls ≠ "java/lang/invoke/VarHandle" ∧ (parseMethodDescriptor y.desc).map (fun d => d.parameters.length) = some n) (hR : d' + 1 ≤ d ∧ 8 + (maxL + 11) + 60 * d' ≤ 60 * d) (hdg : decode cc pc = .ok (.invokespecial index, 3)) :
    xCw cl xt l own cc nL d (pc, pc + 3, n + 1, sp, kc, ks) := by
  intro D ts z H0 p e R s m args below meth c Q hd1 hd2 hx hb hml hK hG hown hts nc ns ls As rest ct Z' hn hW hc hs hsp k1 k2
  obtain ⟨b, As', rfl⟩ := hr _ _ _ _ _ hsp
  exact x_call (maxL := maxL) (ig := .invokespecial index) hM hml hb hK hG (xi_init hx hb hown hy1 (hts _ w1) (hts _ w2) (hts _ w4) hy (Nat.succ.inj hn) hdg) hdg hW (hg.ws hts w4) (xcd (hts _ w4)) (hts _ w3) (Nat.le_trans hR.1 hd1) (Nat.le_trans hR.2 hd2) hc hs hsp k1 k2
end XU
