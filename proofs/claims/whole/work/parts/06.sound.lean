section XS
variable {cl : List vw_C} {D : va_G} {ts : Nat → ClassId} {z : Nat} {H0 : Heap} {nL : Nat} {p : Program} {l : Launch} {e : Env} {R : Room} {s : State} {m : MethodId} {args : Array Value} {below : List Frame} {meth : Method} {c : Code} {Q : State → Prop}
variable {cc : ByteArray} {pc nx tg nc ns : Nat} {ls : xL} {st r : List Value} {ct : xCT} {xt : List Cond} {own : String}
/-- a field as the tables lay it: pool place x of the class own, on objects of the class ci, is its place k -/
def xFw (cl : List vw_C) (xt : List Cond) (own : String) (x ci k : Nat) : Prop := ∃ (C : String) (T : u_T) (N : Nat) (ref : String), cl[ci]? = some (C, T, N) ∧ k < N ∧ (∀ w ∈ u_ws C T N, w ∈ xt) ∧ Cond.fieldLink own x ref (T k).2.1 (T k).2.2.1 ∈ xt ∧ (ref = (T k).1 ∨ Cond.sameField ref (T k).1 (T k).2.1 (T k).2.2.1 ∈ xt)
theorem xFw.same {x ci k : Nat} {C ref : String} {T : u_T} (hts : ∀ w ∈ xt, w.before args s = true) (h : ref = (T k).1 ∨ Cond.sameField ref (T k).1 (T k).2.1 (T k).2.2.1 ∈ xt) : ∀ y, s.fieldFound? (T k).1 (T k).2.1 (T k).2.2.1 = some y → s.fieldFound? ref (T k).2.1 (T k).2.2.1 = some y := by
  intro y hy
  rcases h with rfl | h
  · exact hy
  · exact u_same (hts _ h) y hy
theorem xs_getf {x ci k a : Nat} {fs : List Value} {v : Value} (hx : p.tables.exec = Jvm.exec) (hb : c.code = cc) (hK : va_K D cl (xtys ts) s) (hown : s.vm.findClass own = some m.cls) (hts : ∀ w ∈ xt, w.before args s = true) (hF : xFw cl xt own x ci k) (hd : xdec cc pc nx tg (.getfield x) = true) (ha : ct a = some (.inr (ci, fs))) (hv : fs[k]? = some v)
    (h : xW cl D z H0 nL p l e R s m args below meth c Q nx nc ns ls (v :: r) ct) : xW cl D z H0 nL p l e R s m args below meth c Q pc nc ns ls (.ref a :: r) ct := by
  intro H locs la hw hl hq
  obtain ⟨rfl, h2⟩ := xd3 hd
  obtain ⟨C, T, N, ref, h3, h4, h5, h6, h7⟩ := hF
  exact va_get (ws := [(a, .inr (ci, fs))]) hx hb hts h5 hown hK (hw.one ha) 0 rfl h3 k h4 (hts _ h6) (xFw.same (x := x) (ci := ci) (C := C) hts h7) hv h2 (h H locs la hw hl hq)
/-- .. and may be written: not final, or final and the method is a constructor of its own class (fin) -/
def xPw (cl : List vw_C) (xt : List Cond) (own : String) (fin : Bool) (x ci k : Nat) (ty : FieldType) : Prop := ∃ (C : String) (T : u_T) (N : Nat) (ref : String) (ty0 : Nat → FieldType), cl[ci]? = some (C, T, N) ∧ k < N ∧ (∀ w ∈ u_ws C T N, w ∈ xt) ∧ Cond.fieldLink own x ref (T k).2.1 (T k).2.2.1 ∈ xt ∧ (ref = (T k).1 ∨ Cond.sameField ref (T k).1 (T k).2.1 (T k).2.2.1 ∈ xt) ∧
  (∀ k, k < N → parseFieldDescriptor (T k).2.2.1 = some (ty0 k)) ∧ (∀ a, a < N → ∀ b, b < N → a ≠ b → (T a).2.1 ≠ (T b).2.1) ∧ parseFieldDescriptor (T k).2.2.1 = some ty ∧ ((T k).2.2.2 = false ∨ ((T k).2.2.2 = true ∧ fin = true ∧ (T k).1 = own))
theorem xs_putf {x ci k a : Nat} {ty : FieldType} {fin : Bool} {fs : List Value} {v : Value} (hx : p.tables.exec = Jvm.exec) (hb : c.code = cc) (hK : va_K D cl (xtys ts) s) (hown : s.vm.findClass own = some m.cls) (hts : ∀ w ∈ xt, w.before args s = true) (hfin : fin = true → meth.name = "<init>") (hF : xPw cl xt own fin x ci k ty) (hd : xdec cc pc nx tg (.putfield x) = true) (ha : ct a = some (.inr (ci, fs))) (hlt : k < fs.length) (hz : z ≤ a) (hn : narrow ty v = v) (hfit : fits ty v = true)
    (h : xW cl D z H0 nL p l e R s m args below meth c Q nx nc ns ls r (xup ct a (.inr (ci, fs.set k v)))) : xW cl D z H0 nL p l e R s m args below meth c Q pc nc ns ls (v :: .ref a :: r) ct := by
  intro H locs la hw hl hq
  obtain ⟨rfl, h2⟩ := xd3 hd
  obtain ⟨C, T, N, ref, ty0, hc, hk, hin, h6, h7, hty, hnm, hd9, h8⟩ := hF
  have hap := va_apart (own := own) hts hin ty0 hty hnm hK hc
  obtain ⟨r9, h1, cell, q1, q2, q3, q4⟩ := hw.2.2 a _ ha
  have hr : r9 = (C, T, N) := Option.some.inj (h1.symm.trans hc)
  subst hr
  obtain ⟨hS, hfc, kC, hkC, hkind⟩ := hK.1 ci _ hc
  obtain ⟨cf, kf, fi, f, hi, hsl⟩ := hS k hk
  have hlay := hts _ (hin _ (u_in_lay hk))
  have hst := (u_facts hfc hkC (u_lays hts hin hk) hi).1
  have hsame := xFw.same (x := x) (ci := ci) (C := C) hts h7
  have fin2 : ∀ (H' : Heap), H'[a]? = some (cell.setSlot f.slot v) → H'.size = H.size → (∀ q, q ≠ a → H'[q]? = H[q]?) → W p l e R s m args below meth c H' (locs ++ [⟨a, f.slot⟩]) nc ns Q (F0 m (pc + 3) la r) := by
    intro H' e1 e2 e3
    rw [hsl] at e1
    refine h H' _ la (hw.put ⟨_, hc, t_OB.to (V := updV (vp_V fs) k v) ⟨_, e1, q2, q3, t_set q4 hap hk v⟩ (fun j _ => vp_updV_set hlt v j)⟩ e2 e3 hz) hl (fun q hq' => ?_)
    rcases List.mem_append.mp hq' with h9 | h9
    · exact hq q h9
    · rw [List.mem_singleton.mp h9]; exact hz
  rcases h8 with h8 | ⟨h8, hf1, hdecl⟩
  · unfold u_lay at hlay
    rw [if_neg (by rw [h8]; decide)] at hlay
    have h9 := u_store hfc hkC hkind hlay hi hd9 hn hfit
    exact W.putK hx hb (f := f) ⟨hown, hts _ h6, ⟨_, _, _, hsame _ hi⟩, hst⟩ (by rw [q2]; exact h9) q1 q3 (by rw [hsl]; exact k2_hasslot (q4 k hk)) rfl rfl h2 fin2
  · unfold u_lay at hlay
    rw [if_pos h8] at hlay
    have hcf : m.cls = cf := by
      obtain ⟨_, _, c', _, _, _, -, -, hf', -, -, -, hown2, -⟩ := Cond.laysFinal_spec hlay
      have e1 : c' = cf := by have := hi.symm.trans hf'; simp at this; exact this.1.symm
      rw [hdecl] at hown2
      rw [← e1]; exact Option.some.inj (hown.symm.trans hown2)
    have h9 := u_fits hfc hkC hkind (Or.inr hlay) hi hd9 hn hfit
    exact W.putFinK hx hb hown (hts _ h6) (hsame _ hi) hst hcf (hfin hf1) (by rw [q2]; exact h9) q1 q3 (by rw [hsl]; exact k2_hasslot (q4 k hk)) rfl rfl h2 fin2
/-- an object of the class ci, made at pool place x, with the fields fs -/
def xNw (cl : List vw_C) (xt : List Cond) (own : String) (x ci : Nat) (fs : List Value) : Prop := ∃ (C : String) (T : u_T) (N : Nat) (ty : Nat → FieldType), cl[ci]? = some (C, T, N) ∧ (∀ w ∈ u_ws C T N, w ∈ xt) ∧ Cond.classLink own x C ∈ xt ∧ Cond.instantiable C N ∈ xt ∧ Cond.initialized C ∈ xt ∧ (∀ k, k < N → parseFieldDescriptor (T k).2.2.1 = some (ty k)) ∧ (∀ j, j < N → defaultValue (ty j) = vp_V fs j) ∧ fs.length = N
theorem xs_new {x ci : Nat} {fs : List Value} (hx : p.tables.exec = Jvm.exec) (hb : c.code = cc) (hK : va_K D cl (xtys ts) s) (hown : s.vm.findClass own = some m.cls) (hts : ∀ w ∈ xt, w.before args s = true) (hN : xNw cl xt own x ci fs) (hd : xdec cc pc nx tg (.new x) = true) (hc : nc + 1 ≤ R.cells) (hs : ns + fs.length ≤ R.slots)
    (h : ∀ q : Nat, ct q = none → z ≤ q → xW cl D z H0 nL p l e R s m args below meth c Q nx (nc + 1) (ns + fs.length) ls (.ref q :: st) (xup ct q (.inr (ci, fs)))) : xW cl D z H0 nL p l e R s m args below meth c Q pc nc ns ls st ct := by
  intro H locs la hw hl hq
  obtain ⟨rfl, h2⟩ := xd3 hd
  obtain ⟨C, T, N, ty, h3, h4, h5, h6, h7, h8, h9, rfl⟩ := hN
  have hKn := hK.1 ci _ h3
  refine W.newcK (g := F0 m pc la st) hx hb hown (hts _ h5) (hts _ h6) (hts _ h7) rfl h2 hc hs hKn.2.1 rfl fun H1 kC hkC e1 z1 o1 => ?_
  exact h H.size hw.fresh hw.1 H1 locs la (hw.new ⟨_, h3, (u_born ty hts h4 hKn hkC e1 h8).to h9⟩ z1 o1) hl hq
/-! ends -/
theorem W.monoQ {Q' : State → Prop} {H : Heap} {locs : List Loc} {cells slots : Nat} {g : JFrame} (h : ∀ t, Q t → Q' t) (k : W p l e R s m args below meth c H locs cells slots Q g) : W p l e R s m args below meth c H locs cells slots Q' g := by
  intro T hT X
  obtain ⟨t, a, b⟩ := k T hT X
  exact ⟨t, a, h t b⟩
theorem xQ.of {mc ms : Nat} {Z : xZ} {v : Option Value} {H : Heap} {locs : List Loc} (hw : xw cl D z H0 ct H) (hq : ∀ q ∈ locs, z ≤ q.base) (hZ : Z (.inl v) ct) : ∀ t, MQ below (fun _ _ o t => o = .returned v ∧ t.heap = H) args s mc ms (fun q => z ≤ q) t → xMQ below (xQ cl D z H0 mc ms Z) args s t := by
  rintro t ⟨o, h1, h2, ⟨rfl, h4⟩, L, ⟨-, h5, h6⟩, h7⟩
  exact ⟨_, h1, h2, L, ct, h7, h5, h6, by rw [h4]; exact hw, Or.inl ⟨v, rfl, hZ⟩⟩
theorem xs_iret {mc ms : Nat} {Z : xZ} {v : Int32} {ty : FieldType} (hx : p.tables.exec = Jvm.exec) (hb : c.code = cc) (hr : meth.sig.returnType = some ty) (hn : narrow ty (.int v) = .int v) (hlocks : meth.locks = false) (hd : xdec cc pc nx tg .ireturn = true) (hc : nc ≤ mc) (hs : ns ≤ ms) (hZ : Z (.inl (some (.int v))) ct) : xW cl D z H0 nL p l e R s m args below meth c (xMQ below (xQ cl D z H0 mc ms Z) args s) pc nc ns ls [.int v] ct := by
  intro H locs la hw hl hq
  obtain ⟨rfl, h2⟩ := xd1 hd
  refine W.widen hc hs (W.monoQ (xQ.of hw hq hZ) ?_)
  exact W.zret hx hb hr hn (fun t ht _ => ⟨rfl, ht⟩) hq h2 hlocks
theorem xs_vret {mc ms : Nat} {Z : xZ} (hx : p.tables.exec = Jvm.exec) (hb : c.code = cc) (hr : meth.sig.returnType = none) (hlocks : meth.locks = false) (hd : xdec cc pc nx tg .return_ = true) (hc : nc ≤ mc) (hs : ns ≤ ms) (hZ : Z (.inl none) ct) : xW cl D z H0 nL p l e R s m args below meth c (xMQ below (xQ cl D z H0 mc ms Z) args s) pc nc ns ls [] ct := by
  intro H locs la hw hl hq
  obtain ⟨rfl, h2⟩ := xd1 hd
  refine W.widen hc hs (W.monoQ (xQ.of hw hq hZ) ?_)
  exact W.vret hx hb hr (fun t ht _ => ⟨rfl, ht⟩) hq h2 hlocks
theorem xs_aret {mc ms : Nat} {Z : xZ} {a : Nat} {rt : FieldType} (hx : p.tables.exec = Jvm.exec) (hb : c.code = cc) (hr : meth.sig.returnType = some rt) (hrt : (∃ n, rt = .object n) ∨ ∃ t, rt = .array t) (hlocks : meth.locks = false) (hd : xdec cc pc nx tg .areturn = true) (hc : nc ≤ mc) (hs : ns ≤ ms) (hZ : Z (.inl (some (.ref a))) ct) : xW cl D z H0 nL p l e R s m args below meth c (xMQ below (xQ cl D z H0 mc ms Z) args s) pc nc ns ls [.ref a] ct := by
  intro H locs la hw hl hq
  obtain ⟨rfl, h2⟩ := xd1 hd
  refine W.widen hc hs (W.monoQ (xQ.of hw hq hZ) ?_)
  exact W.aret hx hb hr hrt (Or.inr ⟨a, rfl⟩) (fun t ht _ => ⟨rfl, ht⟩) hq h2 hlocks
/-- what a callee threw goes on out of a method without a table -/
theorem xs_out {mc ms : Nat} {Z : xZ} {E : String} (htab : c.exceptionTable.isEmpty = true) (hlocks : meth.locks = false) (hc : nc ≤ mc) (hs : ns ≤ ms) (hZ : Z (.inr E) ct) : xX cl D z H0 nL p l e R s m args below meth c (xMQ below (xQ cl D z H0 mc ms Z) args s) pc nc ns ls E ct := by
  intro H locs la st q ce hw hl hq hce hcv hcl T hT X
  have hout : ∀ x ∈ c.exceptionTable.toList, covers x (F0 m pc la st).pc = false := by
    intro x hx
    rw [Array.isEmpty_iff.mp htab] at hx
    cases hx
  obtain ⟨h1, h2, h3, h4, h5⟩ := (stand_widen X hc hs).leaveThrown q (g := F0 m pc la st) rfl rfl rfl hout hlocks
  refine ⟨_, h1, .threw q, h2, h3, locs, ct, hq, h4, h5, ?_, Or.inr ⟨q, E, ce, rfl, ?_, hcv, hcl, hZ⟩⟩
  · show xw cl D z H0 ct (T.setFrames _).heap
    rw [show (T.setFrames (.throwing q :: below)).heap = T.heap from rfl, hT]
    exact hw
  · rw [show (T.setFrames (.throwing q :: below)).heap = T.heap from rfl, hT]
    exact hce
end XS
