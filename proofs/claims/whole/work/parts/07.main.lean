/-- what a call of the table owes -/
def xCok (cl : List vw_C) (D : va_G) (ts : Nat → ClassId) (z : Nat) (H0 : Heap) (nL : Nat) (p : Program) (l : Launch) (e : Env) (R : Room) (s : State) (m : MethodId) (args : Array Value) (below : List Frame) (meth : Method) (c : Code) (Q : State → Prop) (q : Nat × Nat × Nat × xS × Nat × Nat) : Prop := match q with
  | (pc, nx, n, sp, kc, ks) => ∀ (nc ns : Nat) (ls : xL) (As rest : List Value) (ct : xCT) (Z' : xZ), As.length = n → (rest.map fun v => v.category).sum ≤ 8 → nc + kc ≤ R.cells → ns + ks ≤ R.slots → sp ts z As ct Z' →
    (∀ (v : Option Value) (ct' : xCT), Z' (.inl v) ct' → xW cl D z H0 nL p l e R s m args below meth c Q nx (nc + kc) (ns + ks) ls (v.toList ++ rest) ct') → (∀ (E : String) (ct' : xCT), Z' (.inr E) ct' → xX cl D z H0 nL p l e R s m args below meth c Q pc (nc + kc) (ns + ks) ls E ct') →
    xW cl D z H0 nL p l e R s m args below meth c Q pc nc ns ls (As.reverse ++ rest) ct
abbrev xLs : Type := List (Nat × Nat × Nat × Instr)
/-- everything of a method's own: listing, fields, writes, objects made, calls, throws, where what is thrown is caught, the answer's type -/
abbrev xMd : Type := xLs × List (Nat × Nat × Nat) × List (Nat × Nat × Nat × FieldType) × List (Nat × Nat × List Value) × xCs × List (Nat × String) × Option (List (Nat × String × Nat)) × Option FieldType
/-- one place of the listing -/
def xgo (ts : Nat → ClassId) (z mc ms : Nat) (M : xMd) (Z : xZ) (K : xKt) : xKt := fun pc nc ns ls st ct => match xf1 M.1 pc with
  | some (nx, tg, i) => xst ts z mc ms M.2.1 M.2.2.1 M.2.2.2.1 M.2.2.2.2.1 M.2.2.2.2.2.1 M.2.2.2.2.2.2.1 M.2.2.2.2.2.2.2 Z K i pc nx tg nc ns ls st ct
  | none => False
/-- n places on, or to the next cut -/
def xwp (ts : Nat → ClassId) (z mc ms : Nat) (M : xMd) (cut : List Nat) (Z : xZ) (J : xKt) : Nat → xKt
  | 0 => fun _ _ _ _ _ _ => False
  | n + 1 => fun pc nc ns ls st ct => match cut.any (Nat.beq pc) with
    | true => J pc nc ns ls st ct
    | false => xgo ts z mc ms M Z (xwp ts z mc ms M cut Z J n) pc nc ns ls st ct
section XT
variable {cl : List vw_C} {D : va_G} {ts : Nat → ClassId} {z : Nat} {H0 : Heap} {nL : Nat} {p : Program} {l : Launch} {e : Env} {R : Room} {s : State} {m : MethodId} {args : Array Value} {below : List Frame} {meth : Method} {c : Code}
variable {cc : ByteArray} {pc nx tg nc ns mc ms : Nat} {ls : xL} {st r : List Value} {ct : xCT} {xt : List Cond} {own : String} {Z : xZ} {K : xKt} {M : xMd} {Q : State → Prop}
/-- what a method's own tables owe -/
def xMok (cl : List vw_C) (D : va_G) (ts : Nat → ClassId) (z : Nat) (H0 : Heap) (nL : Nat) (p : Program) (l : Launch) (e : Env) (R : Room) (s : State) (m : MethodId) (args : Array Value) (below : List Frame) (meth : Method) (c : Code) (Q : State → Prop) (xt : List Cond) (own : String) (cc : ByteArray) (mc ms : Nat) (fin : Bool) (Z : xZ) (M : xMd) : Prop :=
  p.tables.exec = Jvm.exec ∧ c.code = cc ∧ va_K D cl (xtys ts) s ∧ s.vm.findClass own = some m.cls ∧ (∀ w ∈ xt, w.before args s = true) ∧ meth.locks = false ∧ R.cells = mc ∧ R.slots = ms ∧ (fin = true → meth.name = "<init>") ∧ meth.sig.returnType = M.2.2.2.2.2.2.2 ∧
  (Cond.arrayClass .int ∈ xt ∧ Cond.arrayClass .long ∈ xt ∧ Cond.arrayClass .boolean ∈ xt) ∧
  (∀ q ∈ M.1, xdec cc q.1 q.2.1 q.2.2.1 q.2.2.2 = true) ∧ (∀ q ∈ M.2.1, xFw cl xt own q.1 q.2.1 q.2.2) ∧ (∀ q ∈ M.2.2.1, xPw cl xt own fin q.1 q.2.1 q.2.2.1 q.2.2.2) ∧ (∀ q ∈ M.2.2.2.1, xNw cl xt own q.1 q.2.1 q.2.2) ∧
  (∀ q ∈ M.2.2.2.2.1, xCok cl D ts z H0 nL p l e R s m args below meth c Q q) ∧
  (∀ q ∈ M.2.2.2.2.2.1, ∀ (nc ns : Nat) (ls : xL) (st : List Value) (ct : xCT), nc + 1 ≤ mc → ns + 6 ≤ ms → Z (.inr q.2) ct → xW cl D z H0 nL p l e R s m args below meth c Q q.1 nc ns ls st ct) ∧
  (match M.2.2.2.2.2.2.1 with
    | none => ∀ (pc nc ns : Nat) (ls : xL) (E : String) (ct : xCT), nc ≤ mc → ns ≤ ms → Z (.inr E) ct → xX cl D z H0 nL p l e R s m args below meth c Q pc nc ns ls E ct
    | some t => ∀ q ∈ t, ∀ (nc ns : Nat) (ls : xL) (ct : xCT), (∀ q' : Nat, xW cl D z H0 nL p l e R s m args below meth c Q q.2.2 nc ns ls [.ref q'] ct) → xX cl D z H0 nL p l e R s m args below meth c Q q.1 nc ns ls q.2.1 ct) ∧
  (∀ (pc nx tg nc ns : Nat) (ls : xL) (v : Int32) (ct : xCT) (ty : FieldType), M.2.2.2.2.2.2.2 = some ty → narrow ty (.int v) = .int v → xdec cc pc nx tg .ireturn = true → nc ≤ mc → ns ≤ ms → Z (.inl (some (.int v))) ct → xW cl D z H0 nL p l e R s m args below meth c Q pc nc ns ls [.int v] ct) ∧
  (∀ (pc nx tg nc ns : Nat) (ls : xL) (ct : xCT), M.2.2.2.2.2.2.2 = none → xdec cc pc nx tg .return_ = true → nc ≤ mc → ns ≤ ms → Z (.inl none) ct → xW cl D z H0 nL p l e R s m args below meth c Q pc nc ns ls [] ct) ∧
  (∀ (pc nx tg nc ns : Nat) (ls : xL) (a : Nat) (ct : xCT) (rt : FieldType), M.2.2.2.2.2.2.2 = some rt → ((∃ n, rt = .object n) ∨ ∃ t, rt = .array t) → xdec cc pc nx tg .areturn = true → nc ≤ mc → ns ≤ ms → Z (.inl (some (.ref a))) ct → xW cl D z H0 nL p l e R s m args below meth c Q pc nc ns ls [.ref a] ct)
theorem xcal_ok {C : xCs} {hd : Option (List (Nat × String × Nat))} (hR1 : R.cells = mc) (hR2 : R.slots = ms) (hC : ∀ q ∈ C, xCok cl D ts z H0 nL p l e R s m args below meth c Q q)
    (hH : match hd with
      | none => ∀ (pc nc ns : Nat) (ls : xL) (E : String) (ct : xCT), nc ≤ mc → ns ≤ ms → Z (.inr E) ct → xX cl D z H0 nL p l e R s m args below meth c Q pc nc ns ls E ct
      | some t => ∀ q ∈ t, ∀ (nc ns : Nat) (ls : xL) (ct : xCT), (∀ q' : Nat, xW cl D z H0 nL p l e R s m args below meth c Q q.2.2 nc ns ls [.ref q'] ct) → xX cl D z H0 nL p l e R s m args below meth c Q q.1 nc ns ls q.2.1 ct)
    (hKK : ∀ pc nc ns ls st ct, K pc nc ns ls st ct → xW cl D z H0 nL p l e R s m args below meth c Q pc nc ns ls st ct) (h : xcal ts z mc ms C hd Z K pc nx nc ns ls st ct) : xW cl D z H0 nL p l e R s m args below meth c Q pc nc ns ls st ct := by
  unfold xcal at h
  cases hf : xf1 C pc with
  | none => rw [hf] at h; exact False.elim h
  | some q =>
    obtain ⟨nx', n, sp, kc, ks⟩ := q
    rw [hf] at h
    obtain ⟨hb, h1, h2, h3⟩ := xif_ok h
    rw [Bool.and_eq_true, Bool.and_eq_true] at hb
    have hnx : nx' = nx := Nat.eq_of_beq_eq_true hb.1.1
    subst hnx
    have hn : n ≤ st.length := Nat.le_of_ble_eq_true hb.1.2
    have k := hC _ (xf1_in hf) nc ns ls (st.take n).reverse (st.drop n) ct _ (by simp; omega) (Nat.le_of_ble_eq_true hb.2) (by rw [hR1]; exact h1) (by rw [hR2]; exact h2) h3 (fun v ct' h9 => hKK _ _ _ _ _ _ h9) (fun E ct' h9 => ?_)
    · rw [List.reverse_reverse, List.take_append_drop] at k
      exact k
    · cases hd with
      | none => exact hH pc _ _ ls E ct' h1 h2 h9
      | some t =>
        dsimp only at h9
        cases hg : xhd t pc E with
        | none => rw [hg] at h9; exact False.elim h9
        | some hp =>
          rw [hg] at h9
          exact hH _ (xhd_in hg) _ _ ls ct' (fun q' => hKK _ _ _ _ _ _ (h9 q'))
set_option maxHeartbeats 4000000 in
/-- ONE INSTRUCTION IS SOUND -/
theorem xst_ok {fin : Bool} {i : Instr} (hM : xMok cl D ts z H0 nL p l e R s m args below meth c Q xt own cc mc ms fin Z M) (hd : xdec cc pc nx tg i = true) (hKK : ∀ pc nc ns ls st ct, K pc nc ns ls st ct → xW cl D z H0 nL p l e R s m args below meth c Q pc nc ns ls st ct)
    (h : xst ts z mc ms M.2.1 M.2.2.1 M.2.2.2.1 M.2.2.2.2.1 M.2.2.2.2.2.1 M.2.2.2.2.2.2.1 M.2.2.2.2.2.2.2 Z K i pc nx tg nc ns ls st ct) : xW cl D z H0 nL p l e R s m args below meth c Q pc nc ns ls st ct := by
  obtain ⟨hx, hb, hK, hown, hts, hlocks, hR1, hR2, hfin, hret, ⟨ha1, ha2, ha3⟩, -, hF, hP, hN, hC, hX, hH, hI, hV, hA⟩ := hM
  cases i with
  | iconst n =>
    exact xs_iconst hx hb hd (hKK _ _ _ _ _ _ (xci_ok (P := fun v => K nx nc ns ls (.int v :: st) ct) h))
  | lconst n =>
    exact xs_lconst hx hb hd (hKK _ _ _ _ _ _ h)
  | iload k =>
    obtain ⟨x, hg, h⟩ := xvi_ok h
    exact xs_iload hx hb hd hg (hKK _ _ _ _ _ _ h)
  | aload k =>
    have h : xva (xget ls k) (fun v => K nx nc ns ls (v :: st) ct) := h
    rcases xva_ok h with ⟨a, hg, h⟩ | ⟨hg, h⟩
    · exact xs_aload hx hb hd hg (hKK _ _ _ _ _ _ h)
    · exact xs_aloadN hx hb hd hg (hKK _ _ _ _ _ _ h)
  | istore k =>
    obtain ⟨x, r, rfl, h⟩ := xpi_ok h
    obtain ⟨h1, h⟩ := xif_ok h
    exact xs_istore hx hb hd (Nat.lt_of_succ_le (Nat.le_of_ble_eq_true h1)) (hKK _ _ _ _ _ _ h)
  | astore k =>
    have h : xpa st (fun v r => xif (Nat.blt k ls.length) (K nx nc ns (xset ls k v) r ct)) := h
    rcases xpa_ok h with ⟨a, r, rfl, h⟩ | ⟨r, rfl, h⟩
    · obtain ⟨h1, h⟩ := xif_ok h
      exact xs_astore hx hb hd (Nat.lt_of_succ_le (Nat.le_of_ble_eq_true h1)) (hKK _ _ _ _ _ _ h)
    · obtain ⟨h1, h⟩ := xif_ok h
      exact xs_astoreN hx hb hd (Nat.lt_of_succ_le (Nat.le_of_ble_eq_true h1)) (hKK _ _ _ _ _ _ h)
  | iinc k n =>
    obtain ⟨x, hg, h⟩ := xvi_ok h
    exact xs_iinc hx hb hd hg (hKK _ _ _ _ _ _ (xci_ok (P := fun v => K nx nc ns (xset ls k (.int (x + v))) st ct) h))
  | iadd =>
    obtain ⟨y, r, rfl, h⟩ := xpi_ok h
    obtain ⟨x, r, rfl, h⟩ := xpi_ok h
    exact xs_iadd hx hb hd (hKK _ _ _ _ _ _ h)
  | isub =>
    obtain ⟨y, r, rfl, h⟩ := xpi_ok h
    obtain ⟨x, r, rfl, h⟩ := xpi_ok h
    exact xs_isub hx hb hd (hKK _ _ _ _ _ _ h)
  | imul =>
    obtain ⟨y, r, rfl, h⟩ := xpi_ok h
    obtain ⟨x, r, rfl, h⟩ := xpi_ok h
    exact xs_imul hx hb hd (hKK _ _ _ _ _ _ h)
  | iand =>
    obtain ⟨y, r, rfl, h⟩ := xpi_ok h
    obtain ⟨x, r, rfl, h⟩ := xpi_ok h
    exact xs_iand hx hb hd (hKK _ _ _ _ _ _ h)
  | ior =>
    obtain ⟨y, r, rfl, h⟩ := xpi_ok h
    obtain ⟨x, r, rfl, h⟩ := xpi_ok h
    exact xs_ior hx hb hd (hKK _ _ _ _ _ _ h)
  | ixor =>
    obtain ⟨y, r, rfl, h⟩ := xpi_ok h
    obtain ⟨x, r, rfl, h⟩ := xpi_ok h
    exact xs_ixor hx hb hd (hKK _ _ _ _ _ _ h)
  | ishl =>
    obtain ⟨y, r, rfl, h⟩ := xpi_ok h
    obtain ⟨x, r, rfl, h⟩ := xpi_ok h
    exact xs_ishl hx hb hd (hKK _ _ _ _ _ _ h)
  | ishr =>
    obtain ⟨y, r, rfl, h⟩ := xpi_ok h
    obtain ⟨x, r, rfl, h⟩ := xpi_ok h
    exact xs_ishr hx hb hd (hKK _ _ _ _ _ _ h)
  | iushr =>
    obtain ⟨y, r, rfl, h⟩ := xpi_ok h
    obtain ⟨x, r, rfl, h⟩ := xpi_ok h
    exact xs_iushr hx hb hd (hKK _ _ _ _ _ _ h)
  | ldc x =>
    exact xcal_ok hR1 hR2 hC hH hKK h
  | ineg =>
    obtain ⟨x, r, rfl, h⟩ := xpi_ok h
    exact xs_ineg hx hb hd (hKK _ _ _ _ _ _ h)
  | land =>
    obtain ⟨y, r, rfl, h⟩ := xpl_ok h
    obtain ⟨x, r, rfl, h⟩ := xpl_ok h
    exact xs_land hx hb hd (hKK _ _ _ _ _ _ h)
  | lxor =>
    obtain ⟨y, r, rfl, h⟩ := xpl_ok h
    obtain ⟨x, r, rfl, h⟩ := xpl_ok h
    exact xs_lxor hx hb hd (hKK _ _ _ _ _ _ h)
  | lcmp =>
    obtain ⟨y, r, rfl, h⟩ := xpl_ok h
    obtain ⟨x, r, rfl, h⟩ := xpl_ok h
    exact xs_lcmp hx hb hd (hKK _ _ _ _ _ _ h)
  | lshl =>
    obtain ⟨y, r, rfl, h⟩ := xpi_ok h
    obtain ⟨x, r, rfl, h⟩ := xpl_ok h
    exact xs_lshl hx hb hd (hKK _ _ _ _ _ _ h)
  | lshr =>
    obtain ⟨y, r, rfl, h⟩ := xpi_ok h
    obtain ⟨x, r, rfl, h⟩ := xpl_ok h
    exact xs_lshr hx hb hd (hKK _ _ _ _ _ _ h)
  | i2l =>
    obtain ⟨x, r, rfl, h⟩ := xpi_ok h
    exact xs_i2l hx hb hd (hKK _ _ _ _ _ _ h)
  | l2i =>
    obtain ⟨x, r, rfl, h⟩ := xpl_ok h
    exact xs_l2i hx hb hd (hKK _ _ _ _ _ _ h)
  | dup =>
    obtain ⟨v, r, rfl, h⟩ := xpv_ok h
    obtain ⟨h1, h⟩ := xif_ok h
    exact xs_dup hx hb hd (Nat.eq_of_beq_eq_true h1) (hKK _ _ _ _ _ _ h)
  | pop =>
    obtain ⟨v, r, rfl, h⟩ := xpv_ok h
    obtain ⟨h1, h⟩ := xif_ok h
    exact xs_pop hx hb hd (Nat.eq_of_beq_eq_true h1) (hKK _ _ _ _ _ _ h)
  | dup2 =>
    obtain ⟨v, r, rfl, h⟩ := xpv_ok h
    obtain ⟨u, r, rfl, h⟩ := xpv_ok h
    obtain ⟨h1, h⟩ := xif_ok h
    rw [Bool.and_eq_true] at h1
    exact xs_dup2 hx hb hd (Nat.eq_of_beq_eq_true h1.1) (Nat.eq_of_beq_eq_true h1.2) (hKK _ _ _ _ _ _ h)
  | goto off =>
    exact xs_goto hx hb hd (hKK _ _ _ _ _ _ h)
  | ifCond q off =>
    cases q with
    | eq =>
      obtain ⟨x, r, rfl, h1, h2⟩ := xpi_ok h
      exact xs_if_eq hx hb hd (fun q => hKK _ _ _ _ _ _ (h1 q)) (fun q => hKK _ _ _ _ _ _ (h2 q))
    | ne =>
      obtain ⟨x, r, rfl, h1, h2⟩ := xpi_ok h
      exact xs_if_ne hx hb hd (fun q => hKK _ _ _ _ _ _ (h1 q)) (fun q => hKK _ _ _ _ _ _ (h2 q))
    | lt =>
      obtain ⟨x, r, rfl, h1, h2⟩ := xpi_ok h
      exact xs_if_lt hx hb hd (fun q => hKK _ _ _ _ _ _ (h1 q)) (fun q => hKK _ _ _ _ _ _ (h2 q))
    | ge =>
      obtain ⟨x, r, rfl, h1, h2⟩ := xpi_ok h
      exact xs_if_ge hx hb hd (fun q => hKK _ _ _ _ _ _ (h1 q)) (fun q => hKK _ _ _ _ _ _ (h2 q))
    | gt =>
      obtain ⟨x, r, rfl, h1, h2⟩ := xpi_ok h
      exact xs_if_gt hx hb hd (fun q => hKK _ _ _ _ _ _ (h1 q)) (fun q => hKK _ _ _ _ _ _ (h2 q))
    | le =>
      obtain ⟨x, r, rfl, h1, h2⟩ := xpi_ok h
      exact xs_if_le hx hb hd (fun q => hKK _ _ _ _ _ _ (h1 q)) (fun q => hKK _ _ _ _ _ _ (h2 q))
  | if_icmp q off =>
    cases q with
    | eq =>
      obtain ⟨y, r, rfl, h⟩ := xpi_ok h
      obtain ⟨x, r, rfl, h1, h2⟩ := xpi_ok h
      exact xs_icmp_eq hx hb hd (fun q => hKK _ _ _ _ _ _ (h1 q)) (fun q => hKK _ _ _ _ _ _ (h2 q))
    | ne =>
      obtain ⟨y, r, rfl, h⟩ := xpi_ok h
      obtain ⟨x, r, rfl, h1, h2⟩ := xpi_ok h
      exact xs_icmp_ne hx hb hd (fun q => hKK _ _ _ _ _ _ (h1 q)) (fun q => hKK _ _ _ _ _ _ (h2 q))
    | lt =>
      obtain ⟨y, r, rfl, h⟩ := xpi_ok h
      obtain ⟨x, r, rfl, h1, h2⟩ := xpi_ok h
      exact xs_icmp_lt hx hb hd (fun q => hKK _ _ _ _ _ _ (h1 q)) (fun q => hKK _ _ _ _ _ _ (h2 q))
    | ge =>
      obtain ⟨y, r, rfl, h⟩ := xpi_ok h
      obtain ⟨x, r, rfl, h1, h2⟩ := xpi_ok h
      exact xs_icmp_ge hx hb hd (fun q => hKK _ _ _ _ _ _ (h1 q)) (fun q => hKK _ _ _ _ _ _ (h2 q))
    | gt =>
      obtain ⟨y, r, rfl, h⟩ := xpi_ok h
      obtain ⟨x, r, rfl, h1, h2⟩ := xpi_ok h
      exact xs_icmp_gt hx hb hd (fun q => hKK _ _ _ _ _ _ (h1 q)) (fun q => hKK _ _ _ _ _ _ (h2 q))
    | le =>
      obtain ⟨y, r, rfl, h⟩ := xpi_ok h
      obtain ⟨x, r, rfl, h1, h2⟩ := xpi_ok h
      exact xs_icmp_le hx hb hd (fun q => hKK _ _ _ _ _ _ (h1 q)) (fun q => hKK _ _ _ _ _ _ (h2 q))
  | tableswitch d lo hi offs =>
    obtain ⟨x, r, rfl, t, ht, h⟩ := xpi_ok h
    exact xs_table hx hb hd ht (hKK _ _ _ _ _ _ h)
  | lookupswitch d ps =>
    obtain ⟨x, r, rfl, t, ht, h⟩ := xpi_ok h
    exact xs_lookup hx hb hd ht (hKK _ _ _ _ _ _ h)
  | getfield x =>
    obtain ⟨a, r, rfl, ci, k, fs, v, h1, h2, h3, h⟩ := xpr_ok h
    exact xs_getf hx hb hK hown hts (hF _ (xf2_in h2)) hd h1 h3 (hKK _ _ _ _ _ _ h)
  | putfield x =>
    obtain ⟨v, r, rfl, h⟩ := xpv_ok h
    obtain ⟨a, r, rfl, ci, k, ty, fs, h1, h2, h3, h4, h5, h6, h⟩ := xpr_ok h
    exact xs_putf hx hb hK hown hts hfin (hP _ (xf2_in h2)) hd h1 h3 h4 h5 h6 (hKK _ _ _ _ _ _ h)
  | iaload =>
    unfold xst at h
    dsimp only at h
    cases hx1 : xf1 M.2.2.2.2.1 pc with
    | some q9 =>
      rw [hx1] at h
      exact xcal_ok hR1 hR2 hC hH hKK h
    | none =>
      rw [hx1] at h
      dsimp only at h
      obtain ⟨i, r, rfl, h⟩ := xpi_ok h
      obtain ⟨a, r, rfl, n, f, h1, h2, h⟩ := xpr_ok h
      exact xs_iaload hx hb hK hd h1 h2 (hKK _ _ _ _ _ _ h)
  | laload =>
    obtain ⟨i, r, rfl, h⟩ := xpi_ok h
    obtain ⟨a, r, rfl, n, f, h1, h2, h⟩ := xpr_ok h
    exact xs_laload hx hb hK hd h1 h2 (hKK _ _ _ _ _ _ h)
  | baload =>
    obtain ⟨i, r, rfl, h⟩ := xpi_ok h
    obtain ⟨a, r, rfl, n, f, h1, h2, h⟩ := xpr_ok h
    exact xs_baload hx hb hK hd h1 h2 (hKK _ _ _ _ _ _ h)
  | aaload =>
    unfold xst at h
    dsimp only at h
    cases hx1 : xf1 M.2.2.2.2.1 pc with
    | some q9 =>
      rw [hx1] at h
      exact xcal_ok hR1 hR2 hC hH hKK h
    | none =>
      rw [hx1] at h
      dsimp only at h
      obtain ⟨i, r, rfl, h⟩ := xpi_ok h
      obtain ⟨a, r, rfl, n, f, b, h1, h2, h3, h⟩ := xpr_ok h
      exact xs_aaload hx hb hK hd h1 h2 h3 (hKK _ _ _ _ _ _ h)
  | iastore =>
    obtain ⟨x, r, rfl, h⟩ := xpi_ok h
    obtain ⟨i, r, rfl, h⟩ := xpi_ok h
    obtain ⟨a, r, rfl, n, f, h1, h2, h3, h⟩ := xpr_ok h
    exact xs_iastore hx hb hK hd h1 h2 h3 (hKK _ _ _ _ _ _ h)
  | lastore =>
    obtain ⟨x, r, rfl, h⟩ := xpl_ok h
    obtain ⟨i, r, rfl, h⟩ := xpi_ok h
    obtain ⟨a, r, rfl, n, f, h1, h2, h3, h⟩ := xpr_ok h
    exact xs_lastore hx hb hK hd h1 h2 h3 (hKK _ _ _ _ _ _ h)
  | bastore =>
    obtain ⟨x, r, rfl, h⟩ := xpi_ok h
    obtain ⟨i, r, rfl, h⟩ := xpi_ok h
    obtain ⟨a, r, rfl, n, f, h1, h2, h3, h4, h⟩ := xpr_ok h
    exact xs_bastore hx hb hK hd h1 h2 h3 h4 (hKK _ _ _ _ _ _ h)
  | arraylength =>
    unfold xst at h
    dsimp only at h
    cases hx1 : xf1 M.2.2.2.2.1 pc with
    | some q9 =>
      rw [hx1] at h
      exact xcal_ok hR1 hR2 hC hH hKK h
    | none =>
      rw [hx1] at h
      dsimp only at h
      obtain ⟨a, r, rfl, n, f, h1, h⟩ := xpr_ok h
      exact xs_alen hx hb hK hd h1 (hKK _ _ _ _ _ _ h)
  | newarray t =>
    cases t with
    | int =>
      obtain ⟨x, r, rfl, n, rfl, h1, h2, h3, h⟩ := xpi_ok h
      exact xs_new_int hx hb hK (hts _ ha1) hd h1 (by rw [hR1]; exact h2) (by rw [hR2]; exact h3) (fun q a b => hKK _ _ _ _ _ _ (h q a b))
    | long =>
      obtain ⟨x, r, rfl, n, rfl, h1, h2, h3, h⟩ := xpi_ok h
      exact xs_new_long hx hb hK (hts _ ha2) hd h1 (by rw [hR1]; exact h2) (by rw [hR2]; exact h3) (fun q a b => hKK _ _ _ _ _ _ (h q a b))
    | boolean =>
      obtain ⟨x, r, rfl, n, rfl, h1, h2, h3, h⟩ := xpi_ok h
      exact xs_new_boolean hx hb hK (hts _ ha3) hd h1 (by rw [hR1]; exact h2) (by rw [hR2]; exact h3) (fun q a b => hKK _ _ _ _ _ _ (h q a b))
    | _ => exact False.elim h
  | new x =>
    unfold xst at h
    dsimp only at h
    cases hx1 : xf1 M.2.2.2.2.2.1 pc with
    | some E =>
      rw [hx1] at h
      exact hX _ (xf1_in hx1) nc ns ls st ct h.1 h.2.1 h.2.2
    | none =>
      rw [hx1] at h
      dsimp only at h
      cases hx2 : xf1 M.2.2.2.1 x with
      | none => rw [hx2] at h; exact False.elim h
      | some q =>
        obtain ⟨ci, fs⟩ := q
        rw [hx2] at h
        exact xs_new hx hb hK hown hts (hN _ (xf1_in hx2)) hd (by rw [hR1]; exact h.1) (by rw [hR2]; exact h.2.1) (fun q a b => hKK _ _ _ _ _ _ (h.2.2 q a b))
  | invokestatic x =>
    exact xcal_ok hR1 hR2 hC hH hKK h
  | invokevirtual x =>
    exact xcal_ok hR1 hR2 hC hH hKK h
  | invokespecial x =>
    exact xcal_ok hR1 hR2 hC hH hKK h
  | checkcast x =>
    exact xcal_ok hR1 hR2 hC hH hKK h
  | multianewarray x y =>
    exact xcal_ok hR1 hR2 hC hH hKK h
  | ireturn =>
    obtain ⟨v, r, rfl, h⟩ := xpi_ok h
    obtain ⟨rfl, h⟩ := xpn_ok h
    obtain ⟨hn9, h⟩ := xif_ok h
    rw [Bool.and_eq_true] at hn9
    have hnc := Nat.le_of_ble_eq_true hn9.1
    have hns := Nat.le_of_ble_eq_true hn9.2
    cases hrt : M.2.2.2.2.2.2.2 with
    | none => rw [hrt] at h; exact False.elim h
    | some ty =>
      rw [hrt] at h
      cases ty with
      | int => exact hI pc nx tg nc ns ls v ct _ hrt rfl hd hnc hns h
      | boolean => exact hI pc nx tg nc ns ls v ct _ hrt (by rcases h.1 with rfl | rfl <;> rfl) hd hnc hns h.2
      | _ => exact False.elim h
  | areturn =>
    obtain ⟨a, r, rfl, h⟩ := xpr_ok h
    obtain ⟨rfl, h⟩ := xpn_ok h
    obtain ⟨hn9, h⟩ := xif_ok h
    rw [Bool.and_eq_true] at hn9
    have hnc := Nat.le_of_ble_eq_true hn9.1
    have hns := Nat.le_of_ble_eq_true hn9.2
    cases hrt : M.2.2.2.2.2.2.2 with
    | none => rw [hrt] at h; exact False.elim h
    | some ty =>
      rw [hrt] at h
      cases ty with
      | object n => exact hA pc nx tg nc ns ls a ct _ hrt (Or.inl ⟨_, rfl⟩) hd hnc hns h
      | array n => exact hA pc nx tg nc ns ls a ct _ hrt (Or.inr ⟨_, rfl⟩) hd hnc hns h
      | _ => exact False.elim h
  | return_ =>
    obtain ⟨rfl, h⟩ := xpn_ok h
    obtain ⟨hn9, h⟩ := xif_ok h
    rw [Bool.and_eq_true] at hn9
    have hnc := Nat.le_of_ble_eq_true hn9.1
    have hns := Nat.le_of_ble_eq_true hn9.2
    cases hrt : M.2.2.2.2.2.2.2 with
    | none => rw [hrt] at h; exact hV pc nx tg nc ns ls ct hrt hd hnc hns h
    | some ty => rw [hrt] at h; exact False.elim h
  | _ => exact False.elim h
theorem xgo_ok {fin : Bool} (hM : xMok cl D ts z H0 nL p l e R s m args below meth c Q xt own cc mc ms fin Z M) (hKK : ∀ pc nc ns ls st ct, K pc nc ns ls st ct → xW cl D z H0 nL p l e R s m args below meth c Q pc nc ns ls st ct) (h : xgo ts z mc ms M Z K pc nc ns ls st ct) : xW cl D z H0 nL p l e R s m args below meth c Q pc nc ns ls st ct := by
  unfold xgo at h
  cases hf : xf1 M.1 pc with
  | none => rw [hf] at h; exact False.elim h
  | some q =>
    obtain ⟨nx, tg, i⟩ := q
    rw [hf] at h
    have hd := hM.2.2.2.2.2.2.2.2.2.2.2.1 _ (xf1_in hf)
    exact xst_ok hM hd hKK h
theorem xwp_ok {fin : Bool} {cut : List Nat} {J : xKt} (hM : xMok cl D ts z H0 nL p l e R s m args below meth c Q xt own cc mc ms fin Z M) (hJ : ∀ pc nc ns ls st ct, J pc nc ns ls st ct → xW cl D z H0 nL p l e R s m args below meth c Q pc nc ns ls st ct) : ∀ (n pc nc ns : Nat) (ls : xL) (st : List Value) (ct : xCT), xwp ts z mc ms M cut Z J n pc nc ns ls st ct → xW cl D z H0 nL p l e R s m args below meth c Q pc nc ns ls st ct
  | 0, _, _, _, _, _, _, h => False.elim h
  | n + 1, pc, nc, ns, ls, st, ct, h => by
    unfold xwp at h
    try dsimp only at h
    cases hc : cut.any (Nat.beq pc) with
    | true => rw [hc] at h; exact hJ _ _ _ _ _ _ h
    | false => rw [hc] at h; exact xgo_ok hM (xwp_ok hM hJ n) h
/-- WITH LOOPS: at every cut the invariant J with its measure, which falls from cut to cut -/
theorem xloop_ok {fin : Bool} {cut : List Nat} {J : Nat → xKt} {n1 n2 : Nat} (hM : xMok cl D ts z H0 nL p l e R s m args below meth c Q xt own cc mc ms fin Z M)
    (h2 : ∀ (k pc nc ns : Nat) (ls : xL) (st : List Value) (ct : xCT), J k pc nc ns ls st ct → xgo ts z mc ms M Z (xwp ts z mc ms M cut Z (fun pc nc ns ls st ct => ∃ k', k' < k ∧ J k' pc nc ns ls st ct) n2) pc nc ns ls st ct)
    (h1 : xwp ts z mc ms M cut Z (fun pc nc ns ls st ct => ∃ k, J k pc nc ns ls st ct) n1 pc nc ns ls st ct) : xW cl D z H0 nL p l e R s m args below meth c Q pc nc ns ls st ct := by
  have hJ : ∀ (k pc nc ns : Nat) (ls : xL) (st : List Value) (ct : xCT), J k pc nc ns ls st ct → xW cl D z H0 nL p l e R s m args below meth c Q pc nc ns ls st ct := by
    intro k
    induction k using Nat.strongRecOn with
    | _ k ih =>
      intro pc nc ns ls st ct hj
      exact xgo_ok hM (xwp_ok hM (fun pc nc ns ls st ct ⟨k', hk, hj'⟩ => ih k' hk pc nc ns ls st ct hj') n2) (h2 k pc nc ns ls st ct hj)
  exact xwp_ok hM (fun pc nc ns ls st ct ⟨k, hj⟩ => hJ k pc nc ns ls st ct hj) n1 pc nc ns ls st ct h1
end XT
/-! a method whole -/
def xen (av : List Value) (n : Nat) : xL := av.map some ++ List.replicate (n - av.length) none
theorem xen_args : ∀ (av : List Value) (i n : Nat), (∀ v ∈ av, v.category = 1) → ∀ (k : Nat) (v : Value), xget (av.map some ++ List.replicate n none) k = some v → (i + k, v) ∈ lv_args i av ∧ v.category = 1
  | [], i, n, _, k, v, h => by
    exfalso
    have : ∀ (n k : Nat), xget (List.replicate n none) k = none := by
      intro n
      induction n with
      | zero => intro k; rfl
      | succ n ih => intro k; cases k with
        | zero => rfl
        | succ k => exact ih k
    have h9 : xget (List.replicate n none) k = some v := h
    rw [this] at h9
    cases h9
  | a :: av, i, n, hc, 0, v, h => by
    have h9 : some a = some v := h
    cases h9
    exact ⟨List.mem_cons_self, hc a List.mem_cons_self⟩
  | a :: av, i, n, hc, k + 1, v, h => by
    have ha : ¬ a.category = 2 := by rw [hc a List.mem_cons_self]; decide
    obtain ⟨h1, h2⟩ := xen_args av (i + 1) n (fun v hv => hc v (List.mem_cons_of_mem _ hv)) k v h
    refine ⟨?_, h2⟩
    show (i + (k + 1), v) ∈ (i, a) :: lv_args (if a.category = 2 then i + 2 else i + 1) av
    rw [if_neg ha]
    refine List.mem_cons_of_mem _ ?_
    rw [show i + (k + 1) = i + 1 + k by omega]
    exact h1
theorem xen_sl : ∀ (av : List Value), (∀ v ∈ av, v.category = 1) → (lg_sl av).length = av.length
  | [], _ => rfl
  | a :: av, hc => by
    have ha : ¬ a.category = 2 := by rw [hc a List.mem_cons_self]; decide
    have ih := xen_sl av (fun v hv => hc v (List.mem_cons_of_mem _ hv))
    unfold lg_sl at ih ⊢
    rw [List.flatMap_cons, if_neg ha]
    simp [ih]
theorem xen_ok {av : List Value} {n : Nat} (hc : ∀ v ∈ av, v.category = 1) (hn : av.length ≤ n) : xlv ((lg_sl av ++ List.replicate (n - (lg_sl av).length) Slot.unset).toArray) n (xen av n) := by
  have hl := lv_entry av (n := n) (by rw [xen_sl av hc]; exact hn)
  refine ⟨hl.1, hl.2.1, by simp [xen]; omega, fun k v hk => ?_⟩
  obtain ⟨h1, h2⟩ := xen_args av 0 _ hc k v hk
  have h3 := hl.2.2 _ h1
  rw [Nat.zero_add] at h3
  exact ⟨h3, h2⟩
/-- a call of the table, whatever the context -/
def xCw (cl : List vw_C) (xt : List Cond) (l : Launch) (own : String) (cc : ByteArray) (nL d : Nat) (q : Nat × Nat × Nat × xS × Nat × Nat) : Prop :=
  ∀ (D : va_G) (ts : Nat → ClassId) (z : Nat) (H0 : Heap) (p : Program) (e : Env) (R : Room) (s : State) (m : MethodId) (args : Array Value) (below : List Frame) (meth : Method) (c : Code) (Q : State → Prop),
    d ≤ R.frames → 60 * d ≤ R.locals → p.tables.exec = Jvm.exec → c.code = cc → c.maxLocals = nL → va_K D cl (xtys ts) s → xGs z H0 s → s.vm.findClass own = some m.cls → (∀ w ∈ xt, w.before args s = true) → xCok cl D ts z H0 nL p l e R s m args below meth c Q q
/-- a throw of the table, whatever the context -/
def xXw (cl : List vw_C) (xt : List Cond) (l : Launch) (own : String) (cc : ByteArray) (nL d mc ms : Nat) (q : Nat × String) : Prop :=
  ∀ (D : va_G) (ts : Nat → ClassId) (z : Nat) (H0 : Heap) (p : Program) (e : Env) (s : State) (m : MethodId) (args : Array Value) (below : List Frame) (meth : Method) (c : Code) (Z : xZ),
    p.tables.exec = Jvm.exec → c.code = cc → c.maxLocals = nL → va_K D cl (xtys ts) s → xGs z H0 s → s.vm.findClass own = some m.cls → (∀ w ∈ xt, w.before args s = true) → c.exceptionTable.isEmpty = true → meth.locks = false → z ≤ s.heap.size → (∀ a : Nat, a < z → s.heap[a]? = H0[a]?) →
    ∀ (nc ns : Nat) (ls : xL) (st : List Value) (ct : xCT), nc + 1 ≤ mc → ns + 6 ≤ ms → Z (.inr q.2) ct → xW cl D z H0 nL p l e (xrm d mc ms) s m args below meth c (xMQ below (xQ cl D z H0 mc ms Z) args s) q.1 nc ns ls st ct
/-- A METHOD MEETS ITS CONTRACT (no table of handlers) -/
theorem x_meth {cl : List vw_C} {xt : List Cond} {l : Launch} {y : MethodName} {cc : ByteArray} {nL d mc ms : Nat} {sp : xS} (M : xMd) (fin : Bool) (cut : List Nat) (J : (Nat → ClassId) → Nat → List Value → xCT → xZ → Nat → xKt) (n1 n2 : Nat)
    (hy : plainName y.cls = true) (hhd : M.2.2.2.2.2.2.1 = none) (hfin : fin = true → y.name = "<init>") (har : Cond.arrayClass .int ∈ xt ∧ Cond.arrayClass .long ∈ xt ∧ Cond.arrayClass .boolean ∈ xt)
    (hdec : ∀ q ∈ M.1, xdec cc q.1 q.2.1 q.2.2.1 q.2.2.2 = true) (hF : ∀ q ∈ M.2.1, xFw cl xt y.cls q.1 q.2.1 q.2.2) (hP : ∀ q ∈ M.2.2.1, xPw cl xt y.cls fin q.1 q.2.1 q.2.2.1 q.2.2.2) (hN : ∀ q ∈ M.2.2.2.1, xNw cl xt y.cls q.1 q.2.1 q.2.2)
    (hC : ∀ q ∈ M.2.2.2.2.1, xCw cl xt l y.cls cc nL d q) (hX : ∀ q ∈ M.2.2.2.2.2.1, xXw cl xt l y.cls cc nL d mc ms q)
    (h1 : ∀ ts z av ct Z, sp ts z av ct Z → xif (av.all (fun v => Nat.beq v.category 1) && Nat.ble av.length nL) (xwp ts z mc ms M cut Z (fun pc nc ns ls st ct' => ∃ k, J ts z av ct Z k pc nc ns ls st ct') n1 0 0 0 (xen av nL) [] ct))
    (h2 : ∀ ts z av ct Z, sp ts z av ct Z → ∀ (k pc nc ns : Nat) (ls : xL) (st : List Value) (ct' : xCT), J ts z av ct Z k pc nc ns ls st ct' → xgo ts z mc ms M Z (xwp ts z mc ms M cut Z (fun pc nc ns ls st ct' => ∃ k', k' < k ∧ J ts z av ct Z k' pc nc ns ls st ct') n2) pc nc ns ls st ct') :
    xM cl xt l y (Cond.code y cc nL M.2.2.2.2.2.2.2) d mc ms sp := by
  intro D ts z H0 av ct Z hsp
  refine MetFree.of_bodyS (code := cc) (maxLocals := nL) (ret := M.2.2.2.2.2.2.2) hy ?_ ?_
  · intro args s m h hn
    obtain ⟨meth, c, q1, q2, q3, q4, q5, q6, -, -⟩ := Cond.code_spec hn (atoms_spec (ws := Cond.code y cc nL M.2.2.2.2.2.2.2 :: xt) h _ List.mem_cons_self)
    exact ⟨meth, c, q1, q2, q3, q4, q5, q6⟩
  · intro p e s m args below meth c s₁ B hml hPc _
    obtain ⟨rfl, hK, hG, hw⟩ := hPc
    have hts0 := atoms_spec (ws := Cond.code y cc nL M.2.2.2.2.2.2.2 :: xt) B.pre
    have hts : ∀ w ∈ xt, w.before av.toArray s = true := fun w hw' => hts0 w (List.mem_cons_of_mem _ hw')
    have hown : s.vm.findClass y.cls = some m.cls := findClass_of_methodNamed B.named
    have htab : c.exceptionTable.isEmpty = true := B.noHandlers (hts0 _ List.mem_cons_self)
    have hx := B.exec
    have hb := B.bytes
    have hlocks := B.notSynchronized
    have hMok : xMok cl D ts z H0 nL p l e (xrm d mc ms) s m av.toArray below meth c (xMQ below (xQ cl D z H0 mc ms Z) av.toArray s) xt y.cls cc mc ms fin Z M := by
      refine ⟨hx, hb, hK, hown, hts, hlocks, rfl, rfl, fun hf => ?_, B.returns, har, hdec, hF, hP, hN, fun q hq => hC q hq D ts z H0 p e (xrm d mc ms) s m _ below meth c _ (Nat.le_refl d) (Nat.le_refl (60 * d)) hx hb hml hK hG hown hts, fun q hq => hX q hq D ts z H0 p e s m _ below meth c Z hx hb hml hK hG hown hts htab hlocks hw.1 hw.2.1, ?_, ?_, ?_, ?_⟩
      · rw [(name_of_methodNamed B.named B.method).1]
        exact hfin hf
      · rw [hhd]
        exact fun pc nc ns ls E ct a b hZ => xs_out htab hlocks a b hZ
      · exact fun pc nx tg nc ns ls v ct ty hrt hn hd a b hZ => xs_iret hx hb (B.returns.trans hrt) hn hlocks hd a b hZ
      · exact fun pc nx tg nc ns ls ct hrt hd a b hZ => xs_vret hx hb (B.returns.trans hrt) hlocks hd a b hZ
      · exact fun pc nx tg nc ns ls a' ct rt hrt hr2 hd a b hZ => xs_aret hx hb (B.returns.trans hrt) hr2 hlocks hd a b hZ
    obtain ⟨hb9, h1'⟩ := xif_ok (h1 ts z av ct Z hsp)
    rw [Bool.and_eq_true] at hb9
    have hcat : ∀ v ∈ av, v.category = 1 := fun v hv => Nat.eq_of_beq_eq_true (List.all_eq_true.mp hb9.1 v hv)
    have key := xloop_ok hMok (h2 ts z av ct Z hsp) h1'
    have hh0 : s₁.heap = s.heap := by rw [B.state]; rfl
    have K := key s.heap [] _ hw (xen_ok hcat (Nat.le_of_ble_eq_true hb9.2)) (fun q hq => by cases hq) s₁ hh0 (Stand.of_body B)
    obtain ⟨t, a1, o, b1, b2, b3⟩ := K
    refine ⟨t, o, ?_, b1, b2, b3⟩
    rw [lg_entry_eq]
    exact a1
