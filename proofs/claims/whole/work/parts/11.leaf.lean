def bI (n : Nat) : Int32 := nI 1 <<< (nI n &&& 31)
theorem bI_bt {n : Nat} (hn : n < 32) {i : Nat} (hi : i < 32) : bt (bI n) i = decide (i = n) := b_one hn hi
def sp_bit : xS := fun _ _ av ct Z => ∃ n : Nat, av = [.int (nI n)] ∧ Z (.inl (some (.int (bI n)))) ct
def L_bit : xLs := [(0, 1, 0, .iconst 1), (1, 2, 0, .iload 0), (2, 3, 0, .ishl), (3, 4, 0, .ireturn)]
set_option maxRecDepth 20000 in
theorem D_bit : ∀ q ∈ L_bit, xdec prog_1_method_24_code q.1 q.2.1 q.2.2.1 q.2.2.2 = true := by decide +kernel
def F_bit : List (Nat × Nat × Nat) := []
def P_bit : List (Nat × Nat × Nat × FieldType) := []
def N_bit : List (Nat × Nat × List Value) := []
def C_bit : xCs := []
def X_bit : List (Nat × String) := []
def M_bit : xMd := (L_bit, F_bit, P_bit, N_bit, C_bit, X_bit, none, (some .int))
theorem Fo_bit : ∀ q ∈ F_bit, xFw xcl xt "DomainDesk" q.1 q.2.1 q.2.2 := fun _ h => absurd h List.not_mem_nil
theorem Po_bit : ∀ q ∈ P_bit, xPw xcl xt "DomainDesk" false q.1 q.2.1 q.2.2.1 q.2.2.2 := fun _ h => absurd h List.not_mem_nil
theorem No_bit : ∀ q ∈ N_bit, xNw xcl xt "DomainDesk" q.1 q.2.1 q.2.2 := fun _ h => absurd h List.not_mem_nil
set_option maxRecDepth 20000 in
theorem Co_bit (l : Launch) (hfl : l.flags = flags0) : ∀ q ∈ C_bit, xCw xcl xt l "DomainDesk" prog_1_method_24_code 1 0 q := fun _ h => absurd h List.not_mem_nil
theorem h1_bit : ∀ ts z av ct Z, sp_bit ts z av ct Z → xif (av.all (fun v => Nat.beq v.category 1) && Nat.ble av.length 1) (xwp ts z 0 0 M_bit [] Z (fun pc nc ns ls st ct' => ∃ k, xJ0 ts z av ct Z k pc nc ns ls st ct') 9 0 0 0 (xen av 1) [] ct) := by
  rintro ts z av ct Z ⟨n, rfl, h⟩
  exact h
theorem m_bit (l : Launch) (hfl : l.flags = flags0) : xM xcl xt l (⟨"DomainDesk", "bit", "(I)I"⟩ : MethodName) (Cond.code (⟨"DomainDesk", "bit", "(I)I"⟩ : MethodName) prog_1_method_24_code 1 (some .int)) 0 0 0 sp_bit :=
  x_meth (d := 0) (mc := 0) (ms := 0) M_bit false [] xJ0 9 9 (by decide +kernel) rfl (by decide +kernel) xt_arr D_bit Fo_bit Po_bit No_bit (Co_bit l hfl) (fun _ h => absurd h List.not_mem_nil) h1_bit (fun _ _ _ _ _ _ _ _ _ _ _ _ _ h => False.elim h)
def sp_hasBit : xS := fun _ _ av ct Z => ∃ (b : Int32) (n : Nat), n < 32 ∧ av = [.int b, .int (nI n)] ∧ Z (.inl (some (.int (xb (bt b n))))) ct
def L_hasBit : xLs := [(0, 1, 0, .iload 0), (1, 2, 0, .iload 1), (2, 3, 0, .ishr), (3, 4, 0, .iconst 1), (4, 5, 0, .iand), (5, 8, 12, .ifCond .eq 7), (8, 9, 0, .iconst 1), (9, 12, 13, .goto 4), (12, 13, 0, .iconst 0), (13, 14, 0, .ireturn)]
set_option maxRecDepth 20000 in
theorem D_hasBit : ∀ q ∈ L_hasBit, xdec prog_1_method_25_code q.1 q.2.1 q.2.2.1 q.2.2.2 = true := by decide +kernel
def F_hasBit : List (Nat × Nat × Nat) := []
def P_hasBit : List (Nat × Nat × Nat × FieldType) := []
def N_hasBit : List (Nat × Nat × List Value) := []
def C_hasBit : xCs := []
def X_hasBit : List (Nat × String) := []
def M_hasBit : xMd := (L_hasBit, F_hasBit, P_hasBit, N_hasBit, C_hasBit, X_hasBit, none, (some .boolean))
theorem Fo_hasBit : ∀ q ∈ F_hasBit, xFw xcl xt "DomainDesk" q.1 q.2.1 q.2.2 := fun _ h => absurd h List.not_mem_nil
theorem Po_hasBit : ∀ q ∈ P_hasBit, xPw xcl xt "DomainDesk" false q.1 q.2.1 q.2.2.1 q.2.2.2 := fun _ h => absurd h List.not_mem_nil
theorem No_hasBit : ∀ q ∈ N_hasBit, xNw xcl xt "DomainDesk" q.1 q.2.1 q.2.2 := fun _ h => absurd h List.not_mem_nil
set_option maxRecDepth 20000 in
theorem Co_hasBit (l : Launch) (hfl : l.flags = flags0) : ∀ q ∈ C_hasBit, xCw xcl xt l "DomainDesk" prog_1_method_25_code 2 0 q := fun _ h => absurd h List.not_mem_nil
theorem h1_hasBit : ∀ ts z av ct Z, sp_hasBit ts z av ct Z → xif (av.all (fun v => Nat.beq v.category 1) && Nat.ble av.length 2) (xwp ts z 0 0 M_hasBit [] Z (fun pc nc ns ls st ct' => ∃ k, xJ0 ts z av ct Z k pc nc ns ls st ct') 15 0 0 0 (xen av 2) [] ct) := by
  rintro ts z av ct Z ⟨b, n, hn, rfl, h⟩
  refine xr_br (fun hc => ?_) (fun hc => ?_)
  · rw [b_has hn] at hc
    rw [hc] at h
    exact ⟨Or.inl rfl, h⟩
  · rw [b_has hn, Bool.not_eq_false] at hc
    rw [hc] at h
    exact ⟨Or.inr rfl, h⟩
theorem m_hasBit (l : Launch) (hfl : l.flags = flags0) : xM xcl xt l (⟨"DomainDesk", "hasBit", "(II)Z"⟩ : MethodName) (Cond.code (⟨"DomainDesk", "hasBit", "(II)Z"⟩ : MethodName) prog_1_method_25_code 2 (some .boolean)) 0 0 0 sp_hasBit :=
  x_meth (d := 0) (mc := 0) (ms := 0) M_hasBit false [] xJ0 15 15 (by decide +kernel) rfl (by decide +kernel) xt_arr D_hasBit Fo_hasBit Po_hasBit No_hasBit (Co_hasBit l hfl) (fun _ h => absurd h List.not_mem_nil) h1_hasBit (fun _ _ _ _ _ _ _ _ _ _ _ _ _ h => False.elim h)
def sp_keepOnly : xS := fun ts z av ct Z => ∃ (d x n : Nat) (kept : Int32) (f : Nat → Int32), av = [.ref d, .int (nI x), .int kept] ∧ ct d = some (xAi ts n f) ∧ x < n ∧ n ≤ 100 ∧ z ≤ d ∧ Z (.inl (some (.int (if f x = kept then nI 0 else bI x)))) (xup ct d (xAi ts n (upd f x kept)))
theorem xup_same {ct : xCT} {a : Nat} {e : va_E} (h : ct a = some e) : xup ct a e = ct := by
  funext b
  by_cases hb : b = a
  · subst hb; rw [xup_s, h]
  · rw [xup_n hb]
theorem upd_same (f : Nat → Int32) (k : Nat) : upd f k (f k) = f := by
  funext j
  by_cases h : j = k
  · subst h; simp [upd]
  · simp [upd, h]
def L_keepOnly : xLs := [(0, 1, 0, .aload 0), (1, 2, 0, .iload 1), (2, 3, 0, .iaload), (3, 4, 0, .iload 2), (4, 7, 9, .if_icmp .ne 5), (7, 8, 0, .iconst 0), (8, 9, 0, .ireturn), (9, 10, 0, .aload 0), (10, 11, 0, .iload 1), (11, 12, 0, .iload 2), (12, 13, 0, .iastore), (13, 14, 0, .iload 1), (14, 17, 0, .invokestatic 13), (17, 18, 0, .ireturn)]
set_option maxRecDepth 20000 in
theorem D_keepOnly : ∀ q ∈ L_keepOnly, xdec prog_3_method_6_code q.1 q.2.1 q.2.2.1 q.2.2.2 = true := by decide +kernel
def F_keepOnly : List (Nat × Nat × Nat) := []
def P_keepOnly : List (Nat × Nat × Nat × FieldType) := []
def N_keepOnly : List (Nat × Nat × List Value) := []
def C_keepOnly : xCs := [(14, 17, 1, sp_bit, 0, 0)]
def X_keepOnly : List (Nat × String) := []
def M_keepOnly : xMd := (L_keepOnly, F_keepOnly, P_keepOnly, N_keepOnly, C_keepOnly, X_keepOnly, none, (some .int))
theorem Fo_keepOnly : ∀ q ∈ F_keepOnly, xFw xcl xt "DomainDesk$Constraint" q.1 q.2.1 q.2.2 := fun _ h => absurd h List.not_mem_nil
theorem Po_keepOnly : ∀ q ∈ P_keepOnly, xPw xcl xt "DomainDesk$Constraint" false q.1 q.2.1 q.2.2.1 q.2.2.2 := fun _ h => absurd h List.not_mem_nil
theorem No_keepOnly : ∀ q ∈ N_keepOnly, xNw xcl xt "DomainDesk$Constraint" q.1 q.2.1 q.2.2 := fun _ h => absurd h List.not_mem_nil
set_option maxRecDepth 20000 in
theorem Co_keepOnly (l : Launch) (hfl : l.flags = flags0) : ∀ q ∈ C_keepOnly, xCw xcl xt l "DomainDesk$Constraint" prog_3_method_6_code 3 1 q := List.forall_mem_cons.mpr ⟨xcw_staticN (host := "DomainDesk") (index := 13) xt_gd (m_bit l hfl) (xnw_in 147 (by decide +kernel) rfl) (xt_in 136 (by decide +kernel) rfl) (xt_in 1 (by decide +kernel) rfl) (xt_in 137 (by decide +kernel) rfl) (by decide +kernel) (by decide) (by decide +kernel), fun _ h => absurd h List.not_mem_nil⟩
theorem h1_keepOnly : ∀ ts z av ct Z, sp_keepOnly ts z av ct Z → xif (av.all (fun v => Nat.beq v.category 1) && Nat.ble av.length 3) (xwp ts z 0 0 M_keepOnly [] Z (fun pc nc ns ls st ct' => ∃ k, xJ0 ts z av ct Z k pc nc ns ls st ct') 19 0 0 0 (xen av 3) [] ct) := by
  rintro ts z av ct Z ⟨d, x, n, kept, f, rfl, hd, hx, hn, hz, h⟩
  refine xr_ald hd (vp_in_nI hx (by omega)) ?_
  rw [nI_clamp (by omega)]
  refine xr_bn (fun hc => ?_) (fun hc => ?_)
  · refine xr_ast hd (vp_in_nI hx (by omega)) hz ?_
    rw [nI_clamp (by omega)]
    refine xr_call (by decide) (by decide) ⟨x, rfl, ?_⟩
    rw [if_neg hc] at h
    exact h
  · rw [if_pos hc, ← hc, upd_same, xup_same hd] at h
    exact h
theorem m_keepOnly (l : Launch) (hfl : l.flags = flags0) : xM xcl xt l (⟨"DomainDesk$Constraint", "keepOnly", "([III)I"⟩ : MethodName) (Cond.code (⟨"DomainDesk$Constraint", "keepOnly", "([III)I"⟩ : MethodName) prog_3_method_6_code 3 (some .int)) 1 0 0 sp_keepOnly :=
  x_meth (d := 1) (mc := 0) (ms := 0) M_keepOnly false [] xJ0 19 19 (by decide +kernel) rfl (by decide +kernel) xt_arr D_keepOnly Fo_keepOnly Po_keepOnly No_keepOnly (Co_keepOnly l hfl) (fun _ h => absurd h List.not_mem_nil) h1_keepOnly (fun _ _ _ _ _ _ _ _ _ _ _ _ _ h => False.elim h)
def sp_isKind : xS := fun _ _ av ct Z => ∃ k : Int32, av = [.int k] ∧ Z (.inl (some (.int (xb (decide (0 ≤ k ∧ k ≤ nI 2)))))) ct
def L_isKind : xLs := [(0, 1, 0, .iload 0), (1, 4, 13, .ifCond .lt 12), (4, 5, 0, .iload 0), (5, 6, 0, .iconst 2), (6, 9, 13, .if_icmp .gt 7), (9, 10, 0, .iconst 1), (10, 13, 14, .goto 4), (13, 14, 0, .iconst 0), (14, 15, 0, .ireturn)]
set_option maxRecDepth 20000 in
theorem D_isKind : ∀ q ∈ L_isKind, xdec prog_1_method_22_code q.1 q.2.1 q.2.2.1 q.2.2.2 = true := by decide +kernel
def F_isKind : List (Nat × Nat × Nat) := []
def P_isKind : List (Nat × Nat × Nat × FieldType) := []
def N_isKind : List (Nat × Nat × List Value) := []
def C_isKind : xCs := []
def X_isKind : List (Nat × String) := []
def M_isKind : xMd := (L_isKind, F_isKind, P_isKind, N_isKind, C_isKind, X_isKind, none, (some .boolean))
theorem Fo_isKind : ∀ q ∈ F_isKind, xFw xcl xt "DomainDesk" q.1 q.2.1 q.2.2 := fun _ h => absurd h List.not_mem_nil
theorem Po_isKind : ∀ q ∈ P_isKind, xPw xcl xt "DomainDesk" false q.1 q.2.1 q.2.2.1 q.2.2.2 := fun _ h => absurd h List.not_mem_nil
theorem No_isKind : ∀ q ∈ N_isKind, xNw xcl xt "DomainDesk" q.1 q.2.1 q.2.2 := fun _ h => absurd h List.not_mem_nil
set_option maxRecDepth 20000 in
theorem Co_isKind (l : Launch) (hfl : l.flags = flags0) : ∀ q ∈ C_isKind, xCw xcl xt l "DomainDesk" prog_1_method_22_code 1 0 q := fun _ h => absurd h List.not_mem_nil
theorem h1_isKind : ∀ ts z av ct Z, sp_isKind ts z av ct Z → xif (av.all (fun v => Nat.beq v.category 1) && Nat.ble av.length 1) (xwp ts z 0 0 M_isKind [] Z (fun pc nc ns ls st ct' => ∃ k, xJ0 ts z av ct Z k pc nc ns ls st ct') 14 0 0 0 (xen av 1) [] ct) := by
  rintro ts z av ct Z ⟨k, rfl, h⟩
  refine xr_br (fun hc => ?_) (fun hc => ?_)
  · rw [decide_eq_false (fun q => by exact absurd q.1 (Int32.not_le.mpr hc))] at h
    exact ⟨Or.inl rfl, h⟩
  · refine xr_br (fun hd => ?_) (fun hd => ?_)
    · rw [decide_eq_false (fun q => absurd q.2 (Int32.not_le.mpr hd))] at h
      exact ⟨Or.inl rfl, h⟩
    · rw [decide_eq_true ⟨Int32.not_lt.mp hc, Int32.not_lt.mp hd⟩] at h
      exact ⟨Or.inr rfl, h⟩
theorem m_isKind (l : Launch) (hfl : l.flags = flags0) : xM xcl xt l (⟨"DomainDesk", "isKind", "(I)Z"⟩ : MethodName) (Cond.code (⟨"DomainDesk", "isKind", "(I)Z"⟩ : MethodName) prog_1_method_22_code 1 (some .boolean)) 0 0 0 sp_isKind :=
  x_meth (d := 0) (mc := 0) (ms := 0) M_isKind false [] xJ0 14 14 (by decide +kernel) rfl (by decide +kernel) xt_arr D_isKind Fo_isKind Po_isKind No_isKind (Co_isKind l hfl) (fun _ h => absurd h List.not_mem_nil) h1_isKind (fun _ _ _ _ _ _ _ _ _ _ _ _ _ h => False.elim h)
def sp_isValue : xS := fun _ _ av ct Z => ∃ k : Int32, av = [.int k] ∧ Z (.inl (some (.int (xb (decide (0 ≤ k ∧ k < nI 8)))))) ct
def L_isValue : xLs := [(0, 1, 0, .iload 0), (1, 4, 14, .ifCond .lt 13), (4, 5, 0, .iload 0), (5, 7, 0, .iconst 8), (7, 10, 14, .if_icmp .ge 7), (10, 11, 0, .iconst 1), (11, 14, 15, .goto 4), (14, 15, 0, .iconst 0), (15, 16, 0, .ireturn)]
set_option maxRecDepth 20000 in
theorem D_isValue : ∀ q ∈ L_isValue, xdec prog_1_method_23_code q.1 q.2.1 q.2.2.1 q.2.2.2 = true := by decide +kernel
def F_isValue : List (Nat × Nat × Nat) := []
def P_isValue : List (Nat × Nat × Nat × FieldType) := []
def N_isValue : List (Nat × Nat × List Value) := []
def C_isValue : xCs := []
def X_isValue : List (Nat × String) := []
def M_isValue : xMd := (L_isValue, F_isValue, P_isValue, N_isValue, C_isValue, X_isValue, none, (some .boolean))
theorem Fo_isValue : ∀ q ∈ F_isValue, xFw xcl xt "DomainDesk" q.1 q.2.1 q.2.2 := fun _ h => absurd h List.not_mem_nil
theorem Po_isValue : ∀ q ∈ P_isValue, xPw xcl xt "DomainDesk" false q.1 q.2.1 q.2.2.1 q.2.2.2 := fun _ h => absurd h List.not_mem_nil
theorem No_isValue : ∀ q ∈ N_isValue, xNw xcl xt "DomainDesk" q.1 q.2.1 q.2.2 := fun _ h => absurd h List.not_mem_nil
set_option maxRecDepth 20000 in
theorem Co_isValue (l : Launch) (hfl : l.flags = flags0) : ∀ q ∈ C_isValue, xCw xcl xt l "DomainDesk" prog_1_method_23_code 1 0 q := fun _ h => absurd h List.not_mem_nil
theorem h1_isValue : ∀ ts z av ct Z, sp_isValue ts z av ct Z → xif (av.all (fun v => Nat.beq v.category 1) && Nat.ble av.length 1) (xwp ts z 0 0 M_isValue [] Z (fun pc nc ns ls st ct' => ∃ k, xJ0 ts z av ct Z k pc nc ns ls st ct') 14 0 0 0 (xen av 1) [] ct) := by
  rintro ts z av ct Z ⟨k, rfl, h⟩
  refine xr_br (fun hc => ?_) (fun hc => ?_)
  · rw [decide_eq_false (fun q => by exact absurd q.1 (Int32.not_le.mpr hc))] at h
    exact ⟨Or.inl rfl, h⟩
  · refine xr_br (fun hd => ?_) (fun hd => ?_)
    · rw [decide_eq_false (fun q => absurd hd (Int32.not_le.mpr q.2))] at h
      exact ⟨Or.inl rfl, h⟩
    · rw [decide_eq_true ⟨Int32.not_lt.mp hc, Int32.not_le.mp hd⟩] at h
      exact ⟨Or.inr rfl, h⟩
theorem m_isValue (l : Launch) (hfl : l.flags = flags0) : xM xcl xt l (⟨"DomainDesk", "isValue", "(I)Z"⟩ : MethodName) (Cond.code (⟨"DomainDesk", "isValue", "(I)Z"⟩ : MethodName) prog_1_method_23_code 1 (some .boolean)) 0 0 0 sp_isValue :=
  x_meth (d := 0) (mc := 0) (ms := 0) M_isValue false [] xJ0 14 14 (by decide +kernel) rfl (by decide +kernel) xt_arr D_isValue Fo_isValue Po_isValue No_isValue (Co_isValue l hfl) (fun _ h => absurd h List.not_mem_nil) h1_isValue (fun _ _ _ _ _ _ _ _ _ _ _ _ _ h => False.elim h)
/-! values of a set of variables (AllDifferent.valuesOf) -/
def uM (m : Int32) (g : Nat → Int32) : Nat → Int32
  | 0 => nI 0
  | k + 1 => if bt m k = true then uM m g k ||| g k else uM m g k
def sp_valuesOf : xS := fun ts _ av ct Z => ∃ (m : Int32) (d : Nat) (g : Nat → Int32), av = [.int m, .ref d] ∧ ct d = some (xAi ts 6 g) ∧ Z (.inl (some (.int (uM m g 6)))) ct
def J_valuesOf : (Nat → ClassId) → Nat → List Value → xCT → xZ → Nat → xKt := fun ts _ av ct _ k pc nc ns ls st ct' => ∃ (m : Int32) (d : Nat) (g : Nat → Int32) (i : Nat), av = [.int m, .ref d] ∧ ct d = some (xAi ts 6 g) ∧ pc = 4 ∧ nc = 0 ∧ ns = 0 ∧ st = [] ∧ ct' = ct ∧ i ≤ 6 ∧ k = 6 - i ∧ ls = [some (.int m), some (.ref d), some (.int (uM m g i)), some (.int (nI i))]
def L_valuesOf : xLs := [(0, 1, 0, .iconst 0), (1, 2, 0, .istore 2), (2, 3, 0, .iconst 0), (3, 4, 0, .istore 3), (4, 5, 0, .iload 3), (5, 7, 0, .iconst 6), (7, 10, 30, .if_icmp .ge 23), (10, 11, 0, .iload 0), (11, 12, 0, .iload 3), (12, 15, 0, .invokestatic 29), (15, 18, 24, .ifCond .eq 9), (18, 19, 0, .iload 2), (19, 20, 0, .aload 1), (20, 21, 0, .iload 3), (21, 22, 0, .iaload), (22, 23, 0, .ior), (23, 24, 0, .istore 2), (24, 27, 0, .iinc 3 1), (27, 30, 4, .goto (-23)), (30, 31, 0, .iload 2), (31, 32, 0, .ireturn)]
set_option maxRecDepth 20000 in
theorem D_valuesOf : ∀ q ∈ L_valuesOf, xdec prog_2_method_5_code q.1 q.2.1 q.2.2.1 q.2.2.2 = true := by decide +kernel
def F_valuesOf : List (Nat × Nat × Nat) := []
def P_valuesOf : List (Nat × Nat × Nat × FieldType) := []
def N_valuesOf : List (Nat × Nat × List Value) := []
def C_valuesOf : xCs := [(12, 15, 2, sp_hasBit, 0, 0)]
def X_valuesOf : List (Nat × String) := []
def M_valuesOf : xMd := (L_valuesOf, F_valuesOf, P_valuesOf, N_valuesOf, C_valuesOf, X_valuesOf, none, (some .int))
theorem Fo_valuesOf : ∀ q ∈ F_valuesOf, xFw xcl xt "DomainDesk$AllDifferent" q.1 q.2.1 q.2.2 := fun _ h => absurd h List.not_mem_nil
theorem Po_valuesOf : ∀ q ∈ P_valuesOf, xPw xcl xt "DomainDesk$AllDifferent" false q.1 q.2.1 q.2.2.1 q.2.2.2 := fun _ h => absurd h List.not_mem_nil
theorem No_valuesOf : ∀ q ∈ N_valuesOf, xNw xcl xt "DomainDesk$AllDifferent" q.1 q.2.1 q.2.2 := fun _ h => absurd h List.not_mem_nil
set_option maxRecDepth 20000 in
theorem Co_valuesOf (l : Launch) (hfl : l.flags = flags0) : ∀ q ∈ C_valuesOf, xCw xcl xt l "DomainDesk$AllDifferent" prog_2_method_5_code 4 1 q := List.forall_mem_cons.mpr ⟨xcw_staticN (host := "DomainDesk") (index := 29) xt_gd (m_hasBit l hfl) (xnw_in 134 (by decide +kernel) rfl) (xt_in 126 (by decide +kernel) rfl) (xt_in 1 (by decide +kernel) rfl) (xt_in 127 (by decide +kernel) rfl) (by decide +kernel) (by decide) (by decide +kernel), fun _ h => absurd h List.not_mem_nil⟩
theorem h1_valuesOf : ∀ ts z av ct Z, sp_valuesOf ts z av ct Z → xif (av.all (fun v => Nat.beq v.category 1) && Nat.ble av.length 4) (xwp ts z 0 0 M_valuesOf [4] Z (fun pc nc ns ls st ct' => ∃ k, J_valuesOf ts z av ct Z k pc nc ns ls st ct') 26 0 0 0 (xen av 4) [] ct) := by
  rintro ts z av ct Z ⟨m, d, g, rfl, hd, h⟩
  exact ⟨6, m, d, g, 0, rfl, hd, rfl, rfl, rfl, rfl, rfl, Nat.zero_le _, rfl, rfl⟩
theorem h2_valuesOf : ∀ ts z av ct Z, sp_valuesOf ts z av ct Z → ∀ (k pc nc ns : Nat) (ls : xL) (st : List Value) (ct' : xCT), J_valuesOf ts z av ct Z k pc nc ns ls st ct' → xgo ts z 0 0 M_valuesOf Z (xwp ts z 0 0 M_valuesOf [4] Z (fun pc nc ns ls st ct' => ∃ k', k' < k ∧ J_valuesOf ts z av ct Z k' pc nc ns ls st ct') 26) pc nc ns ls st ct' := by
  rintro ts z av ct Z ⟨m0, d0, g0, rfl, hd0, h⟩ k pc nc ns ls st ct' ⟨m, d, g, i, e, hd, rfl, rfl, rfl, rfl, rfl, hi, rfl, rfl⟩
  cases e
  have hg : g0 = g := by
    rw [hd] at hd0
    cases hd0
    rfl
  subst hg
  refine xr_br (fun hc => ?_) (fun hc => ?_)
  · have h6 : i = 6 := Nat.le_antisymm hi (xl_ge (n := 6) hc (by decide))
    subst h6
    exact h
  · have hlt : i < 6 := xl_lt (n := 6) hc (by omega)
    refine xr_call (by decide) (by decide) ⟨m0, i, by omega, rfl, ?_⟩
    refine xr_br (fun hb => ?_) (fun hb => ?_)
    · rw [xb_0] at hb
      refine ⟨6 - (i + 1), by omega, m0, d0, g0, i + 1, rfl, hd, rfl, rfl, rfl, rfl, rfl, hlt, rfl, ?_⟩
      have e1 : uM m0 g0 (i + 1) = uM m0 g0 i := if_neg (by rw [hb]; decide)
      rw [e1, show nI (i + 1) = nI i + nI 1 from (nI_add i 1).symm]
      rfl
    · rw [xb_0, Bool.not_eq_false] at hb
      refine xr_ald hd (vp_in_nI hlt (by omega)) ?_
      rw [nI_clamp (by omega)]
      refine ⟨6 - (i + 1), by omega, m0, d0, g0, i + 1, rfl, hd, rfl, rfl, rfl, rfl, rfl, hlt, rfl, ?_⟩
      have e1 : uM m0 g0 (i + 1) = uM m0 g0 i ||| g0 i := if_pos hb
      rw [e1, show nI (i + 1) = nI i + nI 1 from (nI_add i 1).symm]
      rfl
theorem m_valuesOf (l : Launch) (hfl : l.flags = flags0) : xM xcl xt l (⟨"DomainDesk$AllDifferent", "valuesOf", "(I[I)I"⟩ : MethodName) (Cond.code (⟨"DomainDesk$AllDifferent", "valuesOf", "(I[I)I"⟩ : MethodName) prog_2_method_5_code 4 (some .int)) 1 0 0 sp_valuesOf :=
  x_meth (d := 1) (mc := 0) (ms := 0) M_valuesOf false [4] J_valuesOf 26 26 (by decide +kernel) rfl (by decide +kernel) xt_arr D_valuesOf Fo_valuesOf Po_valuesOf No_valuesOf (Co_valuesOf l hfl) (fun _ h => absurd h List.not_mem_nil) h1_valuesOf (h2_valuesOf)
/-! values taken from others (AllDifferent.takeFrom) -/
def tG (o u : Int32) (g : Nat → Int32) (n : Nat) : Nat → Int32 := fun x => if x < n ∧ bt o x = true then g x &&& (u ^^^ (-1)) else g x
def tC (o u : Int32) (g : Nat → Int32) : Nat → Int32
  | 0 => nI 0
  | k + 1 => if bt o k = true then tC o u g k ||| (if g k = g k &&& (u ^^^ (-1)) then nI 0 else bI k) else tC o u g k
