/-! the reference: small methods -/
theorem b_has1 {n : Nat} (hn : n < 32) (x : Int32) : ((x >>> (nI n &&& 31)) &&& nI 1 = nI 1) = (bt x n = true) := by
  have h := b_has hn x
  have h2 : ∀ y : Int32, y &&& nI 1 = nI 0 ∨ y &&& nI 1 = nI 1 := by
    intro y
    obtain ⟨j, hj, e⟩ := pk_andE y (m := nI 1) 1 (by decide)
    rw [e]
    match j, hj with
    | 0, _ => exact Or.inl rfl
    | 1, _ => exact Or.inr rfl
    | j + 2, hj => exact absurd hj (by omega)
  apply propext
  constructor
  · intro q
    cases hb : bt x n with
    | true => rfl
    | false =>
      rw [hb] at h
      have h3 := h.mpr rfl
      rw [q] at h3
      exact absurd h3 (by decide)
  · intro q
    rcases h2 (x >>> (nI n &&& 31)) with h3 | h3
    · have h4 : ((x >>> (nI n &&& 31)) &&& nI 1 = 0) := h3
      rw [h, q] at h4
      cases h4
    · exact h3
def sp_thrown : xS := fun _ _ av ct Z => ∃ (o : Nat) (fs : List Value) (v : Int32), av = [.ref o] ∧ ct o = some (.inr (5, fs)) ∧ fs[0]? = some (.int v) ∧ Z (.inl (some (.int v))) ct
theorem sp_thrown_recv : ∀ ts z As ct Z, sp_thrown ts z As ct Z → ∃ b As' fs, As = .ref b :: As' ∧ ct b = some (.inr (5, fs)) := by
  rintro ts z As ct Z ⟨o, fs, v, rfl, h, -⟩
  exact ⟨o, [], fs, rfl, h⟩
def L_mThrown : xLs := [(0, 1, 0, .aload 0), (1, 4, 0, .getfield 54), (4, 5, 0, .ireturn)]
set_option maxRecDepth 20000 in
theorem D_mThrown : ∀ q ∈ L_mThrown, xdec prog_7_method_2_code q.1 q.2.1 q.2.2.1 q.2.2.2 = true := by decide +kernel
def F_mThrown : List (Nat × Nat × Nat) := [(54, 5, 0)]
def P_mThrown : List (Nat × Nat × Nat × FieldType) := []
def N_mThrown : List (Nat × Nat × List Value) := []
def C_mThrown : xCs := []
def X_mThrown : List (Nat × String) := []
def M_mThrown : xMd := (L_mThrown, F_mThrown, P_mThrown, N_mThrown, C_mThrown, X_mThrown, none, (some .int))
theorem Fo_mThrown : ∀ q ∈ F_mThrown, xFw xcl xt "DomainDeskModel" q.1 q.2.1 q.2.2 := List.forall_mem_cons.mpr ⟨⟨RC5, TC5, 21, "DomainDeskModel", rfl, by decide, wC5, (xt_in 631 (by decide +kernel) rfl), (Or.inl rfl)⟩, fun _ h => absurd h List.not_mem_nil⟩
theorem Po_mThrown : ∀ q ∈ P_mThrown, xPw xcl xt "DomainDeskModel" false q.1 q.2.1 q.2.2.1 q.2.2.2 := fun _ h => absurd h List.not_mem_nil
theorem No_mThrown : ∀ q ∈ N_mThrown, xNw xcl xt "DomainDeskModel" q.1 q.2.1 q.2.2 := fun _ h => absurd h List.not_mem_nil
set_option maxRecDepth 20000 in
theorem Co_mThrown (l : Launch) (hfl : l.flags = flags0) : ∀ q ∈ C_mThrown, xCw xcl xt l "DomainDeskModel" prog_7_method_2_code 1 0 q := fun _ h => absurd h List.not_mem_nil
theorem h1_mThrown : ∀ ts z av ct Z, sp_thrown ts z av ct Z → xif (av.all (fun v => Nat.beq v.category 1) && Nat.ble av.length 1) (xwp ts z 0 0 M_mThrown [] Z (fun pc nc ns ls st ct' => ∃ k, xJ0 ts z av ct Z k pc nc ns ls st ct') 8 0 0 0 (xen av 1) [] ct) := by
  rintro ts z av ct Z ⟨o, fs, v, rfl, ho, h0, h⟩
  refine xr_get ho rfl h0 ?_
  exact h
theorem m_mThrown (l : Launch) (hfl : l.flags = flags0) : xM xcl xt l (⟨"DomainDeskModel", "thrown", "()I"⟩ : MethodName) (Cond.code (⟨"DomainDeskModel", "thrown", "()I"⟩ : MethodName) prog_7_method_2_code 1 (some .int)) 0 0 0 sp_thrown :=
  x_meth (d := 0) (mc := 0) (ms := 0) M_mThrown false [] xJ0 8 8 (by decide +kernel) rfl (by decide +kernel) xt_arr D_mThrown Fo_mThrown Po_mThrown No_mThrown (Co_mThrown l hfl) (fun _ h => absurd h List.not_mem_nil) h1_mThrown (fun _ _ _ _ _ _ _ _ _ _ _ _ _ h => False.elim h)
def sp_mIn : xS := fun _ _ av ct Z => ∃ v lo hi : Int32, av = [.int v, .int lo, .int hi] ∧ Z (.inl (some (.int (xb (decide (lo ≤ v ∧ v ≤ hi)))))) ct
def L_mIn : xLs := [(0, 1, 0, .iload 0), (1, 2, 0, .iload 1), (2, 5, 14, .if_icmp .lt 12), (5, 6, 0, .iload 0), (6, 7, 0, .iload 2), (7, 10, 14, .if_icmp .gt 7), (10, 11, 0, .iconst 1), (11, 14, 15, .goto 4), (14, 15, 0, .iconst 0), (15, 16, 0, .ireturn)]
set_option maxRecDepth 20000 in
theorem D_mIn : ∀ q ∈ L_mIn, xdec prog_7_method_3_code q.1 q.2.1 q.2.2.1 q.2.2.2 = true := by decide +kernel
def F_mIn : List (Nat × Nat × Nat) := []
def P_mIn : List (Nat × Nat × Nat × FieldType) := []
def N_mIn : List (Nat × Nat × List Value) := []
def C_mIn : xCs := []
def X_mIn : List (Nat × String) := []
def M_mIn : xMd := (L_mIn, F_mIn, P_mIn, N_mIn, C_mIn, X_mIn, none, (some .boolean))
theorem Fo_mIn : ∀ q ∈ F_mIn, xFw xcl xt "DomainDeskModel" q.1 q.2.1 q.2.2 := fun _ h => absurd h List.not_mem_nil
theorem Po_mIn : ∀ q ∈ P_mIn, xPw xcl xt "DomainDeskModel" false q.1 q.2.1 q.2.2.1 q.2.2.2 := fun _ h => absurd h List.not_mem_nil
theorem No_mIn : ∀ q ∈ N_mIn, xNw xcl xt "DomainDeskModel" q.1 q.2.1 q.2.2 := fun _ h => absurd h List.not_mem_nil
set_option maxRecDepth 20000 in
theorem Co_mIn (l : Launch) (hfl : l.flags = flags0) : ∀ q ∈ C_mIn, xCw xcl xt l "DomainDeskModel" prog_7_method_3_code 3 0 q := fun _ h => absurd h List.not_mem_nil
theorem h1_mIn : ∀ ts z av ct Z, sp_mIn ts z av ct Z → xif (av.all (fun v => Nat.beq v.category 1) && Nat.ble av.length 3) (xwp ts z 0 0 M_mIn [] Z (fun pc nc ns ls st ct' => ∃ k, xJ0 ts z av ct Z k pc nc ns ls st ct') 15 0 0 0 (xen av 3) [] ct) := by
  rintro ts z av ct Z ⟨v, lo, hi, rfl, h⟩
  refine xr_br (fun hc => ?_) (fun hc => ?_)
  · rw [decide_eq_false (fun q => absurd q.1 (Int32.not_le.mpr hc))] at h
    exact ⟨Or.inl rfl, h⟩
  · refine xr_br (fun hd => ?_) (fun hd => ?_)
    · rw [decide_eq_false (fun q => absurd q.2 (Int32.not_le.mpr hd))] at h
      exact ⟨Or.inl rfl, h⟩
    · rw [decide_eq_true ⟨Int32.not_lt.mp hc, Int32.not_lt.mp hd⟩] at h
      exact ⟨Or.inr rfl, h⟩
theorem m_mIn (l : Launch) (hfl : l.flags = flags0) : xM xcl xt l (⟨"DomainDeskModel", "in", "(III)Z"⟩ : MethodName) (Cond.code (⟨"DomainDeskModel", "in", "(III)Z"⟩ : MethodName) prog_7_method_3_code 3 (some .boolean)) 0 0 0 sp_mIn :=
  x_meth (d := 0) (mc := 0) (ms := 0) M_mIn false [] xJ0 15 15 (by decide +kernel) rfl (by decide +kernel) xt_arr D_mIn Fo_mIn Po_mIn No_mIn (Co_mIn l hfl) (fun _ h => absurd h List.not_mem_nil) h1_mIn (fun _ _ _ _ _ _ _ _ _ _ _ _ _ h => False.elim h)
def sp_mIsVar : xS := fun _ _ av ct Z => ∃ (o n : Nat) (x : Int32) (fs : List Value), av = [.ref o, .int x] ∧ ct o = some (.inr (5, fs)) ∧ fs[1]? = some (.int (nI n)) ∧ n ≤ 6 ∧ Z (.inl (some (.int (xb (decide (0 ≤ x ∧ x < nI n)))))) ct
theorem sp_mIsVar_recv : ∀ ts z As ct Z, sp_mIsVar ts z As ct Z → ∃ b As' fs, As = .ref b :: As' ∧ ct b = some (.inr (5, fs)) := by
  rintro ts z As ct Z ⟨o, n, x, fs, rfl, h, -⟩
  exact ⟨o, [.int x], fs, rfl, h⟩
theorem le_pred32 {x : Int32} {n : Nat} (hn : n ≤ 6) : (x ≤ nI n - nI 1) = (x < nI n) := by
  have e : (nI n - nI 1).toInt = (n : Int) - 1 := pk_sub_toInt (a := n) (b := 1) (by omega) (by omega)
  have e2 : (nI n).toInt = (n : Int) := nI_toInt (by omega)
  apply propext
  rw [Int32.le_iff_toInt_le, Int32.lt_iff_toInt_lt, e, e2]
  omega
def L_mIsVar : xLs := [(0, 1, 0, .iload 1), (1, 2, 0, .iconst 0), (2, 3, 0, .aload 0), (3, 6, 0, .getfield 58), (6, 7, 0, .iconst 1), (7, 8, 0, .isub), (8, 11, 0, .invokestatic 61), (11, 12, 0, .ireturn)]
set_option maxRecDepth 20000 in
theorem D_mIsVar : ∀ q ∈ L_mIsVar, xdec prog_7_method_4_code q.1 q.2.1 q.2.2.1 q.2.2.2 = true := by decide +kernel
def F_mIsVar : List (Nat × Nat × Nat) := [(58, 5, 1)]
def P_mIsVar : List (Nat × Nat × Nat × FieldType) := []
def N_mIsVar : List (Nat × Nat × List Value) := []
def C_mIsVar : xCs := [(8, 11, 3, sp_mIn, 0, 0)]
def X_mIsVar : List (Nat × String) := []
def M_mIsVar : xMd := (L_mIsVar, F_mIsVar, P_mIsVar, N_mIsVar, C_mIsVar, X_mIsVar, none, (some .boolean))
theorem Fo_mIsVar : ∀ q ∈ F_mIsVar, xFw xcl xt "DomainDeskModel" q.1 q.2.1 q.2.2 := List.forall_mem_cons.mpr ⟨⟨RC5, TC5, 21, "DomainDeskModel", rfl, by decide, wC5, (xt_in 632 (by decide +kernel) rfl), (Or.inl rfl)⟩, fun _ h => absurd h List.not_mem_nil⟩
theorem Po_mIsVar : ∀ q ∈ P_mIsVar, xPw xcl xt "DomainDeskModel" false q.1 q.2.1 q.2.2.1 q.2.2.2 := fun _ h => absurd h List.not_mem_nil
theorem No_mIsVar : ∀ q ∈ N_mIsVar, xNw xcl xt "DomainDeskModel" q.1 q.2.1 q.2.2 := fun _ h => absurd h List.not_mem_nil
set_option maxRecDepth 20000 in
theorem Co_mIsVar (l : Launch) (hfl : l.flags = flags0) : ∀ q ∈ C_mIsVar, xCw xcl xt l "DomainDeskModel" prog_7_method_4_code 2 1 q := List.forall_mem_cons.mpr ⟨xcw_static (index := 61) xt_gd (m_mIn l hfl) (xt_in 705 (by decide +kernel) rfl) (xt_in 706 (by decide +kernel) rfl) (xt_in 5 (by decide +kernel) rfl) (xt_in 707 (by decide +kernel) rfl) (by decide +kernel) (by decide) (by decide +kernel), fun _ h => absurd h List.not_mem_nil⟩
theorem h1_mIsVar : ∀ ts z av ct Z, sp_mIsVar ts z av ct Z → xif (av.all (fun v => Nat.beq v.category 1) && Nat.ble av.length 2) (xwp ts z 0 0 M_mIsVar [] Z (fun pc nc ns ls st ct' => ∃ k, xJ0 ts z av ct Z k pc nc ns ls st ct') 13 0 0 0 (xen av 2) [] ct) := by
  rintro ts z av ct Z ⟨o, n, x, fs, rfl, ho, h1, hn, h⟩
  refine xr_get ho rfl h1 ?_
  refine xr_call (by decide) (by decide) ⟨x, nI 0, nI n - nI 1, rfl, ?_⟩
  refine xr_bool (xb_01 _) ?_
  rw [show decide (nI 0 ≤ x ∧ x ≤ nI n - nI 1) = decide (0 ≤ x ∧ x < nI n) from decide_eq_decide.mpr (by rw [le_pred32 hn, nI_0])]
  exact h
theorem m_mIsVar (l : Launch) (hfl : l.flags = flags0) : xM xcl xt l (⟨"DomainDeskModel", "isVariable", "(I)Z"⟩ : MethodName) (Cond.code (⟨"DomainDeskModel", "isVariable", "(I)Z"⟩ : MethodName) prog_7_method_4_code 2 (some .boolean)) 1 0 0 sp_mIsVar :=
  x_meth (d := 1) (mc := 0) (ms := 0) M_mIsVar false [] xJ0 13 13 (by decide +kernel) rfl (by decide +kernel) xt_arr D_mIsVar Fo_mIsVar Po_mIsVar No_mIsVar (Co_mIsVar l hfl) (fun _ h => absurd h List.not_mem_nil) h1_mIsVar (fun _ _ _ _ _ _ _ _ _ _ _ _ _ h => False.elim h)
def sp_mNow : xS := fun ts _ av ct Z => ∃ (o dm lv x : Nat) (fs : List Value) (f : Nat → Int32), av = [.ref o, .int (nI x)] ∧ ct o = some (.inr (5, fs)) ∧ fs[13]? = some (.int (nI lv)) ∧ fs[14]? = some (.ref dm) ∧ ct dm = some (xAi ts 126 f) ∧ 6 * lv + x < 126 ∧ Z (.inl (some (.int (f (6 * lv + x))))) ct
theorem sp_mNow_recv : ∀ ts z As ct Z, sp_mNow ts z As ct Z → ∃ b As' fs, As = .ref b :: As' ∧ ct b = some (.inr (5, fs)) := by
  rintro ts z As ct Z ⟨o, dm, lv, x, fs, f, rfl, h, -⟩
  exact ⟨o, [.int (nI x)], fs, rfl, h⟩
def L_mNow : xLs := [(0, 1, 0, .aload 0), (1, 4, 0, .getfield 38), (4, 6, 0, .iconst 6), (6, 7, 0, .aload 0), (7, 10, 0, .getfield 65), (10, 11, 0, .imul), (11, 12, 0, .iload 1), (12, 13, 0, .iadd), (13, 14, 0, .iaload), (14, 15, 0, .ireturn)]
set_option maxRecDepth 20000 in
theorem D_mNow : ∀ q ∈ L_mNow, xdec prog_7_method_5_code q.1 q.2.1 q.2.2.1 q.2.2.2 = true := by decide +kernel
def F_mNow : List (Nat × Nat × Nat) := [(38, 5, 14), (65, 5, 13)]
def P_mNow : List (Nat × Nat × Nat × FieldType) := []
def N_mNow : List (Nat × Nat × List Value) := []
def C_mNow : xCs := []
def X_mNow : List (Nat × String) := []
def M_mNow : xMd := (L_mNow, F_mNow, P_mNow, N_mNow, C_mNow, X_mNow, none, (some .int))
theorem Fo_mNow : ∀ q ∈ F_mNow, xFw xcl xt "DomainDeskModel" q.1 q.2.1 q.2.2 := List.forall_mem_cons.mpr ⟨⟨RC5, TC5, 21, "DomainDeskModel", rfl, by decide, wC5, (xt_in 645 (by decide +kernel) rfl), (Or.inl rfl)⟩, List.forall_mem_cons.mpr ⟨⟨RC5, TC5, 21, "DomainDeskModel", rfl, by decide, wC5, (xt_in 644 (by decide +kernel) rfl), (Or.inl rfl)⟩, fun _ h => absurd h List.not_mem_nil⟩⟩
theorem Po_mNow : ∀ q ∈ P_mNow, xPw xcl xt "DomainDeskModel" false q.1 q.2.1 q.2.2.1 q.2.2.2 := fun _ h => absurd h List.not_mem_nil
theorem No_mNow : ∀ q ∈ N_mNow, xNw xcl xt "DomainDeskModel" q.1 q.2.1 q.2.2 := fun _ h => absurd h List.not_mem_nil
set_option maxRecDepth 20000 in
theorem Co_mNow (l : Launch) (hfl : l.flags = flags0) : ∀ q ∈ C_mNow, xCw xcl xt l "DomainDeskModel" prog_7_method_5_code 2 0 q := fun _ h => absurd h List.not_mem_nil
theorem h1_mNow : ∀ ts z av ct Z, sp_mNow ts z av ct Z → xif (av.all (fun v => Nat.beq v.category 1) && Nat.ble av.length 2) (xwp ts z 0 0 M_mNow [] Z (fun pc nc ns ls st ct' => ∃ k, xJ0 ts z av ct Z k pc nc ns ls st ct') 15 0 0 0 (xen av 2) [] ct) := by
  rintro ts z av ct Z ⟨o, dm, lv, x, fs, f, rfl, ho, h13, h14, hd, hlt, h⟩
  refine xr_get ho rfl h14 ?_
  refine xr_get ho rfl h13 ?_
  have e : nI 6 * nI lv + nI x = nI (6 * lv + x) := by rw [pk_mul, nI_add]
  have hi : vp_in (nI 6 * nI lv + nI x) 126 := by rw [e]; exact vp_in_nI hlt (by omega)
  refine xr_ald hd hi ?_
  rw [e, nI_clamp (by omega)]
  exact h
theorem m_mNow (l : Launch) (hfl : l.flags = flags0) : xM xcl xt l (⟨"DomainDeskModel", "now", "(I)I"⟩ : MethodName) (Cond.code (⟨"DomainDeskModel", "now", "(I)I"⟩ : MethodName) prog_7_method_5_code 2 (some .int)) 0 0 0 sp_mNow :=
  x_meth (d := 0) (mc := 0) (ms := 0) M_mNow false [] xJ0 15 15 (by decide +kernel) rfl (by decide +kernel) xt_arr D_mNow Fo_mNow Po_mNow No_mNow (Co_mNow l hfl) (fun _ h => absurd h List.not_mem_nil) h1_mNow (fun _ _ _ _ _ _ _ _ _ _ _ _ _ h => False.elim h)
def sp_mHas : xS := fun ts _ av ct Z => ∃ (o dm lv x v : Nat) (fs : List Value) (f : Nat → Int32), av = [.ref o, .int (nI x), .int (nI v)] ∧ v < 32 ∧ ct o = some (.inr (5, fs)) ∧ fs[13]? = some (.int (nI lv)) ∧ fs[14]? = some (.ref dm) ∧ ct dm = some (xAi ts 126 f) ∧ 6 * lv + x < 126 ∧ Z (.inl (some (.int (xb (bt (f (6 * lv + x)) v))))) ct
theorem sp_mHas_recv : ∀ ts z As ct Z, sp_mHas ts z As ct Z → ∃ b As' fs, As = .ref b :: As' ∧ ct b = some (.inr (5, fs)) := by
  rintro ts z As ct Z ⟨o, dm, lv, x, v, fs, f, rfl, -, h, -⟩
  exact ⟨o, [.int (nI x), .int (nI v)], fs, rfl, h⟩
def L_mHas : xLs := [(0, 1, 0, .aload 0), (1, 2, 0, .iload 1), (2, 5, 0, .invokevirtual 72), (5, 6, 0, .iload 2), (6, 7, 0, .ishr), (7, 8, 0, .iconst 1), (8, 9, 0, .iand), (9, 10, 0, .iconst 1), (10, 13, 17, .if_icmp .ne 7), (13, 14, 0, .iconst 1), (14, 17, 18, .goto 4), (17, 18, 0, .iconst 0), (18, 19, 0, .ireturn)]
set_option maxRecDepth 20000 in
theorem D_mHas : ∀ q ∈ L_mHas, xdec prog_7_method_9_code q.1 q.2.1 q.2.2.1 q.2.2.2 = true := by decide +kernel
def F_mHas : List (Nat × Nat × Nat) := []
def P_mHas : List (Nat × Nat × Nat × FieldType) := []
def N_mHas : List (Nat × Nat × List Value) := []
def C_mHas : xCs := [(2, 5, 2, sp_mNow, 0, 0)]
def X_mHas : List (Nat × String) := []
def M_mHas : xMd := (L_mHas, F_mHas, P_mHas, N_mHas, C_mHas, X_mHas, none, (some .boolean))
theorem Fo_mHas : ∀ q ∈ F_mHas, xFw xcl xt "DomainDeskModel" q.1 q.2.1 q.2.2 := fun _ h => absurd h List.not_mem_nil
theorem Po_mHas : ∀ q ∈ P_mHas, xPw xcl xt "DomainDeskModel" false q.1 q.2.1 q.2.2.1 q.2.2.2 := fun _ h => absurd h List.not_mem_nil
theorem No_mHas : ∀ q ∈ N_mHas, xNw xcl xt "DomainDeskModel" q.1 q.2.1 q.2.2 := fun _ h => absurd h List.not_mem_nil
set_option maxRecDepth 20000 in
theorem Co_mHas (l : Launch) (hfl : l.flags = flags0) : ∀ q ∈ C_mHas, xCw xcl xt l "DomainDeskModel" prog_7_method_9_code 3 1 q := List.forall_mem_cons.mpr ⟨xcw_virtual (ci := 5) (index := 72) xt_gd (m_mNow l hfl) sp_mNow_recv rfl rfl (xt_in 728 (by decide +kernel) rfl) (xt_in 730 (by decide +kernel) rfl) (xt_sel 21 (by decide +kernel) rfl) (xt_in 5 (by decide +kernel) rfl) (xt_in 731 (by decide +kernel) rfl) (by decide +kernel) (by decide) (by decide +kernel), fun _ h => absurd h List.not_mem_nil⟩
theorem h1_mHas : ∀ ts z av ct Z, sp_mHas ts z av ct Z → xif (av.all (fun v => Nat.beq v.category 1) && Nat.ble av.length 3) (xwp ts z 0 0 M_mHas [] Z (fun pc nc ns ls st ct' => ∃ k, xJ0 ts z av ct Z k pc nc ns ls st ct') 18 0 0 0 (xen av 3) [] ct) := by
  rintro ts z av ct Z ⟨o, dm, lv, x, v, fs, f, rfl, hv, ho, h13, h14, hd, hlt, h⟩
  refine xr_call (by decide) (by decide) ⟨o, dm, lv, x, fs, f, rfl, ho, h13, h14, hd, hlt, ?_⟩
  refine xr_bn (fun hc => ?_) (fun hc => ?_)
  · rw [b_has1 hv, Bool.not_eq_true] at hc
    rw [hc] at h
    exact ⟨Or.inl rfl, h⟩
  · rw [b_has1 hv] at hc
    rw [hc] at h
    exact ⟨Or.inr rfl, h⟩
theorem m_mHas (l : Launch) (hfl : l.flags = flags0) : xM xcl xt l (⟨"DomainDeskModel", "has", "(II)Z"⟩ : MethodName) (Cond.code (⟨"DomainDeskModel", "has", "(II)Z"⟩ : MethodName) prog_7_method_9_code 3 (some .boolean)) 1 0 0 sp_mHas :=
  x_meth (d := 1) (mc := 0) (ms := 0) M_mHas false [] xJ0 18 18 (by decide +kernel) rfl (by decide +kernel) xt_arr D_mHas Fo_mHas Po_mHas No_mHas (Co_mHas l hfl) (fun _ h => absurd h List.not_mem_nil) h1_mHas (fun _ _ _ _ _ _ _ _ _ _ _ _ _ h => False.elim h)
