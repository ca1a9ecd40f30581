/-! the reference: what constraints say -/
theorem xz1 {b : Bool} {Z : xZ} {ct : xCT} (e : b = true) (h : Z (.inl (some (.int (xb b)))) ct) : (nI 1 = 0 ∨ nI 1 = 1) ∧ Z (.inl (some (.int (nI 1)))) ct := by subst e; exact ⟨Or.inr rfl, h⟩
theorem xz0 {b : Bool} {Z : xZ} {ct : xCT} (e : b = false) (h : Z (.inl (some (.int (xb b)))) ct) : (nI 0 = 0 ∨ nI 0 = 1) ∧ Z (.inl (some (.int (nI 0)))) ct := by subst e; exact ⟨Or.inl rfl, h⟩
def h2B (k c a b : Int32) : Bool := if k = 0 then decide (¬ a + c = b) else if k = nI 1 then decide (a + c ≤ b) else decide (c ≤ (if a < b then b - a else a - b))
def sp_mTwo : xS := fun _ _ av ct Z => ∃ k c a b : Int32, av = [.int k, .int c, .int a, .int b] ∧ Z (.inl (some (.int (xb (h2B k c a b))))) ct
def L_mTwo : xLs := [(0, 1, 0, .iload 2), (1, 2, 0, .iload 3), (2, 5, 11, .if_icmp .ge 9), (5, 6, 0, .iload 3), (6, 7, 0, .iload 2), (7, 8, 0, .isub), (8, 11, 14, .goto 6), (11, 12, 0, .iload 2), (12, 13, 0, .iload 3), (13, 14, 0, .isub), (14, 16, 0, .istore 4), (16, 17, 0, .iload 0), (17, 20, 35, .ifCond .ne 18), (20, 21, 0, .iload 2), (21, 22, 0, .iload 1), (22, 23, 0, .iadd), (23, 24, 0, .iload 3), (24, 27, 31, .if_icmp .eq 7), (27, 28, 0, .iconst 1), (28, 31, 66, .goto 38), (31, 32, 0, .iconst 0), (32, 35, 66, .goto 34), (35, 36, 0, .iload 0), (36, 37, 0, .iconst 1), (37, 40, 55, .if_icmp .ne 18), (40, 41, 0, .iload 2), (41, 42, 0, .iload 1), (42, 43, 0, .iadd), (43, 44, 0, .iload 3), (44, 47, 51, .if_icmp .gt 7), (47, 48, 0, .iconst 1), (48, 51, 66, .goto 18), (51, 52, 0, .iconst 0), (52, 55, 66, .goto 14), (55, 57, 0, .iload 4), (57, 58, 0, .iload 1), (58, 61, 65, .if_icmp .lt 7), (61, 62, 0, .iconst 1), (62, 65, 66, .goto 4), (65, 66, 0, .iconst 0), (66, 67, 0, .ireturn)]
set_option maxRecDepth 20000 in
theorem D_mTwo : ∀ q ∈ L_mTwo, xdec prog_7_method_6_code q.1 q.2.1 q.2.2.1 q.2.2.2 = true := by decide +kernel
def F_mTwo : List (Nat × Nat × Nat) := []
def P_mTwo : List (Nat × Nat × Nat × FieldType) := []
def N_mTwo : List (Nat × Nat × List Value) := []
def C_mTwo : xCs := []
def X_mTwo : List (Nat × String) := []
def M_mTwo : xMd := (L_mTwo, F_mTwo, P_mTwo, N_mTwo, C_mTwo, X_mTwo, none, (some .boolean))
theorem Fo_mTwo : ∀ q ∈ F_mTwo, xFw xcl xt "DomainDeskModel" q.1 q.2.1 q.2.2 := fun _ h => absurd h List.not_mem_nil
theorem Po_mTwo : ∀ q ∈ P_mTwo, xPw xcl xt "DomainDeskModel" false q.1 q.2.1 q.2.2.1 q.2.2.2 := fun _ h => absurd h List.not_mem_nil
theorem No_mTwo : ∀ q ∈ N_mTwo, xNw xcl xt "DomainDeskModel" q.1 q.2.1 q.2.2 := fun _ h => absurd h List.not_mem_nil
set_option maxRecDepth 20000 in
theorem Co_mTwo (l : Launch) (hfl : l.flags = flags0) : ∀ q ∈ C_mTwo, xCw xcl xt l "DomainDeskModel" prog_7_method_6_code 5 0 q := fun _ h => absurd h List.not_mem_nil
theorem h1_mTwo : ∀ ts z av ct Z, sp_mTwo ts z av ct Z → xif (av.all (fun v => Nat.beq v.category 1) && Nat.ble av.length 5) (xwp ts z 0 0 M_mTwo [] Z (fun pc nc ns ls st ct' => ∃ k, xJ0 ts z av ct Z k pc nc ns ls st ct') 46 0 0 0 (xen av 5) [] ct) := by
  rintro ts z av ct Z ⟨k, c, a, b, rfl, h⟩
  unfold h2B at h
  refine xr_br (fun q1 => ?_) (fun q1 => ?_)
  · rw [if_neg (Int32.not_lt.mpr q1)] at h
    refine xr_bn (fun q2 => ?_) (fun q2 => ?_)
    · rw [if_neg q2] at h
      refine xr_bn (fun q3 => ?_) (fun q3 => ?_)
      · rw [if_neg q3] at h
        refine xr_br (fun q4 => ?_) (fun q4 => ?_)
        · exact xz0 (decide_eq_false (Int32.not_le.mpr q4)) h
        · exact xz1 (decide_eq_true (Int32.not_lt.mp q4)) h
      · rw [if_pos q3] at h
        refine xr_br (fun q4 => ?_) (fun q4 => ?_)
        · exact xz0 (decide_eq_false (Int32.not_le.mpr q4)) h
        · exact xz1 (decide_eq_true (Int32.not_lt.mp q4)) h
    · rw [if_pos q2] at h
      refine xr_br (fun q4 => ?_) (fun q4 => ?_)
      · exact xz0 (decide_eq_false (fun n => n q4)) h
      · exact xz1 (decide_eq_true q4) h
  · rw [if_pos (Int32.not_le.mp q1)] at h
    refine xr_bn (fun q2 => ?_) (fun q2 => ?_)
    · rw [if_neg q2] at h
      refine xr_bn (fun q3 => ?_) (fun q3 => ?_)
      · rw [if_neg q3] at h
        refine xr_br (fun q4 => ?_) (fun q4 => ?_)
        · exact xz0 (decide_eq_false (Int32.not_le.mpr q4)) h
        · exact xz1 (decide_eq_true (Int32.not_lt.mp q4)) h
      · rw [if_pos q3] at h
        refine xr_br (fun q4 => ?_) (fun q4 => ?_)
        · exact xz0 (decide_eq_false (Int32.not_le.mpr q4)) h
        · exact xz1 (decide_eq_true (Int32.not_lt.mp q4)) h
    · rw [if_pos q2] at h
      refine xr_br (fun q4 => ?_) (fun q4 => ?_)
      · exact xz0 (decide_eq_false (fun n => n q4)) h
      · exact xz1 (decide_eq_true q4) h
theorem m_mTwo (l : Launch) (hfl : l.flags = flags0) : xM xcl xt l (⟨"DomainDeskModel", "holdsTwo", "(IIII)Z"⟩ : MethodName) (Cond.code (⟨"DomainDeskModel", "holdsTwo", "(IIII)Z"⟩ : MethodName) prog_7_method_6_code 5 (some .boolean)) 0 0 0 sp_mTwo :=
  x_meth (d := 0) (mc := 0) (ms := 0) M_mTwo false [] xJ0 46 46 (by decide +kernel) rfl (by decide +kernel) xt_arr D_mTwo Fo_mTwo Po_mTwo No_mTwo (Co_mTwo l hfl) (fun _ h => absurd h List.not_mem_nil) h1_mTwo (fun _ _ _ _ _ _ _ _ _ _ _ _ _ h => False.elim h)
def h3B (k a b c : Int32) : Bool := if k = 0 then decide (a + b = c) else if k = nI 1 then decide (a * b = c) else decide ((if b < a then a else b) = c)
def sp_mThree : xS := fun _ _ av ct Z => ∃ k a b c : Int32, av = [.int k, .int a, .int b, .int c] ∧ Z (.inl (some (.int (xb (h3B k a b c))))) ct
def L_mThree : xLs := [(0, 1, 0, .iload 0), (1, 4, 19, .ifCond .ne 18), (4, 5, 0, .iload 1), (5, 6, 0, .iload 2), (6, 7, 0, .iadd), (7, 8, 0, .iload 3), (8, 11, 15, .if_icmp .ne 7), (11, 12, 0, .iconst 1), (12, 15, 58, .goto 46), (15, 16, 0, .iconst 0), (16, 19, 58, .goto 42), (19, 20, 0, .iload 0), (20, 21, 0, .iconst 1), (21, 24, 39, .if_icmp .ne 18), (24, 25, 0, .iload 1), (25, 26, 0, .iload 2), (26, 27, 0, .imul), (27, 28, 0, .iload 3), (28, 31, 35, .if_icmp .ne 7), (31, 32, 0, .iconst 1), (32, 35, 58, .goto 26), (35, 36, 0, .iconst 0), (36, 39, 58, .goto 22), (39, 40, 0, .iload 1), (40, 41, 0, .iload 2), (41, 44, 48, .if_icmp .le 7), (44, 45, 0, .iload 1), (45, 48, 49, .goto 4), (48, 49, 0, .iload 2), (49, 50, 0, .iload 3), (50, 53, 57, .if_icmp .ne 7), (53, 54, 0, .iconst 1), (54, 57, 58, .goto 4), (57, 58, 0, .iconst 0), (58, 59, 0, .ireturn)]
set_option maxRecDepth 20000 in
theorem D_mThree : ∀ q ∈ L_mThree, xdec prog_7_method_7_code q.1 q.2.1 q.2.2.1 q.2.2.2 = true := by decide +kernel
def F_mThree : List (Nat × Nat × Nat) := []
def P_mThree : List (Nat × Nat × Nat × FieldType) := []
def N_mThree : List (Nat × Nat × List Value) := []
def C_mThree : xCs := []
def X_mThree : List (Nat × String) := []
def M_mThree : xMd := (L_mThree, F_mThree, P_mThree, N_mThree, C_mThree, X_mThree, none, (some .boolean))
theorem Fo_mThree : ∀ q ∈ F_mThree, xFw xcl xt "DomainDeskModel" q.1 q.2.1 q.2.2 := fun _ h => absurd h List.not_mem_nil
theorem Po_mThree : ∀ q ∈ P_mThree, xPw xcl xt "DomainDeskModel" false q.1 q.2.1 q.2.2.1 q.2.2.2 := fun _ h => absurd h List.not_mem_nil
theorem No_mThree : ∀ q ∈ N_mThree, xNw xcl xt "DomainDeskModel" q.1 q.2.1 q.2.2 := fun _ h => absurd h List.not_mem_nil
set_option maxRecDepth 20000 in
theorem Co_mThree (l : Launch) (hfl : l.flags = flags0) : ∀ q ∈ C_mThree, xCw xcl xt l "DomainDeskModel" prog_7_method_7_code 4 0 q := fun _ h => absurd h List.not_mem_nil
theorem h1_mThree : ∀ ts z av ct Z, sp_mThree ts z av ct Z → xif (av.all (fun v => Nat.beq v.category 1) && Nat.ble av.length 4) (xwp ts z 0 0 M_mThree [] Z (fun pc nc ns ls st ct' => ∃ k, xJ0 ts z av ct Z k pc nc ns ls st ct') 40 0 0 0 (xen av 4) [] ct) := by
  rintro ts z av ct Z ⟨k, a, b, c, rfl, h⟩
  unfold h3B at h
  refine xr_bn (fun q2 => ?_) (fun q2 => ?_)
  · rw [if_neg q2] at h
    refine xr_bn (fun q3 => ?_) (fun q3 => ?_)
    · rw [if_neg q3] at h
      refine xr_br (fun q1 => ?_) (fun q1 => ?_)
      · rw [if_neg (Int32.not_lt.mpr q1)] at h
        refine xr_bn (fun q4 => ?_) (fun q4 => ?_)
        · exact xz0 (decide_eq_false q4) h
        · exact xz1 (decide_eq_true q4) h
      · rw [if_pos (Int32.not_le.mp q1)] at h
        refine xr_bn (fun q4 => ?_) (fun q4 => ?_)
        · exact xz0 (decide_eq_false q4) h
        · exact xz1 (decide_eq_true q4) h
    · rw [if_pos q3] at h
      refine xr_bn (fun q4 => ?_) (fun q4 => ?_)
      · exact xz0 (decide_eq_false q4) h
      · exact xz1 (decide_eq_true q4) h
  · rw [if_pos q2] at h
    refine xr_bn (fun q4 => ?_) (fun q4 => ?_)
    · exact xz0 (decide_eq_false q4) h
    · exact xz1 (decide_eq_true q4) h
theorem m_mThree (l : Launch) (hfl : l.flags = flags0) : xM xcl xt l (⟨"DomainDeskModel", "holdsThree", "(IIII)Z"⟩ : MethodName) (Cond.code (⟨"DomainDeskModel", "holdsThree", "(IIII)Z"⟩ : MethodName) prog_7_method_7_code 4 (some .boolean)) 0 0 0 sp_mThree :=
  x_meth (d := 0) (mc := 0) (ms := 0) M_mThree false [] xJ0 40 40 (by decide +kernel) rfl (by decide +kernel) xt_arr D_mThree Fo_mThree Po_mThree No_mThree (Co_mThree l hfl) (fun _ h => absurd h List.not_mem_nil) h1_mThree (fun _ _ _ _ _ _ _ _ _ _ _ _ _ h => False.elim h)
def iofB (s o t u b : Int32) (x : Nat) : Bool := if s = nI 2 then bt b x else (decide (o = nI x) || decide (t = nI x) || (decide (s = nI 1) && decide (u = nI x)))
def sp_mIsOf : xS := fun ts _ av ct Z => ∃ (o k x a4 a6 a7 a8 a10 : Nat) (fs : List Value) (f4 f6 f7 f8 f10 : Nat → Int32), av = [.ref o, .int (nI k), .int (nI x)] ∧ k < 12 ∧ x < 32 ∧ ct o = some (.inr (5, fs)) ∧ fs[4]? = some (.ref a4) ∧ fs[6]? = some (.ref a6) ∧ fs[7]? = some (.ref a7) ∧ fs[8]? = some (.ref a8) ∧ fs[10]? = some (.ref a10) ∧
  ct a4 = some (xAi ts 12 f4) ∧ ct a6 = some (xAi ts 12 f6) ∧ ct a7 = some (xAi ts 12 f7) ∧ ct a8 = some (xAi ts 12 f8) ∧ ct a10 = some (xAi ts 12 f10) ∧ Z (.inl (some (.int (xb (iofB (f4 k) (f6 k) (f7 k) (f8 k) (f10 k) x))))) ct
theorem sp_mIsOf_recv : ∀ ts z As ct Z, sp_mIsOf ts z As ct Z → ∃ b As' fs, As = .ref b :: As' ∧ ct b = some (.inr (5, fs)) := by
  rintro ts z As ct Z ⟨o, k, x, a4, a6, a7, a8, a10, fs, f4, f6, f7, f8, f10, rfl, -, -, h, -⟩
  exact ⟨o, [.int (nI k), .int (nI x)], fs, rfl, h⟩
def L_mIsOf : xLs := [(0, 1, 0, .aload 0), (1, 4, 0, .getfield 13), (4, 5, 0, .iload 1), (5, 6, 0, .iaload), (6, 7, 0, .iconst 2), (7, 10, 32, .if_icmp .ne 25), (10, 11, 0, .aload 0), (11, 14, 0, .getfield 31), (14, 15, 0, .iload 1), (15, 16, 0, .iaload), (16, 17, 0, .iload 2), (17, 18, 0, .ishr), (18, 19, 0, .iconst 1), (19, 20, 0, .iand), (20, 21, 0, .iconst 1), (21, 24, 28, .if_icmp .ne 7), (24, 25, 0, .iconst 1), (25, 28, 77, .goto 52), (28, 29, 0, .iconst 0), (29, 32, 77, .goto 48), (32, 33, 0, .aload 0), (33, 36, 0, .getfield 19), (36, 37, 0, .iload 1), (37, 38, 0, .iaload), (38, 39, 0, .iload 2), (39, 42, 72, .if_icmp .eq 33), (42, 43, 0, .aload 0), (43, 46, 0, .getfield 22), (46, 47, 0, .iload 1), (47, 48, 0, .iaload), (48, 49, 0, .iload 2), (49, 52, 72, .if_icmp .eq 23), (52, 53, 0, .aload 0), (53, 56, 0, .getfield 13), (56, 57, 0, .iload 1), (57, 58, 0, .iaload), (58, 59, 0, .iconst 1), (59, 62, 76, .if_icmp .ne 17), (62, 63, 0, .aload 0), (63, 66, 0, .getfield 25), (66, 67, 0, .iload 1), (67, 68, 0, .iaload), (68, 69, 0, .iload 2), (69, 72, 76, .if_icmp .ne 7), (72, 73, 0, .iconst 1), (73, 76, 77, .goto 4), (76, 77, 0, .iconst 0), (77, 78, 0, .ireturn)]
set_option maxRecDepth 20000 in
theorem D_mIsOf : ∀ q ∈ L_mIsOf, xdec prog_7_method_10_code q.1 q.2.1 q.2.2.1 q.2.2.2 = true := by decide +kernel
def F_mIsOf : List (Nat × Nat × Nat) := [(13, 5, 4), (31, 5, 10), (19, 5, 6), (22, 5, 7), (25, 5, 8)]
def P_mIsOf : List (Nat × Nat × Nat × FieldType) := []
def N_mIsOf : List (Nat × Nat × List Value) := []
def C_mIsOf : xCs := []
def X_mIsOf : List (Nat × String) := []
def M_mIsOf : xMd := (L_mIsOf, F_mIsOf, P_mIsOf, N_mIsOf, C_mIsOf, X_mIsOf, none, (some .boolean))
theorem Fo_mIsOf : ∀ q ∈ F_mIsOf, xFw xcl xt "DomainDeskModel" q.1 q.2.1 q.2.2 := List.forall_mem_cons.mpr ⟨⟨RC5, TC5, 21, "DomainDeskModel", rfl, by decide, wC5, (xt_in 635 (by decide +kernel) rfl), (Or.inl rfl)⟩, List.forall_mem_cons.mpr ⟨⟨RC5, TC5, 21, "DomainDeskModel", rfl, by decide, wC5, (xt_in 641 (by decide +kernel) rfl), (Or.inl rfl)⟩, List.forall_mem_cons.mpr ⟨⟨RC5, TC5, 21, "DomainDeskModel", rfl, by decide, wC5, (xt_in 637 (by decide +kernel) rfl), (Or.inl rfl)⟩, List.forall_mem_cons.mpr ⟨⟨RC5, TC5, 21, "DomainDeskModel", rfl, by decide, wC5, (xt_in 638 (by decide +kernel) rfl), (Or.inl rfl)⟩, List.forall_mem_cons.mpr ⟨⟨RC5, TC5, 21, "DomainDeskModel", rfl, by decide, wC5, (xt_in 639 (by decide +kernel) rfl), (Or.inl rfl)⟩, fun _ h => absurd h List.not_mem_nil⟩⟩⟩⟩⟩
theorem Po_mIsOf : ∀ q ∈ P_mIsOf, xPw xcl xt "DomainDeskModel" false q.1 q.2.1 q.2.2.1 q.2.2.2 := fun _ h => absurd h List.not_mem_nil
theorem No_mIsOf : ∀ q ∈ N_mIsOf, xNw xcl xt "DomainDeskModel" q.1 q.2.1 q.2.2 := fun _ h => absurd h List.not_mem_nil
set_option maxRecDepth 20000 in
theorem Co_mIsOf (l : Launch) (hfl : l.flags = flags0) : ∀ q ∈ C_mIsOf, xCw xcl xt l "DomainDeskModel" prog_7_method_10_code 3 0 q := fun _ h => absurd h List.not_mem_nil
theorem h1_mIsOf : ∀ ts z av ct Z, sp_mIsOf ts z av ct Z → xif (av.all (fun v => Nat.beq v.category 1) && Nat.ble av.length 3) (xwp ts z 0 0 M_mIsOf [] Z (fun pc nc ns ls st ct' => ∃ k, xJ0 ts z av ct Z k pc nc ns ls st ct') 53 0 0 0 (xen av 3) [] ct) := by
  rintro ts z av ct Z ⟨o, k, x, a4, a6, a7, a8, a10, fs, f4, f6, f7, f8, f10, rfl, hk, hx, ho, g4, g6, g7, g8, g10, c4, c6, c7, c8, c10, h⟩
  have hi : vp_in (nI k) 12 := vp_in_nI hk (by omega)
  have ek : (nI k).toNatClampNeg = k := nI_clamp (by omega)
  unfold iofB at h
  refine xr_get ho rfl g4 ?_
  refine xr_ald c4 hi ?_
  rw [ek]
  refine xr_bn (fun q1 => ?_) (fun q1 => ?_)
  · rw [if_neg q1] at h
    refine xr_get ho rfl g6 ?_
    refine xr_ald c6 hi ?_
    rw [ek]
    refine xr_br (fun q2 => ?_) (fun q2 => ?_)
    · exact xz1 (by simp [q2]) h
    · refine xr_get ho rfl g7 ?_
      refine xr_ald c7 hi ?_
      rw [ek]
      refine xr_br (fun q3 => ?_) (fun q3 => ?_)
      · exact xz1 (by simp [q3]) h
      · refine xr_get ho rfl g4 ?_
        refine xr_ald c4 hi ?_
        rw [ek]
        refine xr_bn (fun q4 => ?_) (fun q4 => ?_)
        · exact xz0 (by simp [q2, q3, q4]) h
        · refine xr_get ho rfl g8 ?_
          refine xr_ald c8 hi ?_
          rw [ek]
          refine xr_bn (fun q5 => ?_) (fun q5 => ?_)
          · exact xz0 (by simp [q2, q3, q5]) h
          · exact xz1 (by simp [q4, q5]) h
  · rw [if_pos q1] at h
    refine xr_get ho rfl g10 ?_
    refine xr_ald c10 hi ?_
    rw [ek]
    refine xr_bn (fun q2 => ?_) (fun q2 => ?_)
    · rw [b_has1 hx, Bool.not_eq_true] at q2
      exact xz0 q2 h
    · rw [b_has1 hx] at q2
      exact xz1 q2 h
theorem m_mIsOf (l : Launch) (hfl : l.flags = flags0) : xM xcl xt l (⟨"DomainDeskModel", "isOf", "(II)Z"⟩ : MethodName) (Cond.code (⟨"DomainDeskModel", "isOf", "(II)Z"⟩ : MethodName) prog_7_method_10_code 3 (some .boolean)) 0 0 0 sp_mIsOf :=
  x_meth (d := 0) (mc := 0) (ms := 0) M_mIsOf false [] xJ0 53 53 (by decide +kernel) rfl (by decide +kernel) xt_arr D_mIsOf Fo_mIsOf Po_mIsOf No_mIsOf (Co_mIsOf l hfl) (fun _ h => absurd h List.not_mem_nil) h1_mIsOf (fun _ _ _ _ _ _ _ _ _ _ _ _ _ h => False.elim h)
/-- some domain of the first n is empty -/
def emB (f : Nat → Int32) : Nat → Bool
  | 0 => false
  | n + 1 => emB f n || decide (f n = 0)
def sp_mFailed : xS := fun ts _ av ct Z => ∃ (o dm lv n : Nat) (fs : List Value) (f : Nat → Int32), av = [.ref o] ∧ n ≤ 6 ∧ lv ≤ 20 ∧ ct o = some (.inr (5, fs)) ∧ fs[1]? = some (.int (nI n)) ∧ fs[13]? = some (.int (nI lv)) ∧ fs[14]? = some (.ref dm) ∧ ct dm = some (xAi ts 126 f) ∧ Z (.inl (some (.int (xb (emB (fun x => f (6 * lv + x)) n))))) ct
theorem sp_mFailed_recv : ∀ ts z As ct Z, sp_mFailed ts z As ct Z → ∃ b As' fs, As = .ref b :: As' ∧ ct b = some (.inr (5, fs)) := by
  rintro ts z As ct Z ⟨o, dm, lv, n, fs, f, rfl, -, -, h, -⟩
  exact ⟨o, [], fs, rfl, h⟩
def J_mFailed : (Nat → ClassId) → Nat → List Value → xCT → xZ → Nat → xKt := fun ts _ av ct _ k pc nc ns ls st ct' => ∃ (o dm lv n i : Nat) (fs : List Value) (f : Nat → Int32), av = [.ref o] ∧ n ≤ 6 ∧ lv ≤ 20 ∧ ct o = some (.inr (5, fs)) ∧ fs[1]? = some (.int (nI n)) ∧ fs[13]? = some (.int (nI lv)) ∧ fs[14]? = some (.ref dm) ∧ ct dm = some (xAi ts 126 f) ∧
  pc = 4 ∧ nc = 0 ∧ ns = 0 ∧ st = [] ∧ ct' = ct ∧ i ≤ n ∧ k = n - i ∧ ls = [some (.ref o), some (.int (xb (emB (fun x => f (6 * lv + x)) i))), some (.int (nI i))]
def L_mFailed : xLs := [(0, 1, 0, .iconst 0), (1, 2, 0, .istore 1), (2, 3, 0, .iconst 0), (3, 4, 0, .istore 2), (4, 5, 0, .iload 2), (5, 6, 0, .aload 0), (6, 9, 0, .getfield 58), (9, 12, 36, .if_icmp .ge 27), (12, 13, 0, .iload 1), (13, 16, 24, .ifCond .ne 11), (16, 17, 0, .aload 0), (17, 18, 0, .iload 2), (18, 21, 0, .invokevirtual 72), (21, 24, 28, .ifCond .ne 7), (24, 25, 0, .iconst 1), (25, 28, 29, .goto 4), (28, 29, 0, .iconst 0), (29, 30, 0, .istore 1), (30, 33, 0, .iinc 2 1), (33, 36, 4, .goto (-29)), (36, 37, 0, .iload 1), (37, 38, 0, .ireturn)]
set_option maxRecDepth 20000 in
theorem D_mFailed : ∀ q ∈ L_mFailed, xdec prog_7_method_17_code q.1 q.2.1 q.2.2.1 q.2.2.2 = true := by decide +kernel
def F_mFailed : List (Nat × Nat × Nat) := [(58, 5, 1)]
def P_mFailed : List (Nat × Nat × Nat × FieldType) := []
def N_mFailed : List (Nat × Nat × List Value) := []
def C_mFailed : xCs := [(18, 21, 2, sp_mNow, 0, 0)]
def X_mFailed : List (Nat × String) := []
def M_mFailed : xMd := (L_mFailed, F_mFailed, P_mFailed, N_mFailed, C_mFailed, X_mFailed, none, (some .boolean))
theorem Fo_mFailed : ∀ q ∈ F_mFailed, xFw xcl xt "DomainDeskModel" q.1 q.2.1 q.2.2 := List.forall_mem_cons.mpr ⟨⟨RC5, TC5, 21, "DomainDeskModel", rfl, by decide, wC5, (xt_in 632 (by decide +kernel) rfl), (Or.inl rfl)⟩, fun _ h => absurd h List.not_mem_nil⟩
theorem Po_mFailed : ∀ q ∈ P_mFailed, xPw xcl xt "DomainDeskModel" false q.1 q.2.1 q.2.2.1 q.2.2.2 := fun _ h => absurd h List.not_mem_nil
theorem No_mFailed : ∀ q ∈ N_mFailed, xNw xcl xt "DomainDeskModel" q.1 q.2.1 q.2.2 := fun _ h => absurd h List.not_mem_nil
set_option maxRecDepth 20000 in
theorem Co_mFailed (l : Launch) (hfl : l.flags = flags0) : ∀ q ∈ C_mFailed, xCw xcl xt l "DomainDeskModel" prog_7_method_17_code 3 1 q := List.forall_mem_cons.mpr ⟨xcw_virtual (ci := 5) (index := 72) xt_gd (m_mNow l hfl) sp_mNow_recv rfl rfl (xt_in 728 (by decide +kernel) rfl) (xt_in 730 (by decide +kernel) rfl) (xt_sel 21 (by decide +kernel) rfl) (xt_in 5 (by decide +kernel) rfl) (xt_in 731 (by decide +kernel) rfl) (by decide +kernel) (by decide) (by decide +kernel), fun _ h => absurd h List.not_mem_nil⟩
theorem h1_mFailed : ∀ ts z av ct Z, sp_mFailed ts z av ct Z → xif (av.all (fun v => Nat.beq v.category 1) && Nat.ble av.length 3) (xwp ts z 0 0 M_mFailed [4] Z (fun pc nc ns ls st ct' => ∃ k, J_mFailed ts z av ct Z k pc nc ns ls st ct') 27 0 0 0 (xen av 3) [] ct) := by
  rintro ts z av ct Z ⟨o, dm, lv, n, fs, f, rfl, hn, hl, ho, g1, g13, g14, hd, h⟩
  exact ⟨n, o, dm, lv, n, 0, fs, f, rfl, hn, hl, ho, g1, g13, g14, hd, rfl, rfl, rfl, rfl, rfl, Nat.zero_le _, rfl, rfl⟩
theorem h2_mFailed : ∀ ts z av ct Z, sp_mFailed ts z av ct Z → ∀ (k pc nc ns : Nat) (ls : xL) (st : List Value) (ct' : xCT), J_mFailed ts z av ct Z k pc nc ns ls st ct' → xgo ts z 0 0 M_mFailed Z (xwp ts z 0 0 M_mFailed [4] Z (fun pc nc ns ls st ct' => ∃ k', k' < k ∧ J_mFailed ts z av ct Z k' pc nc ns ls st ct') 27) pc nc ns ls st ct' := by
  rintro ts z av ct Z ⟨o', dm', lv', n', fs', f', rfl, hn', hl', ho', g1', g13', g14', hd', h⟩ k pc nc ns ls st ct' ⟨o, dm, lv, n, i, fs, f, e, hn, hl, ho, g1, g13, g14, hd, rfl, rfl, rfl, rfl, rfl, hi, rfl, rfl⟩
  cases e
  have e1 : fs' = fs := by rw [ho] at ho'; cases ho'; rfl
  subst e1
  have e2 : dm' = dm := by rw [g14] at g14'; cases g14'; rfl
  subst e2
  have e3 : f' = f := by rw [hd] at hd'; cases hd'; rfl
  subst e3
  have e4 : nI n' = nI n := Value.int.inj (Option.some.inj (g1'.symm.trans g1))
  have e4 : n' = n := (nI_eq (by omega) (by omega)).mp e4
  subst e4
  have e5 : nI lv' = nI lv := Value.int.inj (Option.some.inj (g13'.symm.trans g13))
  have e5 : lv' = lv := (nI_eq (by omega) (by omega)).mp e5
  subst e5
  refine xr_get ho rfl g1 ?_
  refine xr_br (fun hc => ?_) (fun hc => ?_)
  · have h6 : i = n' := Nat.le_antisymm hi (xl_ge hc (by omega))
    subst h6
    exact ⟨xb_01 _, h⟩
  · have hlt : i < n' := xl_lt hc (by omega)
    have en : nI (i + 1) = nI i + nI 1 := (nI_add i 1).symm
    refine xr_bn (fun q1 => ?_) (fun q1 => ?_)
    · rw [xb_0, Bool.not_eq_false] at q1
      refine ⟨n' - (i + 1), by omega, o', dm', lv', n', i + 1, fs', f', rfl, hn, hl, ho, g1, g13, g14, hd, rfl, rfl, rfl, rfl, rfl, hlt, rfl, ?_⟩
      have e9 : emB (fun x => f' (6 * lv' + x)) (i + 1) = true := by simp [emB, q1]
      rw [e9, en]
      rfl
    · rw [xb_0] at q1
      refine xr_call (by decide) (by decide) ⟨o', dm', lv', i, fs', f', rfl, ho, g13, g14, hd, by omega, ?_⟩
      refine xr_bn (fun q2 => ?_) (fun q2 => ?_)
      · refine ⟨n' - (i + 1), by omega, o', dm', lv', n', i + 1, fs', f', rfl, hn, hl, ho, g1, g13, g14, hd, rfl, rfl, rfl, rfl, rfl, hlt, rfl, ?_⟩
        have e9 : emB (fun x => f' (6 * lv' + x)) (i + 1) = false := by simp [emB, q1, q2]
        rw [e9, en]
        rfl
      · refine ⟨n' - (i + 1), by omega, o', dm', lv', n', i + 1, fs', f', rfl, hn, hl, ho, g1, g13, g14, hd, rfl, rfl, rfl, rfl, rfl, hlt, rfl, ?_⟩
        have e9 : emB (fun x => f' (6 * lv' + x)) (i + 1) = true := by simp [emB, q2]
        rw [e9, en]
        rfl
theorem m_mFailed (l : Launch) (hfl : l.flags = flags0) : xM xcl xt l (⟨"DomainDeskModel", "hasFailed", "()Z"⟩ : MethodName) (Cond.code (⟨"DomainDeskModel", "hasFailed", "()Z"⟩ : MethodName) prog_7_method_17_code 3 (some .boolean)) 1 0 0 sp_mFailed :=
  x_meth (d := 1) (mc := 0) (ms := 0) M_mFailed false [4] J_mFailed 27 27 (by decide +kernel) rfl (by decide +kernel) xt_arr D_mFailed Fo_mFailed Po_mFailed No_mFailed (Co_mFailed l hfl) (fun _ h => absurd h List.not_mem_nil) h1_mFailed (h2_mFailed)
