section XO
variable {cl : List vw_C} {D : va_G} {z : Nat} {H0 : Heap} {nL : Nat} {p : Program} {l : Launch} {e : Env} {R : Room} {s : State} {m : MethodId} {args : Array Value} {below : List Frame} {meth : Method} {c : Code} {Q : State → Prop}
variable {cc : ByteArray} {pc nx tg nc ns : Nat} {ls : xL} {st r : List Value} {ct : xCT} {ts : Nat → ClassId}
theorem xd1 {i : Instr} (h : (decide (nx = pc + 1) && decide (decode cc pc = .ok (i, 1))) = true) : nx = pc + 1 ∧ decode cc pc = .ok (i, 1) := by
  simpa only [Bool.and_eq_true, decide_eq_true_eq] using h
theorem xd3 {i : Instr} (h : (decide (nx = pc + 3) && decide (decode cc pc = .ok (i, 3))) = true) : nx = pc + 3 ∧ decode cc pc = .ok (i, 3) := by
  simpa only [Bool.and_eq_true, decide_eq_true_eq] using h
theorem xdb {i : Instr} {off : Int} (h : (decide (nx = pc + 3) && decide ((pc : Int) + off = (tg : Int)) && decide (decode cc pc = .ok (i, 3))) = true) : nx = pc + 3 ∧ (pc : Int) + off = (tg : Int) ∧ decode cc pc = .ok (i, 3) := by
  simpa only [Bool.and_eq_true, decide_eq_true_eq, and_assoc] using h
theorem xs_iconst {n : Int} (hx : p.tables.exec = Jvm.exec) (hb : c.code = cc) (hd : xdec cc pc nx tg (.iconst n) = true) (h : xW cl D z H0 nL p l e R s m args below meth c Q nx nc ns ls (.int (xc n) :: st) ct) : xW cl D z H0 nL p l e R s m args below meth c Q pc nc ns ls st ct := by
  intro H locs la hw hl hq
  have k := h H locs la hw hl hq
  simp only [xdec, Bool.or_eq_true, Bool.and_eq_true, decide_eq_true_eq] at hd
  rcases hd with (⟨⟨rfl, h2⟩, h3⟩ | ⟨⟨rfl, h2⟩, h3⟩) | ⟨⟨rfl, h2⟩, h3⟩
  · exact lv_iconst hx hb h2 h3 k
  · exact lv_bipush hx hb h2 h3 k
  · exact lv_sipush hx hb h2 h3 k
theorem xs_lconst {n : Fin 2} (hx : p.tables.exec = Jvm.exec) (hb : c.code = cc) (hd : xdec cc pc nx tg (.lconst n) = true) (h : xW cl D z H0 nL p l e R s m args below meth c Q nx nc ns ls (.long (lN n.val) :: st) ct) : xW cl D z H0 nL p l e R s m args below meth c Q pc nc ns ls st ct := by
  intro H locs la hw hl hq
  have k := h H locs la hw hl hq
  obtain ⟨rfl, h2⟩ := xd1 hd
  exact lv_lconst hx hb h2 rfl k
theorem xs_iload {k : Nat} {x : Int32} (hx : p.tables.exec = Jvm.exec) (hb : c.code = cc) (hd : xdec cc pc nx tg (.iload k) = true) (hg : xget ls k = some (.int x)) (h : xW cl D z H0 nL p l e R s m args below meth c Q nx nc ns ls (.int x :: st) ct) : xW cl D z H0 nL p l e R s m args below meth c Q pc nc ns ls st ct := by
  intro H locs la hw hl hq
  have kk := h H locs la hw hl hq
  simp only [xdec, Bool.or_eq_true, Bool.and_eq_true, decide_eq_true_eq] at hd
  rcases hd with ⟨rfl, h2⟩ | hd
  · exact lv_iload hx hb h2 (hl.at hg) kk
  · by_cases h4 : k < 4
    · rw [dif_pos h4] at hd
      obtain ⟨rfl, h2⟩ := xd1 hd
      exact lv_iload_n hx hb h2 rfl (hl.at hg) kk
    · rw [dif_neg h4] at hd
      cases hd
theorem xs_aload {k : Nat} {a : Nat} (hx : p.tables.exec = Jvm.exec) (hb : c.code = cc) (hd : xdec cc pc nx tg (.aload k) = true) (hg : xget ls k = some (.ref a)) (h : xW cl D z H0 nL p l e R s m args below meth c Q nx nc ns ls (.ref a :: st) ct) : xW cl D z H0 nL p l e R s m args below meth c Q pc nc ns ls st ct := by
  intro H locs la hw hl hq
  have kk := h H locs la hw hl hq
  simp only [xdec, Bool.or_eq_true, Bool.and_eq_true, decide_eq_true_eq] at hd
  rcases hd with ⟨rfl, h2⟩ | hd
  · exact lv_aload hx hb h2 (hl.at hg) kk
  · by_cases h4 : k < 4
    · rw [dif_pos h4] at hd
      obtain ⟨rfl, h2⟩ := xd1 hd
      exact lv_aload_n hx hb h2 rfl (hl.at hg) kk
    · rw [dif_neg h4] at hd
      cases hd
theorem xs_aloadN {k : Nat} (hx : p.tables.exec = Jvm.exec) (hb : c.code = cc) (hd : xdec cc pc nx tg (.aload k) = true) (hg : xget ls k = some .null) (h : xW cl D z H0 nL p l e R s m args below meth c Q nx nc ns ls (.null :: st) ct) : xW cl D z H0 nL p l e R s m args below meth c Q pc nc ns ls st ct := by
  intro H locs la hw hl hq
  have kk := h H locs la hw hl hq
  simp only [xdec, Bool.or_eq_true, Bool.and_eq_true, decide_eq_true_eq] at hd
  rcases hd with ⟨rfl, h2⟩ | hd
  · exact lv_aloadN hx hb h2 (hl.at hg) kk
  · by_cases h4 : k < 4
    · rw [dif_pos h4] at hd
      obtain ⟨rfl, h2⟩ := xd1 hd
      exact lv_aload_nN hx hb h2 rfl (hl.at hg) kk
    · rw [dif_neg h4] at hd
      cases hd
theorem xs_istore {k : Nat} {x : Int32} (hx : p.tables.exec = Jvm.exec) (hb : c.code = cc) (hd : xdec cc pc nx tg (.istore k) = true) (hk : k < ls.length) (h : xW cl D z H0 nL p l e R s m args below meth c Q nx nc ns (xset ls k (.int x)) r ct) : xW cl D z H0 nL p l e R s m args below meth c Q pc nc ns ls (.int x :: r) ct := by
  intro H locs la hw hl hq
  have hk' : k < nL := by rw [← hl.2.2.1]; exact hk
  simp only [xdec, Bool.or_eq_true, Bool.and_eq_true, decide_eq_true_eq] at hd
  rcases hd with ⟨rfl, h2⟩ | hd
  · exact lv_istore hx hb h2 hl.has hk' rfl (fun la' h' => h H locs la' hw (hl.of rfl h') hq)
  · by_cases h4 : k < 4
    · rw [dif_pos h4] at hd
      obtain ⟨rfl, h2⟩ := xd1 hd
      exact lv_istore_n hx hb h2 rfl hl.has hk' rfl (fun la' h' => h H locs la' hw (hl.of rfl h') hq)
    · rw [dif_neg h4] at hd
      cases hd
theorem xs_astore {k : Nat} {a : Nat} (hx : p.tables.exec = Jvm.exec) (hb : c.code = cc) (hd : xdec cc pc nx tg (.astore k) = true) (hk : k < ls.length) (h : xW cl D z H0 nL p l e R s m args below meth c Q nx nc ns (xset ls k (.ref a)) r ct) : xW cl D z H0 nL p l e R s m args below meth c Q pc nc ns ls (.ref a :: r) ct := by
  intro H locs la hw hl hq
  have hk' : k < nL := by rw [← hl.2.2.1]; exact hk
  simp only [xdec, Bool.or_eq_true, Bool.and_eq_true, decide_eq_true_eq] at hd
  rcases hd with ⟨rfl, h2⟩ | hd
  · exact lv_astore hx hb h2 hl.has hk' rfl (fun la' h' => h H locs la' hw (hl.of rfl h') hq)
  · by_cases h4 : k < 4
    · rw [dif_pos h4] at hd
      obtain ⟨rfl, h2⟩ := xd1 hd
      exact lv_astore_n hx hb h2 rfl hl.has hk' rfl (fun la' h' => h H locs la' hw (hl.of rfl h') hq)
    · rw [dif_neg h4] at hd
      cases hd
theorem xs_astoreN {k : Nat}  (hx : p.tables.exec = Jvm.exec) (hb : c.code = cc) (hd : xdec cc pc nx tg (.astore k) = true) (hk : k < ls.length) (h : xW cl D z H0 nL p l e R s m args below meth c Q nx nc ns (xset ls k (.null)) r ct) : xW cl D z H0 nL p l e R s m args below meth c Q pc nc ns ls (.null :: r) ct := by
  intro H locs la hw hl hq
  have hk' : k < nL := by rw [← hl.2.2.1]; exact hk
  simp only [xdec, Bool.or_eq_true, Bool.and_eq_true, decide_eq_true_eq] at hd
  rcases hd with ⟨rfl, h2⟩ | hd
  · exact lv_astoreN hx hb h2 hl.has hk' rfl (fun la' h' => h H locs la' hw (hl.of rfl h') hq)
  · by_cases h4 : k < 4
    · rw [dif_pos h4] at hd
      obtain ⟨rfl, h2⟩ := xd1 hd
      exact lv_astore_nN hx hb h2 rfl hl.has hk' rfl (fun la' h' => h H locs la' hw (hl.of rfl h') hq)
    · rw [dif_neg h4] at hd
      cases hd
theorem xs_iinc {k : Nat} {n : Int} {x : Int32} (hx : p.tables.exec = Jvm.exec) (hb : c.code = cc) (hd : xdec cc pc nx tg (.iinc k n) = true) (hg : xget ls k = some (.int x)) (h : xW cl D z H0 nL p l e R s m args below meth c Q nx nc ns (xset ls k (.int (x + xc n))) st ct) : xW cl D z H0 nL p l e R s m args below meth c Q pc nc ns ls st ct := by
  intro H locs la hw hl hq
  simp only [xdec, Bool.and_eq_true, decide_eq_true_eq] at hd
  obtain ⟨⟨rfl, h2⟩, h3⟩ := hd
  have hk' : k < nL := by rw [← hl.2.2.1]; exact xget_lt hg
  obtain ⟨j, hj⟩ := List.getElem?_of_mem (xas_in hk' hg)
  exact lv_iinc hx hb h2 hl.has hj (by rw [h3]) hk' rfl (fun la' h' => h H locs la' hw (hl.of rfl h') hq)
theorem xs_iadd {x y : Int32} (hx : p.tables.exec = Jvm.exec) (hb : c.code = cc) (hd : xdec cc pc nx tg .iadd = true) (h : xW cl D z H0 nL p l e R s m args below meth c Q nx nc ns ls (.int (x + y) :: r) ct) : xW cl D z H0 nL p l e R s m args below meth c Q pc nc ns ls (.int y :: .int x :: r) ct := by
  intro H locs la hw hl hq
  obtain ⟨rfl, h2⟩ := xd1 hd
  exact lv_iadd hx hb h2 (h H locs la hw hl hq)
theorem xs_isub {x y : Int32} (hx : p.tables.exec = Jvm.exec) (hb : c.code = cc) (hd : xdec cc pc nx tg .isub = true) (h : xW cl D z H0 nL p l e R s m args below meth c Q nx nc ns ls (.int (x - y) :: r) ct) : xW cl D z H0 nL p l e R s m args below meth c Q pc nc ns ls (.int y :: .int x :: r) ct := by
  intro H locs la hw hl hq
  obtain ⟨rfl, h2⟩ := xd1 hd
  exact lv_isub hx hb h2 (h H locs la hw hl hq)
theorem xs_imul {x y : Int32} (hx : p.tables.exec = Jvm.exec) (hb : c.code = cc) (hd : xdec cc pc nx tg .imul = true) (h : xW cl D z H0 nL p l e R s m args below meth c Q nx nc ns ls (.int (x * y) :: r) ct) : xW cl D z H0 nL p l e R s m args below meth c Q pc nc ns ls (.int y :: .int x :: r) ct := by
  intro H locs la hw hl hq
  obtain ⟨rfl, h2⟩ := xd1 hd
  exact lv_imul hx hb h2 (h H locs la hw hl hq)
theorem xs_iand {x y : Int32} (hx : p.tables.exec = Jvm.exec) (hb : c.code = cc) (hd : xdec cc pc nx tg .iand = true) (h : xW cl D z H0 nL p l e R s m args below meth c Q nx nc ns ls (.int (x &&& y) :: r) ct) : xW cl D z H0 nL p l e R s m args below meth c Q pc nc ns ls (.int y :: .int x :: r) ct := by
  intro H locs la hw hl hq
  obtain ⟨rfl, h2⟩ := xd1 hd
  exact lv_iand hx hb h2 (h H locs la hw hl hq)
theorem xs_ior {x y : Int32} (hx : p.tables.exec = Jvm.exec) (hb : c.code = cc) (hd : xdec cc pc nx tg .ior = true) (h : xW cl D z H0 nL p l e R s m args below meth c Q nx nc ns ls (.int (x ||| y) :: r) ct) : xW cl D z H0 nL p l e R s m args below meth c Q pc nc ns ls (.int y :: .int x :: r) ct := by
  intro H locs la hw hl hq
  obtain ⟨rfl, h2⟩ := xd1 hd
  exact lv_ior hx hb h2 (h H locs la hw hl hq)
theorem xs_ixor {x y : Int32} (hx : p.tables.exec = Jvm.exec) (hb : c.code = cc) (hd : xdec cc pc nx tg .ixor = true) (h : xW cl D z H0 nL p l e R s m args below meth c Q nx nc ns ls (.int (x ^^^ y) :: r) ct) : xW cl D z H0 nL p l e R s m args below meth c Q pc nc ns ls (.int y :: .int x :: r) ct := by
  intro H locs la hw hl hq
  obtain ⟨rfl, h2⟩ := xd1 hd
  exact lv_ixor hx hb h2 (h H locs la hw hl hq)
theorem xs_ishl {x y : Int32} (hx : p.tables.exec = Jvm.exec) (hb : c.code = cc) (hd : xdec cc pc nx tg .ishl = true) (h : xW cl D z H0 nL p l e R s m args below meth c Q nx nc ns ls (.int (x <<< (y &&& 31)) :: r) ct) : xW cl D z H0 nL p l e R s m args below meth c Q pc nc ns ls (.int y :: .int x :: r) ct := by
  intro H locs la hw hl hq
  obtain ⟨rfl, h2⟩ := xd1 hd
  exact lv_ishl hx hb h2 (h H locs la hw hl hq)
theorem xs_ishr {x y : Int32} (hx : p.tables.exec = Jvm.exec) (hb : c.code = cc) (hd : xdec cc pc nx tg .ishr = true) (h : xW cl D z H0 nL p l e R s m args below meth c Q nx nc ns ls (.int (x >>> (y &&& 31)) :: r) ct) : xW cl D z H0 nL p l e R s m args below meth c Q pc nc ns ls (.int y :: .int x :: r) ct := by
  intro H locs la hw hl hq
  obtain ⟨rfl, h2⟩ := xd1 hd
  exact lv_ishr hx hb h2 (h H locs la hw hl hq)
theorem xs_iushr {x y : Int32} (hx : p.tables.exec = Jvm.exec) (hb : c.code = cc) (hd : xdec cc pc nx tg .iushr = true) (h : xW cl D z H0 nL p l e R s m args below meth c Q nx nc ns ls (.int ((x.toUInt32 >>> (y.toUInt32 &&& Int32.toUInt32 31)).toInt32) :: r) ct) : xW cl D z H0 nL p l e R s m args below meth c Q pc nc ns ls (.int y :: .int x :: r) ct := by
  intro H locs la hw hl hq
  obtain ⟨rfl, h2⟩ := xd1 hd
  exact lv_iushr hx hb h2 rfl (h H locs la hw hl hq)
theorem xs_ineg {x : Int32} (hx : p.tables.exec = Jvm.exec) (hb : c.code = cc) (hd : xdec cc pc nx tg .ineg = true) (h : xW cl D z H0 nL p l e R s m args below meth c Q nx nc ns ls (.int (-x) :: r) ct) : xW cl D z H0 nL p l e R s m args below meth c Q pc nc ns ls (.int x :: r) ct := by
  intro H locs la hw hl hq
  obtain ⟨rfl, h2⟩ := xd1 hd
  exact lv_ineg hx hb h2 (h H locs la hw hl hq)
theorem xs_land {x y : Int64} (hx : p.tables.exec = Jvm.exec) (hb : c.code = cc) (hd : xdec cc pc nx tg .land = true) (h : xW cl D z H0 nL p l e R s m args below meth c Q nx nc ns ls (.long (x &&& y) :: r) ct) : xW cl D z H0 nL p l e R s m args below meth c Q pc nc ns ls (.long y :: .long x :: r) ct := by
  intro H locs la hw hl hq
  obtain ⟨rfl, h2⟩ := xd1 hd
  exact lv_land hx hb h2 (h H locs la hw hl hq)
theorem xs_lxor {x y : Int64} (hx : p.tables.exec = Jvm.exec) (hb : c.code = cc) (hd : xdec cc pc nx tg .lxor = true) (h : xW cl D z H0 nL p l e R s m args below meth c Q nx nc ns ls (.long (x ^^^ y) :: r) ct) : xW cl D z H0 nL p l e R s m args below meth c Q pc nc ns ls (.long y :: .long x :: r) ct := by
  intro H locs la hw hl hq
  obtain ⟨rfl, h2⟩ := xd1 hd
  exact lv_lxor hx hb h2 (h H locs la hw hl hq)
theorem xs_lshl {x : Int64} {y : Int32} (hx : p.tables.exec = Jvm.exec) (hb : c.code = cc) (hd : xdec cc pc nx tg .lshl = true) (h : xW cl D z H0 nL p l e R s m args below meth c Q nx nc ns ls (.long (x <<< (y.toInt64 &&& 63)) :: r) ct) : xW cl D z H0 nL p l e R s m args below meth c Q pc nc ns ls (.int y :: .long x :: r) ct := by
  intro H locs la hw hl hq
  obtain ⟨rfl, h2⟩ := xd1 hd
  exact lv_lshl hx hb h2 rfl (h H locs la hw hl hq)
theorem xs_lshr {x : Int64} {y : Int32} (hx : p.tables.exec = Jvm.exec) (hb : c.code = cc) (hd : xdec cc pc nx tg .lshr = true) (h : xW cl D z H0 nL p l e R s m args below meth c Q nx nc ns ls (.long (x >>> (y.toInt64 &&& 63)) :: r) ct) : xW cl D z H0 nL p l e R s m args below meth c Q pc nc ns ls (.int y :: .long x :: r) ct := by
  intro H locs la hw hl hq
  obtain ⟨rfl, h2⟩ := xd1 hd
  exact lv_lshr hx hb h2 rfl (h H locs la hw hl hq)
theorem xs_lcmp {x y : Int64} (hx : p.tables.exec = Jvm.exec) (hb : c.code = cc) (hd : xdec cc pc nx tg .lcmp = true) (h : xW cl D z H0 nL p l e R s m args below meth c Q nx nc ns ls (.int (lg_cmp x y) :: r) ct) : xW cl D z H0 nL p l e R s m args below meth c Q pc nc ns ls (.long y :: .long x :: r) ct := by
  intro H locs la hw hl hq
  obtain ⟨rfl, h2⟩ := xd1 hd
  exact W.lcmp hx hb h2 (h H locs la hw hl hq)
theorem xs_i2l {x : Int32} (hx : p.tables.exec = Jvm.exec) (hb : c.code = cc) (hd : xdec cc pc nx tg .i2l = true) (h : xW cl D z H0 nL p l e R s m args below meth c Q nx nc ns ls (.long x.toInt64 :: r) ct) : xW cl D z H0 nL p l e R s m args below meth c Q pc nc ns ls (.int x :: r) ct := by
  intro H locs la hw hl hq
  obtain ⟨rfl, h2⟩ := xd1 hd
  exact lv_i2l hx hb h2 rfl (h H locs la hw hl hq)
theorem xs_l2i {x : Int64} (hx : p.tables.exec = Jvm.exec) (hb : c.code = cc) (hd : xdec cc pc nx tg .l2i = true) (h : xW cl D z H0 nL p l e R s m args below meth c Q nx nc ns ls (.int x.toInt32 :: r) ct) : xW cl D z H0 nL p l e R s m args below meth c Q pc nc ns ls (.long x :: r) ct := by
  intro H locs la hw hl hq
  obtain ⟨rfl, h2⟩ := xd1 hd
  exact lv_l2i hx hb h2 rfl (h H locs la hw hl hq)
theorem xs_dup {v : Value} (hx : p.tables.exec = Jvm.exec) (hb : c.code = cc) (hd : xdec cc pc nx tg .dup = true) (hv : v.category = 1) (h : xW cl D z H0 nL p l e R s m args below meth c Q nx nc ns ls (v :: v :: r) ct) : xW cl D z H0 nL p l e R s m args below meth c Q pc nc ns ls (v :: r) ct := by
  intro H locs la hw hl hq
  obtain ⟨rfl, h2⟩ := xd1 hd
  exact lv_dup hx hb h2 hv (h H locs la hw hl hq)
theorem xs_pop {v : Value} (hx : p.tables.exec = Jvm.exec) (hb : c.code = cc) (hd : xdec cc pc nx tg .pop = true) (hv : v.category = 1) (h : xW cl D z H0 nL p l e R s m args below meth c Q nx nc ns ls r ct) : xW cl D z H0 nL p l e R s m args below meth c Q pc nc ns ls (v :: r) ct := by
  intro H locs la hw hl hq
  obtain ⟨rfl, h2⟩ := xd1 hd
  exact lv_pop hx hb h2 hv (h H locs la hw hl hq)
theorem xs_dup2 {v u : Value} (hx : p.tables.exec = Jvm.exec) (hb : c.code = cc) (hd : xdec cc pc nx tg .dup2 = true) (hv : v.category = 1) (hu : u.category = 1) (h : xW cl D z H0 nL p l e R s m args below meth c Q nx nc ns ls (v :: u :: v :: u :: r) ct) : xW cl D z H0 nL p l e R s m args below meth c Q pc nc ns ls (v :: u :: r) ct := by
  intro H locs la hw hl hq
  obtain ⟨rfl, h2⟩ := xd1 hd
  exact lv_dup2_11 hx hb h2 hv hu (h H locs la hw hl hq)
theorem xs_goto {off : Int} (hx : p.tables.exec = Jvm.exec) (hb : c.code = cc) (hd : xdec cc pc nx tg (.goto off) = true) (h : xW cl D z H0 nL p l e R s m args below meth c Q tg nc ns ls st ct) : xW cl D z H0 nL p l e R s m args below meth c Q pc nc ns ls st ct := by
  intro H locs la hw hl hq
  simp only [xdec, Bool.and_eq_true, decide_eq_true_eq] at hd
  exact lv_goto hx hb hd.2 hd.1 (h H locs la hw hl hq)
theorem xs_if_eq {x : Int32} {off : Int} (hx : p.tables.exec = Jvm.exec) (hb : c.code = cc) (hd : xdec cc pc nx tg (.ifCond .eq off) = true) (h1 : x = 0 → xW cl D z H0 nL p l e R s m args below meth c Q tg nc ns ls r ct) (h2 : ¬ x = 0 → xW cl D z H0 nL p l e R s m args below meth c Q nx nc ns ls r ct) : xW cl D z H0 nL p l e R s m args below meth c Q pc nc ns ls (.int x :: r) ct := by
  intro H locs la hw hl hq
  obtain ⟨rfl, ht, hd2⟩ := xdb hd
  exact lv_if_eq hx hb hd2 ht (fun q => h1 q H locs la hw hl hq) (fun q => h2 q H locs la hw hl hq)
theorem xs_if_ne {x : Int32} {off : Int} (hx : p.tables.exec = Jvm.exec) (hb : c.code = cc) (hd : xdec cc pc nx tg (.ifCond .ne off) = true) (h1 : ¬ x = 0 → xW cl D z H0 nL p l e R s m args below meth c Q tg nc ns ls r ct) (h2 : x = 0 → xW cl D z H0 nL p l e R s m args below meth c Q nx nc ns ls r ct) : xW cl D z H0 nL p l e R s m args below meth c Q pc nc ns ls (.int x :: r) ct := by
  intro H locs la hw hl hq
  obtain ⟨rfl, ht, hd2⟩ := xdb hd
  exact lv_if_ne hx hb hd2 ht (fun q => h1 q H locs la hw hl hq) (fun q => h2 q H locs la hw hl hq)
theorem xs_if_lt {x : Int32} {off : Int} (hx : p.tables.exec = Jvm.exec) (hb : c.code = cc) (hd : xdec cc pc nx tg (.ifCond .lt off) = true) (h1 : x < 0 → xW cl D z H0 nL p l e R s m args below meth c Q tg nc ns ls r ct) (h2 : ¬ x < 0 → xW cl D z H0 nL p l e R s m args below meth c Q nx nc ns ls r ct) : xW cl D z H0 nL p l e R s m args below meth c Q pc nc ns ls (.int x :: r) ct := by
  intro H locs la hw hl hq
  obtain ⟨rfl, ht, hd2⟩ := xdb hd
  exact lv_if_lt hx hb hd2 ht (fun q => h1 q H locs la hw hl hq) (fun q => h2 q H locs la hw hl hq)
theorem xs_if_ge {x : Int32} {off : Int} (hx : p.tables.exec = Jvm.exec) (hb : c.code = cc) (hd : xdec cc pc nx tg (.ifCond .ge off) = true) (h1 : 0 ≤ x → xW cl D z H0 nL p l e R s m args below meth c Q tg nc ns ls r ct) (h2 : ¬ 0 ≤ x → xW cl D z H0 nL p l e R s m args below meth c Q nx nc ns ls r ct) : xW cl D z H0 nL p l e R s m args below meth c Q pc nc ns ls (.int x :: r) ct := by
  intro H locs la hw hl hq
  obtain ⟨rfl, ht, hd2⟩ := xdb hd
  exact lv_if_ge hx hb hd2 ht (fun q => h1 q H locs la hw hl hq) (fun q => h2 q H locs la hw hl hq)
theorem xs_if_gt {x : Int32} {off : Int} (hx : p.tables.exec = Jvm.exec) (hb : c.code = cc) (hd : xdec cc pc nx tg (.ifCond .gt off) = true) (h1 : 0 < x → xW cl D z H0 nL p l e R s m args below meth c Q tg nc ns ls r ct) (h2 : ¬ 0 < x → xW cl D z H0 nL p l e R s m args below meth c Q nx nc ns ls r ct) : xW cl D z H0 nL p l e R s m args below meth c Q pc nc ns ls (.int x :: r) ct := by
  intro H locs la hw hl hq
  obtain ⟨rfl, ht, hd2⟩ := xdb hd
  exact lv_if_gt hx hb hd2 ht (fun q => h1 q H locs la hw hl hq) (fun q => h2 q H locs la hw hl hq)
theorem xs_if_le {x : Int32} {off : Int} (hx : p.tables.exec = Jvm.exec) (hb : c.code = cc) (hd : xdec cc pc nx tg (.ifCond .le off) = true) (h1 : x ≤ 0 → xW cl D z H0 nL p l e R s m args below meth c Q tg nc ns ls r ct) (h2 : ¬ x ≤ 0 → xW cl D z H0 nL p l e R s m args below meth c Q nx nc ns ls r ct) : xW cl D z H0 nL p l e R s m args below meth c Q pc nc ns ls (.int x :: r) ct := by
  intro H locs la hw hl hq
  obtain ⟨rfl, ht, hd2⟩ := xdb hd
  exact lv_if_le hx hb hd2 ht (fun q => h1 q H locs la hw hl hq) (fun q => h2 q H locs la hw hl hq)
theorem xs_icmp_eq {x y : Int32} {off : Int} (hx : p.tables.exec = Jvm.exec) (hb : c.code = cc) (hd : xdec cc pc nx tg (.if_icmp .eq off) = true) (h1 : x = y → xW cl D z H0 nL p l e R s m args below meth c Q tg nc ns ls r ct) (h2 : ¬ x = y → xW cl D z H0 nL p l e R s m args below meth c Q nx nc ns ls r ct) : xW cl D z H0 nL p l e R s m args below meth c Q pc nc ns ls (.int y :: .int x :: r) ct := by
  intro H locs la hw hl hq
  obtain ⟨rfl, ht, hd2⟩ := xdb hd
  exact lv_icmp_eq hx hb hd2 ht (fun q => h1 q H locs la hw hl hq) (fun q => h2 q H locs la hw hl hq)
theorem xs_icmp_ne {x y : Int32} {off : Int} (hx : p.tables.exec = Jvm.exec) (hb : c.code = cc) (hd : xdec cc pc nx tg (.if_icmp .ne off) = true) (h1 : ¬ x = y → xW cl D z H0 nL p l e R s m args below meth c Q tg nc ns ls r ct) (h2 : x = y → xW cl D z H0 nL p l e R s m args below meth c Q nx nc ns ls r ct) : xW cl D z H0 nL p l e R s m args below meth c Q pc nc ns ls (.int y :: .int x :: r) ct := by
  intro H locs la hw hl hq
  obtain ⟨rfl, ht, hd2⟩ := xdb hd
  exact lv_icmp_ne hx hb hd2 ht (fun q => h1 q H locs la hw hl hq) (fun q => h2 q H locs la hw hl hq)
theorem xs_icmp_lt {x y : Int32} {off : Int} (hx : p.tables.exec = Jvm.exec) (hb : c.code = cc) (hd : xdec cc pc nx tg (.if_icmp .lt off) = true) (h1 : x < y → xW cl D z H0 nL p l e R s m args below meth c Q tg nc ns ls r ct) (h2 : ¬ x < y → xW cl D z H0 nL p l e R s m args below meth c Q nx nc ns ls r ct) : xW cl D z H0 nL p l e R s m args below meth c Q pc nc ns ls (.int y :: .int x :: r) ct := by
  intro H locs la hw hl hq
  obtain ⟨rfl, ht, hd2⟩ := xdb hd
  exact lv_icmp_lt hx hb hd2 ht (fun q => h1 q H locs la hw hl hq) (fun q => h2 q H locs la hw hl hq)
theorem xs_icmp_ge {x y : Int32} {off : Int} (hx : p.tables.exec = Jvm.exec) (hb : c.code = cc) (hd : xdec cc pc nx tg (.if_icmp .ge off) = true) (h1 : y ≤ x → xW cl D z H0 nL p l e R s m args below meth c Q tg nc ns ls r ct) (h2 : ¬ y ≤ x → xW cl D z H0 nL p l e R s m args below meth c Q nx nc ns ls r ct) : xW cl D z H0 nL p l e R s m args below meth c Q pc nc ns ls (.int y :: .int x :: r) ct := by
  intro H locs la hw hl hq
  obtain ⟨rfl, ht, hd2⟩ := xdb hd
  exact lv_icmp_ge hx hb hd2 ht (fun q => h1 q H locs la hw hl hq) (fun q => h2 q H locs la hw hl hq)
theorem xs_icmp_gt {x y : Int32} {off : Int} (hx : p.tables.exec = Jvm.exec) (hb : c.code = cc) (hd : xdec cc pc nx tg (.if_icmp .gt off) = true) (h1 : y < x → xW cl D z H0 nL p l e R s m args below meth c Q tg nc ns ls r ct) (h2 : ¬ y < x → xW cl D z H0 nL p l e R s m args below meth c Q nx nc ns ls r ct) : xW cl D z H0 nL p l e R s m args below meth c Q pc nc ns ls (.int y :: .int x :: r) ct := by
  intro H locs la hw hl hq
  obtain ⟨rfl, ht, hd2⟩ := xdb hd
  exact lv_icmp_gt hx hb hd2 ht (fun q => h1 q H locs la hw hl hq) (fun q => h2 q H locs la hw hl hq)
theorem xs_icmp_le {x y : Int32} {off : Int} (hx : p.tables.exec = Jvm.exec) (hb : c.code = cc) (hd : xdec cc pc nx tg (.if_icmp .le off) = true) (h1 : x ≤ y → xW cl D z H0 nL p l e R s m args below meth c Q tg nc ns ls r ct) (h2 : ¬ x ≤ y → xW cl D z H0 nL p l e R s m args below meth c Q nx nc ns ls r ct) : xW cl D z H0 nL p l e R s m args below meth c Q pc nc ns ls (.int y :: .int x :: r) ct := by
  intro H locs la hw hl hq
  obtain ⟨rfl, ht, hd2⟩ := xdb hd
  exact lv_icmp_le hx hb hd2 ht (fun q => h1 q H locs la hw hl hq) (fun q => h2 q H locs la hw hl hq)
theorem xs_table {d lo hi : Int} {offs : Array Int} {x : Int32} {t : Nat} (hx : p.tables.exec = Jvm.exec) (hb : c.code = cc) (hd : xdec cc pc nx tg (.tableswitch d lo hi offs) = true) (ht : xsw pc d lo hi offs x = (t : Int)) (h : xW cl D z H0 nL p l e R s m args below meth c Q t nc ns ls r ct) : xW cl D z H0 nL p l e R s m args below meth c Q pc nc ns ls (.int x :: r) ct := by
  intro H locs la hw hl hq
  simp only [xdec, Bool.and_eq_true, decide_eq_true_eq] at hd
  obtain ⟨hd, hsz⟩ := hd
  unfold xsw at ht
  by_cases hc : x.toInt < lo ∨ hi < x.toInt
  · rw [if_pos hc] at ht
    exact lv_tableOut hx hb hd hc ht (h H locs la hw hl hq)
  · rw [if_neg hc] at ht
    have hlt : (x.toInt - lo).toNat < offs.size := by rw [hsz]; omega
    rw [Array.getElem?_eq_getElem hlt, Option.getD_some] at ht
    exact lv_tableIn hx hb hd (fun q => hc (Or.inl q)) (fun q => hc (Or.inr q)) (Array.getElem?_eq_getElem hlt) ht (h H locs la hw hl hq)
theorem xs_lookup {d : Int} {ps : Array (Int × Int)} {x : Int32} {t : Nat} (hx : p.tables.exec = Jvm.exec) (hb : c.code = cc) (hd : xdec cc pc nx tg (.lookupswitch d ps) = true) (ht : (pc : Int) + Op.lookupswitch.offset ps.toList d x.toInt = (t : Int)) (h : xW cl D z H0 nL p l e R s m args below meth c Q t nc ns ls r ct) : xW cl D z H0 nL p l e R s m args below meth c Q pc nc ns ls (.int x :: r) ct := by
  intro H locs la hw hl hq
  simp only [xdec, Bool.and_eq_true, decide_eq_true_eq] at hd
  exact lv_lookup hx hb hd.1 hd.2 rfl ht (h H locs la hw hl hq)
theorem xs_iaload {n a : Nat} {f : Nat → Int32} {i : Int32} (hx : p.tables.exec = Jvm.exec) (hb : c.code = cc) (hK : va_K D cl (xtys ts) s) (hd : xdec cc pc nx tg .iaload = true) (ha : ct a = some (xAi ts n f)) (hi : vp_in i n) (h : xW cl D z H0 nL p l e R s m args below meth c Q nx nc ns ls (.int (f i.toNatClampNeg) :: r) ct) : xW cl D z H0 nL p l e R s m args below meth c Q pc nc ns ls (.int i :: .ref a :: r) ct := by
  intro H locs la hw hl hq
  obtain ⟨rfl, h2⟩ := xd1 hd
  exact va_iald (ws := [(a, xAi ts n f)]) hx hb hK (hw.one ha) 0 0 rfl rfl hi h2 (h H locs la hw hl hq)
theorem xs_laload {n a : Nat} {f : Nat → Int64} {i : Int32} (hx : p.tables.exec = Jvm.exec) (hb : c.code = cc) (hK : va_K D cl (xtys ts) s) (hd : xdec cc pc nx tg .laload = true) (ha : ct a = some (xAl ts n f)) (hi : vp_in i n) (h : xW cl D z H0 nL p l e R s m args below meth c Q nx nc ns ls (.long (f i.toNatClampNeg) :: r) ct) : xW cl D z H0 nL p l e R s m args below meth c Q pc nc ns ls (.int i :: .ref a :: r) ct := by
  intro H locs la hw hl hq
  obtain ⟨rfl, h2⟩ := xd1 hd
  exact va_lald (ws := [(a, xAl ts n f)]) hx hb hK (hw.one ha) 0 1 rfl rfl hi h2 (h H locs la hw hl hq)
theorem xs_baload {n a : Nat} {f : Nat → Int32} {i : Int32} (hx : p.tables.exec = Jvm.exec) (hb : c.code = cc) (hK : va_K D cl (xtys ts) s) (hd : xdec cc pc nx tg .baload = true) (ha : ct a = some (xAz ts n f)) (hi : vp_in i n) (h : xW cl D z H0 nL p l e R s m args below meth c Q nx nc ns ls (.int (f i.toNatClampNeg) :: r) ct) : xW cl D z H0 nL p l e R s m args below meth c Q pc nc ns ls (.int i :: .ref a :: r) ct := by
  intro H locs la hw hl hq
  obtain ⟨rfl, h2⟩ := xd1 hd
  exact va_zald (ws := [(a, xAz ts n f)]) hx hb hK (hw.one ha) 0 2 rfl rfl hi h2 (h H locs la hw hl hq)
theorem xs_aaload {n a b : Nat} {f : Nat → Option Nat} {i : Int32} (hx : p.tables.exec = Jvm.exec) (hb : c.code = cc) (hK : va_K D cl (xtys ts) s) (hd : xdec cc pc nx tg .aaload = true) (ha : ct a = some (xAa ts n f)) (hi : vp_in i n) (hv : f i.toNatClampNeg = some b) (h : xW cl D z H0 nL p l e R s m args below meth c Q nx nc ns ls (.ref b :: r) ct) : xW cl D z H0 nL p l e R s m args below meth c Q pc nc ns ls (.int i :: .ref a :: r) ct := by
  intro H locs la hw hl hq
  obtain ⟨rfl, h2⟩ := xd1 hd
  have hlt : i.toNatClampNeg < n := Nat.not_le.mp fun q => hi (Or.inr q)
  have hc : H[a]? = some (vp_cell (ts 3) (n, .inr (.inr (.inr (.inr f))))) := hw.2.2 a _ ha
  rw [vp_cell_q] at hc
  exact W.aald (v := .ref b) (ty := .array .int) hx hb hc ((hK.2 3 _ rfl).1 n _) rfl (fun q => by cases q) (by rw [arrV_size]; exact hi) (by rw [arrV_read _ _ hlt, hv]; rfl) rfl rfl h2 (h H locs la hw hl hq)
theorem xs_iastore {n a : Nat} {f : Nat → Int32} {i x : Int32} (hx : p.tables.exec = Jvm.exec) (hb : c.code = cc) (hK : va_K D cl (xtys ts) s) (hd : xdec cc pc nx tg .iastore = true) (ha : ct a = some (xAi ts n f)) (hi : vp_in i n) (hz : z ≤ a) (h : xW cl D z H0 nL p l e R s m args below meth c Q nx nc ns ls r (xup ct a (xAi ts n (upd f i.toNatClampNeg x)))) : xW cl D z H0 nL p l e R s m args below meth c Q pc nc ns ls (.int x :: .int i :: .ref a :: r) ct := by
  intro H locs la hw hl hq
  obtain ⟨rfl, h2⟩ := xd1 hd
  have hc : H[a]? = some (arrV (ts 0) n (fun j => .int (f j))) := hw.2.2 a _ ha
  refine W.iast hx hb hc ((hK.2 0 _ rfl).1 n _) (fun q => by cases q) (by rw [arrV_size]; exact hi) rfl rfl h2 fun H1 e1 e2 e3 => ?_
  refine h H1 _ la (hw.put ?_ e2 e3 hz) hl (fun q hq' => ?_)
  · show H1[a]? = some (vp_cell _ _)
    rw [e1, vp_cell_i, arrV_store]
    congr 2
    funext q
    by_cases hq2 : q = i.toNatClampNeg
    · subst hq2
      simp [updV, upd]
    · simp [updV, upd, hq2]
  · rcases List.mem_append.mp hq' with h9 | h9
    · exact hq q h9
    · rw [List.mem_singleton.mp h9]; exact hz
theorem xs_lastore {n a : Nat} {f : Nat → Int64} {i : Int32} {x : Int64} (hx : p.tables.exec = Jvm.exec) (hb : c.code = cc) (hK : va_K D cl (xtys ts) s) (hd : xdec cc pc nx tg .lastore = true) (ha : ct a = some (xAl ts n f)) (hi : vp_in i n) (hz : z ≤ a) (h : xW cl D z H0 nL p l e R s m args below meth c Q nx nc ns ls r (xup ct a (xAl ts n (vp_updL f i.toNatClampNeg x)))) : xW cl D z H0 nL p l e R s m args below meth c Q pc nc ns ls (.long x :: .int i :: .ref a :: r) ct := by
  intro H locs la hw hl hq
  obtain ⟨rfl, h2⟩ := xd1 hd
  have hc : H[a]? = some (arrV (ts 1) n (fun j => .long (f j))) := hw.2.2 a _ ha
  refine W.last hx hb hc ((hK.2 1 _ rfl).1 n _) (fun q => by cases q) (by rw [arrV_size]; exact hi) rfl rfl h2 fun H1 e1 e2 e3 => ?_
  refine h H1 _ la (hw.put ?_ e2 e3 hz) hl (fun q hq' => ?_)
  · show H1[a]? = some (vp_cell _ _)
    rw [e1, vp_cell_l, arrV_store]
    congr 2
    funext q
    by_cases hq2 : q = i.toNatClampNeg
    · subst hq2
      simp [updV, vp_updL]
    · simp [updV, vp_updL, hq2]
  · rcases List.mem_append.mp hq' with h9 | h9
    · exact hq q h9
    · rw [List.mem_singleton.mp h9]; exact hz
theorem xs_bastore {n a : Nat} {f : Nat → Int32} {i x : Int32} (hx : p.tables.exec = Jvm.exec) (hb : c.code = cc) (hK : va_K D cl (xtys ts) s) (hd : xdec cc pc nx tg .bastore = true) (ha : ct a = some (xAz ts n f)) (hi : vp_in i n) (hz : z ≤ a) (hv : x = 0 ∨ x = 1) (h : xW cl D z H0 nL p l e R s m args below meth c Q nx nc ns ls r (xup ct a (xAz ts n (upd f i.toNatClampNeg x)))) : xW cl D z H0 nL p l e R s m args below meth c Q pc nc ns ls (.int x :: .int i :: .ref a :: r) ct := by
  intro H locs la hw hl hq
  obtain ⟨rfl, h2⟩ := xd1 hd
  have hc : H[a]? = some (arrV (ts 2) n (fun j => .int (f j))) := hw.2.2 a _ ha
  refine W.zast hx hb hc ((hK.2 2 _ rfl).1 n _) (fun q => by cases q) (by rw [arrV_size]; exact hi) rfl rfl h2 fun H1 e1 e2 e3 => ?_
  refine h H1 _ la (hw.put ?_ e2 e3 hz) hl (fun q hq' => ?_)
  · show H1[a]? = some (vp_cell _ _)
    rw [e1, vp_cell_i, arrV_store]
    congr 2
    funext q
    by_cases hq2 : q = i.toNatClampNeg
    · subst hq2
      rcases hv with rfl | rfl <;> simp [updV, upd] <;> rfl
    · simp [updV, upd, hq2]
  · rcases List.mem_append.mp hq' with h9 | h9
    · exact hq q h9
    · rw [List.mem_singleton.mp h9]; exact hz
theorem xs_alen {n a : Nat} {f : Nat → Int32} (hx : p.tables.exec = Jvm.exec) (hb : c.code = cc) (hK : va_K D cl (xtys ts) s) (hd : xdec cc pc nx tg .arraylength = true) (ha : ct a = some (xAi ts n f)) (h : xW cl D z H0 nL p l e R s m args below meth c Q nx nc ns ls (.int (nI n) :: r) ct) : xW cl D z H0 nL p l e R s m args below meth c Q pc nc ns ls (.ref a :: r) ct := by
  intro H locs la hw hl hq
  obtain ⟨rfl, h2⟩ := xd1 hd
  exact va_alen (ws := [(a, xAi ts n f)]) hx hb hK (hw.one ha) 0 0 rfl rfl rfl h2 (h H locs la hw hl hq)
theorem xs_new_int {n : Nat} (hx : p.tables.exec = Jvm.exec) (hb : c.code = cc) (hK : va_K D cl (xtys ts) s) (ha : (Cond.arrayClass .int).before args s = true) (hd : xdec cc pc nx tg (.newarray .int) = true) (hn : n ≤ 100000) (hc : nc + 1 ≤ R.cells) (hs : ns + n ≤ R.slots) (h : ∀ q : Nat, ct q = none → z ≤ q → xW cl D z H0 nL p l e R s m args below meth c Q nx (nc + 1) (ns + n) ls (.ref q :: r) (xup ct q (xAi ts n (fun _ => 0)))) : xW cl D z H0 nL p l e R s m args below meth c Q pc nc ns ls (.int (nI n) :: r) ct := by
  intro H locs la hw hl hq
  simp only [xdec, Bool.and_eq_true, decide_eq_true_eq] at hd
  obtain ⟨rfl, h2⟩ := hd
  refine va_newaK (atype := .int) hx hb ha (g := F0 m pc la (.int (nI n) :: r)) rfl h2 rfl (nI_pos (by omega)) (nI_clamp (by omega)) (by show n * 4 ≤ 536870912; omega) hc hs rfl fun H1 cA e1 z1 o1 hAr hNm => ?_
  have hcA : cA = ts 0 := Option.some.inj (hNm.symm.trans (hK.2 0 _ rfl).2)
  subst hcA
  refine h H.size hw.fresh hw.1 H1 locs la (hw.new ?_ z1 o1) hl hq
  show H1[H.size]? = some (vp_cell _ _)
  rw [vp_cell_i]
  exact e1
theorem xs_new_long {n : Nat} (hx : p.tables.exec = Jvm.exec) (hb : c.code = cc) (hK : va_K D cl (xtys ts) s) (ha : (Cond.arrayClass .long).before args s = true) (hd : xdec cc pc nx tg (.newarray .long) = true) (hn : n ≤ 100000) (hc : nc + 1 ≤ R.cells) (hs : ns + n ≤ R.slots) (h : ∀ q : Nat, ct q = none → z ≤ q → xW cl D z H0 nL p l e R s m args below meth c Q nx (nc + 1) (ns + n) ls (.ref q :: r) (xup ct q (xAl ts n (fun _ => 0)))) : xW cl D z H0 nL p l e R s m args below meth c Q pc nc ns ls (.int (nI n) :: r) ct := by
  intro H locs la hw hl hq
  simp only [xdec, Bool.and_eq_true, decide_eq_true_eq] at hd
  obtain ⟨rfl, h2⟩ := hd
  refine va_newaK (atype := .long) hx hb ha (g := F0 m pc la (.int (nI n) :: r)) rfl h2 rfl (nI_pos (by omega)) (nI_clamp (by omega)) (by show n * 8 ≤ 536870912; omega) hc hs rfl fun H1 cA e1 z1 o1 hAr hNm => ?_
  have hcA : cA = ts 1 := Option.some.inj (hNm.symm.trans (hK.2 1 _ rfl).2)
  subst hcA
  refine h H.size hw.fresh hw.1 H1 locs la (hw.new ?_ z1 o1) hl hq
  show H1[H.size]? = some (vp_cell _ _)
  rw [vp_cell_l]
  exact e1
theorem xs_new_boolean {n : Nat} (hx : p.tables.exec = Jvm.exec) (hb : c.code = cc) (hK : va_K D cl (xtys ts) s) (ha : (Cond.arrayClass .boolean).before args s = true) (hd : xdec cc pc nx tg (.newarray .boolean) = true) (hn : n ≤ 100000) (hc : nc + 1 ≤ R.cells) (hs : ns + n ≤ R.slots) (h : ∀ q : Nat, ct q = none → z ≤ q → xW cl D z H0 nL p l e R s m args below meth c Q nx (nc + 1) (ns + n) ls (.ref q :: r) (xup ct q (xAz ts n (fun _ => 0)))) : xW cl D z H0 nL p l e R s m args below meth c Q pc nc ns ls (.int (nI n) :: r) ct := by
  intro H locs la hw hl hq
  simp only [xdec, Bool.and_eq_true, decide_eq_true_eq] at hd
  obtain ⟨rfl, h2⟩ := hd
  refine va_newaK (atype := .boolean) hx hb ha (g := F0 m pc la (.int (nI n) :: r)) rfl h2 rfl (nI_pos (by omega)) (nI_clamp (by omega)) (by show n * 1 ≤ 536870912; omega) hc hs rfl fun H1 cA e1 z1 o1 hAr hNm => ?_
  have hcA : cA = ts 2 := Option.some.inj (hNm.symm.trans (hK.2 2 _ rfl).2)
  subst hcA
  refine h H.size hw.fresh hw.1 H1 locs la (hw.new ?_ z1 o1) hl hq
  show H1[H.size]? = some (vp_cell _ _)
  rw [vp_cell_i]
  exact e1
end XO
