/-! ===== Int32 by its bits: bt x i ===== -/
def bt (x : Int32) (i : Nat) : Bool := x.toBitVec.getLsbD i
theorem b_ext {x y : Int32} (h : ∀ i, i < 32 → bt x i = bt y i) : x = y := Int32.toBitVec_inj.mp (BitVec.eq_of_getLsbD_eq (fun i hi => h i hi))
theorem b_or (x y : Int32) (i : Nat) : bt (x ||| y) i = (bt x i || bt y i) := by unfold bt; rw [Int32.toBitVec_or, BitVec.getLsbD_or]
theorem b_and (x y : Int32) (i : Nat) : bt (x &&& y) i = (bt x i && bt y i) := by unfold bt; rw [Int32.toBitVec_and, BitVec.getLsbD_and]
theorem b_xor (x y : Int32) (i : Nat) : bt (x ^^^ y) i = (bt x i ^^ bt y i) := by unfold bt; rw [Int32.toBitVec_xor, BitVec.getLsbD_xor]
theorem b_big {x : Int32} {i : Nat} (h : 32 ≤ i) : bt x i = false := BitVec.getLsbD_of_ge _ _ h
theorem b_255 (i : Nat) : bt 255 i = decide (i < 8) := by
  rcases Nat.lt_or_ge i 32 with h | h
  · exact (by decide +kernel : ∀ i, i < 32 → bt 255 i = decide (i < 8)) i h
  · rw [b_big h, decide_eq_false (by omega)]
theorem b_65535 (i : Nat) : bt 65535 i = decide (i < 16) := by
  rcases Nat.lt_or_ge i 32 with h | h
  · exact (by decide +kernel : ∀ i, i < 32 → bt 65535 i = decide (i < 16)) i h
  · rw [b_big h, decide_eq_false (by omega)]
theorem b_m1 : ∀ i, i < 32 → bt (-1) i = true := by decide +kernel
theorem b_0 (i : Nat) : bt 0 i = false := BitVec.getLsbD_zero
theorem s_l : ∀ n, n < 32 → ((nI n &&& 31).toBitVec.smod 32).toNat = n := by decide +kernel
theorem s_u : ∀ n, n < 32 → (((nI n).toUInt32 &&& Int32.toUInt32 31).toBitVec % 32).toNat = n := by decide +kernel
theorem b_shl (n : Nat) (hn : n < 32) (x : Int32) {i : Nat} (hi : i < 32) : bt (x <<< (nI n &&& 31)) i = (decide (n ≤ i) && bt x (i - n)) := by
  unfold bt
  rw [Int32.toBitVec_shiftLeft]
  show (x.toBitVec <<< ((nI n &&& 31).toBitVec.smod 32).toNat).getLsbD i = _
  rw [s_l n hn, BitVec.getLsbD_shiftLeft]
  rcases Nat.lt_or_ge i n with h | h
  · simp [h, Nat.not_le.mpr h]
  · simp [hi, h, Nat.not_lt.mpr h]
theorem b_ushr (n : Nat) (hn : n < 32) (x : Int32) (i : Nat) : bt ((x.toUInt32 >>> ((nI n).toUInt32 &&& Int32.toUInt32 31)).toInt32) i = bt x (n + i) := by
  show (x.toUInt32 >>> ((nI n).toUInt32 &&& Int32.toUInt32 31)).toBitVec.getLsbD i = x.toUInt32.toBitVec.getLsbD (n + i)
  rw [UInt32.toBitVec_shiftRight]
  show (x.toUInt32.toBitVec >>> (((nI n).toUInt32 &&& Int32.toUInt32 31).toBitVec % 32).toNat).getLsbD i = _
  rw [s_u n hn, BitVec.getLsbD_ushiftRight]
theorem b_sshr (n : Nat) (hn : n < 32) (x : Int32) {i : Nat} (hi : i < 32) : bt (x >>> (nI n &&& 31)) i = if n + i < 32 then bt x (n + i) else bt x 31 := by
  unfold bt
  rw [Int32.toBitVec_shiftRight]
  show (x.toBitVec.sshiftRight ((nI n &&& 31).toBitVec.smod 32).toNat).getLsbD i = _
  rw [s_l n hn, BitVec.getLsbD_sshiftRight, BitVec.msb_eq_getLsbD_last]
  simp [hi]
/-! own rows: one bit, answers that are truth values, rows for the conditions -/
def xb : Bool → Int32
  | true => nI 1
  | false => nI 0
theorem xb_0 (b : Bool) : (xb b = 0) = (b = false) := by cases b <;> simp [xb] <;> decide
theorem xb_01 (b : Bool) : xb b = 0 ∨ xb b = 1 := by cases b <;> simp [xb] <;> decide
theorem b_one {n : Nat} (hn : n < 32) {i : Nat} (hi : i < 32) : bt (nI 1 <<< (nI n &&& 31)) i = decide (i = n) := by
  rw [b_shl n hn _ hi]
  have h1 : ∀ j, j < 32 → bt (nI 1) j = decide (j = 0) := by decide +kernel
  rw [h1 (i - n) (by omega)]
  by_cases h : i = n
  · subst h; simp
  · by_cases h2 : n ≤ i
    · simp [h2, h]; omega
    · simp [h2, h]
theorem b_and1 (x : Int32) : (x &&& nI 1 = 0) = (bt x 0 = false) := by
  apply propext
  have h1 : ∀ j, j < 32 → bt (nI 1) j = decide (j = 0) := by decide +kernel
  constructor
  · intro h
    have : bt (x &&& nI 1) 0 = false := by rw [h]; exact b_0 0
    rw [b_and, h1 0 (by omega)] at this
    simpa using this
  · intro h
    apply b_ext
    intro i hi
    rw [b_and, b_0, h1 i hi]
    by_cases hz : i = 0
    · subst hz; simp [h]
    · simp [hz]
theorem b_has {n : Nat} (hn : n < 32) (x : Int32) : ((x >>> (nI n &&& 31)) &&& nI 1 = 0) = (bt x n = false) := by
  rw [b_and1, b_sshr n hn x (by omega), if_pos (by omega), Nat.add_zero]
section XR
variable {ct : xCT} {ts : Nat → ClassId}
theorem xr_get {F : List (Nat × Nat × Nat)} {x ci k a : Nat} {fs : List Value} {v : Value} {K : Value → Prop} (h : ct a = some (.inr (ci, fs))) (hk : xf2 F x ci = some k) (hv : fs[k]? = some v) (kk : K v) : ∃ (ci k : Nat) (fs : List Value) (v : Value), ct a = some (.inr (ci, fs)) ∧ xf2 F x ci = some k ∧ fs[k]? = some v ∧ K v := ⟨ci, k, fs, v, h, hk, hv, kk⟩
theorem xr_put {P : List (Nat × Nat × Nat × FieldType)} {x ci k a z : Nat} {ty : FieldType} {fs : List Value} {v : Value} {K : Nat → Nat → List Value → Prop} (h : ct a = some (.inr (ci, fs))) (hk : xf2 P x ci = some (k, ty)) (hl : k < fs.length) (hz : z ≤ a) (hn : narrow ty v = v) (hf : fits ty v = true) (kk : K ci k fs) :
    ∃ (ci k : Nat) (ty : FieldType) (fs : List Value), ct a = some (.inr (ci, fs)) ∧ xf2 P x ci = some (k, ty) ∧ k < fs.length ∧ z ≤ a ∧ narrow ty v = v ∧ fits ty v = true ∧ K ci k fs := ⟨ci, k, ty, fs, h, hk, hl, hz, hn, hf, kk⟩
theorem xr_ald {a n : Nat} {f : Nat → Int32} {i : Int32} {K : Nat → (Nat → Int32) → Prop} (h : ct a = some (xAi ts n f)) (hi : vp_in i n) (kk : K n f) : ∃ (n : Nat) (f : Nat → Int32), ct a = some (xAi ts n f) ∧ vp_in i n ∧ K n f := ⟨n, f, h, hi, kk⟩
theorem xr_ast {a n z : Nat} {f : Nat → Int32} {i : Int32} {K : Nat → (Nat → Int32) → Prop} (h : ct a = some (xAi ts n f)) (hi : vp_in i n) (hz : z ≤ a) (kk : K n f) : ∃ (n : Nat) (f : Nat → Int32), ct a = some (xAi ts n f) ∧ vp_in i n ∧ z ≤ a ∧ K n f := ⟨n, f, h, hi, hz, kk⟩
theorem xr_len {a n : Nat} {f : Nat → Int32} {K : Nat → Prop} (h : ct a = some (xAi ts n f)) (kk : K n) : ∃ (n : Nat) (f : Nat → Int32), ct a = some (xAi ts n f) ∧ K n := ⟨n, f, h, kk⟩
theorem xr_br {c A B : Prop} (h1 : c → A) (h2 : ¬ c → B) : (c → A) ∧ (¬ c → B) := ⟨h1, h2⟩
theorem xr_bn {c A B : Prop} (h1 : ¬ c → A) (h2 : c → B) : (¬ c → A) ∧ (c → B) := ⟨h1, h2⟩
theorem xr_call {a b c d : Nat} {P : Prop} (h1 : a ≤ b) (h2 : c ≤ d) (h : P) : a ≤ b ∧ c ≤ d ∧ P := ⟨h1, h2, h⟩
theorem xr_bool {v : Int32} {P : Prop} (h : v = 0 ∨ v = 1) (p : P) : (v = 0 ∨ v = 1) ∧ P := ⟨h, p⟩
end XR
