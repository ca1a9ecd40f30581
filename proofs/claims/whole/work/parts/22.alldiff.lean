/-! DIFFERENT by Hall's theorem (pure): where no set of members uses up its values for others, every value is supported -/
theorem hc_back {n : Nat} {p q : Nat → Bool} (h : ∀ i, i < n → p i = true → q i = true) (hle : hc n q ≤ hc n p) : ∀ i, i < n → q i = true → p i = true := by
  intro i hi hq
  have e := hc_split n q p
  have e2 : hc n (fun i => q i && p i) = hc n p := hc_congr (fun j hj => by
    cases hp : p j
    · simp
    · simp [h j hj hp])
  cases hp : p i with
  | true => rfl
  | false =>
    have := hc_ge1 (p := fun i => q i && !p i) hi (by simp [hq, hp])
    omega
theorem hnb_mono {A : Nat} {S T : Nat → Bool} {d : Nat → Nat → Bool} (h : ∀ x, S x = true → T x = true) {v : Nat} (hv : hnb A S d v = true) : hnb A T d v = true := by
  obtain ⟨x, hx, hs, hd⟩ := hnb_iff.mp hv
  exact hnb_iff.mpr ⟨x, hx, h x hs, hd⟩
theorem hall_ok {A B : Nat} {M : Nat → Bool} {d : Nat → Nat → Bool} (hB : ∀ x v, d x v = true → v < B)
    (hst : ∀ S : Nat → Bool, (∀ x, S x = true → M x = true) → 0 < hc A S → hc B (hnb A S d) ≤ hc A S → ∀ y, M y = true → S y = false → ∀ v, hnb A S d v = true → d y v = false)
    (hne : ∀ y, M y = true → ∃ v, d y v = true) : ∀ T : Nat → Bool, (∀ x, T x = true → M x = true) → hc A T ≤ hc B (hnb A T d) := by
  have key : ∀ (k : Nat) (T : Nat → Bool), hc A T = k → (∀ x, T x = true → M x = true) → hc A T ≤ hc B (hnb A T d) := by
    intro k
    induction k with
    | zero => intro T hk _; omega
    | succ k ih =>
      intro T hk hT
      rcases Nat.lt_or_ge (hc B (hnb A T d)) (hc A T) with hlt | hge
      · exfalso
        obtain ⟨y, hy, hTy⟩ := hc_pos (show 0 < hc A T by omega)
        have e := hc_split A T (fun x => decide (x = y))
        have e1 : hc A (fun i => T i && decide (i = y)) = 1 := by
          rw [← hc_one hy]
          refine hc_congr (fun i _ => ?_)
          by_cases h : i = y
          · subst h; simp [hTy]
          · simp [h]
        have hT' : ∀ x, (fun x => T x && !decide (x = y)) x = true → M x = true := fun x hx => by
          simp only [Bool.and_eq_true] at hx
          exact hT x hx.1
        have hsub : ∀ x, (fun x => T x && !decide (x = y)) x = true → T x = true := fun x hx => by
          simp only [Bool.and_eq_true] at hx
          exact hx.1
        have i1 := ih (fun x => T x && !decide (x = y)) (by omega) hT'
        have i2 : hc B (hnb A (fun x => T x && !decide (x = y)) d) ≤ hc B (hnb A T d) := hc_mono (fun v _ hv => hnb_mono hsub hv)
        obtain ⟨v, hv⟩ := hne y (hT y hTy)
        have hvT : hnb A T d v = true := hnb_iff.mpr ⟨y, hy, hTy, hv⟩
        rcases Nat.eq_zero_or_pos (hc A (fun x => T x && !decide (x = y))) with h0 | h0
        · have := hc_ge1 (p := hnb A T d) (hB y v hv) hvT
          omega
        · have hv' := hc_back (fun v _ hv => hnb_mono hsub hv) (show hc B (hnb A T d) ≤ hc B (hnb A (fun x => T x && !decide (x = y)) d) by omega) v (hB y v hv) hvT
          have := hst (fun x => T x && !decide (x = y)) hT' h0 (by omega) y (hT y hTy) (by simp) v hv'
          rw [hv] at this
          cases this
      · exact hge
  exact fun T hT => key _ T rfl hT
theorem hall_sup {A B : Nat} {M : Nat → Bool} {d : Nat → Nat → Bool} (hA : ∀ x, M x = true → x < A) (hB : ∀ x v, d x v = true → v < B)
    (hst : ∀ S : Nat → Bool, (∀ x, S x = true → M x = true) → 0 < hc A S → hc B (hnb A S d) ≤ hc A S → ∀ y, M y = true → S y = false → ∀ v, hnb A S d v = true → d y v = false)
    (hne : ∀ y, M y = true → ∃ v, d y v = true) {x v : Nat} (hx : M x = true) (hv : d x v = true) :
    ∃ a : Nat → Nat, a x = v ∧ (∀ y, M y = true → d y (a y) = true) ∧ ∀ y z, M y = true → M z = true → a y = a z → y = z := by
  have hH := hall_ok hB hst hne
  obtain ⟨a, p1, q1⟩ := hall A B _ (fun y => M y && !decide (y = x)) (fun y u => d y u && !decide (u = v)) rfl (fun S hS => by
    have hS1 : ∀ y, S y = true → M y = true := fun y hy => by
      have := hS y hy
      simp only [Bool.and_eq_true] at this
      exact this.1
    have hSx : S x = false := by
      cases h : S x with
      | false => rfl
      | true => have := hS x h; simp at this
    have h1 := hH S hS1
    have e := hc_split B (hnb A S d) (fun u => decide (u = v))
    have e1 : hc B (fun i => hnb A S d i && decide (i = v)) ≤ 1 := hc_le1 (i := v) (fun j _ hj => by
      simp only [Bool.and_eq_true] at hj
      exact of_decide_eq_true hj.2)
    have e2 : hc B (fun i => hnb A S d i && !decide (i = v)) ≤ hc B (hnb A S (fun y u => d y u && !decide (u = v))) := hc_mono (fun u _ hu => by
      simp only [Bool.and_eq_true] at hu
      obtain ⟨y, hy, hs, hd⟩ := hnb_iff.mp hu.1
      exact hnb_iff.mpr ⟨y, hy, hs, by simp [hd, hu.2]⟩)
    rcases Nat.eq_zero_or_pos (hc A S) with h0 | h0
    · omega
    · rcases Nat.lt_or_ge (hc A S) (hc B (hnb A S d)) with hlt | hge
      · omega
      · have hnv : hnb A S d v = false := by
          cases h : hnb A S d v with
          | false => rfl
          | true =>
            have := hst S hS1 h0 hge x hx hSx v h
            rw [hv] at this
            cases this
        have e3 : hc B (fun i => hnb A S d i && decide (i = v)) = 0 := by
          rcases Nat.eq_zero_or_pos (hc B (fun i => hnb A S d i && decide (i = v))) with h | h
          · exact h
          · obtain ⟨j, _, hj⟩ := hc_pos h
            simp only [Bool.and_eq_true] at hj
            have hjv := of_decide_eq_true hj.2
            rw [hjv, hnv] at hj
            cases hj.1
        omega)
  refine ⟨fun y => if y = x then v else a y, by simp, fun y hy => ?_, fun y w hy hw he => ?_⟩
  · by_cases h : y = x
    · subst h; simpa using hv
    · simp only [if_neg h]
      have := (p1 y (hA y hy) (by simp [hy, h])).2
      simp only [Bool.and_eq_true] at this
      exact this.1
  · by_cases h1 : y = x <;> by_cases h2 : w = x
    · rw [h1, h2]
    · simp only [if_pos h1, if_neg h2] at he
      have := (p1 w (hA w hw) (by simp [hw, h2])).2
      rw [← he] at this
      simp at this
    · simp only [if_neg h1, if_pos h2] at he
      have := (p1 y (hA y hy) (by simp [hy, h1])).2
      rw [he] at this
      simp at this
    · simp only [if_neg h1, if_neg h2] at he
      exact q1 y w (hA y hy) (hA w hw) (by simp [hy, h1]) (by simp [hw, h2]) he
