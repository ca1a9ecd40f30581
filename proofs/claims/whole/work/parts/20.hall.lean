/-! Hall's theorem on families of sets of numbers below B, indices below A (pure) -/
def hc : Nat → (Nat → Bool) → Nat
  | 0, _ => 0
  | n + 1, p => hc n p + (if p n = true then 1 else 0)
theorem hc_mono {n : Nat} {p q : Nat → Bool} (h : ∀ i, i < n → p i = true → q i = true) : hc n p ≤ hc n q := by
  induction n with
  | zero => exact Nat.le_refl 0
  | succ n ih =>
    have h1 := ih (fun i hi => h i (by omega))
    have h2 := h n (by omega)
    simp only [hc]
    by_cases hp : p n = true
    · rw [if_pos hp, if_pos (h2 hp)]; omega
    · rw [if_neg hp]; split <;> omega
theorem hc_congr {n : Nat} {p q : Nat → Bool} (h : ∀ i, i < n → p i = q i) : hc n p = hc n q := by
  induction n with
  | zero => rfl
  | succ n ih =>
    simp only [hc]
    rw [ih (fun i hi => h i (by omega)), h n (by omega)]
theorem hc_split (n : Nat) (p q : Nat → Bool) : hc n p = hc n (fun i => p i && q i) + hc n (fun i => p i && !q i) := by
  induction n with
  | zero => rfl
  | succ n ih =>
    simp only [hc]
    by_cases hp : p n = true <;> by_cases hq : q n = true <;> simp [hp, hq] <;> omega
theorem hc_or {n : Nat} {p q : Nat → Bool} (h : ∀ i, i < n → p i = true → q i = true → False) : hc n (fun i => p i || q i) = hc n p + hc n q := by
  induction n with
  | zero => rfl
  | succ n ih =>
    have h1 := ih (fun i hi => h i (by omega))
    have h2 := h n (by omega)
    simp only [hc]
    by_cases hp : p n = true <;> by_cases hq : q n = true
    · exact (h2 hp hq).elim
    · simp [hp, hq]; omega
    · simp [hp, hq]; omega
    · simp [hp, hq]; omega
theorem hc_pos {n : Nat} {p : Nat → Bool} (h : 0 < hc n p) : ∃ i, i < n ∧ p i = true := by
  induction n with
  | zero => simp [hc] at h
  | succ n ih =>
    by_cases hp : p n = true
    · exact ⟨n, by omega, hp⟩
    · simp only [hc, if_neg hp] at h
      obtain ⟨i, hi, hpi⟩ := ih (by omega)
      exact ⟨i, by omega, hpi⟩
theorem hc_ge1 {n : Nat} {p : Nat → Bool} {i : Nat} (hi : i < n) (h : p i = true) : 1 ≤ hc n p := by
  induction n with
  | zero => omega
  | succ n ih =>
    simp only [hc]
    by_cases e : i = n
    · subst e; rw [if_pos h]; omega
    · have := ih (by omega); omega
theorem hc_one {n i : Nat} (hi : i < n) : hc n (fun j => decide (j = i)) = 1 := by
  induction n with
  | zero => omega
  | succ n ih =>
    simp only [hc]
    by_cases e : i = n
    · subst e
      have h0 : hc i (fun j => decide (j = i)) = 0 := by
        rcases Nat.eq_zero_or_pos (hc i (fun j => decide (j = i))) with h | h
        · exact h
        · obtain ⟨j, hj, hd⟩ := hc_pos h
          have := of_decide_eq_true hd
          omega
      rw [h0]; simp
    · rw [ih (by omega), if_neg (by simp; omega)]
theorem hc_le1 {n i : Nat} {p : Nat → Bool} (h : ∀ j, j < n → p j = true → j = i) : hc n p ≤ 1 := by
  by_cases hi : i < n
  · rw [← hc_one hi]
    exact hc_mono (fun j hj hp => by simp [h j hj hp])
  · rcases Nat.eq_zero_or_pos (hc n p) with e | e
    · omega
    · obtain ⟨j, hj, hp⟩ := hc_pos e
      have := h j hj hp
      omega
def hnb (A : Nat) (S : Nat → Bool) (d : Nat → Nat → Bool) (v : Nat) : Bool := (List.range A).any (fun x => S x && d x v)
theorem hnb_iff {A : Nat} {S : Nat → Bool} {d : Nat → Nat → Bool} {v : Nat} : hnb A S d v = true ↔ ∃ x, x < A ∧ S x = true ∧ d x v = true := by
  unfold hnb
  rw [List.any_eq_true]
  constructor
  · rintro ⟨x, hx, h⟩
    rw [Bool.and_eq_true] at h
    exact ⟨x, List.mem_range.mp hx, h.1, h.2⟩
  · rintro ⟨x, hx, h1, h2⟩
    exact ⟨x, List.mem_range.mpr hx, by rw [h1, h2]; rfl⟩
theorem hall (A B : Nat) : ∀ (k : Nat) (M : Nat → Bool) (d : Nat → Nat → Bool), hc A M = k → (∀ S : Nat → Bool, (∀ x, S x = true → M x = true) → hc A S ≤ hc B (hnb A S d)) →
    ∃ a : Nat → Nat, (∀ x, x < A → M x = true → a x < B ∧ d x (a x) = true) ∧ ∀ x y, x < A → y < A → M x = true → M y = true → a x = a y → x = y := by
  intro k
  induction k using Nat.strongRecOn with
  | _ k ih =>
    intro M d hk hH
    rcases Nat.eq_zero_or_pos (hc A M) with h0 | h0
    · refine ⟨fun _ => 0, fun x hx hm => ?_, fun x y hx _ hm => ?_⟩
      · have := hc_ge1 hx hm; omega
      · have := hc_ge1 hx hm; omega
    · by_cases hex : ∃ S : Nat → Bool, (∀ x, S x = true → M x = true) ∧ 0 < hc A S ∧ hc A S < hc A M ∧ hc B (hnb A S d) = hc A S
      · obtain ⟨S, hS, h1, h2, h3⟩ := hex
        obtain ⟨a1, p1, q1⟩ := ih (hc A S) (by omega) S d rfl (fun U hU => hH U (fun x hx => hS x (hU x hx)))
        have hT : hc A (fun x => M x && !S x) = hc A M - hc A S := by
          have e := hc_split A M S
          have e2 : hc A (fun i => M i && S i) = hc A S := hc_congr (fun i _ => by
            cases hs : S i
            · simp
            · simp [hS i hs])
          omega
        obtain ⟨a2, p2, q2⟩ := ih (hc A (fun x => M x && !S x)) (by omega) (fun x => M x && !S x) (fun x v => d x v && !hnb A S d v) rfl (fun U hU => by
          have hUS : ∀ x, U x = true → S x = true → False := fun x hu hs => by
            have := hU x hu
            simp [hs] at this
          have e1 : hc A (fun x => U x || S x) = hc A U + hc A S := hc_or (fun i _ a b => hUS i a b)
          have e2 := hH (fun x => U x || S x) (fun x hx => by
            rcases Bool.or_eq_true _ _ |>.mp hx with h | h
            · have := hU x h
              rw [Bool.and_eq_true] at this
              exact this.1
            · exact hS x h)
          have e3 := hc_split B (hnb A (fun x => U x || S x) d) (hnb A S d)
          have e4 : hc B (fun i => hnb A (fun x => U x || S x) d i && hnb A S d i) = hc B (hnb A S d) := hc_congr (fun v _ => by
            cases hv : hnb A S d v
            · simp
            · obtain ⟨x, hx, hs, hd⟩ := hnb_iff.mp hv
              have : hnb A (fun x => U x || S x) d v = true := hnb_iff.mpr ⟨x, hx, by simp [hs], hd⟩
              simp [this])
          have e5 : hc B (fun i => hnb A (fun x => U x || S x) d i && !hnb A S d i) ≤ hc B (hnb A U (fun x v => d x v && !hnb A S d v)) := hc_mono (fun v _ hv => by
            rw [Bool.and_eq_true] at hv
            obtain ⟨x, hx, hus, hd⟩ := hnb_iff.mp hv.1
            rcases Bool.or_eq_true _ _ |>.mp hus with h | h
            · exact hnb_iff.mpr ⟨x, hx, h, by rw [hd, hv.2]; rfl⟩
            · have : hnb A S d v = true := hnb_iff.mpr ⟨x, hx, h, hd⟩
              rw [this] at hv
              simp at hv)
          omega)
        refine ⟨fun x => if S x = true then a1 x else a2 x, fun x hx hm => ?_, fun x y hx hy hmx hmy he => ?_⟩
        · by_cases hs : S x = true
          · simp only [if_pos hs]
            exact p1 x hx hs
          · simp only [if_neg hs]
            obtain ⟨r1, r2⟩ := p2 x hx (by simp [hm, hs])
            rw [Bool.and_eq_true] at r2
            exact ⟨r1, r2.1⟩
        · by_cases hsx : S x = true <;> by_cases hsy : S y = true
          · simp only [if_pos hsx, if_pos hsy] at he
            exact q1 x y hx hy hsx hsy he
          · simp only [if_pos hsx, if_neg hsy] at he
            have r1 := (p1 x hx hsx).2
            have r2 := (p2 y hy (by simp [hmy, hsy])).2
            rw [Bool.and_eq_true] at r2
            have : hnb A S d (a2 y) = true := hnb_iff.mpr ⟨x, hx, hsx, by rw [← he]; exact r1⟩
            rw [this] at r2
            simp at r2
          · simp only [if_neg hsx, if_pos hsy] at he
            have r1 := (p1 y hy hsy).2
            have r2 := (p2 x hx (by simp [hmx, hsx])).2
            rw [Bool.and_eq_true] at r2
            have : hnb A S d (a2 x) = true := hnb_iff.mpr ⟨y, hy, hsy, by rw [he]; exact r1⟩
            rw [this] at r2
            simp at r2
          · simp only [if_neg hsx, if_neg hsy] at he
            exact q2 x y hx hy (by simp [hmx, hsx]) (by simp [hmy, hsy]) he
      · obtain ⟨x0, hx0, hm0⟩ := hc_pos h0
        have hsing := hH (fun x => decide (x = x0)) (fun x hx => by rw [of_decide_eq_true hx]; exact hm0)
        rw [hc_one hx0] at hsing
        obtain ⟨v0, hv0, hnv⟩ := hc_pos hsing
        obtain ⟨x1, hx1, he1, hd0⟩ := hnb_iff.mp hnv
        have hxe := of_decide_eq_true he1
        subst hxe
        have hM' : hc A (fun x => M x && !decide (x = x1)) + 1 = hc A M := by
          have e := hc_split A M (fun x => decide (x = x1))
          have e2 : hc A (fun i => M i && decide (i = x1)) = 1 := by
            rw [← hc_one hx0]
            refine hc_congr (fun i _ => ?_)
            by_cases h : i = x1
            · subst h; simp [hm0]
            · simp [h]
          omega
        obtain ⟨a, p1, q1⟩ := ih (hc A (fun x => M x && !decide (x = x1))) (by omega) (fun x => M x && !decide (x = x1)) (fun x v => d x v && !decide (v = v0)) rfl (fun S hS => by
          rcases Nat.eq_zero_or_pos (hc A S) with hz | hz
          · omega
          · have hS1 : ∀ x, S x = true → M x = true := fun x hx => by
              have := hS x hx
              rw [Bool.and_eq_true] at this
              exact this.1
            have hlt : hc A S ≤ hc A (fun x => M x && !decide (x = x1)) := hc_mono (fun x _ h => hS x h)
            have hne : hc B (hnb A S d) ≠ hc A S := fun e => hex ⟨S, hS1, hz, by omega, e⟩
            have hle := hH S hS1
            have e := hc_split B (hnb A S d) (fun v => decide (v = v0))
            have e1 : hc B (fun i => hnb A S d i && decide (i = v0)) ≤ 1 := hc_le1 (i := v0) (fun j _ hj => by
              rw [Bool.and_eq_true] at hj
              exact of_decide_eq_true hj.2)
            have e2 : hc B (fun i => hnb A S d i && !decide (i = v0)) ≤ hc B (hnb A S (fun x v => d x v && !decide (v = v0))) := hc_mono (fun v _ hv => by
              rw [Bool.and_eq_true] at hv
              obtain ⟨x, hx, hs, hd⟩ := hnb_iff.mp hv.1
              exact hnb_iff.mpr ⟨x, hx, hs, by rw [hd, hv.2]; rfl⟩)
            omega)
        refine ⟨fun x => if x = x1 then v0 else a x, fun x hx hm => ?_, fun x y hx hy hmx hmy he => ?_⟩
        · by_cases h : x = x1
          · subst h
            simp only [if_pos rfl]
            exact ⟨hv0, hd0⟩
          · simp only [if_neg h]
            obtain ⟨r1, r2⟩ := p1 x hx (by simp [hm, h])
            rw [Bool.and_eq_true] at r2
            exact ⟨r1, r2.1⟩
        · by_cases h1 : x = x1 <;> by_cases h2 : y = x1
          · omega
          · simp only [if_pos h1, if_neg h2] at he
            have r2 := (p1 y hy (by simp [hmy, h2])).2
            rw [← he] at r2
            simp at r2
          · simp only [if_neg h1, if_pos h2] at he
            have r2 := (p1 x hx (by simp [hmx, h1])).2
            rw [he] at r2
            simp at r2
          · simp only [if_neg h1, if_neg h2] at he
            exact q1 x y hx hy (by simp [hmx, h1]) (by simp [hmy, h2]) he
