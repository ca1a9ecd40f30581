/-! all assignments of n variables in their order, and a search by levels (pure) -/
def sE : Nat → List Nat → List (List Nat)
  | 0, p => [p]
  | k + 1, p => (List.range 8).flatMap (fun v => sE k (p ++ [v]))
def sS (ok : List Nat → Bool) (k : Nat) (p : List Nat) : List (List Nat) := (sE k p).filter ok
/-- those whose next value is at least i -/
def sT (ok : List Nat → Bool) (k : Nat) (p : List Nat) (i : Nat) : List (List Nat) := ((List.range 8).drop i).flatMap (fun v => sS ok k (p ++ [v]))
theorem sS_0 (ok : List Nat → Bool) (p : List Nat) : sS ok 0 p = if ok p = true then [p] else [] := by
  unfold sS sE
  by_cases h : ok p = true
  · simp [h]
  · simp [h]
theorem sS_succ (ok : List Nat → Bool) (k : Nat) (p : List Nat) : sS ok (k + 1) p = sT ok k p 0 := by
  unfold sS sT sE
  rw [List.filter_flatMap, List.drop_zero]
  rfl
theorem sT_8 (ok : List Nat → Bool) (k : Nat) (p : List Nat) : sT ok k p 8 = [] := by
  unfold sT
  rw [List.drop_eq_nil_of_le (by simp)]
  rfl
theorem sT_lt (ok : List Nat → Bool) (k : Nat) (p : List Nat) {i : Nat} (h : i < 8) : sT ok k p i = sS ok k (p ++ [i]) ++ sT ok k p (i + 1) := by
  unfold sT
  rw [List.drop_eq_getElem_cons (show i < (List.range 8).length by simpa using h)]
  simp
theorem sE_pre : ∀ (k : Nat) (p s : List Nat), s ∈ sE k p → ∃ t, s = p ++ t ∧ t.length = k
  | 0, p, s, h => by
    have h9 : s = p := by simpa [sE] using h
    exact ⟨[], by simp [h9], rfl⟩
  | k + 1, p, s, h => by
    simp only [sE, List.mem_flatMap] at h
    obtain ⟨v, -, hs⟩ := h
    obtain ⟨t, e, hl⟩ := sE_pre k (p ++ [v]) s hs
    exact ⟨v :: t, by rw [e, List.append_assoc]; rfl, by simp [hl]⟩
theorem sS_none {ok : List Nat → Bool} {k : Nat} {p : List Nat} (h : ∀ t : List Nat, t.length = k → ok (p ++ t) = false) : sS ok k p = [] := by
  unfold sS
  rw [List.filter_eq_nil_iff]
  intro s hs
  obtain ⟨t, rfl, hl⟩ := sE_pre k p s hs
  rw [h t hl]
  simp
theorem sS_some {ok : List Nat → Bool} {k : Nat} {p : List Nat} : sS ok k p ≠ [] ↔ ∃ s, s ∈ sE k p ∧ ok s = true := by
  unfold sS
  rw [ne_eq, List.filter_eq_nil_iff]
  constructor
  · intro h
    apply Classical.byContradiction
    intro hn
    exact h (fun s hs he => hn ⟨s, hs, he⟩)
  · rintro ⟨s, hs, he⟩ h
    exact h s hs he
/-- what is told level by level: gd j s looks at the first j + 1 values of s alone -/
def sK (n : Nat) (gd : Nat → List Nat → Bool) (s : List Nat) : Bool := (List.range n).all (fun j => gd j s)
def sLoc (gd : Nat → List Nat → Bool) : Prop := ∀ (j : Nat) (s t : List Nat), s.take (j + 1) = t.take (j + 1) → gd j s = gd j t
theorem sK_no {n : Nat} {gd : Nat → List Nat → Bool} (hl : sLoc gd) {p : List Nat} {v k : Nat} (hn : p.length < n) (h : gd p.length (p ++ [v]) = false) : sS (sK n gd) k (p ++ [v]) = [] := by
  refine sS_none (fun t ht => ?_)
  have e : gd p.length (p ++ [v] ++ t) = gd p.length (p ++ [v]) := hl _ _ _ (by rw [List.take_append_of_le_length (by simp)])
  have h2 : ¬ sK n gd (p ++ [v] ++ t) = true := fun q => by
    have := List.all_eq_true.mp q p.length (List.mem_range.mpr hn)
    rw [e, h] at this
    cases this
  simpa using h2
/-- a prefix whose levels are all good -/
def sGood (gd : Nat → List Nat → Bool) (p : List Nat) : Prop := ∀ j, j < p.length → gd j p = true
theorem sGood.nil (gd : Nat → List Nat → Bool) : sGood gd [] := fun j h => by simp at h
theorem sGood.snoc {gd : Nat → List Nat → Bool} (hl : sLoc gd) {p : List Nat} {v : Nat} (h : sGood gd p) (hv : gd p.length (p ++ [v]) = true) : sGood gd (p ++ [v]) := by
  intro j hj
  rw [List.length_append, List.length_singleton] at hj
  rcases Nat.lt_or_ge j p.length with h1 | h1
  · rw [← hl j p (p ++ [v]) (by rw [List.take_append_of_le_length (by omega)])]
    exact h j h1
  · have e : j = p.length := by omega
    rw [e]; exact hv
theorem sGood.ok {n : Nat} {gd : Nat → List Nat → Bool} {p : List Nat} (h : sGood gd p) (hn : p.length = n) : sK n gd p = true := by
  unfold sK
  rw [List.all_eq_true]
  intro j hj
  exact h j (by rw [hn]; exact List.mem_range.mp hj)
