theorem xt_gd : xgd xt := by
  intro w h
  have h1 := (List.mem_filter.mp h).2
  unfold xt_good at h1
  rcases Bool.or_eq_true _ _ |>.mp h1 with h2 | h2
  · exact Or.inl h2
  · cases w <;> first | exact Or.inr ⟨_, rfl⟩ | cases h2
def xJ0 : (Nat → ClassId) → Nat → List Value → xCT → xZ → Nat → xKt := fun _ _ _ _ _ _ _ _ _ _ _ _ => False
theorem xl_lt {i n : Nat} (hc : ¬ nI n ≤ nI i) (hn : i < 2 ^ 31) : i < n := by
  rcases Nat.lt_or_ge i n with q | q
  · exact q
  · exact absurd (nI_le q hn) hc
theorem xl_ge {i n : Nat} (hc : nI n ≤ nI i) (hn : n < 2 ^ 31) : n ≤ i := by
  rcases Nat.lt_or_ge i n with q | q
  · exact absurd hc (nI_ge q hn)
  · exact q
