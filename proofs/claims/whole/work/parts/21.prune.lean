/-! domains, constraints, what pruning comes to (pure) -/
abbrev pD : Type := Nat → Nat → Bool
abbrev pC : Type := (Nat → Bool) × ((Nat → Nat) → Prop)
def pSub (r d : pD) : Prop := ∀ x v, r x v = true → d x v = true
def pSup (c : pC) (d : pD) (x v : Nat) : Prop := ∃ a : Nat → Nat, a x = v ∧ (∀ y, c.1 y = true → d y (a y) = true) ∧ c.2 a
def pStb (c : pC) (d : pD) : Prop := ∀ x v, c.1 x = true → d x v = true → pSup c d x v
def pG (cs : List pC) (d r : pD) : Prop := pSub r d ∧ (∀ c ∈ cs, pStb c r) ∧ ∀ r', pSub r' d → (∀ c ∈ cs, pStb c r') → pSub r' r
def pE (n : Nat) (d : pD) : Prop := ∃ x, x < n ∧ ∀ v, d x v = false
/-- what a pruning may come to: where a domain is empty, others may hold values that are not supported -/
def pQ (n : Nat) (cs : List pC) (d r : pD) : Prop := pSub r d ∧ (∀ r', pSub r' d → (∀ c ∈ cs, pStb c r') → pSub r' r) ∧ (pE n r ∨ ∀ c ∈ cs, pStb c r)
theorem pSub.rf (d : pD) : pSub d d := fun _ _ h => h
theorem pSub.tr {a b c : pD} (h : pSub a b) (k : pSub b c) : pSub a c := fun x v q => k x v (h x v q)
theorem pSub.eq {a b : pD} (h : pSub a b) (k : pSub b a) : a = b := by
  funext x v
  cases ha : a x v with
  | true => exact (h x v ha).symm
  | false =>
    cases hb : b x v with
    | true => rw [k x v hb] at ha; cases ha
    | false => rfl
theorem pSup.mono {c : pC} {d e : pD} {x v : Nat} (h : pSup c d x v) (k : pSub d e) : pSup c e x v := by
  obtain ⟨a, h1, h2, h3⟩ := h
  exact ⟨a, h1, fun y hy => k y _ (h2 y hy), h3⟩
/-- a value of a stable domain below d is supported in d -/
theorem pStb.up {c : pC} {r d : pD} (h : pStb c r) (k : pSub r d) {x v : Nat} (hx : c.1 x = true) (hv : r x v = true) : pSup c d x v := (h x v hx hv).mono k
theorem pE.sub {n : Nat} {r d : pD} (k : pSub r d) (h : pE n d) : pE n r := by
  obtain ⟨x, hx, hv⟩ := h
  refine ⟨x, hx, fun v => ?_⟩
  cases hr : r x v with
  | false => rfl
  | true =>
    have h9 := k x v hr
    rw [hv v] at h9
    cases h9
theorem pG.uniq {cs : List pC} {d a b : pD} (h : pG cs d a) (k : pG cs d b) : a = b := pSub.eq (k.2.2 a h.1 h.2.1) (h.2.2 b k.1 k.2.1)
theorem pG.q {n : Nat} {cs : List pC} {d r : pD} (h : pG cs d r) : pQ n cs d r := ⟨h.1, h.2.2, Or.inr h.2.1⟩
theorem pQ.g {n : Nat} {cs : List pC} {d r : pD} (h : pQ n cs d r) (k : ¬ pE n r) : pG cs d r := ⟨h.1, h.2.2.resolve_left k, h.2.1⟩
/-- two prunings of one domain: both have failed, or they are the same -/
theorem pQ.two {n : Nat} {cs : List pC} {d r g : pD} (h : pQ n cs d r) (k : pQ n cs d g) (hg : ∃ q, pG cs d q) : (pE n r ↔ pE n g) ∧ (¬ pE n r → r = g) := by
  obtain ⟨q, hq⟩ := hg
  have h1 : pSub q r := h.2.1 q hq.1 hq.2.1
  have h2 : pSub q g := k.2.1 q hq.1 hq.2.1
  have e1 : ¬ pE n r → r = q := fun z => (h.g z).uniq hq
  have e2 : ¬ pE n g → g = q := fun z => (k.g z).uniq hq
  refine ⟨⟨fun z => ?_, fun z => ?_⟩, fun z => ?_⟩
  · by_cases hz : pE n g
    · exact hz
    · rw [e2 hz]; exact pE.sub h1 z
  · by_cases hz : pE n r
    · exact hz
    · rw [e1 hz]; exact pE.sub h2 z
  · have h3 := e1 z
    by_cases hz : pE n g
    · exact absurd (by rw [h3]; exact pE.sub h2 hz) z
    · rw [h3, e2 hz]
/-- pruning goes on from where a pruning by fewer constraints has come -/
theorem pQ.more {n : Nat} {cs cs' : List pC} {d g r : pD} (hs : ∀ c ∈ cs, c ∈ cs') (k : pG cs d g) (h : pQ n cs' g r) : pQ n cs' d r :=
  ⟨h.1.tr k.1, fun r' h1 h2 => h.2.1 r' (k.2.2 r' h1 (fun c hc => h2 c (hs c hc))) h2, h.2.2⟩
/-- .. and where that one has failed, the longer one fails too -/
theorem pQ.fail {n n' : Nat} {cs cs' : List pC} {d g r : pD} (hn : n ≤ n') (hs : ∀ c ∈ cs, c ∈ cs') (k : pG cs d g) (h : pG cs' d r) (hf : pE n g) : pE n' r := by
  obtain ⟨x, hx, hv⟩ := pE.sub (k.2.2 r h.1 (fun c hc => h.2.1 c (hs c hc))) hf
  exact ⟨x, by omega, hv⟩
