/-! a trap that is named is one of the open ones -/
theorem trW_X {c : Int64} (hc : c ≠ 0) : ∀ (K : List KE) (v e : Nat), trW K c = some (v, e) → trX K v e := by
  intro K
  induction K with
  | nil => intro v e h; unfold trW at h; cases h
  | cons k K ih =>
    intro v e h
    unfold trW at h
    unfold trX
    cases hk : k.2.2.2 with
    | none =>
      rw [hk] at h
      exact ih v e h
    | some x =>
      rw [hk] at h
      have h : (if x = c then some (0, k.1) else (trW K c).map fun r => (r.1 + 1, r.2)) = some (v, e) := h
      show (v = 0 ∧ e = k.1 ∧ x ≠ 0) ∨ ∃ u, v = u + 1 ∧ trX K u e
      by_cases hx : x = c
      · rw [if_pos hx] at h
        cases h
        exact Or.inl ⟨rfl, rfl, by rw [hx]; exact hc⟩
      · rw [if_neg hx] at h
        obtain ⟨q, h1, h2⟩ := Option.map_eq_some_iff.mp h
        cases h2
        exact Or.inr ⟨q.1, rfl, ih q.1 q.2 h1⟩
theorem trW_lt {c : Int64} : ∀ (K : List KE) (v e : Nat), trW K c = some (v, e) → v < K.length := by
  intro K
  induction K with
  | nil => intro v e h; unfold trW at h; cases h
  | cons k K ih =>
    intro v e h
    unfold trW at h
    cases hk : k.2.2.2 with
    | none =>
      rw [hk] at h
      exact Nat.lt_succ_of_lt (ih v e h)
    | some x =>
      rw [hk] at h
      have h : (if x = c then some (0, k.1) else (trW K c).map fun r => (r.1 + 1, r.2)) = some (v, e) := h
      by_cases hx : x = c
      · rw [if_pos hx] at h
        cases h
        exact Nat.succ_pos _
      · rw [if_neg hx] at h
        obtain ⟨q, h1, h2⟩ := Option.map_eq_some_iff.mp h
        cases h2
        exact Nat.succ_lt_succ (ih q.1 q.2 h1)
