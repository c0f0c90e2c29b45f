/-! what is told of sums: the kinds of mixing -/
theorem mx_app {l : List Int32} {x : Int32} {k : Nat} (h : ∀ k, l.getD k 0 = 0 ∨ l.getD k 0 = 33 ∨ l.getD k 0 = 34 ∨ l.getD k 0 = 35) (hx : x = 0 ∨ x = 33 ∨ x = 34 ∨ x = 35) : (l ++ [x]).getD k 0 = 0 ∨ (l ++ [x]).getD k 0 = 33 ∨ (l ++ [x]).getD k 0 = 34 ∨ (l ++ [x]).getD k 0 = 35 := by
  by_cases q : k < l.length + 1
  · rw [getD_app q]
    by_cases z : k = l.length
    · rw [if_pos z]; exact hx
    · rw [if_neg z]; exact h k
  · left
    rw [List.getD_eq_getElem?_getD, List.getElem?_eq_none (by rw [List.length_append]; show l.length + 1 ≤ k; omega)]
    rfl
theorem td_mx {b : Nat → Int32} {n : Nat} : ∀ (g i : Nat) (τ : Td) (r : Nat × Td), MxOk τ → td b n g i τ = .ok r → MxOk r.2 := by
  intro g
  induction g with
  | zero => intro i τ r _ h; unfold td at h; cases h
  | succ g ih =>
    intro i τ r hM h
    unfold td at h
    by_cases k1 : tK b n i = 36
    · rw [if_pos k1] at h
      obtain ⟨j, -, h⟩ := bind_ok h
      obtain ⟨k, -, h⟩ := bind_ok h
      obtain ⟨q, -, h⟩ := bind_ok h
      obtain ⟨l, -, h⟩ := bind_ok h
      refine ih _ _ _ ?_ h
      exact fun k => hM k
    rw [if_neg k1] at h
    by_cases k2 : tK b n i = 30 ∨ tK b n i = 31 ∨ tK b n i = 32
    · rw [if_pos k2] at h
      obtain ⟨j, -, h⟩ := bind_ok h
      obtain ⟨k, -, h⟩ := bind_ok h
      obtain ⟨q, hq, h⟩ := bind_ok h
      obtain ⟨l, -, h⟩ := bind_ok h
      refine ih _ _ _ ?_ h
      intro x
      refine mx_app (l := τ.2.2.1) hM ?_
      unfold tdH at hq
      by_cases k3 : tK b n k = 4
      · rw [if_pos k3] at hq
        obtain ⟨y, -, hq⟩ := bind_ok hq
        by_cases k4 : tK b n y = 33 ∨ tK b n y = 34 ∨ tK b n y = 35
        · rw [if_pos k4] at hq
          obtain ⟨z, -, hq⟩ := bind_ok hq
          cases hq
          exact Or.inr k4
        · rw [if_neg k4] at hq; cases hq
      · rw [if_neg k3] at hq
        cases hq
        exact Or.inl rfl
    rw [if_neg k2] at h
    cases h
    exact hM
