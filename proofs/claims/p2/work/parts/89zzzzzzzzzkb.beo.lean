/-! what variables begin with -/
/-- numbers that variables begin with -/
def BeO (τ : Td) : Prop := ∀ k, ∃ v : Nat, v < 1000000 ∧ (τ.2.2.2.2.getD k 0 = Int64.ofNat v ∨ τ.2.2.2.2.getD k 0 = -(Int64.ofNat v))
theorem be_app {l : List Int64} {x : Int64} {k : Nat} (h : ∀ k, ∃ v : Nat, v < 1000000 ∧ (l.getD k 0 = Int64.ofNat v ∨ l.getD k 0 = -(Int64.ofNat v))) (hx : ∃ v : Nat, v < 1000000 ∧ (x = Int64.ofNat v ∨ x = -(Int64.ofNat v))) : ∃ v : Nat, v < 1000000 ∧ ((l ++ [x]).getD k 0 = Int64.ofNat v ∨ (l ++ [x]).getD k 0 = -(Int64.ofNat v)) := by
  rcases Nat.lt_trichotomy k l.length with q | q | q
  · rw [show (l ++ [x]).getD k 0 = l.getD k 0 from by rw [List.getD_eq_getElem?_getD, List.getD_eq_getElem?_getD, List.getElem?_append_left q]]
    exact h k
  · rw [show (l ++ [x]).getD k 0 = x from by rw [q, List.getD_eq_getElem?_getD, List.getElem?_append_right (Nat.le_refl _), Nat.sub_self]; rfl]
    exact hx
  · refine ⟨0, by decide, Or.inl ?_⟩
    rw [List.getD_eq_getElem?_getD, List.getElem?_eq_none (by rw [List.length_append]; show l.length + 1 ≤ k; omega)]
    rfl
theorem tc_num {b : Nat → Int32} {n i : Nat} (hB : By b) (k : tK b n i = 3) : ∃ v, v < 1000000 ∧ tC b n i = Int64.ofNat v := by
  obtain ⟨-, -, v, v1, v2, -⟩ := num_val2 (p := tP b n i) hB k
  exact ⟨v, v1, v2⟩
theorem td_be {b : Nat → Int32} {n : Nat} (hB : By b) : ∀ (g i : Nat) (τ : Td) (r : Nat × Td), BeO τ → td b n g i τ = .ok r → BeO r.2 := by
  intro g
  induction g with
  | zero => intro i τ r _ h; unfold td at h; cases h
  | succ g ih =>
    intro i τ r hM h
    unfold td at h
    by_cases k1 : tK b n i = 36
    · rw [if_pos k1] at h
      obtain ⟨j, -, h⟩ := bind_ok h
      obtain ⟨k, -, h⟩ := bind_ok h
      obtain ⟨q, hq, h⟩ := bind_ok h
      obtain ⟨l, -, h⟩ := bind_ok h
      refine ih _ _ _ ?_ h
      intro x
      refine be_app (l := τ.2.2.2.2) hM ?_
      unfold tdV at hq
      obtain ⟨p, -, hq⟩ := bind_ok hq
      by_cases k3 : tK b n p = 21
      · rw [if_pos k3] at hq
        obtain ⟨y, -, hq⟩ := bind_ok hq
        by_cases k4 : tK b n y = 3
        · rw [if_pos k4] at hq
          obtain ⟨w, -, hq⟩ := bind_ok hq
          cases hq
          obtain ⟨v, v1, v2⟩ := tc_num hB k4
          exact ⟨v, v1, Or.inr (by rw [v2])⟩
        · rw [if_neg k4] at hq; cases hq
      · rw [if_neg k3] at hq
        by_cases k4 : tK b n p = 3
        · rw [if_pos k4] at hq
          obtain ⟨w, -, hq⟩ := bind_ok hq
          cases hq
          obtain ⟨v, v1, v2⟩ := tc_num hB k4
          exact ⟨v, v1, Or.inl v2⟩
        · rw [if_neg k4] at hq; cases hq
    rw [if_neg k1] at h
    by_cases k2 : tK b n i = 30 ∨ tK b n i = 31 ∨ tK b n i = 32
    · rw [if_pos k2] at h
      obtain ⟨j, -, h⟩ := bind_ok h
      obtain ⟨k, -, h⟩ := bind_ok h
      obtain ⟨q, -, h⟩ := bind_ok h
      obtain ⟨l, -, h⟩ := bind_ok h
      refine ih _ _ _ ?_ h
      exact fun k => hM k
    · rw [if_neg k2] at h
      cases h
      exact hM
theorem rdm_be {b : Nat → Int32} {n m : Nat} {A : Nat → Nat → Int32} {B : Nat → Int64} {Zt : Nat → Nat → Int32} {r : Nat × Td × PS × Nat} (hB : By b) (e : rdM b n m A B Zt = .ok r) : BeO r.2.1 := by
  unfold rdM at e
  by_cases k0 : tK b n 0 = 0
  · rw [if_pos k0] at e; cases e
  · rw [if_neg k0] at e
    obtain ⟨q, hq, e⟩ := bind_ok e
    obtain ⟨w, -, e⟩ := bind_ok e
    cases e
    exact td_be hB 900 0 td0 q (fun k => ⟨0, by decide, Or.inl (by cases k <;> rfl)⟩) hq
/-- such a number is one that may be told -/
theorem BeO.inG {τ : Td} (h : BeO τ) (k : Nat) : InG ((τ.2.2.2.2.getD k 0).toInt32).toInt64 := by
  obtain ⟨v, v1, v2 | v2⟩ := h k
  · rw [v2]; exact (InG.n v1).cut
  · rw [v2]; exact (InG.n v1).neg.cut
