/-! what a head says of the trap that is opened -/
theorem bind_ok {α β : Type} {R : Except (Int32 × Nat) α} {f : α → Except (Int32 × Nat) β} {y : β} (h : R.bind f = .ok y) : ∃ x, R = .ok x ∧ f x = .ok y := by
  cases R with
  | error e => cases h
  | ok x => exact ⟨x, rfl, h⟩
section
variable {b : Nat → Int32} {n s m : Nat} {τ : Td} {K : List KE} {σ : PS} {i j : Nat}
theorem hd_nm {k : Int32} {r : Nat × PS × Nat × Bool × Nat × Option Int64} (hB : By b) (h : hdM b n m τ k j i K σ = .ok r) : (k = 55 → ∃ c, r.2.2.2.2.2 = some c ∧ NmR b n c (r.2.1.1.2.2 (40 * m + j))) ∧ (k ≠ 55 → r.2.2.2.2.2 = none ∨ r.2.2.2.2.2 = some 0) ∧ (k = 17 ∨ k = 44 ∨ k = 58 → r.2.2.2.2.2 = none) := by
  unfold hdM at h
  by_cases k1 : k = 44
  · rw [if_pos k1] at h
    obtain ⟨x, -, h⟩ := bind_ok h
    obtain ⟨y, -, h⟩ := bind_ok h
    cases h
    exact ⟨fun z => by rw [k1] at z; exact absurd z (by decide), fun _ => Or.inl rfl, fun _ => rfl⟩
  rw [if_neg k1] at h
  by_cases k2 : k = 49
  · rw [if_pos k2] at h
    cases h
    exact ⟨fun z => by rw [k2] at z; exact absurd z (by decide), fun _ => Or.inr rfl, fun z => by rw [k2] at z; exact absurd z (by decide)⟩
  rw [if_neg k2] at h
  by_cases k3 : k = 50
  · rw [if_pos k3] at h
    obtain ⟨x, -, h⟩ := bind_ok h
    cases h
    exact ⟨fun z => by rw [k3] at z; exact absurd z (by decide), fun _ => Or.inr rfl, fun z => by rw [k3] at z; exact absurd z (by decide)⟩
  rw [if_neg k3] at h
  by_cases k4 : k = 53
  · rw [if_pos k4] at h
    obtain ⟨x, -, h⟩ := bind_ok h
    obtain ⟨y, -, h⟩ := bind_ok h
    cases h
    exact ⟨fun z => by rw [k4] at z; exact absurd z (by decide), fun _ => Or.inr rfl, fun z => by rw [k4] at z; exact absurd z (by decide)⟩
  rw [if_neg k4] at h
  by_cases k5 : k = 55
  · rw [if_pos k5] at h
    by_cases q : tK b n i = 2
    · rw [if_pos q] at h
      by_cases q2 : toT (tC b n i) τ = true ∨ (trW K (tC b n i)).isSome = true
      · rw [if_pos q2] at h; cases h
      rw [if_neg q2] at h
      obtain ⟨x, -, h⟩ := bind_ok h
      obtain ⟨y, -, h⟩ := bind_ok h
      cases h
      refine ⟨fun _ => ⟨tC b n i, rfl, tP b n i, name_WD hB q, rfl, va_up_self _ _ _⟩, fun z => absurd k5 z, fun z => by rw [k5] at z; exact absurd z (by decide)⟩
    · rw [if_neg q] at h; cases h
  rw [if_neg k5] at h
  by_cases k6 : k = 58
  · rw [if_pos k6] at h
    obtain ⟨x, -, h⟩ := bind_ok h
    by_cases q : 7 ≤ tK b n x.1 ∧ tK b n x.1 ≤ 12
    · rw [if_pos q] at h
      obtain ⟨y, -, h⟩ := bind_ok h
      obtain ⟨z, -, h⟩ := bind_ok h
      obtain ⟨w, -, h⟩ := bind_ok h
      cases h
      exact ⟨fun z => absurd z k5, fun _ => Or.inl rfl, fun _ => rfl⟩
    · rw [if_neg q] at h; cases h
  rw [if_neg k6] at h
  by_cases k7 : k = 17
  · rw [if_pos k7] at h
    cases h
    exact ⟨fun z => absurd z k5, fun _ => Or.inl rfl, fun _ => rfl⟩
  rw [if_neg k7] at h
  cases h
  exact ⟨fun z => absurd z k5, fun _ => Or.inl rfl, fun _ => rfl⟩
/-- the stack with the part that is opened -/
theorem KNm.push {σ0 : PS} {k : Int32} {x y : Nat} {q0 : Option Nat} {r : Nat × PS × Nat × Bool × Nat × Option Int64} (hB : By b) (hN : KNm b n m σ K) (hp : Pv m (40 * m + npS σ) σ (rwP (40 * m + j) q0 r.2.1)) (hj : j < npS (rwP (40 * m + j) q0 r.2.1)) (h : hdM b n m τ k j i K σ0 = .ok r) (hso : soK k ≠ 99) (h58 : (rwP (40 * m + j) q0 r.2.1).1.2.1 58 (40 * m + j) = Int32.ofNat (soK k)) : KNm b n m (rwP (40 * m + j) q0 r.2.1) ((40 * m + j, x, y, r.2.2.2.2.2) :: K) := by
  obtain ⟨h1, h2, -⟩ := hd_nm hB h
  intro e he
  rcases List.mem_cons.mp he with z | z
  · rw [z]
    refine ⟨⟨Nat.le_add_right _ _, by show 40 * m + j < 40 * m + _; omega⟩, ?_⟩
    by_cases k5 : k = 55
    · obtain ⟨c, e1, e2⟩ := h1 k5
      exact Or.inl ⟨c, e1, by rw [h58, k5]; decide, e2⟩
    · refine Or.inr ⟨h2 k5, ?_⟩
      rw [h58]
      rcases soK_cases hso with w | w | w | w | w | w | w | w | w | w | w | w | w | w | w | w | w <;> first | exact absurd w k5 | (rw [w]; decide)
  · exact (hN.pv hp) e z
end
