/-! what parts give and use: heads, leaves, tails -/
theorem so15 {k : Int32} (h : Int32.ofNat (soK k) = 15) : k = 2 := by
  unfold soK at h
  by_cases k0 : k = 37
  · rw [if_pos k0] at h; exact absurd h (by decide)
  rw [if_neg k0] at h
  by_cases k1 : k = 38
  · rw [if_pos k1] at h; exact absurd h (by decide)
  rw [if_neg k1] at h
  by_cases k2 : k = 39
  · rw [if_pos k2] at h; exact absurd h (by decide)
  rw [if_neg k2] at h
  by_cases k3 : k = 40
  · rw [if_pos k3] at h; exact absurd h (by decide)
  rw [if_neg k3] at h
  by_cases k4 : k = 41
  · rw [if_pos k4] at h; exact absurd h (by decide)
  rw [if_neg k4] at h
  by_cases k5 : k = 42
  · rw [if_pos k5] at h; exact absurd h (by decide)
  rw [if_neg k5] at h
  by_cases k6 : k = 44
  · rw [if_pos k6] at h; exact absurd h (by decide)
  rw [if_neg k6] at h
  by_cases k7 : k = 47
  · rw [if_pos k7] at h; exact absurd h (by decide)
  rw [if_neg k7] at h
  by_cases k8 : k = 49
  · rw [if_pos k8] at h; exact absurd h (by decide)
  rw [if_neg k8] at h
  by_cases k9 : k = 50
  · rw [if_pos k9] at h; exact absurd h (by decide)
  rw [if_neg k9] at h
  by_cases k10 : k = 52
  · rw [if_pos k10] at h; exact absurd h (by decide)
  rw [if_neg k10] at h
  by_cases k11 : k = 53
  · rw [if_pos k11] at h; exact absurd h (by decide)
  rw [if_neg k11] at h
  by_cases k12 : k = 55
  · rw [if_pos k12] at h; exact absurd h (by decide)
  rw [if_neg k12] at h
  by_cases k13 : k = 57
  · rw [if_pos k13] at h; exact absurd h (by decide)
  rw [if_neg k13] at h
  by_cases k14 : k = 58
  · rw [if_pos k14] at h; exact absurd h (by decide)
  rw [if_neg k14] at h
  by_cases q1 : k = 2
  · exact q1
  rw [if_neg q1] at h
  by_cases q2 : k = 17
  · rw [if_pos q2] at h; exact absurd h (by decide)
  rw [if_neg q2] at h
  exact absurd h (by decide)
/-- no sum was read: masks and sums as they were, the arrays but for a few cells -/
def Nx (σ σ' : PS) : Prop := giS σ' = giS σ ∧ usS σ' = usS σ ∧ σ'.2.2.1 = σ.2.2.1 ∧ ∀ c x, c ≠ 60 → c ≠ 61 → c ≠ 62 → c ≠ 63 → σ'.1.2.1 c x = σ.1.2.1 c x
section
variable {b : Nat → Int32} {n m : Nat} {τ : Td} {j i o f1 f2 fo x aw lit y : Nat} {k : Int32} {w : Int64} {K : List KE} {σ σ1 σ2 : PS}
theorem Nx.rf : Nx σ σ := ⟨rfl, rfl, rfl, fun _ _ _ _ _ _ => rfl⟩
theorem Nx.tree {T : TrT} (h : Nx σ σ1) : Nx σ (trP1 σ1 T) := h
theorem co_n {r : Nat × PS × Nat} (e : coM b n m τ j i o σ = .ok r) : Nx σ r.2.1 := by
  unfold coM at e
  obtain ⟨x, -, e⟩ := bind_ok e
  cases e
  refine ⟨rfl, rfl, rfl, fun c x h1 h2 h3 h4 => ?_⟩
  show up2 (up2 σ.1.2.1 62 _ _) 63 _ _ c x = _
  rw [up2_ne (fun z => h4 z.1), up2_ne (fun z => h3 z.1)]
theorem at_n {r : Nat × PS × Nat × Bool} (e : atM b n m τ j i o σ = .ok r) : Nx σ r.2.1 := by
  unfold atM at e
  obtain ⟨x, -, e⟩ := bind_ok e
  obtain ⟨y, e1, e⟩ := bind_ok e
  cases e
  have q := co_n e1
  by_cases h : x.2 = true
  · rw [if_pos h] at q
    exact ⟨q.1, q.2.1, q.2.2.1, fun c z h1 h2 h3 h4 => (q.2.2.2 c z h1 h2 h3 h4).trans (by show up2 σ.1.2.1 61 _ _ c z = _; exact up2_ne (fun z => h2 z.1))⟩
  · rw [if_neg h] at q; exact q
/-- one sum was read, into cells 64 and 65 of part j -/
def S1x (m j : Nat) (σ σ' : PS) : Prop := giS σ' = giS σ ∧ ∃ Y, NeY σ.2.2.1 Y ∧ σ'.2.2.1 = σ.2.2.1 ++ Y ∧ usS σ' = usS σ ||| usX Y ∧ σ'.1.2.1 64 (40 * m + j) = Int32.ofNat (810 * m + σ.2.2.1.length) ∧ σ'.1.2.1 65 (40 * m + j) = Int32.ofNat (810 * m + (σ.2.2.1.length + Y.length - 1)) ∧ ∀ c x, c ≠ 60 → c ≠ 64 → c ≠ 65 → σ'.1.2.1 c x = σ.1.2.1 c x
theorem su_s (hv : HvT τ) {r : Nat × PS} (e : suM b n m τ j 64 65 fo i o σ = .ok r) : S1x m j σ r.2 := by
  obtain ⟨h1, Y, h2, h3, h4, h5⟩ := su_u hv e
  refine ⟨h1, Y, h2, h3, h4, ?_, ?_, fun c x z1 z2 z3 => ?_⟩
  · rw [h5, up2_ne (fun z => absurd z.1 (by decide))]; exact up2_eq
  · rw [h5]; exact up2_eq
  · rw [h5, up2_ne (fun z => z3 z.1), up2_ne (fun z => z2 z.1)]
theorem em_n (hv : HvT τ) {r : Nat × PS × Nat} (e : emM b n m τ k j i o σ = .ok r) : Nx σ r.2.1 ∨ S1x m j σ r.2.1 := by
  unfold emM at e
  by_cases h1 : tK b n i = 2
  · rw [if_pos h1] at e
    cases h2 : fd τ.1 (tC b n i) with
    | none => rw [h2] at e; cases e
    | some s =>
      rw [h2] at e
      have e : (if τ.2.1.getD s 0 = 30 then Except.error (4, tP b n i) else (adv' b n i).bind fun i2 => _) = .ok r := e
      by_cases h3 : τ.2.1.getD s 0 = 30
      · rw [if_pos h3] at e; cases e
      rw [if_neg h3] at e
      obtain ⟨i2, -, e⟩ := bind_ok e
      by_cases h4 : τ.2.2.1.getD s 0 = 0
      · rw [if_pos h4] at e
        by_cases h5 : k = 40 ∧ tK b n i2 = 15
        · rw [if_pos h5] at e; cases e
        · rw [if_neg h5] at e
          cases e
          exact Or.inl ⟨rfl, rfl, rfl, fun c x z1 _ _ _ => up2_ne (fun z => z1 z.1)⟩
      rw [if_neg h4] at e
      by_cases h5 : k = 40 ∧ tK b n i2 = 15
      · rw [if_pos h5] at e
        by_cases h6 : o = 15
        · rw [if_pos h6] at e; cases e
        rw [if_neg h6] at e
        obtain ⟨i3, -, e⟩ := bind_ok e
        obtain ⟨y, e1, e⟩ := bind_ok e
        obtain ⟨i4, -, e⟩ := bind_ok e
        cases e
        obtain ⟨q1, Y, q2, q3, q4, q5, q6, q7⟩ := su_s hv e1
        exact Or.inr ⟨q1, Y, q2, q3, q4, q5, q6, fun c x z1 z2 z3 => (q7 c x z1 z2 z3).trans (by show up2 σ.1.2.1 60 _ _ c x = _; exact up2_ne (fun z => z1 z.1))⟩
      · rw [if_neg h5] at e; cases e
  · rw [if_neg h1] at e; cases e
/-- what a beginning part says -/
def Bg0 (m j : Nat) (k : Int32) (σ : PS) : Prop := σ.1.2.1 58 (40 * m + j) = Int32.ofNat (soK k) ∧ σ.1.2.1 65 (40 * m + j) = -1 ∧ σ.1.2.1 67 (40 * m + j) = -1
theorem Nx.gu (h : Nx σ σ1) (h0 : Bg0 m j k σ) (h2 : k ≠ 2) : GU m j σ σ1 ∧ ∃ Y, σ1.2.2.1 = σ.2.2.1 ++ Y := by
  obtain ⟨a1, a2, a3, a4⟩ := h
  refine ⟨GU.no (fun z => h2 (so15 ?_)) ?_ ?_ a1 a2, [], by rw [List.append_nil]; exact a3⟩
  · rw [← h0.1, ← a4 58 _ (by decide) (by decide) (by decide) (by decide)]; exact z
  · rw [a4 65 _ (by decide) (by decide) (by decide) (by decide)]; exact h0.2.1
  · rw [a4 67 _ (by decide) (by decide) (by decide) (by decide)]; exact h0.2.2
theorem S1x.gu (h4 : m < 4) (h : S1x m j σ σ1) (hX : σ1.2.2.1.length < 900) (h0 : Bg0 m j k σ) (h2 : k ≠ 2) : GU m j σ σ1 ∧ ∃ Y, σ1.2.2.1 = σ.2.2.1 ++ Y := by
  obtain ⟨a1, Y, a2, a3, a4, a5, a6, a7⟩ := h
  have e58 := a7 58 (40 * m + j) (by decide) (by decide) (by decide)
  have e67 := (a7 67 (40 * m + j) (by decide) (by decide) (by decide)).trans h0.2.2
  rw [a3, List.length_append] at hX
  have q := usI_new (Z := []) h4 hX a2 a5 a6
  rw [List.append_nil, ← a3] at q
  refine ⟨⟨?_, ?_, q.2, Or.inl e67⟩, Y, a3⟩
  · unfold gvK; rw [e58, if_neg (fun z => h2 (so15 (h0.1.symm.trans z))), Int32.or_zero]; exact a1
  · unfold uvK
    rw [q.1]
    unfold usI
    rw [if_pos e67, Int32.or_zero]
    exact a4
end
