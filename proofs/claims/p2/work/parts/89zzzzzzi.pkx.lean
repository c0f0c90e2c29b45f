/-! the nodes of parts -/
section
variable {W : Wo} {m zn fn lo hi x j p pb : Nat} {k : Int32} {K : List KE} {ys : List Nat}
theorem pkS_in (h : PkS W m zn fn lo hi k K j p pb x ys) : lo ≤ x ∧ x < hi := by
  unfold PkS at h
  by_cases k1 : k = 38
  · rw [if_pos k1] at h; exact h.1.1
  rw [if_neg k1] at h
  by_cases k2 : k = 39
  · rw [if_pos k2] at h; obtain ⟨⟨y, h, -⟩, -⟩ := h; exact h.1
  rw [if_neg k2] at h
  by_cases k3 : k = 40
  · rw [if_pos k3] at h; obtain ⟨⟨v, -, h⟩, -⟩ := h; exact h.1
  rw [if_neg k3] at h
  by_cases k4 : k = 41
  · rw [if_pos k4] at h; obtain ⟨⟨v, -, sq, e, pa, h, -⟩, -⟩ := h; exact h.1
  rw [if_neg k4] at h
  by_cases k5 : k = 47
  · rw [if_pos k5] at h; obtain ⟨⟨l, im, -, -, y, h, -⟩, -⟩ := h; exact h.1
  rw [if_neg k5] at h
  by_cases k6 : k = 57
  · rw [if_pos k6] at h; obtain ⟨⟨v, e, -, -, -, h⟩, -⟩ := h; exact h.1
  rw [if_neg k6] at h
  by_cases k7 : k = 42
  · rw [if_pos k7] at h; obtain ⟨y, -, h⟩ := h; exact h.1
  rw [if_neg k7] at h
  by_cases k8 : k = 44
  · rw [if_pos k8] at h; obtain ⟨y, z, l, -, h, -⟩ := h; exact h.1
  rw [if_neg k8] at h
  by_cases k9 : k = 58
  · rw [if_pos k9] at h; obtain ⟨y, z, f, -, -, h, -⟩ := h; exact h.1
  rw [if_neg k9] at h
  have wk : ∀ {x y : Nat} {l : Int32} {im : Bool} {p : Nat}, wkS (woV W) lo hi x y l im p → lo ≤ x ∧ x < hi := fun q => by
    obtain ⟨par, sq, wa, ex, q, -⟩ := q
    exact q.1
  have ab : ∀ {x y : Nat} {l : Int32} {p : Nat}, abS (woV W) lo hi x y l p → lo ≤ x ∧ x < hi := fun q => by
    obtain ⟨y, -, q⟩ := q
    exact wk q
  by_cases k10 : k = 49
  · rw [if_pos k10] at h
    obtain ⟨y, l, im, -, -, -, h⟩ := h
    unfold aiS at h
    cases im with
    | true => rw [if_pos rfl] at h; obtain ⟨no, y, h, -⟩ := h; exact h.1
    | false => rw [if_neg (by decide)] at h; exact ab h
  rw [if_neg k10] at h
  by_cases k11 : k = 50
  · rw [if_pos k11] at h; obtain ⟨y, l, im, -, -, -, h⟩ := h; exact wk h
  rw [if_neg k11] at h
  by_cases k12 : k = 52
  · rw [if_pos k12] at h; obtain ⟨y, l, -, -, h⟩ := h; exact h.1
  rw [if_neg k12] at h
  by_cases k13 : k = 53
  · rw [if_pos k13] at h; obtain ⟨y, l, im, aw, -, -, -, -, lp, ab, sq, hq, h, -⟩ := h; exact h.1
  rw [if_neg k13] at h
  by_cases k14 : k = 55
  · rw [if_pos k14] at h; obtain ⟨y, -, h⟩ := h; exact h.1
  rw [if_neg k14] at h
  by_cases k15 : k = 17
  · rw [if_pos k15] at h; exact h.1
  rw [if_neg k15] at h
  exact h.1.1
end
theorem RdE.xs {τ : Td} {m root g0 : Nat} {σ : PS} {γ : Gh} (hE : RdE τ m σ root γ g0) : ∃ xs : Nat → Nat, ∀ j, j < npS σ → σ.2.1.1 j 1 = Int32.ofNat (xs j) ∧ 1 ≤ xs j ∧ xs j < (trS σ).1 := by
  obtain ⟨hg, hif, tt, ⟨n4, p24, np, r4⟩, hx, -⟩ := hE
  have h : ∀ j, ∃ x, j < npS σ → σ.2.1.1 j 1 = Int32.ofNat x ∧ 1 ≤ x ∧ x < (trS σ).1 := fun j => by
    by_cases z : j < npS σ
    · obtain ⟨k, K, p, pb, x, ys, ff, i2, pc, pk, -⟩ := TT.prt (np := npS σ) g0 0 _ _ _ _ _ _ _ _ _ _ _ _ _ _ (by decide) tt (Nat.le_refl _) (by omega) j (Nat.zero_le _) z
      have q := pkS_in pk
      exact ⟨x, fun _ => ⟨pc.2.2.2.2, q.1, q.2⟩⟩
    · exact ⟨0, fun y => absurd y z⟩
  exact Classical.axiomOfChoice h
