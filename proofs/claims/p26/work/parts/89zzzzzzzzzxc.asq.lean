/-! what is asked for before and the outputs: both sides alike -/
section
variable {τ : Td} {m : Nat} {σ : PS} {root : Nat} {γ : Gh} {g0 n0 gw : Nat} {Z0 P : Nat → Nat → Int32} {zp : Int32} {Ψ1 Ψ2 : Wg} {M : Mem}
theorem pq_iff {Y : List Cd} {k : Nat} : pq Y k = true ↔ ∃ d ∈ Y, d.1 = 1 ∧ d.2.1 = k := by
  unfold pq
  rw [List.any_eq_true]
  constructor
  · rintro ⟨d, h1, h2⟩
    exact ⟨d, h1, of_decide_eq_true h2⟩
  · rintro ⟨d, h1, h2⟩
    exact ⟨d, h1, decide_eq_true h2⟩
theorem as_eq (h : MdW τ m σ root γ g0 n0 gw Z0 P zp Ψ1 Ψ2) (h16 : τ.1.length ≤ 16) (hY : ∀ k, k < τ.1.length → mAI M 40 (16 * m + k) = if pq σ.2.2.2 k = true then 1 else 0) : asM M m τ.1.length = asS σ := by
  obtain ⟨l1, l2, l3, l4⟩ := h.ln
  obtain ⟨hE, hX, -, -, -, -, -, -, big, -⟩ := id h
  have bd : ∀ s, σ.2.1.2.2.2.1 s < 2147483648 := fun s => by
    by_cases z : σ.2.1.2.2.2.1 s = 0
    · omega
    · obtain ⟨b1, b2, b3⟩ := hE.1.2.1.1.2.2.2 s z
      omega
  have z0 : ∀ s, τ.1.length ≤ s → σ.2.1.2.2.2.1 s = 0 := hX.2.2.2.2.1.2.1
  have bf := hX.2.2.2.2.2.2.2
  have i0 : ∀ s, Int32.ofNat (σ.2.1.2.2.2.1 s) = 0 ↔ σ.2.1.2.2.2.1 s = 0 := fun s => ⟨fun e => inj32 (bd s) (by decide) e, fun e => by rw [e]; rfl⟩
  unfold asS
  have e16 : (16 : Nat) = τ.1.length + (16 - τ.1.length) := by omega
  rw [e16, shM_more (16 - τ.1.length) (fun k h1 _ => by rw [z0 k h1]; decide)]
  refine shM_cg _ (fun k hk => ?_)
  show decide (¬ mAI M 40 (16 * m + k) = 0) = decide (¬ Int32.ofNat (σ.2.1.2.2.2.1 k) = 0)
  refine decide_eq_decide.mpr ?_
  rw [hY k hk, i0 k]
  by_cases z : pq σ.2.2.2 k = true
  · rw [if_pos z]
    exact ⟨fun _ => (bf k).mpr (pq_iff.mp z), fun _ => by decide⟩
  · rw [if_neg z]
    exact ⟨fun y => absurd rfl y, fun y => absurd (pq_iff.mpr ((bf k).mp y)) z⟩
theorem ou_eq (hl : τ.2.1.length = τ.1.length) (hR : ∀ k, k < τ.2.1.length → mAI M 38 (16 * m + k) = τ.2.1.getD k 0 - 30) : ouM M m τ.1.length = omk τ.2.1 := by
  have main : ∀ n, n ≤ τ.2.1.length → ouM M m n = (List.range n).foldl (fun a k => if τ.2.1.getD k 0 = 31 then a ||| ((1 : Int32) <<< (Int32.ofNat k &&& 31)) else a) 0 := by
    intro n
    induction n with
    | zero => intro _; rfl
    | succ n ih =>
      intro hn
      rw [List.range_succ, List.foldl_append]
      show ouM M m (n + 1) = if τ.2.1.getD n 0 = 31 then _ else _
      rw [← ih (by omega)]
      have e := hR n (by omega)
      by_cases z : τ.2.1.getD n 0 = 31
      · rw [if_pos z]
        exact ouM_y (by rw [e]; exact s30_1.mpr z)
      · rw [if_neg z, ouM_n (by rw [e]; exact fun y => z (s30_1.mp y)), Int32.or_zero]
  rw [← hl]
  exact main _ (Nat.le_refl _)
end
