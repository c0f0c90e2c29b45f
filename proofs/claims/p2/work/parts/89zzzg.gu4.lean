/-! what parts give and use: heads -/
section
variable {b : Nat → Int32} {n m : Nat} {τ : Td} {j i : Nat} {k : Int32} {K : List KE} {σ σ1 σ2 : PS}
/-- the head of an if: two sums -/
theorem if_v (h4 : m < 4) {Y1 Y2 : List Nd} {t : Int32} (h0 : Bg0 m j k σ) (h2 : k ≠ 2) (n1 : NeY σ.2.2.1 Y1) (n2 : NeY (σ.2.2.1 ++ Y1) Y2) (eX : σ1.2.2.1 = σ.2.2.1 ++ Y1 ++ Y2) (hX : σ1.2.2.1.length < 900) (eg : giS σ1 = giS σ) (eu : usS σ1 = usS σ ||| usX Y1 ||| usX Y2) (eA : σ1.1.2.1 = up2 (up2 (up2 (up2 (up2 σ.1.2.1 64 (40 * m + j) (Int32.ofNat (810 * m + σ.2.2.1.length))) 65 (40 * m + j) (Int32.ofNat (810 * m + (σ.2.2.1.length + Y1.length - 1)))) 68 (40 * m + j) t) 66 (40 * m + j) (Int32.ofNat (810 * m + (σ.2.2.1 ++ Y1).length))) 67 (40 * m + j) (Int32.ofNat (810 * m + ((σ.2.2.1 ++ Y1).length + Y2.length - 1)))) : GU m j σ σ1 ∧ ∃ Y, σ1.2.2.1 = σ.2.2.1 ++ Y := by
  have hX2 : (σ.2.2.1 ++ Y1).length + Y2.length < 900 := by rw [eX, List.length_append] at hX; exact hX
  have hX1 : σ.2.2.1.length + Y1.length < 900 := by rw [List.length_append] at hX2; omega
  have a58 : σ1.1.2.1 58 (40 * m + j) = Int32.ofNat (soK k) := by
    rw [eA, up2_ne (fun z => absurd z.1 (by decide)), up2_ne (fun z => absurd z.1 (by decide)), up2_ne (fun z => absurd z.1 (by decide)), up2_ne (fun z => absurd z.1 (by decide)), up2_ne (fun z => absurd z.1 (by decide))]; exact h0.1
  have a64 : σ1.1.2.1 64 (40 * m + j) = Int32.ofNat (810 * m + σ.2.2.1.length) := by
    rw [eA, up2_ne (fun z => absurd z.1 (by decide)), up2_ne (fun z => absurd z.1 (by decide)), up2_ne (fun z => absurd z.1 (by decide)), up2_ne (fun z => absurd z.1 (by decide))]; exact up2_eq
  have a65 : σ1.1.2.1 65 (40 * m + j) = Int32.ofNat (810 * m + (σ.2.2.1.length + Y1.length - 1)) := by
    rw [eA, up2_ne (fun z => absurd z.1 (by decide)), up2_ne (fun z => absurd z.1 (by decide)), up2_ne (fun z => absurd z.1 (by decide))]; exact up2_eq
  have a66 : σ1.1.2.1 66 (40 * m + j) = Int32.ofNat (810 * m + (σ.2.2.1 ++ Y1).length) := by
    rw [eA, up2_ne (fun z => absurd z.1 (by decide))]; exact up2_eq
  have a67 : σ1.1.2.1 67 (40 * m + j) = Int32.ofNat (810 * m + ((σ.2.2.1 ++ Y1).length + Y2.length - 1)) := by
    rw [eA]; exact up2_eq
  have q1 := usI_new (Z := Y2) h4 hX1 n1 a64 a65
  have q2 := usI_new (Z := []) h4 hX2 n2 a66 a67
  rw [List.append_nil] at q2
  rw [← eX] at q1 q2
  refine ⟨⟨?_, ?_, q1.2, q2.2⟩, Y1 ++ Y2, by rw [eX, List.append_assoc]⟩
  · unfold gvK; rw [a58, if_neg (fun z => h2 (so15 z)), Int32.or_zero]; exact eg
  · unfold uvK; rw [q1.1, q2.1, ← Int32.or_assoc]; exact eu
theorem hd_u (h4 : m < 4) (hv : HvT τ) {r : Nat × PS × Nat × Bool × Nat × Option Int64} (e : hdM b n m τ k j i K σ = .ok r) (hX : r.2.1.2.2.1.length < 900) (h0 : Bg0 m j k σ) (hk : k ≠ 2) : GU m j σ r.2.1 ∧ ∃ Y, r.2.1.2.2.1 = σ.2.2.1 ++ Y := by
  unfold hdM at e
  by_cases k1 : k = 44
  · rw [if_pos k1] at e
    obtain ⟨y, e1, e⟩ := bind_ok e
    obtain ⟨i2, -, e⟩ := bind_ok e
    have q := co_n e1
    cases e; exact q.gu h0 hk
  rw [if_neg k1] at e
  by_cases k2 : k = 49
  · rw [if_pos k2] at e; cases e; exact Nx.rf.gu h0 hk
  rw [if_neg k2] at e
  by_cases k3 : k = 50
  · rw [if_pos k3] at e
    obtain ⟨i2, -, e⟩ := bind_ok e
    cases e; exact Nx.rf.gu h0 hk
  rw [if_neg k3] at e
  by_cases k4 : k = 53
  · rw [if_pos k4] at e
    obtain ⟨y, e1, e⟩ := bind_ok e
    obtain ⟨i2, -, e⟩ := bind_ok e
    cases e; exact (at_n e1).tree.gu h0 hk
  rw [if_neg k4] at e
  by_cases k5 : k = 55
  · rw [if_pos k5] at e
    by_cases h1 : tK b n i = 2
    · rw [if_pos h1] at e
      by_cases h2 : toT (tC b n i) τ = true ∨ (trW K (tC b n i)).isSome = true
      · rw [if_pos h2] at e; cases e
      rw [if_neg h2] at e
      obtain ⟨i2, -, e⟩ := bind_ok e
      obtain ⟨i3, -, e⟩ := bind_ok e
      cases e
      have z : Nx σ ((σ.1.1, σ.1.2.1, va_up σ.1.2.2 (40 * m + j) (rV b n (tP b n i))), σ.2) := ⟨rfl, rfl, rfl, fun _ _ _ _ _ _ => rfl⟩
      exact z.gu h0 hk
    · rw [if_neg h1] at e; cases e
  rw [if_neg k5] at e
  by_cases k6 : k = 58
  · rw [if_pos k6] at e
    obtain ⟨y, e1, e⟩ := bind_ok e
    obtain ⟨p1, Y1, p2, p3, p4, p5⟩ := su_u hv e1
    by_cases h1 : 7 ≤ tK b n y.1 ∧ tK b n y.1 ≤ 12
    · rw [if_pos h1] at e
      obtain ⟨i2, -, e⟩ := bind_ok e
      obtain ⟨z, e2, e⟩ := bind_ok e
      obtain ⟨i3, -, e⟩ := bind_ok e
      obtain ⟨q1, Y2, q2, q3, q4, q5⟩ := su_u hv e2
      have p1 : giS y.2 = giS σ := p1
      have p3 : y.2.2.2.1 = σ.2.2.1 ++ Y1 := p3
      have p4 : usS y.2 = usS σ ||| usX Y1 := p4
      have p5 : y.2.1.2.1 = up2 (up2 σ.1.2.1 64 (40 * m + j) (Int32.ofNat (810 * m + σ.2.2.1.length))) 65 (40 * m + j) (Int32.ofNat (810 * m + (σ.2.2.1.length + Y1.length - 1))) := p5
      have q1 : giS z.2 = giS y.2 := q1
      have q3 : z.2.2.2.1 = y.2.2.2.1 ++ Y2 := q3
      have q4 : usS z.2 = usS y.2 ||| usX Y2 := q4
      have q5 : z.2.1.2.1 = up2 (up2 (up2 y.2.1.2.1 68 (40 * m + j) (tK b n y.1 - 7)) 66 (40 * m + j) (Int32.ofNat (810 * m + y.2.2.2.1.length))) 67 (40 * m + j) (Int32.ofNat (810 * m + (y.2.2.2.1.length + Y2.length - 1))) := q5
      have q2 : NeY y.2.2.2.1 Y2 := q2
      have p2 : NeY σ.2.2.1 Y1 := p2
      rw [p3] at q2 q3 q5
      rw [p4] at q4
      rw [p5] at q5
      cases e
      have hX : z.2.2.2.1.length < 900 := hX
      have g := if_v (σ1 := z.2) h4 h0 hk p2 q2 q3 hX (q1.trans p1) q4 q5
      exact g
    · rw [if_neg h1] at e; cases e
  rw [if_neg k6] at e
  by_cases k7 : k = 17
  · rw [if_pos k7] at e
    cases e; exact Nx.rf.tree.gu h0 hk
  rw [if_neg k7] at e
  cases e; exact Nx.rf.gu h0 hk
end
