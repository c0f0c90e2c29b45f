/-! what parts give and use: leaves, heads, tails, whole -/
section
variable {b : Nat → Int32} {n m : Nat} {τ : Td} {j i o f1 f2 fo x aw lit y : Nat} {k : Int32} {w : Int64} {K : List KE} {σ σ1 σ2 : PS}
theorem lf_u (h4 : m < 4) (hv : HvT τ) {r : Nat × PS × Nat} (e : lfM b n m τ k w j i K σ = .ok r) (hX : r.2.1.2.2.1.length < 900) (h0 : Bg0 m j k σ) (h60 : k = 2 → σ.1.2.1 60 (40 * m + j) = oi (fd τ.2.2.2.1 w)) : GU m j σ r.2.1 ∧ ∃ Y, r.2.1.2.2.1 = σ.2.2.1 ++ Y := by
  unfold lfM at e
  by_cases k1 : k = 38
  · rw [if_pos k1] at e; cases e; exact Nx.rf.tree.gu h0 (by rw [k1]; decide)
  rw [if_neg k1] at e
  by_cases k2 : k = 39
  · rw [if_pos k2] at e; cases e; exact Nx.rf.tree.gu h0 (by rw [k2]; decide)
  rw [if_neg k2] at e
  by_cases k3 : k = 40
  · rw [if_pos k3] at e
    obtain ⟨y, e1, e⟩ := bind_ok e
    cases e
    rcases em_n hv e1 with q | q
    · exact q.tree.gu h0 (by rw [k3]; decide)
    · exact S1x.gu (σ1 := trP1 y.2.1 (emT (trS y.2.1) y.2.2).1) h4 q hX h0 (by rw [k3]; decide)
  rw [if_neg k3] at e
  by_cases k4 : k = 41
  · rw [if_pos k4] at e
    obtain ⟨y, e1, e⟩ := bind_ok e
    cases e
    rcases em_n hv e1 with q | q
    · exact q.tree.gu h0 (by rw [k4]; decide)
    · exact S1x.gu (σ1 := trP1 y.2.1 (stT (trS y.2.1) y.2.2).1) h4 q hX h0 (by rw [k4]; decide)
  rw [if_neg k4] at e
  by_cases k5 : k = 47
  · rw [if_pos k5] at e
    obtain ⟨y, e1, e⟩ := bind_ok e
    cases e
    exact (at_n e1).tree.gu h0 (by rw [k5]; decide)
  rw [if_neg k5] at e
  by_cases k6 : k = 57
  · rw [if_pos k6] at e
    by_cases h1 : tK b n i = 2
    · rw [if_pos h1] at e
      cases h2 : trW K (tC b n i) with
      | none => rw [h2] at e; cases e
      | some q =>
        rw [h2] at e
        obtain ⟨i2, -, e⟩ := bind_ok e
        cases e
        have z : Nx σ (raP σ (up2 σ.1.2.1 60 (40 * m + j) (Int32.ofNat q.2))) := ⟨rfl, rfl, rfl, fun c x z1 _ _ _ => up2_ne (fun z => z1 z.1)⟩
        exact z.tree.gu h0 (by rw [k6]; decide)
    · rw [if_neg h1] at e; cases e
  rw [if_neg k6] at e
  by_cases k7 : k = 2
  · rw [if_pos k7] at e
    obtain ⟨i2, -, e⟩ := bind_ok e
    obtain ⟨y, e1, e⟩ := bind_ok e
    obtain ⟨q1, Y, q2, q3, q4, q5⟩ := su_u hv e1
    cases e
    have q1 : giS y.2 = giS σ ||| ((1 : Int32) <<< (oi (fd τ.2.2.2.1 w) &&& 31)) := q1
    have q3 : y.2.2.2.1 = σ.2.2.1 ++ Y := q3
    have q4 : usS y.2 = usS σ ||| usX Y := q4
    have q5 : y.2.1.2.1 = up2 (up2 σ.1.2.1 64 (40 * m + j) (Int32.ofNat (810 * m + σ.2.2.1.length))) 65 (40 * m + j) (Int32.ofNat (810 * m + (σ.2.2.1.length + Y.length - 1))) := q5
    have hX : y.2.2.2.1.length < 900 := hX
    have hX2 : σ.2.2.1.length + Y.length < 900 := by rw [q3, List.length_append] at hX; exact hX
    have f : ∀ c x, c ≠ 64 → c ≠ 65 → y.2.1.2.1 c x = σ.1.2.1 c x := fun c x z1 z2 => by rw [q5, up2_ne (fun z => z2 z.1), up2_ne (fun z => z1 z.1)]
    have a64 : y.2.1.2.1 64 (40 * m + j) = Int32.ofNat (810 * m + σ.2.2.1.length) := by rw [q5, up2_ne (fun z => absurd z.1 (by decide))]; exact up2_eq
    have a65 : y.2.1.2.1 65 (40 * m + j) = Int32.ofNat (810 * m + (σ.2.2.1.length + Y.length - 1)) := by rw [q5]; exact up2_eq
    have e58 := (f 58 (40 * m + j) (by decide) (by decide)).trans h0.1
    have e60 := (f 60 (40 * m + j) (by decide) (by decide)).trans (h60 k7)
    have e67 := (f 67 (40 * m + j) (by decide) (by decide)).trans h0.2.2
    have q := usI_new (Z := []) h4 hX2 q2 a64 a65
    rw [List.append_nil, ← q3] at q
    have gz : gvK y.2.1.2.1 m j = (1 : Int32) <<< (oi (fd τ.2.2.2.1 w) &&& 31) := by
      unfold gvK
      rw [e58, e60, k7, if_pos (by decide)]
    have uz : uvK y.2.1.2.1 y.2.2.2.1 m j = usX Y := by
      unfold uvK
      rw [q.1]
      unfold usI
      rw [if_pos e67, Int32.or_zero]
    exact ⟨⟨by show giS y.2 = giS σ ||| gvK y.2.1.2.1 m j; rw [gz]; exact q1, by show usS y.2 = usS σ ||| uvK y.2.1.2.1 y.2.2.2.1 m j; rw [uz]; exact q4, q.2, Or.inl e67⟩, Y, q3⟩
  rw [if_neg k7] at e
  cases e; exact Nx.rf.tree.gu h0 k7
/-- a tail: masks, sums and most cells as they were -/
def Tg (σ σ' : PS) : Prop := giS σ' = giS σ ∧ usS σ' = usS σ ∧ σ'.2.2.1 = σ.2.2.1 ∧ ∀ c x, ¬ (61 ≤ c ∧ c ≤ 63) → σ'.1.2.1 c x = σ.1.2.1 c x
theorem Tg.rf : Tg σ σ := ⟨rfl, rfl, rfl, fun _ _ _ => rfl⟩
theorem Tg.tree {T : TrT} (h : Tg σ σ1) : Tg σ (trP1 σ1 T) := h
theorem Tg.pa {f : Nat} {v : Int32} (h : Tg σ σ1) : Tg σ (paP σ1 j f v) := h
theorem co_g {r : Nat × PS × Nat} (e : coM b n m τ j i o σ = .ok r) : Tg σ r.2.1 := by
  unfold coM at e
  obtain ⟨x, -, e⟩ := bind_ok e
  cases e
  refine ⟨rfl, rfl, rfl, fun c x h1 => ?_⟩
  show up2 (up2 σ.1.2.1 62 _ _) 63 _ _ c x = _
  rw [up2_ne (fun z => h1 (by omega)), up2_ne (fun z => h1 (by omega))]
theorem at_g {r : Nat × PS × Nat × Bool} (e : atM b n m τ j i o σ = .ok r) : Tg σ r.2.1 := by
  unfold atM at e
  obtain ⟨x, -, e⟩ := bind_ok e
  obtain ⟨y, e1, e⟩ := bind_ok e
  cases e
  have q := co_g e1
  by_cases h : x.2 = true
  · rw [if_pos h] at q
    exact ⟨q.1, q.2.1, q.2.2.1, fun c z h1 => (q.2.2.2 c z h1).trans (by show up2 σ.1.2.1 61 _ _ c z = _; exact up2_ne (fun z => h1 (by omega)))⟩
  · rw [if_neg h] at q; exact q
theorem tl_g {r : Nat × PS × Nat} (e : tlM b n m τ k j aw lit x i o σ = .ok r) : Tg σ r.2.1 := by
  unfold tlM at e
  by_cases k1 : k = 42
  · rw [if_pos k1] at e
    obtain ⟨i2, -, e⟩ := bind_ok e
    cases e
    by_cases h1 : (trS σ).2.2 13 x &&& 1 = 0
    · rw [if_pos h1]; exact Tg.rf.tree
    · rw [if_neg h1]; exact Tg.rf.pa.tree
  rw [if_neg k1] at e
  by_cases k2 : k = 49
  · rw [if_pos k2] at e
    obtain ⟨i2, -, e⟩ := bind_ok e
    obtain ⟨y, e1, e⟩ := bind_ok e
    obtain ⟨i3, -, e⟩ := bind_ok e
    have g := at_g e1
    by_cases h1 : y.2.2.2 = true
    · rw [if_pos h1] at e; cases e; exact g.tree
    · rw [if_neg h1] at e; cases e; exact g.tree
  rw [if_neg k2] at e
  by_cases k3 : k = 50
  · rw [if_pos k3] at e
    obtain ⟨i2, -, e⟩ := bind_ok e
    obtain ⟨y, e1, e⟩ := bind_ok e
    obtain ⟨i3, -, e⟩ := bind_ok e
    cases e
    exact (at_g e1).tree
  rw [if_neg k3] at e
  by_cases k4 : k = 52
  · rw [if_pos k4] at e
    obtain ⟨i2, -, e⟩ := bind_ok e
    obtain ⟨y, e1, e⟩ := bind_ok e
    obtain ⟨i3, -, e⟩ := bind_ok e
    cases e
    exact (co_g e1).tree
  rw [if_neg k4] at e
  by_cases k5 : k = 53
  · rw [if_pos k5] at e
    obtain ⟨i2, -, e⟩ := bind_ok e
    cases e
    exact Tg.rf.tree
  rw [if_neg k5] at e
  obtain ⟨i2, -, e⟩ := bind_ok e
  cases e
  exact Tg.rf.tree
end
