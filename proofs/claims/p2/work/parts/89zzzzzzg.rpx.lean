/-! no more nodes of sums than tokens: parts -/
/-- from token i to i', no more nodes come than tokens -/
def XlR (i : Nat) (σ : PS) (i' : Nat) (σ' : PS) : Prop := σ'.2.2.1.length + i ≤ σ.2.2.1.length + i'
section
variable {b : Nat → Int32} {n m : Nat} {τ : Td} {j i i1 i2 o f1 f2 fo x aw lit y : Nat} {k : Int32} {w : Int64} {K : List KE} {σ σ1 σ2 : PS}
theorem XlR.tr (h : XlR i σ i1 σ1) (g : XlR i1 σ1 i2 σ2) : XlR i σ i2 σ2 := by unfold XlR at *; omega
theorem XlR.sm (e : σ1.2.2.1 = σ.2.2.1) (hi : i ≤ i1) : XlR i σ i1 σ1 := by unfold XlR; rw [e]; omega
theorem su_l {r : Nat × PS} (e : suM b n m τ j f1 f2 fo i o σ = .ok r) : XlR i σ r.1 r.2 := by
  unfold suM at e
  obtain ⟨q, eq, e⟩ := bind_ok e
  cases e
  exact rd_xl _ _ _ _ _ _ _ eq
theorem co_l {r : Nat × PS × Nat} (e : coM b n m τ j i o σ = .ok r) : XlR i σ r.1 r.2.1 := by
  unfold coM at e
  obtain ⟨q, eq, e⟩ := bind_ok e
  cases e
  exact XlR.sm rfl (rc_le _ _ _ _ _ _ eq)
theorem im_l {r : Nat × Bool} (e : imM b n i = .ok r) : i ≤ r.1 := by
  unfold imM at e
  by_cases z : tK b n i = 48
  · rw [if_pos z] at e
    obtain ⟨q, eq, e⟩ := bind_ok e
    cases e
    have := adv_i eq
    show i ≤ q
    omega
  · rw [if_neg z] at e; cases e; exact Nat.le_refl _
theorem at_l {r : Nat × PS × Nat × Bool} (e : atM b n m τ j i o σ = .ok r) : XlR i σ r.1 r.2.1 := by
  unfold atM at e
  obtain ⟨q, eq, e⟩ := bind_ok e
  obtain ⟨y, e1, e⟩ := bind_ok e
  cases e
  have q1 := im_l eq
  have q2 := co_l e1
  by_cases h : q.2 = true
  · rw [if_pos h] at q2
    have q2 : XlR q.1 σ y.1 y.2.1 := q2
    unfold XlR at *; show y.2.1.2.2.1.length + i ≤ _ + y.1; omega
  · rw [if_neg h] at q2
    unfold XlR at *; show y.2.1.2.2.1.length + i ≤ _ + y.1; omega
theorem em_l {r : Nat × PS × Nat} (e : emM b n m τ k j i o σ = .ok r) : XlR i σ r.1 r.2.1 := by
  unfold emM at e
  by_cases h1 : tK b n i = 2
  · rw [if_pos h1] at e
    cases h2 : fd τ.1 (tC b n i) with
    | none => rw [h2] at e; cases e
    | some s =>
      rw [h2] at e
      have e : (if τ.2.1.getD s 0 = 30 then Except.error (4, tP b n i) else (adv' b n i).bind fun i2 => _) = .ok r := e
      by_cases h3 : τ.2.1.getD s 0 = 30
      · rw [if_pos h3] at e; cases e
      rw [if_neg h3] at e
      obtain ⟨i2, hi2, e⟩ := bind_ok e
      have a1 := adv_i hi2
      by_cases h4 : τ.2.2.1.getD s 0 = 0
      · rw [if_pos h4] at e
        by_cases h5 : k = 40 ∧ tK b n i2 = 15
        · rw [if_pos h5] at e; cases e
        · rw [if_neg h5] at e; cases e; exact XlR.sm rfl (by show i ≤ i2; omega)
      rw [if_neg h4] at e
      by_cases h5 : k = 40 ∧ tK b n i2 = 15
      · rw [if_pos h5] at e
        by_cases h6 : o = 15
        · rw [if_pos h6] at e; cases e
        rw [if_neg h6] at e
        obtain ⟨i3, hi3, e⟩ := bind_ok e
        obtain ⟨y, e1, e⟩ := bind_ok e
        obtain ⟨i4, hi4, e⟩ := bind_ok e
        cases e
        have a2 := adv_i hi3
        have a3 := ex_i hi4
        have q := su_l e1
        have q : XlR i3 σ y.1 y.2 := q
        unfold XlR at *
        show y.2.2.2.1.length + i ≤ _ + i4
        omega
      · rw [if_neg h5] at e; cases e
  · rw [if_neg h1] at e; cases e
theorem lf_l {r : Nat × PS × Nat} (e : lfM b n m τ k w j i K σ = .ok r) : XlR i σ r.1 r.2.1 := by
  unfold lfM at e
  by_cases k1 : k = 38
  · rw [if_pos k1] at e; cases e; exact XlR.sm rfl (Nat.le_refl _)
  rw [if_neg k1] at e
  by_cases k2 : k = 39
  · rw [if_pos k2] at e; cases e; exact XlR.sm rfl (Nat.le_refl _)
  rw [if_neg k2] at e
  by_cases k3 : k = 40
  · rw [if_pos k3] at e
    obtain ⟨y, e1, e⟩ := bind_ok e
    have q9 := em_l e1
    cases e; exact q9
  rw [if_neg k3] at e
  by_cases k4 : k = 41
  · rw [if_pos k4] at e
    obtain ⟨y, e1, e⟩ := bind_ok e
    have q9 := em_l e1
    cases e; exact q9
  rw [if_neg k4] at e
  by_cases k5 : k = 47
  · rw [if_pos k5] at e
    obtain ⟨y, e1, e⟩ := bind_ok e
    have q9 := at_l e1
    cases e; exact q9
  rw [if_neg k5] at e
  by_cases k6 : k = 57
  · rw [if_pos k6] at e
    by_cases h1 : tK b n i = 2
    · rw [if_pos h1] at e
      cases h2 : trW K (tC b n i) with
      | none => rw [h2] at e; cases e
      | some q =>
        rw [h2] at e
        obtain ⟨i2, hi2, e⟩ := bind_ok e
        cases e
        have := adv_i hi2
        exact XlR.sm rfl (by show i ≤ i2; omega)
    · rw [if_neg h1] at e; cases e
  rw [if_neg k6] at e
  by_cases k7 : k = 2
  · rw [if_pos k7] at e
    obtain ⟨i2, hi2, e⟩ := bind_ok e
    obtain ⟨y, e1, e⟩ := bind_ok e
    have a1 := ex_i hi2
    have q9 := su_l e1
    have q : XlR i2 σ y.1 y.2 := q9
    cases e
    unfold XlR at *
    show y.2.2.2.1.length + i ≤ _ + y.1
    omega
  rw [if_neg k7] at e
  cases e; exact XlR.sm rfl (Nat.le_refl _)
theorem hd_l {r : Nat × PS × Nat × Bool × Nat × Option Int64} (e : hdM b n m τ k j i K σ = .ok r) : XlR i σ r.1 r.2.1 := by
  unfold hdM at e
  by_cases k1 : k = 44
  · rw [if_pos k1] at e
    obtain ⟨y, e1, e⟩ := bind_ok e
    obtain ⟨i2, hi2, e⟩ := bind_ok e
    have q := co_l e1
    have a1 := ex_i hi2
    cases e
    unfold XlR at *; show y.2.1.2.2.1.length + i ≤ _ + i2; omega
  rw [if_neg k1] at e
  by_cases k2 : k = 49
  · rw [if_pos k2] at e; cases e; exact XlR.sm rfl (Nat.le_refl _)
  rw [if_neg k2] at e
  by_cases k3 : k = 50
  · rw [if_pos k3] at e
    obtain ⟨i2, hi2, e⟩ := bind_ok e
    have a1 := ex_i hi2
    cases e; exact XlR.sm rfl (by show i ≤ i2; omega)
  rw [if_neg k3] at e
  by_cases k4 : k = 53
  · rw [if_pos k4] at e
    obtain ⟨y, e1, e⟩ := bind_ok e
    obtain ⟨i2, hi2, e⟩ := bind_ok e
    have q := at_l e1
    have a1 := ex_i hi2
    cases e
    unfold XlR at *; show y.2.1.2.2.1.length + i ≤ _ + i2; omega
  rw [if_neg k4] at e
  by_cases k5 : k = 55
  · rw [if_pos k5] at e
    by_cases h1 : tK b n i = 2
    · rw [if_pos h1] at e
      by_cases h2 : toT (tC b n i) τ = true ∨ (trW K (tC b n i)).isSome = true
      · rw [if_pos h2] at e; cases e
      rw [if_neg h2] at e
      obtain ⟨i2, hi2, e⟩ := bind_ok e
      obtain ⟨i3, hi3, e⟩ := bind_ok e
      have a1 := adv_i hi2
      have a2 := ex_i hi3
      cases e; exact XlR.sm rfl (by show i ≤ i3; omega)
    · rw [if_neg h1] at e; cases e
  rw [if_neg k5] at e
  by_cases k6 : k = 58
  · rw [if_pos k6] at e
    obtain ⟨y, e1, e⟩ := bind_ok e
    have q9 := su_l e1
    have q : XlR i σ y.1 y.2 := q9
    by_cases h1 : 7 ≤ tK b n y.1 ∧ tK b n y.1 ≤ 12
    · rw [if_pos h1] at e
      obtain ⟨i2, hi2, e⟩ := bind_ok e
      obtain ⟨z, e2, e⟩ := bind_ok e
      obtain ⟨i3, hi3, e⟩ := bind_ok e
      have a1 := adv_i hi2
      have a2 := ex_i hi3
      have q8 := su_l e2
      have q2 : XlR i2 y.2 z.1 z.2 := q8
      cases e
      unfold XlR at *; show z.2.2.2.1.length + i ≤ _ + i3; omega
    · rw [if_neg h1] at e; cases e
  rw [if_neg k6] at e
  by_cases k7 : k = 17
  · rw [if_pos k7] at e
    cases e; exact XlR.sm rfl (Nat.le_refl _)
  rw [if_neg k7] at e
  cases e; exact XlR.sm rfl (Nat.le_refl _)
theorem tl_l {r : Nat × PS × Nat} (e : tlM b n m τ k j aw lit x i o σ = .ok r) : XlR i σ r.1 r.2.1 := by
  unfold tlM at e
  by_cases k1 : k = 42
  · rw [if_pos k1] at e
    obtain ⟨i2, hi2, e⟩ := bind_ok e
    have a1 := ex_i hi2
    cases e
    by_cases h1 : (trS σ).2.2 13 x &&& 1 = 0
    · rw [if_pos h1]; exact XlR.sm rfl (by show i ≤ i2; omega)
    · rw [if_neg h1]; exact XlR.sm rfl (by show i ≤ i2; omega)
  rw [if_neg k1] at e
  by_cases k2 : k = 49
  · rw [if_pos k2] at e
    obtain ⟨i2, hi2, e⟩ := bind_ok e
    obtain ⟨y, e1, e⟩ := bind_ok e
    obtain ⟨i3, hi3, e⟩ := bind_ok e
    have a1 := ex_i hi2
    have a2 := ex_i hi3
    have g := at_l e1
    by_cases h1 : y.2.2.2 = true
    · rw [if_pos h1] at e
      cases e
      unfold XlR at *; show y.2.1.2.2.1.length + i ≤ _ + i3; omega
    · rw [if_neg h1] at e
      cases e
      unfold XlR at *; show y.2.1.2.2.1.length + i ≤ _ + i3; omega
  rw [if_neg k2] at e
  by_cases k3 : k = 50
  · rw [if_pos k3] at e
    obtain ⟨i2, hi2, e⟩ := bind_ok e
    obtain ⟨y, e1, e⟩ := bind_ok e
    obtain ⟨i3, hi3, e⟩ := bind_ok e
    have a1 := ex_i hi2
    have a2 := ex_i hi3
    have g := at_l e1
    cases e
    unfold XlR at *; show y.2.1.2.2.1.length + i ≤ _ + i3; omega
  rw [if_neg k3] at e
  by_cases k4 : k = 52
  · rw [if_pos k4] at e
    obtain ⟨i2, hi2, e⟩ := bind_ok e
    obtain ⟨y, e1, e⟩ := bind_ok e
    obtain ⟨i3, hi3, e⟩ := bind_ok e
    have a1 := ex_i hi2
    have a2 := ex_i hi3
    have g := co_l e1
    cases e
    unfold XlR at *; show y.2.1.2.2.1.length + i ≤ _ + i3; omega
  rw [if_neg k4] at e
  by_cases k5 : k = 53
  · rw [if_pos k5] at e
    obtain ⟨i2, hi2, e⟩ := bind_ok e
    have a1 := ex_i hi2
    cases e; exact XlR.sm rfl (by show i ≤ i2; omega)
  rw [if_neg k5] at e
  obtain ⟨i2, hi2, e⟩ := bind_ok e
  have a1 := ex_i hi2
  cases e; exact XlR.sm rfl (by show i ≤ i2; omega)
theorem ch_l {r : Nat × PS × Nat} (e : chM b n lit x y i σ = .ok r) : XlR i σ r.1 r.2.1 := by
  unfold chM at e
  obtain ⟨i2, hi2, e⟩ := bind_ok e
  have a1 := ex_i hi2
  cases e
  exact XlR.sm rfl (by show i ≤ i2; omega)
theorem br_l {j a x : Nat} {g u : Int32} : (brP σ j a x g u).2.2.1 = σ.2.2.1 := by
  unfold brP
  split <;> rfl
theorem rp_xl : ∀ (g md : Nat) (K : List KE) (i : Nat) (σ : PS) (a1 a2 a3 a4 : Nat) (c1 c2 : Int32) (r : Nat × PS × Nat), md ≤ 3 → rp b n m τ g md K i σ a1 a2 a3 a4 c1 c2 = .ok r → XlR i σ r.1 r.2.1 := by
  intro g
  induction g with
  | zero => intro md K i σ a1 a2 a3 a4 c1 c2 r _ e; unfold rp at e; cases e
  | succ g ih =>
    intro md K i σ a1 a2 a3 a4 c1 c2 r hm e
    by_cases m2 : md = 2
    · subst m2
      rw [rp_bd] at e
      obtain ⟨u0, -, e⟩ := bind_ok e
      obtain ⟨i1, hi1, e⟩ := bind_ok e
      obtain ⟨u, eb, e⟩ := bind_ok e
      cases e
      have a1 := adv_i hi1
      show XlR i σ u.1 u.2.1
      have q0 : XlR i σ i1 (bgP m (tK b n i) (tP b n i) (sqK K) K.length (whK (tK b n i) (tC b n i) τ) σ) := XlR.sm rfl (by omega)
      generalize tK b n i = k at eb q0
      generalize tC b n i = w at eb q0
      generalize npS σ = j at eb
      generalize bgP m k (tP b n i) (sqK K) K.length (whK k w τ) σ = s0 at eb q0
      refine q0.tr ?_
      unfold bdM at eb
      by_cases ko : opnK k = false
      · rw [if_pos ko] at eb
        exact lf_l eb
      rw [if_neg ko] at eb
      obtain ⟨h, eh, eb⟩ := bind_ok eb
      have q2 := hd_l eh
      by_cases k17 : k = 17
      · rw [if_pos k17] at eb
        obtain ⟨q, e1, eb⟩ := bind_ok eb
        cases eb
        have q3 := ih 3 _ _ _ _ _ _ _ _ _ q (by decide) e1
        exact q2.tr q3
      rw [if_neg k17] at eb
      obtain ⟨q, e1, eb⟩ := bind_ok eb
      have q3 := ih 0 _ _ _ _ _ _ _ _ _ q (by decide) e1
      have hq : XlR i1 s0 q.1 q.2.1 := q2.tr q3
      by_cases k4 : k = 44 ∨ k = 58
      · rw [if_pos k4] at eb
        by_cases k46 : tK b n q.1 = 46
        · rw [if_pos k46] at eb
          obtain ⟨i2, hi2, eb⟩ := bind_ok eb
          obtain ⟨t, e2, eb⟩ := bind_ok eb
          have a2 := adv_i hi2
          have q4 := ih 0 _ _ _ _ _ _ _ _ _ t (by decide) e2
          have q5 : XlR q.1 q.2.1 t.1 t.2.1 := XlR.tr (i1 := i2) (XlR.sm rfl (by omega)) q4
          exact (hq.tr q5).tr (ch_l eb)
        · rw [if_neg k46] at eb
          have c1 : XlR q.1 q.2.1 q.1 (trP1 q.2.1 (mkT (trS q.2.1) 0).1) := XlR.sm rfl (Nat.le_refl _)
          exact (hq.tr c1).tr (ch_l eb)
      rw [if_neg k4] at eb
      exact hq.tr (tl_l eb)
    by_cases m0 : md = 0
    · subst m0
      unfold rp at e
      rw [if_pos rfl] at e
      obtain ⟨q, e1, e⟩ := bind_ok e
      have q1 := ih 2 _ _ _ _ _ _ _ _ _ q (by decide) e1
      have q2 := ih 1 _ _ _ _ _ _ _ _ _ r (by decide) e
      have q1 : XlR i σ q.1 q.2.1 := q1
      have q2 : XlR q.1 q.2.1 r.1 r.2.1 := q2
      exact q1.tr q2
    by_cases m1 : md = 1
    · subst m1
      unfold rp at e
      rw [if_neg (by decide), if_pos rfl] at e
      by_cases h13 : tK b n i = 13
      · rw [if_pos h13] at e
        obtain ⟨j, hj, e⟩ := bind_ok e
        obtain ⟨q, e1, e⟩ := bind_ok e
        have a1 := adv_i hj
        have q1 := ih 2 _ _ _ _ _ _ _ _ _ q (by decide) e1
        have q2 := ih 1 _ _ _ _ _ _ _ _ _ r (by decide) e
        have q2 : XlR q.1 q.2.1 r.1 r.2.1 := q2
        have q0 : XlR i σ j σ := XlR.sm rfl (by omega)
        exact (q0.tr q1).tr q2
      · rw [if_neg h13] at e; cases e; exact XlR.sm rfl (Nat.le_refl _)
    · have m3 : md = 3 := by omega
      subst m3
      unfold rp at e
      rw [if_neg m0, if_neg m1, if_neg m2] at e
      obtain ⟨q, e1, e⟩ := bind_ok e
      have hq := ih 0 _ _ _ _ _ _ _ _ _ q (by decide) e1
      have bn := br_l (σ := q.2.1) (j := a2) (a := a1) (x := q.2.2) (g := c1) (u := c2)
      by_cases h6 : tK b n q.1 = 6
      · rw [if_pos h6] at e
        by_cases h8 : a4 = 8
        · rw [if_pos h8] at e; cases e
        rw [if_neg h8] at e
        obtain ⟨j, hj, e⟩ := bind_ok e
        have a1' := adv_i hj
        have q9 := ih 3 _ _ _ _ _ _ _ _ _ r (by decide) e
        have h3 : XlR j (brP q.2.1 a2 a1 q.2.2 c1 c2) r.1 r.2.1 := q9
        have h2 : XlR q.1 q.2.1 j (brP q.2.1 a2 a1 q.2.2 c1 c2) := XlR.sm bn (by omega)
        exact (XlR.tr hq h2).tr h3
      · rw [if_neg h6] at e
        obtain ⟨j, hj, e⟩ := bind_ok e
        have a1' := ex_i hj
        cases e
        exact XlR.tr hq (XlR.sm bn (by show q.1 ≤ j; omega))
end
