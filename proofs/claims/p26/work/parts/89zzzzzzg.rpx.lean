section
/-! no more nodes of sums than tokens: parts -/
/-- from token i to i', no more nodes come than tokens -/
def XlR (i : Nat) (σ : PS) (i' : Nat) (σ' : PS) : Prop := σ'.2.2.1.length + i ≤ σ.2.2.1.length + i'
section
variable {b : Nat → Int32} {n m : Nat} {τ : Td} {j i i1 i2 o f1 f2 fo x aw lit y : Nat} {k : Int32} {w : Int64} {K : List KE} {σ σ1 σ2 : PS}
theorem XlR.tr (h : XlR i σ i1 σ1) (g : XlR i1 σ1 i2 σ2) : XlR i σ i2 σ2 := by unfold XlR at *; omega
theorem XlR.sm (e : σ1.2.2.1 = σ.2.2.1) (hi : i ≤ i1) : XlR i σ i1 σ1 := by unfold XlR; rw [e]; omega
theorem su_l {r : Nat × PS} (e : suM b n m τ j f1 f2 fo i o σ = .ok r) : XlR i σ r.1 r.2 := by
  unfold suM at e
  obtain ⟨q, eq, e⟩ := bind_ok e
  cases e
  exact rd_xl _ _ _ _ _ _ _ eq
theorem co_l {r : Nat × PS × Nat} (e : coM b n m τ j i o σ = .ok r) : XlR i σ r.1 r.2.1 := by
  unfold coM at e
  obtain ⟨q, eq, e⟩ := bind_ok e
  cases e
  exact XlR.sm rfl (rc_le _ _ _ _ _ _ eq)
theorem im_l {r : Nat × Bool} (e : imM b n i = .ok r) : i ≤ r.1 := by
  unfold imM at e
  by_cases z : tK b n i = 48
  · rw [if_pos z] at e
    obtain ⟨q, eq, e⟩ := bind_ok e
    cases e
    have := adv_i eq
    show i ≤ q
    omega
  · rw [if_neg z] at e; cases e; exact Nat.le_refl _
theorem at_l {r : Nat × PS × Nat × Bool} (e : atM b n m τ j i o σ = .ok r) : XlR i σ r.1 r.2.1 := by
  unfold atM at e
  obtain ⟨q, eq, e⟩ := bind_ok e
  obtain ⟨y, e1, e⟩ := bind_ok e
  cases e
  have q1 := im_l eq
  have q2 := co_l e1
  by_cases h : q.2 = true
  · rw [if_pos h] at q2
    have q2 : XlR q.1 σ y.1 y.2.1 := q2
    unfold XlR at *; show y.2.1.2.2.1.length + i ≤ _ + y.1; omega
  · rw [if_neg h] at q2
    unfold XlR at *; show y.2.1.2.2.1.length + i ≤ _ + y.1; omega
theorem em_l {r : Nat × PS × Nat} (e : emM b n m τ k j i o σ = .ok r) : XlR i σ r.1 r.2.1 := by
  unfold emM at e
  by_cases h1 : tK b n i = 2
  · rw [if_pos h1] at e
    cases h2 : fd τ.1 (tC b n i) with
    | none => rw [h2] at e; cases e
    | some s =>
      rw [h2] at e
      have e : (if τ.2.1.getD s 0 = 30 then Except.error (4, tP b n i) else (adv' b n i).bind fun i2 => _) = .ok r := e
      by_cases h3 : τ.2.1.getD s 0 = 30
      · rw [if_pos h3] at e; cases e
      rw [if_neg h3] at e
      obtain ⟨i2, hi2, e⟩ := bind_ok e
      have a1 := adv_i hi2
      by_cases h4 : τ.2.2.1.getD s 0 = 0
      · rw [if_pos h4] at e
        by_cases h5 : k = 40 ∧ tK b n i2 = 15
        · rw [if_pos h5] at e; cases e
        · rw [if_neg h5] at e; cases e; exact XlR.sm rfl (by show i ≤ i2; omega)
      rw [if_neg h4] at e
      by_cases h5 : k = 40 ∧ tK b n i2 = 15
      · rw [if_pos h5] at e
        by_cases h6 : o = 15
        · rw [if_pos h6] at e; cases e
        rw [if_neg h6] at e
        obtain ⟨i3, hi3, e⟩ := bind_ok e
        obtain ⟨y, e1, e⟩ := bind_ok e
        obtain ⟨i4, hi4, e⟩ := bind_ok e
        cases e
        have a2 := adv_i hi3
        have a3 := ex_i hi4
        have q := su_l e1
        have q : XlR i3 σ y.1 y.2 := q
        unfold XlR at *
        show y.2.2.2.1.length + i ≤ _ + i4
        omega
      · rw [if_neg h5] at e; cases e
  · rw [if_neg h1] at e; cases e
theorem lf_l {r : Nat × PS × Nat} (e : lfM b n m τ k w j i K σ = .ok r) : XlR i σ r.1 r.2.1 := by
  unfold lfM at e
  by_cases k1 : k = 38
  · rw [if_pos k1] at e; cases e; exact XlR.sm rfl (Nat.le_refl _)
  rw [if_neg k1] at e
  by_cases k2 : k = 39
  · rw [if_pos k2] at e; cases e; exact XlR.sm rfl (Nat.le_refl _)
  rw [if_neg k2] at e
  by_cases k3 : k = 40
  · rw [if_pos k3] at e
    obtain ⟨y, e1, e⟩ := bind_ok e
    have q9 := em_l e1
    cases e; exact q9
  rw [if_neg k3] at e
  by_cases k4 : k = 41
  · rw [if_pos k4] at e
    obtain ⟨y, e1, e⟩ := bind_ok e
    have q9 := em_l e1
    cases e; exact q9
  rw [if_neg k4] at e
  by_cases k5 : k = 47
  · rw [if_pos k5] at e
    obtain ⟨y, e1, e⟩ := bind_ok e
    have q9 := at_l e1
    cases e; exact q9
  rw [if_neg k5] at e
  by_cases k6 : k = 57
  · rw [if_pos k6] at e
    by_cases h1 : tK b n i = 2
    · rw [if_pos h1] at e
      cases h2 : trW K (tC b n i) with
      | none => rw [h2] at e; cases e
      | some q =>
        rw [h2] at e
        obtain ⟨i2, hi2, e⟩ := bind_ok e
        cases e
        have := adv_i hi2
        exact XlR.sm rfl (by show i ≤ i2; omega)
    · rw [if_neg h1] at e; cases e
  rw [if_neg k6] at e
  by_cases k7 : k = 2
  · rw [if_pos k7] at e
    obtain ⟨i2, hi2, e⟩ := bind_ok e
    obtain ⟨y, e1, e⟩ := bind_ok e
    have a1 := ex_i hi2
    have q9 := su_l e1
    have q : XlR i2 σ y.1 y.2 := q9
    cases e
    unfold XlR at *
    show y.2.2.2.1.length + i ≤ _ + y.1
    omega
  rw [if_neg k7] at e
  cases e; exact XlR.sm rfl (Nat.le_refl _)
theorem hd_l {r : Nat × PS × Nat × Bool × Nat × Option Int64} (e : hdM b n m τ k j i K σ = .ok r) : XlR i σ r.1 r.2.1 := by
  unfold hdM at e
  by_cases k1 : k = 44
  · rw [if_pos k1] at e
    obtain ⟨y, e1, e⟩ := bind_ok e
    obtain ⟨i2, hi2, e⟩ := bind_ok e
    have q := co_l e1
    have a1 := ex_i hi2
    cases e
    unfold XlR at *; show y.2.1.2.2.1.length + i ≤ _ + i2; omega
  rw [if_neg k1] at e
  by_cases k2 : k = 49
  · rw [if_pos k2] at e; cases e; exact XlR.sm rfl (Nat.le_refl _)
  rw [if_neg k2] at e
  by_cases k3 : k = 50
  · rw [if_pos k3] at e
    obtain ⟨i2, hi2, e⟩ := bind_ok e
    have a1 := ex_i hi2
    cases e; exact XlR.sm rfl (by show i ≤ i2; omega)
  rw [if_neg k3] at e
  by_cases k4 : k = 53
  · rw [if_pos k4] at e
    obtain ⟨y, e1, e⟩ := bind_ok e
    obtain ⟨i2, hi2, e⟩ := bind_ok e
    have q := at_l e1
    have a1 := ex_i hi2
    cases e
    unfold XlR at *; show y.2.1.2.2.1.length + i ≤ _ + i2; omega
  rw [if_neg k4] at e
  by_cases k5 : k = 55
  · rw [if_pos k5] at e
    by_cases h1 : tK b n i = 2
    · rw [if_pos h1] at e
      by_cases h2 : toT (tC b n i) τ = true ∨ (trW K (tC b n i)).isSome = true
      · rw [if_pos h2] at e; cases e
      rw [if_neg h2] at e
      obtain ⟨i2, hi2, e⟩ := bind_ok e
      obtain ⟨i3, hi3, e⟩ := bind_ok e
      have a1 := adv_i hi2
      have a2 := ex_i hi3
      cases e; exact XlR.sm rfl (by show i ≤ i3; omega)
    · rw [if_neg h1] at e; cases e
  rw [if_neg k5] at e
  by_cases k6 : k = 58
  · rw [if_pos k6] at e
    obtain ⟨y, e1, e⟩ := bind_ok e
    have q9 := su_l e1
    have q : XlR i σ y.1 y.2 := q9
    by_cases h1 : 7 ≤ tK b n y.1 ∧ tK b n y.1 ≤ 12
    · rw [if_pos h1] at e
      obtain ⟨i2, hi2, e⟩ := bind_ok e
      obtain ⟨z, e2, e⟩ := bind_ok e
      obtain ⟨i3, hi3, e⟩ := bind_ok e
      have a1 := adv_i hi2
      have a2 := ex_i hi3
      have q8 := su_l e2
      have q2 : XlR i2 y.2 z.1 z.2 := q8
      cases e
      unfold XlR at *; show z.2.2.2.1.length + i ≤ _ + i3; omega
    · rw [if_neg h1] at e; cases e
  rw [if_neg k6] at e
  by_cases k7 : k = 17
  · rw [if_pos k7] at e
    cases e; exact XlR.sm rfl (Nat.le_refl _)
  rw [if_neg k7] at e
  cases e; exact XlR.sm rfl (Nat.le_refl _)
theorem tl_l {r : Nat × PS × Nat} (e : tlM b n m τ k j aw lit x i o σ = .ok r) : XlR i σ r.1 r.2.1 := by
  unfold tlM at e
  by_cases k1 : k = 42
  · rw [if_pos k1] at e
    obtain ⟨i2, hi2, e⟩ := bind_ok e
    have a1 := ex_i hi2
    cases e
    by_cases h1 : (trS σ).2.2 13 x &&& 1 = 0
    · rw [if_pos h1]; exact XlR.sm rfl (by show i ≤ i2; omega)
    · rw [if_neg h1]; exact XlR.sm rfl (by show i ≤ i2; omega)
  rw [if_neg k1] at e
  by_cases k2 : k = 49
  · rw [if_pos k2] at e
    obtain ⟨i2, hi2, e⟩ := bind_ok e
    obtain ⟨y, e1, e⟩ := bind_ok e
    obtain ⟨i3, hi3, e⟩ := bind_ok e
    have a1 := ex_i hi2
    have a2 := ex_i hi3
    have g := at_l e1
    by_cases h1 : y.2.2.2 = true
    · rw [if_pos h1] at e
      cases e
      unfold XlR at *; show y.2.1.2.2.1.length + i ≤ _ + i3; omega
    · rw [if_neg h1] at e
      cases e
      unfold XlR at *; show y.2.1.2.2.1.length + i ≤ _ + i3; omega
  rw [if_neg k2] at e
  by_cases k3 : k = 50
  · rw [if_pos k3] at e
    obtain ⟨i2, hi2, e⟩ := bind_ok e
    obtain ⟨y, e1, e⟩ := bind_ok e
    obtain ⟨i3, hi3, e⟩ := bind_ok e
    have a1 := ex_i hi2
    have a2 := ex_i hi3
    have g := at_l e1
    cases e
    unfold XlR at *; show y.2.1.2.2.1.length + i ≤ _ + i3; omega
  rw [if_neg k3] at e
  by_cases k4 : k = 52
  · rw [if_pos k4] at e
    obtain ⟨i2, hi2, e⟩ := bind_ok e
    obtain ⟨y, e1, e⟩ := bind_ok e
    obtain ⟨i3, hi3, e⟩ := bind_ok e
    have a1 := ex_i hi2
    have a2 := ex_i hi3
    have g := co_l e1
    cases e
    unfold XlR at *; show y.2.1.2.2.1.length + i ≤ _ + i3; omega
  rw [if_neg k4] at e
  by_cases k5 : k = 53
  · rw [if_pos k5] at e
    obtain ⟨i2, hi2, e⟩ := bind_ok e
    have a1 := ex_i hi2
    cases e; exact XlR.sm rfl (by show i ≤ i2; omega)
  rw [if_neg k5] at e
  obtain ⟨i2, hi2, e⟩ := bind_ok e
  have a1 := ex_i hi2
  cases e; exact XlR.sm rfl (by show i ≤ i2; omega)
theorem ch_l {r : Nat × PS × Nat} (e : chM b n lit x y i σ = .ok r) : XlR i σ r.1 r.2.1 := by
  unfold chM at e
  obtain ⟨i2, hi2, e⟩ := bind_ok e
  have a1 := ex_i hi2
  cases e
  exact XlR.sm rfl (by show i ≤ i2; omega)
theorem br_l {j a x : Nat} {g u : Int32} : (brP σ j a x g u).2.2.1 = σ.2.2.1 := by
  unfold brP
  split <;> rfl
theorem rp_xl : ∀ (g md : Nat) (K : List KE) (i : Nat) (σ : PS) (a1 a2 a3 a4 : Nat) (c1 c2 : Int32) (r : Nat × PS × Nat), md ≤ 3 → rp b n m τ g md K i σ a1 a2 a3 a4 c1 c2 = .ok r → XlR i σ r.1 r.2.1 := by
  intro g
  induction g with
  | zero => intro md K i σ a1 a2 a3 a4 c1 c2 r _ e; unfold rp at e; cases e
  | succ g ih =>
    intro md K i σ a1 a2 a3 a4 c1 c2 r hm e
    by_cases m2 : md = 2
    · subst m2
      rw [rp_bd] at e
      obtain ⟨u0, -, e⟩ := bind_ok e
      obtain ⟨i1, hi1, e⟩ := bind_ok e
      obtain ⟨u, eb, e⟩ := bind_ok e
      cases e
      have a1 := adv_i hi1
      show XlR i σ u.1 u.2.1
      have q0 : XlR i σ i1 (bgP m (tK b n i) (tP b n i) (sqK K) K.length (whK (tK b n i) (tC b n i) τ) σ) := XlR.sm rfl (by omega)
      generalize tK b n i = k at eb q0
      generalize tC b n i = w at eb q0
      generalize npS σ = j at eb
      generalize bgP m k (tP b n i) (sqK K) K.length (whK k w τ) σ = s0 at eb q0
      refine q0.tr ?_
      unfold bdM at eb
      by_cases ko : opnK k = false
      · rw [if_pos ko] at eb
        exact lf_l eb
      rw [if_neg ko] at eb
      obtain ⟨h, eh, eb⟩ := bind_ok eb
      have q2 := hd_l eh
      by_cases k17 : k = 17
      · rw [if_pos k17] at eb
        obtain ⟨q, e1, eb⟩ := bind_ok eb
        cases eb
        have q3 := ih 3 _ _ _ _ _ _ _ _ _ q (by decide) e1
        exact q2.tr q3
      rw [if_neg k17] at eb
      obtain ⟨q, e1, eb⟩ := bind_ok eb
      have q3 := ih 0 _ _ _ _ _ _ _ _ _ q (by decide) e1
      have hq : XlR i1 s0 q.1 q.2.1 := q2.tr q3
      by_cases k4 : k = 44 ∨ k = 58
      · rw [if_pos k4] at eb
        by_cases k46 : tK b n q.1 = 46
        · rw [if_pos k46] at eb
          obtain ⟨i2, hi2, eb⟩ := bind_ok eb
          obtain ⟨t, e2, eb⟩ := bind_ok eb
          have a2 := adv_i hi2
          have q4 := ih 0 _ _ _ _ _ _ _ _ _ t (by decide) e2
          have q5 : XlR q.1 q.2.1 t.1 t.2.1 := XlR.tr (i1 := i2) (XlR.sm rfl (by omega)) q4
          exact (hq.tr q5).tr (ch_l eb)
        · rw [if_neg k46] at eb
          have c1 : XlR q.1 q.2.1 q.1 (trP1 q.2.1 (mkT (trS q.2.1) 0).1) := XlR.sm rfl (Nat.le_refl _)
          exact (hq.tr c1).tr (ch_l eb)
      rw [if_neg k4] at eb
      exact hq.tr (tl_l eb)
    by_cases m0 : md = 0
    · subst m0
      unfold rp at e
      rw [if_pos rfl] at e
      obtain ⟨q, e1, e⟩ := bind_ok e
      have q1 := ih 2 _ _ _ _ _ _ _ _ _ q (by decide) e1
      have q2 := ih 1 _ _ _ _ _ _ _ _ _ r (by decide) e
      have q1 : XlR i σ q.1 q.2.1 := q1
      have q2 : XlR q.1 q.2.1 r.1 r.2.1 := q2
      exact q1.tr q2
    by_cases m1 : md = 1
    · subst m1
      unfold rp at e
      rw [if_neg (by decide), if_pos rfl] at e
      by_cases h13 : tK b n i = 13
      · rw [if_pos h13] at e
        obtain ⟨j, hj, e⟩ := bind_ok e
        obtain ⟨q, e1, e⟩ := bind_ok e
        have a1 := adv_i hj
        have q1 := ih 2 _ _ _ _ _ _ _ _ _ q (by decide) e1
        have q2 := ih 1 _ _ _ _ _ _ _ _ _ r (by decide) e
        have q2 : XlR q.1 q.2.1 r.1 r.2.1 := q2
        have q0 : XlR i σ j σ := XlR.sm rfl (by omega)
        exact (q0.tr q1).tr q2
      · rw [if_neg h13] at e; cases e; exact XlR.sm rfl (Nat.le_refl _)
    · have m3 : md = 3 := by omega
      subst m3
      unfold rp at e
      rw [if_neg m0, if_neg m1, if_neg m2] at e
      obtain ⟨q, e1, e⟩ := bind_ok e
      have hq := ih 0 _ _ _ _ _ _ _ _ _ q (by decide) e1
      have bn := br_l (σ := q.2.1) (j := a2) (a := a1) (x := q.2.2) (g := c1) (u := c2)
      by_cases h6 : tK b n q.1 = 6
      · rw [if_pos h6] at e
        by_cases h8 : a4 = 8
        · rw [if_pos h8] at e; cases e
        rw [if_neg h8] at e
        obtain ⟨j, hj, e⟩ := bind_ok e
        have a1' := adv_i hj
        have q9 := ih 3 _ _ _ _ _ _ _ _ _ r (by decide) e
        have h3 : XlR j (brP q.2.1 a2 a1 q.2.2 c1 c2) r.1 r.2.1 := q9
        have h2 : XlR q.1 q.2.1 j (brP q.2.1 a2 a1 q.2.2 c1 c2) := XlR.sm bn (by omega)
        exact (XlR.tr hq h2).tr h3
      · rw [if_neg h6] at e
        obtain ⟨j, hj, e⟩ := bind_ok e
        have a1' := ex_i hj
        cases e
        exact XlR.tr hq (XlR.sm bn (by show q.1 ≤ j; omega))
end
end
section
/-! a whole reading that succeeds: what is known of it, on both sides -/
section
variable {b : Nat → Int32} {n s m : Nat} {A : Nat → Nat → Int32} {B : Nat → Int64} {Zt : Nat → Nat → Int32} {r : Nat × Td × PS × Nat}
theorem rdm_all (hB : By b) (hS : Sto b n s) (h4 : m < 4) (hv : HvT r.2.1) (hZ : Zt 5 0 = 0) (e : rdM b n m A B Zt = .ok r) : ∃ γ g, RdE r.2.1 m r.2.2.1 r.2.2.2 γ g ∧ RdX r.2.1 r.2.2.1 r.2.2.2 γ := by
  unfold rdM at e
  by_cases k0 : tK b n 0 = 0
  · rw [if_pos k0] at e; cases e
  rw [if_neg k0] at e
  obtain ⟨q, et, e⟩ := bind_ok e
  obtain ⟨p, eq, e⟩ := bind_ok e
  cases e
  have ok1 := td_ok hS 900 0 td0 (by have := hS.1; have := hS.2.1; omega) (Nat.zero_le _) k0
  rw [et] at ok1
  obtain ⟨o1, o2, o3, -⟩ := ok1
  have ep := eq
  unfold rdQ at ep
  obtain ⟨u, eu, ep⟩ := bind_ok ep
  have up : u = p := by
    by_cases z : tK b n u.1 = 1
    · rw [if_pos z] at ep; cases ep; rfl
    · rw [if_neg z] at ep; cases ep
  subst up
  have xl := rp_xl 6000 0 [] q.1 (σI A B (cl0 Zt q.2)) 0 0 0 0 0 0 u (by decide) eu
  have ok2 := rp_ok (τ := q.2) (m := m) hS 6000 0 [] q.1 (σI A B (cl0 Zt q.2)) 0 0 0 0 0 0 (by decide) o2 o3 σI_ok
  rw [eu] at ok2
  have us : u.1 ≤ s := ok2.2.1
  refine rd_all2 (i := q.1) hB hS h4 hv o2 o3 hZ eq ?_
  have xl : u.2.1.2.2.1.length + q.1 ≤ 0 + u.1 := xl
  have := hS.1
  have := hS.2.1
  omega
end
end
section
/-! the nodes of parts -/
section
variable {W : Wo} {m zn fn lo hi x j p pb : Nat} {k : Int32} {K : List KE} {ys : List Nat}
theorem pkS_in (h : PkS W m zn fn lo hi k K j p pb x ys) : lo ≤ x ∧ x < hi := by
  unfold PkS at h
  by_cases k1 : k = 38
  · rw [if_pos k1] at h; exact h.1.1
  rw [if_neg k1] at h
  by_cases k2 : k = 39
  · rw [if_pos k2] at h; obtain ⟨⟨y, h, -⟩, -⟩ := h; exact h.1
  rw [if_neg k2] at h
  by_cases k3 : k = 40
  · rw [if_pos k3] at h; obtain ⟨⟨v, -, h⟩, -⟩ := h; exact h.1
  rw [if_neg k3] at h
  by_cases k4 : k = 41
  · rw [if_pos k4] at h; obtain ⟨⟨v, -, sq, e, pa, h, -⟩, -⟩ := h; exact h.1
  rw [if_neg k4] at h
  by_cases k5 : k = 47
  · rw [if_pos k5] at h; obtain ⟨⟨l, im, -, -, y, h, -⟩, -⟩ := h; exact h.1
  rw [if_neg k5] at h
  by_cases k6 : k = 57
  · rw [if_pos k6] at h; obtain ⟨⟨v, e, -, -, -, h⟩, -⟩ := h; exact h.1
  rw [if_neg k6] at h
  by_cases k7 : k = 42
  · rw [if_pos k7] at h; obtain ⟨y, -, h⟩ := h; exact h.1
  rw [if_neg k7] at h
  by_cases k8 : k = 44
  · rw [if_pos k8] at h; obtain ⟨y, z, l, -, h, -⟩ := h; exact h.1
  rw [if_neg k8] at h
  by_cases k9 : k = 58
  · rw [if_pos k9] at h; obtain ⟨y, z, f, -, -, h, -⟩ := h; exact h.1
  rw [if_neg k9] at h
  have wk : ∀ {x y : Nat} {l : Int32} {im : Bool} {p : Nat}, wkS (woV W) lo hi x y l im p → lo ≤ x ∧ x < hi := fun q => by
    obtain ⟨par, sq, wa, ex, q, -⟩ := q
    exact q.1
  have ab : ∀ {x y : Nat} {l : Int32} {p : Nat}, abS (woV W) lo hi x y l p → lo ≤ x ∧ x < hi := fun q => by
    obtain ⟨y, -, q⟩ := q
    exact wk q
  by_cases k10 : k = 49
  · rw [if_pos k10] at h
    obtain ⟨y, l, im, -, -, -, h⟩ := h
    unfold aiS at h
    cases im with
    | true => rw [if_pos rfl] at h; obtain ⟨no, y, h, -⟩ := h; exact h.1
    | false => rw [if_neg (by decide)] at h; exact ab h
  rw [if_neg k10] at h
  by_cases k11 : k = 50
  · rw [if_pos k11] at h; obtain ⟨y, l, im, -, -, -, h⟩ := h; exact wk h
  rw [if_neg k11] at h
  by_cases k12 : k = 52
  · rw [if_pos k12] at h; obtain ⟨y, l, -, -, h⟩ := h; exact h.1
  rw [if_neg k12] at h
  by_cases k13 : k = 53
  · rw [if_pos k13] at h; obtain ⟨y, l, im, aw, -, -, -, -, lp, ab, sq, hq, h, -⟩ := h; exact h.1
  rw [if_neg k13] at h
  by_cases k14 : k = 55
  · rw [if_pos k14] at h; obtain ⟨y, -, h⟩ := h; exact h.1
  rw [if_neg k14] at h
  by_cases k15 : k = 17
  · rw [if_pos k15] at h; exact h.1
  rw [if_neg k15] at h
  exact h.1.1
end
theorem RdE.xs {τ : Td} {m root g0 : Nat} {σ : PS} {γ : Gh} (hE : RdE τ m σ root γ g0) : ∃ xs : Nat → Nat, ∀ j, j < npS σ → σ.2.1.1 j 1 = Int32.ofNat (xs j) ∧ 1 ≤ xs j ∧ xs j < (trS σ).1 := by
  obtain ⟨hg, hif, tt, ⟨n4, p24, np, r4⟩, hx, -⟩ := hE
  have h : ∀ j, ∃ x, j < npS σ → σ.2.1.1 j 1 = Int32.ofNat x ∧ 1 ≤ x ∧ x < (trS σ).1 := fun j => by
    by_cases z : j < npS σ
    · obtain ⟨k, K, p, pb, x, ys, ff, i2, pc, pk, -⟩ := TT.prt (np := npS σ) g0 0 _ _ _ _ _ _ _ _ _ _ _ _ _ _ (by decide) tt (Nat.le_refl _) (by omega) j (Nat.zero_le _) z
      have q := pkS_in pk
      exact ⟨x, fun _ => ⟨pc.2.2.2.2, q.1, q.2⟩⟩
    · exact ⟨0, fun y => absurd y z⟩
  exact Classical.axiomOfChoice h
end
section
/-! a module that was read is woven -/
section
variable {b : Nat → Int32} {n s m i root g0 h : Nat} {τ : Td} {Ma M0 M2 Mw : Mem} {σ : PS} {γ : Gh} {ps : List Nat} {Q : Option Value → Mem → Prop}
theorem C_wv (hC : CRd b n s τ Ma M0 M2 i σ ps) (hE : RdE τ m σ root γ g0) (hX : RdX τ σ root γ) (k : NuF (fun c => c = mN Ma ∨ c = 0) M2 Mw) (e16 : mI Mw (mN Ma) 16 = Int32.ofNat root) (e9 : mI Mw (mN Ma) 9 = mI M2 (mN Ma) 9) (K : ∀ lc rc g xs M', WvZ (mN Ma) lc rc (trS σ) σ.2.1.2.2.1 Mw → (∀ j, j < ps.length → ok Mw (ps.getD j 0) 5) → (∀ j, j < npS σ → σ.2.1.1 j 1 = Int32.ofNat (xs j) ∧ 1 ≤ xs j ∧ xs j < (trS σ).1) → FtN (chR (trS σ) γ.1) g root → WvE (mN Ma) lc rc τ.1.length τ.2.1 (trS σ) (chR (trS σ) γ.1) σ.2.1.2.2.1 (m6R γ.2.2) g root ps xs Mw M' → Q none M') : E (h + 10) mdX9_weave [.ref 21, .ref (mN Ma)] Mw Q := by
  obtain ⟨hTI, ⟨lc0, rc0, cc, pb0, ib0, hQ⟩, l1, l2, -, -⟩ := id hC.1
  have is := hTI.2.1
  have psn : ps.length = σ.1.1 0 ∧ σ.1.1 0 ≤ 40 := ⟨hQ.2.2.2.2.2.2.2.2.1, hQ.2.2.2.2.2.2.2.2.2.1⟩
  obtain ⟨lc, rc, pb, ib, wz, fb, lp, f6⟩ := wz_of hC (by omega) (by omega)
  obtain ⟨g, ft, nd, sh, ln, hf, p8, k5, ro, n2, sg⟩ := hE.wv hX
  obtain ⟨xs, hxs⟩ := hE.xs
  obtain ⟨a1, -, -, -, -, ⟨pt, pd⟩⟩ := lp
  have n1 := wz.1.1.1
  have F2 := wz.2.1
  have kn : mK M2 (mN Ma) = 3 := wz.2.2.2.2.2.1.2.2
  have k0 : mK M2 0 = 12 := (ok0 F2).2
  have t4 := hE.2.2.2.1.1
  refine W_all (h := h) (wz.nu k) ro ⟨n2, by omega⟩ hf ft nd sh ln (Nat.le_refl _) e16 hX.1 p8 k5 hX.2.1 (fb.nu k e9) sg (by rw [k.2.1.2.1]; exact f6) (pb := pb) (a1.fr k.fre (fun z => by omega) (fun hb z => ?_)) (xs := xs) (fun j hj => ?_) pd (by omega) (fun M' we => K lc rc g xs M' (wz.nu k) (fun j hj => ok_E (pt j hj).1 k.e) hxs ft we)
  · rcases z with z | z
    · rw [z, kn] at hb; exact absurd hb (by decide)
    · rw [z, k0] at hb; exact absurd hb (by decide)
  · obtain ⟨o5, lo, fl⟩ := pt j hj
    have q := hxs j (by show j < σ.1.1 0; omega)
    refine ⟨ok_E o5 k.e, ?_, by omega⟩
    rw [k.2.2 _ (by omega), fl 1 (by decide)]
    exact q.1
end
end
section
/-! the list of modules, while a module is read and woven -/
section
variable {b : Nat → Int32} {n s i mb n0 l0 r0 S g x : Nat} {τ : Td} {M M0 M2 Mw M3 : Mem} {σ : PS} {ps ms : List Nat} {ro : List Int32} {Θ : TrT} {G : Nat → List Nat} {N : Nt} {Ro : List (Nat × Nat)} {xs : Nat → Nat}
theorem CRd.mods (hC : CRd b n s τ M M0 M2 i σ ps) (hA : ALp M 2 mb 3 ms) (hmb : mb = mBig + 5 ∨ (132 ≤ mb ∧ mb < mN M)) (n1 : 132 ≤ mN M) (hN : mN M ≤ 900000) : ALp M2 2 mb 3 ms := by
  obtain ⟨⟨hTI, ⟨lc, rc, cc, pb, ib, hQ⟩, -, -, -, -⟩, -, -, hF, hb, -⟩ := hC
  have hq := hQ.2.2.2.2.2.1.1
  have big : mBig = 1099511627776 := rfl
  have A0 : ALp M0 2 mb 3 ms := alp_fr3 hA hF (fun z => by omega) (fun o z => by omega)
  exact alp_fr3 A0 hq (fun z => by omega) (fun o z => by have := o.1; omega)
theorem WvE.mods (hZ : WvZ n0 l0 r0 Θ N Mw) (hp : ∀ j, j < ps.length → ok Mw (ps.getD j 0) 5) (hE : WvE n0 l0 r0 S ro Θ G N Ro g x ps xs Mw M3) (hA : ALp Mw 2 mb 3 ms) : ALp M3 2 mb 3 ms ∧ mE Mw M3 := by
  obtain ⟨Ψ1, Ψ2, P, zp, M1, -, -, -, ⟨lc, rc, b1, b2, hl, hH⟩, -, -, nf, -⟩ := hE
  have fw := hH.2.2.2.2.2.1.1
  obtain ⟨⟨n1, n2⟩, n3, -⟩ := id hZ.1
  have A1 : ALp M1 2 mb 3 ms := alp_fr3 hA fw (fun z => by unfold wvS at z; unfold LrB at n3; omega) (fun o z => by
    have k := o.2
    rcases hZ.kd z with e | e | e | e <;> (rw [k] at e; exact absurd e (by decide)))
  have kp : ∀ j, j < ps.length → mK M1 (ps.getD j 0) = 5 := fun j hj => (ok_E (hp j hj) fw.1).2
  refine ⟨alp_fr3 A1 nf.fre ?_ (fun o => ?_), fw.1.tr nf.e⟩
  · rintro ⟨j, hj, e⟩
    have := kp j hj
    rw [← e, A1.1.2] at this
    exact absurd this (by decide)
  · rintro ⟨j, hj, e⟩
    have := kp j hj
    rw [← e, o.2] at this
    exact absurd this (by decide)
end
end
section
/-! the class's compile, whole -/
def EndCC (b : Nat → Int32) (n m : Nat) (M : Mem) (mb : Nat) (ms : List Nat) (Q : Option Value → Mem → Prop) (R : Except (Int32 × Nat) (Nat × Td × PS × Nat)) : Prop := match R with
  | .error e => ∀ M1 M', CRx n M M1 e.1 (Int32.ofNat e.2) → M' = wI (wI M1 0 1 0) 0 6 e.1 → Q (some (.int (-10 - Int32.ofNat e.2))) M'
  | .ok r => ∀ s M0 M2 ps, Sto b n s → CRd b n s r.2.1 M M0 M2 r.1 r.2.2.1 ps → ((∀ j, j < ps.length → r.2.2.1.2.1.1 j 2 = 0) → ∀ Mw M3 M4 lc rc γ g g0 xs mb', RdE r.2.1 m r.2.2.1 r.2.2.2 γ g0 → RdX r.2.1 r.2.2.1 r.2.2.2 γ → NuF (fun c => c = mN M ∨ c = 0) M2 Mw → ((∀ f, f ≠ 13 → f ≠ 16 → mI Mw (mN M) f = mI M2 (mN M) f) ∧ mI Mw (mN M) 13 = Int32.ofNat (trS r.2.2.1).2.1 ∧ mI Mw 0 1 = 0 ∧ mI Mw 0 6 = 0 ∧ ∀ f, f ≠ 1 → f ≠ 6 → mI Mw 0 f = mI M2 0 f) → WvZ (mN M) lc rc (trS r.2.2.1) r.2.2.1.2.1.2.2.1 Mw → WvE (mN M) lc rc r.2.1.1.length r.2.1.2.1 (trS r.2.2.1) (chR (trS r.2.2.1) γ.1) r.2.2.1.2.1.2.2.1 (m6R γ.2.2) g r.2.2.2 ps xs Mw M3 → (FtN (chR (trS r.2.2.1) γ.1) g r.2.2.2 ∧ ∀ j, j < npS r.2.2.1 → r.2.2.1.2.1.1 j 1 = Int32.ofNat (xs j) ∧ 1 ≤ xs j ∧ xs j < (trS r.2.2.1).1) → ALp M4 2 mb' 3 (ms ++ [mN M]) → ALF M3 M4 2 mb mb' ms.length → Q (some (.int (Int32.ofNat ms.length))) M4) ∧ ∀ j, j < ps.length → r.2.2.1.2.1.1 j 2 ≠ 0 → (∀ q, q < j → r.2.2.1.2.1.1 q 2 = 0) → ∀ M1 M', CRx n M M1 (r.2.2.1.2.1.1 j 2) (r.2.2.1.2.1.1 j 0) → M' = wI (wI M1 0 1 0) 0 6 (r.2.2.1.2.1.1 j 2) → Q (some (.int (-10 - r.2.2.1.2.1.1 j 0))) M'
section
variable {b : Nat → Int32} {n m mb h : Nat} {ms : List Nat} {M : Mem} {A : Nat → Nat → Int32} {B : Nat → Int64} {Q : Option Value → Mem → Prop}
theorem C_comp (hB : By b) (hz : ∀ i, n ≤ i → b i = 0) (F : Fix M) (hn : n ≤ 800) (hm : ∀ i, i < n → (mAI M 1 i) &&& 255 = b i) (hN : mN M ≤ 900000) (h4 : m < 4) (e1 : mI M 0 1 = Int32.ofNat n) (hL : ALp M 2 mb 3 ms) (hmb : mb = mBig + 5 ∨ (132 ≤ mb ∧ mb < mN M)) (hl : ms.length < 4) (hk0 : mAI M 5 0 = 0) (H : EndCC b n m M mb ms Q (rdM b n m A B (mAI M))) : E (h + 221) mdX10_compile [.ref 0] M Q := by
  have n132 : 132 ≤ mN M := F.1
  have lt4 : Int32.ofNat ms.length < 4 := (ltn32 (a := ms.length) (b := 4) (by omega) (by decide)).mpr hl
  refine KX10_compile (h := h + 220) ?_
  unfold DX10_compile_0
  refine ⟨ok0 F, 2, rf0_2 F, hL.1, S_alSize (h := h + 219) hL (fun _ => ⟨_, rfl, fun _ => ⟨14, rf0_4 F, ok14 F, ?_⟩, fun z => absurd lt4 z⟩)⟩
  rw [e1]
  refine C_read (h := h) (m := m) (A := A) (B := B) hk0 hB hz F hn hm hN ?_
  cases e : rdM b n m A B (mAI M) with
  | error y =>
    rw [e] at H
    intro M1 cx _
    refine ⟨none, rfl, fun M10 e10 => ?_⟩
    have F10 : Fix M10 := by rw [e10]; exact cx.1.i
    have f10 : mI M10 15 12 = y.1 := by rw [e10, mI_wI, if_neg (by decide)]; exact cx.2.1
    refine ⟨14, rf0_4 F10, ok14 F10, 15, rf14_0 F10, ok15 F10, fun M15 e15 => ⟨fun _ => ?_, fun b16 z => absurd z (by simp)⟩⟩
    rw [f10] at e15
    have F15 : Fix M15 := by rw [e15]; exact F10.i
    have p15 : mI M15 15 13 = Int32.ofNat y.2 := by rw [e15, mI_wI, if_neg (by decide), e10, mI_wI, if_neg (by decide)]; exact cx.2.2.2.1
    refine ⟨14, rf0_4 F15, ok14 F15, 15, rf14_0 F15, ok15 F15, ?_⟩
    rw [p15]
    exact H M1 M15 cx (by rw [e15, e10])
  | ok r =>
    rw [e] at H
    intro s M0 M2 ps hS hC
    obtain ⟨H1, H2⟩ := H s M0 M2 ps hS hC
    refine ⟨fun late M8 e8 _ => ?_, fun j hj nz fst M1 cx _ => ?_⟩
    · refine ⟨some (mN M), rfl, fun M10 e10 => ?_⟩
      obtain ⟨hTI, ⟨lc0, rc0, cc, pb0, ib0, hQ⟩, -⟩ := id hC.1
      have hv : HvT r.2.1 := ⟨hQ.1.1.2.1.2.2.2, hQ.1.1.2.1.1⟩
      obtain ⟨γ, g0, rE, rX⟩ := rdm_all hB hS h4 hv hk0 e
      have F2 := hTI.1
      have F8 : Fix M8 := by rw [e8]; exact F2.i.i
      have F10 : Fix M10 := by rw [e10]; exact F8.i
      refine ⟨14, rf0_4 F10, ok14 F10, 15, rf14_0 F10, ok15 F10, fun Mw ew => ⟨fun z => absurd z (by simp), fun b16 z => ?_⟩⟩
      have eb : mN M = b16 := Option.some.inj z
      rw [← eb]
      have Fw : Fix Mw := by rw [ew]; exact F10.i
      have ww : ∀ {Mi : Mem} {c f : Nat} {v : Int32}, (c = mN M ∨ c = 0) → NuF (fun c => c = mN M ∨ c = 0) Mi (wI Mi c f v) := fun hc => NuF.w (S := fun c => c = mN M ∨ c = 0) hc
      have k : NuF (fun c => c = mN M ∨ c = 0) M2 Mw := by
        rw [ew, e10, e8]
        exact (((ww (Or.inl rfl)).tr (ww (Or.inl rfl))).tr (ww (Or.inr rfl))).tr (ww (Or.inr rfl))
      have rd : ∀ f, mI Mw (mN M) f = mI M8 (mN M) f := fun f => by rw [ew, mI_wI, if_neg (by omega), e10, mI_wI, if_neg (by omega)]
      refine ⟨21, rf0_5 Fw, ok21 Fw, C_wv (h := h + 210) hC rE rX k ?_ ?_ (fun lc rc g xs M3 wz hp hxs ftn we _ => ⟨rfl, ?_⟩)⟩
      · rw [rd, e8, mI_wI, if_neg (by omega), mI_wI, if_pos ⟨rfl, rfl⟩]
      · rw [rd, e8, mI_wI, if_neg (by omega), mI_wI, if_neg (by omega)]
      · have A2 := hC.mods hL hmb n132 hN
        have Aw : ALp Mw 2 mb 3 ms := alp_fr3 A2 k.fre (fun z => by omega) (fun o z => by
          have o0 : mK M2 0 = 12 := (ok0 F2).2
          have on : mK M2 (mN M) = 3 := hQ.1.1.1.2
          have kb := o.2
          rcases z with z | z
          · rw [z, on] at kb; exact absurd kb (by decide)
          · rw [z, o0] at kb; exact absurd kb (by decide))
        obtain ⟨A3, E3⟩ := we.mods wz hp Aw
        have F3 : Fix M3 := by
          obtain ⟨Ψ1, Ψ2, P, zp, M1, -, -, -, ⟨lc1, rc1, b1, b2, hls, hH⟩, -, -, nf, -⟩ := we
          exact nf.fix hH.1.1
        have on3 : ok M3 (mN M) 3 := ok_E (ok_E hQ.1.1.1 k.e) E3
        refine ⟨2, rf0_2 F3, A3.1, S_add (h := h + 214) A3 (by omega) (Or.inr (Or.inl rfl)) (Or.inl on3) (fun M4 mb' A4 F4 _ => ⟨_, rfl, 2, ?_, A4.1, S_alSize (h := h + 219) A4 (fun _ => ⟨_, rfl, ?_⟩)⟩)⟩
        · rw [(F4.1.2 0 (by have := F3.1; omega) (by
            rintro (z | ⟨-, z⟩)
            · exact absurd z (by decide)
            · rw [(ok0 F3).2] at z; exact absurd z (by decide))).2.2.1]
          exact rf0_2 F3
        · have e2 : Int32.ofNat (ms ++ [mN M]).length - 1 = Int32.ofNat ms.length := by
            rw [List.length_append]
            show Int32.ofNat (ms.length + 1) - 1 = _
            rw [← succ32, Int32.add_sub_cancel]
          rw [e2]
          exact H1 late Mw M3 M4 lc rc γ g g0 xs mb' rE rX k ⟨fun f z1 z2 => by rw [rd, e8, mI_wI, if_neg (fun y => z1 y.2), mI_wI, if_neg (fun y => z2 y.2)], by rw [rd, e8, mI_wI, if_pos ⟨rfl, rfl⟩], by rw [ew, mI_wI, if_neg (by decide), e10]; exact mI_own _ _ _ _, by rw [ew, mI_own, e10, mI_wI, if_neg (by decide), e8, mI_wI, if_neg (by omega), mI_wI, if_neg (by omega)]; exact hTI.2.2.2.2.2.2.2.2.1, fun f z1 z6 => by rw [ew, mI_wI, if_neg (fun y => z6 y.2), e10, mI_wI, if_neg (fun y => z1 y.2), e8, mI_wI, if_neg (by omega), mI_wI, if_neg (by omega)]⟩ wz we ⟨ftn, hxs⟩ A4 F4
    · refine ⟨none, rfl, fun M10 e10 => ?_⟩
      have F10 : Fix M10 := by rw [e10]; exact cx.1.i
      have f10 : mI M10 15 12 = r.2.2.1.2.1.1 j 2 := by rw [e10, mI_wI, if_neg (by decide)]; exact cx.2.1
      refine ⟨14, rf0_4 F10, ok14 F10, 15, rf14_0 F10, ok15 F10, fun M15 e15 => ⟨fun _ => ?_, fun b16 z => absurd z (by simp)⟩⟩
      rw [f10] at e15
      have F15 : Fix M15 := by rw [e15]; exact F10.i
      have p15 : mI M15 15 13 = r.2.2.1.2.1.1 j 0 := by rw [e15, mI_wI, if_neg (by decide), e10, mI_wI, if_neg (by decide)]; exact cx.2.2.2.1
      refine ⟨14, rf0_4 F15, ok14 F15, 15, rf14_0 F15, ok15 F15, ?_⟩
      rw [p15]
      exact H2 j hj nz fst M1 M15 cx (by rw [e15, e10])
end
end
section
/-! the reference's compile, whole -/
def EndRR (b : Nat → Int32) (n m : Nat) (M : Mem) (Q : Option Value → Mem → Prop) (R : Except (Int32 × Nat) (Nat × Td × PS × Nat)) : Prop := match R with
  | .error e => ∀ M', TXr M' e.1 e.2 → RGc m M M' → Q (some (.int (-10 - Int32.ofNat e.2))) M'
  | .ok r => ∀ s M1 γ g0, Sto b n s → RPs b n s m r.2.1 [] r.2.2.1 M1 r.1 0 → RTq m r.2.1 M1 → mAI M1 122 m = 0 → RGc m M M1 → RdE r.2.1 m r.2.2.1 r.2.2.2 γ g0 → RdX r.2.1 r.2.2.1 r.2.2.2 γ → ((∀ j, j < npS r.2.2.1 → r.2.2.1.2.1.1 j 2 = 0) → ∀ pn S G mk nu co sl km g y M2 M3, BuR (woS r.2.1 m r.2.2.1 γ) ((trS r.2.2.1).2.2 12) m r.2.2.1.2.2.2.length (ifS r.2.2.1).length r.2.2.1.1.2.1 pn S G mk nu co sl km g y r.2.2.2 (trS r.2.2.1).2.1 (npS r.2.2.1) M2 → RGd m M1 M2 → M3 = wI M2 29 18 (mI M1 29 18 + 1) → Q (some (.int (mI M1 29 18))) M3) ∧ ∀ j pl M3, j < npS r.2.2.1 → (∀ q, q < j → r.2.2.1.2.1.1 q 2 = 0) → r.2.2.1.2.1.1 j 2 ≠ 0 → r.2.2.1.2.1.1 j 0 = Int32.ofNat pl → TXr M3 (r.2.2.1.2.1.1 j 2) pl → RGe m M1 M3 → Q (some (.int (-10 - Int32.ofNat pl))) M3
theorem EndRR.rc {b : Nat → Int32} {n m h : Nat} {M : Mem} {A : Nat → Nat → Int32} {B : Nat → Int64} {Zt : Nat → Nat → Int32} {Q : Option Value → Mem → Prop} (hB : By b) (h4 : m < 4) (hZ : Zt 5 0 = 0) (H : EndRR b n m M Q (rdM b n m A B Zt)) : EndRC b n m (h + 15) M Q (rdM b n m A B Zt) := by
  cases e : rdM b n m A B Zt with
  | error y => rw [e] at H; exact H
  | ok r =>
    rw [e] at H
    intro s M1 hS hR hT ⟨e79, e122⟩ hG
    have hv : HvT r.2.1 := ⟨hR.1.2.2.2.2.1.2.2.2, hR.1.2.2.2.2.1.1⟩
    obtain ⟨γ, g0, rE, rX⟩ := rdm_all hB hS h4 hv hZ e
    obtain ⟨H0, H1⟩ := H s M1 γ g0 hS hR hT e122 hG rE rX
    exact R_188 (h := h) hR e79 rE H0 H1
end
section
/-! three truths: what is known grows -/
def lq3 (a c : Nat) : Prop := a = 2 ∨ a = c
theorem lq3.rf {a : Nat} : lq3 a a := Or.inr rfl
theorem lq3.tr {a c d : Nat} (h : lq3 a c) (k : lq3 c d) : lq3 a d := by unfold lq3 at *; omega
theorem lq3.an {a c : Nat} (h : lq3 a c) (k : lq3 c a) : a = c := by unfold lq3 at *; omega
theorem v3N_mo {a a' : Nat} (h : lq3 a a') : lq3 (v3N a) (v3N a') := by
  rcases h with e | e
  · rw [e]; exact Or.inl rfl
  · rw [e]; exact lq3.rf
theorem v3A_mo {a a' c c' : Nat} (h : lq3 a a') (k : lq3 c c') : lq3 (v3A a c) (v3A a' c') := by
  unfold lq3 at *
  unfold v3A
  by_cases z : a = 0 ∨ c = 0
  · rw [if_pos z, if_pos (show a' = 0 ∨ c' = 0 by omega)]; exact Or.inr rfl
  · rw [if_neg z]
    by_cases y : a = 1 ∧ c = 1
    · rw [if_pos y, if_neg (show ¬ (a' = 0 ∨ c' = 0) by omega), if_pos (show a' = 1 ∧ c' = 1 by omega)]; exact Or.inr rfl
    · rw [if_neg y]; exact Or.inl rfl
theorem v3O_mo {a a' c c' : Nat} (h : lq3 a a') (k : lq3 c c') : lq3 (v3O a c) (v3O a' c') := by
  unfold lq3 at *
  unfold v3O
  by_cases z : a = 1 ∨ c = 1
  · rw [if_pos z, if_pos (show a' = 1 ∨ c' = 1 by omega)]; exact Or.inr rfl
  · rw [if_neg z]
    by_cases y : a = 0 ∧ c = 0
    · rw [if_pos y, if_neg (show ¬ (a' = 1 ∨ c' = 1) by omega), if_pos (show a' = 0 ∧ c' = 0 by omega)]; exact Or.inr rfl
    · rw [if_neg y]; exact Or.inl rfl
theorem lvN_mo {v v' : Nat → Nat} {l : Nat} (h : ∀ n, lq3 (v n) (v' n)) : lq3 (lvN v l) (lvN v' l) := by
  unfold lvN
  by_cases z : l % 2 = 0
  · rw [if_pos z, if_pos z]; exact h _
  · rw [if_neg z, if_neg z]; exact v3N_mo (h _)
theorem oI_mo {f g : Nat → Nat} : ∀ (n : Nat), (∀ k, k < n → lq3 (f k) (g k)) → lq3 (oI f n) (oI g n)
  | 0, _ => lq3.rf
  | n + 1, h => v3O_mo (oI_mo n (fun k hk => h k (by omega))) (h n (by omega))
theorem aI_mo {f g : Nat → Nat} : ∀ (n : Nat), (∀ k, k < n → lq3 (f k) (g k)) → lq3 (aI f n) (aI g n)
  | 0, _ => lq3.rf
  | n + 1, h => v3A_mo (aI_mo n (fun k hk => h k (by omega))) (h n (by omega))
theorem rcV_mo {st st' : Nat} {f g : Nat → Nat} (hs : lq3 st st') : ∀ (n : Nat), (∀ k, k < n → lq3 (f k) (g k)) → lq3 (rcV st f n) (rcV st' g n)
  | 0, _ => hs
  | n + 1, h => v3O_mo (rcV_mo hs n (fun k hk => h k (by omega))) (h n (by omega))
end
section
/-! least solutions: from nothing known on -/
section
variable {α : Type}
def Lq (v w : α → Nat) : Prop := ∀ i, lq3 (v i) (w i)
def MoF (F : (α → Nat) → α → Nat) : Prop := ∀ v w, Lq v w → Lq (F v) (F w)
/-- v lies on the way from nothing known to the least solution -/
def JF (F : (α → Nat) → α → Nat) (v : α → Nat) : Prop := Lq v (F v) ∧ ∀ B : α → Nat → Prop, (∀ i, B i 2) → (∀ u, (∀ i, B i (u i)) → ∀ i, B i (F u i)) → ∀ i, B i (v i)
variable {F : (α → Nat) → α → Nat} {v w v' : α → Nat}
theorem Lq.rf : Lq v v := fun _ => lq3.rf
theorem Lq.tr (h : Lq v w) (k : Lq w v') : Lq v v' := fun i => (h i).tr (k i)
theorem JF.st0 (h : ∀ i, v i = 2 ∨ ∀ u, F u i = v i) : JF F v := by
  refine ⟨fun i => ?_, fun B b0 b1 i => ?_⟩
  · rcases h i with e | e
    · exact Or.inl e
    · exact Or.inr (e v).symm
  · rcases h i with e | e
    · rw [e]; exact b0 i
    · rw [← e (fun _ => 2)]; exact b1 _ b0 i
theorem JF.st (hF : MoF F) (h : JF F v) (h1 : Lq v v') (h2 : ∀ i, v' i = v i ∨ v' i = F v i) : JF F v' := by
  have l2 : Lq v' (F v) := fun i => by
    rcases h2 i with e | e
    · rw [e]; exact h.1 i
    · rw [e]; exact lq3.rf
  refine ⟨l2.tr (hF v v' h1), fun B b0 b1 i => ?_⟩
  have bv := h.2 B b0 b1
  rcases h2 i with e | e
  · rw [e]; exact bv i
  · rw [e]; exact b1 v bv i
/-- one place becomes what the equations say of it -/
theorem JF.up (hF : MoF F) (h : JF F v) (h2 : ∀ i, v' i = v i ∨ v' i = F v i) : JF F v' ∧ Lq v v' := by
  have l : Lq v v' := fun i => by
    rcases h2 i with e | e
    · rw [e]; exact lq3.rf
    · rw [e]; exact h.1 i
  exact ⟨h.st hF l h2, l⟩
theorem JF.le (hF : MoF F) (h : JF F v) (hw : ∀ i, F w i = w i) : Lq v w := h.2 (fun i a => lq3 a (w i)) (fun _ => Or.inl rfl) (fun u hu i => by
  have q := hF u w hu i
  rw [hw i] at q
  exact q)
/-- how much is not known -/
def muU (v : α → Nat) : List α → Nat
  | [] => 0
  | i :: l => (if v i = 2 then 1 else 0) + muU v l
theorem muU_le (h : Lq v w) : ∀ (l : List α), muU w l ≤ muU v l
  | [] => Nat.le_refl _
  | i :: l => by
    have q := muU_le h l
    show (if w i = 2 then 1 else 0) + muU w l ≤ (if v i = 2 then 1 else 0) + muU v l
    rcases h i with e | e
    · rw [if_pos e]
      split <;> omega
    · rw [e]; omega
theorem muU_lt (h : Lq v w) : ∀ (l : List α) (i : α), i ∈ l → v i ≠ w i → muU w l < muU v l
  | [], _, hi, _ => absurd hi List.not_mem_nil
  | j :: l, i, hi, ne => by
    show (if w j = 2 then 1 else 0) + muU w l < (if v j = 2 then 1 else 0) + muU v l
    rcases List.mem_cons.mp hi with e | e
    · have q := muU_le h l
      rw [← e]
      rcases h i with z | z
      · rw [if_pos z, if_neg (fun y => ne (z.trans y.symm))]; omega
      · exact absurd z ne
    · have q := muU_lt h l i e ne
      rcases h j with z | z
      · rw [if_pos z]
        split <;> omega
      · rw [z]; omega
theorem muU_len : ∀ (l : List α), muU v l ≤ l.length
  | [] => Nat.le_refl _
  | i :: l => by
    have q := muU_len l
    show (if v i = 2 then 1 else 0) + muU v l ≤ l.length + 1
    split <;> omega
end
/-! what and, or, not respect -/
def Cg (r : Nat → Nat → Prop) : Prop := (∀ a, r a a) ∧ (∀ a a' c c', r a a' → r c c' → r (v3A a c) (v3A a' c')) ∧ (∀ a a' c c', r a a' → r c c' → r (v3O a c) (v3O a' c')) ∧ ∀ a a', r a a' → r (v3N a) (v3N a')
theorem Cg_lq : Cg lq3 := ⟨fun _ => lq3.rf, fun _ _ _ _ h k => v3A_mo h k, fun _ _ _ _ h k => v3O_mo h k, fun _ _ h => v3N_mo h⟩
theorem Cg_eq : Cg (fun a c => a = c) := ⟨fun _ => rfl, fun _ _ _ _ h k => by rw [h, k], fun _ _ _ _ h k => by rw [h, k], fun _ _ h => by rw [h]⟩
section
variable {r : Nat → Nat → Prop}
theorem Cg.oi (h : Cg r) {f g : Nat → Nat} : ∀ (n : Nat), (∀ k, k < n → r (f k) (g k)) → r (oI f n) (oI g n)
  | 0, _ => h.1 _
  | n + 1, k => h.2.2.1 _ _ _ _ (h.oi n (fun j hj => k j (by omega))) (k n (by omega))
theorem Cg.ai (h : Cg r) {f g : Nat → Nat} : ∀ (n : Nat), (∀ k, k < n → r (f k) (g k)) → r (aI f n) (aI g n)
  | 0, _ => h.1 _
  | n + 1, k => h.2.1 _ _ _ _ (h.ai n (fun j hj => k j (by omega))) (k n (by omega))
theorem Cg.rc (h : Cg r) {st st' : Nat} {f g : Nat → Nat} (hs : r st st') : ∀ (n : Nat), (∀ k, k < n → r (f k) (g k)) → r (rcV st f n) (rcV st' g n)
  | 0, _ => hs
  | n + 1, k => h.2.2.1 _ _ _ _ (h.rc hs n (fun j hj => k j (by omega))) (k n (by omega))
theorem Cg.cd1 (h : Cg r) {sv sv' bv : Nat → Nat} {V V' : List Nat} {d : Cd} (hs : d.1 = 0 → r (sv d.2.1) (sv' d.2.1)) (hV : ∀ k, r (V.getD k 0) (V'.getD k 0)) : r (cvD sv bv V d) (cvD sv' bv V' d) := by
  unfold cvD
  by_cases e0 : d.1 = 0
  · rw [if_pos e0, if_pos e0]; exact hs e0
  rw [if_neg e0, if_neg e0]
  by_cases e1 : d.1 = 1
  · rw [if_pos e1, if_pos e1]; exact h.1 _
  rw [if_neg e1, if_neg e1]
  by_cases e2 : d.1 = 2
  · rw [if_pos e2, if_pos e2]; exact h.2.2.2 _ _ (hV _)
  rw [if_neg e2, if_neg e2]
  by_cases e3 : d.1 = 3
  · rw [if_pos e3, if_pos e3]; exact h.2.1 _ _ _ _ (hV _) (hV _)
  rw [if_neg e3, if_neg e3]
  exact h.2.2.1 _ _ _ _ (hV _) (hV _)
theorem Cg.cf1 (h : Cg r) {sv sv' bv : Nat → Nat} : ∀ (Y : List Cd) (V V' : List Nat), (∀ d ∈ Y, d.1 = 0 → r (sv d.2.1) (sv' d.2.1)) → V.length = V'.length → (∀ k, r (V.getD k 0) (V'.getD k 0)) → ∀ k, r ((Y.foldl (fun V d => V ++ [cvD sv bv V d]) V).getD k 0) ((Y.foldl (fun V d => V ++ [cvD sv' bv V d]) V').getD k 0)
  | [], _, _, _, _, hV, k => hV k
  | d :: Y, V, V', hs, hl, hV, k => by
    refine Cg.cf1 h Y (V ++ [cvD sv bv V d]) (V' ++ [cvD sv' bv V' d]) (fun e he => hs e (List.mem_cons_of_mem _ he)) (by rw [List.length_append, List.length_append, hl]; rfl) (fun j => ?_) k
    by_cases z : j < V.length
    · rw [gdA z, gdA (by omega)]; exact hV j
    · obtain ⟨q, eq⟩ : ∃ q, j = V.length + q := ⟨j - V.length, by omega⟩
      rw [eq, gdC, hl, gdC]
      cases q with
      | zero => exact h.cd1 (hs d List.mem_cons_self) hV
      | succ q => exact h.1 _
theorem Cg.cl1 (h : Cg r) {sv sv' bv : Nat → Nat} {Y : List Cd} (hs : ∀ d ∈ Y, d.1 = 0 → r (sv d.2.1) (sv' d.2.1)) (k : Nat) : r ((cvL sv bv Y).getD k 0) ((cvL sv' bv Y).getD k 0) := h.cf1 Y [] [] hs rfl (fun _ => h.1 _) k
end
end
section
/-! the reference's equations of a beat -/
/-- a module of the reference: its number, nodes, their children, parts, masks, numbers, codes, conditions, signals, their sorts -/
abbrev RMo : Type := Nat × RBs × (Nat → List Nat) × (Nat → Nat → Int32) × (Nat → Int32) × (Nat → Int32) × Nat × List Cd × Nat × (Nat → Int32)
/-- what a beat begins with: pauses set, signals before, truths of ifs by part, first, inputs -/
abbrev RIn : Type := Int32 × (Nat → Nat) × (Nat → Nat) × Nat × (Nat → Nat)
def moM (R : RMo) : Nat := R.1
def moS (R : RMo) : RBs := R.2.1
def moG (R : RMo) : Nat → List Nat := R.2.2.1
def moA (R : RMo) : Nat → Nat → Int32 := R.2.2.2.1
def moK (R : RMo) : Nat → Int32 := R.2.2.2.2.1
def moN (R : RMo) : Nat → Int32 := R.2.2.2.2.2.1
def moC (R : RMo) : Nat := R.2.2.2.2.2.2.1
def moY (R : RMo) : List Cd := R.2.2.2.2.2.2.2.1
def moQ (R : RMo) : Nat := R.2.2.2.2.2.2.2.2.1
def moT (R : RMo) : Nat → Int32 := R.2.2.2.2.2.2.2.2.2
def iSet (I : RIn) : Int32 := I.1
def iBf (I : RIn) : Nat → Nat := I.2.1
def iTr (I : RIn) : Nat → Nat := I.2.2.1
def iFi (I : RIn) : Nat := I.2.2.2.1
def iGv (I : RIn) : Nat → Nat := I.2.2.2.2
/-- places: (0 go, 1 res, 2 susp, 3 kill; node), (4; node; code), (5; signal) -/
abbrev Plc : Type := Nat × Nat × Nat
def hvM (set mask : Int32) : Nat := if set &&& mask = 0 then 0 else 1
def hdV (set mask : Int32) (a : Nat) : Nat := v3A a (hvM set mask)
theorem hdV_if {set mask : Int32} {a : Nat} (h : a ≤ 2) : hdV set mask a = if set &&& mask = 0 then 0 else a := by
  unfold hdV hvM
  by_cases z : set &&& mask = 0
  · rw [if_pos z, if_pos z, v3A_0.2]
  · rw [if_neg z, if_neg z, (v3A_1 h).2]
section
variable (R : RMo) (I : RIn)
def cndR (ρ : Plc → Nat) (p : Nat) : Nat := (cvL (fun s => ρ (5, s, 0)) (iBf I) (moY R)).getD ((moA R 63 p).toNatClampNeg - 410 * moM R) 0
def lokR (ρ : Plc → Nat) (y : Nat) : Nat := if (moS R).2 80 y = 5 then iTr I ((moS R).2 81 y).toNatClampNeg else cndR R I ρ ((moS R).2 81 y).toNatClampNeg
def upR (y : Nat) : Nat := ((moS R).2 86 y).toNatClampNeg
def enR (ρ : Plc → Nat) (c y : Nat) : Nat :=
  if (moS R).2 86 y = -1 then (if c = 0 then (if iFi I = 1 then 1 else 0) else if c = 1 then (if iFi I = 1 then 0 else 1) else 0)
  else if c = 0 then (if (moS R).2 80 (upR R y) = 4 ∨ (moS R).2 80 (upR R y) = 5 then v3A (ρ (0, upR R y, 0)) (if (moS R).2 85 y = -1 then lokR R I ρ (upR R y) else v3N (lokR R I ρ (upR R y))) else if (moS R).2 80 (upR R y) = 6 then (if (moS R).2 85 y = -1 then ρ (0, upR R y, 0) else ρ (4, ((moS R).2 85 y).toNatClampNeg, 0)) else if (moS R).2 80 (upR R y) = 7 then v3O (ρ (0, upR R y, 0)) (ρ (4, y, 0)) else ρ (0, upR R y, 0))
  else if c = 1 then (if (moS R).2 80 (upR R y) = 8 then v3A (hdV (iSet I) (moK R (upR R y)) (ρ (1, upR R y, 0))) (v3N (lokR R I ρ (upR R y))) else ρ (1, upR R y, 0))
  else if c = 2 then (if (moS R).2 80 (upR R y) = 8 then v3O (ρ (2, upR R y, 0)) (v3A (hdV (iSet I) (moK R (upR R y)) (ρ (1, upR R y, 0))) (lokR R I ρ (upR R y))) else ρ (2, upR R y, 0))
  else (if (moS R).2 80 (upR R y) = 10 then v3O (ρ (3, upR R y, 0)) (ρ (4, y, 2)) else ρ (3, upR R y, 0))
def orR (ρ : Plc → Nat) (y n : Nat) : Nat := oI (fun i => ρ (4, (moG R y).getD i 0, n)) (moG R y).length
def rsR (ρ : Plc → Nat) (y c : Nat) : Nat := v3A (v3A (ρ (1, y, 0)) (hvM (iSet I) (moK R y))) (v3N (hvM (iSet I) (moK R c)))
def alF (ρ : Plc → Nat) (y n : Nat) : Nat → Nat
  | 0 => orR R ρ y n
  | i + 1 => v3A (alF ρ y n i) (rcV (rsR R I ρ y ((moG R y).getD i 0)) (fun j => ρ (4, (moG R y).getD i 0, j)) (n + 1))
def cdR (ρ : Plc → Nat) (y n : Nat) : Nat :=
  if (moS R).2 80 y = 2 then (if n = 1 then ρ (0, y, 0) else if n = 0 then hdV (iSet I) (moK R y) (ρ (1, y, 0)) else 0)
  else if (moS R).2 80 y = 3 then (if Int32.ofNat n = moN R y then ρ (0, y, 0) else 0)
  else if (moS R).2 80 y = 4 ∨ (moS R).2 80 y = 5 then (if n = 0 ∧ (moS R).2 84 ((moG R y).getD 0 0) = -1 then v3O (orR R ρ y n) (v3A (ρ (0, y, 0)) (v3N (lokR R I ρ y))) else orR R ρ y n)
  else if (moS R).2 80 y = 6 then (if n = 0 then ρ (4, (moG R y).getLastD 0, 0) else orR R ρ y n)
  else if (moS R).2 80 y = 7 then (if n = 0 then 0 else ρ (4, (moG R y).getD 0 0, n))
  else if (moS R).2 80 y = 8 then (if n = 1 then v3O (ρ (4, (moG R y).getD 0 0, 1)) (v3A (hdV (iSet I) (moK R y) (ρ (1, y, 0))) (lokR R I ρ y)) else ρ (4, (moG R y).getD 0 0, n))
  else if (moS R).2 80 y = 9 then alF R I ρ y n (moG R y).length
  else if (moS R).2 80 y = 10 then (if n = 0 then v3O (ρ (4, (moG R y).getD 0 0, 0)) (ρ (4, (moG R y).getD 0 0, 2)) else if n = 1 then ρ (4, (moG R y).getD 0 0, 1) else if n + 1 < moC R then ρ (4, (moG R y).getD 0 0, n + 1) else 0)
  else (if n = 0 then ρ (0, y, 0) else 0)
/-- node 700 m + k emits signal s -/
abbrev emK (s k : Nat) : Prop := (moS R).2 80 (700 * moM R + k) = 1 ∧ moA R 60 ((moS R).2 81 (700 * moM R + k)).toNatClampNeg = Int32.ofNat s
def emR (ρ : Plc → Nat) (s : Nat) : Nat → Nat
  | 0 => 0
  | k + 1 => if emK R s k then v3O (emR ρ s k) (ρ (0, 700 * moM R + k, 0)) else emR ρ s k
abbrev inR (y : Nat) : Prop := 700 * moM R ≤ y ∧ y < 700 * moM R + (moS R).1
def FrA (ρ : Plc → Nat) (c y n : Nat) : Nat :=
  if c ≤ 3 then (if inR R y ∧ n = 0 then enR R I ρ c y else 2)
  else if c = 4 then (if inR R y ∧ n < moC R then cdR R I ρ y n else 2)
  else if c = 5 ∧ y < moQ R ∧ n = 0 then (if moT R y = 0 then iGv I y else emR R ρ y (moS R).1) else 2
def FrR (ρ : Plc → Nat) (i : Plc) : Nat := FrA R I ρ i.1 i.2.1 i.2.2
end
section
variable {R : RMo} {I : RIn} {ρ ρ' : Plc → Nat}
theorem hdV_mo {set mask : Int32} {a a' : Nat} (h : lq3 a a') : lq3 (hdV set mask a) (hdV set mask a') := v3A_mo h lq3.rf
theorem cndR_mo (h : Lq ρ ρ') (p : Nat) : lq3 (cndR R I ρ p) (cndR R I ρ' p) := Cg_lq.cl1 (fun d _ _ => h (5, d.2.1, 0)) _
theorem lokR_mo (h : Lq ρ ρ') (y : Nat) : lq3 (lokR R I ρ y) (lokR R I ρ' y) := by
  unfold lokR
  by_cases z : (moS R).2 80 y = 5
  · rw [if_pos z, if_pos z]; exact lq3.rf
  · rw [if_neg z, if_neg z]; exact cndR_mo h _
theorem if_mo {p : Prop} [Decidable p] {a a' c c' : Nat} (h : p → lq3 a a') (k : ¬ p → lq3 c c') : lq3 (if p then a else c) (if p then a' else c') := by
  by_cases z : p
  · rw [if_pos z, if_pos z]; exact h z
  · rw [if_neg z, if_neg z]; exact k z
theorem enR_mo (h : Lq ρ ρ') (c y : Nat) : lq3 (enR R I ρ c y) (enR R I ρ' c y) := by
  unfold enR
  refine if_mo (fun _ => lq3.rf) (fun _ => if_mo (fun _ => if_mo (fun _ => v3A_mo (h _) (if_mo (fun _ => lokR_mo h _) (fun _ => v3N_mo (lokR_mo h _)))) (fun _ => if_mo (fun _ => if_mo (fun _ => h _) (fun _ => h _)) (fun _ => if_mo (fun _ => v3O_mo (h _) (h _)) (fun _ => h _)))) (fun _ => if_mo (fun _ => if_mo (fun _ => v3A_mo (hdV_mo (h _)) (v3N_mo (lokR_mo h _))) (fun _ => h _)) (fun _ => if_mo (fun _ => if_mo (fun _ => v3O_mo (h _) (v3A_mo (hdV_mo (h _)) (lokR_mo h _))) (fun _ => h _)) (fun _ => if_mo (fun _ => v3O_mo (h _) (h _)) (fun _ => h _)))))
theorem orR_mo (h : Lq ρ ρ') (y n : Nat) : lq3 (orR R ρ y n) (orR R ρ' y n) := oI_mo _ (fun k _ => h _)
theorem rsR_mo (h : Lq ρ ρ') (y c : Nat) : lq3 (rsR R I ρ y c) (rsR R I ρ' y c) := by
  unfold rsR
  exact v3A_mo (v3A_mo (h _) lq3.rf) lq3.rf
theorem alF_mo (h : Lq ρ ρ') (y n : Nat) : ∀ i, lq3 (alF R I ρ y n i) (alF R I ρ' y n i)
  | 0 => orR_mo h y n
  | i + 1 => v3A_mo (alF_mo h y n i) (rcV_mo (rsR_mo h _ _) _ (fun k _ => h _))
theorem cdR_mo (h : Lq ρ ρ') (y n : Nat) : lq3 (cdR R I ρ y n) (cdR R I ρ' y n) := by
  unfold cdR
  refine if_mo (fun _ => if_mo (fun _ => h _) (fun _ => if_mo (fun _ => hdV_mo (h _)) (fun _ => lq3.rf))) (fun _ => if_mo (fun _ => if_mo (fun _ => h _) (fun _ => lq3.rf)) (fun _ => if_mo (fun _ => if_mo (fun _ => v3O_mo (orR_mo h _ _) (v3A_mo (h _) (v3N_mo (lokR_mo h _)))) (fun _ => orR_mo h _ _)) (fun _ => if_mo (fun _ => if_mo (fun _ => h _) (fun _ => orR_mo h _ _)) (fun _ => if_mo (fun _ => if_mo (fun _ => lq3.rf) (fun _ => h _)) (fun _ => if_mo (fun _ => if_mo (fun _ => v3O_mo (h _) (v3A_mo (hdV_mo (h _)) (lokR_mo h _))) (fun _ => h _)) (fun _ => if_mo (fun _ => alF_mo h _ _ _) (fun _ => if_mo (fun _ => if_mo (fun _ => v3O_mo (h _) (h _)) (fun _ => if_mo (fun _ => h _) (fun _ => if_mo (fun _ => h _) (fun _ => lq3.rf)))) (fun _ => if_mo (fun _ => h _) (fun _ => lq3.rf)))))))))
theorem emR_mo (h : Lq ρ ρ') (s : Nat) : ∀ k, lq3 (emR R ρ s k) (emR R ρ' s k)
  | 0 => lq3.rf
  | k + 1 => if_mo (fun _ => v3O_mo (emR_mo h s k) (h _)) (fun _ => emR_mo h s k)
theorem FrR_mo : MoF (FrR R I) := by
  intro ρ ρ' h i
  unfold FrR FrA
  exact if_mo (fun _ => if_mo (fun _ => enR_mo h _ _) (fun _ => lq3.rf)) (fun _ => if_mo (fun _ => if_mo (fun _ => cdR_mo h _ _) (fun _ => lq3.rf)) (fun _ => if_mo (fun _ => if_mo (fun _ => lq3.rf) (fun _ => emR_mo h _ _)) (fun _ => lq3.rf)))
end
end
section
/-! a node of the reference and its node of the class: one step -/
def PkR (W : Wo) (R : RMo) (y x : Nat) : Prop :=
  ((woV W x).1 = 5 ∧ (moS R).2 80 y = 6 ∧ 2 ≤ (moG R y).length ∧ (moG R y).length = (chV W x).length)
  ∨ ((woV W x).1 = 0 ∧ chV W x = [] ∧ (moS R).2 80 y = 0 ∧ moG R y = [])
  ∨ ((woV W x).1 = 1 ∧ chV W x = [] ∧ (moS R).2 80 y = 2 ∧ moG R y = [])
  ∨ ((woV W x).1 = 2 ∧ chV W x = [] ∧ (moS R).2 80 y = 1 ∧ moG R y = [])
  ∨ ((woV W x).1 = 3 ∧ chV W x = [] ∧ (moS R).2 80 y = 3 ∧ moG R y = [])
  ∨ ((woV W x).1 = 4 ∧ ((moS R).2 80 y = 4 ∨ (moS R).2 80 y = 5) ∧ ∃ c1 c2 d1, chV W x = [c1, c2] ∧ ((moG R y = [d1] ∧ (woV W c2).1 = 0 ∧ chV W c2 = []) ∨ ∃ d2, moG R y = [d1, d2]))
  ∨ ((woV W x).1 = 6 ∧ (moS R).2 80 y = 7 ∧ ∃ c d, chV W x = [c] ∧ moG R y = [d])
  ∨ ((woV W x).1 = 7 ∧ (moS R).2 80 y = 8 ∧ ∃ c d, chV W x = [c] ∧ moG R y = [d])
  ∨ ((woV W x).1 = 8 ∧ (moS R).2 80 y = 9 ∧ 1 ≤ (moG R y).length ∧ (moG R y).length = (chV W x).length)
  ∨ ((woV W x).1 = 9 ∧ (moS R).2 80 y = 10 ∧ ∃ c d, chV W x = [c] ∧ moG R y = [d])
def cs1 (W : Wo) (x : Nat) : Prop := (woV W x).1 = 5 ∧ (chV W x).length = 1
def vwM (R : RMo) : Vwr := vwR (moS R) (moG R)
def hiM (R : RMo) : Nat := 700 * moM R + (moS R).1
theorem RpN.pk {W : Wo} {R : RMo} {zn fn g y x p p' : Nat} {cx : List (Option Nat)} (h : RpN W (moM R) zn fn (vwM R) (hiM R) g cx y x p p') (hne : ¬ cs1 W x) : PkR W R y x := by
  cases g with
  | zero => unfold RpN at h; exact h.elim
  | succ g =>
    unfold RpN at h
    obtain ⟨-, h⟩ := h
    unfold PkR
    rcases h with ⟨a, c, b1, b2⟩ | ⟨a, b1, b2, b3⟩ | ⟨a, b1, b2, b3, -⟩ | ⟨a, -, b1, b2, b3, -⟩ | ⟨a, b1, b2, b3, -⟩ | ⟨a, b1, b2, b3, -⟩ | ⟨a, b1, c1, c2, d1, pm, b2, b3, b4⟩ | ⟨a, b1, c, d, b2, b3, b4⟩ | ⟨a, b1, b5, c, d, b2, b3, b4⟩ | ⟨a, b1, b2, b3⟩ | ⟨a, b1, c, d, t, b2, b3, b4, b5⟩
    · exact absurd ⟨a, by show (woV W x).2.2.2.length = 1; rw [b1]; rfl⟩ hne
    · exact Or.inl ⟨a, b1, b2, RpLs.ln _ _ _ _ b3⟩
    · exact Or.inr (Or.inl ⟨a, b1, b2, b3⟩)
    · exact Or.inr (Or.inr (Or.inl ⟨a, b1, b2, b3⟩))
    · exact Or.inr (Or.inr (Or.inr (Or.inl ⟨a, b1, b2, b3⟩)))
    · exact Or.inr (Or.inr (Or.inr (Or.inr (Or.inl ⟨a, b1, b2, b3⟩))))
    · refine Or.inr (Or.inr (Or.inr (Or.inr (Or.inr (Or.inl ⟨a, ?_, c1, c2, d1, b2, ?_⟩)))))
      · rcases b1 with q | q
        · exact Or.inl q.1
        · exact Or.inr q.1
      · rcases b4 with ⟨q1, q2, q3, -⟩ | ⟨d2, q, -⟩
        · exact Or.inl ⟨q1, q2, q3⟩
        · exact Or.inr ⟨d2, q⟩
    · exact Or.inr (Or.inr (Or.inr (Or.inr (Or.inr (Or.inr (Or.inl ⟨a, b1, c, d, b2, b3⟩))))))
    · exact Or.inr (Or.inr (Or.inr (Or.inr (Or.inr (Or.inr (Or.inr (Or.inl ⟨a, b1, c, d, b2, b3⟩)))))))
    · exact Or.inr (Or.inr (Or.inr (Or.inr (Or.inr (Or.inr (Or.inr (Or.inr (Or.inl ⟨a, b1, b2, RpLs.ln _ _ _ _ b3⟩))))))))
    · exact Or.inr (Or.inr (Or.inr (Or.inr (Or.inr (Or.inr (Or.inr (Or.inr (Or.inr ⟨a, b1, c, d, b2, b3⟩))))))))
/-! the class's equations of wires -/
section
variable (V : Vw) (hv : Nat → Nat) (cv ck : Nat → Nat → Nat) (co cc : Nat → Nat)
def aC (x i n : Nat) : Nat := acV (V x).1 (cv 1 x) (hv x) (cc x) (fun n => enV (V x).1 (V x).2.2.1.toNatClampNeg n (cv 0 x) (cv 1 x) (hv x)) (fun i n => ck ((V x).2.2.2.getD i 0) n) i n
def jbC (x n : Nat) : Nat := v3A (oI (fun i => ck ((V x).2.2.2.getD i 0) n) (V x).2.2.2.length) (aI (fun i => rcV (v3A (v3A (cv 1 x) (hv x)) (v3N (hv ((V x).2.2.2.getD i 0)))) (fun j => ck ((V x).2.2.2.getD i 0) j) (n + 1)) (V x).2.2.2.length)
def CEa (x i : Nat) : Prop := cv 0 ((V x).2.2.2.getD i 0) = arG (V x).1 (decide (i = 0)) (cv 0 x) (cc x) (aC V hv cv ck cc x i 0) (co x) ∧ cv 1 ((V x).2.2.2.getD i 0) = arR (V x).1 (cv 1 x) (hv x) (cc x) ∧ cv 2 ((V x).2.2.2.getD i 0) = arS (V x).1 (cv 2 x) (cv 1 x) (hv x) (cc x) ∧ cv 3 ((V x).2.2.2.getD i 0) = arK (V x).1 (cv 3 x) (co x)
def CEk (x n : Nat) : Prop := ck x n = if (V x).1 = 8 then jbC V hv cv ck x n else aC V hv cv ck cc x (V x).2.2.2.length n
def CEq (x : Nat) : Prop := (∀ i, i < (V x).2.2.2.length → CEa V hv cv ck co cc x i) ∧ ∀ n, n < 20 → CEk V hv cv ck cc x n
end
theorem acS {k : Int32} {rs hv cd i : Nat} {a0 : Nat → Nat} {K : Nat → Nat → Nat} (h : k ≠ 8) (n : Nat) : acV k rs hv cd a0 K (i + 1) n = lvV k n (acV k rs hv cd a0 K i) (K i) rs hv cd := by
  show (if k = 8 then acV k rs hv cd a0 K i n else lvV k n (acV k rs hv cd a0 K i) (K i) rs hv cd) = lvV k n (acV k rs hv cd a0 K i) (K i) rs hv cd
  rw [if_neg h]
theorem acV5 {rs hv cd : Nat} {a0 : Nat → Nat} {K : Nat → Nat → Nat} (h : ∀ n, n ≠ 0 → a0 n = 0) : (∀ i, acV 5 rs hv cd a0 K (i + 1) 0 = K i 0) ∧ ∀ i n, n ≠ 0 → acV 5 rs hv cd a0 K i n = oI (fun j => K j n) i := by
  refine ⟨fun i => ?_, fun i n hn => ?_⟩
  · rw [acS (by decide)]
    unfold lvV
    rw [if_neg (by decide), if_pos rfl, if_pos rfl]
  · induction i with
    | zero => exact h n hn
    | succ i ih =>
      rw [acS (by decide)]
      show lvV 5 n (acV 5 rs hv cd a0 K i) (K i) rs hv cd = v3O (oI (fun j => K j n) i) (K i n)
      unfold lvV
      rw [if_neg (by decide), if_pos rfl, if_neg hn, ih]
/-! children of the reference's node -/
section
variable {R : RMo} {I : RIn} {ρ : Plc → Nat} {y i : Nat}
def frM (R : RMo) : Prop := RgB (moM R) (moS R) (moG R)
theorem kid_up (hG : frM R) (hy : inR R y) (hi : i < (moG R y).length) : (moS R).2 86 ((moG R y).getD i 0) ≠ -1 ∧ upR R ((moG R y).getD i 0) = y ∧ ((moS R).2 85 ((moG R y).getD i 0) = -1 ↔ i = 0) ∧ (∀ j, i = j + 1 → ((moS R).2 85 ((moG R y).getD i 0)).toNatClampNeg = (moG R y).getD j 0) ∧ inR R ((moG R y).getD i 0) := by
  obtain ⟨⟨m4, s7⟩, g1, -⟩ := hG
  obtain ⟨hy1, hy2⟩ := id hy
  obtain ⟨⟨-, -, l3, l4, l5⟩, -, l6⟩ := g1 y hy.1 hy.2
  have mem : (moG R y).getD i 0 ∈ moG R y := gd_in hi
  have e86 := l4 _ mem
  have y31 : y < 100000 := by omega
  have b6 := l6 _ mem
  refine ⟨by rw [e86]; exact nm32 (by omega), by unfold upR; rw [e86]; exact lt32 (by omega), ⟨fun z => ?_, fun z => ?_⟩, fun j hj => ?_, b6⟩
  · cases i with
    | zero => rfl
    | succ j =>
      have e := (l3 j hi).2
      rw [e] at z
      have := l6 _ (gd_in (l := moG R y) (i := j) (by omega))
      exact absurd z (nm32 (by omega))
  · subst z
    have ne : moG R y ≠ [] := fun e => by rw [e] at hi; exact absurd hi (Nat.not_lt_zero _)
    have q := (l5 ne).2
    have e : (moG R y).headD 0 = (moG R y).getD 0 0 := by cases moG R y <;> rfl
    rw [e] at q
    exact q
  · subst hj
    rw [(l3 j hi).2]
    have := l6 _ (gd_in (l := moG R y) (i := j) (by omega))
    exact lt32 (by omega)
end
end
section
/-! a child's wires, a node's codes: reference against class -/
section
variable {W : Wo} {R : RMo} {I : RIn} {ρ : Plc → Nat} {hv : Nat → Nat} {cv ck : Nat → Nat → Nat} {co cc : Nat → Nat} {r : Nat → Nat → Prop} {y x i : Nat}
/-- wires and codes of y and x -/
def Mw (r : Nat → Nat → Prop) (ρ : Plc → Nat) (cv : Nat → Nat → Nat) (y x : Nat) : Prop := ∀ c, c ≤ 3 → r (ρ (c, y, 0)) (cv c x)
def Mk (r : Nat → Nat → Prop) (ρ : Plc → Nat) (ck : Nat → Nat → Nat) (km y x : Nat) : Prop := ∀ n, n < km → r (ρ (4, y, n)) (ck x n)
theorem L_ar (hc : Cg r) (hG : frM R) (hy : inR R y) (hP : PkR W R y x) (hE : CEq (woV W) hv cv ck co cc x) (hi : i < (moG R y).length) (hm : hv x = hvM (iSet I) (moK R y)) (hw : Mw r ρ cv y x) (hl : (woV W x).1 = 4 ∨ (woV W x).1 = 7 → r (lokR R I ρ y) (cc x)) (hk : ∀ j, i = j + 1 → r (ρ (4, (moG R y).getD j 0, 0)) (ck ((chV W x).getD j 0) 0)) (h6 : (woV W x).1 = 6 → r (v3O (ρ (0, y, 0)) (ρ (4, (moG R y).getD i 0, 0))) (co x)) (h9 : (woV W x).1 = 9 → r (v3O (ρ (3, y, 0)) (ρ (4, (moG R y).getD i 0, 2))) (co x)) : ∀ c, c ≤ 3 → r (enR R I ρ c ((moG R y).getD i 0)) (cv c ((chV W x).getD i 0)) := by
  obtain ⟨k1, k2, k3, k4, -⟩ := kid_up hG hy hi
  obtain ⟨d, ed⟩ : ∃ d, d = (moG R y).getD i 0 := ⟨_, rfl⟩
  rw [← ed] at k1 k2 k3 k4 h6 h9 ⊢
  have w0 := hw 0 (by decide)
  have w1 := hw 1 (by decide)
  have w2 := hw 2 (by decide)
  have w3 := hw 3 (by decide)
  -- the kinds
  have kk : ((woV W x).1 = 4 ∧ ((moS R).2 80 y = 4 ∨ (moS R).2 80 y = 5)) ∨ ((woV W x).1 = 5 ∧ (moS R).2 80 y = 6) ∨ ((woV W x).1 = 6 ∧ (moS R).2 80 y = 7) ∨ ((woV W x).1 = 7 ∧ (moS R).2 80 y = 8) ∨ ((woV W x).1 = 8 ∧ (moS R).2 80 y = 9) ∨ ((woV W x).1 = 9 ∧ (moS R).2 80 y = 10) := by
    have no : moG R y = [] → False := fun e => by rw [e] at hi; exact absurd hi (Nat.not_lt_zero _)
    rcases hP with ⟨a, b, -⟩ | ⟨-, -, -, e⟩ | ⟨-, -, -, e⟩ | ⟨-, -, -, e⟩ | ⟨-, -, -, e⟩ | ⟨a, b, -⟩ | ⟨a, b, -⟩ | ⟨a, b, -⟩ | ⟨a, b, -⟩ | ⟨a, b, -⟩
    · exact Or.inr (Or.inl ⟨a, b⟩)
    · exact (no e).elim
    · exact (no e).elim
    · exact (no e).elim
    · exact (no e).elim
    · exact Or.inl ⟨a, b⟩
    · exact Or.inr (Or.inr (Or.inl ⟨a, b⟩))
    · exact Or.inr (Or.inr (Or.inr (Or.inl ⟨a, b⟩)))
    · exact Or.inr (Or.inr (Or.inr (Or.inr (Or.inl ⟨a, b⟩))))
    · exact Or.inr (Or.inr (Or.inr (Or.inr (Or.inr ⟨a, b⟩))))
  have il : i < (chV W x).length := by
    rcases hP with ⟨-, -, -, e⟩ | ⟨-, -, -, e⟩ | ⟨-, -, -, e⟩ | ⟨-, -, -, e⟩ | ⟨-, -, -, e⟩ | ⟨-, -, c1, c2, d1, e1, e⟩ | ⟨-, -, c, d', e1, e⟩ | ⟨-, -, c, d', e1, e⟩ | ⟨-, -, -, e⟩ | ⟨-, -, c, d', e1, e⟩
    · omega
    · rw [e] at hi; exact absurd hi (Nat.not_lt_zero _)
    · rw [e] at hi; exact absurd hi (Nat.not_lt_zero _)
    · rw [e] at hi; exact absurd hi (Nat.not_lt_zero _)
    · rw [e] at hi; exact absurd hi (Nat.not_lt_zero _)
    · rw [e1]
      show i < 2
      rcases e with ⟨e, -⟩ | ⟨d2, e⟩
      · rw [e] at hi; have hi : i < 1 := hi; omega
      · rw [e] at hi; exact hi
    · rw [e1]; rw [e] at hi; exact hi
    · rw [e1]; rw [e] at hi; exact hi
    · omega
    · rw [e1]; rw [e] at hi; exact hi
  obtain ⟨q0, q1, q2, q3⟩ := hE.1 i il
  have q0 : cv 0 ((chV W x).getD i 0) = arG (woV W x).1 (decide (i = 0)) (cv 0 x) (cc x) (aC (woV W) hv cv ck cc x i 0) (co x) := q0
  have q1 : cv 1 ((chV W x).getD i 0) = arR (woV W x).1 (cv 1 x) (hv x) (cc x) := q1
  have q2 : cv 2 ((chV W x).getD i 0) = arS (woV W x).1 (cv 2 x) (cv 1 x) (hv x) (cc x) := q2
  have q3 : cv 3 ((chV W x).getD i 0) = arK (woV W x).1 (cv 3 x) (co x) := q3
  -- what the reference does, by rows
  have z0 : enR R I ρ 0 d = (if (moS R).2 80 y = 4 ∨ (moS R).2 80 y = 5 then v3A (ρ (0, y, 0)) (if (moS R).2 85 d = -1 then lokR R I ρ y else v3N (lokR R I ρ y)) else if (moS R).2 80 y = 6 then (if (moS R).2 85 d = -1 then ρ (0, y, 0) else ρ (4, ((moS R).2 85 d).toNatClampNeg, 0)) else if (moS R).2 80 y = 7 then v3O (ρ (0, y, 0)) (ρ (4, d, 0)) else ρ (0, y, 0)) := by
    unfold enR
    rw [if_neg k1, if_pos rfl, k2]
  have z1 : enR R I ρ 1 d = (if (moS R).2 80 y = 8 then v3A (hdV (iSet I) (moK R y) (ρ (1, y, 0))) (v3N (lokR R I ρ y)) else ρ (1, y, 0)) := by
    unfold enR
    rw [if_neg k1, if_neg (by decide), if_pos rfl, k2]
  have z2 : enR R I ρ 2 d = (if (moS R).2 80 y = 8 then v3O (ρ (2, y, 0)) (v3A (hdV (iSet I) (moK R y) (ρ (1, y, 0))) (lokR R I ρ y)) else ρ (2, y, 0)) := by
    unfold enR
    rw [if_neg k1, if_neg (by decide), if_neg (by decide), if_pos rfl, k2]
  have z3 : enR R I ρ 3 d = (if (moS R).2 80 y = 10 then v3O (ρ (3, y, 0)) (ρ (4, d, 2)) else ρ (3, y, 0)) := by
    unfold enR
    rw [if_neg k1, if_neg (by decide), if_neg (by decide), if_neg (by decide), k2]
  have a1 : (moS R).2 80 y ≠ 8 → (woV W x).1 ≠ 7 → r (enR R I ρ 1 d) (cv 1 ((chV W x).getD i 0)) := fun n1 n2 => by
    rw [z1, if_neg n1, q1]; unfold arR; rw [if_neg n2]; exact w1
  have a2 : (moS R).2 80 y ≠ 8 → (woV W x).1 ≠ 7 → r (enR R I ρ 2 d) (cv 2 ((chV W x).getD i 0)) := fun n1 n2 => by
    rw [z2, if_neg n1, q2]; unfold arS; rw [if_neg n2]; exact w2
  have a3 : (moS R).2 80 y ≠ 10 → (woV W x).1 ≠ 9 → r (enR R I ρ 3 d) (cv 3 ((chV W x).getD i 0)) := fun n1 n2 => by
    rw [z3, if_neg n1, q3]; unfold arK; rw [if_neg n2]; exact w3
  have a0 : ((moS R).2 80 y = 8 ∨ (moS R).2 80 y = 9 ∨ (moS R).2 80 y = 10) → ((woV W x).1 = 7 ∨ (woV W x).1 = 8 ∨ (woV W x).1 = 9) → r (enR R I ρ 0 d) (cv 0 ((chV W x).getD i 0)) := fun n1 n2 => by
    have m1 : ¬ ((moS R).2 80 y = 4 ∨ (moS R).2 80 y = 5) ∧ ¬ (moS R).2 80 y = 6 ∧ ¬ (moS R).2 80 y = 7 := by
      rcases n1 with e | e | e <;> rw [e] <;> decide
    have m2 : ¬ (woV W x).1 = 4 ∧ ¬ (woV W x).1 = 5 ∧ ¬ (woV W x).1 = 6 := by
      rcases n2 with e | e | e <;> rw [e] <;> decide
    rw [z0, q0]
    unfold arG
    rw [if_neg m1.1, if_neg m1.2.1, if_neg m1.2.2, if_neg m2.1, if_neg m2.2.1, if_neg m2.2.2]
    exact w0
  have all : r (enR R I ρ 0 d) (cv 0 ((chV W x).getD i 0)) → r (enR R I ρ 1 d) (cv 1 ((chV W x).getD i 0)) → r (enR R I ρ 2 d) (cv 2 ((chV W x).getD i 0)) → r (enR R I ρ 3 d) (cv 3 ((chV W x).getD i 0)) → ∀ c, c ≤ 3 → r (enR R I ρ c d) (cv c ((chV W x).getD i 0)) := fun b0 b1 b2 b3 c c3 => by
    have : c = 0 ∨ c = 1 ∨ c = 2 ∨ c = 3 := by omega
    rcases this with e | e | e | e <;> rw [e]
    · exact b0
    · exact b1
    · exact b2
    · exact b3
  rcases kk with ⟨a, b⟩ | ⟨a, b⟩ | ⟨a, b⟩ | ⟨a, b⟩ | ⟨a, b⟩ | ⟨a, b⟩
  · have hl := hl (Or.inl a)
    refine all ?_ (a1 (by rcases b with e | e <;> rw [e] <;> decide) (by rw [a]; decide)) (a2 (by rcases b with e | e <;> rw [e] <;> decide) (by rw [a]; decide)) (a3 (by rcases b with e | e <;> rw [e] <;> decide) (by rw [a]; decide))
    rw [z0, if_pos b, q0]
    unfold arG
    rw [if_pos a]
    by_cases z : i = 0
    · rw [if_pos (k3.mpr z), if_pos (show decide (i = 0) = true by rw [z]; rfl)]
      exact hc.2.1 _ _ _ _ w0 hl
    · rw [if_neg (fun e => z (k3.mp e)), if_neg (show ¬ decide (i = 0) = true by rw [decide_eq_true_eq]; exact z)]
      exact hc.2.1 _ _ _ _ w0 (hc.2.2.2 _ _ hl)
  · refine all ?_ (a1 (by rw [b]; decide) (by rw [a]; decide)) (a2 (by rw [b]; decide) (by rw [a]; decide)) (a3 (by rw [b]; decide) (by rw [a]; decide))
    have zz : enR R I ρ 0 d = (if (moS R).2 85 d = -1 then ρ (0, y, 0) else ρ (4, ((moS R).2 85 d).toNatClampNeg, 0)) := by rw [z0, if_neg (by rw [b]; decide), if_pos b]
    have qq : cv 0 ((chV W x).getD i 0) = aC (woV W) hv cv ck cc x i 0 := by
      rw [q0]
      unfold arG
      rw [if_neg (by rw [a]; decide), if_pos a]
    rw [zz, qq]
    unfold aC
    rw [a]
    cases i with
    | zero =>
      rw [if_pos (k3.mpr rfl)]
      show r _ (enV 5 _ 0 (cv 0 x) (cv 1 x) (hv x))
      exact w0
    | succ j =>
      rw [if_neg (fun e => absurd (k3.mp e) (Nat.succ_ne_zero _)), k4 j rfl, (acV5 (fun n hn => by unfold enV; rw [if_neg (by decide), if_neg (by decide), if_pos (Or.inr (Or.inr rfl)), if_neg hn])).1 j]
      exact hk j rfl
  · refine all ?_ (a1 (by rw [b]; decide) (by rw [a]; decide)) (a2 (by rw [b]; decide) (by rw [a]; decide)) (a3 (by rw [b]; decide) (by rw [a]; decide))
    have zz : enR R I ρ 0 d = v3O (ρ (0, y, 0)) (ρ (4, d, 0)) := by rw [z0, if_neg (by rw [b]; decide), if_neg (by rw [b]; decide), if_pos b]
    have qq : cv 0 ((chV W x).getD i 0) = co x := by
      rw [q0]
      unfold arG
      rw [if_neg (by rw [a]; decide), if_neg (by rw [a]; decide), if_pos a]
    rw [zz, qq]
    exact h6 a
  · have hl := hl (Or.inr a)
    have hr1 : r (hdV (iSet I) (moK R y) (ρ (1, y, 0))) (v3A (cv 1 x) (hv x)) := by
      unfold hdV
      rw [hm]
      exact hc.2.1 _ _ _ _ w1 (hc.1 _)
    refine all (a0 (Or.inl b) (Or.inl a)) ?_ ?_ (a3 (by rw [b]; decide) (by rw [a]; decide))
    · rw [z1, if_pos b, q1]
      unfold arR
      rw [if_pos a]
      exact hc.2.1 _ _ _ _ hr1 (hc.2.2.2 _ _ hl)
    · rw [z2, if_pos b, q2]
      unfold arS
      rw [if_pos a]
      exact hc.2.2.1 _ _ _ _ w2 (hc.2.1 _ _ _ _ hr1 hl)
  · exact all (a0 (Or.inr (Or.inl b)) (Or.inr (Or.inl a))) (a1 (by rw [b]; decide) (by rw [a]; decide)) (a2 (by rw [b]; decide) (by rw [a]; decide)) (a3 (by rw [b]; decide) (by rw [a]; decide))
  · refine all (a0 (Or.inr (Or.inr b)) (Or.inr (Or.inr a))) (a1 (by rw [b]; decide) (by rw [a]; decide)) (a2 (by rw [b]; decide) (by rw [a]; decide)) ?_
    rw [z3, if_pos b, q3]
    unfold arK
    rw [if_pos a]
    exact h9 a
end
theorem v3A_as {a c d : Nat} : v3A (v3A a c) d = v3A a (v3A c d) := by
  unfold v3A
  by_cases z : a = 0 ∨ c = 0 ∨ d = 0
  · have l : (if (if a = 0 ∨ c = 0 then 0 else if a = 1 ∧ c = 1 then 1 else 2) = 0 ∨ d = 0 then 0 else if (if a = 0 ∨ c = 0 then 0 else if a = 1 ∧ c = 1 then 1 else 2) = 1 ∧ d = 1 then 1 else 2) = 0 := by
      by_cases y : a = 0 ∨ c = 0
      · rw [if_pos y]; rfl
      · rw [if_pos (Or.inr (by omega))]
    rw [l]
    by_cases y : c = 0 ∨ d = 0
    · rw [if_pos y, if_pos (Or.inr rfl)]
    · rw [if_pos (Or.inl (by omega))]
  · rw [if_neg (show ¬ (a = 0 ∨ c = 0) by omega), if_neg (show ¬ (c = 0 ∨ d = 0) by omega)]
    by_cases y : a = 1 ∧ c = 1 ∧ d = 1
    · rw [y.1, y.2.1, y.2.2]; rfl
    · by_cases u : a = 1 ∧ c = 1
      · rw [if_pos u, if_neg (show ¬ ((1 : Nat) = 0 ∨ d = 0) by omega), if_neg (show ¬ ((1 : Nat) = 1 ∧ d = 1) by omega), if_neg (show ¬ (c = 1 ∧ d = 1) by omega), if_neg (show ¬ (a = 0 ∨ (2 : Nat) = 0) by omega), if_neg (show ¬ (a = 1 ∧ (2 : Nat) = 1) by omega)]
      · rw [if_neg u, if_neg (show ¬ ((2 : Nat) = 0 ∨ d = 0) by omega), if_neg (show ¬ ((2 : Nat) = 1 ∧ d = 1) by omega)]
        by_cases t : c = 1 ∧ d = 1
        · rw [if_pos t, if_neg (show ¬ (a = 0 ∨ (1 : Nat) = 0) by omega), if_neg (show ¬ (a = 1 ∧ (1 : Nat) = 1) by omega)]
        · rw [if_neg t, if_neg (show ¬ (a = 0 ∨ (2 : Nat) = 0) by omega), if_neg (show ¬ (a = 1 ∧ (2 : Nat) = 1) by omega)]
theorem oI_le {f : Nat → Nat} : ∀ n, oI f n ≤ 2
  | 0 => Nat.zero_le _
  | _ + 1 => v3O_le _ _
theorem aI_le {f : Nat → Nat} : ∀ n, aI f n ≤ 2
  | 0 => by show 1 ≤ 2; decide
  | _ + 1 => v3A_le _ _
theorem v3O_x0 {a : Nat} (h : a ≤ 2) : v3O a 0 = a := by
  have : a = 0 ∨ a = 1 ∨ a = 2 := by omega
  rcases this with e | e | e <;> subst e <;> rfl
section
variable {R : RMo} {I : RIn} {ρ : Plc → Nat} {y n : Nat}
theorem kid_nx (hG : frM R) (hy : inR R y) (h1 : 1 ≤ (moG R y).length) : (moS R).2 84 ((moG R y).getD 0 0) = -1 ↔ (moG R y).length = 1 := by
  obtain ⟨⟨m4, s7⟩, g1, -⟩ := hG
  obtain ⟨hy1, hy2⟩ := id hy
  obtain ⟨⟨-, -, l3, l4, l5⟩, -, l6⟩ := g1 y hy.1 hy.2
  refine ⟨fun z => ?_, fun z => ?_⟩
  · by_cases e : (moG R y).length = 1
    · exact e
    · have q : (moS R).2 84 ((moG R y).getD 0 0) = Int32.ofNat ((moG R y).getD 1 0) := (l3 0 (by omega)).1
      rw [q] at z
      have := l6 _ (gd_in (l := moG R y) (i := 1) (by omega))
      exact absurd z (nm32 (by omega))
  · obtain ⟨d, ed⟩ : ∃ d, moG R y = [d] := List.length_eq_one_iff.mp z
    have ne : moG R y ≠ [] := fun e => by rw [e] at z; exact absurd z (by decide)
    have q := (l5 ne).1
    rw [ed] at q ⊢
    exact q
theorem rsR_if (h2 : ∀ j, ρ j ≤ 2) (c : Nat) : rsR R I ρ y c = if iSet I &&& moK R y ≠ 0 ∧ iSet I &&& moK R c = 0 then ρ (1, y, 0) else 0 := by
  unfold rsR hvM
  by_cases z : iSet I &&& moK R y = 0
  · rw [if_pos z, v3A_0.2, v3A_0.1, if_neg (show ¬ (iSet I &&& moK R y ≠ 0 ∧ iSet I &&& moK R c = 0) from fun q => q.1 z)]
  · rw [if_neg z, (v3A_1 (h2 _)).2]
    by_cases q : iSet I &&& moK R c = 0
    · rw [if_pos q, if_pos (show iSet I &&& moK R y ≠ 0 ∧ iSet I &&& moK R c = 0 from ⟨z, q⟩)]
      show v3A _ 1 = _
      rw [(v3A_1 (h2 _)).2]
    · rw [if_neg q, if_neg (show ¬ (iSet I &&& moK R y ≠ 0 ∧ iSet I &&& moK R c = 0) from fun p => q p.2)]
      show v3A _ 0 = _
      rw [v3A_0.2]
theorem alF_A : ∀ k, alF R I ρ y n k = v3A (orR R ρ y n) (aI (fun i => rcV (rsR R I ρ y ((moG R y).getD i 0)) (fun j => ρ (4, (moG R y).getD i 0, j)) (n + 1)) k)
  | 0 => ((v3A_1 (oI_le _)).2).symm
  | k + 1 => by
    show v3A (alF R I ρ y n k) _ = v3A _ (v3A _ _)
    rw [alF_A k, v3A_as]
end
section
variable {W : Wo} {R : RMo} {I : RIn} {ρ : Plc → Nat} {hv : Nat → Nat} {cv ck : Nat → Nat → Nat} {co cc : Nat → Nat} {r : Nat → Nat → Prop} {y x n : Nat}
theorem L_cd (hc : Cg r) (hG : frM R) (hy : inR R y) (hP : PkR W R y x) (hE : CEq (woV W) hv cv ck co cc x) (hE2 : ∀ c, c ∈ chV W x → CEq (woV W) hv cv ck co cc c) (cb : ∀ c j, ck c j ≤ 2) (hm : hv x = hvM (iSet I) (moK R y)) (hmk : ∀ i, i < (moG R y).length → hv ((chV W x).getD i 0) = hvM (iSet I) (moK R ((moG R y).getD i 0))) (hw : Mw r ρ cv y x) (hl : (woV W x).1 = 4 ∨ (woV W x).1 = 7 → r (lokR R I ρ y) (cc x)) (hk : ∀ i, i < (moG R y).length → Mk r ρ ck (moC R) ((moG R y).getD i 0) ((chV W x).getD i 0)) (hz : ∀ i, i < (chV W x).length → ∀ j, moC R ≤ j → j < 20 → ck ((chV W x).getD i 0) j = 0) (h3 : 3 ≤ moC R ∧ moC R ≤ 20) (hnu : (woV W x).1 = 3 → moN R y = (woV W x).2.2.1 ∧ ∃ v, v < 20 ∧ (woV W x).2.2.1 = Int32.ofNat v) (hn : n < moC R) : r (cdR R I ρ y n) (ck x n) := by
  have n20 : n < 20 := by omega
  have w0 := hw 0 (by decide)
  have w1 := hw 1 (by decide)
  have eC : ck x n = if (woV W x).1 = 8 then jbC (woV W) hv cv ck x n else aC (woV W) hv cv ck cc x (chV W x).length n := hE.2 n n20
  have hr1 : r (hdV (iSet I) (moK R y) (ρ (1, y, 0))) (v3A (cv 1 x) (hv x)) := by
    unfold hdV
    rw [hm]
    exact hc.2.1 _ _ _ _ w1 (hc.1 _)
  have leaf : chV W x = [] → (woV W x).1 ≠ 8 → ck x n = enV (woV W x).1 (woV W x).2.2.1.toNatClampNeg n (cv 0 x) (cv 1 x) (hv x) := fun e k8 => by
    rw [eC, if_neg k8, e]; rfl
  rcases hP with ⟨a, b, b1, b2⟩ | ⟨a, b1, b, b2⟩ | ⟨a, b1, b, b2⟩ | ⟨a, b1, b, b2⟩ | ⟨a, b1, b, b2⟩ | ⟨a, b, c1, c2, d1, b1, b2⟩ | ⟨a, b, c, d, b1, b2⟩ | ⟨a, b, c, d, b1, b2⟩ | ⟨a, b, b1, b2⟩ | ⟨a, b, c, d, b1, b2⟩
  · -- a row
    have eR : cdR R I ρ y n = (if n = 0 then ρ (4, (moG R y).getLastD 0, 0) else orR R ρ y n) := by
      unfold cdR
      rw [if_neg (by rw [b]; decide), if_neg (by rw [b]; decide), if_neg (by rw [b]; decide), if_pos b]
    rw [eR, eC, if_neg (show ¬ (woV W x).1 = 8 by rw [a]; decide)]
    unfold aC
    rw [a]
    have q5 := acV5 (rs := cv 1 x) (hv := hv x) (cd := cc x) (a0 := fun n => enV 5 (woV W x).2.2.1.toNatClampNeg n (cv 0 x) (cv 1 x) (hv x)) (K := fun i n => ck ((woV W x).2.2.2.getD i 0) n) (fun n hn => by
      show enV 5 _ n _ _ _ = 0
      unfold enV
      rw [if_neg (by decide), if_neg (by decide), if_pos (Or.inr (Or.inr rfl)), if_neg hn])
    by_cases z : n = 0
    · rw [if_pos z, z]
      obtain ⟨j, ej⟩ : ∃ j, (chV W x).length = j + 1 := ⟨(chV W x).length - 1, by omega⟩
      rw [ej, q5.1 j]
      have el : (moG R y).getLastD 0 = (moG R y).getD j 0 := by
        have e1 : (moG R y).length = j + 1 := by omega
        rw [List.getLastD_eq_getLast?, List.getLast?_eq_getElem?, e1, List.getD_eq_getElem?_getD]
        rfl
      rw [el]
      exact hk j (by omega) 0 (by omega)
    · rw [if_neg z, q5.2 _ n z]
      unfold orR
      rw [b2]
      exact hc.oi _ (fun k hkk => hk k (by omega) n hn)
  · have eR : cdR R I ρ y n = (if n = 0 then ρ (0, y, 0) else 0) := by
      unfold cdR
      rw [if_neg (by rw [b]; decide), if_neg (by rw [b]; decide), if_neg (by rw [b]; decide), if_neg (by rw [b]; decide), if_neg (by rw [b]; decide), if_neg (by rw [b]; decide), if_neg (by rw [b]; decide), if_neg (by rw [b]; decide)]
    have eK : ck x n = if n = 0 then cv 0 x else 0 := by
      rw [leaf b1 (by rw [a]; decide), a]
      unfold enV
      rw [if_neg (by decide), if_neg (by decide), if_pos (Or.inl rfl)]
    rw [eR, eK]
    by_cases z : n = 0
    · rw [if_pos z, if_pos z]; exact w0
    · rw [if_neg z, if_neg z]; exact hc.1 _
  · have eR : cdR R I ρ y n = (if n = 1 then ρ (0, y, 0) else if n = 0 then hdV (iSet I) (moK R y) (ρ (1, y, 0)) else 0) := by
      unfold cdR
      rw [if_pos b]
    have eK : ck x n = if n = 0 then v3A (cv 1 x) (hv x) else if n = 1 then cv 0 x else 0 := by
      rw [leaf b1 (by rw [a]; decide), a]
      unfold enV
      rw [if_pos rfl]
    rw [eR, eK]
    by_cases z : n = 0
    · rw [if_neg (show ¬ n = 1 by omega), if_pos z, if_pos z]; exact hr1
    · by_cases z1 : n = 1
      · rw [if_pos z1, if_neg z, if_pos z1]; exact w0
      · rw [if_neg z1, if_neg z, if_neg z, if_neg z1]; exact hc.1 _
  · have eR : cdR R I ρ y n = (if n = 0 then ρ (0, y, 0) else 0) := by
      unfold cdR
      rw [if_neg (by rw [b]; decide), if_neg (by rw [b]; decide), if_neg (by rw [b]; decide), if_neg (by rw [b]; decide), if_neg (by rw [b]; decide), if_neg (by rw [b]; decide), if_neg (by rw [b]; decide), if_neg (by rw [b]; decide)]
    have eK : ck x n = if n = 0 then cv 0 x else 0 := by
      rw [leaf b1 (by rw [a]; decide), a]
      unfold enV
      rw [if_neg (by decide), if_neg (by decide), if_pos (Or.inr (Or.inl rfl))]
    rw [eR, eK]
    by_cases z : n = 0
    · rw [if_pos z, if_pos z]; exact w0
    · rw [if_neg z, if_neg z]; exact hc.1 _
  · obtain ⟨u1, v, u2, u3⟩ := hnu a
    have eR : cdR R I ρ y n = (if Int32.ofNat n = Int32.ofNat v then ρ (0, y, 0) else 0) := by
      unfold cdR
      rw [if_neg (by rw [b]; decide), if_pos b, u1, u3]
    have eK : ck x n = if n = v then cv 0 x else 0 := by
      rw [leaf b1 (by rw [a]; decide), a, u3, lt32 (show v < 2147483648 by omega)]
      unfold enV
      rw [if_neg (by decide), if_pos rfl]
    rw [eR, eK]
    by_cases z : n = v
    · rw [if_pos (show Int32.ofNat n = Int32.ofNat v by rw [z]), if_pos z]; exact w0
    · rw [if_neg (show ¬ Int32.ofNat n = Int32.ofNat v from fun e => z (inj32 (by omega) (by omega) e)), if_neg z]; exact hc.1 _
  · -- a choice
    have hl := hl (Or.inl a)
    have k8 : (woV W x).1 ≠ 8 := by rw [a]; decide
    have k4 : ∀ (t : Nat) (p q : Nat → Nat), lvV 4 t p q (cv 1 x) (hv x) (cc x) = v3O (p t) (q t) := fun t p q => by unfold lvV; rw [if_pos rfl]
    have eC2 : ck x n = v3O (v3O 0 (ck c1 n)) (ck c2 n) := by
      rw [eC, if_neg k8, b1]
      unfold aC
      rw [show ([c1, c2] : List Nat).length = 1 + 1 from rfl, acS k8, a, k4]
      have e0 : (woV W x).2.2.2 = [c1, c2] := b1
      rw [acS (by decide), k4, e0]
      rfl
    have kx := kid_nx hG hy
    have eR : cdR R I ρ y n = (if n = 0 ∧ (moS R).2 84 ((moG R y).getD 0 0) = -1 then v3O (orR R ρ y n) (v3A (ρ (0, y, 0)) (v3N (lokR R I ρ y))) else orR R ρ y n) := by
      unfold cdR
      rw [if_neg (by rcases b with e | e <;> rw [e] <;> decide), if_neg (by rcases b with e | e <;> rw [e] <;> decide), if_pos b]
    rw [eR, eC2]
    rcases b2 with ⟨b2, t1, t2⟩ | ⟨d2, b2⟩
    · have kx := (kx (by rw [b2]; simp)).mpr (by rw [b2]; rfl)
      have m1 : r (ρ (4, d1, n)) (ck c1 n) := by
        have q := hk 0 (by rw [b2]; simp) n hn
        rw [b2, b1] at q
        exact q
      have m2 : orR R ρ y n = v3O 0 (ρ (4, d1, n)) := by unfold orR; rw [b2]; rfl
      have m3 : ck c2 n = if n = 0 then v3A (cv 0 x) (v3N (cc x)) else 0 := by
        have q : CEk (woV W) hv cv ck cc c2 n := (hE2 c2 (by rw [b1]; exact List.mem_cons_of_mem _ List.mem_cons_self)).2 n n20
        unfold CEk aC at q
        rw [t1, if_neg (by decide), show (woV W c2).2.2.2 = [] from t2] at q
        have q : ck c2 n = enV 0 _ n (cv 0 c2) (cv 1 c2) (hv c2) := q
        unfold enV at q
        rw [if_neg (by decide), if_neg (by decide), if_pos (Or.inl rfl)] at q
        rw [q]
        have p : CEa (woV W) hv cv ck co cc x 1 := hE.1 1 (by show 1 < (chV W x).length; rw [b1]; simp)
        have p := p.1
        have e0 : (woV W x).2.2.2 = [c1, c2] := b1
        rw [e0] at p
        have p : cv 0 c2 = arG (woV W x).1 false (cv 0 x) (cc x) _ (co x) := p
        rw [p]
        unfold arG
        rw [if_pos a]
        rfl
      rw [m2, m3]
      by_cases z : n = 0
      · rw [if_pos ⟨z, kx⟩, if_pos z]
        exact hc.2.2.1 _ _ _ _ (hc.2.2.1 _ _ _ _ (hc.1 _) m1) (hc.2.1 _ _ _ _ w0 (hc.2.2.2 _ _ hl))
      · rw [if_neg (fun q => z q.1), if_neg z, v3O_x0 (v3O_le _ _)]
        exact hc.2.2.1 _ _ _ _ (hc.1 _) m1
    · have kx : ¬ (moS R).2 84 ((moG R y).getD 0 0) = -1 := fun e => by
        have := (kx (by rw [b2]; simp)).mp e
        rw [b2] at this
        exact absurd this (by simp)
      rw [if_neg (fun q => kx q.2)]
      have q0 := hk 0 (by rw [b2]; simp) n hn
      have q1 := hk 1 (by rw [b2]; simp) n hn
      rw [b2, b1] at q0 q1
      unfold orR
      rw [b2]
      exact hc.2.2.1 _ _ _ _ (hc.2.2.1 _ _ _ _ (hc.1 _) q0) q1
  · -- a loop
    have q0 := hk 0 (by rw [b2]; simp) n hn
    rw [b2, b1] at q0
    have eR : cdR R I ρ y n = (if n = 0 then 0 else ρ (4, d, n)) := by
      unfold cdR
      rw [if_neg (by rw [b]; decide), if_neg (by rw [b]; decide), if_neg (by rw [b]; decide), if_neg (by rw [b]; decide), if_pos b, b2]
      rfl
    have eK : ck x n = if n = 0 then 0 else v3O (enV 6 (woV W x).2.2.1.toNatClampNeg n (cv 0 x) (cv 1 x) (hv x)) (ck c n) := by
      have e0 : (woV W x).2.2.2 = [c] := b1
      rw [eC, if_neg (show ¬ (woV W x).1 = 8 by rw [a]; decide), b1]
      unfold aC
      rw [show ([c] : List Nat).length = 0 + 1 from rfl, acS (by rw [a]; decide), a, e0]
      unfold lvV
      rw [if_neg (by decide), if_neg (by decide), if_pos rfl]
      rfl
    rw [eR, eK]
    by_cases z : n = 0
    · rw [if_pos z, if_pos z]; exact hc.1 _
    · rw [if_neg z, if_neg z]
      show r _ (v3O 0 (ck c n))
      rw [v3O_0 (cb _ _)]
      exact q0
  · -- suspended
    have hl := hl (Or.inr a)
    have q0 := hk 0 (by rw [b2]; simp) n hn
    rw [b2, b1] at q0
    have e0 : (woV W x).2.2.2 = [c] := b1
    have eR : cdR R I ρ y n = (if n = 1 then v3O (ρ (4, d, 1)) (v3A (hdV (iSet I) (moK R y) (ρ (1, y, 0))) (lokR R I ρ y)) else ρ (4, d, n)) := by
      unfold cdR
      rw [if_neg (by rw [b]; decide), if_neg (by rw [b]; decide), if_neg (by rw [b]; decide), if_neg (by rw [b]; decide), if_neg (by rw [b]; decide), if_pos b, b2]
      rfl
    have eK : ck x n = if n = 1 then v3O (v3O 0 (ck c 1)) (v3A (v3A (cv 1 x) (hv x)) (cc x)) else v3O 0 (ck c n) := by
      rw [eC, if_neg (show ¬ (woV W x).1 = 8 by rw [a]; decide), b1]
      unfold aC
      rw [show ([c] : List Nat).length = 0 + 1 from rfl, acS (by rw [a]; decide), a, e0]
      unfold lvV
      rw [if_neg (by decide), if_neg (by decide), if_neg (by decide), if_pos rfl]
      rfl
    rw [eR, eK]
    by_cases z : n = 1
    · rw [if_pos z, if_pos z]
      show r _ (v3O (v3O 0 (ck c 1)) _)
      rw [v3O_0 (cb _ _)]
      rw [z] at q0
      exact hc.2.2.1 _ _ _ _ q0 (hc.2.1 _ _ _ _ hr1 hl)
    · rw [if_neg z, if_neg z]
      show r _ (v3O 0 (ck c n))
      rw [v3O_0 (cb _ _)]
      exact q0
  · -- branches
    have eR : cdR R I ρ y n = alF R I ρ y n (moG R y).length := by
      unfold cdR
      rw [if_neg (by rw [b]; decide), if_neg (by rw [b]; decide), if_neg (by rw [b]; decide), if_neg (by rw [b]; decide), if_neg (by rw [b]; decide), if_neg (by rw [b]; decide), if_pos b]
    rw [eR, eC, if_pos a, alF_A]
    unfold jbC
    have e0 : (woV W x).2.2.2 = chV W x := rfl
    rw [e0, ← b2]
    refine hc.2.1 _ _ _ _ ?_ (hc.ai _ (fun i hi => hc.rc ?_ _ (fun j hj => hk i hi j (by omega))))
    · unfold orR
      exact hc.oi _ (fun i hi => hk i hi n hn)
    · show r (rsR R I ρ y ((moG R y).getD i 0)) _
      unfold rsR
      rw [hm, hmk i hi]
      exact hc.2.1 _ _ _ _ (hc.2.1 _ _ _ _ w1 (hc.1 _)) (hc.1 _)
  · -- a trap
    have q0 : ∀ j, j < moC R → r (ρ (4, d, j)) (ck c j) := fun j hj => by
      have q := hk 0 (by rw [b2]; simp) j hj
      rw [b2, b1] at q
      exact q
    have e0 : (woV W x).2.2.2 = [c] := b1
    have eR : cdR R I ρ y n = (if n = 0 then v3O (ρ (4, d, 0)) (ρ (4, d, 2)) else if n = 1 then ρ (4, d, 1) else if n + 1 < moC R then ρ (4, d, n + 1) else 0) := by
      unfold cdR
      rw [if_neg (by rw [b]; decide), if_neg (by rw [b]; decide), if_neg (by rw [b]; decide), if_neg (by rw [b]; decide), if_neg (by rw [b]; decide), if_neg (by rw [b]; decide), if_neg (by rw [b]; decide), if_pos b, b2]
      rfl
    have eK : ck x n = if n = 0 then v3O (ck c 0) (ck c 2) else if n = 1 then ck c 1 else if n ≤ 18 then ck c (n + 1) else enV 9 (woV W x).2.2.1.toNatClampNeg n (cv 0 x) (cv 1 x) (hv x) := by
      rw [eC, if_neg (show ¬ (woV W x).1 = 8 by rw [a]; decide), b1]
      unfold aC
      rw [show ([c] : List Nat).length = 0 + 1 from rfl, acS (by rw [a]; decide), a, e0]
      unfold lvV
      rw [if_neg (by decide), if_neg (by decide), if_neg (by decide), if_neg (by decide)]
      rfl
    rw [eR, eK]
    by_cases z : n = 0
    · rw [if_pos z, if_pos z]
      exact hc.2.2.1 _ _ _ _ (q0 0 (by omega)) (q0 2 (by omega))
    rw [if_neg z, if_neg z]
    by_cases z1 : n = 1
    · rw [if_pos z1, if_pos z1]
      exact q0 1 (by omega)
    rw [if_neg z1, if_neg z1]
    by_cases z2 : n + 1 < moC R
    · rw [if_pos z2, if_pos (show n ≤ 18 by omega)]
      exact q0 (n + 1) z2
    · rw [if_neg z2]
      by_cases z3 : n ≤ 18
      · rw [if_pos z3]
        have q := hz 0 (by rw [b1]; simp) (n + 1) (by omega) (by omega)
        rw [b1] at q
        have q : ck c (n + 1) = 0 := q
        show r 0 (ck c (n + 1))
        rw [q]
        exact hc.1 _
      · rw [if_neg z3]
        show r 0 (enV 9 _ n _ _ _)
        unfold enV
        rw [if_neg (by decide), if_neg (by decide), if_neg (by decide)]
        exact hc.1 _
end
end
section
/-! pairs: from a pair to those below it -/
theorem RpLs.at {Rl : Nat → Nat → Nat → Nat → Prop} : ∀ (ds cs : List Nat) (p p' : Nat), RpLs Rl ds cs p p' → ∀ i, i < ds.length → ∃ q q', Rl (ds.getD i 0) (cs.getD i 0) q q'
  | [], _, _, _, _, i, hi => absurd hi (Nat.not_lt_zero _)
  | _ :: _, [], _, _, h, _, _ => h.elim
  | d :: ds, c :: cs, p, p', ⟨pm, h1, h2⟩, i, hi => by
    cases i with
    | zero => exact ⟨p, pm, h1⟩
    | succ i => exact RpLs.at ds cs pm p' h2 i (Nat.lt_of_succ_lt_succ hi)
section
variable {W : Wo} {m zn fn hi g y x p p' : Nat} {u : Vwr} {cx : List (Option Nat)}
theorem RpN.one (h : RpN W m zn fn u hi (g + 1) cx y x p p') (hc : cs1 W x) : ∃ c, chV W x = [c] ∧ RpN W m zn fn u hi g cx y c p p' := by
  unfold RpN at h
  obtain ⟨-, h⟩ := h
  obtain ⟨k5, l1⟩ := hc
  rcases h with ⟨a, c, b1, b2⟩ | ⟨a, b1, b2, b3⟩ | ⟨a, -⟩ | ⟨a, -⟩ | ⟨a, -⟩ | ⟨a, -⟩ | ⟨a, -⟩ | ⟨a, -⟩ | ⟨a, -⟩ | ⟨a, -⟩ | ⟨a, -⟩
  · exact ⟨c, b1, b2⟩
  · have e := RpLs.ln _ _ _ _ b3
    have l1 : (woV W x).2.2.2.length = 1 := l1
    omega
  all_goals (rw [k5] at a; exact absurd a (by decide))
theorem RpN.kid (h : RpN W m zn fn u hi (g + 1) cx y x p p') (hne : ¬ cs1 W x) : ∀ i, i < (u y).2.2.length → ∃ cx' q q', RpN W m zn fn u hi g cx' ((u y).2.2.getD i 0) ((chV W x).getD i 0) q q' := by
  intro i hi'
  unfold RpN at h
  obtain ⟨-, h⟩ := h
  have no : (u y).2.2 = [] → ∃ cx' q q', RpN W m zn fn u hi g cx' ((u y).2.2.getD i 0) ((chV W x).getD i 0) q q' := fun e => by rw [e] at hi'; exact absurd hi' (Nat.not_lt_zero _)
  have sg : ∀ {d c : Nat} {cy : List (Option Nat)}, (u y).2.2 = [d] → chV W x = [c] → RpN W m zn fn u hi g cy d c p p' → ∃ cx' q q', RpN W m zn fn u hi g cx' ((u y).2.2.getD i 0) ((chV W x).getD i 0) q q' := fun {d c cy} e1 e2 k => by
    rw [e1] at hi' ⊢
    rw [e2]
    have : i = 0 := by have : i < 1 := hi'; omega
    subst this
    exact ⟨cy, p, p', k⟩
  rcases h with ⟨a, c, b1, b2⟩ | ⟨a, b1, b2, b3⟩ | ⟨-, -, -, b3, -⟩ | ⟨-, -, -, -, b3, -⟩ | ⟨-, -, -, b3, -⟩ | ⟨-, -, -, b3, -⟩ | ⟨a, b1, c1, c2, d1, pm, b2, b3, b4⟩ | ⟨a, b1, c, d, b2, b3, b4⟩ | ⟨a, b1, b5, c, d, b2, b3, b4⟩ | ⟨a, b1, b2, b3⟩ | ⟨a, b1, c, d, t, b2, b3, b4, b5⟩
  · exact absurd ⟨a, by show (woV W x).2.2.2.length = 1; rw [b1]; rfl⟩ hne
  · obtain ⟨q, q', k⟩ := RpLs.at _ _ _ _ b3 i hi'
    exact ⟨cx, q, q', k⟩
  · exact no b3
  · exact no b3
  · exact no b3
  · exact no b3
  · have e2 : chV W x = [c1, c2] := b2
    rw [e2]
    rcases b4 with ⟨q1, -⟩ | ⟨d2, q1, q2⟩
    · rw [q1] at hi' ⊢
      have : i = 0 := by have : i < 1 := hi'; omega
      subst this
      exact ⟨cx, p, pm, b3⟩
    · rw [q1] at hi' ⊢
      have : i = 0 ∨ i = 1 := by have : i < 2 := hi'; omega
      rcases this with e | e
      · subst e; exact ⟨cx, p, pm, b3⟩
      · subst e; exact ⟨cx, pm, p', q2⟩
  · exact sg b3 b2 b4
  · exact sg b3 b2 b4
  · obtain ⟨q, q', k⟩ := RpLs.at _ _ _ _ b3 i hi'
    exact ⟨cx, q, q', k⟩
  · exact sg b3 b2 b5
end
theorem zip_at {ds cs : List Nat} {i : Nat} (h : i < ds.length) (k : i < cs.length) : (ds.getD i 0, cs.getD i 0) ∈ ds.zip cs := by
  rw [gd_el h, gd_el k]
  have l : i < (ds.zip cs).length := by rw [List.length_zip]; omega
  have e : (ds.zip cs)[i] = (ds[i], cs[i]) := List.getElem_zip
  rw [← e]
  exact List.getElem_mem l
theorem zip_ix {ds cs : List Nat} {d c : Nat} (h : (d, c) ∈ ds.zip cs) : ∃ i, i < ds.length ∧ i < cs.length ∧ d = ds.getD i 0 ∧ c = cs.getD i 0 := by
  obtain ⟨i, l, e⟩ := List.mem_iff_getElem.mp h
  have l2 := l
  rw [List.length_zip] at l2
  have e2 : (ds.zip cs)[i] = (ds[i]'(by omega), cs[i]'(by omega)) := List.getElem_zip
  rw [e2] at e
  refine ⟨i, by omega, by omega, ?_, ?_⟩
  · rw [gd_el (by omega)]; exact (congrArg Prod.fst e).symm
  · rw [gd_el (by omega)]; exact (congrArg Prod.snd e).symm
section
variable {W : Wo} {R : RMo} {y x d c i : Nat}
theorem PkR.il (hP : PkR W R y x) (hi : i < (moG R y).length) : i < (chV W x).length := by
  rcases hP with ⟨-, -, -, e⟩ | ⟨-, -, -, e⟩ | ⟨-, -, -, e⟩ | ⟨-, -, -, e⟩ | ⟨-, -, -, e⟩ | ⟨-, -, c1, c2, d1, e1, e⟩ | ⟨-, -, c, d', e1, e⟩ | ⟨-, -, c, d', e1, e⟩ | ⟨-, -, -, e⟩ | ⟨-, -, c, d', e1, e⟩
  · omega
  · rw [e] at hi; exact absurd hi (Nat.not_lt_zero _)
  · rw [e] at hi; exact absurd hi (Nat.not_lt_zero _)
  · rw [e] at hi; exact absurd hi (Nat.not_lt_zero _)
  · rw [e] at hi; exact absurd hi (Nat.not_lt_zero _)
  · rw [e1]
    show i < 2
    rcases e with ⟨e, -⟩ | ⟨d2, e⟩
    · rw [e] at hi; have hi : i < 1 := hi; omega
    · rw [e] at hi; exact hi
  · rw [e1]; rw [e] at hi; exact hi
  · rw [e1]; rw [e] at hi; exact hi
  · omega
  · rw [e1]; rw [e] at hi; exact hi
def DsR (W : Wo) (R : RMo) (y x d c : Nat) : Prop := DsN W (moM R) (vwM R) (hiM R) y x d c
theorem DsR.tr {d2 c2 : Nat} (h : DsR W R y x d c) (k : DsR W R d c d2 c2) : DsR W R y x d2 c2 := DsN.tr h k
theorem DsR.rf : DsR W R y x y x := DsN.rf
theorem DsR.kid (hy : inR R y) (hne : ¬ cs1 W x) (hP : PkR W R y x) (hi : i < (moG R y).length) : DsR W R y x ((moG R y).getD i 0) ((chV W x).getD i 0) := ⟨1, _, ⟨hy, Or.inr ⟨hne, zip_at hi (hP.il hi)⟩⟩, rfl⟩
theorem DsR.one (hy : inR R y) (hc : cs1 W x) (he : chV W x = [c]) : DsR W R y x y c := ⟨1, (y, c), ⟨hy, Or.inl ⟨hc.1, he, rfl⟩⟩, rfl⟩
/-- a pair below: the pair itself, below its one child, or below a child -/
theorem DsR.cs (h : DsR W R y x d c) : (d = y ∧ c = x) ∨ (cs1 W x ∧ ∃ c', chV W x = [c'] ∧ DsR W R y c' d c) ∨ (¬ cs1 W x ∧ ∃ i, i < (moG R y).length ∧ i < (chV W x).length ∧ DsR W R ((moG R y).getD i 0) ((chV W x).getD i 0) d c) := by
  obtain ⟨n, h⟩ := h
  cases n with
  | zero =>
    have h : (y, x) = (d, c) := h
    exact Or.inl ⟨(congrArg Prod.fst h).symm, (congrArg Prod.snd h).symm⟩
  | succ n =>
    obtain ⟨⟨e1, e2⟩, z, k⟩ := h
    obtain ⟨-, z⟩ := z
    rcases z with ⟨a1, a2, a3⟩ | ⟨a1, a2⟩
    · have a3 : e1 = y := a3
      subst a3
      exact Or.inr (Or.inl ⟨⟨a1, by show (chV W x).length = 1; rw [a2]; rfl⟩, e2, a2, n, k⟩)
    · obtain ⟨i, i1, i2, i3, i4⟩ := zip_ix a2
      refine Or.inr (Or.inr ⟨a1, i, i1, i2, n, ?_⟩)
      have e : ((moG R y).getD i 0, (chV W x).getD i 0) = (e1, e2) := by rw [i3, i4]; rfl
      rw [e]
      exact k
theorem DsI.sn {u : Vwr} {m hi : Nat} : ∀ (n : Nat) (a b : Nat × Nat), DsI W m u hi (n + 1) a b → ∃ e, DsI W m u hi n a e ∧ Z1 W m u hi e b
  | 0, a, b, ⟨e, z, k⟩ => by
    have k : e = b := k
    rw [k] at z
    exact ⟨a, rfl, z⟩
  | n + 1, a, b, ⟨e, z, k⟩ => by
    obtain ⟨e', k1, k2⟩ := DsI.sn n e b k
    exact ⟨e', ⟨e, z, k1⟩, k2⟩
end
end
section
/-! a solution of the reference's equations, and wires of the class with the same signals and open nets: they match -/
section
variable (W : Wo) (R : RMo) (I : RIn) (hv : Nat → Nat) (cv ck : Nat → Nat → Nat) (co cc : Nat → Nat)
/-- what is known of a pair, whatever the wires -/
def SbA (y x : Nat) : Prop := hv x = hvM (iSet I) (moK R y) ∧ ((woV W x).1 = 3 → moN R y = (woV W x).2.2.1 ∧ ∃ v, v < moC R ∧ (woV W x).2.2.1 = Int32.ofNat v) ∧ CEq (woV W) hv cv ck co cc x ∧ ∀ c, c ∈ chV W x → CEq (woV W) hv cv ck co cc c
end
section
variable {W : Wo} {R : RMo} {I : RIn} {ρ : Plc → Nat} {hv : Nat → Nat} {cv ck : Nat → Nat → Nat} {co cc : Nat → Nat} {zn fn : Nat}
/-- a row of one part says what the part says -/
theorem C_one {x c : Nat} (hc : cs1 W x) (he : chV W x = [c]) (hE : CEq (woV W) hv cv ck co cc x) (cb : ∀ c j, ck c j ≤ 2) : (∀ q, q ≤ 3 → cv q c = cv q x) ∧ ∀ n, n < 20 → ck x n = ck c n := by
  have k5 := hc.1
  have e0 : (woV W x).2.2.2 = [c] := he
  refine ⟨fun q hq => ?_, fun n hn => ?_⟩
  · have p : CEa (woV W) hv cv ck co cc x 0 := hE.1 0 (by rw [e0]; simp)
    obtain ⟨p0, p1, p2, p3⟩ := p
    rw [e0, k5] at p0 p1 p2 p3
    have p0 : cv 0 c = aC (woV W) hv cv ck cc x 0 0 := p0
    have a0 : aC (woV W) hv cv ck cc x 0 0 = cv 0 x := by
      show enV (woV W x).1 _ 0 _ _ _ = _
      rw [k5]; rfl
    rw [a0] at p0
    have : q = 0 ∨ q = 1 ∨ q = 2 ∨ q = 3 := by omega
    rcases this with e | e | e | e <;> rw [e]
    · exact p0
    · exact p1
    · exact p2
    · exact p3
  · have p : CEk (woV W) hv cv ck cc x n := hE.2 n hn
    unfold CEk aC at p
    rw [k5, if_neg (by decide), e0] at p
    have q5 := acV5 (rs := cv 1 x) (hv := hv x) (cd := cc x) (a0 := fun n => enV 5 (woV W x).2.2.1.toNatClampNeg n (cv 0 x) (cv 1 x) (hv x)) (K := fun i n => ck (([c] : List Nat).getD i 0) n) (fun n hn => by
      show enV 5 _ n _ _ _ = 0
      unfold enV
      rw [if_neg (by decide), if_neg (by decide), if_pos (Or.inr (Or.inr rfl)), if_neg hn])
    by_cases z : n = 0
    · rw [p, z]; exact q5.1 0
    · rw [p]
      refine (q5.2 1 n z).trans ?_
      show v3O 0 (ck c n) = _
      exact v3O_0 (cb _ _)
/-- codes that no exit has are 0 -/
theorem C_z (hG : frM R) (cb : ∀ c j, ck c j ≤ 2) (h3 : 3 ≤ moC R) : ∀ (g : Nat) (cx : List (Option Nat)) (y x p p' : Nat), RpN W (moM R) zn fn (vwM R) (hiM R) g cx y x p p' → (∀ d c, DsR W R y x d c → SbA W R I hv cv ck co cc d c) → ∀ n, moC R ≤ n → n < 20 → ck x n = 0 := by
  intro g
  induction g with
  | zero => intro cx y x p p' h; unfold RpN at h; exact h.elim
  | succ g ih =>
    intro cx y x p p' h hS n n1 n2
    have hy : inR R y := h.in
    obtain ⟨-, hnu, hE, hE2⟩ := hS y x DsR.rf
    by_cases hne : cs1 W x
    · obtain ⟨c, e, k⟩ := h.one hne
      rw [(C_one hne e hE cb).2 n n2]
      exact ih cx y c p p' k (fun d c' q => hS d c' ((DsR.one hy hne e).tr q)) n n1 n2
    have hP := h.pk hne
    have kd : ∀ i, i < (moG R y).length → ∀ j, moC R ≤ j → j < 20 → ck ((chV W x).getD i 0) j = 0 := fun i hi j j1 j2 => by
      obtain ⟨cx', q, q', k⟩ := h.kid hne i hi
      exact ih cx' _ _ q q' k (fun d c' z => hS d c' ((DsR.kid hy hne hP hi).tr z)) j j1 j2
    have p : CEk (woV W) hv cv ck cc x n := hE.2 n n2
    have e0 : (woV W x).2.2.2 = chV W x := rfl
    unfold CEk aC at p
    rw [p]
    have n0 : n ≠ 0 := by omega
    have n1' : n ≠ 1 := by omega
    have en0 : ∀ (k : Int32) (cd : Nat) (a b c : Nat), k ≠ 3 → enV k cd n a b c = 0 := fun k cd a b c k3 => by
      unfold enV
      by_cases z1 : k = 1
      · rw [if_pos z1, if_neg n0, if_neg n1']
      rw [if_neg z1, if_neg k3]
      by_cases z2 : k = 0 ∨ k = 2 ∨ k = 5
      · rw [if_pos z2, if_neg n0]
      · rw [if_neg z2]
    rcases id hP with ⟨a, b, b1, b2⟩ | ⟨a, b1, b, b2⟩ | ⟨a, b1, b, b2⟩ | ⟨a, b1, b, b2⟩ | ⟨a, b1, b, b2⟩ | ⟨a, b, c1, c2, d1, b1, b2⟩ | ⟨a, b, c, d, b1, b2⟩ | ⟨a, b, c, d, b1, b2⟩ | ⟨a, b, b1, b2⟩ | ⟨a, b, c, d, b1, b2⟩
    · rw [a, if_neg (by decide), (acV5 (fun t ht => by unfold enV; rw [if_neg (by decide), if_neg (by decide), if_pos (Or.inr (Or.inr rfl)), if_neg ht])).2 _ n n0, e0]
      have z : ∀ k, k ≤ (chV W x).length → oI (fun j => ck ((chV W x).getD j 0) n) k = 0 := by
        intro k
        induction k with
        | zero => intro _; rfl
        | succ k ihk =>
          intro hk
          show v3O (oI (fun j => ck ((chV W x).getD j 0) n) k) (ck ((chV W x).getD k 0) n) = 0
          rw [ihk (by omega), kd k (by omega) n n1 n2]; rfl
      exact z _ (Nat.le_refl _)
    · rw [a, if_neg (by decide), e0, b1]; exact en0 0 _ _ _ _ (by decide)
    · rw [a, if_neg (by decide), e0, b1]; exact en0 1 _ _ _ _ (by decide)
    · rw [a, if_neg (by decide), e0, b1]; exact en0 2 _ _ _ _ (by decide)
    · obtain ⟨-, v, v1, v2⟩ := hnu a
      rw [a, if_neg (by decide), e0, b1, v2, lt32 (show v < 2147483648 by omega)]
      show enV 3 v n _ _ _ = 0
      unfold enV
      rw [if_neg (by decide), if_pos rfl, if_neg (by omega)]
    · rw [a, if_neg (by decide), e0, b1, show ([c1, c2] : List Nat).length = 1 + 1 from rfl, acS (by decide)]
      unfold lvV
      rw [if_pos rfl, acS (by decide)]
      unfold lvV
      rw [if_pos rfl]
      have k1 : ck c1 n = 0 := by
        have := kd 0 (by rcases b2 with ⟨q, -⟩ | ⟨d2, q⟩ <;> rw [q] <;> simp) n n1 n2
        rw [b1] at this
        exact this
      have k2 : ck c2 n = 0 := by
        rcases b2 with ⟨-, t1, t2⟩ | ⟨d2, q⟩
        · have q : CEk (woV W) hv cv ck cc c2 n := (hE2 c2 (by rw [b1]; exact List.mem_cons_of_mem _ List.mem_cons_self)).2 n n2
          unfold CEk aC at q
          rw [t1, if_neg (by decide), show (woV W c2).2.2.2 = [] from t2] at q
          rw [q]
          exact en0 0 _ _ _ _ (by decide)
        · have := kd 1 (by rw [q]; simp) n n1 n2
          rw [b1] at this
          exact this
      show v3O (v3O (enV 4 _ n _ _ _) (ck c1 n)) (ck c2 n) = 0
      rw [en0 4 _ _ _ _ (by decide), k1, k2]; rfl
    · have k1 : ck c n = 0 := by
        have := kd 0 (by rw [b2]; simp) n n1 n2
        rw [b1] at this
        exact this
      rw [a, if_neg (by decide), e0, b1, show ([c] : List Nat).length = 0 + 1 from rfl, acS (by decide)]
      unfold lvV
      rw [if_neg (by decide), if_neg (by decide), if_pos rfl, if_neg n0]
      show v3O (enV 6 _ n _ _ _) (ck c n) = 0
      rw [en0 6 _ _ _ _ (by decide), k1]; rfl
    · have k1 : ck c n = 0 := by
        have := kd 0 (by rw [b2]; simp) n n1 n2
        rw [b1] at this
        exact this
      rw [a, if_neg (by decide), e0, b1, show ([c] : List Nat).length = 0 + 1 from rfl, acS (by decide)]
      unfold lvV
      rw [if_neg (by decide), if_neg (by decide), if_neg (by decide), if_pos rfl, if_neg n1']
      show v3O (enV 7 _ n _ _ _) (ck c n) = 0
      rw [en0 7 _ _ _ _ (by decide), k1]; rfl
    · rw [a, if_pos rfl]
      unfold jbC
      rw [e0]
      have z : ∀ k, k ≤ (chV W x).length → oI (fun j => ck ((chV W x).getD j 0) n) k = 0 := by
        intro k
        induction k with
        | zero => intro _; rfl
        | succ k ihk =>
          intro hk
          show v3O (oI (fun j => ck ((chV W x).getD j 0) n) k) (ck ((chV W x).getD k 0) n) = 0
          rw [ihk (by omega), kd k (by omega) n n1 n2]; rfl
      rw [z _ (Nat.le_refl _), v3A_0.1]
    · rw [a, if_neg (by decide), e0, b1, show ([c] : List Nat).length = 0 + 1 from rfl, acS (by decide)]
      unfold lvV
      rw [if_neg (by decide), if_neg (by decide), if_neg (by decide), if_neg (by decide)]
      unfold ltV
      rw [if_neg n0, if_neg n1']
      by_cases z : n ≤ 18
      · rw [if_pos z]
        have := kd 0 (by rw [b2]; simp) (n + 1) (by omega) (by omega)
        rw [b1] at this
        exact this
      · rw [if_neg z]; exact en0 9 _ _ _ _ (by decide)
/-- a child that the reference has not -/
theorem mis_z {y x i j : Nat} (hP : PkR W R y x) (hE2 : ∀ c, c ∈ chV W x → CEq (woV W) hv cv ck co cc c) (hi : i < (chV W x).length) (hn : ¬ i < (moG R y).length) (j0 : j ≠ 0) (j2 : j < 20) : ck ((chV W x).getD i 0) j = 0 := by
  rcases hP with ⟨-, -, -, e⟩ | ⟨-, e, -⟩ | ⟨-, e, -⟩ | ⟨-, e, -⟩ | ⟨-, e, -⟩ | ⟨-, -, c1, c2, d1, e1, e⟩ | ⟨-, -, c, d', e1, e⟩ | ⟨-, -, c, d', e1, e⟩ | ⟨-, -, -, e⟩ | ⟨-, -, c, d', e1, e⟩
  · omega
  · rw [e] at hi; exact absurd hi (Nat.not_lt_zero _)
  · rw [e] at hi; exact absurd hi (Nat.not_lt_zero _)
  · rw [e] at hi; exact absurd hi (Nat.not_lt_zero _)
  · rw [e] at hi; exact absurd hi (Nat.not_lt_zero _)
  · rcases e with ⟨e, t1, t2⟩ | ⟨d2, e⟩
    · rw [e] at hn
      rw [e1] at hi ⊢
      have hn : ¬ i < 1 := hn
      have hi : i < 2 := hi
      have ei : i = 1 := by omega
      subst ei
      show ck c2 j = 0
      have q : CEk (woV W) hv cv ck cc c2 j := (hE2 c2 (by rw [e1]; exact List.mem_cons_of_mem _ List.mem_cons_self)).2 j j2
      unfold CEk aC at q
      rw [t1, if_neg (by decide), show (woV W c2).2.2.2 = [] from t2] at q
      have q : ck c2 j = enV 0 _ j (cv 0 c2) (cv 1 c2) (hv c2) := q
      rw [q]
      unfold enV
      rw [if_neg (by decide), if_neg (by decide), if_pos (Or.inl rfl), if_neg j0]
    · rw [e] at hn; rw [e1] at hi; exact absurd hi hn
  · rw [e] at hn; rw [e1] at hi; exact absurd hi hn
  · rw [e] at hn; rw [e1] at hi; exact absurd hi hn
  · omega
  · rw [e] at hn; rw [e1] at hi; exact absurd hi hn
theorem one_6 {y x : Nat} (hP : PkR W R y x) (k6 : (woV W x).1 = 6) (no : ∀ {d : Nat}, moG R y = [d] → False) : False := by
  rcases hP with ⟨a, -⟩ | ⟨a, -⟩ | ⟨a, -⟩ | ⟨a, -⟩ | ⟨a, -⟩ | ⟨a, -⟩ | ⟨-, -, c, d', e1, e⟩ | ⟨a, -⟩ | ⟨a, -⟩ | ⟨a, -⟩
  rotate_left 6
  · exact no e
  all_goals (rw [k6] at a; exact absurd a (by decide))
theorem one_9 {y x : Nat} (hP : PkR W R y x) (k9 : (woV W x).1 = 9) (no : ∀ {d : Nat}, moG R y = [d] → False) : False := by
  rcases hP with ⟨a, -⟩ | ⟨a, -⟩ | ⟨a, -⟩ | ⟨a, -⟩ | ⟨a, -⟩ | ⟨a, -⟩ | ⟨a, -⟩ | ⟨a, -⟩ | ⟨a, -⟩ | ⟨-, -, c, d', e1, e⟩
  rotate_left 9
  · exact no e
  all_goals (rw [k9] at a; exact absurd a (by decide))
theorem opn_6 {y x : Nat} (hG : frM R) (hy : inR R y) (hP : PkR W R y x) (hi : 0 < (moG R y).length) (hfx : ∀ i, FrR R I ρ i = ρ i) (k6 : (woV W x).1 = 6) : v3O (ρ (0, y, 0)) (ρ (4, (moG R y).getD 0 0, 0)) = ρ (0, (moG R y).getD 0 0, 0) := by
  obtain ⟨k1, k2, -, -, hd⟩ := kid_up hG hy hi
  have b : (moS R).2 80 y = 7 := by
    rcases hP with ⟨a, -⟩ | ⟨a, -⟩ | ⟨a, -⟩ | ⟨a, -⟩ | ⟨a, -⟩ | ⟨a, -⟩ | ⟨-, b, -⟩ | ⟨a, -⟩ | ⟨a, -⟩ | ⟨a, -⟩
    rotate_left 6
    · exact b
    all_goals (rw [k6] at a; exact absurd a (by decide))
  rw [← hfx (0, (moG R y).getD 0 0, 0)]
  show _ = FrA R I ρ 0 _ 0
  unfold FrA
  rw [if_pos (by decide), if_pos ⟨hd, rfl⟩]
  unfold enR
  rw [if_neg k1, if_pos rfl, k2, if_neg (by rw [b]; decide), if_neg (by rw [b]; decide), if_pos b]
theorem opn_9 {y x : Nat} (hG : frM R) (hy : inR R y) (hP : PkR W R y x) (hi : 0 < (moG R y).length) (hfx : ∀ i, FrR R I ρ i = ρ i) (k9 : (woV W x).1 = 9) : v3O (ρ (3, y, 0)) (ρ (4, (moG R y).getD 0 0, 2)) = ρ (3, (moG R y).getD 0 0, 0) := by
  obtain ⟨k1, k2, -, -, hd⟩ := kid_up hG hy hi
  have b : (moS R).2 80 y = 10 := by
    rcases hP with ⟨a, -⟩ | ⟨a, -⟩ | ⟨a, -⟩ | ⟨a, -⟩ | ⟨a, -⟩ | ⟨a, -⟩ | ⟨a, -⟩ | ⟨a, -⟩ | ⟨a, -⟩ | ⟨-, b, -⟩
    rotate_left 9
    · exact b
    all_goals (rw [k9] at a; exact absurd a (by decide))
  rw [← hfx (3, (moG R y).getD 0 0, 0)]
  show _ = FrA R I ρ 3 _ 0
  unfold FrA
  rw [if_pos (by decide), if_pos ⟨hd, rfl⟩]
  unfold enR
  rw [if_neg k1, if_neg (by decide), if_neg (by decide), if_neg (by decide), k2, if_pos b]
/-- what is known of a pair when wires meet a solution -/
def SbE (W : Wo) (R : RMo) (I : RIn) (ρ : Plc → Nat) (hv : Nat → Nat) (cv ck : Nat → Nat → Nat) (co cc : Nat → Nat) (y x : Nat) : Prop := SbA W R I hv cv ck co cc y x ∧ ((woV W x).1 = 4 ∨ (woV W x).1 = 7 → lokR R I ρ y = cc x) ∧ ((woV W x).1 = 6 → co x = ρ (0, (moG R y).getD 0 0, 0)) ∧ ((woV W x).1 = 9 → co x = ρ (3, (moG R y).getD 0 0, 0))
def MtE (R : RMo) (ρ : Plc → Nat) (cv ck : Nat → Nat → Nat) (y x : Nat) : Prop := Mw (fun a c => a = c) ρ cv y x ∧ Mk (fun a c => a = c) ρ ck (moC R) y x
theorem M_t (hG : frM R) (hfx : ∀ i, FrR R I ρ i = ρ i) (cb : ∀ c j, ck c j ≤ 2) (h3 : 3 ≤ moC R ∧ moC R ≤ 20) : ∀ (g : Nat) (cx : List (Option Nat)) (y x p p' : Nat), RpN W (moM R) zn fn (vwM R) (hiM R) g cx y x p p' → (∀ d c, DsR W R y x d c → SbE W R I ρ hv cv ck co cc d c) → Mw (fun a c => a = c) ρ cv y x → ∀ d c, DsR W R y x d c → MtE R ρ cv ck d c := by
  intro g
  induction g with
  | zero => intro cx y x p p' h; unfold RpN at h; exact h.elim
  | succ g ih =>
    intro cx y x p p' h hS hw
    have hy : inR R y := h.in
    obtain ⟨⟨hm, hnu, hE, hE2⟩, hl, ho6, ho9⟩ := hS y x DsR.rf
    by_cases hne : cs1 W x
    · obtain ⟨c, e, k⟩ := h.one hne
      have o := C_one hne e hE cb
      have q := ih cx y c p p' k (fun d c' z => hS d c' ((DsR.one hy hne e).tr z)) (fun j hj => (hw j hj).trans (o.1 j hj).symm)
      intro d c' z
      rcases z.cs with ⟨z1, z2⟩ | ⟨-, c2, z1, z2⟩ | ⟨z1, -⟩
      · rw [z1, z2]
        refine ⟨hw, fun n hn => ?_⟩
        rw [o.2 n (by omega)]
        exact (q y c DsR.rf).2 n hn
      · rw [e] at z1
        cases z1
        exact q d c' z2
      · exact absurd hne z1
    have hP := h.pk hne
    have kd : ∀ i, i < (moG R y).length → ∀ d c, DsR W R ((moG R y).getD i 0) ((chV W x).getD i 0) d c → MtE R ρ cv ck d c := by
      intro i
      induction i with
      | zero =>
        intro hi
        obtain ⟨cx', q, q', k⟩ := h.kid hne 0 hi
        have hd := (kid_up hG hy hi).2.2.2.2
        refine ih cx' _ _ q q' k (fun d c' z => hS d c' ((DsR.kid hy hne hP hi).tr z)) (fun c c3 => ?_)
        have fx : ρ (c, (moG R y).getD 0 0, 0) = enR R I ρ c ((moG R y).getD 0 0) := by
          rw [← hfx (c, (moG R y).getD 0 0, 0)]
          show FrA R I ρ c _ 0 = _
          unfold FrA
          rw [if_pos c3, if_pos ⟨hd, rfl⟩]
        rw [fx]
        refine L_ar Cg_eq hG hy hP hE hi hm hw hl (fun j hj => absurd hj (by omega)) (fun k6 => ?_) (fun k9 => ?_) c c3
        · rw [ho6 k6]
          exact opn_6 hG hy hP hi hfx k6
        · rw [ho9 k9]
          exact opn_9 hG hy hP hi hfx k9
      | succ i ihi =>
        intro hi
        obtain ⟨cx', q, q', k⟩ := h.kid hne (i + 1) hi
        have hd := (kid_up hG hy hi).2.2.2.2
        have pv := (ihi (by omega) _ _ DsR.rf).2 0 (by omega)
        have no1 : ∀ {c d : Nat}, moG R y = [d] → False := fun {c d} e => by rw [e] at hi; exact absurd hi (by simp)
        refine ih cx' _ _ q q' k (fun d c' z => hS d c' ((DsR.kid hy hne hP hi).tr z)) (fun c c3 => ?_)
        have fx : ρ (c, (moG R y).getD (i + 1) 0, 0) = enR R I ρ c ((moG R y).getD (i + 1) 0) := by
          rw [← hfx (c, (moG R y).getD (i + 1) 0, 0)]
          show FrA R I ρ c _ 0 = _
          unfold FrA
          rw [if_pos c3, if_pos ⟨hd, rfl⟩]
        rw [fx]
        refine L_ar Cg_eq hG hy hP hE hi hm hw hl (fun j hj => ?_) (fun k6 => ?_) (fun k9 => ?_) c c3
        · have e : j = i := by omega
          rw [e]; exact pv
        · exact (one_6 hP k6 (no1 (c := 0))).elim
        · exact (one_9 hP k9 (no1 (c := 0))).elim
    intro d c' z
    rcases z.cs with ⟨z1, z2⟩ | ⟨z1, -⟩ | ⟨-, i, i1, i2, z1⟩
    · rw [z1, z2]
      refine ⟨hw, fun n hn => ?_⟩
      have fx : ρ (4, y, n) = cdR R I ρ y n := by
        rw [← hfx (4, y, n)]
        show FrA R I ρ 4 y n = _
        unfold FrA
        rw [if_neg (by decide), if_pos rfl, if_pos ⟨hy, hn⟩]
      show ρ (4, y, n) = ck x n
      rw [fx]
      refine L_cd Cg_eq hG hy hP hE hE2 cb hm (fun i hi => ?_) hw hl (fun i hi => (kd i hi _ _ DsR.rf).2) (fun i hi j j1 j2 => ?_) h3 (fun k3 => ?_) hn
      · exact (hS _ _ (DsR.kid hy hne hP hi)).1.1
      · by_cases z : i < (moG R y).length
        · obtain ⟨cx', q, q', k⟩ := h.kid hne i z
          exact C_z (I := I) hG cb h3.1 g cx' _ _ q q' k (fun d c' q => (hS d c' ((DsR.kid hy hne hP z).tr q)).1) j j1 j2
        · exact mis_z hP hE2 hi z (by omega) j2
      · obtain ⟨u1, v, u2, u3⟩ := hnu k3
        exact ⟨u1, v, by omega, u3⟩
    · exact absurd z1 hne
    · exact kd i i1 d c' z1
end
end
section
/-! what the reference comes to lies below any solution of the class's wires -/
section
variable {W : Wo} {R : RMo} {I : RIn} {ρ : Plc → Nat} {hv : Nat → Nat} {cv ck : Nat → Nat → Nat} {co cc cs : Nat → Nat} {zn fn y0 x0 : Nat}
/-- root's wires -/
def rtV (I : RIn) (c : Nat) : Nat := if c = 0 then (if iFi I = 1 then 1 else 0) else if c = 1 then (if iFi I = 1 then 0 else 1) else 0
/-- the class's wires, all of them -/
def CSo (W : Wo) (R : RMo) (I : RIn) (hv : Nat → Nat) (cv ck : Nat → Nat → Nat) (co cc cs : Nat → Nat) (y0 x0 : Nat) : Prop := (∀ d c, DsR W R y0 x0 d c → SbA W R I hv cv ck co cc d c ∧ ((woV W c).1 = 6 → co c = v3O (cv 0 c) (ck ((chV W c).getD 0 0) 0)) ∧ ((woV W c).1 = 9 → co c = v3O (cv 3 c) (ck ((chV W c).getD 0 0) 2))) ∧ (∀ c, c ≤ 3 → cv c x0 = rtV I c) ∧ (∀ c j, ck c j ≤ 2) ∧ ∀ s, s < moQ R → moT R s = 0 → cs s = iGv I s
theorem U_p {g p' : Nat} (hG : frM R) (h3 : 3 ≤ moC R ∧ moC R ≤ 20) (hy0 : inR R y0 ∧ (moS R).2 86 y0 = -1) (hR : RpN W (moM R) zn fn (vwM R) (hiM R) g [] y0 x0 0 p') (hS : CSo W R I hv cv ck co cc cs y0 x0) (hcc : ∀ u : Plc → Nat, (∀ s, s < moQ R → lq3 (u (5, s, 0)) (cs s)) → ∀ d c, DsR W R y0 x0 d c → (woV W c).1 = 4 ∨ (woV W c).1 = 7 → lq3 (lokR R I u d) (cc c)) (hem : ∀ u : Plc → Nat, (∀ d c, DsR W R y0 x0 d c → lq3 (u (0, d, 0)) (cv 0 c)) → ∀ s, s < moQ R → moT R s ≠ 0 → lq3 (emR R u s (moS R).1) (cs s)) (hJ : JF (FrR R I) ρ) : (∀ d c, DsR W R y0 x0 d c → Mw lq3 ρ cv d c ∧ Mk lq3 ρ ck (moC R) d c) ∧ ∀ s, s < moQ R → lq3 (ρ (5, s, 0)) (cs s) := by
  obtain ⟨hS, hrt, cb, hin⟩ := hS
  have B := hJ.2 (fun i a => (i.1 ≤ 3 → i.2.2 = 0 → ∀ x, DsR W R y0 x0 i.2.1 x → lq3 a (cv i.1 x)) ∧ (i.1 = 4 → i.2.2 < moC R → ∀ x, DsR W R y0 x0 i.2.1 x → lq3 a (ck x i.2.2)) ∧ (i.1 = 5 → i.2.2 = 0 → i.2.1 < moQ R → lq3 a (cs i.2.1))) (fun i => ⟨fun _ _ _ _ => Or.inl rfl, fun _ _ _ _ => Or.inl rfl, fun _ _ _ => Or.inl rfl⟩) (fun u hu i => ?_)
  · refine ⟨fun d c h => ⟨fun q hq => (B (q, d, 0)).1 hq rfl c h, fun n hn => (B (4, d, n)).2.1 rfl hn c h⟩, fun s hs => (B (5, s, 0)).2.2 rfl rfl hs⟩
  obtain ⟨c, y, n⟩ := i
  have hw : ∀ d x, DsR W R y0 x0 d x → Mw lq3 u cv d x := fun d x h q hq => (hu (q, d, 0)).1 hq rfl x h
  have hk : ∀ d x, DsR W R y0 x0 d x → Mk lq3 u ck (moC R) d x := fun d x h q hq => (hu (4, d, q)).2.1 rfl hq x h
  have hl := hcc u (fun s hs => (hu (5, s, 0)).2.2 rfl rfl hs)
  have rp : ∀ d x, DsR W R y0 x0 d x → ∃ g' cx' q q', RpN W (moM R) zn fn (vwM R) (hiM R) g' cx' d x q q' := fun d x h => by
    obtain ⟨k, h⟩ := h
    exact DsI.rp k (y0, x0) g [] 0 p' h hR
  refine ⟨fun c3 n0 x hx => ?_, fun c4 nk x hx => ?_, fun c5 n0 ys => ?_⟩
  · -- wires
    have c3 : c ≤ 3 := c3
    have n0 : n = 0 := n0
    have iy : inR R y := by
      obtain ⟨g', cx', q, q', k⟩ := rp y x hx
      exact k.in
    show lq3 (FrA R I u c y n) (cv c x)
    unfold FrA
    rw [if_pos c3, if_pos ⟨iy, n0⟩]
    have main : ∀ k y x, DsI W (moM R) (vwM R) (hiM R) k (y0, x0) (y, x) → lq3 (enR R I u c y) (cv c x) := by
      intro k
      induction k with
      | zero =>
        intro y x h
        have h : (y0, x0) = (y, x) := h
        cases h
        rw [hrt c c3]
        unfold enR rtV
        rw [if_pos hy0.2]
        exact lq3.rf
      | succ k ih =>
        intro y x h
        obtain ⟨⟨y', x'⟩, h1, z⟩ := DsI.sn k _ _ h
        have hp : DsR W R y0 x0 y' x' := ⟨k, h1⟩
        obtain ⟨⟨hm, hnu, hE, hE2⟩, o6, o9⟩ := hS y' x' hp
        obtain ⟨iy', z⟩ := z
        rcases z with ⟨a1, a2, a3⟩ | ⟨a1, a2⟩
        · have a3 : y = y' := a3
          subst a3
          have o := C_one ⟨a1, by show (chV W x').length = 1; rw [a2]; rfl⟩ a2 hE cb
          have q := ih y x' h1
          rw [← o.1 c c3] at q
          exact q
        · obtain ⟨g', cx', q, q', kk⟩ := rp y' x' hp
          have hP := kk.pk a1
          obtain ⟨i, i1, i2, i3, i4⟩ := zip_ix a2
          have i1 : i < (moG R y').length := i1
          have i3 : y = (moG R y').getD i 0 := i3
          rw [i3, i4]
          have kid := fun j (hj : j < (moG R y').length) => hk _ _ (hp.tr (DsR.kid kk.in a1 hP hj))
          refine L_ar Cg_lq hG iy' hP hE i1 hm (hw y' x' hp) (hl y' x' hp) (fun j hj => kid j (by omega) 0 (by omega)) (fun k6 => ?_) (fun k9 => ?_) c c3
          · rw [o6 k6]
            have e : i = 0 := Nat.eq_zero_of_not_pos (fun pos => one_6 hP k6 (fun {d} e => by rw [e] at i1; have i1 : i < 1 := i1; omega))
            rw [e]
            exact v3O_mo (hw y' x' hp 0 (by decide)) (kid 0 (by omega) 0 (by omega))
          · rw [o9 k9]
            have e : i = 0 := Nat.eq_zero_of_not_pos (fun pos => one_9 hP k9 (fun {d} e => by rw [e] at i1; have i1 : i < 1 := i1; omega))
            rw [e]
            exact v3O_mo (hw y' x' hp 3 (by decide)) (kid 0 (by omega) 2 (by omega))
    obtain ⟨k, h⟩ := hx
    exact main k y x h
  · -- codes
    have c4 : c = 4 := c4
    have nk : n < moC R := nk
    obtain ⟨g', cx', q, q', kk⟩ := rp y x hx
    show lq3 (FrA R I u c y n) (ck x n)
    unfold FrA
    rw [if_neg (by omega), if_pos c4, if_pos ⟨kk.in, nk⟩]
    have main : ∀ g' cx' x q q', RpN W (moM R) zn fn (vwM R) (hiM R) g' cx' y x q q' → DsR W R y0 x0 y x → lq3 (cdR R I u y n) (ck x n) := by
      intro g'
      induction g' with
      | zero => intro cx' x q q' h; unfold RpN at h; exact h.elim
      | succ g' ih =>
        intro cx' x q q' h hp
        obtain ⟨⟨hm, hnu, hE, hE2⟩, -, -⟩ := hS y x hp
        by_cases hne : cs1 W x
        · obtain ⟨c', e, k⟩ := h.one hne
          rw [(C_one hne e hE cb).2 n (by omega)]
          exact ih cx' c' q q' k (hp.tr (DsR.one h.in hne e))
        · have hP := h.pk hne
          have kp := fun i (hi : i < (moG R y).length) => hp.tr (DsR.kid h.in hne hP hi)
          refine L_cd Cg_lq hG h.in hP hE hE2 cb hm (fun i hi => (hS _ _ (kp i hi)).1.1) (hw y x hp) (hl y x hp) (fun i hi => hk _ _ (kp i hi)) (fun i hi j j1 j2 => ?_) h3 (fun k3 => ?_) nk
          · by_cases z : i < (moG R y).length
            · obtain ⟨cx2, q1, q2, k⟩ := h.kid hne i z
              exact C_z (I := I) hG cb h3.1 g' cx2 _ _ q1 q2 k (fun d c' q => (hS d c' ((kp i z).tr q)).1) j j1 j2
            · exact mis_z hP hE2 hi z (by omega) j2
          · obtain ⟨u1, v, u2, u3⟩ := hnu k3
            exact ⟨u1, v, by omega, u3⟩
    exact main g' cx' x q q' kk hx
  · -- signals
    have c5 : c = 5 := c5
    have n0 : n = 0 := n0
    have ys : y < moQ R := ys
    show lq3 (FrA R I u c y n) (cs y)
    unfold FrA
    rw [if_neg (by omega), if_neg (by omega), if_pos ⟨c5, ys, n0⟩]
    by_cases z : moT R y = 0
    · rw [if_pos z, hin y ys z]; exact lq3.rf
    · rw [if_neg z]
      exact hem u (fun d c h => hw d c h 0 (by decide)) y ys z
end
end
section
/-! every node of the reference has its pair, and every node of the class but a missing 'else' -/
section
variable {W : Wo} {R : RMo} {zn fn y0 x0 : Nat}
theorem no_col : ∀ (g : Nat) (cx : List (Option Nat)) (y x p p' : Nat), RpN W (moM R) zn fn (vwM R) (hiM R) g cx y x p p' → ∃ x' g' q q', DsR W R y x y x' ∧ ¬ cs1 W x' ∧ RpN W (moM R) zn fn (vwM R) (hiM R) g' cx y x' q q'
  | 0, _, _, _, _, _, h => by unfold RpN at h; exact h.elim
  | g + 1, cx, y, x, p, p', h => by
    by_cases hne : cs1 W x
    · obtain ⟨c, e, k⟩ := h.one hne
      obtain ⟨x', g', q, q', h1, h2, h3⟩ := no_col g cx y c p p' k
      exact ⟨x', g', q, q', (DsR.one h.in hne e).tr h1, h2, h3⟩
    · exact ⟨x, g + 1, p, p', DsR.rf, hne, h⟩
theorem cov_a {g p' : Nat} (hG : frM R) (hR : RpN W (moM R) zn fn (vwM R) (hiM R) g [] y0 x0 0 p') : ∀ (k z : Nat), ancN (prB (moM R) (moS R)) k z y0 → inR R z → ∃ x cx g' q q', DsR W R y0 x0 z x ∧ ¬ cs1 W x ∧ RpN W (moM R) zn fn (vwM R) (hiM R) g' cx z x q q'
  | 0, z, h, _ => by
    have h : z = y0 := h
    rw [h]
    obtain ⟨x', g', q, q', h1, h2, h3⟩ := no_col g [] y0 x0 0 p' hR
    exact ⟨x', [], g', q, q', h1, h2, h3⟩
  | k + 1, z, h, hz => by
    obtain ⟨w, h1, h2⟩ := h
    obtain ⟨-, w5, e86⟩ := h1
    rcases hG.2.2.2.1 z hz.1 hz.2 with e | ⟨v, vi, e, vm⟩
    · rw [e] at e86
      exact absurd e86.symm (nm32 w5)
    have ev : v = w := by
      have := hG.1
      exact inj32 (by omega) (by omega) (e.symm.trans e86)
    subst ev
    obtain ⟨x, cx, g', q, q', d1, d2, d3⟩ := cov_a hG hR k v h2 vi
    obtain ⟨i, il, ie⟩ := List.mem_iff_getElem.mp vm
    have ez : (moG R v).getD i 0 = z := by rw [gd_el il]; exact ie
    cases g' with
    | zero => unfold RpN at d3; exact d3.elim
    | succ g' =>
      obtain ⟨cx', q1, q1', kk⟩ := d3.kid d2 i il
      have kd := DsR.kid d3.in d2 (d3.pk d2) il
      have e2 : (vwM R v).2.2.getD i 0 = z := ez
      rw [e2] at kk
      rw [ez] at kd
      obtain ⟨x', g2, q2, q2', h1, h2, h3⟩ := no_col g' cx' z _ q1 q1' kk
      exact ⟨x', cx', g2, q2, q2', (d1.tr kd).tr h1, h2, h3⟩
/-- pairs lie in the tree -/
theorem ds_no {g : Nat} (hf : FtN (chV W) g x0) : ∀ (n : Nat) (d c : Nat), DsI W (moM R) (vwM R) (hiM R) n (y0, x0) (d, c) → c ∈ noL (chV W) g x0
  | 0, d, c, h => by
    have h : (y0, x0) = (d, c) := h
    cases h
    exact noL_hd hf
  | n + 1, d, c, h => by
    obtain ⟨⟨y', x'⟩, h1, z⟩ := DsI.sn n _ _ h
    have q := ds_no hf n y' x' h1
    refine noL_ch g x0 x' c hf q ?_
    rcases z.2 with ⟨-, a2, -⟩ | ⟨-, a2⟩
    · have a2 : chV W x' = [c] := a2
      rw [a2]; exact List.mem_cons_self
    · exact (List.of_mem_zip a2).2
theorem cov_b : ∀ (g : Nat) (cx : List (Option Nat)) (y x p p' : Nat), RpN W (moM R) zn fn (vwM R) (hiM R) g cx y x p p' → ∀ z, z ∈ noL (chV W) g x → (∃ d, DsR W R y x d z) ∨ ((woV W z).1 = 0 ∧ chV W z = [])
  | 0, _, _, _, _, _, h => by unfold RpN at h; exact h.elim
  | g + 1, cx, y, x, p, p', h => by
    intro z hz
    rcases List.mem_cons.mp hz with e | e
    · rw [e]; exact Or.inl ⟨y, DsR.rf⟩
    obtain ⟨c, c1, c2⟩ := List.mem_flatMap.mp e
    by_cases hne : cs1 W x
    · obtain ⟨c', e', k⟩ := h.one hne
      rw [e'] at c1
      have ec : c = c' := List.mem_singleton.mp c1
      subst ec
      rcases cov_b g cx y c p p' k z c2 with ⟨d, q⟩ | q
      · exact Or.inl ⟨d, (DsR.one h.in hne e').tr q⟩
      · exact Or.inr q
    · have hP := h.pk hne
      obtain ⟨i, il, ie⟩ := List.mem_iff_getElem.mp c1
      have ec : (chV W x).getD i 0 = c := by rw [gd_el il]; exact ie
      by_cases hi : i < (moG R y).length
      · obtain ⟨cx', q1, q1', kk⟩ := h.kid hne i hi
        rw [ec] at kk
        have kd := DsR.kid h.in hne hP hi
        rw [ec] at kd
        rcases cov_b g cx' _ c q1 q1' kk z c2 with ⟨d, q⟩ | q
        · exact Or.inl ⟨d, kd.tr q⟩
        · exact Or.inr q
      · have lf : (woV W c).1 = 0 ∧ chV W c = [] := by
          rcases hP with ⟨-, -, -, e⟩ | ⟨-, e, -⟩ | ⟨-, e, -⟩ | ⟨-, e, -⟩ | ⟨-, e, -⟩ | ⟨-, -, c1, c2, d1, e1, e⟩ | ⟨-, -, c, d', e1, e⟩ | ⟨-, -, c, d', e1, e⟩ | ⟨-, -, -, e⟩ | ⟨-, -, c, d', e1, e⟩
          · omega
          · rw [e] at il; exact absurd il (Nat.not_lt_zero _)
          · rw [e] at il; exact absurd il (Nat.not_lt_zero _)
          · rw [e] at il; exact absurd il (Nat.not_lt_zero _)
          · rw [e] at il; exact absurd il (Nat.not_lt_zero _)
          · rcases e with ⟨e, t1, t2⟩ | ⟨d2, e⟩
            · rw [e] at hi
              rw [e1] at il ec
              have hi : ¬ i < 1 := hi
              have il : i < 2 := il
              have ei : i = 1 := by omega
              subst ei
              have ec : c2 = c := ec
              rw [← ec]; exact ⟨t1, t2⟩
            · rw [e] at hi; rw [e1] at il; exact absurd il hi
          · rw [e] at hi; rw [e1] at il; exact absurd il hi
          · rw [e] at hi; rw [e1] at il; exact absurd il hi
          · omega
          · rw [e] at hi; rw [e1] at il; exact absurd il hi
        cases g with
        | zero => exact absurd c2 List.not_mem_nil
        | succ g =>
          rcases List.mem_cons.mp c2 with e3 | e3
          · rw [e3]; exact Or.inr lf
          · rw [lf.2] at e3
            exact absurd e3 List.not_mem_nil
/-- a node of the class stands for one of the reference -/
theorem ds_fn (nb : Nat → Prop) (hnb : ∀ d c, DsR W R y0 x0 d c → nb c) (hu : ∀ z a b, nb a → nb b → z ∈ chV W a → z ∈ chV W b → a = b) (hd : ∀ a, nb a → (chV W a).Nodup) (hr : ∀ a, nb a → x0 ∉ chV W a) : ∀ (n n' d d' c : Nat), DsI W (moM R) (vwM R) (hiM R) n (y0, x0) (d, c) → DsI W (moM R) (vwM R) (hiM R) n' (y0, x0) (d', c) → d = d' := by
  have mem : ∀ {e b : Nat × Nat}, Z1 W (moM R) (vwM R) (hiM R) e b → b.2 ∈ chV W e.2 := fun {e b} z => by
    rcases z.2 with ⟨-, a2, -⟩ | ⟨-, a2⟩
    · rw [a2]; exact List.mem_cons_self
    · obtain ⟨b1, b2⟩ := b
      exact (List.of_mem_zip a2).2
  intro n
  induction n with
  | zero =>
    intro n' d d' c h h'
    have h : (y0, x0) = (d, c) := h
    cases h
    cases n' with
    | zero =>
      have h' : (y0, x0) = (d', x0) := h'
      exact congrArg Prod.fst h'
    | succ n' =>
      obtain ⟨e, h1, z⟩ := DsI.sn n' _ _ h'
      exact absurd (mem z) (hr e.2 (hnb e.1 e.2 ⟨n', h1⟩))
  | succ n ih =>
    intro n' d d' c h h'
    obtain ⟨⟨y1, x1⟩, h1, z⟩ := DsI.sn n _ _ h
    have m1 : c ∈ chV W x1 := mem z
    have b1 := hnb y1 x1 ⟨n, h1⟩
    cases n' with
    | zero =>
      have h' : (y0, x0) = (d', c) := h'
      cases h'
      exact absurd m1 (hr x1 b1)
    | succ n' =>
      obtain ⟨⟨y2, x2⟩, h2, z'⟩ := DsI.sn n' _ _ h'
      have m2 : c ∈ chV W x2 := mem z'
      have b2 := hnb y2 x2 ⟨n', h2⟩
      have ex : x1 = x2 := hu c x1 x2 b1 b2 m1 m2
      subst ex
      have ey := ih n' y1 y2 x1 h1 h2
      subst ey
      rcases z.2 with ⟨a1, a2, a3⟩ | ⟨a1, a2⟩
      · rcases z'.2 with ⟨-, -, a6⟩ | ⟨a4, -⟩
        · have a3 : d = y1 := a3
          have a6 : d' = y1 := a6
          rw [a3, a6]
        · exact absurd ⟨a1, by show (chV W x1).length = 1; rw [a2]; rfl⟩ a4
      · rcases z'.2 with ⟨a4, a5, -⟩ | ⟨-, a5⟩
        · exact absurd ⟨a4, by show (chV W x1).length = 1; rw [a5]; rfl⟩ a1
        · obtain ⟨i, i1, i2, i3, i4⟩ := zip_ix a2
          obtain ⟨j, j1, j2, j3, j4⟩ := zip_ix a5
          have i2 : i < (chV W x1).length := i2
          have j2 : j < (chV W x1).length := j2
          have e : (chV W x1)[i] = (chV W x1)[j] := by rw [← gd_el i2, ← gd_el j2]; exact i4.symm.trans j4
          have nd := hd x1 b1
          have ij : i = j := by
            rcases Nat.lt_trichotomy i j with z | z | z
            · exact absurd e (List.pairwise_iff_getElem.mp nd i j i2 j2 z)
            · exact z
            · exact absurd e.symm (List.pairwise_iff_getElem.mp nd j i j2 i2 z)
          rw [i3, j3, ij]
end
end
