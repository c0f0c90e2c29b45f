/-! what is read of parts, against the tokens: no more room than tokens pay for -/
section
variable {b : Nat → Int32} {n : Nat}
theorem rd_le {sN : List Int64} {mx : List Int32} {vN : List Int64} : ∀ (g md i o : Nat) (X : List Nd) (u : Int32) (r : Nat × List Nd × Int32), rd b n sN mx vN g md i o X u = .ok r → i ≤ r.1 := by
  intro g
  induction g with
  | zero => intro md i o X u r e; unfold rd at e; cases e
  | succ g ih =>
    intro md i o X u r e
    unfold rd at e
    by_cases m0 : md = 0
    · rw [if_pos m0] at e
      by_cases k1 : tK b n i = 3
      · rw [if_pos k1] at e
        obtain ⟨j, hj, e⟩ := bind_ok e
        cases e
        have := adv_i hj
        show i ≤ j
        omega
      rw [if_neg k1] at e
      by_cases k2 : tK b n i = 2
      · rw [if_pos k2] at e
        cases h2 : fd vN (tC b n i) with
        | none => rw [h2] at e; cases e
        | some k =>
          rw [h2] at e
          obtain ⟨j, hj, e⟩ := bind_ok e
          cases e
          have := adv_i hj
          show i ≤ j
          omega
      rw [if_neg k2] at e
      by_cases k3 : tK b n i = 19
      · rw [if_pos k3] at e
        obtain ⟨j, hj, e⟩ := bind_ok e
        have a1 := adv_i hj
        by_cases k4 : tK b n j = 2
        · rw [if_pos k4] at e
          cases h2 : fd sN (tC b n j) with
          | none => rw [h2] at e; cases e
          | some k =>
            rw [h2] at e
            have e : (if mx.getD k 0 = 0 then Except.error (4, tP b n j) else (adv' b n j).bind fun j' => .ok (j', X ++ [(2, Int64.ofNat k, 0)], u)) = .ok r := e
            by_cases k5 : mx.getD k 0 = 0
            · rw [if_pos k5] at e; cases e
            rw [if_neg k5] at e
            obtain ⟨j', hj', e⟩ := bind_ok e
            cases e
            have := adv_i hj'
            show i ≤ j'
            omega
        · rw [if_neg k4] at e; cases e
      rw [if_neg k3] at e
      by_cases k6 : tK b n i = 21
      · rw [if_pos k6] at e
        by_cases k7 : o = 15
        · rw [if_pos k7] at e; cases e
        rw [if_neg k7] at e
        obtain ⟨j, hj, e⟩ := bind_ok e
        obtain ⟨q, hq, e⟩ := bind_ok e
        cases e
        have := adv_i hj
        have := ih _ _ _ _ _ _ hq
        show i ≤ q.1
        omega
      rw [if_neg k6] at e
      by_cases k8 : tK b n i = 15
      · rw [if_pos k8] at e
        by_cases k7 : o = 15
        · rw [if_pos k7] at e; cases e
        rw [if_neg k7] at e
        obtain ⟨j, hj, e⟩ := bind_ok e
        obtain ⟨q, hq, e⟩ := bind_ok e
        have := adv_i hj
        have := ih _ _ _ _ _ _ hq
        by_cases k9 : tK b n q.1 = 16
        · rw [if_pos k9] at e
          obtain ⟨j', hj', e⟩ := bind_ok e
          cases e
          have := adv_i hj'
          show i ≤ j'
          omega
        · rw [if_neg k9] at e; cases e
      · rw [if_neg k8] at e; cases e
    rw [if_neg m0] at e
    by_cases m1 : md = 1
    · rw [if_pos m1] at e
      obtain ⟨q, hq, e⟩ := bind_ok e
      have := ih _ _ _ _ _ _ hq
      have := ih _ _ _ _ _ _ e
      omega
    rw [if_neg m1] at e
    by_cases m2 : md = 2
    · rw [if_pos m2] at e
      by_cases k1 : tK b n i = 22 ∨ tK b n i = 23 ∨ tK b n i = 24
      · rw [if_pos k1] at e
        obtain ⟨j, hj, e⟩ := bind_ok e
        obtain ⟨q, hq, e⟩ := bind_ok e
        have := adv_i hj
        have := ih _ _ _ _ _ _ hq
        have a3 := ih _ _ _ _ _ _ e
        omega
      · rw [if_neg k1] at e; cases e; exact Nat.le_refl _
    rw [if_neg m2] at e
    by_cases m3 : md = 3
    · rw [if_pos m3] at e
      obtain ⟨q, hq, e⟩ := bind_ok e
      have := ih _ _ _ _ _ _ hq
      have := ih _ _ _ _ _ _ e
      omega
    rw [if_neg m3] at e
    by_cases k1 : tK b n i = 20 ∨ tK b n i = 21
    · rw [if_pos k1] at e
      obtain ⟨j, hj, e⟩ := bind_ok e
      obtain ⟨q, hq, e⟩ := bind_ok e
      have := adv_i hj
      have := ih _ _ _ _ _ _ hq
      have a3 := ih _ _ _ _ _ _ e
      omega
    · rw [if_neg k1] at e; cases e; exact Nat.le_refl _
theorem rc0_lt {sN : List Int64} {p i : Nat} {Y : List Cd} {r : Nat × List Cd} (e : rc0 b n sN p i Y = .ok r) : i < r.1 := by
  unfold rc0 at e
  by_cases k1 : tK b n i = 2
  · rw [if_pos k1] at e
    cases h2 : fd sN (tC b n i) with
    | none => rw [h2] at e; cases e
    | some k =>
      rw [h2] at e
      obtain ⟨j, hj, e⟩ := bind_ok e
      cases e
      have := adv_i hj
      show i < j
      omega
  · rw [if_neg k1] at e; cases e
theorem rc_lt {sN : List Int64} : ∀ (g md i o : Nat) (Y : List Cd) (r : Nat × List Cd), md = 0 ∨ md = 1 ∨ md = 3 → rc b n sN g md i o Y = .ok r → i < r.1 := by
  intro g
  induction g with
  | zero => intro md i o Y r _ e; unfold rc at e; cases e
  | succ g ih =>
    intro md i o Y r hm e
    unfold rc at e
    by_cases m0 : md = 0
    · rw [if_pos m0] at e
      by_cases k1 : tK b n i = 61
      · rw [if_pos k1] at e
        by_cases k7 : o = 15
        · rw [if_pos k7] at e; cases e
        rw [if_neg k7] at e
        obtain ⟨j, hj, e⟩ := bind_ok e
        obtain ⟨q, hq, e⟩ := bind_ok e
        cases e
        have := adv_i hj
        have := rc_le _ _ _ _ _ _ hq
        show i < q.1
        omega
      rw [if_neg k1] at e
      by_cases k2 : tK b n i = 15
      · rw [if_pos k2] at e
        by_cases k7 : o = 15
        · rw [if_pos k7] at e; cases e
        rw [if_neg k7] at e
        obtain ⟨j, hj, e⟩ := bind_ok e
        obtain ⟨q, hq, e⟩ := bind_ok e
        have := adv_i hj
        have := rc_le _ _ _ _ _ _ hq
        by_cases k9 : tK b n q.1 = 16
        · rw [if_pos k9] at e
          obtain ⟨j', hj', e⟩ := bind_ok e
          cases e
          have := adv_i hj'
          show i < j'
          omega
        · rw [if_neg k9] at e; cases e
      rw [if_neg k2] at e
      by_cases k3 : tK b n i = 62
      · rw [if_pos k3] at e
        obtain ⟨j, hj, e⟩ := bind_ok e
        have := adv_i hj
        have := rc0_le e
        omega
      · rw [if_neg k3] at e; exact rc0_lt e
    rw [if_neg m0] at e
    by_cases m1 : md = 1
    · rw [if_pos m1] at e
      obtain ⟨q, hq, e⟩ := bind_ok e
      have := ih _ _ _ _ _ (Or.inl rfl) hq
      have := rc_le _ _ _ _ _ _ e
      omega
    have m3 : md = 3 := by omega
    rw [if_neg m1, if_neg (by omega), if_pos m3] at e
    obtain ⟨q, hq, e⟩ := bind_ok e
    have := ih _ _ _ _ _ (Or.inr (Or.inl rfl)) hq
    have := rc_le _ _ _ _ _ _ e
    omega
end
section
variable {b : Nat → Int32} {n m : Nat} {τ : Td} {j i o f1 f2 fo x aw lit y : Nat} {k : Int32} {w : Int64} {K : List KE} {σ : PS}
theorem su_i {r : Nat × PS} (e : suM b n m τ j f1 f2 fo i o σ = .ok r) : i ≤ r.1 := by
  unfold suM at e
  obtain ⟨q, eq, e⟩ := bind_ok e
  cases e
  exact rd_le _ _ _ _ _ _ _ eq
theorem co_i {r : Nat × PS × Nat} (e : coM b n m τ j i o σ = .ok r) : i < r.1 := by
  unfold coM at e
  obtain ⟨q, eq, e⟩ := bind_ok e
  cases e
  exact rc_lt _ _ _ _ _ _ (Or.inr (Or.inr rfl)) eq
theorem at_i {r : Nat × PS × Nat × Bool} (e : atM b n m τ j i o σ = .ok r) : i < r.1 := by
  unfold atM at e
  obtain ⟨q, eq, e⟩ := bind_ok e
  obtain ⟨z, ez, e⟩ := bind_ok e
  cases e
  have := im_l eq
  have := co_i ez
  show i < z.1
  omega
theorem em_i {r : Nat × PS × Nat} (e : emM b n m τ k j i o σ = .ok r) : i ≤ r.1 := by
  unfold emM at e
  by_cases h1 : tK b n i = 2
  · rw [if_pos h1] at e
    cases h2 : fd τ.1 (tC b n i) with
    | none => rw [h2] at e; cases e
    | some s =>
      rw [h2] at e
      have e : (if τ.2.1.getD s 0 = 30 then Except.error (4, tP b n i) else (adv' b n i).bind fun i2 => _) = .ok r := e
      by_cases h3 : τ.2.1.getD s 0 = 30
      · rw [if_pos h3] at e; cases e
      rw [if_neg h3] at e
      obtain ⟨i2, hi2, e⟩ := bind_ok e
      have := adv_i hi2
      by_cases h4 : τ.2.2.1.getD s 0 = 0
      · rw [if_pos h4] at e
        by_cases h5 : k = 40 ∧ tK b n i2 = 15
        · rw [if_pos h5] at e; cases e
        · rw [if_neg h5] at e; cases e; show i ≤ i2; omega
      rw [if_neg h4] at e
      by_cases h5 : k = 40 ∧ tK b n i2 = 15
      · rw [if_pos h5] at e
        by_cases h6 : o = 15
        · rw [if_pos h6] at e; cases e
        rw [if_neg h6] at e
        obtain ⟨i3, hi3, e⟩ := bind_ok e
        obtain ⟨z, e1, e⟩ := bind_ok e
        obtain ⟨i4, hi4, e⟩ := bind_ok e
        cases e
        have := adv_i hi3
        have := su_i e1
        have := ex_i hi4
        show i ≤ i4
        omega
      · rw [if_neg h5] at e; cases e
  · rw [if_neg h1] at e; cases e
theorem lf_i {r : Nat × PS × Nat} (e : lfM b n m τ k w j i K σ = .ok r) : i ≤ r.1 := by
  unfold lfM at e
  by_cases k1 : k = 38
  · rw [if_pos k1] at e; cases e; exact Nat.le_refl _
  rw [if_neg k1] at e
  by_cases k2 : k = 39
  · rw [if_pos k2] at e; cases e; exact Nat.le_refl _
  rw [if_neg k2] at e
  by_cases k3 : k = 40
  · rw [if_pos k3] at e
    obtain ⟨z, e1, e⟩ := bind_ok e
    have y := em_i e1
    cases e; exact y
  rw [if_neg k3] at e
  by_cases k4 : k = 41
  · rw [if_pos k4] at e
    obtain ⟨z, e1, e⟩ := bind_ok e
    have y := em_i e1
    cases e; exact y
  rw [if_neg k4] at e
  by_cases k5 : k = 47
  · rw [if_pos k5] at e
    obtain ⟨z, e1, e⟩ := bind_ok e
    cases e; exact Nat.le_of_lt (at_i e1)
  rw [if_neg k5] at e
  by_cases k6 : k = 57
  · rw [if_pos k6] at e
    by_cases h1 : tK b n i = 2
    · rw [if_pos h1] at e
      cases h2 : trW K (tC b n i) with
      | none => rw [h2] at e; cases e
      | some q =>
        rw [h2] at e
        obtain ⟨i2, hi2, e⟩ := bind_ok e
        cases e
        have := adv_i hi2
        show i ≤ i2
        omega
    · rw [if_neg h1] at e; cases e
  rw [if_neg k6] at e
  by_cases k7 : k = 2
  · rw [if_pos k7] at e
    obtain ⟨i2, hi2, e⟩ := bind_ok e
    obtain ⟨z, e1, e⟩ := bind_ok e
    cases e
    have := ex_i hi2
    have := su_i e1
    show i ≤ z.1
    omega
  rw [if_neg k7] at e
  cases e; exact Nat.le_refl _
/-- tokens that the head, the tail of a part take at the least -/
def hdT (k : Int32) : Nat := if k = 44 ∨ k = 53 then 2 else if k = 50 then 1 else if k = 58 then 2 else 0
def tlT (k : Int32) : Nat := if k = 49 ∨ k = 50 ∨ k = 52 then 3 else 1
theorem hd_i {r : Nat × PS × Nat × Bool × Nat × Option Int64} (e : hdM b n m τ k j i K σ = .ok r) : i + hdT k ≤ r.1 := by
  unfold hdM at e
  by_cases k1 : k = 44
  · rw [if_pos k1] at e
    obtain ⟨z, e1, e⟩ := bind_ok e
    obtain ⟨i2, hi2, e⟩ := bind_ok e
    cases e
    have := co_i e1
    have := ex_i hi2
    rw [k1]
    show i + 2 ≤ i2
    omega
  rw [if_neg k1] at e
  by_cases k2 : k = 49
  · rw [if_pos k2] at e; cases e; rw [k2]; exact Nat.le_refl _
  rw [if_neg k2] at e
  by_cases k3 : k = 50
  · rw [if_pos k3] at e
    obtain ⟨i2, hi2, e⟩ := bind_ok e
    cases e
    have := ex_i hi2
    rw [k3]
    show i + 1 ≤ i2
    omega
  rw [if_neg k3] at e
  by_cases k4 : k = 53
  · rw [if_pos k4] at e
    obtain ⟨z, e1, e⟩ := bind_ok e
    obtain ⟨i2, hi2, e⟩ := bind_ok e
    cases e
    have := at_i e1
    have := ex_i hi2
    rw [k4]
    show i + 2 ≤ i2
    omega
  rw [if_neg k4] at e
  by_cases k5 : k = 55
  · rw [if_pos k5] at e
    by_cases h1 : tK b n i = 2
    · rw [if_pos h1] at e
      by_cases h2 : toT (tC b n i) τ = true ∨ (trW K (tC b n i)).isSome = true
      · rw [if_pos h2] at e; cases e
      rw [if_neg h2] at e
      obtain ⟨i2, hi2, e⟩ := bind_ok e
      obtain ⟨i3, hi3, e⟩ := bind_ok e
      cases e
      have := adv_i hi2
      have := ex_i hi3
      rw [k5]
      show i + 0 ≤ i3
      omega
    · rw [if_neg h1] at e; cases e
  rw [if_neg k5] at e
  by_cases k6 : k = 58
  · rw [if_pos k6] at e
    obtain ⟨z, e1, e⟩ := bind_ok e
    have a1 := su_i e1
    by_cases h1 : 7 ≤ tK b n z.1 ∧ tK b n z.1 ≤ 12
    · rw [if_pos h1] at e
      obtain ⟨i2, hi2, e⟩ := bind_ok e
      obtain ⟨q, e2, e⟩ := bind_ok e
      obtain ⟨i3, hi3, e⟩ := bind_ok e
      have a2 := adv_i hi2
      have a3 := su_i e2
      have a4 := ex_i hi3
      cases e
      rw [k6]
      show i + 2 ≤ i3
      omega
    · rw [if_neg h1] at e; cases e
  rw [if_neg k6] at e
  have e0 : hdT k = 0 := by
    unfold hdT
    rw [if_neg (fun z => z.elim k1 k4), if_neg k3, if_neg k6]
  by_cases k7 : k = 17
  · rw [if_pos k7] at e
    cases e; rw [e0]; exact Nat.le_refl _
  rw [if_neg k7] at e
  cases e; rw [e0]; exact Nat.le_refl _
theorem tl_i {r : Nat × PS × Nat} (e : tlM b n m τ k j aw lit x i o σ = .ok r) : i + tlT k ≤ r.1 := by
  unfold tlM at e
  by_cases k1 : k = 42
  · rw [if_pos k1] at e
    obtain ⟨i2, hi2, e⟩ := bind_ok e
    have := ex_i hi2
    cases e
    rw [k1]
    show i + 1 ≤ i2
    omega
  rw [if_neg k1] at e
  by_cases k2 : k = 49
  · rw [if_pos k2] at e
    obtain ⟨i2, hi2, e⟩ := bind_ok e
    obtain ⟨z, e1, e⟩ := bind_ok e
    obtain ⟨i3, hi3, e⟩ := bind_ok e
    have := ex_i hi2
    have := at_i e1
    have := ex_i hi3
    rw [k2]
    by_cases h1 : z.2.2.2 = true
    · rw [if_pos h1] at e
      cases e
      show i + 3 ≤ i3
      omega
    · rw [if_neg h1] at e
      cases e
      show i + 3 ≤ i3
      omega
  rw [if_neg k2] at e
  by_cases k3 : k = 50
  · rw [if_pos k3] at e
    obtain ⟨i2, hi2, e⟩ := bind_ok e
    obtain ⟨z, e1, e⟩ := bind_ok e
    obtain ⟨i3, hi3, e⟩ := bind_ok e
    have := ex_i hi2
    have := at_i e1
    have := ex_i hi3
    cases e
    rw [k3]
    show i + 3 ≤ i3
    omega
  rw [if_neg k3] at e
  by_cases k4 : k = 52
  · rw [if_pos k4] at e
    obtain ⟨i2, hi2, e⟩ := bind_ok e
    obtain ⟨z, e1, e⟩ := bind_ok e
    obtain ⟨i3, hi3, e⟩ := bind_ok e
    have := ex_i hi2
    have := co_i e1
    have := ex_i hi3
    cases e
    rw [k4]
    show i + 3 ≤ i3
    omega
  rw [if_neg k4] at e
  have e0 : tlT k = 1 := by
    unfold tlT
    rw [if_neg]
    rintro (z | z | z)
    · exact k2 z
    · exact k3 z
    · exact k4 z
  by_cases k5 : k = 53
  · rw [if_pos k5] at e
    obtain ⟨i2, hi2, e⟩ := bind_ok e
    have := ex_i hi2
    cases e
    rw [e0]
    show i + 1 ≤ i2
    omega
  rw [if_neg k5] at e
  obtain ⟨i2, hi2, e⟩ := bind_ok e
  have := ex_i hi2
  cases e
  rw [e0]
  show i + 1 ≤ i2
  omega
theorem ch_i {r : Nat × PS × Nat} (e : chM b n lit x y i σ = .ok r) : i + 1 ≤ r.1 := by
  unfold chM at e
  obtain ⟨i2, hi2, e⟩ := bind_ok e
  have := ex_i hi2
  cases e
  show i + 1 ≤ i2
  omega
end
/-- the room that a part takes, by its sort; all of the first q parts -/
def kpS (s : Int32) : Nat := if s = 8 then 2278 else if s = 9 then 2862 else if s = 11 then 2514 else if s = 14 then 440 else if s = 16 then 648 else 358
def skS (m : Nat) (A : Nat → Nat → Int32) : Nat → Nat
  | 0 => 0
  | q + 1 => skS m A q + kpS (A 58 (40 * m + q))
def phS (m : Nat) (σ : PS) : Nat := skS m σ.1.2.1 (npS σ) + 648 * σ.1.1 4
/-- from token i to i' no more room is taken than tokens and pauses pay for -/
def PhR (m i : Nat) (σ : PS) (i' : Nat) (σ' : PS) : Prop := phS m σ' + 660 * i + 286 * σ.1.1 1 ≤ phS m σ + 660 * i' + 286 * σ'.1.1 1
section
variable {b : Nat → Int32} {n s m : Nat} {τ : Td} {σ σ1 σ2 : PS} {i i1 i2 : Nat}
theorem skS_cg {A B : Nat → Nat → Int32} : ∀ q, (∀ j, j < q → A 58 (40 * m + j) = B 58 (40 * m + j)) → skS m A q = skS m B q
  | 0, _ => rfl
  | q + 1, h => by
    show skS m A q + kpS (A 58 (40 * m + q)) = skS m B q + kpS (B 58 (40 * m + q))
    rw [skS_cg q (fun j hj => h j (by omega)), h q (Nat.lt_succ_self q)]
/-- the same parts, rows, pauses -/
def PhE (σ σ' : PS) : Prop := σ'.1.1 = σ.1.1 ∧ σ'.1.2.1 58 = σ.1.2.1 58
theorem PhE.e (h : PhE σ σ1) : phS m σ1 = phS m σ ∧ σ1.1.1 1 = σ.1.1 1 := by
  unfold phS npS
  rw [h.1, skS_cg (m := m) (A := σ1.1.2.1) (B := σ.1.2.1) _ (fun j _ => by rw [h.2])]
  exact ⟨rfl, rfl⟩
theorem Hd.pe {j : Nat} (h : Hd m j σ σ1) : PhE σ σ1 := ⟨h.1, by funext k; exact h.2.1 58 k (Or.inl (by decide))⟩
theorem ph_bg {k : Int32} {pl q d : Nat} {wh : Int32} : phS m (bgP m k pl q d wh σ) = phS m σ + kpS (Int32.ofNat (soK k)) ∧ (bgP m k pl q d wh σ).1.1 1 = σ.1.1 1 + paK k := by
  have a0 := bg_k (m := m) (k := k) (pl := pl) (q := q) (d := d) (wh := wh) (σ := σ)
  have a1 : (bgP m k pl q d wh σ).1.1 1 = σ.1.1 1 + paK k := by simp [bgP, va_up]
  have a4 : (bgP m k pl q d wh σ).1.1 4 = σ.1.1 4 := by simp [bgP, va_up]
  refine ⟨?_, a1⟩
  unfold phS
  rw [a0.2.1, a4]
  show skS m _ (npS σ) + kpS ((bgP m k pl q d wh σ).1.2.1 58 (40 * m + npS σ)) + _ = _
  rw [a0.2.2.2.1.1, skS_cg (m := m) (A := (bgP m k pl q d wh σ).1.2.1) (B := σ.1.2.1) _ (fun j hj => a0.1.1 58 (Or.inl rfl) j hj)]
  omega
theorem ph_rw {p : Nat} {q0 : Option Nat} : phS m (rwP p q0 σ) = phS m σ + 648 ∧ (rwP p q0 σ).1.1 1 = σ.1.1 1 := by
  have a0 : npS (rwP p q0 σ) = npS σ := by simp [npS, rwP, va_up]
  have a1 : (rwP p q0 σ).1.1 1 = σ.1.1 1 := by simp [rwP, va_up]
  have a4 : (rwP p q0 σ).1.1 4 = σ.1.1 4 + 1 := by simp [rwP, va_up]
  have a5 : (rwP p q0 σ).1.2.1 58 = σ.1.2.1 58 := by
    funext k
    cases q0 <;> simp [rwP, up2]
  refine ⟨?_, a1⟩
  unfold phS
  rw [a0, a4, skS_cg (m := m) (A := (rwP p q0 σ).1.2.1) (B := σ.1.2.1) _ (fun j _ => by rw [a5])]
  omega
theorem fi_pe {j x : Nat} : PhE σ (fiP m j x σ) := ⟨rfl, by funext k; simp [fiP, raP, up2]⟩
theorem br_pe {j a x : Nat} {g u : Int32} : PhE σ (brP σ j a x g u) := by
  unfold brP
  split <;> exact ⟨rfl, rfl⟩
theorem soV8 {k : Int32} (h : Int32.ofNat (soK k) = 8) : k = 49 := by
  unfold soK at h
  by_cases k0 : k = 37
  · rw [if_pos k0] at h; exact absurd h (by decide)
  rw [if_neg k0] at h
  by_cases k1 : k = 38
  · rw [if_pos k1] at h; exact absurd h (by decide)
  rw [if_neg k1] at h
  by_cases k2 : k = 39
  · rw [if_pos k2] at h; exact absurd h (by decide)
  rw [if_neg k2] at h
  by_cases k3 : k = 40
  · rw [if_pos k3] at h; exact absurd h (by decide)
  rw [if_neg k3] at h
  by_cases k4 : k = 41
  · rw [if_pos k4] at h; exact absurd h (by decide)
  rw [if_neg k4] at h
  by_cases k5 : k = 42
  · rw [if_pos k5] at h; exact absurd h (by decide)
  rw [if_neg k5] at h
  by_cases k6 : k = 44
  · rw [if_pos k6] at h; exact absurd h (by decide)
  rw [if_neg k6] at h
  by_cases k7 : k = 47
  · rw [if_pos k7] at h; exact absurd h (by decide)
  rw [if_neg k7] at h
  by_cases k8 : k = 49
  · exact k8
  rw [if_neg k8] at h
  by_cases k9 : k = 50
  · rw [if_pos k9] at h; exact absurd h (by decide)
  rw [if_neg k9] at h
  by_cases k10 : k = 52
  · rw [if_pos k10] at h; exact absurd h (by decide)
  rw [if_neg k10] at h
  by_cases k11 : k = 53
  · rw [if_pos k11] at h; exact absurd h (by decide)
  rw [if_neg k11] at h
  by_cases k12 : k = 55
  · rw [if_pos k12] at h; exact absurd h (by decide)
  rw [if_neg k12] at h
  by_cases k13 : k = 57
  · rw [if_pos k13] at h; exact absurd h (by decide)
  rw [if_neg k13] at h
  by_cases k14 : k = 58
  · rw [if_pos k14] at h; exact absurd h (by decide)
  rw [if_neg k14] at h
  by_cases k15 : k = 2
  · rw [if_pos k15] at h; exact absurd h (by decide)
  rw [if_neg k15] at h
  by_cases k16 : k = 17
  · rw [if_pos k16] at h; exact absurd h (by decide)
  rw [if_neg k16] at h
  exact absurd h (by decide)
theorem soV9 {k : Int32} (h : Int32.ofNat (soK k) = 9) : k = 50 := by
  unfold soK at h
  by_cases k0 : k = 37
  · rw [if_pos k0] at h; exact absurd h (by decide)
  rw [if_neg k0] at h
  by_cases k1 : k = 38
  · rw [if_pos k1] at h; exact absurd h (by decide)
  rw [if_neg k1] at h
  by_cases k2 : k = 39
  · rw [if_pos k2] at h; exact absurd h (by decide)
  rw [if_neg k2] at h
  by_cases k3 : k = 40
  · rw [if_pos k3] at h; exact absurd h (by decide)
  rw [if_neg k3] at h
  by_cases k4 : k = 41
  · rw [if_pos k4] at h; exact absurd h (by decide)
  rw [if_neg k4] at h
  by_cases k5 : k = 42
  · rw [if_pos k5] at h; exact absurd h (by decide)
  rw [if_neg k5] at h
  by_cases k6 : k = 44
  · rw [if_pos k6] at h; exact absurd h (by decide)
  rw [if_neg k6] at h
  by_cases k7 : k = 47
  · rw [if_pos k7] at h; exact absurd h (by decide)
  rw [if_neg k7] at h
  by_cases k8 : k = 49
  · rw [if_pos k8] at h; exact absurd h (by decide)
  rw [if_neg k8] at h
  by_cases k9 : k = 50
  · exact k9
  rw [if_neg k9] at h
  by_cases k10 : k = 52
  · rw [if_pos k10] at h; exact absurd h (by decide)
  rw [if_neg k10] at h
  by_cases k11 : k = 53
  · rw [if_pos k11] at h; exact absurd h (by decide)
  rw [if_neg k11] at h
  by_cases k12 : k = 55
  · rw [if_pos k12] at h; exact absurd h (by decide)
  rw [if_neg k12] at h
  by_cases k13 : k = 57
  · rw [if_pos k13] at h; exact absurd h (by decide)
  rw [if_neg k13] at h
  by_cases k14 : k = 58
  · rw [if_pos k14] at h; exact absurd h (by decide)
  rw [if_neg k14] at h
  by_cases k15 : k = 2
  · rw [if_pos k15] at h; exact absurd h (by decide)
  rw [if_neg k15] at h
  by_cases k16 : k = 17
  · rw [if_pos k16] at h; exact absurd h (by decide)
  rw [if_neg k16] at h
  exact absurd h (by decide)
theorem soV11 {k : Int32} (h : Int32.ofNat (soK k) = 11) : k = 53 := by
  unfold soK at h
  by_cases k0 : k = 37
  · rw [if_pos k0] at h; exact absurd h (by decide)
  rw [if_neg k0] at h
  by_cases k1 : k = 38
  · rw [if_pos k1] at h; exact absurd h (by decide)
  rw [if_neg k1] at h
  by_cases k2 : k = 39
  · rw [if_pos k2] at h; exact absurd h (by decide)
  rw [if_neg k2] at h
  by_cases k3 : k = 40
  · rw [if_pos k3] at h; exact absurd h (by decide)
  rw [if_neg k3] at h
  by_cases k4 : k = 41
  · rw [if_pos k4] at h; exact absurd h (by decide)
  rw [if_neg k4] at h
  by_cases k5 : k = 42
  · rw [if_pos k5] at h; exact absurd h (by decide)
  rw [if_neg k5] at h
  by_cases k6 : k = 44
  · rw [if_pos k6] at h; exact absurd h (by decide)
  rw [if_neg k6] at h
  by_cases k7 : k = 47
  · rw [if_pos k7] at h; exact absurd h (by decide)
  rw [if_neg k7] at h
  by_cases k8 : k = 49
  · rw [if_pos k8] at h; exact absurd h (by decide)
  rw [if_neg k8] at h
  by_cases k9 : k = 50
  · rw [if_pos k9] at h; exact absurd h (by decide)
  rw [if_neg k9] at h
  by_cases k10 : k = 52
  · rw [if_pos k10] at h; exact absurd h (by decide)
  rw [if_neg k10] at h
  by_cases k11 : k = 53
  · exact k11
  rw [if_neg k11] at h
  by_cases k12 : k = 55
  · rw [if_pos k12] at h; exact absurd h (by decide)
  rw [if_neg k12] at h
  by_cases k13 : k = 57
  · rw [if_pos k13] at h; exact absurd h (by decide)
  rw [if_neg k13] at h
  by_cases k14 : k = 58
  · rw [if_pos k14] at h; exact absurd h (by decide)
  rw [if_neg k14] at h
  by_cases k15 : k = 2
  · rw [if_pos k15] at h; exact absurd h (by decide)
  rw [if_neg k15] at h
  by_cases k16 : k = 17
  · rw [if_pos k16] at h; exact absurd h (by decide)
  rw [if_neg k16] at h
  exact absurd h (by decide)
theorem soV16 {k : Int32} (h : Int32.ofNat (soK k) = 16) : k = 17 := by
  unfold soK at h
  by_cases k0 : k = 37
  · rw [if_pos k0] at h; exact absurd h (by decide)
  rw [if_neg k0] at h
  by_cases k1 : k = 38
  · rw [if_pos k1] at h; exact absurd h (by decide)
  rw [if_neg k1] at h
  by_cases k2 : k = 39
  · rw [if_pos k2] at h; exact absurd h (by decide)
  rw [if_neg k2] at h
  by_cases k3 : k = 40
  · rw [if_pos k3] at h; exact absurd h (by decide)
  rw [if_neg k3] at h
  by_cases k4 : k = 41
  · rw [if_pos k4] at h; exact absurd h (by decide)
  rw [if_neg k4] at h
  by_cases k5 : k = 42
  · rw [if_pos k5] at h; exact absurd h (by decide)
  rw [if_neg k5] at h
  by_cases k6 : k = 44
  · rw [if_pos k6] at h; exact absurd h (by decide)
  rw [if_neg k6] at h
  by_cases k7 : k = 47
  · rw [if_pos k7] at h; exact absurd h (by decide)
  rw [if_neg k7] at h
  by_cases k8 : k = 49
  · rw [if_pos k8] at h; exact absurd h (by decide)
  rw [if_neg k8] at h
  by_cases k9 : k = 50
  · rw [if_pos k9] at h; exact absurd h (by decide)
  rw [if_neg k9] at h
  by_cases k10 : k = 52
  · rw [if_pos k10] at h; exact absurd h (by decide)
  rw [if_neg k10] at h
  by_cases k11 : k = 53
  · rw [if_pos k11] at h; exact absurd h (by decide)
  rw [if_neg k11] at h
  by_cases k12 : k = 55
  · rw [if_pos k12] at h; exact absurd h (by decide)
  rw [if_neg k12] at h
  by_cases k13 : k = 57
  · rw [if_pos k13] at h; exact absurd h (by decide)
  rw [if_neg k13] at h
  by_cases k14 : k = 58
  · rw [if_pos k14] at h; exact absurd h (by decide)
  rw [if_neg k14] at h
  by_cases k15 : k = 2
  · rw [if_pos k15] at h; exact absurd h (by decide)
  rw [if_neg k15] at h
  by_cases k16 : k = 17
  · exact k16
  rw [if_neg k16] at h
  exact absurd h (by decide)
theorem kpo_of {k : Int32} : kpS (Int32.ofNat (soK k)) = if k = 49 then 2278 else if k = 50 then 2862 else if k = 53 then 2514 else if k = 58 then 440 else if k = 17 then 648 else 358 := by
  by_cases k1 : k = 49
  · rw [if_pos k1, k1]; decide
  by_cases k2 : k = 50
  · rw [if_neg k1, if_pos k2, k2]; decide
  by_cases k3 : k = 53
  · rw [if_neg k1, if_neg k2, if_pos k3, k3]; decide
  by_cases k4 : k = 58
  · rw [if_neg k1, if_neg k2, if_neg k3, if_pos k4, k4]; decide
  by_cases k5 : k = 17
  · rw [if_neg k1, if_neg k2, if_neg k3, if_neg k4, if_pos k5, k5]; decide
  rw [if_neg k1, if_neg k2, if_neg k3, if_neg k4, if_neg k5]
  unfold kpS
  rw [if_neg (fun z => k1 (soV8 z)), if_neg (fun z => k2 (soV9 z)), if_neg (fun z => k3 (soV11 z)), if_neg (fun z => k4 (so14 z)), if_neg (fun z => k5 (soV16 z))]
theorem opn_k {k : Int32} (h : opnK k = true) : k = 42 ∨ k = 44 ∨ k = 49 ∨ k = 50 ∨ k = 52 ∨ k = 53 ∨ k = 55 ∨ k = 58 ∨ k = 17 := by
  unfold opnK at h
  simp only [Bool.or_eq_true, beq_iff_eq] at h
  rcases h with (((((((h | h) | h) | h) | h) | h) | h) | h) | h
  · exact Or.inl h
  · exact Or.inr (Or.inl h)
  · exact Or.inr (Or.inr (Or.inl h))
  · exact Or.inr (Or.inr (Or.inr (Or.inl h)))
  · exact Or.inr (Or.inr (Or.inr (Or.inr (Or.inl h))))
  · exact Or.inr (Or.inr (Or.inr (Or.inr (Or.inr (Or.inl h)))))
  · exact Or.inr (Or.inr (Or.inr (Or.inr (Or.inr (Or.inr (Or.inl h))))))
  · exact Or.inr (Or.inr (Or.inr (Or.inr (Or.inr (Or.inr (Or.inr (Or.inl h)))))))
  · exact Or.inr (Or.inr (Or.inr (Or.inr (Or.inr (Or.inr (Or.inr (Or.inr h)))))))
theorem kp_lf {k : Int32} (h : opnK k = false) : kpS (Int32.ofNat (soK k)) ≤ 358 := by
  rw [kpo_of, if_neg (fun z => by rw [z] at h; exact absurd h (by decide)), if_neg (fun z => by rw [z] at h; exact absurd h (by decide)), if_neg (fun z => by rw [z] at h; exact absurd h (by decide)), if_neg (fun z => by rw [z] at h; exact absurd h (by decide)), if_neg (fun z => by rw [z] at h; exact absurd h (by decide))]
  exact Nat.le_refl _
theorem kp_tl {k : Int32} (h : opnK k = true) (h17 : k ≠ 17) (hc : ¬ (k = 44 ∨ k = 58)) : kpS (Int32.ofNat (soK k)) + 648 ≤ 660 * (1 + hdT k + tlT k) + 286 * paK k := by
  rcases opn_k h with z | z | z | z | z | z | z | z | z
  · rw [z]; decide
  · exact absurd (Or.inl z) hc
  · rw [z]; decide
  · rw [z]; decide
  · rw [z]; decide
  · rw [z]; decide
  · rw [z]; decide
  · exact absurd (Or.inr z) hc
  · exact absurd z h17
theorem kp_ch {k : Int32} (h : k = 44 ∨ k = 58) : kpS (Int32.ofNat (soK k)) + 648 ≤ 660 * (2 + hdT k) + 286 * paK k := by
  rcases h with z | z <;> rw [z] <;> decide
theorem rp_tok (hS : Sto b n s) (g : Nat) : (∀ K i σ r, i ≤ s ∧ tK b n i ≠ 0 ∧ RpI m 0 K σ 0 0 → rp b n m τ g 0 K i σ 0 0 0 0 0 0 = .ok r → PhR m i σ r.1 r.2.1) := by
  refine (rp_ind (τ := τ) (m := m) hS (fun _ i σ r => PhR m i σ r.1 r.2.1) (fun _ i σ r => PhR m i σ r.1 r.2.1) (fun _ i σ _ r => PhR m i σ r.1 r.2.1) (fun _ i σ _ _ _ _ _ _ r => PhR m i σ r.1 r.2.1 ∧ phS m r.2.1 + 660 * (i + 1) + 286 * σ.1.1 1 ≤ phS m σ + 660 * r.1 + 286 * r.2.1.1.1 1) ?_ ?_ ?_ ?_ ?_ ?_ ?_ ?_ ?_ ?_ g).1
  · intro K i σ q r _ _ h2 _ h1
    have a : phS m (trP1 σ (mkT (trS σ) 5).1) = phS m σ := rfl
    have c : phS m (hgP q.2.1 (mkT (trS σ) 5).2 q.2.2) = phS m q.2.1 := rfl
    have a1 : (trP1 σ (mkT (trS σ) 5).1).1.1 1 = σ.1.1 1 := rfl
    have c1 : (hgP q.2.1 (mkT (trS σ) 5).2 q.2.2).1.1 1 = q.2.1.1.1 1 := rfl
    unfold PhR at *
    rw [a, a1] at h2
    rw [c, c1] at h1
    omega
  · intro K i σ a1 q r _ _ _ h2 _ h1
    have c : phS m (hgP q.2.1 a1 q.2.2) = phS m q.2.1 := rfl
    have c1 : (hgP q.2.1 a1 q.2.2).1.1 1 = q.2.1.1.1 1 := rfl
    unfold PhR at *
    rw [c, c1] at h1
    omega
  · intro K i σ a1 _ _
    unfold PhR
    exact Nat.le_refl _
  · intro K i σ u _ ho e hN _
    have a := ph_bg (m := m) (k := tK b n i) (pl := tP b n i) (q := sqK K) (d := K.length) (wh := whK (tK b n i) (tC b n i) τ) (σ := σ)
    have c := hN.1.pe.e (m := m)
    have d := (fi_pe (m := m) (j := npS σ) (x := u.2.2) (σ := u.2.1)).e (m := m)
    have f := lf_i e
    have g := kp_lf ho
    show phS m (fiP m (npS σ) u.2.2 u.2.1) + 660 * i + 286 * σ.1.1 1 ≤ phS m σ + 660 * u.1 + 286 * (fiP m (npS σ) u.2.2 u.2.1).1.1 1
    rw [d.1, d.2, c.1, c.2, a.1, a.2]
    omega
  · intro K i σ h q _ hk e hN _ h3 _
    have a := ph_bg (m := m) (k := tK b n i) (pl := tP b n i) (q := sqK K) (d := K.length) (wh := whK (tK b n i) (tC b n i) τ) (σ := σ)
    have c := hN.pe.e (m := m)
    have w := ph_rw (m := m) (σ := h.2.1) (p := 40 * m + npS σ) (q0 := none)
    have f := hd_i e
    have g : kpS (Int32.ofNat (soK (tK b n i))) = 648 := by rw [hk]; decide
    have d := (fi_pe (m := m) (j := npS σ) (x := q.2.2) (σ := guP q.2.1 (giS σ ||| giS q.2.1) (usS σ ||| usS q.2.1))).e (m := m)
    have d0 : phS m (guP q.2.1 (giS σ ||| giS q.2.1) (usS σ ||| usS q.2.1)) = phS m q.2.1 := rfl
    have d1 : (guP q.2.1 (giS σ ||| giS q.2.1) (usS σ ||| usS q.2.1)).1.1 1 = q.2.1.1.1 1 := rfl
    obtain ⟨-, h3⟩ := h3
    rw [w.1, w.2, c.1, c.2, a.1, a.2] at h3
    show phS m (fiP m (npS σ) q.2.2 (guP q.2.1 (giS σ ||| giS q.2.1) (usS σ ||| usS q.2.1))) + 660 * i + 286 * σ.1.1 1 ≤ phS m σ + 660 * q.1 + 286 * (fiP m (npS σ) q.2.2 (guP q.2.1 (giS σ ||| giS q.2.1) (usS σ ||| usS q.2.1))).1.1 1
    rw [d.1, d.2, d0, d1]
    omega
  · intro K i σ h q u _ ho h17 hc e hN _ h0 e2 hN2 _
    have a := ph_bg (m := m) (k := tK b n i) (pl := tP b n i) (q := sqK K) (d := K.length) (wh := whK (tK b n i) (tC b n i) τ) (σ := σ)
    have c := hN.pe.e (m := m)
    have w := ph_rw (m := m) (σ := h.2.1) (p := 40 * m + npS σ) (q0 := none)
    have f := hd_i e
    have f2 := tl_i e2
    have c2 := hN2.1.pe.e (m := m)
    have d := (fi_pe (m := m) (j := npS σ) (x := u.2.2) (σ := u.2.1)).e (m := m)
    have g := kp_tl ho h17 hc
    unfold PhR at h0
    rw [w.1, w.2, c.1, c.2, a.1, a.2] at h0
    show phS m (fiP m (npS σ) u.2.2 u.2.1) + 660 * i + 286 * σ.1.1 1 ≤ phS m σ + 660 * u.1 + 286 * (fiP m (npS σ) u.2.2 u.2.1).1.1 1
    rw [d.1, d.2, c2.1, c2.2]
    omega
  · intro K i σ h q t u _ ho hc e hN _ h0 _ _ ht e2 hN2 _
    have a := ph_bg (m := m) (k := tK b n i) (pl := tP b n i) (q := sqK K) (d := K.length) (wh := whK (tK b n i) (tC b n i) τ) (σ := σ)
    have c := hN.pe.e (m := m)
    have w := ph_rw (m := m) (σ := h.2.1) (p := 40 * m + npS σ) (q0 := none)
    have w2 := ph_rw (m := m) (σ := q.2.1) (p := 40 * m + npS σ) (q0 := some (h.2.1.1.1 4))
    have f := hd_i e
    have f2 := ch_i e2
    have c2 := hN2.1.pe.e (m := m)
    have d := (fi_pe (m := m) (j := npS σ) (x := u.2.2) (σ := u.2.1)).e (m := m)
    have g := kp_ch hc
    unfold PhR at h0 ht
    rw [w.1, w.2, c.1, c.2, a.1, a.2] at h0
    rw [w2.1, w2.2] at ht
    show phS m (fiP m (npS σ) u.2.2 u.2.1) + 660 * i + 286 * σ.1.1 1 ≤ phS m σ + 660 * u.1 + 286 * (fiP m (npS σ) u.2.2 u.2.1).1.1 1
    rw [d.1, d.2, c2.1, c2.2]
    omega
  · intro K i σ h q u _ ho hc e hN _ h0 _ e2 hN2 _
    have a := ph_bg (m := m) (k := tK b n i) (pl := tP b n i) (q := sqK K) (d := K.length) (wh := whK (tK b n i) (tC b n i) τ) (σ := σ)
    have c := hN.pe.e (m := m)
    have w := ph_rw (m := m) (σ := h.2.1) (p := 40 * m + npS σ) (q0 := none)
    have f := hd_i e
    have f2 := ch_i e2
    have c2 := hN2.1.pe.e (m := m)
    have c3 : phS m (trP1 q.2.1 (mkT (trS q.2.1) 0).1) = phS m q.2.1 := rfl
    have c4 : (trP1 q.2.1 (mkT (trS q.2.1) 0).1).1.1 1 = q.2.1.1.1 1 := rfl
    have d := (fi_pe (m := m) (j := npS σ) (x := u.2.2) (σ := u.2.1)).e (m := m)
    have g := kp_ch hc
    unfold PhR at h0
    rw [w.1, w.2, c.1, c.2, a.1, a.2] at h0
    show phS m (fiP m (npS σ) u.2.2 u.2.1) + 660 * i + 286 * σ.1.1 1 ≤ phS m σ + 660 * u.1 + 286 * (fiP m (npS σ) u.2.2 u.2.1).1.1 1
    rw [d.1, d.2, c2.1, c2.2, c3, c4]
    omega
  · intro K i σ a1 a2 a3 a4 c1 c2 q r _ _ h0 _ _ _ h3
    have a : phS m (guP σ 0 0) = phS m σ := rfl
    have a' : (guP σ 0 0).1.1 1 = σ.1.1 1 := rfl
    have d := (br_pe (σ := q.2.1) (j := a2) (a := a1) (x := q.2.2) (g := c1) (u := c2)).e (m := m)
    have w := ph_rw (m := m) (σ := brP q.2.1 a2 a1 q.2.2 c1 c2) (p := 40 * m + a2) (q0 := some a3)
    unfold PhR at *
    rw [a, a'] at h0
    rw [w.1, w.2, d.1, d.2] at h3
    omega
  · intro K i σ a1 a2 a3 a4 c1 c2 q _ _ h0 _
    have a : phS m (guP σ 0 0) = phS m σ := rfl
    have a' : (guP σ 0 0).1.1 1 = σ.1.1 1 := rfl
    have d := (br_pe (σ := q.2.1) (j := a2) (a := a1) (x := q.2.2) (g := c1) (u := c2)).e (m := m)
    unfold PhR at *
    rw [a, a'] at h0
    show (phS m (brP q.2.1 a2 a1 q.2.2 c1 c2) + 660 * i + 286 * σ.1.1 1 ≤ phS m σ + 660 * (q.1 + 1) + 286 * (brP q.2.1 a2 a1 q.2.2 c1 c2).1.1 1) ∧ phS m (brP q.2.1 a2 a1 q.2.2 c1 c2) + 660 * (i + 1) + 286 * σ.1.1 1 ≤ phS m σ + 660 * (q.1 + 1) + 286 * (brP q.2.1 a2 a1 q.2.2 c1 c2).1.1 1
    rw [d.1, d.2]
    omega
end
