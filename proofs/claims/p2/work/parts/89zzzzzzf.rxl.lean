/-! no more nodes of sums than tokens -/
section
variable {b : Nat → Int32} {n : Nat}
theorem adv_i {i j : Nat} (e : adv' b n i = .ok j) : j = i + 1 := by
  unfold adv' at e
  by_cases z : tK b n (i + 1) = 0
  · rw [if_pos z] at e; cases e
  · rw [if_neg z] at e; cases e; rfl
theorem ex_i {i j : Nat} {c : Int32} (e : ex b n i c = .ok j) : j = i + 1 := by
  unfold ex at e
  by_cases z : tK b n i = c
  · rw [if_pos z] at e; exact adv_i e
  · rw [if_neg z] at e; cases e
theorem rd_xl {sN : List Int64} {mx : List Int32} {vN : List Int64} : ∀ (g md i o : Nat) (X : List Nd) (u : Int32) (r : Nat × List Nd × Int32), rd b n sN mx vN g md i o X u = .ok r → r.2.1.length + i ≤ X.length + r.1 := by
  intro g
  induction g with
  | zero => intro md i o X u r e; unfold rd at e; cases e
  | succ g ih =>
    intro md i o X u r e
    unfold rd at e
    by_cases m0 : md = 0
    · rw [if_pos m0] at e
      by_cases k1 : tK b n i = 3
      · rw [if_pos k1] at e
        obtain ⟨j, hj, e⟩ := bind_ok e
        cases e
        have := adv_i hj
        show (X ++ [_]).length + i ≤ X.length + j
        rw [List.length_append]; show X.length + 1 + i ≤ _; omega
      rw [if_neg k1] at e
      by_cases k2 : tK b n i = 2
      · rw [if_pos k2] at e
        cases h2 : fd vN (tC b n i) with
        | none => rw [h2] at e; cases e
        | some k =>
          rw [h2] at e
          obtain ⟨j, hj, e⟩ := bind_ok e
          cases e
          have := adv_i hj
          show (X ++ [_]).length + i ≤ X.length + j
          rw [List.length_append]; show X.length + 1 + i ≤ _; omega
      rw [if_neg k2] at e
      by_cases k3 : tK b n i = 19
      · rw [if_pos k3] at e
        obtain ⟨j, hj, e⟩ := bind_ok e
        have a1 := adv_i hj
        by_cases k4 : tK b n j = 2
        · rw [if_pos k4] at e
          cases h2 : fd sN (tC b n j) with
          | none => rw [h2] at e; cases e
          | some k =>
            rw [h2] at e
            have e : (if mx.getD k 0 = 0 then Except.error (4, tP b n j) else (adv' b n j).bind fun j' => .ok (j', X ++ [(2, Int64.ofNat k, 0)], u)) = .ok r := e
            by_cases k5 : mx.getD k 0 = 0
            · rw [if_pos k5] at e; cases e
            rw [if_neg k5] at e
            obtain ⟨j', hj', e⟩ := bind_ok e
            cases e
            have := adv_i hj'
            show (X ++ [_]).length + i ≤ X.length + j'
            rw [List.length_append]; show X.length + 1 + i ≤ _; omega
        · rw [if_neg k4] at e; cases e
      rw [if_neg k3] at e
      by_cases k6 : tK b n i = 21
      · rw [if_pos k6] at e
        by_cases k7 : o = 15
        · rw [if_pos k7] at e; cases e
        rw [if_neg k7] at e
        obtain ⟨j, hj, e⟩ := bind_ok e
        obtain ⟨q, hq, e⟩ := bind_ok e
        cases e
        have := adv_i hj
        have := ih _ _ _ _ _ _ hq
        show (q.2.1 ++ [_]).length + i ≤ X.length + q.1
        rw [List.length_append]; show q.2.1.length + 1 + i ≤ _; omega
      rw [if_neg k6] at e
      by_cases k8 : tK b n i = 15
      · rw [if_pos k8] at e
        by_cases k7 : o = 15
        · rw [if_pos k7] at e; cases e
        rw [if_neg k7] at e
        obtain ⟨j, hj, e⟩ := bind_ok e
        obtain ⟨q, hq, e⟩ := bind_ok e
        have := adv_i hj
        have := ih _ _ _ _ _ _ hq
        by_cases k9 : tK b n q.1 = 16
        · rw [if_pos k9] at e
          obtain ⟨j', hj', e⟩ := bind_ok e
          cases e
          have := adv_i hj'
          show q.2.1.length + i ≤ X.length + j'
          omega
        · rw [if_neg k9] at e; cases e
      · rw [if_neg k8] at e; cases e
    rw [if_neg m0] at e
    by_cases m1 : md = 1
    · rw [if_pos m1] at e
      obtain ⟨q, hq, e⟩ := bind_ok e
      have := ih _ _ _ _ _ _ hq
      have := ih _ _ _ _ _ _ e
      omega
    rw [if_neg m1] at e
    by_cases m2 : md = 2
    · rw [if_pos m2] at e
      by_cases k1 : tK b n i = 22 ∨ tK b n i = 23 ∨ tK b n i = 24
      · rw [if_pos k1] at e
        obtain ⟨j, hj, e⟩ := bind_ok e
        obtain ⟨q, hq, e⟩ := bind_ok e
        have := adv_i hj
        have := ih _ _ _ _ _ _ hq
        have a3 := ih _ _ _ _ _ _ e
        rw [List.length_append] at a3
        have a3 : r.2.1.length + q.1 ≤ q.2.1.length + 1 + r.1 := a3
        omega
      · rw [if_neg k1] at e; cases e; exact Nat.le_refl _
    rw [if_neg m2] at e
    by_cases m3 : md = 3
    · rw [if_pos m3] at e
      obtain ⟨q, hq, e⟩ := bind_ok e
      have := ih _ _ _ _ _ _ hq
      have := ih _ _ _ _ _ _ e
      omega
    rw [if_neg m3] at e
    by_cases k1 : tK b n i = 20 ∨ tK b n i = 21
    · rw [if_pos k1] at e
      obtain ⟨j, hj, e⟩ := bind_ok e
      obtain ⟨q, hq, e⟩ := bind_ok e
      have := adv_i hj
      have := ih _ _ _ _ _ _ hq
      have a3 := ih _ _ _ _ _ _ e
      rw [List.length_append] at a3
      have a3 : r.2.1.length + q.1 ≤ q.2.1.length + 1 + r.1 := a3
      omega
    · rw [if_neg k1] at e; cases e; exact Nat.le_refl _
theorem rc0_le {sN : List Int64} {p i : Nat} {Y : List Cd} {r : Nat × List Cd} (e : rc0 b n sN p i Y = .ok r) : i ≤ r.1 := by
  unfold rc0 at e
  by_cases k1 : tK b n i = 2
  · rw [if_pos k1] at e
    cases h2 : fd sN (tC b n i) with
    | none => rw [h2] at e; cases e
    | some k =>
      rw [h2] at e
      obtain ⟨j, hj, e⟩ := bind_ok e
      cases e
      have := adv_i hj
      show i ≤ j
      omega
  · rw [if_neg k1] at e; cases e
theorem rc_le {sN : List Int64} : ∀ (g md i o : Nat) (Y : List Cd) (r : Nat × List Cd), rc b n sN g md i o Y = .ok r → i ≤ r.1 := by
  intro g
  induction g with
  | zero => intro md i o Y r e; unfold rc at e; cases e
  | succ g ih =>
    intro md i o Y r e
    unfold rc at e
    by_cases m0 : md = 0
    · rw [if_pos m0] at e
      by_cases k1 : tK b n i = 61
      · rw [if_pos k1] at e
        by_cases k7 : o = 15
        · rw [if_pos k7] at e; cases e
        rw [if_neg k7] at e
        obtain ⟨j, hj, e⟩ := bind_ok e
        obtain ⟨q, hq, e⟩ := bind_ok e
        cases e
        have := adv_i hj
        have := ih _ _ _ _ _ hq
        show i ≤ q.1
        omega
      rw [if_neg k1] at e
      by_cases k2 : tK b n i = 15
      · rw [if_pos k2] at e
        by_cases k7 : o = 15
        · rw [if_pos k7] at e; cases e
        rw [if_neg k7] at e
        obtain ⟨j, hj, e⟩ := bind_ok e
        obtain ⟨q, hq, e⟩ := bind_ok e
        have := adv_i hj
        have := ih _ _ _ _ _ hq
        by_cases k9 : tK b n q.1 = 16
        · rw [if_pos k9] at e
          obtain ⟨j', hj', e⟩ := bind_ok e
          cases e
          have := adv_i hj'
          show i ≤ j'
          omega
        · rw [if_neg k9] at e; cases e
      rw [if_neg k2] at e
      by_cases k3 : tK b n i = 62
      · rw [if_pos k3] at e
        obtain ⟨j, hj, e⟩ := bind_ok e
        have := adv_i hj
        have := rc0_le e
        omega
      · rw [if_neg k3] at e; exact rc0_le e
    rw [if_neg m0] at e
    by_cases m1 : md = 1
    · rw [if_pos m1] at e
      obtain ⟨q, hq, e⟩ := bind_ok e
      have := ih _ _ _ _ _ hq
      have := ih _ _ _ _ _ e
      omega
    rw [if_neg m1] at e
    by_cases m2 : md = 2
    · rw [if_pos m2] at e
      by_cases k1 : tK b n i = 59
      · rw [if_pos k1] at e
        obtain ⟨j, hj, e⟩ := bind_ok e
        obtain ⟨q, hq, e⟩ := bind_ok e
        have := adv_i hj
        have := ih _ _ _ _ _ hq
        have := ih _ _ _ _ _ e
        omega
      · rw [if_neg k1] at e; cases e; exact Nat.le_refl _
    rw [if_neg m2] at e
    by_cases m3 : md = 3
    · rw [if_pos m3] at e
      obtain ⟨q, hq, e⟩ := bind_ok e
      have := ih _ _ _ _ _ hq
      have := ih _ _ _ _ _ e
      omega
    rw [if_neg m3] at e
    by_cases k1 : tK b n i = 60
    · rw [if_pos k1] at e
      obtain ⟨j, hj, e⟩ := bind_ok e
      obtain ⟨q, hq, e⟩ := bind_ok e
      have := adv_i hj
      have := ih _ _ _ _ _ hq
      have := ih _ _ _ _ _ e
      omega
    · rw [if_neg k1] at e; cases e; exact Nat.le_refl _
end
