/-! three truths: what is known grows -/
def lq3 (a c : Nat) : Prop := a = 2 ∨ a = c
theorem lq3.rf {a : Nat} : lq3 a a := Or.inr rfl
theorem lq3.tr {a c d : Nat} (h : lq3 a c) (k : lq3 c d) : lq3 a d := by unfold lq3 at *; omega
theorem lq3.an {a c : Nat} (h : lq3 a c) (k : lq3 c a) : a = c := by unfold lq3 at *; omega
theorem v3N_mo {a a' : Nat} (h : lq3 a a') : lq3 (v3N a) (v3N a') := by
  rcases h with e | e
  · rw [e]; exact Or.inl rfl
  · rw [e]; exact lq3.rf
theorem v3A_mo {a a' c c' : Nat} (h : lq3 a a') (k : lq3 c c') : lq3 (v3A a c) (v3A a' c') := by
  unfold lq3 at *
  unfold v3A
  by_cases z : a = 0 ∨ c = 0
  · rw [if_pos z, if_pos (show a' = 0 ∨ c' = 0 by omega)]; exact Or.inr rfl
  · rw [if_neg z]
    by_cases y : a = 1 ∧ c = 1
    · rw [if_pos y, if_neg (show ¬ (a' = 0 ∨ c' = 0) by omega), if_pos (show a' = 1 ∧ c' = 1 by omega)]; exact Or.inr rfl
    · rw [if_neg y]; exact Or.inl rfl
theorem v3O_mo {a a' c c' : Nat} (h : lq3 a a') (k : lq3 c c') : lq3 (v3O a c) (v3O a' c') := by
  unfold lq3 at *
  unfold v3O
  by_cases z : a = 1 ∨ c = 1
  · rw [if_pos z, if_pos (show a' = 1 ∨ c' = 1 by omega)]; exact Or.inr rfl
  · rw [if_neg z]
    by_cases y : a = 0 ∧ c = 0
    · rw [if_pos y, if_neg (show ¬ (a' = 1 ∨ c' = 1) by omega), if_pos (show a' = 0 ∧ c' = 0 by omega)]; exact Or.inr rfl
    · rw [if_neg y]; exact Or.inl rfl
theorem lvN_mo {v v' : Nat → Nat} {l : Nat} (h : ∀ n, lq3 (v n) (v' n)) : lq3 (lvN v l) (lvN v' l) := by
  unfold lvN
  by_cases z : l % 2 = 0
  · rw [if_pos z, if_pos z]; exact h _
  · rw [if_neg z, if_neg z]; exact v3N_mo (h _)
theorem oI_mo {f g : Nat → Nat} : ∀ (n : Nat), (∀ k, k < n → lq3 (f k) (g k)) → lq3 (oI f n) (oI g n)
  | 0, _ => lq3.rf
  | n + 1, h => v3O_mo (oI_mo n (fun k hk => h k (by omega))) (h n (by omega))
theorem aI_mo {f g : Nat → Nat} : ∀ (n : Nat), (∀ k, k < n → lq3 (f k) (g k)) → lq3 (aI f n) (aI g n)
  | 0, _ => lq3.rf
  | n + 1, h => v3A_mo (aI_mo n (fun k hk => h k (by omega))) (h n (by omega))
theorem rcV_mo {st st' : Nat} {f g : Nat → Nat} (hs : lq3 st st') : ∀ (n : Nat), (∀ k, k < n → lq3 (f k) (g k)) → lq3 (rcV st f n) (rcV st' g n)
  | 0, _ => hs
  | n + 1, h => v3O_mo (rcV_mo hs n (fun k hk => h k (by omega))) (h n (by omega))
