/-! words: base 32 in the class, base 27 in the reference -/
def val (B : Nat) (d : Nat → Nat) : Nat → Nat
  | 0 => 0
  | k + 1 => val B d k * B + d k
theorem val_lt {B : Nat} {d : Nat → Nat} : ∀ k, (∀ i, i < k → d i < B) → val B d k < B ^ k := by
  intro k
  induction k with
  | zero => intro _; exact Nat.one_pos
  | succ k ih =>
    intro h
    have h1 := ih (fun i hi => h i (by omega))
    have h2 := h k (by omega)
    unfold val
    rw [Nat.pow_succ]
    have : (val B d k + 1) * B ≤ B ^ k * B := Nat.mul_le_mul_right B h1
    rw [Nat.add_mul] at this
    omega
theorem val_inj {B : Nat} {d d' : Nat → Nat} (hB : 0 < B) : ∀ k k', (∀ i, i < k → 0 < d i ∧ d i < B) → (∀ i, i < k' → 0 < d' i ∧ d' i < B) → val B d k = val B d' k' → k = k' ∧ ∀ i, i < k → d i = d' i := by
  intro k
  induction k with
  | zero =>
    intro k' h h' e
    cases k' with
    | zero => exact ⟨rfl, fun i hi => absurd hi (Nat.not_lt_zero i)⟩
    | succ k' =>
      have := (h' k' (by omega)).1
      unfold val at e
      omega
  | succ k ih =>
    intro k' h h' e
    cases k' with
    | zero =>
      have := (h k (by omega)).1
      unfold val at e
      omega
    | succ k' =>
      have a := h k (by omega)
      have a' := h' k' (by omega)
      unfold val at e
      have e1 : d k = d' k' := by
        have := congrArg (· % B) e
        simp only [Nat.mul_add_mod_self_right, Nat.mod_eq_of_lt a.2, Nat.mod_eq_of_lt a'.2] at this
        exact this
      have e2 : val B d k = val B d' k' := by
        rw [e1] at e
        exact Nat.eq_of_mul_eq_mul_right hB (Nat.add_right_cancel e)
      obtain ⟨r1, r2⟩ := ih k' (fun i hi => h i (by omega)) (fun i hi => h' i (by omega)) e2
      subst r1
      refine ⟨rfl, fun i hi => ?_⟩
      by_cases hik : i = k
      · subst hik; exact e1
      · exact r2 i (by omega)
/-- the letters of the word at p, as 1 to 26 -/
def lt1 (b : Nat → Int32) (p j : Nat) : Nat := (b (p + j)).toInt.toNat - 96
theorem isL_lt {b : Nat → Int32} {p j : Nat} (h : isL (b (p + j)) = true) : 0 < lt1 b p j ∧ lt1 b p j < 27 ∧ (b (p + j)).toInt = (lt1 b p j : Int) + 96 := by
  unfold isL at h
  simp only [Bool.and_eq_true, decide_eq_true_eq, Int32.lt_iff_toInt_lt] at h
  have e1 : (97 : Int32).toInt = 97 := by decide
  have e2 : (122 : Int32).toInt = 122 := by decide
  rw [e1, e2] at h
  unfold lt1
  omega
theorem j64_of {x : Int} {n : Nat} (h : x = n) : Int64.ofInt x = Int64.ofNat n := by subst h; rfl
theorem c64 {c : Int32} : c.toInt64 = Int64.ofInt c.toInt := by rw [← Int64.ofInt_toInt c.toInt64, Int32.toInt_toInt64]
theorem spl_of {x l : Nat} {c : Int32} (hc : c.toInt = (l : Int) + 96) : spl (Int64.ofNat x) c = Int64.ofNat (x * 32 + l) := by
  unfold spl
  rw [c64, hc, Int64.ofNat_add, Int64.ofNat_mul]
  have e : Int64.ofInt ((l : Int) + 96) = Int64.ofNat l + 96 := by rw [Int64.ofInt_add]; rfl
  rw [e]
  show Int64.ofNat x * 32 + (Int64.ofNat l + 96) - 97 + 1 = Int64.ofNat x * 32 + Int64.ofNat l
  generalize Int64.ofNat x * 32 = u
  generalize Int64.ofNat l = w
  have : u + (w + 96) - 97 + 1 = u + w + (96 - 97 + 1) := by
    rw [Int64.sub_eq_add_neg, Int64.sub_eq_add_neg, Int64.add_assoc, Int64.add_assoc, Int64.add_assoc, Int64.add_assoc]
    congr 1
  rw [this]
  have z : (96 - 97 + 1 : Int64) = 0 := by decide
  rw [z, Int64.add_zero]
theorem w27_of {x l : Nat} {c : Int32} (hc : c.toInt = (l : Int) + 96) : ((27 * Int64.ofNat x) + c.toInt64) - 96 = Int64.ofNat (x * 27 + l) := by
  rw [c64, hc, Int64.ofNat_add, Int64.ofNat_mul]
  have e : Int64.ofInt ((l : Int) + 96) = Int64.ofNat l + 96 := by rw [Int64.ofInt_add]; rfl
  rw [e]
  show 27 * Int64.ofNat x + (Int64.ofNat l + 96) - 96 = Int64.ofNat x * 27 + Int64.ofNat l
  rw [Int64.mul_comm 27]
  generalize Int64.ofNat x * 27 = u
  generalize Int64.ofNat l = w
  rw [← Int64.add_assoc, Int64.add_sub_cancel]
theorem spell_val {b : Nat → Int32} {p : Nat} : ∀ (k m : Nat), spellF b k (p + m) (Int64.ofNat (val 32 (lt1 b p) m)) = Int64.ofNat (val 32 (lt1 b p) (m + (runF isL b k (p + m) - (p + m)))) := by
  intro k
  induction k with
  | zero => intro m; unfold spellF runF; rw [Nat.sub_self]; rfl
  | succ k ih =>
    intro m
    unfold spellF runF
    by_cases h : isL (b (p + m)) = true
    · rw [if_pos h, if_pos h, spl_of (isL_lt h).2.2]
      have := ih (m + 1)
      have hr := (runF_le (p := isL) (b := b) k (p + m + 1)).1
      have e : m + 1 + (runF isL b k (p + (m + 1)) - (p + (m + 1))) = m + (runF isL b k (p + m + 1) - (p + m)) := by
        rw [← Nat.add_assoc]; omega
      rw [e] at this
      exact this
    · rw [if_neg h, if_neg h, Nat.sub_self]; rfl
theorem w27_val {b : Nat → Int32} {p : Nat} : ∀ (k m : Nat), runF isL b k (p + m) - p ≤ 10 → w27 b p k (p + m) (Int64.ofNat (val 27 (lt1 b p) m)) = Int64.ofNat (val 27 (lt1 b p) (m + (runF isL b k (p + m) - (p + m)))) := by
  intro k
  induction k with
  | zero => intro m _; unfold w27 runF; rw [Nat.sub_self]; rfl
  | succ k ih =>
    intro m h10
    unfold w27
    unfold runF at h10 ⊢
    by_cases h : isL (b (p + m)) = true
    · rw [if_pos h] at h10 ⊢
      rw [if_pos h]
      have hr := (runF_le (p := isL) (b := b) k (p + m + 1)).1
      have hlt : p + m - p < 10 := by omega
      rw [if_pos hlt, w27_of (isL_lt h).2.2]
      have := ih (m + 1) (by rw [← Nat.add_assoc]; exact h10)
      have e : m + 1 + (runF isL b k (p + (m + 1)) - (p + (m + 1))) = m + (runF isL b k (p + m + 1) - (p + m)) := by
        rw [← Nat.add_assoc]; omega
      rw [e] at this
      exact this
    · rw [if_neg h, if_neg h, Nat.sub_self]; rfl
theorem n64_inj {x y : Nat} (hx : x < 9223372036854775808) (hy : y < 9223372036854775808) (h : Int64.ofNat x = Int64.ofNat y) : x = y := by
  have := congrArg Int64.toInt h
  rw [Int64.toInt_ofNat_of_lt (by exact hx), Int64.toInt_ofNat_of_lt (by exact hy)] at this
  omega
def keyL : List (List Nat) := [[9, 14, 16, 21, 20], [15, 21, 20, 16, 21, 20], [19, 9, 7, 14, 1, 12], [15, 14, 5], [19, 21, 13], [13, 15, 19, 20], [22, 1, 18], [14, 15, 20, 8, 9, 14, 7], [16, 1, 21, 19, 5], [8, 1, 12, 20], [5, 13, 9, 20], [19, 21, 19, 20, 1, 9, 14], [12, 15, 15, 16], [5, 14, 4], [16, 18, 5, 19, 5, 14, 20], [20, 8, 5, 14], [5, 12, 19, 5], [1, 23, 1, 9, 20], [9, 13, 13, 5, 4, 9, 1, 20, 5], [1, 2, 15, 18, 20], [23, 5, 1, 11], [23, 8, 5, 14], [19, 21, 19, 16, 5, 14, 4], [5, 22, 5, 18, 25], [4, 15], [20, 18, 1, 16], [9, 14], [5, 24, 9, 20], [9, 6], [1, 14, 4], [15, 18], [14, 15, 20], [16, 18, 5]]
def kd (j i : Nat) : Nat := (keyL.getD j []).getD i 0
def kl (j : Nat) : Nat := (keyL.getD j []).length
def key27 : List Int64 := [5070782, 226799777, 277560228, 11318, 14431, 267347, 16083, 5649913681, 8538566, 158537, 108155, 7672808363, 247552, 4027, 6460043375, 399641, 107681, 985142, 2682960935045, 582248, 456392, 458690, 7672732672, 3094387, 123, 406825, 257, 116174, 249, 1111, 423, 10631, 12155]
theorem key_tab : ∀ j : Fin 33, keysF j = Int64.ofNat (val 32 (kd j) (kl j)) ∧ key27.getD j 0 = Int64.ofNat (val 27 (kd j) (kl j)) ∧ kl j ≤ 10 ∧ ∀ i : Fin 10, i < kl j → 0 < kd j i ∧ kd j i < 27 := by decide +kernel
