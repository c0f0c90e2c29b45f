/-! what is said of one token: sort and value in the reference, kind and content in the class -/
def fg1 (b : Nat → Int32) (p j : Nat) : Nat := (b (p + j)).toInt.toNat - 48
theorem isF_lt {b : Nat → Int32} {p j : Nat} (h : isF (b (p + j)) = true) : fg1 b p j < 10 ∧ (b (p + j)).toInt = (fg1 b p j : Int) + 48 := by
  unfold isF at h
  simp only [Bool.and_eq_true, decide_eq_true_eq, Int32.lt_iff_toInt_lt] at h
  have e1 : (48 : Int32).toInt = 48 := by decide
  have e2 : (57 : Int32).toInt = 57 := by decide
  rw [e1, e2] at h
  unfold fg1
  omega
theorem num_of {x l : Nat} {c : Int32} (hc : c.toInt = (l : Int) + 48) : ((Int64.ofNat x * 10) + c.toInt64) - 48 = Int64.ofNat (x * 10 + l) := by
  rw [c64, hc, Int64.ofNat_add, Int64.ofNat_mul]
  have e : Int64.ofInt ((l : Int) + 48) = Int64.ofNat l + 48 := by rw [Int64.ofInt_add]; rfl
  rw [e]
  show Int64.ofNat x * 10 + (Int64.ofNat l + 48) - 48 = Int64.ofNat x * 10 + Int64.ofNat l
  generalize Int64.ofNat x * 10 = u
  generalize Int64.ofNat l = w
  rw [← Int64.add_assoc, Int64.add_sub_cancel]
theorem num_val {b : Nat → Int32} {p : Nat} : ∀ (k m : Nat), numF b k (p + m) (Int64.ofNat (val 10 (fg1 b p) m)) = Int64.ofNat (val 10 (fg1 b p) (m + (runF isF b k (p + m) - (p + m)))) := by
  intro k
  induction k with
  | zero => intro m; unfold numF runF; rw [Nat.sub_self]; rfl
  | succ k ih =>
    intro m
    unfold numF runF
    by_cases h : isF (b (p + m)) = true
    · rw [if_pos h, if_pos h, num_of (isF_lt h).2]
      have := ih (m + 1)
      have hr := (runF_le (p := isF) (b := b) k (p + m + 1)).1
      have e : m + 1 + (runF isF b k (p + (m + 1)) - (p + (m + 1))) = m + (runF isF b k (p + m + 1) - (p + m)) := by
        rw [← Nat.add_assoc]; omega
      rw [e] at this
      exact this
    · rw [if_neg h, if_neg h, Nat.sub_self]; rfl
theorem n10_val {b : Nat → Int32} {p : Nat} : ∀ (k m : Nat), runF isF b k (p + m) - p ≤ 6 → n10 b p k (p + m) (Int64.ofNat (val 10 (fg1 b p) m)) = Int64.ofNat (val 10 (fg1 b p) (m + (runF isF b k (p + m) - (p + m)))) := by
  intro k
  induction k with
  | zero => intro m _; unfold n10 runF; rw [Nat.sub_self]; rfl
  | succ k ih =>
    intro m h6
    unfold n10
    unfold runF at h6 ⊢
    by_cases h : isF (b (p + m)) = true
    · rw [if_pos h] at h6 ⊢
      rw [if_pos h]
      have hr := (runF_le (p := isF) (b := b) k (p + m + 1)).1
      have hlt : p + m - p < 6 := by omega
      rw [if_pos hlt, Int64.mul_comm 10, num_of (isF_lt h).2]
      have := ih (m + 1) (by rw [← Nat.add_assoc]; exact h6)
      have e : m + 1 + (runF isF b k (p + (m + 1)) - (p + (m + 1))) = m + (runF isF b k (p + m + 1) - (p + m)) := by
        rw [← Nat.add_assoc]; omega
      rw [e] at this
      exact this
    · rw [if_neg h, if_neg h, Nat.sub_self]; rfl
theorem tok_cases {b : Nat → Int32} {n p : Nat} (hB : By b) : (n ≤ p ∧ ckK b n p = 1 ∧ rS b n p = 0) ∨ (WD b n p ∧ ckK b n p = keyK (ckC b n p) 33 0 ∧ rS b n p = 1) ∨ (p < n ∧ isF (b p) = true ∧ ckK b n p = 3 ∧ rS b n p = 2 ∧ ∃ x, x < 1000000 ∧ ckC b n p = Int64.ofNat x ∧ rV b n p = Int64.ofNat x) ∨ (rS b n p = 3 ∧ ckK b n p ∈ sKs ∧ rV b n p = sv (ckK b n p)) ∨ (rS b n p = 4 ∧ ckK b n p = 0) := by
  by_cases hnp : n ≤ p
  · exact Or.inl ⟨hnp, by unfold ckK; rw [if_pos hnp], by unfold rS; rw [if_pos hnp]⟩
  right
  by_cases hl : isL (b p) = true
  · by_cases h10 : rnE isL b n p - p ≤ 10
    · refine Or.inl ⟨⟨by omega, hl, h10⟩, ?_, ?_⟩
      · unfold ckK ckC; rw [if_neg hnp, if_pos hl, if_pos h10, if_pos hl]
      · unfold rS; rw [if_neg hnp, if_pos hl, if_pos h10]
    · refine Or.inr (Or.inr (Or.inr ⟨?_, ?_⟩))
      · unfold rS; rw [if_neg hnp, if_pos hl, if_neg h10]
      · unfold ckK; rw [if_neg hnp, if_pos hl, if_neg h10]
  right
  by_cases hf : isF (b p) = true
  · by_cases h6 : rnE isF b n p - p ≤ 6
    · refine Or.inl ⟨by omega, hf, ?_, ?_, val 10 (fg1 b p) (rnE isF b n p - p), ?_, ?_, ?_⟩
      · unfold ckK; rw [if_neg hnp, if_neg hl, if_pos hf, if_pos h6]
      · unfold rS; rw [if_neg hnp, if_neg hl, if_pos hf, if_pos h6]
      · have := val_lt (B := 10) (d := fg1 b p) (rnE isF b n p - p) (fun i hi => (isF_lt (runF_all (p := isF) (b := b) (n - p) p (p + i) (by omega) (by unfold rnE at hi; omega))).1)
        have h2 : 10 ^ (rnE isF b n p - p) ≤ 10 ^ 6 := Nat.pow_le_pow_right (by decide) h6
        omega
      · unfold ckC
        rw [if_neg hl]
        have := num_val (b := b) (p := p) (n - p) 0
        have e0 : Int64.ofNat (val 10 (fg1 b p) 0) = 0 := rfl
        rw [e0] at this
        simpa [rnE] using this
      · unfold rV
        rw [if_neg hnp, if_neg hl, if_pos hf]
        have := n10_val (b := b) (p := p) (n - p) 0 (by simpa [rnE] using h6)
        have e0 : Int64.ofNat (val 10 (fg1 b p) 0) = 0 := rfl
        rw [e0] at this
        simpa [rnE] using this
    · refine Or.inr (Or.inr ⟨?_, ?_⟩)
      · unfold rS; rw [if_neg hnp, if_neg hl, if_pos hf, if_neg h6]
      · unfold ckK; rw [if_neg hnp, if_neg hl, if_pos hf, if_neg h6]
  right
  have eS : rS b n p = sgS (b p) (b (p + 1)) := by unfold rS; rw [if_neg hnp, if_neg hl, if_neg hf]
  have eK : ckK b n p = sgK (b p) (b (p + 1)) := by unfold ckK; rw [if_neg hnp, if_neg hl, if_neg hf]
  have eV : rV b n p = sgV (b p) (b (p + 1)) := by unfold rV; rw [if_neg hnp, if_neg hl, if_neg hf]
  rw [eS, eK, eV]
  by_cases hs : sgS (b p) (b (p + 1)) = 3
  · have g := sg_val (hB p).1 (hB p).2 hs
    exact Or.inl ⟨hs, g.1, g.2⟩
  · have h4 : sgS (b p) (b (p + 1)) = 4 := by
      unfold sgS at hs ⊢
      split
      · rename_i q; rw [if_pos q] at hs; exact absurd rfl hs
      · rfl
    exact Or.inr ⟨h4, (sg_rel (d := b (p + 1)) (hB p).1 (hB p).2).2.1.mpr h4⟩
theorem keyK_val {c : Int64} : keyK c 33 0 = 2 ∧ (∀ j, j < 33 → keysF j ≠ c) ∨ ∃ j, j < 33 ∧ keysF j = c ∧ keyK c 33 0 = 30 + Int32.ofNat j := by
  by_cases h : ∃ j, j < 33 ∧ keysF j = c
  · obtain ⟨j, hj, e⟩ := h
    exact Or.inr ⟨j, hj, e, keyK_hit hj e 33 0 rfl (Nat.zero_le _)⟩
  · have h : ∀ j, j < 33 → keysF j ≠ c := fun j hj e => h ⟨j, hj, e⟩
    exact Or.inl ⟨keyK_miss h 33 0 rfl, h⟩
theorem kj_ne : ∀ j : Fin 33, (30 + Int32.ofNat j) ∉ sKs ∧ 30 + Int32.ofNat j ≠ 0 ∧ 30 + Int32.ofNat j ≠ 1 ∧ 30 + Int32.ofNat j ≠ 2 ∧ 30 + Int32.ofNat j ≠ 3 := by decide +kernel
theorem kj_inj : ∀ j j' : Fin 33, 30 + Int32.ofNat j = 30 + Int32.ofNat j' → j = j' := by decide +kernel
theorem sK_ne : ∀ k ∈ sKs, k ≠ 0 ∧ k ≠ 1 ∧ k ≠ 2 ∧ k ≠ 3 := by decide +kernel
theorem said_sign {b : Nat → Int32} {n p : Nat} {K : Int32} (hB : By b) (hK : K ∈ sKs) : (rS b n p = 3 ∧ rV b n p = sv K) ↔ ckK b n p = K := by
  have hn := sK_ne K hK
  rcases tok_cases (b := b) (n := n) (p := p) hB with ⟨-, k, s⟩ | ⟨w, k, s⟩ | ⟨-, -, k, s, -⟩ | ⟨s, k, v⟩ | ⟨s, k⟩
  · rw [s, k]; exact ⟨fun z => absurd z.1 (by decide), fun z => absurd z.symm hn.2.1⟩
  · rw [s, k]
    refine ⟨fun z => absurd z.1 (by decide), fun z => ?_⟩
    rcases keyK_val (c := ckC b n p) with ⟨e, -⟩ | ⟨j, hj, -, e⟩
    · rw [e] at z; exact absurd z.symm hn.2.2.1
    · rw [e] at z; exact absurd (z ▸ hK) (kj_ne ⟨j, hj⟩).1
  · rw [s, k]; exact ⟨fun z => absurd z.1 (by decide), fun z => absurd z.symm hn.2.2.2⟩
  · rw [s, v]; exact ⟨fun z => sv_inj _ k _ hK z.2, fun z => ⟨rfl, by rw [z]⟩⟩
  · rw [s, k]; exact ⟨fun z => absurd z.1 (by decide), fun z => absurd z.symm hn.1⟩
theorem said_key {b : Nat → Int32} {n p j : Nat} (hB : By b) (hj : j < 33) : (rS b n p = 1 ∧ rV b n p = key27.getD j 0) ↔ ckK b n p = 30 + Int32.ofNat j := by
  have hn := kj_ne ⟨j, hj⟩
  have hn : (30 + Int32.ofNat j) ∉ sKs ∧ 30 + Int32.ofNat j ≠ 0 ∧ 30 + Int32.ofNat j ≠ 1 ∧ 30 + Int32.ofNat j ≠ 2 ∧ 30 + Int32.ofNat j ≠ 3 := hn
  rcases tok_cases (b := b) (n := n) (p := p) hB with ⟨-, k, s⟩ | ⟨w, k, s⟩ | ⟨-, -, k, s, -⟩ | ⟨s, k, v⟩ | ⟨s, k⟩
  · rw [s, k]; exact ⟨fun z => absurd z.1 (by decide), fun z => absurd z.symm hn.2.2.1⟩
  · rw [s, k, ← WD_key w hj]
    rcases keyK_val (c := ckC b n p) with ⟨e, h⟩ | ⟨i, hi, hc, e⟩
    · rw [e]; exact ⟨fun z => absurd z.2 (h j hj), fun z => absurd z.symm hn.2.2.2.1⟩
    · rw [e]
      constructor
      · intro z
        have := keyK_hit hj z.2 33 0 rfl (Nat.zero_le _)
        rw [← e]; exact this
      · intro z
        have := kj_inj ⟨i, hi⟩ ⟨j, hj⟩ z
        have : i = j := by simpa using this
        subst this
        exact ⟨rfl, hc⟩
  · rw [s, k]; exact ⟨fun z => absurd z.1 (by decide), fun z => absurd z.symm hn.2.2.2.2⟩
  · rw [s]; exact ⟨fun z => absurd z.1 (by decide), fun z => absurd (z ▸ k) hn.1⟩
  · rw [s, k]; exact ⟨fun z => absurd z.1 (by decide), fun z => absurd z.symm hn.2.1⟩
theorem said_num {b : Nat → Int32} {n p : Nat} (hB : By b) : rS b n p = 2 ↔ ckK b n p = 3 := by
  rcases tok_cases (b := b) (n := n) (p := p) hB with ⟨-, k, s⟩ | ⟨w, k, s⟩ | ⟨-, -, k, s, -⟩ | ⟨s, k, v⟩ | ⟨s, k⟩
  · rw [s, k]; decide
  · rw [s, k]
    refine ⟨fun z => absurd z (by decide), fun z => ?_⟩
    rcases keyK_val (c := ckC b n p) with ⟨e, -⟩ | ⟨j, hj, -, e⟩
    · rw [e] at z; exact absurd z (by decide)
    · rw [e] at z; exact absurd z (kj_ne ⟨j, hj⟩).2.2.2.2
  · rw [s, k]; decide
  · rw [s]; exact ⟨fun z => absurd z (by decide), fun z => absurd z (sK_ne _ k).2.2.2⟩
  · rw [s, k]; decide
theorem said_name {b : Nat → Int32} {n p : Nat} (hB : By b) : (rS b n p = 1 ∧ ∀ j, j < 33 → rV b n p ≠ key27.getD j 0) ↔ ckK b n p = 2 := by
  rcases tok_cases (b := b) (n := n) (p := p) hB with ⟨-, k, s⟩ | ⟨w, k, s⟩ | ⟨-, -, k, s, -⟩ | ⟨s, k, v⟩ | ⟨s, k⟩
  · rw [s, k]; exact ⟨fun z => absurd z.1 (by decide), fun z => absurd z (by decide)⟩
  · rw [s, k]
    rcases keyK_val (c := ckC b n p) with ⟨e, h⟩ | ⟨j, hj, hc, e⟩
    · rw [e]; exact ⟨fun _ => rfl, fun _ => ⟨rfl, fun j hj z => h j hj ((WD_key w hj).mpr z)⟩⟩
    · rw [e]; exact ⟨fun z => absurd ((WD_key w hj).mp hc) (z.2 j hj), fun z => absurd z (kj_ne ⟨j, hj⟩).2.2.2.1⟩
  · rw [s, k]; exact ⟨fun z => absurd z.1 (by decide), fun z => absurd z (by decide)⟩
  · rw [s]; exact ⟨fun z => absurd z.1 (by decide), fun z => absurd z (sK_ne _ k).2.2.1⟩
  · rw [s, k]; exact ⟨fun z => absurd z.1 (by decide), fun z => absurd z (by decide)⟩
theorem name_WD {b : Nat → Int32} {n p : Nat} (hB : By b) (h : ckK b n p = 2) : WD b n p := by
  rcases tok_cases (b := b) (n := n) (p := p) hB with ⟨-, k, s⟩ | ⟨w, k, s⟩ | ⟨-, -, k, s, -⟩ | ⟨s, k, v⟩ | ⟨s, k⟩
  · rw [k] at h; exact absurd h (by decide)
  · exact w
  · rw [k] at h; exact absurd h (by decide)
  · exact absurd h (sK_ne _ k).2.2.1
  · rw [k] at h; exact absurd h (by decide)
theorem num_val2 {b : Nat → Int32} {n p : Nat} (hB : By b) (h : ckK b n p = 3) : p < n ∧ isF (b p) = true ∧ ∃ x, x < 1000000 ∧ ckC b n p = Int64.ofNat x ∧ rV b n p = Int64.ofNat x := by
  rcases tok_cases (b := b) (n := n) (p := p) hB with ⟨-, k, s⟩ | ⟨w, k, s⟩ | ⟨h1, h2, k, s, h3⟩ | ⟨s, k, v⟩ | ⟨s, k⟩
  · rw [k] at h; exact absurd h (by decide)
  · rw [k] at h
    rcases keyK_val (c := ckC b n p) with ⟨e, -⟩ | ⟨j, hj, -, e⟩
    · rw [e] at h; exact absurd h (by decide)
    · rw [e] at h; exact absurd h (kj_ne ⟨j, hj⟩).2.2.2.2
  · exact ⟨h1, h2, h3⟩
  · exact absurd h (sK_ne _ k).2.2.2
  · rw [k] at h; exact absurd h (by decide)
