/-! what class and reference say of one token -/
theorem key_inj : ∀ j j' : Fin 33, val 32 (kd j) (kl j) = val 32 (kd j') (kl j') → j = j' := by decide +kernel
theorem key_dig {j : Nat} (hj : j < 33) : kl j ≤ 10 ∧ ∀ i, i < kl j → 0 < kd j i ∧ kd j i < 27 := by
  obtain ⟨-, -, h3, h4⟩ := key_tab ⟨j, hj⟩
  refine ⟨h3, fun i hi => ?_⟩
  have h3 : kl j ≤ 10 := h3
  exact h4 ⟨i, by omega⟩ hi
theorem pow32 {m : Nat} (h : m ≤ 10) : 32 ^ m ≤ 1125899906842624 := Nat.le_trans (Nat.pow_le_pow_right (by decide) h) (by decide)
theorem pow27 {m : Nat} (h : m ≤ 10) : 27 ^ m ≤ 205891132094649 := Nat.le_trans (Nat.pow_le_pow_right (by decide) h) (by decide)
/-- two words, or a word and a key: alike in base 32 just where they are alike in base 27 -/
theorem dig_rel {d d' : Nat → Nat} {m m' : Nat} (h : ∀ i, i < m → 0 < d i ∧ d i < 27) (h' : ∀ i, i < m' → 0 < d' i ∧ d' i < 27) (hm : m ≤ 10) (hm' : m' ≤ 10) : (Int64.ofNat (val 32 d m) = Int64.ofNat (val 32 d' m')) ↔ (Int64.ofNat (val 27 d m) = Int64.ofNat (val 27 d' m')) := by
  have same : ∀ B, m = m' ∧ (∀ i, i < m → d i = d' i) → val B d m = val B d' m' := by
    intro B
    rintro ⟨rfl, e⟩
    clear h h' hm hm'
    induction m with
    | zero => rfl
    | succ m ih => unfold val; rw [ih (fun i hi => e i (by omega)), e m (by omega)]
  have a1 := val_lt (B := 32) (d := d) m (fun i hi => by have := h i hi; omega)
  have a2 := val_lt (B := 32) (d := d') m' (fun i hi => by have := h' i hi; omega)
  have a3 := val_lt (B := 27) (d := d) m (fun i hi => by have := h i hi; omega)
  have a4 := val_lt (B := 27) (d := d') m' (fun i hi => by have := h' i hi; omega)
  have p1 := pow32 hm
  have p2 := pow32 hm'
  have p3 := pow27 hm
  have p4 := pow27 hm'
  constructor
  · intro e
    have e := n64_inj (by omega) (by omega) e
    rw [same 27 (val_inj (by decide) m m' (fun i hi => by have := h i hi; omega) (fun i hi => by have := h' i hi; omega) e)]
  · intro e
    have e := n64_inj (by omega) (by omega) e
    rw [same 32 (val_inj (by decide) m m' h h' e)]
theorem keyK_hit {c : Int64} {i : Nat} (hi : i < 33) (hc : keysF i = c) : ∀ k j, j + k = 33 → j ≤ i → keyK c k j = 30 + Int32.ofNat i := by
  intro k
  induction k with
  | zero => intro j h1 h2; omega
  | succ k ih =>
    intro j h1 h2
    unfold keyK
    by_cases hj : keysF j = c
    · rw [if_pos hj]
      have e := hj.trans hc.symm
      rw [(key_tab ⟨j, by omega⟩).1, (key_tab ⟨i, hi⟩).1] at e
      have dj := key_dig (j := j) (by omega)
      have di := key_dig hi
      have l1 := val_lt (B := 32) (d := kd j) (kl j) (fun q hq => by have := dj.2 q hq; omega)
      have l2 := val_lt (B := 32) (d := kd i) (kl i) (fun q hq => by have := di.2 q hq; omega)
      have p1 := pow32 dj.1
      have p2 := pow32 di.1
      have := key_inj ⟨j, by omega⟩ ⟨i, hi⟩ (n64_inj (by show val 32 (kd j) (kl j) < _; omega) (by show val 32 (kd i) (kl i) < _; omega) e)
      have : j = i := by simpa using this
      rw [this]
    · rw [if_neg hj]
      by_cases hji : j = i
      · subst hji; exact absurd hc hj
      · exact ih (j + 1) (by omega) (by omega)
theorem keyK_miss {c : Int64} (h : ∀ i, i < 33 → keysF i ≠ c) : ∀ k j, j + k = 33 → keyK c k j = 2 := by
  intro k
  induction k with
  | zero => intro j _; rfl
  | succ k ih =>
    intro j h1
    unfold keyK
    rw [if_neg (h j (by omega))]
    exact ih (j + 1) (by omega)
/-- a word of at most ten letters -/
def WD (b : Nat → Int32) (n p : Nat) : Prop := p < n ∧ isL (b p) = true ∧ rnE isL b n p - p ≤ 10
theorem WD_v {b : Nat → Int32} {n p : Nat} (h : WD b n p) : ckC b n p = Int64.ofNat (val 32 (lt1 b p) (rnE isL b n p - p)) ∧ rV b n p = Int64.ofNat (val 27 (lt1 b p) (rnE isL b n p - p)) ∧ ∀ i, i < rnE isL b n p - p → 0 < lt1 b p i ∧ lt1 b p i < 27 := by
  obtain ⟨h1, h2, h3⟩ := h
  have hnp : ¬ n ≤ p := by omega
  refine ⟨?_, ?_, fun i hi => ?_⟩
  · unfold ckC
    rw [if_pos h2]
    have := spell_val (b := b) (p := p) (n - p) 0
    have e0 : Int64.ofNat (val 32 (lt1 b p) 0) = 0 := rfl
    rw [e0] at this
    simpa [rnE] using this
  · unfold rV
    rw [if_neg hnp, if_pos h2]
    have := w27_val (b := b) (p := p) (n - p) 0 (by simpa [rnE] using h3)
    have e0 : Int64.ofNat (val 27 (lt1 b p) 0) = 0 := rfl
    rw [e0] at this
    simpa [rnE] using this
  · have q := isL_lt (runF_all (p := isL) (b := b) (n - p) p (p + i) (by omega) (by unfold rnE at hi; omega))
    exact ⟨q.1, q.2.1⟩
theorem WD_eq {b : Nat → Int32} {n p p' : Nat} (h : WD b n p) (h' : WD b n p') : (ckC b n p = ckC b n p') ↔ (rV b n p = rV b n p') := by
  obtain ⟨a1, a2, a3⟩ := WD_v h
  obtain ⟨b1, b2, b3⟩ := WD_v h'
  rw [a1, a2, b1, b2]
  exact dig_rel a3 b3 h.2.2 h'.2.2
theorem WD_key {b : Nat → Int32} {n p j : Nat} (h : WD b n p) (hj : j < 33) : (keysF j = ckC b n p) ↔ (rV b n p = key27.getD j 0) := by
  obtain ⟨a1, a2, a3⟩ := WD_v h
  obtain ⟨t1, t2, -, -⟩ := key_tab ⟨j, hj⟩
  have t1 : keysF j = Int64.ofNat (val 32 (kd j) (kl j)) := t1
  have t2 : key27.getD j 0 = Int64.ofNat (val 27 (kd j) (kl j)) := t2
  have dj := key_dig hj
  rw [a1, a2, t1, t2, dig_rel dj.2 a3 dj.1 h.2.2]
  exact eq_comm
def sv (k : Int32) : Int64 := if k = 4 then 58 else if k = 5 then 14909 else if k = 6 then 31868 else if k = 7 then 61 else if k = 8 then 8509 else if k = 9 then 60 else if k = 10 then 15421 else if k = 11 then 62 else if k = 12 then 15933 else if k = 13 then 59 else if k = 14 then 44 else if k = 15 then 40 else if k = 16 then 41 else if k = 17 then 91 else if k = 18 then 93 else if k = 19 then 63 else if k = 20 then 43 else if k = 21 then 45 else if k = 22 then 42 else if k = 23 then 47 else if k = 24 then 37 else 0
def sKs : List Int32 := [4, 5, 6, 7, 8, 9, 10, 11, 12, 13, 14, 15, 16, 17, 18, 19, 20, 21, 22, 23, 24]
theorem sv_inj : ∀ k ∈ sKs, ∀ k' ∈ sKs, sv k = sv k' → k = k' := by decide +kernel
theorem sg_fin2 : ∀ k : Fin 256, ¬ idxF (Int32.ofNat k).toInt8.toInt32 12 0 < 0 → 13 + idxF (Int32.ofNat k).toInt8.toInt32 12 0 ∈ sKs ∧ sv (13 + idxF (Int32.ofNat k).toInt8.toInt32 12 0) = (Int32.ofNat k).toInt64 := by decide +kernel
theorem sg_val {c d : Int32} (h0 : ¬ c < 0) (h1 : ¬ 255 < c) (hs : sgS c d = 3) : sgK c d ∈ sKs ∧ sgV c d = sv (sgK c d) := by
  obtain ⟨k, rfl⟩ := by_fin h0 h1
  obtain ⟨f1, f2⟩ := sg_fin k
  have f3 := sg_fin2 k
  generalize Int32.ofNat k = c at *
  have hw : tw c d = true ↔ (c = 124 ∧ d = 124) ∨ ((c = 58 ∨ c = 33 ∨ c = 60 ∨ c = 62) ∧ d = 61) := by unfold tw; simp
  by_cases hx : idxF c.toInt8.toInt32 12 0 < 0
  · have f2 := f2 hx
    have hs : tw c d = true ∨ isSg c = true := by
      unfold sgS at hs
      by_cases q : tw c d = true ∨ isSg c = true
      · exact q
      · rw [if_neg q] at hs; exact absurd hs (by decide)
    have cs : c = 33 ∧ d = 61 ∨ c = 58 ∨ c = 60 ∨ c = 61 ∨ c = 62 ∨ c = 124 ∧ d = 124 := by
      rcases hs with q | q
      · rcases hw.mp q with r | ⟨r | r | r | r, r2⟩
        · exact Or.inr (Or.inr (Or.inr (Or.inr (Or.inr r))))
        · exact Or.inr (Or.inl r)
        · exact Or.inl ⟨r, r2⟩
        · exact Or.inr (Or.inr (Or.inl r))
        · exact Or.inr (Or.inr (Or.inr (Or.inr (Or.inl r))))
      · rcases f2 q with r | r | r | r
        · exact Or.inr (Or.inl r)
        · exact Or.inr (Or.inr (Or.inl r))
        · exact Or.inr (Or.inr (Or.inr (Or.inl r)))
        · exact Or.inr (Or.inr (Or.inr (Or.inr (Or.inl r))))
    unfold sgK sgV
    simp only [hx, not_true_eq_false, if_false]
    rcases cs with ⟨rfl, rfl⟩ | rfl | rfl | rfl | rfl | ⟨rfl, rfl⟩
    · exact ⟨by decide, by decide⟩
    · by_cases hd : d = 61
      · subst hd; exact ⟨by decide, by decide⟩
      · have : ¬ tw 58 d = true := by rw [hw]; simp [hd]
        rw [if_neg this]
        simp only [hd, if_false]
        exact ⟨by show (4 : Int32) ∈ sKs; decide, by show Int32.toInt64 58 = sv 4; decide⟩
    · by_cases hd : d = 61
      · subst hd; exact ⟨by decide, by decide⟩
      · have : ¬ tw 60 d = true := by rw [hw]; simp [hd]
        rw [if_neg this]
        simp only [hd, if_false]
        exact ⟨by show (9 : Int32) ∈ sKs; decide, by show Int32.toInt64 60 = sv 9; decide⟩
    · have : ¬ tw 61 d = true := by rw [hw]; simp
      rw [if_neg this]
      exact ⟨by show (7 : Int32) ∈ sKs; decide, by show Int32.toInt64 61 = sv 7; decide⟩
    · by_cases hd : d = 61
      · subst hd; exact ⟨by decide, by decide⟩
      · have : ¬ tw 62 d = true := by rw [hw]; simp [hd]
        rw [if_neg this]
        simp only [hd, if_false]
        exact ⟨by show (11 : Int32) ∈ sKs; decide, by show Int32.toInt64 62 = sv 11; decide⟩
    · exact ⟨by decide, by decide⟩
  · obtain ⟨g1, g2, g3, g4, g5, g6, g7, g8, g9⟩ := f1 hx
    have t : ¬ tw c d = true := by rw [hw]; simp [g1, g2, g3, g4, g5]
    have f3 := f3 hx
    unfold sgK sgV
    rw [if_pos hx, if_neg t]
    exact ⟨f3.1, f3.2.symm⟩
