/-! cutting: the pure side -/
def isL (c : Int32) : Bool := decide (¬ c < 97) && decide (¬ 122 < c)
def isF (c : Int32) : Bool := decide (¬ c < 48) && decide (¬ 57 < c)
def isB (c : Int32) : Bool := decide (c = 32) || decide (c = 10)
def runF (p : Int32 → Bool) (b : Nat → Int32) : Nat → Nat → Nat
  | 0, a => a
  | k + 1, a => if p (b a) = true then runF p b k (a + 1) else a
def spellF (b : Nat → Int32) : Nat → Nat → Int64 → Int64
  | 0, _, x => x
  | k + 1, a, x => if isL (b a) = true then spellF b k (a + 1) (spl x (b a)) else x
def numF (b : Nat → Int32) : Nat → Nat → Int64 → Int64
  | 0, _, x => x
  | k + 1, a, x => if isF (b a) = true then numF b k (a + 1) (((x * 10) + ((b a).toInt64)) - 48) else x
theorem runF_le {p : Int32 → Bool} {b : Nat → Int32} : ∀ (k a : Nat), a ≤ runF p b k a ∧ runF p b k a ≤ a + k := by
  intro k
  induction k with
  | zero => intro a; exact ⟨Nat.le_refl _, Nat.le_refl _⟩
  | succ k ih =>
    intro a
    unfold runF
    split
    · have := ih (a + 1); omega
    · omega
theorem isL_ite {c : Int32} : (if c < 97 then (0 : Int32) else if 122 < c then 0 else 1) = if isL c = true then 1 else 0 := by
  unfold isL
  by_cases h1 : c < 97
  · simp [h1]
  · by_cases h2 : 122 < c
    · simp [h1, h2]
    · simp [h1, h2]
theorem isF_ite {c : Int32} : (if c < 48 then (0 : Int32) else if 57 < c then 0 else 1) = if isF c = true then 1 else 0 := by
  unfold isF
  by_cases h1 : c < 48
  · simp [h1]
  · by_cases h2 : 57 < c
    · simp [h1, h2]
    · simp [h1, h2]
theorem S_isL2 {h : Nat} {c : Int32} {M : Mem} {Q : Option Value → Mem → Prop} (H : Q (some (.int (if isL c = true then 1 else 0))) M) : E (h + 1) mdX7_isLetter [.int c] M Q := S_isL (by rw [isL_ite]; exact H)
theorem S_isF2 {h : Nat} {c : Int32} {M : Mem} {Q : Option Value → Mem → Prop} (H : Q (some (.int (if isF c = true then 1 else 0))) M) : E (h + 1) mdX7_isFigure [.int c] M Q := S_isF (by rw [isF_ite]; exact H)
theorem S_spelled2 {h : Nat} {c : Int64} {l : Int32} {M : Mem} {Q : Option Value → Mem → Prop} (H : Q (some (.long (spl c l))) M) : E (h + 1) mdX7_spelled [.long c, .int l] M Q := S_spelled H
theorem TX.wI3 {M : Mem} {n : Nat} {b : Nat → Int32} {v : Int32} (h : TX M n b) : TX (wI M 15 3 v) n b := h
theorem word_loop {h n i : Nat} {b : Nat → Int32} {Q : Option Value → Mem → Prop} : ∀ (k a c : Nat) (x : Int64) (M : Mem), a + k = n → Fix M → TX M n b → mI M 15 3 = Int32.ofNat a →
    DX7_cutWord_59 (h + 1) 15 (Int32.ofNat i) (spellF b k a x) (Int32.ofNat (c + (runF isL b k a - a))) (wI M 15 3 (Int32.ofNat (runF isL b k a))) Q →
    T (h + 2) mdX7_cutWord 5 [(0, .ref 15), (1, .int (Int32.ofNat i)), (2, .long x), (4, .int (Int32.ofNat c))] [] M Q := by
  intro k
  induction k with
  | zero =>
    intro a c x M hk F hT ha H
    refine VX7_cutWord_5 ?_
    unfold DX7_cutWord_5
    have hn : a = n := hk
    rw [ha, hT.2.1]
    refine ⟨ok15 F, fun _ => ?_, fun hc => absurd (by subst hn; ((try simp only [Int32.toNatClampNeg, Int32.lt_iff_toInt_lt, Int32.le_iff_toInt_le, ← Int32.toInt_inj, j_add, j_sub, j_neg, j_mul, j_nat, Int32.reduceToInt, vp_in]); omega)) hc⟩
    unfold spellF runF at H
    rw [wI_same ha, Nat.sub_self] at H
    exact H
  | succ k ih =>
    intro a c x M hk F hT ha H
    refine VX7_cutWord_5 ?_
    unfold DX7_cutWord_5
    have hn := hT.1
    rw [ha, hT.2.1]
    refine ⟨ok15 F, fun hc => absurd hc (by ((try simp only [Int32.toNatClampNeg, Int32.lt_iff_toInt_lt, Int32.le_iff_toInt_le, ← Int32.toInt_inj, j_add, j_sub, j_neg, j_mul, j_nat, Int32.reduceToInt, vp_in]); omega)), fun _ => ?_⟩
    refine S_byteAt F hT (by omega) (fun _ => ⟨_, rfl, S_isL2 (fun _ => ⟨_, rfl, fun h0 => ?_, fun h0 => ?_⟩)⟩)
    · have h0 : ¬ isL (b a) = true := by intro z; rw [if_pos z] at h0; exact absurd h0 (by decide)
      unfold spellF runF at H
      rw [if_neg h0, if_neg h0, wI_same ha, Nat.sub_self] at H
      exact H
    · have h0 : isL (b a) = true := by
        cases e : isL (b a) with
        | true => rfl
        | false => rw [e] at h0; exact absurd rfl h0
      rw [ha]
      refine S_byteAt F hT (by omega) (fun _ => ⟨_, rfl, S_spelled2 (fun _ => ⟨_, rfl, fun M10 e10 => ?_⟩)⟩)
      rw [ha, succ32] at e10
      subst e10
      rw [succ32]
      refine ih (a + 1) (c + 1) _ _ (by omega) F.i hT.wI3 (mI_own _ _ _ _) ?_
      unfold spellF runF at H
      rw [if_pos h0, if_pos h0] at H
      rw [wI_wI]
      have e1 : c + 1 + (runF isL b k (a + 1) - (a + 1)) = c + (runF isL b k (a + 1) - a) := by
        have := (runF_le (p := isL) (b := b) k (a + 1)).1
        omega
      rw [e1]
      exact H
theorem num_loop {h n i : Nat} {b : Nat → Int32} {Q : Option Value → Mem → Prop} : ∀ (k a c : Nat) (x : Int64) (M : Mem), a + k = n → Fix M → TX M n b → mI M 15 3 = Int32.ofNat a →
    DX7_cutNumber_66 (h + 1) 15 (Int32.ofNat i) (numF b k a x) (Int32.ofNat (c + (runF isF b k a - a))) (wI M 15 3 (Int32.ofNat (runF isF b k a))) Q →
    T (h + 2) mdX7_cutNumber 5 [(0, .ref 15), (1, .int (Int32.ofNat i)), (2, .long x), (4, .int (Int32.ofNat c))] [] M Q := by
  intro k
  induction k with
  | zero =>
    intro a c x M hk F hT ha H
    refine VX7_cutNumber_5 ?_
    unfold DX7_cutNumber_5
    have hn : a = n := hk
    rw [ha, hT.2.1]
    refine ⟨ok15 F, fun _ => ?_, fun hc => absurd (by subst hn; ((try simp only [Int32.toNatClampNeg, Int32.lt_iff_toInt_lt, Int32.le_iff_toInt_le, ← Int32.toInt_inj, j_add, j_sub, j_neg, j_mul, j_nat, Int32.reduceToInt, vp_in]); omega)) hc⟩
    unfold numF runF at H
    rw [wI_same ha, Nat.sub_self] at H
    exact H
  | succ k ih =>
    intro a c x M hk F hT ha H
    refine VX7_cutNumber_5 ?_
    unfold DX7_cutNumber_5
    have hn := hT.1
    rw [ha, hT.2.1]
    refine ⟨ok15 F, fun hc => absurd hc (by ((try simp only [Int32.toNatClampNeg, Int32.lt_iff_toInt_lt, Int32.le_iff_toInt_le, ← Int32.toInt_inj, j_add, j_sub, j_neg, j_mul, j_nat, Int32.reduceToInt, vp_in]); omega)), fun _ => ?_⟩
    refine S_byteAt F hT (by omega) (fun _ => ⟨_, rfl, S_isF2 (fun _ => ⟨_, rfl, fun h0 => ?_, fun h0 => ?_⟩)⟩)
    · have h0 : ¬ isF (b a) = true := by intro z; rw [if_pos z] at h0; exact absurd h0 (by decide)
      unfold numF runF at H
      rw [if_neg h0, if_neg h0, wI_same ha, Nat.sub_self] at H
      exact H
    · have h0 : isF (b a) = true := by
        cases e : isF (b a) with
        | true => rfl
        | false => rw [e] at h0; exact absurd rfl h0
      rw [ha]
      refine S_byteAt F hT (by omega) (fun _ => ⟨_, rfl, fun M10 e10 => ?_⟩)
      rw [ha, succ32] at e10
      subst e10
      rw [succ32]
      refine ih (a + 1) (c + 1) _ _ (by omega) F.i hT.wI3 (mI_own _ _ _ _) ?_
      unfold numF runF at H
      rw [if_pos h0, if_pos h0] at H
      rw [wI_wI]
      have e1 : c + 1 + (runF isF b k (a + 1) - (a + 1)) = c + (runF isF b k (a + 1) - a) := by
        have := (runF_le (p := isF) (b := b) k (a + 1)).1
        omega
      rw [e1]
      exact H
