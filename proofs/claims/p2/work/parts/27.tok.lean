/-! Tokens: the small methods, exactly -/
theorem S_isL {h : Nat} {c : Int32} {M : Mem} {Q : Option Value → Mem → Prop} (H : Q (some (.int (if c < 97 then 0 else if 122 < c then 0 else 1))) M) : E (h + 1) mdX7_isLetter [.int c] M Q := by
  refine KX7_isLetter ?_
  unfold DX7_isLetter_0 DX7_isLetter_16 DX7_isLetter_17
  refine ⟨fun h1 => ⟨Or.inl rfl, ?_⟩, fun h1 => ⟨fun h2 => ⟨Or.inl rfl, ?_⟩, fun h2 => ⟨Or.inr rfl, ?_⟩⟩⟩
  · rwa [if_pos h1] at H
  · rwa [if_neg h1, if_pos h2] at H
  · rwa [if_neg h1, if_neg h2] at H
theorem S_isF {h : Nat} {c : Int32} {M : Mem} {Q : Option Value → Mem → Prop} (H : Q (some (.int (if c < 48 then 0 else if 57 < c then 0 else 1))) M) : E (h + 1) mdX7_isFigure [.int c] M Q := by
  refine KX7_isFigure ?_
  unfold DX7_isFigure_0 DX7_isFigure_16 DX7_isFigure_17
  refine ⟨fun h1 => ⟨Or.inl rfl, ?_⟩, fun h1 => ⟨fun h2 => ⟨Or.inl rfl, ?_⟩, fun h2 => ⟨Or.inr rfl, ?_⟩⟩⟩
  · rwa [if_pos h1] at H
  · rwa [if_neg h1, if_pos h2] at H
  · rwa [if_neg h1, if_neg h2] at H
/-- the text: n bytes, b i the i-th, 0 behind the last -/
def TX (M : Mem) (n : Nat) (b : Nat → Int32) : Prop := n ≤ 800 ∧ mI M 15 2 = Int32.ofNat n ∧ (∀ i, i < n → (mAI M 1 i) &&& 255 = b i) ∧ (∀ i, n ≤ i → b i = 0)
theorem S_byteAt {h n i : Nat} {b : Nat → Int32} {M : Mem} {Q : Option Value → Mem → Prop} (F : Fix M) (hT : TX M n b) (hi : i ≤ 2000) (H : Q (some (.int (b i))) M) : E (h + 1) mdX7_byteAt [.ref 15, .int (Int32.ofNat i)] M Q := by
  obtain ⟨t1, t2, t3, t4⟩ := hT
  refine KX7_byteAt ?_
  unfold DX7_byteAt_0 DX7_byteAt_22
  refine ⟨ok15 F, fun h1 => ?_, fun h1 => ⟨1, rf15_0 F, ok1 F, ?_, ?_⟩⟩
  · rw [t2] at h1
    rw [← t4 i (by ((try simp only [Int32.toNatClampNeg, Int32.lt_iff_toInt_lt, Int32.le_iff_toInt_le, ← Int32.toInt_inj, j_add, j_sub, j_neg, j_mul, j_nat, Int32.reduceToInt, vp_in] at *); omega))]; exact H
  · rw [ln1 F, t2] at *; ((try simp only [Int32.toNatClampNeg, Int32.lt_iff_toInt_lt, Int32.le_iff_toInt_le, ← Int32.toInt_inj, j_add, j_sub, j_neg, j_mul, j_nat, Int32.reduceToInt, vp_in] at *); omega)
  · rw [t2] at h1
    have hin : i < n := by ((try simp only [Int32.toNatClampNeg, Int32.lt_iff_toInt_lt, Int32.le_iff_toInt_le, ← Int32.toInt_inj, j_add, j_sub, j_neg, j_mul, j_nat, Int32.reduceToInt, vp_in] at *); omega)
    have e1 : (Int32.ofNat i).toNatClampNeg = i := by ((try simp only [Int32.toNatClampNeg, Int32.lt_iff_toInt_lt, Int32.le_iff_toInt_le, ← Int32.toInt_inj, j_add, j_sub, j_neg, j_mul, j_nat, Int32.reduceToInt, vp_in] at *); omega)
    rw [e1, t3 i hin]; exact H
def advF (M : Mem) : Mem :=
  if mI M 15 12 = 0 then
    if mI M 15 7 < 801 then
      let j := (mI M 15 7).toNatClampNeg
      let M1 := wI (wJ (wI (wI M 15 9 (mAI M 16 j)) 15 10 (mAI M 17 j)) 15 11 (mAJ M 18 j)) 15 7 (mI M 15 7 + 1)
      if mAI M 16 j = 0 then wI (wI M1 15 12 1) 15 13 (mAI M 17 j) else M1
    else M
  else M
theorem S_adv {h : Nat} {M : Mem} {Q : Option Value → Mem → Prop} (F : Fix M) (h0 : ¬ mI M 15 7 < 0) (H : Q none (advF M)) : E (h + 1) mdX7_advance [.ref 15] M Q := by
  refine KX7_advance ?_
  unfold DX7_advance_0 DX7_advance_19 DX7_advance_89
  unfold advF at H
  refine ⟨ok15 F, fun h1 => ?_, fun h1 => ⟨16, rf15_4 F, ok16 F, fun h2 => ?_, fun h2 => ?_⟩⟩
  · rwa [if_neg h1] at H
  · rw [ln16 F] at h2
    have h2 : mI M 15 7 < 801 := h2
    rw [if_pos h1, if_pos h2] at H
    have hv : vp_in (mI M 15 7) 801 := by ((try simp only [Int32.toNatClampNeg, Int32.lt_iff_toInt_lt, Int32.le_iff_toInt_le, ← Int32.toInt_inj, j_add, j_sub, j_neg, j_mul, j_nat, Int32.reduceToInt, vp_in] at *); omega)
    refine ⟨16, rf15_4 F, ok16 F, (ln16 F).symm ▸ hv, fun M6 e6 => ?_⟩
    subst e6
    refine ⟨17, rf15_5 F, ok17 F, (ln17 F).symm ▸ hv, fun M9 e9 => ?_⟩
    subst e9
    refine ⟨18, rf15_6 F, ok18 F, (ln18 F).symm ▸ hv, fun M12 e12 M13 e13 => ?_⟩
    subst e12 e13
    refine ⟨fun h3 => ?_, fun h3 M14 e14 M15 e15 => ?_⟩
    · have h3 : ¬ mAI M 16 (mI M 15 7).toNatClampNeg = 0 := h3
      rw [if_neg h3] at H
      exact H
    · have h3 : mAI M 16 (mI M 15 7).toNatClampNeg = 0 := h3
      rw [if_pos h3] at H
      subst e14 e15
      exact H
  · rw [ln16 F] at h2
    have h2 : ¬ mI M 15 7 < 801 := h2
    rwa [if_pos h1, if_neg h2] at H
def failF (M : Mem) (c : Int32) : Mem := wI (if mI M 15 12 = 0 then wI (wI M 15 12 c) 15 13 (mI M 15 10) else M) 15 9 0
theorem S_fail {h : Nat} {c : Int32} {M : Mem} {Q : Option Value → Mem → Prop} (F : Fix M) (H : Q none (failF M c)) : E (h + 1) mdX7_fail [.ref 15, .int c] M Q := by
  refine KX7_fail ?_
  unfold DX7_fail_0 DX7_fail_20
  unfold failF at H
  refine ⟨ok15 F, fun h1 => ⟨ok15 F, fun M2 e2 => ?_⟩, fun h1 M2 e2 M3 e3 => ⟨by subst e2 e3; exact ok15 F, fun M4 e4 => ?_⟩⟩
  · rw [if_neg h1] at H; subst e2; exact H
  · rw [if_pos h1] at H; subst e2 e3 e4; exact H
theorem S_expect {h : Nat} {c : Int32} {M : Mem} {Q : Option Value → Mem → Prop} (F : Fix M) (h0 : ¬ mI M 15 7 < 0) (H : Q none (if mI M 15 9 = c then advF M else failF M 2)) : E (h + 2) mdX7_expect [.ref 15, .int c] M Q := by
  refine KX7_expect ?_
  unfold DX7_expect_0 DX7_expect_20
  refine ⟨ok15 F, fun h1 => ?_, fun h1 => ?_⟩
  · rw [if_neg h1] at H; exact S_fail F (fun _ => ⟨rfl, H⟩)
  · rw [if_pos h1] at H; exact S_adv F h0 (fun _ => ⟨rfl, H⟩)
theorem S_accept {h : Nat} {c : Int32} {M : Mem} {Q : Option Value → Mem → Prop} (F : Fix M) (h0 : ¬ mI M 15 7 < 0) (H1 : mI M 15 9 = c → Q (some (.int 1)) (advF M)) (H0 : mI M 15 9 ≠ c → Q (some (.int 0)) M) : E (h + 2) mdX7_accept [.ref 15, .int c] M Q := by
  refine KX7_accept ?_
  unfold DX7_accept_0
  refine ⟨ok15 F, fun h1 => ?_, fun h1 => ⟨Or.inl rfl, H0 h1⟩⟩
  exact S_adv F h0 (fun _ => ⟨rfl, Or.inr rfl, H1 h1⟩)
theorem S_failAt {h : Nat} {c w : Int32} {M : Mem} {Q : Option Value → Mem → Prop} (F : Fix M) (H : Q none (failF (wI M 15 10 w) c)) : E (h + 2) mdX7_failAt [.ref 15, .int c, .int w] M Q := by
  refine KX7_failAt ?_
  unfold DX7_failAt_0
  refine ⟨ok15 F, fun M2 e2 => ?_⟩
  subst e2
  exact S_fail F.i (fun _ => ⟨rfl, H⟩)
theorem S_opens {h : Nat} {M : Mem} {Q : Option Value → Mem → Prop} (F : Fix M) (H : Q none (if mI M 15 8 < 15 then wI M 15 8 (mI M 15 8 + 1) else failF M 6)) : E (h + 2) mdX7_opens [.ref 15] M Q := by
  refine KX7_opens ?_
  unfold DX7_opens_0 DX7_opens_28
  refine ⟨ok15 F, fun h1 M2 e2 => ?_, fun h1 => ?_⟩
  · rw [if_pos h1] at H; subst e2; exact H
  · rw [if_neg h1] at H; exact S_fail F (fun _ => ⟨rfl, H⟩)
theorem S_closes {h : Nat} {M : Mem} {Q : Option Value → Mem → Prop} (F : Fix M) (H : Q none (wI M 15 8 (mI M 15 8 - 1))) : E (h + 1) mdX7_closes [.ref 15] M Q := by
  refine KX7_closes ?_
  unfold DX7_closes_0
  exact ⟨ok15 F, fun M2 e2 => by subst e2; exact H⟩
