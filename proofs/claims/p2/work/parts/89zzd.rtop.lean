/-! the reference: from what is told to the end of the text -/
/-- before the first row -/
def σ0 (A : Nat → Nat → Int32) (B : Nat → Int64) (C : ClT) : PS := ((fun _ => 0, A, B), C, [], [])
def σI (A : Nat → Nat → Int32) (B : Nat → Int64) (C : ClT) : PS := ((va_up (fun _ => 0) 4 1, up2 (up2 (up2 A 73 0 (-1)) 74 0 (-1)) 75 0 (-1), B), C, [], [])
/-- the class as it begins to read parts -/
def cl0 (Z : Nat → Nat → Int32) (τ : Td) : ClT := (fun _ _ => 0, (1, 0, Z), NT τ.1.length, fun _ => 0, [], [], 0, 0)
/-- parts to the end of the text -/
def rdQ (b : Nat → Int32) (n m : Nat) (τ : Td) (i : Nat) (σ : PS) : Except (Int32 × Nat) (Nat × PS × Nat) := (rp b n m τ 6000 0 [] i σ 0 0 0 0 0 0).bind fun q => if tK b n q.1 = 1 then .ok q else .error (2, tP b n q.1)
theorem σI_ok {A : Nat → Nat → Int32} {B : Nat → Int64} {C : ClT} {m : Nat} : RpI m 0 [] (σI A B C) 0 0 := by
  refine ⟨⟨Nat.zero_le _, Nat.zero_le _, Nat.zero_le _, Nat.zero_le _, fun q hq => Or.inl ?_⟩, Nat.zero_le _, fun _ => ?_, fun z => absurd z (by decide), fun z => absurd z (by decide), ?_⟩
  · have hq : q < 1 := hq
    have : q = 0 := by omega
    rw [this]
    show up2 (up2 (up2 A 73 0 (-1)) 74 0 (-1)) 75 0 (-1) 73 0 = -1
    rw [up2_ne (by decide), up2_ne (by decide), up2_eq]
  · show 0 < 1; decide
  · show 1 ≤ 0 + 1; decide
section
variable {b : Nat → Int32} {n s m : Nat} {τ : Td} {M M' : Mem} {i h : Nat} {Q : Option Value → Mem → Prop} {A : Nat → Nat → Int32} {B : Nat → Int64} {C : ClT}
def EndRP (b : Nat → Int32) (n s m : Nat) (τ : Td) (M : Mem) (Q : Option Value → Mem → Prop) (R : Except (Int32 × Nat) (Nat × PS × Nat)) : Prop := match R with
  | .error e => ∀ M', TXr M' e.1 e.2 → RGp m M M' → Q (some (.int 0)) M'
  | .ok r => ∀ M', RPs b n s m τ [] r.2.1 M' r.1 0 → RGp m M M' → Q (some (.int 0)) M'
theorem R_parts (hB : By b) (hz : ∀ i, n ≤ i → b i = 0) (hS : Sto b n s) (hM : MxOk τ) (hT : RT b n s m τ M i) (h0 : tK b n i ≠ 0) (hc : mAI M 48 m = 0 ∧ mAI M 44 m = 0 ∧ mAI M 54 m = 0 ∧ mAI M 55 m = 0 ∧ mAI M 56 m = 0 ∧ mAI M 57 m = 0) (hA : ∀ c, 58 ≤ c → c ≤ 75 → c ≠ 72 → mAI M c = A c) (hN : mAJ M 72 = B) (hE : EndRP b n s m τ M Q (rdQ b n m τ i (σI A B C))) : E (h + 15) mdX11_readParts [.ref 29] M Q := by
  obtain ⟨t1, t2, t3, t4, t5, t6, t7⟩ := hT
  have F := t1.1
  refine KX11_readParts ?_
  unfold DX11_readParts_0
  refine ⟨ok29 F, fun M2 e2 M3 e3 M4 e4 => ?_⟩
  have G4 : RGp m M M4 := by
    rw [e4, e3, e2]
    exact ((RG.i (by decide)).tr (RG.i (by decide))).tr (RG.i (by decide))
  have F4 : Fix M4 := by rw [e4, e3, e2]; exact F.i.i.i
  have row : mAI M4 = mAI M := by rw [e4, e3, e2]; rfl
  have rowJ : mAJ M4 = mAJ M := by rw [e4, e3, e2]; rfl
  have f53 : mI M4 29 53 = 0 := by rw [e4, e3, e2]; simp [mNwI, mSwI, mKwI, mIwI, mJwI, mRwI, mLwI, mAIwI, mAJwI, mARwI, mNwJ, mSwJ, mKwJ, mIwJ, mJwJ, mRwJ, mLwJ, mAIwJ, mAJwJ, mARwJ, mNwR, mSwR, mKwR, mIwR, mJwR, mRwR, mLwR, mAIwR, mAJwR, mARwR, mNwAI, mSwAI, mKwAI, mIwAI, mJwAI, mRwAI, mLwAI, mAIwAI, mAJwAI, mARwAI, mNwAJ, mSwAJ, mKwAJ, mIwAJ, mJwAJ, mRwAJ, mLwAJ, mAIwAJ, mAJwAJ, mARwAJ, mNwAR, mSwAR, mKwAR, mIwAR, mJwAR, mRwAR, mLwAR, mAIwAR, mAJwAR, mARwAR, okkwI, okkwJ, okkwR, okkwAI, okkwAJ, okkwAR]
  have f60 : mI M4 29 60 = 0 := by rw [e4, e3, e2]; simp [mNwI, mSwI, mKwI, mIwI, mJwI, mRwI, mLwI, mAIwI, mAJwI, mARwI, mNwJ, mSwJ, mKwJ, mIwJ, mJwJ, mRwJ, mLwJ, mAIwJ, mAJwJ, mARwJ, mNwR, mSwR, mKwR, mIwR, mJwR, mRwR, mLwR, mAIwR, mAJwR, mARwR, mNwAI, mSwAI, mKwAI, mIwAI, mJwAI, mRwAI, mLwAI, mAIwAI, mAJwAI, mARwAI, mNwAJ, mSwAJ, mKwAJ, mIwAJ, mJwAJ, mRwAJ, mLwAJ, mAIwAJ, mAJwAJ, mARwAJ, mNwAR, mSwAR, mKwAR, mIwAR, mJwAR, mRwAR, mLwAR, mAIwAR, mAJwAR, mARwAR, okkwI, okkwJ, okkwR, okkwAI, okkwAJ, okkwAR]
  have f33 : mI M4 29 33 = 0 := by rw [e4, e3, e2]; simp [mNwI, mSwI, mKwI, mIwI, mJwI, mRwI, mLwI, mAIwI, mAJwI, mARwI, mNwJ, mSwJ, mKwJ, mIwJ, mJwJ, mRwJ, mLwJ, mAIwJ, mAJwJ, mARwJ, mNwR, mSwR, mKwR, mIwR, mJwR, mRwR, mLwR, mAIwR, mAJwR, mARwR, mNwAI, mSwAI, mKwAI, mIwAI, mJwAI, mRwAI, mLwAI, mAIwAI, mAJwAI, mARwAI, mNwAJ, mSwAJ, mKwAJ, mIwAJ, mJwAJ, mRwAJ, mLwAJ, mAIwAJ, mAJwAJ, mARwAJ, mNwAR, mSwAR, mKwAR, mIwAR, mJwAR, mRwAR, mLwAR, mAIwAR, mAJwAR, mARwAR, okkwI, okkwJ, okkwR, okkwAI, okkwAJ, okkwAR]
  have f5 : mI M4 29 5 = Int32.ofNat i := by rw [← t3, e4, e3, e2]; simp [mNwI, mSwI, mKwI, mIwI, mJwI, mRwI, mLwI, mAIwI, mAJwI, mARwI, mNwJ, mSwJ, mKwJ, mIwJ, mJwJ, mRwJ, mLwJ, mAIwJ, mAJwJ, mARwJ, mNwR, mSwR, mKwR, mIwR, mJwR, mRwR, mLwR, mAIwR, mAJwR, mARwR, mNwAI, mSwAI, mKwAI, mIwAI, mJwAI, mRwAI, mLwAI, mAIwAI, mAJwAI, mARwAI, mNwAJ, mSwAJ, mKwAJ, mIwAJ, mJwAJ, mRwAJ, mLwAJ, mAIwAJ, mAJwAJ, mARwAJ, mNwAR, mSwAR, mKwAR, mIwAR, mJwAR, mRwAR, mLwAR, mAIwAR, mAJwAR, mARwAR, okkwI, okkwJ, okkwR, okkwAI, okkwAJ, okkwAR]
  have f6 : mI M4 29 6 = 0 := by rw [← t4, e4, e3, e2]; simp [mNwI, mSwI, mKwI, mIwI, mJwI, mRwI, mLwI, mAIwI, mAJwI, mARwI, mNwJ, mSwJ, mKwJ, mIwJ, mJwJ, mRwJ, mLwJ, mAIwJ, mAJwJ, mARwJ, mNwR, mSwR, mKwR, mIwR, mJwR, mRwR, mLwR, mAIwR, mAJwR, mARwR, mNwAI, mSwAI, mKwAI, mIwAI, mJwAI, mRwAI, mLwAI, mAIwAI, mAJwAI, mARwAI, mNwAJ, mSwAJ, mKwAJ, mIwAJ, mJwAJ, mRwAJ, mLwAJ, mAIwAJ, mAJwAJ, mARwAJ, mNwAR, mSwAR, mKwAR, mIwAR, mJwAR, mRwAR, mLwAR, mAIwAR, mAJwAR, mARwAR, okkwI, okkwJ, okkwR, okkwAI, okkwAJ, okkwAR]
  have d4 : RPd m τ [] (σ0 A B C) M4 := by
    refine ⟨⟨by rw [row]; exact hc.1, fun k hk => absurd hk (Nat.not_lt_zero _)⟩, ⟨by rw [row]; exact hc.2.1, fun k hk => absurd hk (Nat.not_lt_zero _), fun k hk => by rw [row]; exact t7 k hk⟩, fun c z1 z2 z3 => by rw [row]; exact hA c z1 z2 z3, by rw [rowJ]; exact hN, ⟨by rw [row]; exact hc.2.2.1, by rw [row]; exact hc.2.2.2.1, by rw [row]; exact hc.2.2.2.2.1, by rw [row]; exact hc.2.2.2.2.2⟩, f53, ⟨f60, fun j hj => absurd hj (Nat.not_lt_zero _)⟩, ⟨f60, fun j hj => absurd hj (Nat.not_lt_zero _)⟩, ⟨f60, fun j hj => absurd hj (Nat.not_lt_zero _)⟩⟩
  refine P_newSeq F4 d4 (show (0 : Nat) < 100 by decide) (fun M5 d5 G5 k5 _ => ⟨_, rfl, ?_⟩)
  have d5 : RPd m τ [] (σI A B C) M5 := d5
  have G := G4.tr G5
  have R5 : RPs b n s m τ [] (σI A B C) M5 i 0 := ⟨t1.rg G, t2, by rw [k5 5 (by decide)]; exact f5, by rw [k5 6 (by decide)]; exact f6, by rw [k5 33 (by decide)]; exact f33, d5, Nat.zero_le _, Nat.zero_le _, Nat.zero_le _⟩
  have rr : EndZ b n s m τ [] 0 0 (h + 1) M5 Q (rp b n m τ 6000 0 [] i (σI A B C) 0 0 0 0 0 0) → SLp (h + 1) Q M5 := R_rp (h := h + 1) (Q := Q) hB hz hS hM 6000 (m := m) 0 [] i (σI A B C) 0 0 0 0 0 0 M5 (by decide) h0 σI_ok (fun e he => absurd he List.not_mem_nil) (fun z => absurd z (by decide)) R5 (by rw [w0]; omega)
  show SLp (h + 1) Q M5
  show SLp (h + 1) Q M5
  refine rr ?_
  unfold rdQ at hE
  have ok0 := rp_ok (τ := τ) (m := m) hS 6000 0 [] i (σI A B C) 0 0 0 0 0 0 (by decide) t2.2.2 h0 σI_ok
  cases e : rp b n m τ 6000 0 [] i (σI A B C) 0 0 0 0 0 0 with
  | error y =>
    rw [e] at hE
    exact fun M6 T6 G6 => hE M6 T6 (G.tr G6)
  | ok r =>
    rw [e] at hE ok0
    have hE : EndRP b n s m τ M Q (if tK b n r.1 = 1 then .ok r else .error (2, tP b n r.1)) := hE
    intro M6 R6 G6 n13
    have R6 : RPs b n s m τ [] r.2.1 M6 r.1 0 := R6
    have hk := R6.1.2.1 r.1 R6.2.1.2.2
    refine R_done R6 hB (n13 (by decide)) (fun k1 => ?_) (fun k1 M7 T7 G7 => ?_) (by rw [hk.1]; exact (rS_rel hB).1)
    · rw [if_pos k1] at hE
      exact hE M6 R6 (G.tr G6)
    · rw [if_neg k1] at hE
      exact hE M7 T7 ((G.tr G6).tr G7)
end
