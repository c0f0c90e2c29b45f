/-! the tokens as the reader stands: at the i-th with o opened (TI), or behind a fault (TF) -/
def TI (b : Nat → Int32) (n s : Nat) (M : Mem) (i o : Nat) : Prop := Fix M ∧ (n ≤ 800 ∧ s ≤ n ∧ i ≤ s) ∧ (∀ j, j ≤ s → TkR M b n j) ∧ mI M 15 7 = Int32.ofNat (i + 1) ∧ mI M 15 8 = Int32.ofNat o ∧ mI M 15 9 = tK b n i ∧ mI M 15 10 = Int32.ofNat (tP b n i) ∧ (tP b n i < n → (isL (b (tP b n i)) = true ∨ isF (b (tP b n i)) = true) → mJ M 15 11 = tC b n i) ∧ mI M 15 12 = 0 ∧ tK b n i ≠ 0
def TF (M : Mem) (f : Int32) (p : Nat) : Prop := Fix M ∧ ¬ mI M 15 7 < 0 ∧ mI M 15 12 = f ∧ f ≠ 0 ∧ mI M 15 13 = Int32.ofNat p ∧ mI M 15 9 = 0
/-- all but the cell of Tokens stays -/
def TFr (M M' : Mem) : Prop := mN M' = mN M ∧ mS M' = mS M ∧ mK M' = mK M ∧ mL M' = mL M ∧ mR M' = mR M ∧ mAI M' = mAI M ∧ mAJ M' = mAJ M ∧ mAR M' = mAR M ∧ (∀ a, a ≠ 15 → mI M' a = mI M a ∧ mJ M' a = mJ M a)
theorem TFr.rf {M : Mem} : TFr M M := ⟨rfl, rfl, rfl, rfl, rfl, rfl, rfl, rfl, fun _ _ => ⟨rfl, rfl⟩⟩
theorem TFr.tr {M M1 M2 : Mem} (h : TFr M M1) (k : TFr M1 M2) : TFr M M2 := by
  obtain ⟨a1, a2, a3, a4, a5, a6, a7, a8, a9⟩ := h
  obtain ⟨b1, b2, b3, b4, b5, b6, b7, b8, b9⟩ := k
  exact ⟨b1.trans a1, b2.trans a2, b3.trans a3, b4.trans a4, b5.trans a5, b6.trans a6, b7.trans a7, b8.trans a8, fun a q => ⟨(b9 a q).1.trans (a9 a q).1, (b9 a q).2.trans (a9 a q).2⟩⟩
theorem TFr.i {M : Mem} {f : Nat} {v : Int32} : TFr M (wI M 15 f v) := ⟨rfl, rfl, rfl, rfl, rfl, rfl, rfl, rfl, fun a q => ⟨up2_row q, rfl⟩⟩
theorem TFr.j {M : Mem} {f : Nat} {v : Int64} : TFr M (wJ M 15 f v) := ⟨rfl, rfl, rfl, rfl, rfl, rfl, rfl, rfl, fun a q => ⟨rfl, up2_row q⟩⟩
theorem TFr.e {M M' : Mem} (h : TFr M M') : mE M M' := ⟨Nat.le_of_eq h.1.symm, Nat.le_of_eq h.2.1.symm, fun a _ => ⟨by rw [h.2.2.1], by rw [h.2.2.2.1]⟩⟩
theorem TFr.ok {M M' : Mem} {a c : Nat} (h : TFr M M') (k : ok M a c) : ok M' a c := ok_E k h.e
theorem TFr.fr {M M' : Mem} (h : TFr M M') : fr (fun c => c = 15) M M' := ⟨h.e, fun a _ q => ⟨(h.2.2.2.2.2.2.2.2 a q).1, (h.2.2.2.2.2.2.2.2 a q).2, by rw [h.2.2.2.2.1], by rw [h.2.2.2.2.2.1], by rw [h.2.2.2.2.2.2.1], by rw [h.2.2.2.2.2.2.2.1]⟩⟩
theorem TFr.adv {M : Mem} : TFr M (advF M) := by
  unfold advF
  split
  · split
    · dsimp only
      split
      · exact ((((TFr.i.tr TFr.i).tr TFr.j).tr TFr.i).tr TFr.i).tr TFr.i
      · exact ((TFr.i.tr TFr.i).tr TFr.j).tr TFr.i
    · exact TFr.rf
  · exact TFr.rf
theorem TFr.fail {M : Mem} {c : Int32} : TFr M (failF M c) := by
  unfold failF
  split
  · exact (TFr.i.tr TFr.i).tr TFr.i
  · exact TFr.i
theorem TFr.fix {M M' : Mem} (h : TFr M M') (F : Fix M) : Fix M' := F.of_fr (S := fun _ => True) h.e (fun e _ => by rw [h.2.2.2.2.1]) (by rw [h.2.2.2.2.2.2.1])
theorem TFr.tk {M M' : Mem} {b : Nat → Int32} {n j : Nat} (h : TFr M M') (k : TkR M b n j) : TkR M' b n j := by
  unfold TkR
  rw [h.2.2.2.2.2.1, h.2.2.2.2.2.2.1]
  exact k
section
variable {b : Nat → Int32} {n s : Nat} {M : Mem} {i o : Nat}
theorem TI.c0 (h : TI b n s M i o) : ¬ mI M 15 7 < 0 := by
  obtain ⟨-, ⟨h1, h2, h3⟩, -, h4, -⟩ := h
  rw [h4, show (0 : Int32) = Int32.ofNat 0 from rfl, ltn32 (by omega) (by decide)]
  omega
theorem TI.adv (h : TI b n s M i o) (hs : i < s) : (tK b n (i + 1) ≠ 0 → TI b n s (advF M) (i + 1) o) ∧ (tK b n (i + 1) = 0 → TF (advF M) 1 (tP b n (i + 1))) := by
  obtain ⟨F, ⟨h1, h2, h3⟩, hR, h4, h5, h6, h7, h8, h9, h10⟩ := h
  obtain ⟨r1, r2, r3⟩ := hR (i + 1) (by omega)
  constructor
  · intro hk
    have e := adv_ok (j := i + 1) h9 h4 (by omega) (by rw [r1]; exact hk)
    have hT : TFr M (advF M) := TFr.adv
    refine ⟨hT.fix F, ⟨h1, h2, by omega⟩, fun j hj => hT.tk (hR j hj), ?_, ?_, ?_, ?_, ?_, ?_, hk⟩
    · rw [e]; simp [mNwI, mSwI, mKwI, mIwI, mJwI, mRwI, mLwI, mAIwI, mAJwI, mARwI, mNwJ, mSwJ, mKwJ, mIwJ, mJwJ, mRwJ, mLwJ, mAIwJ, mAJwJ, mARwJ, mNwR, mSwR, mKwR, mIwR, mJwR, mRwR, mLwR, mAIwR, mAJwR, mARwR, mNwAI, mSwAI, mKwAI, mIwAI, mJwAI, mRwAI, mLwAI, mAIwAI, mAJwAI, mARwAI, mNwAJ, mSwAJ, mKwAJ, mIwAJ, mJwAJ, mRwAJ, mLwAJ, mAIwAJ, mAJwAJ, mARwAJ, mNwAR, mSwAR, mKwAR, mIwAR, mJwAR, mRwAR, mLwAR, mAIwAR, mAJwAR, mARwAR, okkwI, okkwJ, okkwR, okkwAI, okkwAJ, okkwAR]
    · rw [e]; simp [h5, mNwI, mSwI, mKwI, mIwI, mJwI, mRwI, mLwI, mAIwI, mAJwI, mARwI, mNwJ, mSwJ, mKwJ, mIwJ, mJwJ, mRwJ, mLwJ, mAIwJ, mAJwJ, mARwJ, mNwR, mSwR, mKwR, mIwR, mJwR, mRwR, mLwR, mAIwR, mAJwR, mARwR, mNwAI, mSwAI, mKwAI, mIwAI, mJwAI, mRwAI, mLwAI, mAIwAI, mAJwAI, mARwAI, mNwAJ, mSwAJ, mKwAJ, mIwAJ, mJwAJ, mRwAJ, mLwAJ, mAIwAJ, mAJwAJ, mARwAJ, mNwAR, mSwAR, mKwAR, mIwAR, mJwAR, mRwAR, mLwAR, mAIwAR, mAJwAR, mARwAR, okkwI, okkwJ, okkwR, okkwAI, okkwAJ, okkwAR]
    · rw [e]; simp [r1, mNwI, mSwI, mKwI, mIwI, mJwI, mRwI, mLwI, mAIwI, mAJwI, mARwI, mNwJ, mSwJ, mKwJ, mIwJ, mJwJ, mRwJ, mLwJ, mAIwJ, mAJwJ, mARwJ, mNwR, mSwR, mKwR, mIwR, mJwR, mRwR, mLwR, mAIwR, mAJwR, mARwR, mNwAI, mSwAI, mKwAI, mIwAI, mJwAI, mRwAI, mLwAI, mAIwAI, mAJwAI, mARwAI, mNwAJ, mSwAJ, mKwAJ, mIwAJ, mJwAJ, mRwAJ, mLwAJ, mAIwAJ, mAJwAJ, mARwAJ, mNwAR, mSwAR, mKwAR, mIwAR, mJwAR, mRwAR, mLwAR, mAIwAR, mAJwAR, mARwAR, okkwI, okkwJ, okkwR, okkwAI, okkwAJ, okkwAR]
    · rw [e]; simp [r2, mNwI, mSwI, mKwI, mIwI, mJwI, mRwI, mLwI, mAIwI, mAJwI, mARwI, mNwJ, mSwJ, mKwJ, mIwJ, mJwJ, mRwJ, mLwJ, mAIwJ, mAJwJ, mARwJ, mNwR, mSwR, mKwR, mIwR, mJwR, mRwR, mLwR, mAIwR, mAJwR, mARwR, mNwAI, mSwAI, mKwAI, mIwAI, mJwAI, mRwAI, mLwAI, mAIwAI, mAJwAI, mARwAI, mNwAJ, mSwAJ, mKwAJ, mIwAJ, mJwAJ, mRwAJ, mLwAJ, mAIwAJ, mAJwAJ, mARwAJ, mNwAR, mSwAR, mKwAR, mIwAR, mJwAR, mRwAR, mLwAR, mAIwAR, mAJwAR, mARwAR, okkwI, okkwJ, okkwR, okkwAI, okkwAJ, okkwAR]
    · intro q1 q2; rw [e]; simp [r3 q1 q2, mNwI, mSwI, mKwI, mIwI, mJwI, mRwI, mLwI, mAIwI, mAJwI, mARwI, mNwJ, mSwJ, mKwJ, mIwJ, mJwJ, mRwJ, mLwJ, mAIwJ, mAJwJ, mARwJ, mNwR, mSwR, mKwR, mIwR, mJwR, mRwR, mLwR, mAIwR, mAJwR, mARwR, mNwAI, mSwAI, mKwAI, mIwAI, mJwAI, mRwAI, mLwAI, mAIwAI, mAJwAI, mARwAI, mNwAJ, mSwAJ, mKwAJ, mIwAJ, mJwAJ, mRwAJ, mLwAJ, mAIwAJ, mAJwAJ, mARwAJ, mNwAR, mSwAR, mKwAR, mIwAR, mJwAR, mRwAR, mLwAR, mAIwAR, mAJwAR, mARwAR, okkwI, okkwJ, okkwR, okkwAI, okkwAJ, okkwAR]
    · rw [e]; simp [h9, mNwI, mSwI, mKwI, mIwI, mJwI, mRwI, mLwI, mAIwI, mAJwI, mARwI, mNwJ, mSwJ, mKwJ, mIwJ, mJwJ, mRwJ, mLwJ, mAIwJ, mAJwJ, mARwJ, mNwR, mSwR, mKwR, mIwR, mJwR, mRwR, mLwR, mAIwR, mAJwR, mARwR, mNwAI, mSwAI, mKwAI, mIwAI, mJwAI, mRwAI, mLwAI, mAIwAI, mAJwAI, mARwAI, mNwAJ, mSwAJ, mKwAJ, mIwAJ, mJwAJ, mRwAJ, mLwAJ, mAIwAJ, mAJwAJ, mARwAJ, mNwAR, mSwAR, mKwAR, mIwAR, mJwAR, mRwAR, mLwAR, mAIwAR, mAJwAR, mARwAR, okkwI, okkwJ, okkwR, okkwAI, okkwAJ, okkwAR]
  · intro hk
    have e := adv_bad (j := i + 1) h9 h4 (by omega) (by rw [r1]; exact hk)
    have hT : TFr M (advF M) := TFr.adv
    have e7 : mI (advF M) 15 7 = Int32.ofNat (i + 1 + 1) := by rw [e]; simp [mNwI, mSwI, mKwI, mIwI, mJwI, mRwI, mLwI, mAIwI, mAJwI, mARwI, mNwJ, mSwJ, mKwJ, mIwJ, mJwJ, mRwJ, mLwJ, mAIwJ, mAJwJ, mARwJ, mNwR, mSwR, mKwR, mIwR, mJwR, mRwR, mLwR, mAIwR, mAJwR, mARwR, mNwAI, mSwAI, mKwAI, mIwAI, mJwAI, mRwAI, mLwAI, mAIwAI, mAJwAI, mARwAI, mNwAJ, mSwAJ, mKwAJ, mIwAJ, mJwAJ, mRwAJ, mLwAJ, mAIwAJ, mAJwAJ, mARwAJ, mNwAR, mSwAR, mKwAR, mIwAR, mJwAR, mRwAR, mLwAR, mAIwAR, mAJwAR, mARwAR, okkwI, okkwJ, okkwR, okkwAI, okkwAJ, okkwAR]
    refine ⟨hT.fix F, ?_, ?_, by decide, ?_, ?_⟩
    · rw [e7, show (0 : Int32) = Int32.ofNat 0 from rfl, ltn32 (by omega) (by decide)]; omega
    · rw [e]; simp [mNwI, mSwI, mKwI, mIwI, mJwI, mRwI, mLwI, mAIwI, mAJwI, mARwI, mNwJ, mSwJ, mKwJ, mIwJ, mJwJ, mRwJ, mLwJ, mAIwJ, mAJwJ, mARwJ, mNwR, mSwR, mKwR, mIwR, mJwR, mRwR, mLwR, mAIwR, mAJwR, mARwR, mNwAI, mSwAI, mKwAI, mIwAI, mJwAI, mRwAI, mLwAI, mAIwAI, mAJwAI, mARwAI, mNwAJ, mSwAJ, mKwAJ, mIwAJ, mJwAJ, mRwAJ, mLwAJ, mAIwAJ, mAJwAJ, mARwAJ, mNwAR, mSwAR, mKwAR, mIwAR, mJwAR, mRwAR, mLwAR, mAIwAR, mAJwAR, mARwAR, okkwI, okkwJ, okkwR, okkwAI, okkwAJ, okkwAR]
    · rw [e]; simp [r2, mNwI, mSwI, mKwI, mIwI, mJwI, mRwI, mLwI, mAIwI, mAJwI, mARwI, mNwJ, mSwJ, mKwJ, mIwJ, mJwJ, mRwJ, mLwJ, mAIwJ, mAJwJ, mARwJ, mNwR, mSwR, mKwR, mIwR, mJwR, mRwR, mLwR, mAIwR, mAJwR, mARwR, mNwAI, mSwAI, mKwAI, mIwAI, mJwAI, mRwAI, mLwAI, mAIwAI, mAJwAI, mARwAI, mNwAJ, mSwAJ, mKwAJ, mIwAJ, mJwAJ, mRwAJ, mLwAJ, mAIwAJ, mAJwAJ, mARwAJ, mNwAR, mSwAR, mKwAR, mIwAR, mJwAR, mRwAR, mLwAR, mAIwAR, mAJwAR, mARwAR, okkwI, okkwJ, okkwR, okkwAI, okkwAJ, okkwAR]
    · rw [e]; simp [mNwI, mSwI, mKwI, mIwI, mJwI, mRwI, mLwI, mAIwI, mAJwI, mARwI, mNwJ, mSwJ, mKwJ, mIwJ, mJwJ, mRwJ, mLwJ, mAIwJ, mAJwJ, mARwJ, mNwR, mSwR, mKwR, mIwR, mJwR, mRwR, mLwR, mAIwR, mAJwR, mARwR, mNwAI, mSwAI, mKwAI, mIwAI, mJwAI, mRwAI, mLwAI, mAIwAI, mAJwAI, mARwAI, mNwAJ, mSwAJ, mKwAJ, mIwAJ, mJwAJ, mRwAJ, mLwAJ, mAIwAJ, mAJwAJ, mARwAJ, mNwAR, mSwAR, mKwAR, mIwAR, mJwAR, mRwAR, mLwAR, mAIwAR, mAJwAR, mARwAR, okkwI, okkwJ, okkwR, okkwAI, okkwAJ, okkwAR]
theorem TI.fail {c : Int32} (h : TI b n s M i o) (hc : c ≠ 0) : TF (failF M c) c (tP b n i) := by
  have c0 := h.c0
  obtain ⟨F, -, hR, h4, h5, h6, h7, h8, h9, h10⟩ := h
  have e : failF M c = wI (wI (wI M 15 12 c) 15 13 (mI M 15 10)) 15 9 0 := by unfold failF; rw [if_pos h9]
  refine ⟨TFr.fail.fix F, ?_, ?_, hc, ?_, ?_⟩
  · have : mI (failF M c) 15 7 = mI M 15 7 := by rw [e]; simp [mNwI, mSwI, mKwI, mIwI, mJwI, mRwI, mLwI, mAIwI, mAJwI, mARwI, mNwJ, mSwJ, mKwJ, mIwJ, mJwJ, mRwJ, mLwJ, mAIwJ, mAJwJ, mARwJ, mNwR, mSwR, mKwR, mIwR, mJwR, mRwR, mLwR, mAIwR, mAJwR, mARwR, mNwAI, mSwAI, mKwAI, mIwAI, mJwAI, mRwAI, mLwAI, mAIwAI, mAJwAI, mARwAI, mNwAJ, mSwAJ, mKwAJ, mIwAJ, mJwAJ, mRwAJ, mLwAJ, mAIwAJ, mAJwAJ, mARwAJ, mNwAR, mSwAR, mKwAR, mIwAR, mJwAR, mRwAR, mLwAR, mAIwAR, mAJwAR, mARwAR, okkwI, okkwJ, okkwR, okkwAI, okkwAJ, okkwAR]
    rw [this]; exact c0
  · rw [e]; simp [mNwI, mSwI, mKwI, mIwI, mJwI, mRwI, mLwI, mAIwI, mAJwI, mARwI, mNwJ, mSwJ, mKwJ, mIwJ, mJwJ, mRwJ, mLwJ, mAIwJ, mAJwJ, mARwJ, mNwR, mSwR, mKwR, mIwR, mJwR, mRwR, mLwR, mAIwR, mAJwR, mARwR, mNwAI, mSwAI, mKwAI, mIwAI, mJwAI, mRwAI, mLwAI, mAIwAI, mAJwAI, mARwAI, mNwAJ, mSwAJ, mKwAJ, mIwAJ, mJwAJ, mRwAJ, mLwAJ, mAIwAJ, mAJwAJ, mARwAJ, mNwAR, mSwAR, mKwAR, mIwAR, mJwAR, mRwAR, mLwAR, mAIwAR, mAJwAR, mARwAR, okkwI, okkwJ, okkwR, okkwAI, okkwAJ, okkwAR]
  · rw [e]; simp [h7, mNwI, mSwI, mKwI, mIwI, mJwI, mRwI, mLwI, mAIwI, mAJwI, mARwI, mNwJ, mSwJ, mKwJ, mIwJ, mJwJ, mRwJ, mLwJ, mAIwJ, mAJwJ, mARwJ, mNwR, mSwR, mKwR, mIwR, mJwR, mRwR, mLwR, mAIwR, mAJwR, mARwR, mNwAI, mSwAI, mKwAI, mIwAI, mJwAI, mRwAI, mLwAI, mAIwAI, mAJwAI, mARwAI, mNwAJ, mSwAJ, mKwAJ, mIwAJ, mJwAJ, mRwAJ, mLwAJ, mAIwAJ, mAJwAJ, mARwAJ, mNwAR, mSwAR, mKwAR, mIwAR, mJwAR, mRwAR, mLwAR, mAIwAR, mAJwAR, mARwAR, okkwI, okkwJ, okkwR, okkwAI, okkwAJ, okkwAR]
  · rw [e]; simp [mNwI, mSwI, mKwI, mIwI, mJwI, mRwI, mLwI, mAIwI, mAJwI, mARwI, mNwJ, mSwJ, mKwJ, mIwJ, mJwJ, mRwJ, mLwJ, mAIwJ, mAJwJ, mARwJ, mNwR, mSwR, mKwR, mIwR, mJwR, mRwR, mLwR, mAIwR, mAJwR, mARwR, mNwAI, mSwAI, mKwAI, mIwAI, mJwAI, mRwAI, mLwAI, mAIwAI, mAJwAI, mARwAI, mNwAJ, mSwAJ, mKwAJ, mIwAJ, mJwAJ, mRwAJ, mLwAJ, mAIwAJ, mAJwAJ, mARwAJ, mNwAR, mSwAR, mKwAR, mIwAR, mJwAR, mRwAR, mLwAR, mAIwAR, mAJwAR, mARwAR, okkwI, okkwJ, okkwR, okkwAI, okkwAJ, okkwAR]
theorem TF.fail {f c : Int32} {p : Nat} (h : TF M f p) : failF M c = M := by
  obtain ⟨F, h1, h2, h3, h4, h5⟩ := h
  unfold failF
  rw [if_neg (by rw [h2]; exact h3)]
  exact wI_same h5
theorem TF.adv {f : Int32} {p : Nat} (h : TF M f p) : advF M = M := adv_off (by rw [h.2.2.1]; exact h.2.2.2.1)
theorem TI.opn' {o' : Nat} (h : TI b n s M i o) : TI b n s (wI M 15 8 (Int32.ofNat o')) i o' := by
  obtain ⟨F, h1, hR, h4, h5, h6, h7, h8, h9, h10⟩ := h
  exact ⟨F.i, h1, fun j hj => TFr.i.tk (hR j hj), by simp [h4, mNwI, mSwI, mKwI, mIwI, mJwI, mRwI, mLwI, mAIwI, mAJwI, mARwI, mNwJ, mSwJ, mKwJ, mIwJ, mJwJ, mRwJ, mLwJ, mAIwJ, mAJwJ, mARwJ, mNwR, mSwR, mKwR, mIwR, mJwR, mRwR, mLwR, mAIwR, mAJwR, mARwR, mNwAI, mSwAI, mKwAI, mIwAI, mJwAI, mRwAI, mLwAI, mAIwAI, mAJwAI, mARwAI, mNwAJ, mSwAJ, mKwAJ, mIwAJ, mJwAJ, mRwAJ, mLwAJ, mAIwAJ, mAJwAJ, mARwAJ, mNwAR, mSwAR, mKwAR, mIwAR, mJwAR, mRwAR, mLwAR, mAIwAR, mAJwAR, mARwAR, okkwI, okkwJ, okkwR, okkwAI, okkwAJ, okkwAR], by simp [mNwI, mSwI, mKwI, mIwI, mJwI, mRwI, mLwI, mAIwI, mAJwI, mARwI, mNwJ, mSwJ, mKwJ, mIwJ, mJwJ, mRwJ, mLwJ, mAIwJ, mAJwJ, mARwJ, mNwR, mSwR, mKwR, mIwR, mJwR, mRwR, mLwR, mAIwR, mAJwR, mARwR, mNwAI, mSwAI, mKwAI, mIwAI, mJwAI, mRwAI, mLwAI, mAIwAI, mAJwAI, mARwAI, mNwAJ, mSwAJ, mKwAJ, mIwAJ, mJwAJ, mRwAJ, mLwAJ, mAIwAJ, mAJwAJ, mARwAJ, mNwAR, mSwAR, mKwAR, mIwAR, mJwAR, mRwAR, mLwAR, mAIwAR, mAJwAR, mARwAR, okkwI, okkwJ, okkwR, okkwAI, okkwAJ, okkwAR], by simp [h6, mNwI, mSwI, mKwI, mIwI, mJwI, mRwI, mLwI, mAIwI, mAJwI, mARwI, mNwJ, mSwJ, mKwJ, mIwJ, mJwJ, mRwJ, mLwJ, mAIwJ, mAJwJ, mARwJ, mNwR, mSwR, mKwR, mIwR, mJwR, mRwR, mLwR, mAIwR, mAJwR, mARwR, mNwAI, mSwAI, mKwAI, mIwAI, mJwAI, mRwAI, mLwAI, mAIwAI, mAJwAI, mARwAI, mNwAJ, mSwAJ, mKwAJ, mIwAJ, mJwAJ, mRwAJ, mLwAJ, mAIwAJ, mAJwAJ, mARwAJ, mNwAR, mSwAR, mKwAR, mIwAR, mJwAR, mRwAR, mLwAR, mAIwAR, mAJwAR, mARwAR, okkwI, okkwJ, okkwR, okkwAI, okkwAJ, okkwAR], by simp [h7, mNwI, mSwI, mKwI, mIwI, mJwI, mRwI, mLwI, mAIwI, mAJwI, mARwI, mNwJ, mSwJ, mKwJ, mIwJ, mJwJ, mRwJ, mLwJ, mAIwJ, mAJwJ, mARwJ, mNwR, mSwR, mKwR, mIwR, mJwR, mRwR, mLwR, mAIwR, mAJwR, mARwR, mNwAI, mSwAI, mKwAI, mIwAI, mJwAI, mRwAI, mLwAI, mAIwAI, mAJwAI, mARwAI, mNwAJ, mSwAJ, mKwAJ, mIwAJ, mJwAJ, mRwAJ, mLwAJ, mAIwAJ, mAJwAJ, mARwAJ, mNwAR, mSwAR, mKwAR, mIwAR, mJwAR, mRwAR, mLwAR, mAIwAR, mAJwAR, mARwAR, okkwI, okkwJ, okkwR, okkwAI, okkwAJ, okkwAR], fun q1 q2 => by simp [h8 q1 q2, mNwI, mSwI, mKwI, mIwI, mJwI, mRwI, mLwI, mAIwI, mAJwI, mARwI, mNwJ, mSwJ, mKwJ, mIwJ, mJwJ, mRwJ, mLwJ, mAIwJ, mAJwJ, mARwJ, mNwR, mSwR, mKwR, mIwR, mJwR, mRwR, mLwR, mAIwR, mAJwR, mARwR, mNwAI, mSwAI, mKwAI, mIwAI, mJwAI, mRwAI, mLwAI, mAIwAI, mAJwAI, mARwAI, mNwAJ, mSwAJ, mKwAJ, mIwAJ, mJwAJ, mRwAJ, mLwAJ, mAIwAJ, mAJwAJ, mARwAJ, mNwAR, mSwAR, mKwAR, mIwAR, mJwAR, mRwAR, mLwAR, mAIwAR, mAJwAR, mARwAR, okkwI, okkwJ, okkwR, okkwAI, okkwAJ, okkwAR], by simp [h9, mNwI, mSwI, mKwI, mIwI, mJwI, mRwI, mLwI, mAIwI, mAJwI, mARwI, mNwJ, mSwJ, mKwJ, mIwJ, mJwJ, mRwJ, mLwJ, mAIwJ, mAJwJ, mARwJ, mNwR, mSwR, mKwR, mIwR, mJwR, mRwR, mLwR, mAIwR, mAJwR, mARwR, mNwAI, mSwAI, mKwAI, mIwAI, mJwAI, mRwAI, mLwAI, mAIwAI, mAJwAI, mARwAI, mNwAJ, mSwAJ, mKwAJ, mIwAJ, mJwAJ, mRwAJ, mLwAJ, mAIwAJ, mAJwAJ, mARwAJ, mNwAR, mSwAR, mKwAR, mIwAR, mJwAR, mRwAR, mLwAR, mAIwAR, mAJwAR, mARwAR, okkwI, okkwJ, okkwR, okkwAI, okkwAJ, okkwAR], h10⟩
theorem TF.opn' {f v : Int32} {p : Nat} (h : TF M f p) : TF (wI M 15 8 v) f p := by
  obtain ⟨F, h1, h2, h3, h4, h5⟩ := h
  exact ⟨F.i, by rw [show mI (wI M 15 8 v) 15 7 = mI M 15 7 by simp [mNwI, mSwI, mKwI, mIwI, mJwI, mRwI, mLwI, mAIwI, mAJwI, mARwI, mNwJ, mSwJ, mKwJ, mIwJ, mJwJ, mRwJ, mLwJ, mAIwJ, mAJwJ, mARwJ, mNwR, mSwR, mKwR, mIwR, mJwR, mRwR, mLwR, mAIwR, mAJwR, mARwR, mNwAI, mSwAI, mKwAI, mIwAI, mJwAI, mRwAI, mLwAI, mAIwAI, mAJwAI, mARwAI, mNwAJ, mSwAJ, mKwAJ, mIwAJ, mJwAJ, mRwAJ, mLwAJ, mAIwAJ, mAJwAJ, mARwAJ, mNwAR, mSwAR, mKwAR, mIwAR, mJwAR, mRwAR, mLwAR, mAIwAR, mAJwAR, mARwAR, okkwI, okkwJ, okkwR, okkwAI, okkwAJ, okkwAR]]; exact h1, by simp [h2, mNwI, mSwI, mKwI, mIwI, mJwI, mRwI, mLwI, mAIwI, mAJwI, mARwI, mNwJ, mSwJ, mKwJ, mIwJ, mJwJ, mRwJ, mLwJ, mAIwJ, mAJwJ, mARwJ, mNwR, mSwR, mKwR, mIwR, mJwR, mRwR, mLwR, mAIwR, mAJwR, mARwR, mNwAI, mSwAI, mKwAI, mIwAI, mJwAI, mRwAI, mLwAI, mAIwAI, mAJwAI, mARwAI, mNwAJ, mSwAJ, mKwAJ, mIwAJ, mJwAJ, mRwAJ, mLwAJ, mAIwAJ, mAJwAJ, mARwAJ, mNwAR, mSwAR, mKwAR, mIwAR, mJwAR, mRwAR, mLwAR, mAIwAR, mAJwAR, mARwAR, okkwI, okkwJ, okkwR, okkwAI, okkwAJ, okkwAR], h3, by simp [h4, mNwI, mSwI, mKwI, mIwI, mJwI, mRwI, mLwI, mAIwI, mAJwI, mARwI, mNwJ, mSwJ, mKwJ, mIwJ, mJwJ, mRwJ, mLwJ, mAIwJ, mAJwJ, mARwJ, mNwR, mSwR, mKwR, mIwR, mJwR, mRwR, mLwR, mAIwR, mAJwR, mARwR, mNwAI, mSwAI, mKwAI, mIwAI, mJwAI, mRwAI, mLwAI, mAIwAI, mAJwAI, mARwAI, mNwAJ, mSwAJ, mKwAJ, mIwAJ, mJwAJ, mRwAJ, mLwAJ, mAIwAJ, mAJwAJ, mARwAJ, mNwAR, mSwAR, mKwAR, mIwAR, mJwAR, mRwAR, mLwAR, mAIwAR, mAJwAR, mARwAR, okkwI, okkwJ, okkwR, okkwAI, okkwAJ, okkwAR], by simp [h5, mNwI, mSwI, mKwI, mIwI, mJwI, mRwI, mLwI, mAIwI, mAJwI, mARwI, mNwJ, mSwJ, mKwJ, mIwJ, mJwJ, mRwJ, mLwJ, mAIwJ, mAJwJ, mARwJ, mNwR, mSwR, mKwR, mIwR, mJwR, mRwR, mLwR, mAIwR, mAJwR, mARwR, mNwAI, mSwAI, mKwAI, mIwAI, mJwAI, mRwAI, mLwAI, mAIwAI, mAJwAI, mARwAI, mNwAJ, mSwAJ, mKwAJ, mIwAJ, mJwAJ, mRwAJ, mLwAJ, mAIwAJ, mAJwAJ, mARwAJ, mNwAR, mSwAR, mKwAR, mIwAR, mJwAR, mRwAR, mLwAR, mAIwAR, mAJwAR, mARwAR, okkwI, okkwJ, okkwR, okkwAI, okkwAJ, okkwAR]⟩
theorem TI.fr {M' : Mem} (h : TI b n s M i o) (F' : Fix M') (h15 : mI M' 15 = mI M 15) (j15 : mJ M' 15 = mJ M 15) (a16 : mAI M' 16 = mAI M 16) (a17 : mAI M' 17 = mAI M 17) (a18 : mAJ M' 18 = mAJ M 18) : TI b n s M' i o := by
  obtain ⟨F, h1, hR, h4, h5, h6, h7, h8, h9, h10⟩ := h
  refine ⟨F', h1, fun j hj => ?_, by rw [h15]; exact h4, by rw [h15]; exact h5, by rw [h15]; exact h6, by rw [h15]; exact h7, by rw [j15]; exact h8, by rw [h15]; exact h9, h10⟩
  unfold TkR
  rw [a16, a17, a18]
  exact hR j hj
theorem TF.fr {M' : Mem} {f : Int32} {p : Nat} (h : TF M f p) (F' : Fix M') (h15 : mI M' 15 = mI M 15) : TF M' f p := by
  obtain ⟨F, h1, h2, h3, h4, h5⟩ := h
  exact ⟨F', by rw [h15]; exact h1, by rw [h15]; exact h2, h3, by rw [h15]; exact h4, by rw [h15]; exact h5⟩
end
section
variable {b : Nat → Int32} {n s : Nat} {M : Mem} {i o h : Nat} {Q : Option Value → Mem → Prop}
theorem A_adv (hT : TI b n s M i o) (hs : i < s) (H1 : tK b n (i + 1) ≠ 0 → ∀ M', TI b n s M' (i + 1) o → TFr M M' → Q none M') (H0 : tK b n (i + 1) = 0 → ∀ M', TF M' 1 (tP b n (i + 1)) → TFr M M' → Q none M') : E (h + 1) mdX7_advance [.ref 15] M Q := by
  refine S_adv hT.1 hT.c0 ?_
  by_cases hk : tK b n (i + 1) = 0
  · exact H0 hk _ ((hT.adv hs).2 hk) TFr.adv
  · exact H1 hk _ ((hT.adv hs).1 hk) TFr.adv
theorem F_adv {f : Int32} {p : Nat} (hT : TF M f p) (H : Q none M) : E (h + 1) mdX7_advance [.ref 15] M Q := S_adv hT.1 hT.2.1 (by rw [hT.adv]; exact H)
theorem A_fail {c : Int32} (hT : TI b n s M i o) (hc : c ≠ 0) (H : ∀ M', TF M' c (tP b n i) → TFr M M' → Q none M') : E (h + 1) mdX7_fail [.ref 15, .int c] M Q := S_fail hT.1 (H _ (hT.fail hc) TFr.fail)
theorem F_fail {c f : Int32} {p : Nat} (hT : TF M f p) (H : Q none M) : E (h + 1) mdX7_fail [.ref 15, .int c] M Q := S_fail hT.1 (by rw [hT.fail]; exact H)
theorem A_expect {c : Int32} (hT : TI b n s M i o) (hc1 : c ≠ 1) (H1 : tK b n i = c → tK b n (i + 1) ≠ 0 → ∀ M', TI b n s M' (i + 1) o → TFr M M' → Q none M') (H0 : tK b n i = c → tK b n (i + 1) = 0 → ∀ M', TF M' 1 (tP b n (i + 1)) → TFr M M' → Q none M') (H2 : tK b n i ≠ c → ∀ M', TF M' 2 (tP b n i) → TFr M M' → Q none M') (hend : tK b n s = 0 ∨ tK b n s = 1) : E (h + 2) mdX7_expect [.ref 15, .int c] M Q := by
  refine S_expect hT.1 hT.c0 ?_
  have h9 : mI M 15 9 = tK b n i := hT.2.2.2.2.2.1
  rw [h9]
  by_cases hk : tK b n i = c
  · rw [if_pos hk]
    have hs : i < s := by
      have h3 := hT.2.1.2.2
      have : i ≠ s := by
        rintro rfl
        rcases hend with q | q
        · exact hT.2.2.2.2.2.2.2.2.2 q
        · exact hc1 (hk.symm.trans q)
      omega
    by_cases hk1 : tK b n (i + 1) = 0
    · exact H0 hk hk1 _ ((hT.adv hs).2 hk1) TFr.adv
    · exact H1 hk hk1 _ ((hT.adv hs).1 hk1) TFr.adv
  · rw [if_neg hk]
    exact H2 hk _ (hT.fail (by decide)) TFr.fail
theorem F_expect {c f : Int32} {p : Nat} (hT : TF M f p) (hc : c ≠ 0) (H : Q none M) : E (h + 2) mdX7_expect [.ref 15, .int c] M Q := by
  refine S_expect hT.1 hT.2.1 ?_
  rw [hT.2.2.2.2.2, if_neg (fun z => hc z.symm), hT.fail]
  exact H
theorem A_opens (hT : TI b n s M i o) (ho : o ≤ 15) (H1 : o < 15 → ∀ M', TI b n s M' i (o + 1) → TFr M M' → Q none M') (H0 : o = 15 → ∀ M', TF M' 6 (tP b n i) → TFr M M' → Q none M') : E (h + 2) mdX7_opens [.ref 15] M Q := by
  refine S_opens hT.1 ?_
  rw [hT.2.2.2.2.1, succ32]
  have e : (Int32.ofNat o < 15) ↔ o < 15 := ltn32 (b := 15) (by omega) (by decide)
  by_cases h15 : o < 15
  · rw [if_pos (e.mpr h15)]
    exact H1 h15 _ hT.opn' TFr.i
  · rw [if_neg (fun z => h15 (e.mp z))]
    exact H0 (by omega) _ (hT.fail (by decide)) TFr.fail
theorem F_opens {f : Int32} {p : Nat} (hT : TF M f p) (H : ∀ M', TF M' f p → TFr M M' → Q none M') : E (h + 2) mdX7_opens [.ref 15] M Q := by
  refine S_opens hT.1 ?_
  split
  · exact H _ hT.opn' TFr.i
  · rw [hT.fail]; exact H _ hT TFr.rf
theorem A_closes (hT : TI b n s M i (o + 1)) (ho : o ≤ 20) (H : ∀ M', TI b n s M' i o → TFr M M' → Q none M') : E (h + 1) mdX7_closes [.ref 15] M Q := by
  refine S_closes hT.1 ?_
  rw [hT.2.2.2.2.1]
  have e : Int32.ofNat (o + 1) - 1 = Int32.ofNat o := sub32 (c := 1) (by omega) (by omega)
  rw [e]
  exact H _ hT.opn' TFr.i
theorem F_closes {f : Int32} {p : Nat} (hT : TF M f p) (H : ∀ M', TF M' f p → TFr M M' → Q none M') : E (h + 1) mdX7_closes [.ref 15] M Q := S_closes hT.1 (H _ hT.opn' TFr.i)
end
