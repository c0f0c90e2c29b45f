/-! the row of all tokens -/
def tPos (b : Nat → Int32) (n : Nat) : Nat → Nat
  | 0 => 0
  | i + 1 => ckE b n (rnE isB b n (tPos b n i))
def tP (b : Nat → Int32) (n i : Nat) : Nat := rnE isB b n (tPos b n i)
def tK (b : Nat → Int32) (n i : Nat) : Int32 := ckK b n (tP b n i)
def tC (b : Nat → Int32) (n i : Nat) : Int64 := ckC b n (tP b n i)
def TkR (M : Mem) (b : Nat → Int32) (n i : Nat) : Prop := mAI M 16 i = tK b n i ∧ mAI M 17 i = Int32.ofNat (tP b n i) ∧ (tP b n i < n → (isL (b (tP b n i)) = true ∨ isF (b (tP b n i)) = true) → mAJ M 18 i = tC b n i)
theorem tP_b {b : Nat → Int32} {n i : Nat} (h : tPos b n i ≤ n) : tPos b n i ≤ tP b n i ∧ tP b n i ≤ n := by
  have := runF_le (p := isB) (b := b) (n - tPos b n i) (tPos b n i)
  unfold tP rnE
  omega
theorem tPos_le {b : Nat → Int32} {n : Nat} (hz : ∀ i, n ≤ i → b i = 0) : ∀ i, tPos b n i ≤ n := by
  intro i
  induction i with
  | zero => exact Nat.zero_le _
  | succ i ih => exact ckE_le (tP_b ih).2 hz
theorem tK_fin {b : Nat → Int32} {n i : Nat} (h : n ≤ tP b n i) : tK b n i = 1 := by unfold tK ckK; rw [if_pos h]
theorem tPos_ge {b : Nat → Int32} {n : Nat} (hz : ∀ i, n ≤ i → b i = 0) : ∀ i, (∀ j, j < i → tK b n j ≠ 1) → i ≤ tPos b n i := by
  intro i
  induction i with
  | zero => intro _; exact Nat.zero_le _
  | succ i ih =>
    intro h
    have h1 := ih (fun j hj => h j (by omega))
    have h2 := tP_b (tPos_le hz i)
    have h3 : tP b n i < n := Nat.lt_of_not_le (fun z => h i (by omega) (tK_fin z))
    have h4 : tP b n i < tPos b n (i + 1) := ckE_gt h3
    omega
/-- all but the tokens' own rows and the place in the text stays -/
def CFr (M M' : Mem) : Prop := mN M' = mN M ∧ mS M' = mS M ∧ mK M' = mK M ∧ mL M' = mL M ∧ mR M' = mR M ∧ mAR M' = mAR M ∧ mJ M' = mJ M ∧ (∀ a f, ¬ (a = 15 ∧ f = 3) → mI M' a f = mI M a f) ∧ (∀ a, a ≠ 16 → a ≠ 17 → mAI M' a = mAI M a) ∧ (∀ a, a ≠ 18 → mAJ M' a = mAJ M a)
theorem CFr.rf {M : Mem} : CFr M M := ⟨rfl, rfl, rfl, rfl, rfl, rfl, rfl, fun _ _ _ => rfl, fun _ _ _ => rfl, fun _ _ => rfl⟩
theorem CFr.tr {M M1 M2 : Mem} (h : CFr M M1) (k : CFr M1 M2) : CFr M M2 := by
  obtain ⟨a1, a2, a3, a4, a5, a6, a7, a8, a9, aA⟩ := h
  obtain ⟨b1, b2, b3, b4, b5, b6, b7, b8, b9, bA⟩ := k
  exact ⟨b1.trans a1, b2.trans a2, b3.trans a3, b4.trans a4, b5.trans a5, b6.trans a6, b7.trans a7, fun a f q => (b8 a f q).trans (a8 a f q), fun a q r => (b9 a q r).trans (a9 a q r), fun a q => (bA a q).trans (aA a q)⟩
theorem CFr.w3 {M : Mem} {v : Int32} : CFr M (wI M 15 3 v) := ⟨rfl, rfl, rfl, rfl, rfl, rfl, rfl, fun a f q => by rw [mI_wI, if_neg q], fun _ _ _ => rfl, fun _ _ => rfl⟩
theorem CFr.w16 {M : Mem} {i : Nat} {v : Int32} : CFr M (wAI M 16 i v) := ⟨rfl, rfl, rfl, rfl, rfl, rfl, rfl, fun _ _ _ => rfl, fun a q _ => up2_row q, fun _ _ => rfl⟩
theorem CFr.w17 {M : Mem} {i : Nat} {v : Int32} : CFr M (wAI M 17 i v) := ⟨rfl, rfl, rfl, rfl, rfl, rfl, rfl, fun _ _ _ => rfl, fun a _ q => up2_row q, fun _ _ => rfl⟩
theorem CFr.w18 {M : Mem} {i : Nat} {v : Int64} : CFr M (wAJ M 18 i v) := ⟨rfl, rfl, rfl, rfl, rfl, rfl, rfl, fun _ _ _ => rfl, fun _ _ _ => rfl, fun a q => up2_row q⟩
theorem CFr.tx {M M' : Mem} {n : Nat} {b : Nat → Int32} (h : CFr M M') (hT : TX M n b) : TX M' n b := ⟨hT.1, (h.2.2.2.2.2.2.2.1 15 2 (by decide)).trans hT.2.1, fun i hi => by rw [h.2.2.2.2.2.2.2.2.1 1 (by decide) (by decide)]; exact hT.2.2.1 i hi, hT.2.2.2⟩
theorem ct_fr {M : Mem} {i p n : Nat} {b : Nat → Int32} : CFr M (ctF M i p n b) := by
  have h1 : CFr M (ctP M i p) := CFr.w3.tr CFr.w17
  unfold ctF
  split
  · exact h1.tr CFr.w16
  · split
    · exact h1.tr ((CFr.w3.tr CFr.w18).tr CFr.w16)
    · split
      · exact h1.tr ((CFr.w3.tr CFr.w18).tr CFr.w16)
      · exact h1.tr (CFr.w3.tr CFr.w16)
theorem ct_fix {M : Mem} {i p n : Nat} {b : Nat → Int32} (F : Fix M) : Fix (ctF M i p n b) := by
  have h1 : Fix (ctP M i p) := F.i.ai
  unfold ctF
  split
  · exact h1.ai
  · split
    · exact (h1.i.aj (by decide)).ai
    · split
      · exact (h1.i.aj (by decide)).ai
      · exact h1.i.ai
theorem ct_at {M : Mem} {i p n : Nat} {b : Nat → Int32} : mI (ctF M i p n b) 15 3 = Int32.ofNat (ckE b n p) := by
  unfold ctF ckE
  split
  · simp [ctP, mNwI, mSwI, mKwI, mIwI, mJwI, mRwI, mLwI, mAIwI, mAJwI, mARwI, mNwJ, mSwJ, mKwJ, mIwJ, mJwJ, mRwJ, mLwJ, mAIwJ, mAJwJ, mARwJ, mNwR, mSwR, mKwR, mIwR, mJwR, mRwR, mLwR, mAIwR, mAJwR, mARwR, mNwAI, mSwAI, mKwAI, mIwAI, mJwAI, mRwAI, mLwAI, mAIwAI, mAJwAI, mARwAI, mNwAJ, mSwAJ, mKwAJ, mIwAJ, mJwAJ, mRwAJ, mLwAJ, mAIwAJ, mAJwAJ, mARwAJ, mNwAR, mSwAR, mKwAR, mIwAR, mJwAR, mRwAR, mLwAR, mAIwAR, mAJwAR, mARwAR, okkwI, okkwJ, okkwR, okkwAI, okkwAJ, okkwAR]
  · split
    · simp [cwF, mNwI, mSwI, mKwI, mIwI, mJwI, mRwI, mLwI, mAIwI, mAJwI, mARwI, mNwJ, mSwJ, mKwJ, mIwJ, mJwJ, mRwJ, mLwJ, mAIwJ, mAJwJ, mARwJ, mNwR, mSwR, mKwR, mIwR, mJwR, mRwR, mLwR, mAIwR, mAJwR, mARwR, mNwAI, mSwAI, mKwAI, mIwAI, mJwAI, mRwAI, mLwAI, mAIwAI, mAJwAI, mARwAI, mNwAJ, mSwAJ, mKwAJ, mIwAJ, mJwAJ, mRwAJ, mLwAJ, mAIwAJ, mAJwAJ, mARwAJ, mNwAR, mSwAR, mKwAR, mIwAR, mJwAR, mRwAR, mLwAR, mAIwAR, mAJwAR, mARwAR, okkwI, okkwJ, okkwR, okkwAI, okkwAJ, okkwAR]
    · split
      · simp [cnF, mNwI, mSwI, mKwI, mIwI, mJwI, mRwI, mLwI, mAIwI, mAJwI, mARwI, mNwJ, mSwJ, mKwJ, mIwJ, mJwJ, mRwJ, mLwJ, mAIwJ, mAJwJ, mARwJ, mNwR, mSwR, mKwR, mIwR, mJwR, mRwR, mLwR, mAIwR, mAJwR, mARwR, mNwAI, mSwAI, mKwAI, mIwAI, mJwAI, mRwAI, mLwAI, mAIwAI, mAJwAI, mARwAI, mNwAJ, mSwAJ, mKwAJ, mIwAJ, mJwAJ, mRwAJ, mLwAJ, mAIwAJ, mAJwAJ, mARwAJ, mNwAR, mSwAR, mKwAR, mIwAR, mJwAR, mRwAR, mLwAR, mAIwAR, mAJwAR, mARwAR, okkwI, okkwJ, okkwR, okkwAI, okkwAJ, okkwAR]
      · simp [mNwI, mSwI, mKwI, mIwI, mJwI, mRwI, mLwI, mAIwI, mAJwI, mARwI, mNwJ, mSwJ, mKwJ, mIwJ, mJwJ, mRwJ, mLwJ, mAIwJ, mAJwJ, mARwJ, mNwR, mSwR, mKwR, mIwR, mJwR, mRwR, mLwR, mAIwR, mAJwR, mARwR, mNwAI, mSwAI, mKwAI, mIwAI, mJwAI, mRwAI, mLwAI, mAIwAI, mAJwAI, mARwAI, mNwAJ, mSwAJ, mKwAJ, mIwAJ, mJwAJ, mRwAJ, mLwAJ, mAIwAJ, mAJwAJ, mARwAJ, mNwAR, mSwAR, mKwAR, mIwAR, mJwAR, mRwAR, mLwAR, mAIwAR, mAJwAR, mARwAR, okkwI, okkwJ, okkwR, okkwAI, okkwAJ, okkwAR]
theorem ct_k {M : Mem} {i p n : Nat} {b : Nat → Int32} : mAI (ctF M i p n b) 16 i = ckK b n p := by
  unfold ctF ckK
  split
  · simp [mNwI, mSwI, mKwI, mIwI, mJwI, mRwI, mLwI, mAIwI, mAJwI, mARwI, mNwJ, mSwJ, mKwJ, mIwJ, mJwJ, mRwJ, mLwJ, mAIwJ, mAJwJ, mARwJ, mNwR, mSwR, mKwR, mIwR, mJwR, mRwR, mLwR, mAIwR, mAJwR, mARwR, mNwAI, mSwAI, mKwAI, mIwAI, mJwAI, mRwAI, mLwAI, mAIwAI, mAJwAI, mARwAI, mNwAJ, mSwAJ, mKwAJ, mIwAJ, mJwAJ, mRwAJ, mLwAJ, mAIwAJ, mAJwAJ, mARwAJ, mNwAR, mSwAR, mKwAR, mIwAR, mJwAR, mRwAR, mLwAR, mAIwAR, mAJwAR, mARwAR, okkwI, okkwJ, okkwR, okkwAI, okkwAJ, okkwAR]
  · split
    · simp [cwF, mNwI, mSwI, mKwI, mIwI, mJwI, mRwI, mLwI, mAIwI, mAJwI, mARwI, mNwJ, mSwJ, mKwJ, mIwJ, mJwJ, mRwJ, mLwJ, mAIwJ, mAJwJ, mARwJ, mNwR, mSwR, mKwR, mIwR, mJwR, mRwR, mLwR, mAIwR, mAJwR, mARwR, mNwAI, mSwAI, mKwAI, mIwAI, mJwAI, mRwAI, mLwAI, mAIwAI, mAJwAI, mARwAI, mNwAJ, mSwAJ, mKwAJ, mIwAJ, mJwAJ, mRwAJ, mLwAJ, mAIwAJ, mAJwAJ, mARwAJ, mNwAR, mSwAR, mKwAR, mIwAR, mJwAR, mRwAR, mLwAR, mAIwAR, mAJwAR, mARwAR, okkwI, okkwJ, okkwR, okkwAI, okkwAJ, okkwAR]
    · split
      · simp [cnF, mNwI, mSwI, mKwI, mIwI, mJwI, mRwI, mLwI, mAIwI, mAJwI, mARwI, mNwJ, mSwJ, mKwJ, mIwJ, mJwJ, mRwJ, mLwJ, mAIwJ, mAJwJ, mARwJ, mNwR, mSwR, mKwR, mIwR, mJwR, mRwR, mLwR, mAIwR, mAJwR, mARwR, mNwAI, mSwAI, mKwAI, mIwAI, mJwAI, mRwAI, mLwAI, mAIwAI, mAJwAI, mARwAI, mNwAJ, mSwAJ, mKwAJ, mIwAJ, mJwAJ, mRwAJ, mLwAJ, mAIwAJ, mAJwAJ, mARwAJ, mNwAR, mSwAR, mKwAR, mIwAR, mJwAR, mRwAR, mLwAR, mAIwAR, mAJwAR, mARwAR, okkwI, okkwJ, okkwR, okkwAI, okkwAJ, okkwAR]
      · simp [mNwI, mSwI, mKwI, mIwI, mJwI, mRwI, mLwI, mAIwI, mAJwI, mARwI, mNwJ, mSwJ, mKwJ, mIwJ, mJwJ, mRwJ, mLwJ, mAIwJ, mAJwJ, mARwJ, mNwR, mSwR, mKwR, mIwR, mJwR, mRwR, mLwR, mAIwR, mAJwR, mARwR, mNwAI, mSwAI, mKwAI, mIwAI, mJwAI, mRwAI, mLwAI, mAIwAI, mAJwAI, mARwAI, mNwAJ, mSwAJ, mKwAJ, mIwAJ, mJwAJ, mRwAJ, mLwAJ, mAIwAJ, mAJwAJ, mARwAJ, mNwAR, mSwAR, mKwAR, mIwAR, mJwAR, mRwAR, mLwAR, mAIwAR, mAJwAR, mARwAR, okkwI, okkwJ, okkwR, okkwAI, okkwAJ, okkwAR]
theorem ct_p {M : Mem} {i p n : Nat} {b : Nat → Int32} : mAI (ctF M i p n b) 17 i = Int32.ofNat p := by
  unfold ctF
  split
  · simp [ctP, mNwI, mSwI, mKwI, mIwI, mJwI, mRwI, mLwI, mAIwI, mAJwI, mARwI, mNwJ, mSwJ, mKwJ, mIwJ, mJwJ, mRwJ, mLwJ, mAIwJ, mAJwJ, mARwJ, mNwR, mSwR, mKwR, mIwR, mJwR, mRwR, mLwR, mAIwR, mAJwR, mARwR, mNwAI, mSwAI, mKwAI, mIwAI, mJwAI, mRwAI, mLwAI, mAIwAI, mAJwAI, mARwAI, mNwAJ, mSwAJ, mKwAJ, mIwAJ, mJwAJ, mRwAJ, mLwAJ, mAIwAJ, mAJwAJ, mARwAJ, mNwAR, mSwAR, mKwAR, mIwAR, mJwAR, mRwAR, mLwAR, mAIwAR, mAJwAR, mARwAR, okkwI, okkwJ, okkwR, okkwAI, okkwAJ, okkwAR]
  · split
    · simp [cwF, ctP, mNwI, mSwI, mKwI, mIwI, mJwI, mRwI, mLwI, mAIwI, mAJwI, mARwI, mNwJ, mSwJ, mKwJ, mIwJ, mJwJ, mRwJ, mLwJ, mAIwJ, mAJwJ, mARwJ, mNwR, mSwR, mKwR, mIwR, mJwR, mRwR, mLwR, mAIwR, mAJwR, mARwR, mNwAI, mSwAI, mKwAI, mIwAI, mJwAI, mRwAI, mLwAI, mAIwAI, mAJwAI, mARwAI, mNwAJ, mSwAJ, mKwAJ, mIwAJ, mJwAJ, mRwAJ, mLwAJ, mAIwAJ, mAJwAJ, mARwAJ, mNwAR, mSwAR, mKwAR, mIwAR, mJwAR, mRwAR, mLwAR, mAIwAR, mAJwAR, mARwAR, okkwI, okkwJ, okkwR, okkwAI, okkwAJ, okkwAR]
    · split
      · simp [cnF, ctP, mNwI, mSwI, mKwI, mIwI, mJwI, mRwI, mLwI, mAIwI, mAJwI, mARwI, mNwJ, mSwJ, mKwJ, mIwJ, mJwJ, mRwJ, mLwJ, mAIwJ, mAJwJ, mARwJ, mNwR, mSwR, mKwR, mIwR, mJwR, mRwR, mLwR, mAIwR, mAJwR, mARwR, mNwAI, mSwAI, mKwAI, mIwAI, mJwAI, mRwAI, mLwAI, mAIwAI, mAJwAI, mARwAI, mNwAJ, mSwAJ, mKwAJ, mIwAJ, mJwAJ, mRwAJ, mLwAJ, mAIwAJ, mAJwAJ, mARwAJ, mNwAR, mSwAR, mKwAR, mIwAR, mJwAR, mRwAR, mLwAR, mAIwAR, mAJwAR, mARwAR, okkwI, okkwJ, okkwR, okkwAI, okkwAJ, okkwAR]
      · simp [ctP, mNwI, mSwI, mKwI, mIwI, mJwI, mRwI, mLwI, mAIwI, mAJwI, mARwI, mNwJ, mSwJ, mKwJ, mIwJ, mJwJ, mRwJ, mLwJ, mAIwJ, mAJwJ, mARwJ, mNwR, mSwR, mKwR, mIwR, mJwR, mRwR, mLwR, mAIwR, mAJwR, mARwR, mNwAI, mSwAI, mKwAI, mIwAI, mJwAI, mRwAI, mLwAI, mAIwAI, mAJwAI, mARwAI, mNwAJ, mSwAJ, mKwAJ, mIwAJ, mJwAJ, mRwAJ, mLwAJ, mAIwAJ, mAJwAJ, mARwAJ, mNwAR, mSwAR, mKwAR, mIwAR, mJwAR, mRwAR, mLwAR, mAIwAR, mAJwAR, mARwAR, okkwI, okkwJ, okkwR, okkwAI, okkwAJ, okkwAR]
theorem ct_c {M : Mem} {i p n : Nat} {b : Nat → Int32} (hp : p < n) (h : isL (b p) = true ∨ isF (b p) = true) : mAJ (ctF M i p n b) 18 i = ckC b n p := by
  unfold ctF ckC
  rw [if_neg (Nat.not_le.mpr hp)]
  split
  · simp [cwF, ctP, mNwI, mSwI, mKwI, mIwI, mJwI, mRwI, mLwI, mAIwI, mAJwI, mARwI, mNwJ, mSwJ, mKwJ, mIwJ, mJwJ, mRwJ, mLwJ, mAIwJ, mAJwJ, mARwJ, mNwR, mSwR, mKwR, mIwR, mJwR, mRwR, mLwR, mAIwR, mAJwR, mARwR, mNwAI, mSwAI, mKwAI, mIwAI, mJwAI, mRwAI, mLwAI, mAIwAI, mAJwAI, mARwAI, mNwAJ, mSwAJ, mKwAJ, mIwAJ, mJwAJ, mRwAJ, mLwAJ, mAIwAJ, mAJwAJ, mARwAJ, mNwAR, mSwAR, mKwAR, mIwAR, mJwAR, mRwAR, mLwAR, mAIwAR, mAJwAR, mARwAR, okkwI, okkwJ, okkwR, okkwAI, okkwAJ, okkwAR]
  · rename_i q
    rw [if_pos (h.resolve_left q)]
    simp [cnF, ctP, mNwI, mSwI, mKwI, mIwI, mJwI, mRwI, mLwI, mAIwI, mAJwI, mARwI, mNwJ, mSwJ, mKwJ, mIwJ, mJwJ, mRwJ, mLwJ, mAIwJ, mAJwJ, mARwJ, mNwR, mSwR, mKwR, mIwR, mJwR, mRwR, mLwR, mAIwR, mAJwR, mARwR, mNwAI, mSwAI, mKwAI, mIwAI, mJwAI, mRwAI, mLwAI, mAIwAI, mAJwAI, mARwAI, mNwAJ, mSwAJ, mKwAJ, mIwAJ, mJwAJ, mRwAJ, mLwAJ, mAIwAJ, mAJwAJ, mARwAJ, mNwAR, mSwAR, mKwAR, mIwAR, mJwAR, mRwAR, mLwAR, mAIwAR, mAJwAR, mARwAR, okkwI, okkwJ, okkwR, okkwAI, okkwAJ, okkwAR]
theorem ct_o {M : Mem} {i p n j : Nat} {b : Nat → Int32} (hj : j ≠ i) : mAI (ctF M i p n b) 16 j = mAI M 16 j ∧ mAI (ctF M i p n b) 17 j = mAI M 17 j ∧ mAJ (ctF M i p n b) 18 j = mAJ M 18 j := by
  unfold ctF
  split
  · refine ⟨?_, ?_, ?_⟩ <;> simp [ctP, hj, mNwI, mSwI, mKwI, mIwI, mJwI, mRwI, mLwI, mAIwI, mAJwI, mARwI, mNwJ, mSwJ, mKwJ, mIwJ, mJwJ, mRwJ, mLwJ, mAIwJ, mAJwJ, mARwJ, mNwR, mSwR, mKwR, mIwR, mJwR, mRwR, mLwR, mAIwR, mAJwR, mARwR, mNwAI, mSwAI, mKwAI, mIwAI, mJwAI, mRwAI, mLwAI, mAIwAI, mAJwAI, mARwAI, mNwAJ, mSwAJ, mKwAJ, mIwAJ, mJwAJ, mRwAJ, mLwAJ, mAIwAJ, mAJwAJ, mARwAJ, mNwAR, mSwAR, mKwAR, mIwAR, mJwAR, mRwAR, mLwAR, mAIwAR, mAJwAR, mARwAR, okkwI, okkwJ, okkwR, okkwAI, okkwAJ, okkwAR]
  · split
    · refine ⟨?_, ?_, ?_⟩ <;> simp [cwF, ctP, hj, mNwI, mSwI, mKwI, mIwI, mJwI, mRwI, mLwI, mAIwI, mAJwI, mARwI, mNwJ, mSwJ, mKwJ, mIwJ, mJwJ, mRwJ, mLwJ, mAIwJ, mAJwJ, mARwJ, mNwR, mSwR, mKwR, mIwR, mJwR, mRwR, mLwR, mAIwR, mAJwR, mARwR, mNwAI, mSwAI, mKwAI, mIwAI, mJwAI, mRwAI, mLwAI, mAIwAI, mAJwAI, mARwAI, mNwAJ, mSwAJ, mKwAJ, mIwAJ, mJwAJ, mRwAJ, mLwAJ, mAIwAJ, mAJwAJ, mARwAJ, mNwAR, mSwAR, mKwAR, mIwAR, mJwAR, mRwAR, mLwAR, mAIwAR, mAJwAR, mARwAR, okkwI, okkwJ, okkwR, okkwAI, okkwAJ, okkwAR]
    · split
      · refine ⟨?_, ?_, ?_⟩ <;> simp [cnF, ctP, hj, mNwI, mSwI, mKwI, mIwI, mJwI, mRwI, mLwI, mAIwI, mAJwI, mARwI, mNwJ, mSwJ, mKwJ, mIwJ, mJwJ, mRwJ, mLwJ, mAIwJ, mAJwJ, mARwJ, mNwR, mSwR, mKwR, mIwR, mJwR, mRwR, mLwR, mAIwR, mAJwR, mARwR, mNwAI, mSwAI, mKwAI, mIwAI, mJwAI, mRwAI, mLwAI, mAIwAI, mAJwAI, mARwAI, mNwAJ, mSwAJ, mKwAJ, mIwAJ, mJwAJ, mRwAJ, mLwAJ, mAIwAJ, mAJwAJ, mARwAJ, mNwAR, mSwAR, mKwAR, mIwAR, mJwAR, mRwAR, mLwAR, mAIwAR, mAJwAR, mARwAR, okkwI, okkwJ, okkwR, okkwAI, okkwAJ, okkwAR]
      · refine ⟨?_, ?_, ?_⟩ <;> simp [ctP, hj, mNwI, mSwI, mKwI, mIwI, mJwI, mRwI, mLwI, mAIwI, mAJwI, mARwI, mNwJ, mSwJ, mKwJ, mIwJ, mJwJ, mRwJ, mLwJ, mAIwJ, mAJwJ, mARwJ, mNwR, mSwR, mKwR, mIwR, mJwR, mRwR, mLwR, mAIwR, mAJwR, mARwR, mNwAI, mSwAI, mKwAI, mIwAI, mJwAI, mRwAI, mLwAI, mAIwAI, mAJwAI, mARwAI, mNwAJ, mSwAJ, mKwAJ, mIwAJ, mJwAJ, mRwAJ, mLwAJ, mAIwAJ, mAJwAJ, mARwAJ, mNwAR, mSwAR, mKwAR, mIwAR, mJwAR, mRwAR, mLwAR, mAIwAR, mAJwAR, mARwAR, okkwI, okkwJ, okkwR, okkwAI, okkwAJ, okkwAR]
theorem begin_loop {h n : Nat} {b : Nat → Int32} {Q : Option Value → Mem → Prop} {M0 : Mem} (hB : By b)
    (H : ∀ (s : Nat) (M' : Mem), s ≤ n → (tK b n s = 0 ∨ tK b n s = 1) → (∀ j, j < s → tK b n j ≠ 0 ∧ tK b n j ≠ 1) → (∀ j, j ≤ s → TkR M' b n j) → Fix M' → CFr M0 M' → DX7_begin_52 (h + 7) 15 M' Q) :
    ∀ (m i : Nat) (M : Mem) (x : Int32), i + m = n + 1 → x ≠ 0 → x ≠ 1 → Fix M → TX M n b → CFr M0 M → mI M 15 3 = Int32.ofNat (tPos b n i) → (∀ j, j < i → TkR M b n j) → (∀ j, j < i → tK b n j ≠ 0 ∧ tK b n j ≠ 1) →
    T (h + 8) mdX7_begin 22 [(0, .ref 15), (2, .int x), (3, .int (Int32.ofNat i))] [] M Q := by
  intro m
  induction m with
  | zero =>
    intro i M x hi hx0 hx1 F hT hC ha hR hK
    have h1 := tPos_ge hT.2.2.2 i (fun j hj => (hK j hj).2)
    have h2 := tPos_le hT.2.2.2 (b := b) (n := n) i
    omega
  | succ m ih =>
    intro i M x hi hx0 hx1 F hT hC ha hR hK
    have hn := hT.1
    have h1 := tPos_ge hT.2.2.2 i (fun j hj => (hK j hj).2)
    have h2 := tPos_le hT.2.2.2 (b := b) (n := n) i
    refine VX7_begin_22 ?_
    unfold DX7_begin_22
    refine ⟨ok15 F, 16, rf15_4 F, ok16 F, fun hc => ?_, fun _ => ⟨fun hc => absurd hc hx1, fun _ => ⟨fun hc => absurd hc hx0, fun _ => ?_⟩⟩⟩
    · rw [ln16 F, le32 (by decide) (by omega)] at hc
      omega
    refine S_cut F hT hB ha h2 (by omega) ?_
    have F1 : Fix (ctF (wI M 15 3 (Int32.ofNat (rnE isB b n (tPos b n i)))) i (rnE isB b n (tPos b n i)) n b) := ct_fix F.i
    have C1 : CFr M0 (ctF (wI M 15 3 (Int32.ofNat (rnE isB b n (tPos b n i)))) i (rnE isB b n (tPos b n i)) n b) := hC.tr (CFr.w3.tr ct_fr)
    have T1 : TX (ctF (wI M 15 3 (Int32.ofNat (rnE isB b n (tPos b n i)))) i (rnE isB b n (tPos b n i)) n b) n b := (CFr.w3.tr ct_fr).tx hT
    have a1 : mI (ctF (wI M 15 3 (Int32.ofNat (rnE isB b n (tPos b n i)))) i (rnE isB b n (tPos b n i)) n b) 15 3 = Int32.ofNat (tPos b n (i + 1)) := ct_at
    have R1 : ∀ j, j < i + 1 → TkR (ctF (wI M 15 3 (Int32.ofNat (rnE isB b n (tPos b n i)))) i (rnE isB b n (tPos b n i)) n b) b n j := by
      intro j hj
      by_cases hji : j = i
      · subst hji
        exact ⟨ct_k, ct_p, fun q r => ct_c q r⟩
      · obtain ⟨o1, o2, o3⟩ := ct_o (M := wI M 15 3 (Int32.ofNat (rnE isB b n (tPos b n i)))) (i := i) (p := rnE isB b n (tPos b n i)) (n := n) (b := b) hji
        obtain ⟨r1, r2, r3⟩ := hR j (by omega)
        refine ⟨o1.trans r1, o2.trans r2, fun q r => o3.trans (r3 q r)⟩
    generalize ctF (wI M 15 3 (Int32.ofNat (rnE isB b n (tPos b n i)))) i (rnE isB b n (tPos b n i)) n b = N at F1 C1 T1 a1 R1
    refine fun _ => ⟨_, rfl, ?_⟩
    rw [succ32]
    show T (h + 8) mdX7_begin 22 [(0, .ref 15), (2, .int (tK b n i)), (3, .int (Int32.ofNat (i + 1)))] [] N Q
    by_cases hk : tK b n i = 0 ∨ tK b n i = 1
    · have HH := H i N (by omega) hk hK (fun j hj => R1 j (by omega)) F1 C1
      refine VX7_begin_22 ?_
      unfold DX7_begin_22
      refine ⟨ok15 F1, 16, rf15_4 F1, ok16 F1, fun _ => HH, fun _ => ⟨fun _ => HH, fun q => ⟨fun _ => HH, fun q2 => ?_⟩⟩⟩
      rcases hk with k | k
      · exact absurd k q2
      · exact absurd k q
    · refine ih (i + 1) N (tK b n i) (by omega) (fun z => hk (Or.inl z)) (fun z => hk (Or.inr z)) F1 T1 C1 a1 R1 (fun j hj => ?_)
      by_cases hji : j = i
      · subst hji; exact ⟨fun z => hk (Or.inl z), fun z => hk (Or.inr z)⟩
      · exact hK j (by omega)
/-- the memory as the first token has been read -/
def bgF (M : Mem) : Mem := advF (wI (wI (wI (wI M 15 7 0) 15 8 0) 15 12 0) 15 13 0)
theorem S_begin {h n : Nat} {b : Nat → Int32} {M : Mem} {Q : Option Value → Mem → Prop} (F : Fix M) (hn : n ≤ 800) (hm : ∀ i, i < n → (mAI M 1 i) &&& 255 = b i) (hz : ∀ i, n ≤ i → b i = 0) (hB : By b)
    (H : ∀ (s : Nat) (N : Mem), s ≤ n → (tK b n s = 0 ∨ tK b n s = 1) → (∀ j, j < s → tK b n j ≠ 0 ∧ tK b n j ≠ 1) → (∀ j, j ≤ s → TkR N b n j) → Fix N → CFr (wI M 15 2 (Int32.ofNat n)) N → Q none (bgF N)) : E (h + 8) mdX7_begin [.ref 15, .int (Int32.ofNat n)] M Q := by
  refine KX7_begin ?_
  unfold DX7_begin_0
  refine ⟨ok15 F, 1, rf15_0 F, ok1 F, fun M4 e4 M5 e5 => ?_⟩
  have hmin : ¬ Int32.ofNat 800 < Int32.ofNat n := by rw [ltn32 (by decide) (by omega)]; omega
  rw [ln1 F, if_neg hmin] at e4
  have F5 : Fix M5 := by rw [e5, e4]; exact F.i.i
  refine begin_loop (h := h) (M0 := wI M 15 2 (Int32.ofNat n)) hB (fun s N h1 h2 h3 h4 FN CN => ?_) (n + 1) 0 M5 (-1) (by omega) (by decide) (by decide) F5 ⟨hn, by rw [e5, e4]; simp [mNwI, mSwI, mKwI, mIwI, mJwI, mRwI, mLwI, mAIwI, mAJwI, mARwI, mNwJ, mSwJ, mKwJ, mIwJ, mJwJ, mRwJ, mLwJ, mAIwJ, mAJwJ, mARwJ, mNwR, mSwR, mKwR, mIwR, mJwR, mRwR, mLwR, mAIwR, mAJwR, mARwR, mNwAI, mSwAI, mKwAI, mIwAI, mJwAI, mRwAI, mLwAI, mAIwAI, mAJwAI, mARwAI, mNwAJ, mSwAJ, mKwAJ, mIwAJ, mJwAJ, mRwAJ, mLwAJ, mAIwAJ, mAJwAJ, mARwAJ, mNwAR, mSwAR, mKwAR, mIwAR, mJwAR, mRwAR, mLwAR, mAIwAR, mAJwAR, mARwAR, okkwI, okkwJ, okkwR, okkwAI, okkwAJ, okkwAR], fun i hi => by rw [e5, e4]; exact hm i hi, hz⟩ (by rw [e5, e4]; exact CFr.w3) (by rw [e5]; exact mI_own _ _ _ _) (fun j hj => absurd hj (Nat.not_lt_zero j)) (fun j hj => absurd hj (Nat.not_lt_zero j))
  have HH := H s N h1 h2 h3 h4 FN CN
  unfold DX7_begin_52
  refine ⟨ok15 FN, fun A a B bb C c D d => ?_⟩
  refine S_adv (by rw [d, c, bb, a]; exact FN.i.i.i.i) ?_ (fun _ => ⟨rfl, ?_⟩)
  · have : mI D 15 7 = 0 := by rw [d, c, bb, a]; simp [mNwI, mSwI, mKwI, mIwI, mJwI, mRwI, mLwI, mAIwI, mAJwI, mARwI, mNwJ, mSwJ, mKwJ, mIwJ, mJwJ, mRwJ, mLwJ, mAIwJ, mAJwJ, mARwJ, mNwR, mSwR, mKwR, mIwR, mJwR, mRwR, mLwR, mAIwR, mAJwR, mARwR, mNwAI, mSwAI, mKwAI, mIwAI, mJwAI, mRwAI, mLwAI, mAIwAI, mAJwAI, mARwAI, mNwAJ, mSwAJ, mKwAJ, mIwAJ, mJwAJ, mRwAJ, mLwAJ, mAIwAJ, mAJwAJ, mARwAJ, mNwAR, mSwAR, mKwAR, mIwAR, mJwAR, mRwAR, mLwAR, mAIwAR, mAJwAR, mARwAR, okkwI, okkwJ, okkwR, okkwAI, okkwAJ, okkwAR]
    rw [this]; decide
  · rw [d, c, bb, a]
    exact HH
