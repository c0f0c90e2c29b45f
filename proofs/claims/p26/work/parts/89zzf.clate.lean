section
/-! the class: its first token; the faults that are told late -/
section
variable {b : Nat → Int32} {n s n0 : Nat} {M N M' : Mem} {i o h : Nat} {Q : Option Value → Mem → Prop}
theorem bg_ti (FN : Fix N) (hn : n ≤ 800) (hs : s ≤ n) (hR : ∀ j, j ≤ s → TkR N b n j) : (tK b n 0 ≠ 0 → TI b n s (bgF N) 0 0) ∧ (tK b n 0 = 0 → TF (bgF N) 1 (tP b n 0)) := by
  have r0 := hR 0 (Nat.zero_le _)
  unfold bgF
  obtain ⟨L, hL⟩ : ∃ L, L = wI (wI (wI (wI N 15 7 0) 15 8 0) 15 12 0) 15 13 0 := ⟨_, rfl⟩
  rw [← hL]
  have e12 : mI L 15 12 = 0 := by rw [hL]; simp [mNwI, mSwI, mKwI, mIwI, mJwI, mRwI, mLwI, mAIwI, mAJwI, mARwI, mNwJ, mSwJ, mKwJ, mIwJ, mJwJ, mRwJ, mLwJ, mAIwJ, mAJwJ, mARwJ, mNwR, mSwR, mKwR, mIwR, mJwR, mRwR, mLwR, mAIwR, mAJwR, mARwR, mNwAI, mSwAI, mKwAI, mIwAI, mJwAI, mRwAI, mLwAI, mAIwAI, mAJwAI, mARwAI, mNwAJ, mSwAJ, mKwAJ, mIwAJ, mJwAJ, mRwAJ, mLwAJ, mAIwAJ, mAJwAJ, mARwAJ, mNwAR, mSwAR, mKwAR, mIwAR, mJwAR, mRwAR, mLwAR, mAIwAR, mAJwAR, mARwAR, okkwI, okkwJ, okkwR, okkwAI, okkwAJ, okkwAR]
  have e7 : mI L 15 7 = Int32.ofNat 0 := by rw [hL]; simp [mNwI, mSwI, mKwI, mIwI, mJwI, mRwI, mLwI, mAIwI, mAJwI, mARwI, mNwJ, mSwJ, mKwJ, mIwJ, mJwJ, mRwJ, mLwJ, mAIwJ, mAJwJ, mARwJ, mNwR, mSwR, mKwR, mIwR, mJwR, mRwR, mLwR, mAIwR, mAJwR, mARwR, mNwAI, mSwAI, mKwAI, mIwAI, mJwAI, mRwAI, mLwAI, mAIwAI, mAJwAI, mARwAI, mNwAJ, mSwAJ, mKwAJ, mIwAJ, mJwAJ, mRwAJ, mLwAJ, mAIwAJ, mAJwAJ, mARwAJ, mNwAR, mSwAR, mKwAR, mIwAR, mJwAR, mRwAR, mLwAR, mAIwAR, mAJwAR, mARwAR, okkwI, okkwJ, okkwR, okkwAI, okkwAJ, okkwAR]
  have e8 : mI L 15 8 = 0 := by rw [hL]; simp [mNwI, mSwI, mKwI, mIwI, mJwI, mRwI, mLwI, mAIwI, mAJwI, mARwI, mNwJ, mSwJ, mKwJ, mIwJ, mJwJ, mRwJ, mLwJ, mAIwJ, mAJwJ, mARwJ, mNwR, mSwR, mKwR, mIwR, mJwR, mRwR, mLwR, mAIwR, mAJwR, mARwR, mNwAI, mSwAI, mKwAI, mIwAI, mJwAI, mRwAI, mLwAI, mAIwAI, mAJwAI, mARwAI, mNwAJ, mSwAJ, mKwAJ, mIwAJ, mJwAJ, mRwAJ, mLwAJ, mAIwAJ, mAJwAJ, mARwAJ, mNwAR, mSwAR, mKwAR, mIwAR, mJwAR, mRwAR, mLwAR, mAIwAR, mAJwAR, mARwAR, okkwI, okkwJ, okkwR, okkwAI, okkwAJ, okkwAR]
  have F4 : Fix L := by rw [hL]; exact FN.i.i.i.i
  have a6 : mAI L = mAI N := by rw [hL]; simp [mNwI, mSwI, mKwI, mIwI, mJwI, mRwI, mLwI, mAIwI, mAJwI, mARwI, mNwJ, mSwJ, mKwJ, mIwJ, mJwJ, mRwJ, mLwJ, mAIwJ, mAJwJ, mARwJ, mNwR, mSwR, mKwR, mIwR, mJwR, mRwR, mLwR, mAIwR, mAJwR, mARwR, mNwAI, mSwAI, mKwAI, mIwAI, mJwAI, mRwAI, mLwAI, mAIwAI, mAJwAI, mARwAI, mNwAJ, mSwAJ, mKwAJ, mIwAJ, mJwAJ, mRwAJ, mLwAJ, mAIwAJ, mAJwAJ, mARwAJ, mNwAR, mSwAR, mKwAR, mIwAR, mJwAR, mRwAR, mLwAR, mAIwAR, mAJwAR, mARwAR, okkwI, okkwJ, okkwR, okkwAI, okkwAJ, okkwAR]
  have aj : mAJ L = mAJ N := by rw [hL]; simp [mNwI, mSwI, mKwI, mIwI, mJwI, mRwI, mLwI, mAIwI, mAJwI, mARwI, mNwJ, mSwJ, mKwJ, mIwJ, mJwJ, mRwJ, mLwJ, mAIwJ, mAJwJ, mARwJ, mNwR, mSwR, mKwR, mIwR, mJwR, mRwR, mLwR, mAIwR, mAJwR, mARwR, mNwAI, mSwAI, mKwAI, mIwAI, mJwAI, mRwAI, mLwAI, mAIwAI, mAJwAI, mARwAI, mNwAJ, mSwAJ, mKwAJ, mIwAJ, mJwAJ, mRwAJ, mLwAJ, mAIwAJ, mAJwAJ, mARwAJ, mNwAR, mSwAR, mKwAR, mIwAR, mJwAR, mRwAR, mLwAR, mAIwAR, mAJwAR, mARwAR, okkwI, okkwJ, okkwR, okkwAI, okkwAJ, okkwAR]
  clear hL
  refine ⟨fun k0 => ?_, fun k0 => ?_⟩
  · have e := adv_ok (M := L) (j := 0) e12 e7 (by decide) (by rw [a6, r0.1]; exact k0)
    have FA := F4.adv
    obtain ⟨G, hG⟩ : ∃ G, G = advF L := ⟨_, rfl⟩
    rw [← hG] at FA ⊢
    rw [e] at hG
    have g7 : mI G 15 7 = Int32.ofNat 1 := by rw [hG]; simp [mNwI, mSwI, mKwI, mIwI, mJwI, mRwI, mLwI, mAIwI, mAJwI, mARwI, mNwJ, mSwJ, mKwJ, mIwJ, mJwJ, mRwJ, mLwJ, mAIwJ, mAJwJ, mARwJ, mNwR, mSwR, mKwR, mIwR, mJwR, mRwR, mLwR, mAIwR, mAJwR, mARwR, mNwAI, mSwAI, mKwAI, mIwAI, mJwAI, mRwAI, mLwAI, mAIwAI, mAJwAI, mARwAI, mNwAJ, mSwAJ, mKwAJ, mIwAJ, mJwAJ, mRwAJ, mLwAJ, mAIwAJ, mAJwAJ, mARwAJ, mNwAR, mSwAR, mKwAR, mIwAR, mJwAR, mRwAR, mLwAR, mAIwAR, mAJwAR, mARwAR, okkwI, okkwJ, okkwR, okkwAI, okkwAJ, okkwAR]
    have g8 : mI G 15 8 = 0 := by rw [hG]; simp [e8, mNwI, mSwI, mKwI, mIwI, mJwI, mRwI, mLwI, mAIwI, mAJwI, mARwI, mNwJ, mSwJ, mKwJ, mIwJ, mJwJ, mRwJ, mLwJ, mAIwJ, mAJwJ, mARwJ, mNwR, mSwR, mKwR, mIwR, mJwR, mRwR, mLwR, mAIwR, mAJwR, mARwR, mNwAI, mSwAI, mKwAI, mIwAI, mJwAI, mRwAI, mLwAI, mAIwAI, mAJwAI, mARwAI, mNwAJ, mSwAJ, mKwAJ, mIwAJ, mJwAJ, mRwAJ, mLwAJ, mAIwAJ, mAJwAJ, mARwAJ, mNwAR, mSwAR, mKwAR, mIwAR, mJwAR, mRwAR, mLwAR, mAIwAR, mAJwAR, mARwAR, okkwI, okkwJ, okkwR, okkwAI, okkwAJ, okkwAR]
    have g9 : mI G 15 9 = mAI L 16 0 := by rw [hG]; simp [mNwI, mSwI, mKwI, mIwI, mJwI, mRwI, mLwI, mAIwI, mAJwI, mARwI, mNwJ, mSwJ, mKwJ, mIwJ, mJwJ, mRwJ, mLwJ, mAIwJ, mAJwJ, mARwJ, mNwR, mSwR, mKwR, mIwR, mJwR, mRwR, mLwR, mAIwR, mAJwR, mARwR, mNwAI, mSwAI, mKwAI, mIwAI, mJwAI, mRwAI, mLwAI, mAIwAI, mAJwAI, mARwAI, mNwAJ, mSwAJ, mKwAJ, mIwAJ, mJwAJ, mRwAJ, mLwAJ, mAIwAJ, mAJwAJ, mARwAJ, mNwAR, mSwAR, mKwAR, mIwAR, mJwAR, mRwAR, mLwAR, mAIwAR, mAJwAR, mARwAR, okkwI, okkwJ, okkwR, okkwAI, okkwAJ, okkwAR]
    have g10 : mI G 15 10 = mAI L 17 0 := by rw [hG]; simp [mNwI, mSwI, mKwI, mIwI, mJwI, mRwI, mLwI, mAIwI, mAJwI, mARwI, mNwJ, mSwJ, mKwJ, mIwJ, mJwJ, mRwJ, mLwJ, mAIwJ, mAJwJ, mARwJ, mNwR, mSwR, mKwR, mIwR, mJwR, mRwR, mLwR, mAIwR, mAJwR, mARwR, mNwAI, mSwAI, mKwAI, mIwAI, mJwAI, mRwAI, mLwAI, mAIwAI, mAJwAI, mARwAI, mNwAJ, mSwAJ, mKwAJ, mIwAJ, mJwAJ, mRwAJ, mLwAJ, mAIwAJ, mAJwAJ, mARwAJ, mNwAR, mSwAR, mKwAR, mIwAR, mJwAR, mRwAR, mLwAR, mAIwAR, mAJwAR, mARwAR, okkwI, okkwJ, okkwR, okkwAI, okkwAJ, okkwAR]
    have g11 : mJ G 15 11 = mAJ L 18 0 := by rw [hG]; simp [mNwI, mSwI, mKwI, mIwI, mJwI, mRwI, mLwI, mAIwI, mAJwI, mARwI, mNwJ, mSwJ, mKwJ, mIwJ, mJwJ, mRwJ, mLwJ, mAIwJ, mAJwJ, mARwJ, mNwR, mSwR, mKwR, mIwR, mJwR, mRwR, mLwR, mAIwR, mAJwR, mARwR, mNwAI, mSwAI, mKwAI, mIwAI, mJwAI, mRwAI, mLwAI, mAIwAI, mAJwAI, mARwAI, mNwAJ, mSwAJ, mKwAJ, mIwAJ, mJwAJ, mRwAJ, mLwAJ, mAIwAJ, mAJwAJ, mARwAJ, mNwAR, mSwAR, mKwAR, mIwAR, mJwAR, mRwAR, mLwAR, mAIwAR, mAJwAR, mARwAR, okkwI, okkwJ, okkwR, okkwAI, okkwAJ, okkwAR]
    have g12 : mI G 15 12 = 0 := by rw [hG]; simp [e12, mNwI, mSwI, mKwI, mIwI, mJwI, mRwI, mLwI, mAIwI, mAJwI, mARwI, mNwJ, mSwJ, mKwJ, mIwJ, mJwJ, mRwJ, mLwJ, mAIwJ, mAJwJ, mARwJ, mNwR, mSwR, mKwR, mIwR, mJwR, mRwR, mLwR, mAIwR, mAJwR, mARwR, mNwAI, mSwAI, mKwAI, mIwAI, mJwAI, mRwAI, mLwAI, mAIwAI, mAJwAI, mARwAI, mNwAJ, mSwAJ, mKwAJ, mIwAJ, mJwAJ, mRwAJ, mLwAJ, mAIwAJ, mAJwAJ, mARwAJ, mNwAR, mSwAR, mKwAR, mIwAR, mJwAR, mRwAR, mLwAR, mAIwAR, mAJwAR, mARwAR, okkwI, okkwJ, okkwR, okkwAI, okkwAJ, okkwAR]
    have gA : mAI G = mAI L := by rw [hG]; simp [mNwI, mSwI, mKwI, mIwI, mJwI, mRwI, mLwI, mAIwI, mAJwI, mARwI, mNwJ, mSwJ, mKwJ, mIwJ, mJwJ, mRwJ, mLwJ, mAIwJ, mAJwJ, mARwJ, mNwR, mSwR, mKwR, mIwR, mJwR, mRwR, mLwR, mAIwR, mAJwR, mARwR, mNwAI, mSwAI, mKwAI, mIwAI, mJwAI, mRwAI, mLwAI, mAIwAI, mAJwAI, mARwAI, mNwAJ, mSwAJ, mKwAJ, mIwAJ, mJwAJ, mRwAJ, mLwAJ, mAIwAJ, mAJwAJ, mARwAJ, mNwAR, mSwAR, mKwAR, mIwAR, mJwAR, mRwAR, mLwAR, mAIwAR, mAJwAR, mARwAR, okkwI, okkwJ, okkwR, okkwAI, okkwAJ, okkwAR]
    have gJ : mAJ G = mAJ L := by rw [hG]; simp [mNwI, mSwI, mKwI, mIwI, mJwI, mRwI, mLwI, mAIwI, mAJwI, mARwI, mNwJ, mSwJ, mKwJ, mIwJ, mJwJ, mRwJ, mLwJ, mAIwJ, mAJwJ, mARwJ, mNwR, mSwR, mKwR, mIwR, mJwR, mRwR, mLwR, mAIwR, mAJwR, mARwR, mNwAI, mSwAI, mKwAI, mIwAI, mJwAI, mRwAI, mLwAI, mAIwAI, mAJwAI, mARwAI, mNwAJ, mSwAJ, mKwAJ, mIwAJ, mJwAJ, mRwAJ, mLwAJ, mAIwAJ, mAJwAJ, mARwAJ, mNwAR, mSwAR, mKwAR, mIwAR, mJwAR, mRwAR, mLwAR, mAIwAR, mAJwAR, mARwAR, okkwI, okkwJ, okkwR, okkwAI, okkwAJ, okkwAR]
    clear hG e
    refine ⟨FA, ⟨hn, hs, Nat.zero_le _⟩, fun j hj => ?_, g7, g8, by rw [g9, a6]; exact r0.1, by rw [g10, a6]; exact r0.2.1, fun z1 z2 => by rw [g11, aj]; exact r0.2.2 z1 z2, g12, k0⟩
    unfold TkR
    rw [gA, gJ, a6, aj]
    exact hR j hj
  · have e := adv_bad (M := L) (j := 0) e12 e7 (by decide) (by rw [a6, r0.1]; exact k0)
    have FA := F4.adv
    obtain ⟨G, hG⟩ : ∃ G, G = advF L := ⟨_, rfl⟩
    rw [← hG] at FA ⊢
    rw [e] at hG
    have g7 : mI G 15 7 = Int32.ofNat 1 := by rw [hG]; simp [mNwI, mSwI, mKwI, mIwI, mJwI, mRwI, mLwI, mAIwI, mAJwI, mARwI, mNwJ, mSwJ, mKwJ, mIwJ, mJwJ, mRwJ, mLwJ, mAIwJ, mAJwJ, mARwJ, mNwR, mSwR, mKwR, mIwR, mJwR, mRwR, mLwR, mAIwR, mAJwR, mARwR, mNwAI, mSwAI, mKwAI, mIwAI, mJwAI, mRwAI, mLwAI, mAIwAI, mAJwAI, mARwAI, mNwAJ, mSwAJ, mKwAJ, mIwAJ, mJwAJ, mRwAJ, mLwAJ, mAIwAJ, mAJwAJ, mARwAJ, mNwAR, mSwAR, mKwAR, mIwAR, mJwAR, mRwAR, mLwAR, mAIwAR, mAJwAR, mARwAR, okkwI, okkwJ, okkwR, okkwAI, okkwAJ, okkwAR]
    have g9 : mI G 15 9 = 0 := by rw [hG]; simp [mNwI, mSwI, mKwI, mIwI, mJwI, mRwI, mLwI, mAIwI, mAJwI, mARwI, mNwJ, mSwJ, mKwJ, mIwJ, mJwJ, mRwJ, mLwJ, mAIwJ, mAJwJ, mARwJ, mNwR, mSwR, mKwR, mIwR, mJwR, mRwR, mLwR, mAIwR, mAJwR, mARwR, mNwAI, mSwAI, mKwAI, mIwAI, mJwAI, mRwAI, mLwAI, mAIwAI, mAJwAI, mARwAI, mNwAJ, mSwAJ, mKwAJ, mIwAJ, mJwAJ, mRwAJ, mLwAJ, mAIwAJ, mAJwAJ, mARwAJ, mNwAR, mSwAR, mKwAR, mIwAR, mJwAR, mRwAR, mLwAR, mAIwAR, mAJwAR, mARwAR, okkwI, okkwJ, okkwR, okkwAI, okkwAJ, okkwAR]
    have g12 : mI G 15 12 = 1 := by rw [hG]; simp [mNwI, mSwI, mKwI, mIwI, mJwI, mRwI, mLwI, mAIwI, mAJwI, mARwI, mNwJ, mSwJ, mKwJ, mIwJ, mJwJ, mRwJ, mLwJ, mAIwJ, mAJwJ, mARwJ, mNwR, mSwR, mKwR, mIwR, mJwR, mRwR, mLwR, mAIwR, mAJwR, mARwR, mNwAI, mSwAI, mKwAI, mIwAI, mJwAI, mRwAI, mLwAI, mAIwAI, mAJwAI, mARwAI, mNwAJ, mSwAJ, mKwAJ, mIwAJ, mJwAJ, mRwAJ, mLwAJ, mAIwAJ, mAJwAJ, mARwAJ, mNwAR, mSwAR, mKwAR, mIwAR, mJwAR, mRwAR, mLwAR, mAIwAR, mAJwAR, mARwAR, okkwI, okkwJ, okkwR, okkwAI, okkwAJ, okkwAR]
    have g13 : mI G 15 13 = mAI L 17 0 := by rw [hG]; simp [mNwI, mSwI, mKwI, mIwI, mJwI, mRwI, mLwI, mAIwI, mAJwI, mARwI, mNwJ, mSwJ, mKwJ, mIwJ, mJwJ, mRwJ, mLwJ, mAIwJ, mAJwJ, mARwJ, mNwR, mSwR, mKwR, mIwR, mJwR, mRwR, mLwR, mAIwR, mAJwR, mARwR, mNwAI, mSwAI, mKwAI, mIwAI, mJwAI, mRwAI, mLwAI, mAIwAI, mAJwAI, mARwAI, mNwAJ, mSwAJ, mKwAJ, mIwAJ, mJwAJ, mRwAJ, mLwAJ, mAIwAJ, mAJwAJ, mARwAJ, mNwAR, mSwAR, mKwAR, mIwAR, mJwAR, mRwAR, mLwAR, mAIwAR, mAJwAR, mARwAR, okkwI, okkwJ, okkwR, okkwAI, okkwAJ, okkwAR]
    clear hG e
    exact ⟨FA, by rw [g7]; decide, g12, by decide, by rw [g13, a6]; exact r0.2.1, g9⟩
/-- what looking for late faults needs -/
def LtI (n0 pb : Nat) (ps : List Nat) (A : Nat → Nat → Int32) (M : Mem) : Prop := Fix M ∧ mR M 14 7 = some n0 ∧ ok M n0 3 ∧ mR M n0 6 = some (n0 + 7) ∧ ALp M (n0 + 7) pb 5 ps ∧ ps.length ≤ 40 ∧ ∀ j, j < ps.length → ok M (ps.getD j 0) 5 ∧ mI M (ps.getD j 0) 2 = A j 2 ∧ mI M (ps.getD j 0) 0 = A j 0
theorem LtI.tok {pb : Nat} {ps : List Nat} {A : Nat → Nat → Int32} (hL : LtI n0 pb ps A M) (k : TFr M M') (hn : 132 ≤ n0) : LtI n0 pb ps A M' := by
  obtain ⟨h1, h2, h3, h4, h5, h6, h7⟩ := hL
  have o15 : mK M 15 = 9 := (ok15 h1).2
  refine ⟨k.fix h1, by rw [k.2.2.2.2.1]; exact h2, ok_E h3 k.e, by rw [k.2.2.2.2.1]; exact h4, alp_fr3 h5 k.fr (fun z => by omega) (fun o24 z => ?_), h6, fun j hj => ?_⟩
  · have := o24.2
    rw [show pb = 15 from z, o15] at this
    exact absurd this (by decide)
  · obtain ⟨a1, a2, a3⟩ := h7 j hj
    have ne : ps.getD j 0 ≠ 15 := fun z => by
      have := a1.2
      rw [z, o15] at this
      exact absurd this (by decide)
    rw [(k.row ne).1]
    exact ⟨ok_E a1 k.e, a2, a3⟩
theorem late_stop {pb j : Nat} {ps : List Nat} {A : Nat → Nat → Int32} (hL : LtI n0 pb ps A M) (hf : mI M 15 12 ≠ 0) (H : Q none M) : T (h + 2) mdX4_findLateFault 2 [(0, .ref 14), (1, .int (Int32.ofNat j))] [] M Q := by
  obtain ⟨F, h2, h3, h4, h5, h6, h7⟩ := hL
  refine VX4_findLateFault_2 ?_
  unfold DX4_findLateFault_2 DX4_findLateFault_69
  exact ⟨ok14 F, n0, h2, h3, n0 + 7, h4, h5.1, S_alSize h5 (fun _ => ⟨_, rfl, fun _ => H, fun _ => ⟨15, rf14_0 F, ok15 F, fun _ => H, fun z => absurd z hf⟩⟩)⟩
theorem late_loop {pb : Nat} {ps : List Nat} {A : Nat → Nat → Int32} (hn : 132 ≤ n0) (hL : LtI n0 pb ps A M) (hf : mI M 15 12 = 0) (H0 : (∀ j, j < ps.length → A j 2 = 0) → Q none M) (H1 : ∀ j, j < ps.length → A j 2 ≠ 0 → (∀ q, q < j → A q 2 = 0) → ∀ M', Fix M' → mI M' 15 12 = A j 2 → mI M' 15 13 = A j 0 → TFr M M' → Q none M') : ∀ k j, j + k = ps.length → (∀ q, q < j → A q 2 = 0) → T (h + 4) mdX4_findLateFault 2 [(0, .ref 14), (1, .int (Int32.ofNat j))] [] M Q := by
  obtain ⟨F, h2, h3, h4, h5, h6, h7⟩ := id hL
  intro k
  induction k with
  | zero =>
    intro j hj hz
    refine VX4_findLateFault_2 ?_
    unfold DX4_findLateFault_2 DX4_findLateFault_69
    refine ⟨ok14 F, n0, h2, h3, n0 + 7, h4, h5.1, S_alSize h5 (fun _ => ⟨_, rfl, fun _ => H0 (fun q hq => hz q (by omega)), fun z => absurd ((le32 (by omega) (by omega)).mpr (by omega)) z⟩)⟩
  | succ k ih =>
    intro j hj hz
    have hjl : j < ps.length := by omega
    obtain ⟨a1, a2, a3⟩ := h7 j hjl
    refine VX4_findLateFault_2 ?_
    unfold DX4_findLateFault_2 DX4_findLateFault_69
    refine ⟨ok14 F, n0, h2, h3, n0 + 7, h4, h5.1, S_alSize h5 (fun _ => ⟨_, rfl, fun z => absurd ((le32 (by omega) (by omega)).mp z) (by omega), fun _ => ⟨15, rf14_0 F, ok15 F, fun z => absurd hf z, fun _ => ⟨n0, h2, h3, n0 + 7, h4, h5.1, S_get h5 hjl (fun _ => ⟨_, rfl, a1, fun z => ?_, fun z => ⟨15, rf14_0 F, ok15 F, ?_⟩⟩)⟩⟩⟩)⟩
    · unfold DX4_findLateFault_63
      rw [succ32]
      rw [a2] at z
      exact ih (j + 1) (by omega) (fun q hq => by
        by_cases w : q = j
        · rw [w]; exact z
        · exact hz q (by omega))
    · rw [a2] at z ⊢
      rw [a3]
      refine S_failAt F (fun _ => ⟨rfl, ?_⟩)
      have kf : TFr M (failF (wI M 15 10 (A j 0)) (A j 2)) := TFr.i.tr TFr.fail
      have v12 : mI (failF (wI M 15 10 (A j 0)) (A j 2)) 15 12 = A j 2 := by
        unfold failF
        have q : mI (wI M 15 10 (A j 0)) 15 12 = 0 := by rw [mI_wI, if_neg (by decide)]; exact hf
        rw [if_pos q, mI_wI, if_neg (by decide), mI_wI, if_neg (by decide), mI_wI, if_pos ⟨rfl, rfl⟩]
      have v13 : mI (failF (wI M 15 10 (A j 0)) (A j 2)) 15 13 = A j 0 := by
        unfold failF
        have q : mI (wI M 15 10 (A j 0)) 15 12 = 0 := by rw [mI_wI, if_neg (by decide)]; exact hf
        rw [if_pos q, mI_wI, if_neg (by decide), mI_wI, if_pos ⟨rfl, rfl⟩, mI_wI, if_pos ⟨rfl, rfl⟩]
      unfold DX4_findLateFault_63
      rw [succ32]
      exact late_stop (h := h + 2) (hL.tok kf hn) (by rw [v12]; exact z) (H1 j hjl z hz _ (kf.fix F) v12 v13 kf)
theorem S_late {pb : Nat} {ps : List Nat} {A : Nat → Nat → Int32} (hn : 132 ≤ n0) (hL : LtI n0 pb ps A M) (hf : mI M 15 12 = 0) (H0 : (∀ j, j < ps.length → A j 2 = 0) → Q none M) (H1 : ∀ j, j < ps.length → A j 2 ≠ 0 → (∀ q, q < j → A q 2 = 0) → ∀ M', Fix M' → mI M' 15 12 = A j 2 → mI M' 15 13 = A j 0 → TFr M M' → Q none M') : E (h + 4) mdX4_findLateFault [.ref 14] M Q := by
  refine KX4_findLateFault ?_
  unfold DX4_findLateFault_0
  exact late_loop (h := h) hn hL hf H0 H1 ps.length 0 (Nat.zero_add _) (fun q hq => absurd hq (Nat.not_lt_zero _))
theorem S_lateX {pb : Nat} {ps : List Nat} {A : Nat → Nat → Int32} (hL : LtI n0 pb ps A M) (hf : mI M 15 12 ≠ 0) (H : Q none M) : E (h + 2) mdX4_findLateFault [.ref 14] M Q := by
  refine KX4_findLateFault ?_
  unfold DX4_findLateFault_0
  exact late_stop (j := 0) hL hf H
end
end
section
/-! the class reads a text -/
/-- the whole reading, in the middle -/
def rdM (b : Nat → Int32) (n m : Nat) (A : Nat → Nat → Int32) (B : Nat → Int64) (Z : Nat → Nat → Int32) : Except (Int32 × Nat) (Nat × Td × PS × Nat) := if tK b n 0 = 0 then .error (1, tP b n 0) else (td b n 900 0 td0).bind fun r => (rdQ b n m r.2 r.1 (σI A B (cl0 Z r.2))).bind fun q => .ok (q.1, r.2, q.2.1, q.2.2)
/-- all but the tokens', the tree's and the reader's own cells stays -/
abbrev FrC (M M' : Mem) : Prop := fr (fun c => (4 ≤ c ∧ c ≤ 18) ∨ c = 20) M M'
/-- a module once its text is read without a fault: M0 as it was when the parts began -/
def CRd (b : Nat → Int32) (n s : Nat) (τ : Td) (M M0 M2 : Mem) (i : Nat) (σ : PS) (ps : List Nat) : Prop := CS b n s (mN M) τ M0 M2 i 0 σ.2.1 σ.1.1 ps [] ∧ (∃ lc rc, CT (mN M) τ M0 lc rc) ∧ MdN (mN M) M0 ∧ FrC M M0 ∧ mN M0 ≤ mN M + 57 ∧ (∃ lc, mS M0 ≤ mS M + mS cpC + 4 * mL M0 lc ∧ mL M0 lc ≤ 64 + 2 * 18)
/-- what the room has come to -/
def RmC (n : Nat) (M M' : Mem) : Prop := ∃ (τ : Td) (M0 M2 : Mem) (γ : ClT) (cn : Nat → Nat) (ps : List Nat) (tl : List Int64) (lc : Nat), CQ (mN M) τ M0 M2 γ cn ps tl ∧ γ.2.2.1.length ≤ n + 90 ∧ γ.2.2.2.2.2.1.length ≤ 4 * n + 300 ∧ γ.2.2.2.2.1.length ≤ 55 ∧ (mN M' = mN M2 ∧ mS M' = mS M2) ∧ mN M0 ≤ mN M + 57 ∧ mS M0 ≤ mS M + mS cpC + 4 * mL M0 lc ∧ mL M0 lc ≤ 64 + 2 * 18
/-- behind a fault -/
def CRx (n : Nat) (M M' : Mem) (f v : Int32) : Prop := Fix M' ∧ mI M' 15 12 = f ∧ f ≠ 0 ∧ mI M' 15 13 = v ∧ FrC M M' ∧ RmC n M M' ∧ mAI M' 5 0 = 0
section
variable {b : Nat → Int32} {n s n0 m : Nat} {τ : Td} {M Mz M0 M1 M2 M' : Mem} {i o h : Nat} {Q : Option Value → Mem → Prop} {lc rc lc' rc' L L' : Nat}
theorem MdN.fr (hM : MdN n0 M) (k : fr (fun c => c = 15 ∨ (n0 ≤ c ∧ c ≤ n0 + 6) ∨ c = n0 + 8 ∨ c = n0 + 20 ∨ c = lc ∨ c = rc) M M') (hn : 132 ≤ n0) (hN : n0 + 25 ≤ mN M) (h1 : lc = n0 + 9 ∨ n0 + 25 ≤ lc) (h2 : rc = n0 + 10 ∨ n0 + 25 ≤ rc) (hr : mR M' n0 = mR M n0) (hi : ∀ f, f ≠ 4 → mI M' (n0 + 8) f = mI M (n0 + 8) f) (hR : ∀ f, f ≠ 0 → f ≠ 1 → mR M' (n0 + 8) f = mR M (n0 + 8) f) (kl : mK M lc = 21) (kr : mK M rc = 21) (k6 : ∀ c, n0 ≤ c → c ≤ n0 + 6 → mK M c ≠ 24 ∧ mK M c ≠ 0) (k15 : mK M 15 = 9) (k8 : mK M (n0 + 8) = 2) (k20 : mK M (n0 + 20) = 21) : MdN n0 M' := by
  obtain ⟨⟨a1, a2⟩, ⟨a3, a4⟩, a5, ⟨b1, b2, b3⟩, ⟨b4, b5, b6, b7⟩, ⟨b8, b9⟩, ⟨c1, c2, c3⟩, ⟨c4, c5, c6⟩, ⟨c7, c8, c9⟩, d1⟩ := hM
  have row : ∀ c, n0 + 11 ≤ c → c < n0 + 25 → c ≠ n0 + 20 → sameRow M M' c := fun c z1 z2 z3 => k.2 c (by omega) (by omega)
  have ln : ∀ c, c < mN M → mL M' c = mL M c := fun c hc => (k.1.2.2 c hc).2
  have S0 : ∀ c, c < mN M → (c = 15 ∨ (n0 ≤ c ∧ c ≤ n0 + 6) ∨ c = n0 + 8 ∨ c = n0 + 20 ∨ c = lc ∨ c = rc) → mK M c ≠ 0 := by
    intro c _ z
    rcases z with z | z | z | z | z | z
    · rw [z, k15]; decide
    · exact (k6 c z.1 z.2).2
    · rw [z, k8]; decide
    · rw [z, k20]; decide
    · rw [z, kl]; decide
    · rw [z, kr]; decide
  have S24 : mK M (mBig + 5) = 24 → ¬ ((mBig + 5) = 15 ∨ (n0 ≤ (mBig + 5) ∧ (mBig + 5) ≤ n0 + 6) ∨ (mBig + 5) = n0 + 8 ∨ (mBig + 5) = n0 + 20 ∨ (mBig + 5) = lc ∨ (mBig + 5) = rc) := by
    intro e z
    rcases z with z | z | z | z | z | z
    · rw [z, k15] at e; exact absurd e (by decide)
    · exact (k6 _ z.1 z.2).1 e
    · rw [z, k8] at e; exact absurd e (by decide)
    · rw [z, k20] at e; exact absurd e (by decide)
    · rw [z, kl] at e; exact absurd e (by decide)
    · rw [z, kr] at e; exact absurd e (by decide)
  refine ⟨⟨a1.fr k (by omega) S24 S0, by rw [hR 5 (by decide) (by decide)]; exact a2⟩, ⟨a3.fr k (by omega) S24 S0, by rw [hR 6 (by decide) (by decide)]; exact a4⟩, fun c hc => ?_, ⟨by rw [hR 9 (by decide) (by decide)]; exact b1, by rw [hR 10 (by decide) (by decide)]; exact b2, by rw [hR 11 (by decide) (by decide)]; exact b3⟩, ⟨by rw [hR 14 (by decide) (by decide)]; exact b4, ok_E b5 k.1, (ln _ b5.1).trans b6, fun q => by rw [(row (n0 + 21) (by omega) (by omega) (by omega)).2.2.2.1]; exact b7 q⟩, ⟨by rw [hi 12 (by decide)]; exact b8, by rw [hi 15 (by decide)]; exact b9⟩, ⟨by rw [hR 2 (by decide) (by decide)]; exact c1, ok_E c2 k.1, (ln _ c2.1).trans c3⟩, ⟨by rw [hR 3 (by decide) (by decide)]; exact c4, ok_E c5 k.1, (ln _ c5.1).trans c6⟩, ⟨by rw [(row (n0 + 22) (by omega) (by omega) (by omega)).2.2.1]; exact c7, ok_E c8 k.1, (ln _ c8.1).trans c9⟩, by rw [hr]; exact d1.1, fun c q c1 c2 => by rw [(row (n0 + c) (by omega) (by omega) (by omega)).2.2.2.1]; exact d1.2 c q c1 c2⟩
  exact ⟨ok_E (a5 c hc).1 k.1, (ln _ (a5 c hc).1.1).trans (a5 c hc).2⟩
/-- from what is told to the first part: the state -/
theorem CQ_init {Zt : Nat → Nat → Int32} (F : Fix M) (hC : CT n0 τ M lc rc) (hS : SumP M (n0 + 22) (n0 + 23) []) (hA : ALp M (n0 + 7) (mBig + 5) 5 []) (hI : ALi M (n0 + 15) (mBig + 5) []) (hr : mR M n0 6 = some (n0 + 7) ∧ mR M n0 8 = some (n0 + 22) ∧ mR M (n0 + 8) 7 = some (n0 + 15)) (hf : mI M n0 14 = 0 ∧ mI M n0 15 = 0) (h14 : mI M 14 3 = 0 ∧ mI M 14 4 = 0 ∧ mI M 14 5 = 0 ∧ mI M 14 6 = 0) (h4 : mI M 4 9 = 1 ∧ mI M 4 10 = 0) (hZ : ∀ c, 5 ≤ c → c ≤ 13 → mAI M c = Zt c) (hN : mN M ≤ 1000000) (hZ0 : Zt 5 0 = 0) : CQ n0 τ M M (cl0 Zt τ) (fun _ => 0) [] [] := by
  obtain ⟨l1, l2, l3, l4, l5, l6, l7, l8⟩ := hC.lim
  refine ⟨lc, rc, n0 + 23, mBig + 5, mBig + 5, hC.1, ⟨hS, Or.inl rfl, by omega, by omega⟩, ⟨h4.1, h4.2, ⟨Nat.le_refl _, show (1 : Nat) ≤ 640 by decide⟩, hZ, fun j z1 z2 => ?_, hZ0⟩, ⟨hA, hI, Or.inl rfl, Or.inl rfl, fun _ => rfl, ⟨fun j hj => absurd hj (Nat.not_lt_zero _), fun i j hi => absurd hi (Nat.not_lt_zero _)⟩⟩, ⟨⟨h14.1, Nat.zero_le _, fun j hj => absurd hj (Nat.not_lt_zero _)⟩, h14.2.1, h14.2.2.1, h14.2.2.2, hf.1, hf.2⟩, FrQ.rf, ⟨?_, ?_, hN⟩, hr, ⟨rfl, Nat.zero_le _, Nat.zero_le _⟩⟩
  · have z2 : j < 1 := z2
    omega
  · omega
  · omega
end
end
section
/-! the class reads a text: the end of it -/
section
variable {b : Nat → Int32} {n s n0 m : Nat} {τ : Td} {M Mz M0 M1 M2 M' : Mem} {i o h : Nat} {Q : Option Value → Mem → Prop} {γ : ClT} {cn : Nat → Nat} {ps : List Nat} {tl : List Int64} {f v : Int32}
theorem CQ.lti {q : Nat} (hC : CQ n0 τ M0 M γ cn ps tl) (F : Fix M) (e : M' = wI M n0 q v) : ∃ pb, LtI n0 pb ps γ.1 M' := by
  have N := hC.nz
  have L := hC.len
  obtain ⟨lc, rc, cc, pb, ib, h⟩ := id hC
  have kf : fr (fun c => c = n0) M M' := by rw [e]; exact fr_wI (S := fun c => c = n0) rfl
  have eR : mR M' = mR M := by rw [e]; rfl
  refine ⟨pb, by rw [e]; exact F.i, by rw [eR]; exact N.2.2.2.2.2.1, ok_E N.2.2.1 kf.1, by rw [eR]; exact N.2.2.2.2.2.2.2.1, alp_fr3 h.2.2.2.1.1 kf (fun z => by omega) (fun o24 z => ?_), by omega, fun j hj => ?_⟩
  · have := o24.2
    rw [show pb = n0 from z, N.2.2.1.2] at this
    exact absurd this (by decide)
  · obtain ⟨a1, a2, a3⟩ := hC.part hj
    have ne : ps.getD j 0 ≠ n0 := by omega
    rw [(kf.2 _ a1.1 ne).1]
    exact ⟨ok_E a1 kf.1, a3 2 (by decide), a3 0 (by decide)⟩
/-- the end of the reading, behind a fault -/
theorem R81x {pb : Nat} {A : Nat → Nat → Int32} (hn : 132 ≤ n0) (hL : LtI n0 pb ps A M) (hf : mI M 15 12 ≠ 0) (H : ∀ M', M' = wI M n0 13 (mI M 4 10) → Q (some .null) M') : DX4_read_81 (h + 2) 14 M Q := by
  have F := hL.1
  unfold DX4_read_81 DX4_read_117
  refine ⟨ok14 F, S_lateX hL hf (fun _ => ⟨rfl, n0, hL.2.1, 4, rf14_1 F, ok4 F, hL.2.2.1, fun M7 e7 => ?_⟩)⟩
  have F7 : Fix M7 := by rw [e7]; exact F.i
  have f7 : mI M7 15 12 = mI M 15 12 := by rw [e7, mI_wI, if_neg (by omega)]
  exact ⟨15, rf14_0 F7, ok15 F7, fun _ => H M7 e7, fun z => absurd (f7.symm.trans z) hf⟩
/-- .. and without one so far -/
theorem R81 {pb : Nat} {A : Nat → Nat → Int32} (hn : 132 ≤ n0) (hL : LtI n0 pb ps A M) (hf : mI M 15 12 = 0) (H0 : (∀ j, j < ps.length → A j 2 = 0) → ∀ M', M' = wI M n0 13 (mI M 4 10) → Q (some (.ref n0)) M') (H1 : ∀ j, j < ps.length → A j 2 ≠ 0 → (∀ q, q < j → A q 2 = 0) → ∀ M1 M', Fix M1 → mI M1 15 12 = A j 2 → mI M1 15 13 = A j 0 → TFr M M1 → M' = wI M1 n0 13 (mI M1 4 10) → Q (some .null) M') : DX4_read_81 (h + 4) 14 M Q := by
  have F := hL.1
  unfold DX4_read_81 DX4_read_117
  refine ⟨ok14 F, S_late hn hL hf (fun hz _ => ⟨rfl, n0, hL.2.1, 4, rf14_1 F, ok4 F, hL.2.2.1, fun M7 e7 => ?_⟩) (fun j hj h2 hz M1 F1 v12 v13 k1 _ => ⟨rfl, ?_⟩)⟩
  · have F7 : Fix M7 := by rw [e7]; exact F.i
    have f7 : mI M7 15 12 = mI M 15 12 := by rw [e7, mI_wI, if_neg (by omega)]
    have r7 : mR M7 14 7 = some n0 := by rw [e7]; exact hL.2.1
    exact ⟨15, rf14_0 F7, ok15 F7, fun z => absurd (f7.trans hf) z, fun _ => ⟨n0, r7, H0 hz M7 e7⟩⟩
  · have L1 := hL.tok k1 hn
    refine ⟨n0, L1.2.1, 4, rf14_1 F1, ok4 F1, L1.2.2.1, fun M7 e7 => ?_⟩
    have F7 : Fix M7 := by rw [e7]; exact F1.i
    have f7 : mI M7 15 12 = mI M1 15 12 := by rw [e7, mI_wI, if_neg (by omega)]
    exact ⟨15, rf14_0 F7, ok15 F7, fun _ => H1 j hj h2 hz M1 M7 F1 v12 v13 k1 e7, fun z => absurd ((v12.symm.trans f7.symm).trans z) h2⟩
end
end
section
/-! the class reads a text: all of it -/
def EndCR (b : Nat → Int32) (n : Nat) (M : Mem) (Q : Option Value → Mem → Prop) (R : Except (Int32 × Nat) (Nat × Td × PS × Nat)) : Prop := match R with
  | .error e => ∀ M', CRx n M M' e.1 (Int32.ofNat e.2) → Q (some .null) M'
  | .ok r => ∀ s M0 M2 ps, Sto b n s → CRd b n s r.2.1 M M0 M2 r.1 r.2.2.1 ps → ((∀ j, j < ps.length → r.2.2.1.2.1.1 j 2 = 0) → ∀ M', M' = wI (wI M2 (mN M) 16 (Int32.ofNat r.2.2.2)) (mN M) 13 (Int32.ofNat (trS r.2.2.1).2.1) → Q (some (.ref (mN M))) M') ∧ ∀ j, j < ps.length → r.2.2.1.2.1.1 j 2 ≠ 0 → (∀ q, q < j → r.2.2.1.2.1.1 q 2 = 0) → ∀ M', CRx n M M' (r.2.2.1.2.1.1 j 2) (r.2.2.1.2.1.1 j 0) → Q (some .null) M'
/-- what stands behind what is told -/
def TRd (h n0 : Nat) (Q : Option Value → Mem → Prop) (M16 : Mem) : Prop := ∃ b17 : Nat, mR M16 14 7 = some b17 ∧ E h mdX4_readSeq [.ref 14, .int 0] M16 (fun r M18 => mE M16 M18 → ∃ r19 : Int32, r = some (.int r19) ∧ ok M18 b17 3 ∧ ∀ M21, M21 = wI M18 b17 16 r19 → ∃ b22 : Nat, mR M21 14 0 = some b22 ∧ ok M21 b22 9 ∧ ((mI M21 b22 9) = 1 → DX4_read_81 h 14 M21 Q) ∧ (¬ ((mI M21 b22 9) = 1) → ∃ b24 : Nat, mR M21 14 0 = some b24 ∧ ok M21 b24 9 ∧ E h mdX7_fail [.ref b24, .int 2] M21 (fun r M26 => mE M21 M26 → r = none ∧ DX4_read_81 h 14 M26 Q)))
section
variable {b : Nat → Int32} {n s m : Nat} {τ : Td} {M M0 M2 M' : Mem} {i o h : Nat} {Q : Option Value → Mem → Prop} {γ : ClT} {cn : Nat → Nat} {ps : List Nat} {tl : List Int64} {f v : Int32} {p : Nat}
/-- what is known when the parts begin -/
def RdB (n : Nat) (M M0 : Mem) : Prop := FrC M M0 ∧ mN M0 ≤ mN M + 57 ∧ ∃ lc, mS M0 ≤ mS M + mS cpC + 4 * mL M0 lc ∧ mL M0 lc ≤ 64 + 2 * 18
theorem FrC.q (hF : FrC M M0) (k : FrQ (mN M) M0 M2) : FrC M M2 := hF.tr k.1 (fun a ha z => by omega)
theorem FrC.w (hF : FrC M M2) {q : Nat} (e : M' = wI M2 (mN M) q v) : FrC M M' := by
  rw [e]
  exact hF.tr (fr_wI (S := fun c => c = mN M) rfl) (fun a ha z => by omega)
theorem CRx.of {W B t : Nat} (hb : RdB n M M0) (hs : s ≤ n) (X : CX (mN M) τ M0 (s + 70) B M2 f p ps tl t) (hB : B ≤ 10) {q1 q2 : Nat} {v1 v2 : Int32} (e : M' = wI (wI M2 (mN M) q1 v1) (mN M) q2 v2) : CRx n M M' f (Int32.ofNat p) := by
  obtain ⟨hT, γ, cn, hQ, h3, h4, h5, h6, h7⟩ := X
  have N := hQ.nz
  obtain ⟨lc, rc, cc, pb, ib, hq⟩ := id hQ
  have fr2 := hb.1.q hq.2.2.2.2.2.1
  have e15 : mI M' 15 = mI M2 15 := by
    rw [e]
    have g : (15 : Nat) ≠ mN M := by omega
    funext y
    rw [mI_wI, if_neg (fun z => g z.1), mI_wI, if_neg (fun z => g z.1)]
  obtain ⟨lc0, r1, r2⟩ := hb.2.2
  refine ⟨by rw [e]; exact hT.1.i.i, by rw [e15]; exact hT.2.2.1, hT.2.2.2.1, by rw [e15]; exact hT.2.2.2.2.1, (fr2.w rfl).w e, ⟨τ, M0, M2, γ, cn, ps, tl, lc0, hQ, by omega, by omega, by omega, ⟨by rw [e]; rfl, by rw [e]; rfl⟩, hb.2.1, r1, r2⟩, ?_⟩
  have tz := hq.2.2.1
  rw [e]
  show mAI M2 5 0 = 0
  rw [tz.2.2.2.1 5 (by decide) (by decide)]
  exact tz.2.2.2.2.2
/-- behind a fault among what is told, or at the first token -/
theorem TRd_x {t : Nat} (hb : RdB n M M0) (hs : s ≤ n) (X : CX (mN M) τ M0 (s + 70) 0 M0 f p ps [] t) (H : ∀ M', CRx n M M' f (Int32.ofNat p) → Q (some .null) M') : TRd (h + 6) (mN M) Q M0 := by
  have N := X.nz
  refine ⟨mN M, N.2.2.2.2.2.1, V_seq X (fun M18 w t18 X18 _ _ _ => ⟨_, rfl, X18.nz.2.2.1, fun M21 e21 => ?_⟩)⟩
  have T21 : TF M21 f p := TF_hi X18.1 (by rw [e21]; exact fr_wI (S := fun c => 132 ≤ c) N.1)
  have F21 := T21.1
  obtain ⟨pb, A, hL⟩ : ∃ pb A, LtI (mN M) pb ps A M21 := by
    obtain ⟨h1, γ, cn, h2, h3⟩ := X18
    obtain ⟨pb, hL⟩ := h2.lti h1.1 e21
    exact ⟨pb, _, hL⟩
  refine ⟨15, rf14_0 F21, ok15 F21, fun z => absurd z (by rw [T21.2.2.2.2.2]; decide), fun _ => ⟨15, rf14_0 F21, ok15 F21, F_fail T21 (fun _ => ⟨rfl, R81x (h := h + 4) N.1 hL (by rw [T21.2.2.1]; exact T21.2.2.2.1) (fun M' e' => H M' ?_)⟩)⟩⟩
  rw [e21] at e'
  exact CRx.of (W := 0) hb hs X18 (by decide) e'
theorem TRd_ok {A : Nat → Nat → Int32} {B : Nat → Int64} {Zt : Nat → Nat → Int32} {H : Nat} (hB : By b) (hS : Sto b n s) (hb : RdB n M M0) (hct : ∃ lc rc, CT (mN M) τ M0 lc rc) (hmd : MdN (mN M) M0) (hC : CS b n s (mN M) τ M0 M0 i 0 (cl0 Zt τ) (fun _ => 0) [] []) (hH : 210 ≤ H) (hE : EndCR b n M Q ((rdQ b n m τ i (σI A B (cl0 Zt τ))).bind fun q => .ok (q.1, τ, q.2.1, q.2.2))) : TRd H (mN M) Q M0 := by
  obtain ⟨H, rfl⟩ : ∃ H', H = H' + 204 + 6 := ⟨H - 210, by omega⟩
  have N := hC.2.1.nz
  have hs : s ≤ n := hS.1
  have hn : n ≤ 800 := hS.2.1
  have C0 : CS b n s (mN M) τ M0 M0 i ([] : List KE).length (σI A B (cl0 Zt τ)).2.1 (σI A B (cl0 Zt τ)).1.1 [] (tlK []) := hC.cnt rfl rfl rfl rfl
  refine ⟨mN M, N.2.2.2.2.2.1, ?_⟩
  have hk : hK [] ≤ H + 204 + 6 := by show 100 + 6 * (16 - 0) ≤ _; omega
  have i0 : tK b n i ≠ 0 := hC.1.2.2.2.2.2.2.2.2.2
  refine (C_rp (m := m) hB hS 6000).1 [] i (σI A B (cl0 Zt τ)) 0 0 0 0 0 0 M0 [] (H + 204 + 6) _ σI_ok C0 hk (by omega) ?_
  unfold rdQ at hE
  cases e : rp b n m τ 6000 0 [] i (σI A B (cl0 Zt τ)) 0 0 0 0 0 0 with
  | error y =>
    rw [e] at hE
    intro M18 ps18 w t18 X18 _ _ _ _
    refine ⟨_, rfl, X18.nz.2.2.1, fun M21 e21 => ?_⟩
    have T21 : TF M21 y.1 y.2 := TF_hi X18.1 (by rw [e21]; exact fr_wI (S := fun c => 132 ≤ c) N.1)
    have F21 := T21.1
    obtain ⟨pb, A1, hL⟩ : ∃ pb A, LtI (mN M) pb ps18 A M21 := by
      obtain ⟨h1, γ, cn, h2, h3⟩ := X18
      obtain ⟨pb, hL⟩ := h2.lti h1.1 e21
      exact ⟨pb, _, hL⟩
    refine ⟨15, rf14_0 F21, ok15 F21, fun z => absurd z (by rw [T21.2.2.2.2.2]; decide), fun _ => ⟨15, rf14_0 F21, ok15 F21, F_fail T21 (fun _ => ⟨rfl, R81x (h := H + 208) N.1 hL (by rw [T21.2.2.1]; exact T21.2.2.2.1) (fun M' e' => hE M' ?_)⟩)⟩⟩
    rw [e21] at e'
    exact CRx.of (W := 0) hb hs X18 (by decide) e'
  | ok q =>
    rw [e] at hE
    have hE : EndCR b n M Q ((if tK b n q.1 = 1 then .ok q else .error (2, tP b n q.1) : Except (Int32 × Nat) (Nat × PS × Nat)).bind fun q => .ok (q.1, τ, q.2.1, q.2.2)) := hE
    intro M18 ps18 C18 _ _
    have C18 : CS b n s (mN M) τ M0 M18 q.1 0 q.2.1.2.1 q.2.1.1.1 ps18 [] := C18
    have F18 := C18.1.1
    refine ⟨_, rfl, C18.2.1.nz.2.2.1, fun M21 e21 => ?_⟩
    have hi21 : fr (fun c => 132 ≤ c) M18 M21 := by rw [e21]; exact fr_wI (S := fun c => 132 ≤ c) N.1
    have T21 := TI_hi C18.1 hi21
    have F21 := T21.1
    obtain ⟨pb, hL⟩ := C18.2.1.lti F18 e21
    have g15 : (15 : Nat) ≠ mN M := by have := N.1; omega
    have g4 : (4 : Nat) ≠ mN M := by have := N.1; omega
    refine ⟨15, rf14_0 F21, ok15 F21, fun z => ?_, fun z => ⟨15, rf14_0 F21, ok15 F21, A_fail T21 (by decide) (fun M26 T26 k26 _ => ⟨rfl, ?_⟩)⟩⟩
    · rw [T21.kind] at z
      rw [if_pos z] at hE
      have hd : CRd b n s τ M M0 M18 q.1 q.2.1 ps18 := ⟨C18, hct, hmd, hb.1, hb.2.1, hb.2.2⟩
      obtain ⟨E0, E1⟩ := hE s M0 M18 ps18 hS hd
      have e10 : mI M21 4 10 = Int32.ofNat (trS q.2.1).2.1 := by rw [e21, mI_wI, if_neg (fun y => g4 y.1)]; exact C18.2.1.trp.2.1
      refine R81 (h := H + 206) N.1 hL T21.2.2.2.2.2.2.2.2.1 (fun hz M' e' => E0 hz M' (by rw [e', e10, e21])) (fun j hj h2 hz M1 M' F1 v12 v13 k1 e' => E1 j hj h2 hz M' ?_)
      have N1 : mN M1 = mN M18 := by rw [k1.1, e21]; rfl
      obtain ⟨lc, rc, cc, pb2, ib, hq⟩ := id C18.2.1
      have fr2 := hb.1.q hq.2.2.2.2.2.1
      have frM1 : FrC M M1 := (fr2.w e21).tr k1.fr (fun a ha z => by omega)
      have e15 : mI M' 15 = mI M1 15 := by
        rw [e']
        funext y
        rw [mI_wI, if_neg (fun z => g15 z.1)]
      obtain ⟨lc0, r1, r2⟩ := hb.2.2
      have l1 := C18.2.2.1
      have l2 := C18.2.2.2.1
      have l3 := C18.2.2.2.2
      have ll := C18.len
      refine ⟨by rw [e']; exact F1.i, by rw [e15]; exact v12, h2, by rw [e15]; exact v13, frM1.w e', ⟨τ, M0, M18, _, _, ps18, [], lc0, C18.2.1, by omega, by omega, by omega, ⟨by rw [e']; show mN M1 = _; exact N1, by rw [e']; show mS M1 = _; rw [k1.2.1, e21]; rfl⟩, hb.2.1, r1, r2⟩, ?_⟩
      have tz := hq.2.2.1
      rw [e']
      show mAI M1 5 0 = 0
      rw [k1.2.2.2.2.2.1, e21]
      show mAI M18 5 0 = 0
      rw [tz.2.2.2.1 5 (by decide) (by decide)]
      exact tz.2.2.2.2.2
    · rw [T21.kind] at z
      rw [if_neg z] at hE
      refine R81x (h := H + 208) N.1 (hL.tok k26 N.1) (by rw [T26.2.2.1]; exact T26.2.2.2.1) (fun M' e' => hE M' ?_)
      have N1 : mN M26 = mN M18 := by rw [k26.1, e21]; rfl
      obtain ⟨lc, rc, cc, pb2, ib, hq⟩ := id C18.2.1
      have fr2 := hb.1.q hq.2.2.2.2.2.1
      have frM1 : FrC M M26 := (fr2.w e21).tr k26.fr (fun a ha z => by omega)
      have e15 : mI M' 15 = mI M26 15 := by
        rw [e']
        funext y
        rw [mI_wI, if_neg (fun z => g15 z.1)]
      obtain ⟨lc0, r1, r2⟩ := hb.2.2
      have l1 := C18.2.2.1
      have l2 := C18.2.2.2.1
      have l3 := C18.2.2.2.2
      have ll := C18.len
      refine ⟨by rw [e']; exact T26.1.i, by rw [e15]; exact T26.2.2.1, (show (2 : Int32) ≠ 0 by decide), by rw [e15]; exact T26.2.2.2.2.1, frM1.w e', ⟨τ, M0, M18, _, _, ps18, [], lc0, C18.2.1, by omega, by omega, by omega, ⟨by rw [e']; show mN M26 = _; exact N1, by rw [e']; show mS M26 = _; rw [k26.2.1, e21]; rfl⟩, hb.2.1, r1, r2⟩, ?_⟩
      have tz := hq.2.2.1
      rw [e']
      show mAI M26 5 0 = 0
      rw [k26.2.2.2.2.2.1, e21]
      show mAI M18 5 0 = 0
      rw [tz.2.2.2.1 5 (by decide) (by decide)]
      exact tz.2.2.2.2.2
end
end
section
/-! the class reads a text: read -/
section
variable {b : Nat → Int32} {n s m : Nat} {τ : Td} {M M3 M15 M16 M0 M2 M' : Mem} {i o h : Nat} {Q : Option Value → Mem → Prop} {lc rc L L' : Nat}
/-- as the told is begun, from the memory M before: M15 -/
def Bg15 (M M15 : Mem) : Prop := fr (fun c => c = 4 ∨ (14 ≤ c ∧ c ≤ 18)) M M15 ∧ mN M15 = mN M + 25 ∧ mS M15 = mS M + mS cpC ∧ CT (mN M) td0 M15 (mN M + 9) (mN M + 10) ∧ MdN (mN M) M15 ∧ (SumP M15 (mN M + 22) (mN M + 23) [] ∧ ALp M15 (mN M + 7) (mBig + 5) 5 [] ∧ ALi M15 (mN M + 15) (mBig + 5) [] ∧ (mR M15 (mN M) 6 = some (mN M + 7) ∧ mR M15 (mN M) 8 = some (mN M + 22) ∧ mR M15 (mN M + 8) 7 = some (mN M + 15)) ∧ (mI M15 (mN M) 14 = 0 ∧ mI M15 (mN M) 15 = 0)) ∧ (mI M15 14 3 = 0 ∧ mI M15 14 4 = 0 ∧ mI M15 14 5 = 0 ∧ mI M15 14 6 = 0) ∧ (mI M15 4 9 = 1 ∧ mI M15 4 10 = 0)
/-- the told is read: the state for the parts -/
theorem told_cq (hZ0 : mAI M 5 0 = 0) (hM : 132 ≤ mN M) (hN : mN M ≤ 900000) (F : Fix M16) (h15 : Bg15 M M15) (k15 : mK M15 15 = 9) (hC : CT (mN M) τ M16 lc rc) (k : TdF (mN M) M15 M16 (mN M + 9) (mN M + 10) lc rc 0 τ.1.length) : CQ (mN M) τ M16 M16 (cl0 (mAI M) τ) (fun _ => 0) [] [] ∧ RdB n M M16 ∧ MdN (mN M) M16 ∧ τ.1.length ≤ 16 := by
  obtain ⟨f15, n15, s15, c15, d15, ⟨z1, z2, z3, z4, z5⟩, y1, y2⟩ := h15
  obtain ⟨k1, k2, k3, k4, k5, k6, k7, k8, k9, k10, k11⟩ := k
  obtain ⟨l1, l2, l3, l4, l5, l6, l7, l8⟩ := hC.lim
  have bg : (mN M : Nat) + 100 < mBig := by unfold mBig; omega
  have row : ∀ c, c < mN M + 25 → c ≠ 15 → ¬ (mN M ≤ c ∧ c ≤ mN M + 6) → c ≠ mN M + 8 → c ≠ mN M + 20 → c ≠ mN M + 9 → c ≠ mN M + 10 → sameRow M15 M16 c := fun c w1 w2 w3 w4 w5 w6 w7 => k1.2 c (by omega) (by omega)
  have sp : SumP M16 (mN M + 22) (mN M + 23) [] := z1.fr k1.1 (row _ (by omega) (by omega) (by omega) (by omega) (by omega) (by omega) (by omega)) (row _ (by omega) (by omega) (by omega) (by omega) (by omega) (by omega) (by omega))
  have kr : ∀ c, c < mN M + 25 → mN M ≤ c → c ≤ mN M + 6 ∨ c = mN M + 8 ∨ c = mN M + 20 ∨ c = mN M + 9 ∨ c = mN M + 10 → mK M15 c ≠ 0 ∧ mK M15 c ≠ 24 := by
    intro c w1 w2 w3
    obtain ⟨⟨g1, g2, g3, g4, g5, ⟨a1, -⟩, g6, ⟨a2, -⟩, g7, ⟨a3, -⟩, g8, ⟨a4, -⟩, -⟩, q2, -, -, -, -, ⟨q20, -⟩, -, -, -⟩ := c15.1
    have o4 := c15.2.1.2.2.2.1
    have o6 := c15.2.2.2.1.2.1
    have o9 := q2.2.2.1
    have o10 := q2.2.2.2.2.1
    rcases (show c = mN M ∨ c = mN M + 1 ∨ c = mN M + 2 ∨ c = mN M + 3 ∨ c = mN M + 4 ∨ c = mN M + 5 ∨ c = mN M + 6 ∨ c = mN M + 8 ∨ c = mN M + 20 ∨ c = mN M + 9 ∨ c = mN M + 10 by omega) with w | w | w | w | w | w | w | w | w | w | w <;> rw [w]
    · rw [g1.2]; decide
    · rw [a1.2]; decide
    · rw [a2.2]; decide
    · rw [a3.2]; decide
    · rw [o4.2]; decide
    · rw [a4.2]; decide
    · rw [o6.2]; decide
    · rw [q2.1.2]; decide
    · rw [q20.2]; decide
    · rw [o9.2]; decide
    · rw [o10.2]; decide
  have al : ALp M16 (mN M + 7) (mBig + 5) 5 [] := alp_fr3 z2 k1 (by omega) (fun _ w => by omega)
  have ai : ALi M16 (mN M + 15) (mBig + 5) [] := ali_fr3 z3 k1 (by omega) (fun _ w => by omega) (fun c w1 w2 => by
    rcases w2 with w | w | w | w | w | w
    · rw [w, k15]; decide
    · exact (kr c (by omega) w.1 (Or.inl w.2)).1
    · exact (kr c (by omega) (by omega) (Or.inr (Or.inl w))).1
    · exact (kr c (by omega) (by omega) (Or.inr (Or.inr (Or.inl w)))).1
    · exact (kr c (by omega) (by omega) (Or.inr (Or.inr (Or.inr (Or.inl w))))).1
    · exact (kr c (by omega) (by omega) (Or.inr (Or.inr (Or.inr (Or.inr w))))).1)
  have r14 := row 14 (by omega) (by omega) (by omega) (by omega) (by omega) (by omega) (by omega)
  have r4 := row 4 (by omega) (by omega) (by omega) (by omega) (by omega) (by omega) (by omega)
  have f16 : fr (fun c => c = 4 ∨ (14 ≤ c ∧ c ≤ 18)) M M16 := f15.tr k1 (fun a ha w => by omega)
  have hcir := hC.1.2.1
  have len := NT_len (L := τ.1.length)
  have ml : mL M16 lc ≤ 64 + 2 * (τ.1.length + 2) := by have := hcir.2.2.2.2.2.2.1.2.2.2.2; rw [len] at this; exact this
  have k8' : mK M15 (mN M + 8) = 2 := c15.1.2.1.1.2
  refine ⟨CQ_init F hC sp al ai ⟨by rw [k3]; exact z4.1, by rw [k3]; exact z4.2.1, by rw [k6 7 (by decide) (by decide)]; exact z4.2.2⟩ ⟨by rw [k4 14 (by decide)]; exact z5.1, by rw [k4 15 (by decide)]; exact z5.2⟩ (by rw [r14.1]; exact y1) (by rw [r4.1]; exact y2) (fun c w1 w2 => (f16.2 c (by omega) (by omega)).2.2.2.1) (by omega) hZ0, ⟨f16.more (fun a _ w => by omega), by omega, lc, by rw [← s15]; omega, by omega⟩, ?_, l7⟩
  refine d15.fr (lc := mN M + 9) (rc := mN M + 10) k1 hM (by omega) (Or.inl rfl) (Or.inl rfl) k3 k5 k6 c15.1.2.1.2.2.1.2 c15.1.2.1.2.2.2.2.1.2 (fun c w1 w2 => ?_) k15 k8' c15.1.2.2.2.2.2.2.1.1.2
  have := kr c (by omega) w1 (Or.inl w2)
  exact ⟨this.2, this.1⟩
theorem C_read {A : Nat → Nat → Int32} {B : Nat → Int64} (hZ0 : mAI M 5 0 = 0) (hB : By b) (hz : ∀ i, n ≤ i → b i = 0) (F : Fix M) (hn : n ≤ 800) (hm : ∀ i, i < n → (mAI M 1 i) &&& 255 = b i) (hN : mN M ≤ 900000) (hE : EndCR b n M Q (rdM b n m A B (mAI M))) : E (h + 220) mdX4_read [.ref 14, .int (Int32.ofNat n)] M Q := by
  have hM := F.1
  refine KX4_read (h := h + 219) ?_
  unfold DX4_read_0
  intro q2 M1 e2 e1
  subst e2
  have sh1 : Sh (mN M) M M1 cp0 := by rw [e1]; exact (Sh.start rfl).o (by decide)
  refine (S_comp (h := h + 214) sh1).imp (fun r M3 _ hp _ => ?_)
  obtain ⟨rfl, sh3⟩ := hp
  have F3 := sh3.fix F
  refine ⟨rfl, ok14 F3, fun M5 e5 M6 e6 M7 e7 M8 e8 M9 e9 => ?_⟩
  have F9 : Fix M9 := by rw [e9, e8, e7, e6, e5]; exact (F3.r (by decide +kernel)).i.i.i.i
  have f9 : fr (fun c => c = 14) M3 M9 := by
    rw [e9, e8, e7, e6, e5]
    exact ((((fr_wR (S := fun c => c = 14) rfl).tr (fr_wI (S := fun c => c = 14) rfl) (fun _ _ z => z)).tr (fr_wI (S := fun c => c = 14) rfl) (fun _ _ z => z)).tr (fr_wI (S := fun c => c = 14) rfl) (fun _ _ z => z)).tr (fr_wI (S := fun c => c = 14) rfl) (fun _ _ z => z)
  have r9 : mR M9 14 7 = some (mN M) := by rw [e9, e8, e7, e6, e5]; simp [mNwI, mSwI, mKwI, mIwI, mJwI, mRwI, mLwI, mAIwI, mAJwI, mARwI, mNwJ, mSwJ, mKwJ, mIwJ, mJwJ, mRwJ, mLwJ, mAIwJ, mAJwJ, mARwJ, mNwR, mSwR, mKwR, mIwR, mJwR, mRwR, mLwR, mAIwR, mAJwR, mARwR, mNwAI, mSwAI, mKwAI, mIwAI, mJwAI, mRwAI, mLwAI, mAIwAI, mAJwAI, mARwAI, mNwAJ, mSwAJ, mKwAJ, mIwAJ, mJwAJ, mRwAJ, mLwAJ, mAIwAJ, mAJwAJ, mARwAJ, mNwAR, mSwAR, mKwAR, mIwAR, mJwAR, mRwAR, mLwAR, mAIwAR, mAJwAR, mARwAR, okkwI, okkwJ, okkwR, okkwAI, okkwAJ, okkwAR]
  have i9 : mI M9 14 3 = 0 ∧ mI M9 14 4 = 0 ∧ mI M9 14 5 = 0 ∧ mI M9 14 6 = 0 := by
    refine ⟨?_, ?_, ?_, ?_⟩ <;> (rw [e9, e8, e7, e6]; simp [mNwI, mSwI, mKwI, mIwI, mJwI, mRwI, mLwI, mAIwI, mAJwI, mARwI, mNwJ, mSwJ, mKwJ, mIwJ, mJwJ, mRwJ, mLwJ, mAIwJ, mAJwJ, mARwJ, mNwR, mSwR, mKwR, mIwR, mJwR, mRwR, mLwR, mAIwR, mAJwR, mARwR, mNwAI, mSwAI, mKwAI, mIwAI, mJwAI, mRwAI, mLwAI, mAIwAI, mAJwAI, mARwAI, mNwAJ, mSwAJ, mKwAJ, mIwAJ, mJwAJ, mRwAJ, mLwAJ, mAIwAJ, mAJwAJ, mARwAJ, mNwAR, mSwAR, mKwAR, mIwAR, mJwAR, mRwAR, mLwAR, mAIwAR, mAJwAR, mARwAR, okkwI, okkwJ, okkwR, okkwAI, okkwAJ, okkwAR])
  have n9 : mN M9 = mN M3 ∧ mS M9 = mS M3 := by rw [e9, e8, e7, e6, e5]; exact ⟨rfl, rfl⟩
  clear e9 e8 e7 e6 e5
  refine ⟨4, rf14_1 F9, ok4 F9, S_treeBegin F9 ?_⟩
  obtain ⟨M12, e12⟩ : ∃ z, z = wI (wI M9 4 9 1) 4 10 0 := ⟨_, rfl⟩
  rw [← e12]
  intro _
  have F12 : Fix M12 := by rw [e12]; exact F9.i.i
  have f12 : fr (fun c => c = 4) M9 M12 := by rw [e12]; exact (fr_wI (S := fun c => c = 4) rfl).tr (fr_wI (S := fun c => c = 4) rfl) (fun _ _ z => z)
  have i12 : mI M12 4 9 = 1 ∧ mI M12 4 10 = 0 := by rw [e12]; constructor <;> simp [mNwI, mSwI, mKwI, mIwI, mJwI, mRwI, mLwI, mAIwI, mAJwI, mARwI, mNwJ, mSwJ, mKwJ, mIwJ, mJwJ, mRwJ, mLwJ, mAIwJ, mAJwJ, mARwJ, mNwR, mSwR, mKwR, mIwR, mJwR, mRwR, mLwR, mAIwR, mAJwR, mARwR, mNwAI, mSwAI, mKwAI, mIwAI, mJwAI, mRwAI, mLwAI, mAIwAI, mAJwAI, mARwAI, mNwAJ, mSwAJ, mKwAJ, mIwAJ, mJwAJ, mRwAJ, mLwAJ, mAIwAJ, mAJwAJ, mARwAJ, mNwAR, mSwAR, mKwAR, mIwAR, mJwAR, mRwAR, mLwAR, mAIwAR, mAJwAR, mARwAR, okkwI, okkwJ, okkwR, okkwAI, okkwAJ, okkwAR]
  have n12 : mN M12 = mN M9 ∧ mS M12 = mS M9 := by rw [e12]; exact ⟨rfl, rfl⟩
  clear e12
  have n3 : mN M3 = mN M + 25 := sh3.1
  have f3 : fr (fun _ => False) M M3 := sh3.2.2.2.1
  have f312 : fr (fun c => c = 4 ∨ c = 14) M M12 := ((f3.more (fun _ _ z => z.elim)).tr f9 (fun _ _ z => Or.inr z)).tr f12 (fun _ _ z => Or.inl z)
  refine ⟨rfl, 15, rf14_0 F12, ok15 F12, S_begin (h := h + 211) F12 hn (fun i hi => by rw [(f312.2 1 (by omega) (by omega)).2.2.2.1]; exact hm i hi) hz hB (fun s N hs1 hs2 hs3 hR FN CN _ => ⟨rfl, ?_⟩)⟩
  have hS : Sto b n s := ⟨hs1, hn, hs2, hs3⟩
  obtain ⟨hti, htf⟩ := bg_ti (b := b) FN hn hs1 hR
  have kb : TFr N (bgF N) := (((TFr.i.tr TFr.i).tr TFr.i).tr TFr.i).tr TFr.adv
  obtain ⟨M15, e15⟩ : ∃ z, z = bgF N := ⟨_, rfl⟩
  rw [← e15] at hti htf kb ⊢
  have f15 : fr (fun c => 15 ≤ c ∧ c ≤ 18) M12 M15 := by
    obtain ⟨g1, g2, g3, g4, g5, g6, g7, g8, g9, g10⟩ := CN
    refine ⟨⟨by rw [kb.1, g1]; exact Nat.le_refl _, by rw [kb.2.1, g2]; exact Nat.le_refl _, fun a _ => ⟨by rw [kb.2.2.1, g3]; rfl, by rw [kb.2.2.2.1, g4]; rfl⟩⟩, fun a _ hn => ?_⟩
    have row := kb.row (a := a) (by omega)
    refine ⟨?_, by rw [row.2.1, g7]; rfl, by rw [row.2.2.1, g5]; rfl, by rw [row.2.2.2.1, g9 a (by omega) (by omega)]; rfl, by rw [row.2.2.2.2.1, g10 a (by omega)]; rfl, by rw [row.2.2.2.2.2, g6]; rfl⟩
    rw [row.1]
    funext y
    rw [g8 a y (by omega), mI_wI, if_neg (by omega)]
  have n15 : mN M15 = mN M12 ∧ mS M15 = mS M12 := ⟨by rw [kb.1, CN.1]; rfl, by rw [kb.2.1, CN.2.1]; rfl⟩
  clear e15 kb CN hR
  have f3_15 : fr (fun c => c < 132) M3 M15 := ((f9.more (fun _ _ z => by omega)).tr f12 (fun _ _ z => by omega)).tr f15 (fun _ _ z => by omega)
  have rr := f15.2 14 (by omega) (by omega)
  have r4 := f15.2 4 (by omega) (by omega)
  have r14 := f12.2 14 (by omega) (by omega)
  have e7 : mR M15 14 7 = some (mN M) := by rw [rr.2.2.1, r14.2.2.1]; exact r9
  have h15 : Bg15 M M15 := ⟨(f312.more (S1 := fun c => c = 4 ∨ (14 ≤ c ∧ c ≤ 18)) (fun a _ z => by omega)).tr f15 (fun a _ z => by omega), by omega, by have := sh3.2.2.1; omega, cp_ct sh3 hM f3_15 e7, cp_md sh3 hM f3_15, cp_ls sh3 hM f3_15, by rw [rr.1, r14.1]; exact i9, by rw [r4.1]; exact i12⟩
  have ex16 : ∀ (M16 : Mem) (τ : Td) (lc rc : Nat) (f : Int32) (p : Nat), TF M16 f p → CT (mN M) τ M16 lc rc → TdF (mN M) M15 M16 (mN M + 9) (mN M + 10) lc rc 0 τ.1.length → mK M15 15 = 9 → (∀ M', CRx n M M' f (Int32.ofNat p) → Q (some .null) M') → TRd (h + 219) (mN M) Q M16 := by
    intro M16 τ lc rc f p T16 C16 k16 k15 hx
    obtain ⟨q1, q2, q3, q4⟩ := told_cq (n := n) hZ0 hM hN T16.1 h15 k15 C16 k16
    refine TRd_x (h := h + 213) (t := 0) q2 hs1 ⟨T16, _, _, q1, ?_, ?_, Nat.zero_le _, ?_, by omega⟩ hx
    · show (NT τ.1.length).length ≤ s + 70 + 0
      rw [NT_len]; omega
    · exact Nat.zero_le _
    · exact Nat.zero_le _
  unfold rdM at hE
  by_cases k0 : tK b n 0 = 0
  · rw [if_pos k0] at hE
    have T15 := htf k0
    refine KX4_readAllTold ?_
    unfold DX4_readAllTold_0
    exact X_allL T15 (fun _ => ⟨rfl, ex16 M15 td0 _ _ _ _ T15 h15.2.2.2.1 TdF.rf (ok15 T15.1).2 hE⟩)
  · rw [if_neg k0] at hE
    have T15 := hti k0
    have k15 := (ok15 T15.1).2
    refine KX4_readAllTold ?_
    unfold DX4_readAllTold_0
    refine C_told (h := h + 211) (o := 0) hB hS 900 M15 0 0 td0 (mN M + 9) (mN M + 10) (by omega) (Nat.le_refl _) T15 h15.2.2.2.1 ?_
    cases et : td b n 900 0 td0 with
    | error y =>
      rw [et] at hE
      exact fun M16 lc rc τ T16 C16 k16 _ => ⟨rfl, ex16 M16 τ lc rc _ _ T16 C16 k16 k15 hE⟩
    | ok r =>
      rw [et] at hE
      have hE : EndCR b n M Q ((rdQ b n m r.2 r.1 (σI A B (cl0 (mAI M) r.2))).bind fun q => .ok (q.1, r.2, q.2.1, q.2.2)) := hE
      intro M16 lc rc T16 C16 k16 _
      obtain ⟨q1, q2, q3, q4⟩ := told_cq (n := n) hZ0 hM hN T16.1 h15 k15 C16 k16
      refine ⟨rfl, TRd_ok (m := m) hB hS q2 ⟨lc, rc, C16⟩ q3 ⟨T16, q1, ?_, Nat.zero_le _, Nat.le_refl _, Nat.zero_le _⟩ (by omega) hE⟩
      show (NT r.2.1.length).length ≤ 18 + r.1
      rw [NT_len]; omega
end
end
section
/-! the reference's compile, up to the end of the text -/
abbrev RGc (m : Nat) (M M' : Mem) : Prop := RG m [1, 5, 6, 7, 19, 29, 31, 32, 33, 53, 60] [31, 32, 34, 35, 36, 38, 39, 40, 41, 44, 45, 46, 47, 48, 49, 51, 52, 53, 54, 55, 56, 57, 58, 59, 60, 61, 62, 63, 64, 65, 66, 67, 68, 69, 70, 71, 73, 74, 75, 76, 77, 78, 79, 122] [33, 37, 42, 43, 50, 72] M M'
/-- inputs and first numbers, as the told leaves them -/
def RTq (m : Nat) (τ : Td) (M : Mem) : Prop := (mAI M 35 m = Int32.ofNat (inL τ.2.1).length ∧ (inL τ.2.1).length ≤ 4 ∧ ∀ j, j < (inL τ.2.1).length → mAI M 41 (4 * m + j) = Int32.ofNat ((inL τ.2.1).getD j 0)) ∧ (τ.2.2.2.2.length = τ.2.2.2.1.length ∧ ∀ k, k < τ.2.2.2.1.length → mAJ M 43 (6 * m + k) = τ.2.2.2.2.getD k 0)
section
variable {b : Nat → Int32} {n s m : Nat} {τ : Td} {M Mi M0 M2 M' : Mem} {i h : Nat} {Q : Option Value → Mem → Prop} {A : Nat → Nat → Int32} {B : Nat → Int64} {Zt : Nat → Nat → Int32}
theorem RGt.c (k : RGt m M M') : RGc m M M' := k.more (by decide) (by decide) (by decide)
theorem RGp.c (k : RGp m M M') : RGc m M M' := k.more (by decide) (by decide) (by decide)
theorem RFr.c (k : RFr M M') : RGc m M M' := by
  obtain ⟨a1, a2, a3, a4, a5, a6, a7, a8, a9, a10⟩ := k
  refine ⟨a1, a2, a3, a4, a5, a6, a7, fun a _ => by rw [a8], fun f _ => by rw [a8], fun a ha => a9 a (fun z => ha (by rw [z]; decide)) (fun z => ha (by rw [z]; decide)), fun a ha => a10 a (fun z => ha (by rw [z]; decide)), fun a q hq => ?_⟩
  have e31 : szA 31 = 0 := by decide
  have e32 : szA 32 = 0 := by decide
  have e33 : szA 33 = 0 := by decide
  refine ⟨?_, ?_⟩
  · by_cases z : a = 31
    · rw [z, e31] at hq; omega
    · by_cases z2 : a = 32
      · rw [z2, e32] at hq; omega
      · rw [a9 a z z2]
  · by_cases z : a = 33
    · rw [z, e33] at hq; omega
    · rw [a10 a z]
theorem cz {c q : Nat} {P : Mem → Prop} (hr : mR Mi 29 q = some c) (ho : ok Mi c 21) (hl : mL Mi c = 4) (h19 : mI Mi 29 19 = Int32.ofNat m) (h4 : m < 4) (H : ∀ M', M' = wAI Mi c m 0 → P M') : ∃ b4 : Nat, mR Mi 29 q = some b4 ∧ ok Mi b4 21 ∧ vp_in (mI Mi 29 19) (mL Mi b4) ∧ ∀ M6, M6 = wAI Mi b4 (mI Mi 29 19 : Int32).toNatClampNeg 0 → P M6 := by
  refine ⟨c, hr, ho, by rw [hl, h19]; exact vp_of h4 (by decide), fun M6 e6 => ?_⟩
  rw [h19, lt32 (by omega)] at e6
  exact H M6 e6
/-- a counter of module m is set to 0 -/
def Zer (m : Nat) (n : Nat) (b : Nat → Int32) (M Mi : Mem) (cs : List Nat) : Prop := Fix Mi ∧ mI Mi 29 19 = Int32.ofNat m ∧ mI Mi 29 6 = 0 ∧ TR Mi n b ∧ RGc m M Mi ∧ (∀ c ∈ cs, mAI Mi c m = 0) ∧ (∀ c, 58 ≤ c → c ≤ 75 → mAI Mi c = mAI M c) ∧ mAJ Mi 72 = mAJ M 72 ∧ (∀ q, q ≠ m → mAI Mi 122 q = mAI M 122 q)
theorem Zer.w {c : Nat} {cs : List Nat} (hZ : Zer m n b M Mi cs) (hc : c ∈ [34, 35, 36, 44, 48, 54, 55, 56, 57, 79, 122]) (e : M' = wAI Mi c m 0) : Zer m n b M M' (c :: cs) := by
  obtain ⟨h1, h2, h3, h4, h5, h6, h7, h8, h9⟩ := hZ
  have cl : c ≠ 30 ∧ (c < 58 ∨ 75 < c) ∧ c ∈ [31, 32, 34, 35, 36, 38, 39, 40, 41, 44, 45, 46, 47, 48, 49, 51, 52, 53, 54, 55, 56, 57, 58, 59, 60, 61, 62, 63, 64, 65, 66, 67, 68, 69, 70, 71, 73, 74, 75, 76, 77, 78, 79, 122] ∧ szA c * m ≤ m := by
    simp only [List.mem_cons, List.not_mem_nil, or_false] at hc
    rcases hc with z | z | z | z | z | z | z | z | z | z | z <;> rw [z] <;> refine ⟨by decide, by decide, by decide, ?_⟩
    all_goals first
      | (rw [show szA 34 = 1 by decide]; omega) | (rw [show szA 35 = 1 by decide]; omega) | (rw [show szA 36 = 1 by decide]; omega) | (rw [show szA 44 = 1 by decide]; omega) | (rw [show szA 48 = 1 by decide]; omega) | (rw [show szA 54 = 1 by decide]; omega) | (rw [show szA 55 = 1 by decide]; omega) | (rw [show szA 56 = 1 by decide]; omega) | (rw [show szA 57 = 1 by decide]; omega) | (rw [show szA 79 = 1 by decide]; omega) | (rw [show szA 122 = 1 by decide]; omega)
  refine ⟨by rw [e]; exact h1.ai, by rw [e]; exact h2, by rw [e]; exact h3, by rw [e]; exact h4.ai cl.1, h5.tr (by rw [e]; exact RG.ai cl.2.2.1 cl.2.2.2), fun c2 hc2 => ?_, fun c2 z1 z2 => by rw [e]; exact (up2_row (f := mAI Mi) (a := c) (k := m) (v := 0) (by omega)).trans (h7 c2 z1 z2), by rw [e]; exact h8, fun q hq => ?_⟩
  · rw [e, mAI_wAI]
    by_cases z : c2 = c
    · rw [if_pos ⟨z, rfl⟩]
    · rw [if_neg (fun y => z y.1)]
      rcases List.mem_cons.mp hc2 with y | y
      · exact absurd y z
      · exact h6 c2 y
  · rw [e, mAI_wAI, if_neg (fun y => hq y.2)]
    exact h9 q hq
def EndRC (b : Nat → Int32) (n m h : Nat) (M : Mem) (Q : Option Value → Mem → Prop) (R : Except (Int32 × Nat) (Nat × Td × PS × Nat)) : Prop := match R with
  | .error e => ∀ M', TXr M' e.1 e.2 → RGc m M M' → Q (some (.int (-10 - Int32.ofNat e.2))) M'
  | .ok r => ∀ s M', Sto b n s → RPs b n s m r.2.1 [] r.2.2.1 M' r.1 0 → RTq m r.2.1 M' → (mAI M' 79 m = 0 ∧ mAI M' 122 m = 0) → RGc m M M' → DX11_compile_188 h 29 0 M' Q
theorem X_188 {f x : Int32} {p : Nat} (hT : TXr M f p) (H : Q (some (.int (-10 - Int32.ofNat p))) M) : DX11_compile_188 h 29 x M Q := by
  have n0 := hT.n0
  unfold DX11_compile_188 DX11_compile_205
  refine ⟨ok29 hT.1, fun _ => ⟨ok29 hT.1, fun z => ?_, fun _ => ?_⟩, fun z => absurd z n0⟩
  · rw [hT.2.1] at z
    exact absurd hT.2.2.1 (Int32.not_lt.mpr z)
  · rw [hT.2.2.2]; exact H
theorem R_169 (hB : By b) (hz : ∀ i, n ≤ i → b i = 0) (hS : Sto b n s) (hR : RT b n s m td0 M0 0) (k0 : tK b n 0 ≠ 0) (hG : RGc m M M0) (hc : mAI M0 48 m = 0 ∧ mAI M0 44 m = 0 ∧ mAI M0 54 m = 0 ∧ mAI M0 55 m = 0 ∧ mAI M0 56 m = 0 ∧ mAI M0 57 m = 0 ∧ mAI M0 79 m = 0 ∧ mAI M0 122 m = 0) (hA : ∀ c, 58 ≤ c → c ≤ 75 → c ≠ 72 → mAI M0 c = A c) (hN : mAJ M0 72 = B) (hE : EndRC b n m (h + 15) M Q (rdM b n m A B Zt)) : DX11_compile_169 (h + 15) 29 M0 Q := by
  have F := hR.1.1
  unfold rdM at hE
  rw [if_neg k0] at hE
  unfold DX11_compile_169
  refine ⟨ok29 F, KX11_readTold ?_⟩
  unfold DX11_readTold_0
  refine T_told (h := h + 9) hB hS 900 M0 0 td0 (by have := hS.1; have := hS.2.1; omega) hR k0 ?_
  cases et : td b n 900 0 td0 with
  | error y =>
    rw [et] at hE
    intro M1 T1 G1 _
    have G := hG.tr G1.c
    exact ⟨rfl, fun _ => X_188 T1 (hE M1 T1 G), fun z => absurd z T1.n0⟩
  | ok r =>
    rw [et] at hE
    have hE : EndRC b n m (h + 15) M Q ((rdQ b n m r.2 r.1 (σI A B (cl0 Zt r.2))).bind fun q => .ok (q.1, r.2, q.2.1, q.2.2)) := hE
    have hmx : MxOk r.2 := td_mx 900 0 td0 r (fun k => Or.inl (by cases k <;> rfl)) et
    intro M1 R1 k1 G1 _
    refine ⟨rfl, fun z => absurd R1.2.2.2.1 z, fun _ => ?_⟩
    have fx : ∀ c, c ∉ [34, 35, 36, 38, 39, 40, 41] → mAI M1 c = mAI M0 c := fun c hc => G1.fA hc
    have jx : mAJ M1 72 = mAJ M0 72 := G1.fJ (by decide)
    refine R_parts (h := h) (A := A) (C := cl0 Zt r.2) hB hz hS hmx R1 k1 ⟨by rw [fx 48 (by decide)]; exact hc.1, by rw [fx 44 (by decide)]; exact hc.2.1, by rw [fx 54 (by decide)]; exact hc.2.2.1, by rw [fx 55 (by decide)]; exact hc.2.2.2.1, by rw [fx 56 (by decide)]; exact hc.2.2.2.2.1, by rw [fx 57 (by decide)]; exact hc.2.2.2.2.2.1⟩ (fun c z1 z2 z3 => ?_) (jx.trans hN) ?_
    · rw [fx c (by simp only [List.mem_cons, List.not_mem_nil, or_false, not_or]; omega)]
      exact hA c z1 z2 z3
    · cases eq : rdQ b n m r.2 r.1 (σI A B (cl0 Zt r.2)) with
      | error y =>
        rw [eq] at hE
        intro M3 T3 G3 _
        exact ⟨_, rfl, X_188 T3 (hE M3 T3 ((hG.tr G1.c).tr G3.c))⟩
      | ok q =>
        rw [eq] at hE
        intro M3 R3 G3 _
        have g79 : mAI M3 79 = mAI M0 79 := (G3.fA (c := 79) (by decide)).trans (fx 79 (by decide))
        have g122 : mAI M3 122 = mAI M0 122 := (G3.fA (c := 122) (by decide)).trans (fx 122 (by decide))
        have g35 : mAI M3 35 = mAI M1 35 := G3.fA (c := 35) (by decide)
        have g41 : mAI M3 41 = mAI M1 41 := G3.fA (c := 41) (by decide)
        have g43 : mAJ M3 43 = mAJ M1 43 := G3.fJ (c := 43) (by decide)
        refine ⟨_, rfl, hE s M3 hS R3 ⟨by rw [g35, g41]; exact R1.2.2.2.2.1, by rw [g43]; exact R1.2.2.2.2.2.1⟩ ⟨by rw [g79]; exact hc.2.2.2.2.2.2.1, by rw [g122]; exact hc.2.2.2.2.2.2.2⟩ ((hG.tr G1.c).tr G3.c)⟩
end
end
section
/-! the reference's compile: its head -/
section
variable {b : Nat → Int32} {n s m : Nat} {τ : Td} {M Mi M0 M2 M' : Mem} {i h : Nat} {Q : Option Value → Mem → Prop} {A : Nat → Nat → Int32} {B : Nat → Int64} {Zt : Nat → Nat → Int32}
theorem R_comp (hB : By b) (hz : ∀ i, n ≤ i → b i = 0) (F : Fix M) (hT : TR M n b) (hm : mI M 29 18 = Int32.ofNat m) (h4 : m < 4) (hA : ∀ c, 58 ≤ c → c ≤ 75 → c ≠ 72 → mAI M c = A c) (hN : mAJ M 72 = B) (hE : EndRC b n m (h + 15) M Q (rdM b n m A B Zt)) : E (h + 16) mdX11_compile [.ref 29] M Q := by
  refine KX11_compile ?_
  unfold DX11_compile_0
  have n4 : ¬ mI M 29 18 = 4 := by
    rw [hm]
    intro z
    have : m = 4 := (z32 (k := 4) (by omega) (by decide)).mp z
    omega
  refine ⟨ok29 F, fun _ M2 e2 M3 e3 => ?_, fun z => absurd z n4⟩
  rw [hm] at e2
  have Z3 : Zer m n b M M3 [] := by
    refine ⟨by rw [e3, e2]; exact F.i.i, by rw [e3, e2]; simp [mNwI, mSwI, mKwI, mIwI, mJwI, mRwI, mLwI, mAIwI, mAJwI, mARwI, mNwJ, mSwJ, mKwJ, mIwJ, mJwJ, mRwJ, mLwJ, mAIwJ, mAJwJ, mARwJ, mNwR, mSwR, mKwR, mIwR, mJwR, mRwR, mLwR, mAIwR, mAJwR, mARwR, mNwAI, mSwAI, mKwAI, mIwAI, mJwAI, mRwAI, mLwAI, mAIwAI, mAJwAI, mARwAI, mNwAJ, mSwAJ, mKwAJ, mIwAJ, mJwAJ, mRwAJ, mLwAJ, mAIwAJ, mAJwAJ, mARwAJ, mNwAR, mSwAR, mKwAR, mIwAR, mJwAR, mRwAR, mLwAR, mAIwAR, mAJwAR, mARwAR, okkwI, okkwJ, okkwR, okkwAI, okkwAJ, okkwAR], by rw [e3]; simp [mNwI, mSwI, mKwI, mIwI, mJwI, mRwI, mLwI, mAIwI, mAJwI, mARwI, mNwJ, mSwJ, mKwJ, mIwJ, mJwJ, mRwJ, mLwJ, mAIwJ, mAJwJ, mARwJ, mNwR, mSwR, mKwR, mIwR, mJwR, mRwR, mLwR, mAIwR, mAJwR, mARwR, mNwAI, mSwAI, mKwAI, mIwAI, mJwAI, mRwAI, mLwAI, mAIwAI, mAJwAI, mARwAI, mNwAJ, mSwAJ, mKwAJ, mIwAJ, mJwAJ, mRwAJ, mLwAJ, mAIwAJ, mAJwAJ, mARwAJ, mNwAR, mSwAR, mKwAR, mIwAR, mJwAR, mRwAR, mLwAR, mAIwAR, mAJwAR, mARwAR, okkwI, okkwJ, okkwR, okkwAI, okkwAJ, okkwAR], ⟨hT.1, ?_, ?_, hT.2.2.2⟩, ?_, fun c hc => absurd hc List.not_mem_nil, fun c _ _ => by rw [e3, e2]; rfl, by rw [e3, e2]; rfl, fun q _ => by rw [e3, e2]; rfl⟩
    · rw [← hT.2.1, e3, e2]; simp [mNwI, mSwI, mKwI, mIwI, mJwI, mRwI, mLwI, mAIwI, mAJwI, mARwI, mNwJ, mSwJ, mKwJ, mIwJ, mJwJ, mRwJ, mLwJ, mAIwJ, mAJwJ, mARwJ, mNwR, mSwR, mKwR, mIwR, mJwR, mRwR, mLwR, mAIwR, mAJwR, mARwR, mNwAI, mSwAI, mKwAI, mIwAI, mJwAI, mRwAI, mLwAI, mAIwAI, mAJwAI, mARwAI, mNwAJ, mSwAJ, mKwAJ, mIwAJ, mJwAJ, mRwAJ, mLwAJ, mAIwAJ, mAJwAJ, mARwAJ, mNwAR, mSwAR, mKwAR, mIwAR, mJwAR, mRwAR, mLwAR, mAIwAR, mAJwAR, mARwAR, okkwI, okkwJ, okkwR, okkwAI, okkwAJ, okkwAR]
    · intro i hi; rw [← hT.2.2.1 i hi, e3, e2]; rfl
    · rw [e3, e2]; exact (RG.i (by decide)).tr (RG.i (by decide))
  clear e2 e3
  refine cz (rf29_8 Z3.1) (ok34 Z3.1) (ln34 Z3.1) Z3.2.1 h4 (fun M6 e6 => ?_)
  have Z6 := Z3.w (by decide) e6
  refine cz (rf29_9 Z6.1) (ok35 Z6.1) (ln35 Z6.1) Z6.2.1 h4 (fun M9 e9 => ?_)
  have Z9 := Z6.w (by decide) e9
  refine cz (rf29_10 Z9.1) (ok36 Z9.1) (ln36 Z9.1) Z9.2.1 h4 (fun M12 e12 => ?_)
  have Z12 := Z9.w (by decide) e12
  refine cz (rf29_20 Z12.1) (ok44 Z12.1) (ln44 Z12.1) Z12.2.1 h4 (fun M15 e15 => ?_)
  have Z15 := Z12.w (by decide) e15
  refine cz (rf29_24 Z15.1) (ok48 Z15.1) (ln48 Z15.1) Z15.2.1 h4 (fun M18 e18 => ?_)
  have Z18 := Z15.w (by decide) e18
  refine cz (rf29_34 Z18.1) (ok54 Z18.1) (ln54 Z18.1) Z18.2.1 h4 (fun M21 e21 => ?_)
  have Z21 := Z18.w (by decide) e21
  refine cz (rf29_35 Z21.1) (ok55 Z21.1) (ln55 Z21.1) Z21.2.1 h4 (fun M24 e24 => ?_)
  have Z24 := Z21.w (by decide) e24
  refine cz (rf29_36 Z24.1) (ok56 Z24.1) (ln56 Z24.1) Z24.2.1 h4 (fun M27 e27 => ?_)
  have Z27 := Z24.w (by decide) e27
  refine cz (rf29_37 Z27.1) (ok57 Z27.1) (ln57 Z27.1) Z27.2.1 h4 (fun M30 e30 => ?_)
  have Z30 := Z27.w (by decide) e30
  refine cz (rf29_61 Z30.1) (ok79 Z30.1) (ln79 Z30.1) Z30.2.1 h4 (fun M33 e33 => ?_)
  have Z33 := Z30.w (by decide) e33
  refine cz (rf29_114 Z33.1) (ok122 Z33.1) (ln122 Z33.1) Z33.2.1 h4 (fun M36 e36 => ?_)
  have Z36 := Z33.w (by decide) e36
  clear e6 e9 e12 e15 e18 e21 e24 e27 e30 e33 e36 Z3 Z6 Z9 Z12 Z15 Z18 Z21 Z24 Z27 Z30 Z33
  obtain ⟨F36, i19, i6, T36, G36, zz, rows, row72, r122⟩ := Z36
  refine R_cut (h := h + 12) F36 T36 hB (fun s N hs1 hs2 hs3 hR FN kN _ => ⟨rfl, fun M38 e38 M39 e39 => ?_⟩)
  have hS : Sto b n s := ⟨hs1, hT.1, hs2, hs3⟩
  have F39 : Fix M39 := by rw [e39, e38]; exact FN.i.i
  have aN : mAI M39 = mAI N := by rw [e39, e38]; rfl
  have jN : mAJ M39 = mAJ N := by rw [e39, e38]; rfl
  have G39 : RGc m M M39 := (G36.tr kN.c).tr (by rw [e39, e38]; exact (RG.i (by decide)).tr (RG.i (by decide)))
  have i5 : mI M39 29 5 = 0 := by rw [e39]; simp [mNwI, mSwI, mKwI, mIwI, mJwI, mRwI, mLwI, mAIwI, mAJwI, mARwI, mNwJ, mSwJ, mKwJ, mIwJ, mJwJ, mRwJ, mLwJ, mAIwJ, mAJwJ, mARwJ, mNwR, mSwR, mKwR, mIwR, mJwR, mRwR, mLwR, mAIwR, mAJwR, mARwR, mNwAI, mSwAI, mKwAI, mIwAI, mJwAI, mRwAI, mLwAI, mAIwAI, mAJwAI, mARwAI, mNwAJ, mSwAJ, mKwAJ, mIwAJ, mJwAJ, mRwAJ, mLwAJ, mAIwAJ, mAJwAJ, mARwAJ, mNwAR, mSwAR, mKwAR, mIwAR, mJwAR, mRwAR, mLwAR, mAIwAR, mAJwAR, mARwAR, okkwI, okkwJ, okkwR, okkwAI, okkwAJ, okkwAR]
  have i19' : mI M39 29 19 = Int32.ofNat m := by rw [← i19, e39, e38, mI_wI, if_neg (by decide), mI_wI, if_neg (by decide), kN.2.2.2.2.2.2.2.1]
  have i6' : mI M39 29 6 = 0 := by rw [e39, e38, mI_wI, if_neg (by decide), mI_wI, if_neg (by decide), kN.2.2.2.2.2.2.2.1]; exact i6
  clear e39 e38
  have k31 : mAI M39 31 0 = rS b n (tP b n 0) := by rw [aN]; exact (hR 0 (Nat.zero_le _)).1
  have k32 : mAI M39 32 0 = Int32.ofNat (tP b n 0) := by rw [aN]; exact (hR 0 (Nat.zero_le _)).2.1
  have z0 : (0 : Int32).toNatClampNeg = 0 := e0z
  refine ⟨31, rf29_2 F39, ok31 F39, by rw [ln31 F39]; exact vp_of (n := 0) (by decide) (by decide), ?_, ?_⟩
  · rw [z0, k31, (rS_rel hB).2]
    intro k0
    have fx : ∀ c, c ≠ 31 → c ≠ 32 → mAI M39 c = mAI M36 c := fun c q1 q2 => by rw [aN]; exact kN.2.2.2.2.2.2.2.2.1 c q1 q2
    have zr : ∀ c, c ∈ [122, 79, 57, 56, 55, 54, 48, 44, 36, 35, 34] → mAI M39 c m = 0 := fun c hc => by
      rw [fx c (fun q => by rw [q] at hc; exact absurd hc (by decide)) (fun q => by rw [q] at hc; exact absurd hc (by decide))]
      exact zz c hc
    have R0 : RT b n s m td0 M39 0 := by
      refine ⟨⟨F39, fun j hj => ?_, i19', h4, ⟨Nat.zero_le _, rfl, rfl, Nat.zero_le _⟩, zr 34 (by decide), zr 36 (by decide), fun k hk => absurd hk (Nat.not_lt_zero _), fun k hk => absurd hk (Nat.not_lt_zero _), fun k hk => absurd hk (Nat.not_lt_zero _), fun k hk => absurd hk (Nat.not_lt_zero _)⟩, ⟨hT.1, hs1, Nat.zero_le _⟩, i5, i6', ⟨zr 35 (by decide), by decide, fun j hj => absurd hj (Nat.not_lt_zero _)⟩, ⟨rfl, fun k hk => absurd hk (Nat.not_lt_zero _)⟩, fun k hk => absurd hk (Nat.not_lt_zero _)⟩
      have := hR j hj
      unfold RkR at this ⊢
      rw [aN, jN]
      exact this
    refine R_169 (h := h) (A := A) (B := B) (Zt := Zt) hB hz hS R0 k0 G39 ⟨zr 48 (by decide), zr 44 (by decide), zr 54 (by decide), zr 55 (by decide), zr 56 (by decide), zr 57 (by decide), zr 79 (by decide), zr 122 (by decide)⟩ (fun c q1 q2 q3 => ?_) ?_ hE
    · rw [fx c (by omega) (by omega), rows c q1 q2]
      exact hA c q1 q2 q3
    · rw [jN, kN.2.2.2.2.2.2.2.2.2 72 (by decide), row72]
      exact hN
  · rw [z0, k31, (rS_rel hB).2]
    intro k0
    unfold rdM at hE
    have k0' : tK b n 0 = 0 := k0
    rw [if_pos k0'] at hE
    refine ⟨32, rf29_3 F39, ok32 F39, by rw [ln32 F39]; exact vp_of (n := 0) (by decide) (by decide), ?_⟩
    rw [k32]
    refine R_fails F39 ?_
    obtain ⟨M44, e44⟩ : ∃ z, z = flF M39 1 (Int32.ofNat (tP b n 0)) := ⟨_, rfl⟩
    rw [← e44]
    intro _
    unfold flF at e44
    rw [if_pos i6'] at e44
    obtain ⟨T44, G44⟩ := TXf6 (m := m) (p := tP b n 0) (c := 1) F39 (by decide)
    rw [← e44] at T44 G44
    refine ⟨rfl, ?_⟩
    unfold DX11_compile_169
    refine ⟨ok29 T44.1, KX11_readTold ?_⟩
    unfold DX11_readTold_0
    exact X_toldL T44 (fun _ => ⟨rfl, fun _ => X_188 T44 (hE M44 T44 (G39.tr G44.c)), fun z => absurd z T44.n0⟩)
end
end
section
/-! the tree, as each node's list of children -/
def Lnk (A : Nat → Nat → Int32) (x : Nat) (l : List Nat) : Prop := A 6 x = Int32.ofNat (l.headD 0) ∧ A 7 x = Int32.ofNat (l.getLastD 0) ∧ (∀ i, i + 1 < l.length → A 8 (l.getD i 0) = Int32.ofNat (l.getD (i + 1) 0)) ∧ (∀ c ∈ l, A 9 c = Int32.ofNat x) ∧ (l ≠ [] → A 8 (l.getLastD 0) = 0)
/-- the codes at once of a node without children -/
def leV (k d : Int32) : Int32 := if k = 0 ∨ k = 5 ∨ k = 2 then 1 else if k = 1 then 2 else if k = 3 then (1 : Int32) <<< (d &&& 31) else 0
def aoG (k z : Int32) (l : List Int32) : Int32 := match l with
  | [] => z
  | a :: r => r.foldl (fun had add => aoT k had add False) (aoT k z a True)
def heV (k d : Int32) : Int32 := if k = 1 then (1 : Int32) <<< (d &&& 31) else 0
def heG (z : Int32) (l : List Int32) : Int32 := l.foldl (fun a c => a ||| c) z
/-- the rows of the tree are those of the lists G -/
def TG (Θ : TrT) (G : Nat → List Nat) : Prop := (1 ≤ Θ.1 ∧ Θ.1 ≤ 640) ∧ (∀ x, 1 ≤ x → x < Θ.1 → Lnk Θ.2.2 x (G x) ∧ (G x).Nodup ∧ (∀ c ∈ G x, 1 ≤ c ∧ c < Θ.1) ∧ Θ.2.2 12 x = heG (heV (Θ.2.2 5 x) (Θ.2.2 11 x)) ((G x).map (Θ.2.2 12)) ∧ Θ.2.2 13 x = aoG (Θ.2.2 5 x) (leV (Θ.2.2 5 x) (Θ.2.2 11 x)) ((G x).map (Θ.2.2 13))) ∧ (∀ c, 1 ≤ c → c < Θ.1 → Θ.2.2 9 c = 0 → Θ.2.2 8 c = 0)
/-- what stays of the nodes there were: those of O have got children, those of H a parent -/
def TE (Θ Θ' : TrT) (G G' : Nat → List Nat) (O H : Nat → Prop) : Prop := Θ.1 ≤ Θ'.1 ∧ ∀ x, 1 ≤ x → x < Θ.1 → (Θ'.2.2 5 x = Θ.2.2 5 x ∧ Θ'.2.2 10 x = Θ.2.2 10 x ∧ Θ'.2.2 11 x = Θ.2.2 11 x) ∧ (¬ O x → G' x = G x ∧ Θ'.2.2 12 x = Θ.2.2 12 x ∧ Θ'.2.2 13 x = Θ.2.2 13 x) ∧ (¬ H x → Θ'.2.2 9 x = Θ.2.2 9 x)
section
variable {Θ Θ1 Θ2 : TrT} {G G1 G2 : Nat → List Nat} {O H O1 H1 : Nat → Prop} {x a c : Nat} {k : Int32}
theorem TE.rf : TE Θ Θ G G O H := ⟨Nat.le_refl _, fun _ _ _ => ⟨⟨rfl, rfl, rfl⟩, fun _ => ⟨rfl, rfl, rfl⟩, fun _ => rfl⟩⟩
theorem TE.tr (h : TE Θ Θ1 G G1 O H) (k : TE Θ1 Θ2 G1 G2 O1 H1) (hO : ∀ y, 1 ≤ y → y < Θ.1 → O1 y → O y) (hH : ∀ y, 1 ≤ y → y < Θ.1 → H1 y → H y) : TE Θ Θ2 G G2 O H := by
  refine ⟨Nat.le_trans h.1 k.1, fun y z1 z2 => ?_⟩
  obtain ⟨⟨a1, a2, a3⟩, a4, a5⟩ := h.2 y z1 z2
  obtain ⟨⟨b1, b2, b3⟩, b4, b5⟩ := k.2 y z1 (Nat.lt_of_lt_of_le z2 h.1)
  refine ⟨⟨b1.trans a1, b2.trans a2, b3.trans a3⟩, fun n => ?_, fun n => (b5 (fun z => n (hH y z1 z2 z))).trans (a5 n)⟩
  obtain ⟨c1, c2, c3⟩ := b4 (fun z => n (hO y z1 z2 z))
  obtain ⟨d1, d2, d3⟩ := a4 n
  exact ⟨c1.trans d1, c2.trans d2, c3.trans d3⟩
theorem TE.more (h : TE Θ Θ1 G G1 O H) (hO : ∀ y, 1 ≤ y → y < Θ.1 → O y → O1 y) (hH : ∀ y, 1 ≤ y → y < Θ.1 → H y → H1 y) : TE Θ Θ1 G G1 O1 H1 := ⟨h.1, fun y z1 z2 => ⟨(h.2 y z1 z2).1, fun n => (h.2 y z1 z2).2.1 (fun z => n (hO y z1 z2 z)), fun n => (h.2 y z1 z2).2.2 (fun z => n (hH y z1 z2 z))⟩⟩
theorem nof {p q : Nat} (hp : p < 2000) (hq : q < 2000) (e : Int32.ofNat p = Int32.ofNat q) : p = q := (z32 (by omega) (by omega)).mp e
theorem Lnk.cg {A A' : Nat → Nat → Int32} {l : List Nat} (h : Lnk A x l) (h6 : A' 6 x = A 6 x) (h7 : A' 7 x = A 7 x) (h8 : ∀ c ∈ l, A' 8 c = A 8 c) (h9 : ∀ c ∈ l, A' 9 c = A 9 c) : Lnk A' x l := by
  obtain ⟨a1, a2, a3, a4, a5⟩ := h
  have mem : ∀ i, i < l.length → l.getD i 0 ∈ l := fun i hi => by
    rw [List.getD_eq_getElem?_getD, List.getElem?_eq_getElem hi]
    exact List.getElem_mem hi
  refine ⟨h6.trans a1, h7.trans a2, fun i hi => (h8 _ (mem i (by omega))).trans (a3 i hi), fun c hc => (h9 c hc).trans (a4 c hc), fun hn => ?_⟩
  have : l.getLastD 0 ∈ l := by
    cases l with
    | nil => exact absurd rfl hn
    | cons y r => rw [List.getLastD_cons]; exact List.getLastD_mem_cons
  exact (h8 _ this).trans (a5 hn)
/-- a new node, its own rows as they come: everything at other nodes stays -/
theorem TG.new {Θ' : TrT} (hT : TG Θ G) (hf : Θ.1 < 640) (e1 : Θ'.1 = Θ.1 + 1) (eo : ∀ q y, y ≠ Θ.1 → Θ'.2.2 q y = Θ.2.2 q y) (e6 : Θ'.2.2 6 Θ.1 = 0) (e7 : Θ'.2.2 7 Θ.1 = 0) (e8 : Θ'.2.2 8 Θ.1 = 0) (e12 : Θ'.2.2 12 Θ.1 = heV (Θ'.2.2 5 Θ.1) (Θ'.2.2 11 Θ.1)) (e13 : Θ'.2.2 13 Θ.1 = leV (Θ'.2.2 5 Θ.1) (Θ'.2.2 11 Θ.1)) : TG Θ' (va_up G Θ.1 []) ∧ TE Θ Θ' G (va_up G Θ.1 []) O H := by
  obtain ⟨⟨h1, h2⟩, h3, h4⟩ := hT
  refine ⟨⟨⟨by omega, by omega⟩, fun y z1 z2 => ?_, fun d z1 z2 z3 => ?_⟩, ⟨by omega, fun y z1 z2 => ?_⟩⟩
  · by_cases w : y = Θ.1
    · rw [w, va_up_self]
      refine ⟨⟨e6, e7, fun i hi => absurd hi (Nat.not_lt_zero _), fun d hd => absurd hd List.not_mem_nil, fun n => absurd rfl n⟩, List.nodup_nil, fun d hd => absurd hd List.not_mem_nil, e12, e13⟩
    · rw [va_up_ne _ _ w]
      obtain ⟨a1, a2, a3, a4, a5⟩ := h3 y z1 (by omega)
      have nc : ∀ d ∈ G y, d ≠ Θ.1 := fun d hd z => by have := (a3 d hd).2; omega
      refine ⟨a1.cg (eo _ _ w) (eo _ _ w) (fun d hd => eo _ _ (nc d hd)) (fun d hd => eo _ _ (nc d hd)), a2, fun d hd => ⟨(a3 d hd).1, by have := (a3 d hd).2; omega⟩, ?_, ?_⟩
      · rw [eo 12 y w, eo 5 y w, eo 11 y w, a4, List.map_congr_left (fun d hd => eo 12 d (nc d hd))]
      · rw [eo 13 y w, eo 5 y w, eo 11 y w, a5, List.map_congr_left (fun d hd => eo 13 d (nc d hd))]
  · by_cases w : d = Θ.1
    · rw [w]; exact e8
    · rw [eo _ _ w] at z3 ⊢
      exact h4 d z1 (by omega) z3
  · have w : y ≠ Θ.1 := by omega
    exact ⟨⟨eo _ _ w, eo _ _ w, eo _ _ w⟩, fun _ => ⟨va_up_ne _ _ w, eo _ _ w, eo _ _ w⟩, fun _ => eo _ _ w⟩
end
end
section
/-! the tree as lists: making nodes, hanging them -/
section
variable {Θ Θ1 Θ2 : TrT} {G G1 G2 : Nat → List Nat} {O H O1 H1 : Nat → Prop} {x a c v : Nat} {k l : Int32}
theorem up2_ey {α : Type} {f : Nat → Nat → α} {q j y : Nat} {w : α} (e : ∀ p, f p y = f p y) (h : y ≠ j) (p : Nat) : up2 f q j w p y = f p y := up2_ne (fun z => h z.2)
theorem mkT_is (hf : Θ.1 < 640) : (mkT Θ k).2 = Θ.1 ∧ (mkT Θ k).1.1 = Θ.1 + 1 ∧ (mkT Θ k).1.2.1 = Θ.2.1 ∧ (∀ q y, y ≠ Θ.1 → (mkT Θ k).1.2.2 q y = Θ.2.2 q y) ∧ (mkT Θ k).1.2.2 5 Θ.1 = k ∧ (∀ q, q = 6 ∨ q = 7 ∨ q = 8 ∨ q = 9 ∨ q = 10 ∨ q = 11 ∨ q = 12 → (mkT Θ k).1.2.2 q Θ.1 = 0) ∧ (mkT Θ k).1.2.2 13 Θ.1 = (if k = 0 ∨ k = 5 then 1 else 0) := by
  unfold mkT
  rw [if_pos hf]
  refine ⟨rfl, rfl, rfl, fun q y w => ?_, ?_, fun q hq => ?_, ?_⟩
  · show up2 (up2 (up2 (up2 (up2 (up2 (up2 (up2 (up2 Θ.2.2 5 Θ.1 k) 6 Θ.1 0) 7 Θ.1 0) 8 Θ.1 0) 9 Θ.1 0) 10 Θ.1 0) 11 Θ.1 0) 12 Θ.1 0) 13 Θ.1 (if k = 0 ∨ k = 5 then 1 else 0) q y = _
    have n : ∀ q', ¬ (q = q' ∧ y = Θ.1) := fun q' z => w z.2
    rw [up2_ne (n _), up2_ne (n _), up2_ne (n _), up2_ne (n _), up2_ne (n _), up2_ne (n _), up2_ne (n _), up2_ne (n _), up2_ne (n _)]
  · show up2 (up2 (up2 (up2 (up2 (up2 (up2 (up2 (up2 Θ.2.2 5 Θ.1 k) 6 Θ.1 0) 7 Θ.1 0) 8 Θ.1 0) 9 Θ.1 0) 10 Θ.1 0) 11 Θ.1 0) 12 Θ.1 0) 13 Θ.1 (if k = 0 ∨ k = 5 then 1 else 0) 5 Θ.1 = k
    rw [up2_ne (fun z => absurd z.1 (by decide)), up2_ne (fun z => absurd z.1 (by decide)), up2_ne (fun z => absurd z.1 (by decide)), up2_ne (fun z => absurd z.1 (by decide)), up2_ne (fun z => absurd z.1 (by decide)), up2_ne (fun z => absurd z.1 (by decide)), up2_ne (fun z => absurd z.1 (by decide)), up2_ne (fun z => absurd z.1 (by decide)), up2_eq]
  · show up2 (up2 (up2 (up2 (up2 (up2 (up2 (up2 (up2 Θ.2.2 5 Θ.1 k) 6 Θ.1 0) 7 Θ.1 0) 8 Θ.1 0) 9 Θ.1 0) 10 Θ.1 0) 11 Θ.1 0) 12 Θ.1 0) 13 Θ.1 (if k = 0 ∨ k = 5 then 1 else 0) q Θ.1 = 0
    rcases hq with z | z | z | z | z | z | z <;> subst z <;> simp [up2]
  · show up2 (up2 (up2 (up2 (up2 (up2 (up2 (up2 (up2 Θ.2.2 5 Θ.1 k) 6 Θ.1 0) 7 Θ.1 0) 8 Θ.1 0) 9 Θ.1 0) 10 Θ.1 0) 11 Θ.1 0) 12 Θ.1 0) 13 Θ.1 (if k = 0 ∨ k = 5 then 1 else 0) 13 Θ.1 = _
    rw [up2_eq]
/-- what is known of a node that an operation gives: it is new, and hangs nowhere -/
def NwN (Θ Θ' : TrT) (x m : Nat) : Prop := Θ.1 ≤ x ∧ x < Θ'.1 ∧ Θ'.2.2 9 x = 0 ∧ Θ'.1 ≤ Θ.1 + m
theorem TG.mk (hT : TG Θ G) (hf : Θ.1 < 640) (hk : k ≠ 1 ∧ k ≠ 2 ∧ k ≠ 3) : TG (mkT Θ k).1 (va_up G Θ.1 []) ∧ TE Θ (mkT Θ k).1 G (va_up G Θ.1 []) O H ∧ NwN Θ (mkT Θ k).1 (mkT Θ k).2 1 ∧ ((mkT Θ k).2 = Θ.1 ∧ (mkT Θ k).1.2.2 5 Θ.1 = k ∧ (mkT Θ k).1.2.2 10 Θ.1 = 0 ∧ (mkT Θ k).1.2.2 11 Θ.1 = 0 ∧ (mkT Θ k).1.2.1 = Θ.2.1) := by
  obtain ⟨m1, m2, m3, m4, m5, m6, m7⟩ := mkT_is (k := k) hf
  have q := TG.new (Θ' := (mkT Θ k).1) (O := O) (H := H) hT hf m2 m4 (m6 6 (by decide)) (m6 7 (by decide)) (m6 8 (by decide)) (by rw [m6 12 (by decide), m5]; unfold heV; rw [if_neg hk.1]) (by
    rw [m7, m5]
    unfold leV
    by_cases z : k = 0 ∨ k = 5
    · rw [if_pos z, if_pos (by rcases z with w | w; exact Or.inl w; exact Or.inr (Or.inl w))]
    · rw [if_neg z, if_neg (by rintro (w | w | w); exact z (Or.inl w); exact z (Or.inr w); exact hk.2.1 w), if_neg hk.1, if_neg hk.2.2])
  exact ⟨q.1, q.2, ⟨by rw [m1]; exact Nat.le_refl _, by rw [m1, m2]; exact Nat.lt_succ_self _, by rw [m1]; exact m6 9 (by decide), by rw [m2]; exact Nat.le_refl _⟩, m1, m5, m6 10 (by decide), m6 11 (by decide), m3⟩
theorem TG.pa (hT : TG Θ G) (hf : Θ.1 < 640) : TG (paT Θ).1 (va_up G Θ.1 []) ∧ TE Θ (paT Θ).1 G (va_up G Θ.1 []) O H ∧ NwN Θ (paT Θ).1 (paT Θ).2 1 ∧ ((paT Θ).2 = Θ.1 ∧ (paT Θ).1.2.2 5 Θ.1 = 1 ∧ (paT Θ).1.2.2 11 Θ.1 = Int32.ofNat Θ.2.1 ∧ (paT Θ).1.2.1 = Θ.2.1 + 1) := by
  obtain ⟨m1, m2, m3, m4, m5, m6, m7⟩ := mkT_is (k := 1) hf
  have ea : ∀ q y, (paT Θ).1.2.2 q y = up2 (up2 (up2 (mkT Θ 1).1.2.2 11 Θ.1 (Int32.ofNat Θ.2.1)) 12 Θ.1 ((1 : Int32) <<< (Int32.ofNat Θ.2.1 &&& 31))) 13 Θ.1 2 q y := by
    intro q y
    show up2 (up2 (up2 (mkT Θ 1).1.2.2 11 (mkT Θ 1).2 (Int32.ofNat Θ.2.1)) 12 (mkT Θ 1).2 ((1 : Int32) <<< (Int32.ofNat Θ.2.1 &&& 31))) 13 (mkT Θ 1).2 2 q y = _
    rw [m1]
  have e1 : (paT Θ).1.1 = Θ.1 + 1 := m2
  have eo : ∀ q y, y ≠ Θ.1 → (paT Θ).1.2.2 q y = Θ.2.2 q y := fun q y w => by
    rw [ea, up2_ne (fun z => w z.2), up2_ne (fun z => w z.2), up2_ne (fun z => w z.2)]
    exact m4 q y w
  have at' : ∀ q, q ≠ 11 → q ≠ 12 → q ≠ 13 → (paT Θ).1.2.2 q Θ.1 = (mkT Θ 1).1.2.2 q Θ.1 := fun q w1 w2 w3 => by
    rw [ea, up2_ne (fun z => w3 z.1), up2_ne (fun z => w2 z.1), up2_ne (fun z => w1 z.1)]
  have e11 : (paT Θ).1.2.2 11 Θ.1 = Int32.ofNat Θ.2.1 := by rw [ea, up2_ne (fun z => absurd z.1 (by decide)), up2_ne (fun z => absurd z.1 (by decide)), up2_eq]
  have e12 : (paT Θ).1.2.2 12 Θ.1 = (1 : Int32) <<< (Int32.ofNat Θ.2.1 &&& 31) := by rw [ea, up2_ne (fun z => absurd z.1 (by decide)), up2_eq]
  have e13 : (paT Θ).1.2.2 13 Θ.1 = 2 := by rw [ea, up2_eq]
  have e5 : (paT Θ).1.2.2 5 Θ.1 = 1 := (at' 5 (by decide) (by decide) (by decide)).trans m5
  have q := TG.new (Θ' := (paT Θ).1) (O := O) (H := H) hT hf e1 eo ((at' 6 (by decide) (by decide) (by decide)).trans (m6 6 (by decide))) ((at' 7 (by decide) (by decide) (by decide)).trans (m6 7 (by decide))) ((at' 8 (by decide) (by decide) (by decide)).trans (m6 8 (by decide))) (by rw [e12, e5, e11]; rfl) (by rw [e13, e5]; rfl)
  have e2 : (paT Θ).2 = Θ.1 := m1
  refine ⟨q.1, q.2, ⟨by rw [e2]; exact Nat.le_refl _, by rw [e2, e1]; exact Nat.lt_succ_self _, by rw [e2]; exact (at' 9 (by decide) (by decide) (by decide)).trans (m6 9 (by decide)), by rw [e1]; exact Nat.le_refl _⟩, e2, e5, e11, ?_⟩
  show (mkT Θ 1).1.2.1 + 1 = _
  rw [m3]
/-- emit and exit -/
theorem TG.le {Θ' : TrT} {d w : Int32} (hT : TG Θ G) (hf : Θ.1 < 640) (hk : k ≠ 1) (hw : w = leV k d) (e : Θ' = ((mkT Θ k).1.1, (mkT Θ k).1.2.1, up2 (up2 (mkT Θ k).1.2.2 11 (mkT Θ k).2 d) 13 (mkT Θ k).2 w)) : TG Θ' (va_up G Θ.1 []) ∧ TE Θ Θ' G (va_up G Θ.1 []) O H ∧ NwN Θ Θ' Θ.1 1 ∧ (Θ'.2.2 5 Θ.1 = k ∧ Θ'.2.2 11 Θ.1 = d ∧ Θ'.2.1 = Θ.2.1) := by
  obtain ⟨m1, m2, m3, m4, m5, m6, m7⟩ := mkT_is (k := k) hf
  rw [m1] at e
  have ea : Θ'.2.2 = up2 (up2 (mkT Θ k).1.2.2 11 Θ.1 d) 13 Θ.1 w := by rw [e]
  have e1 : Θ'.1 = Θ.1 + 1 := by rw [e]; exact m2
  have eo : ∀ q y, y ≠ Θ.1 → Θ'.2.2 q y = Θ.2.2 q y := fun q y w => by
    rw [ea, up2_ne (fun z => w z.2), up2_ne (fun z => w z.2)]
    exact m4 q y w
  have at' : ∀ q, q ≠ 11 → q ≠ 13 → Θ'.2.2 q Θ.1 = (mkT Θ k).1.2.2 q Θ.1 := fun q w1 w3 => by
    rw [ea, up2_ne (fun z => w3 z.1), up2_ne (fun z => w1 z.1)]
  have e11 : Θ'.2.2 11 Θ.1 = d := by rw [ea, up2_ne (fun z => absurd z.1 (by decide)), up2_eq]
  have e13 : Θ'.2.2 13 Θ.1 = w := by rw [ea, up2_eq]
  have e5 : Θ'.2.2 5 Θ.1 = k := (at' 5 (by decide) (by decide)).trans m5
  have q := TG.new (Θ' := Θ') (O := O) (H := H) hT hf e1 eo ((at' 6 (by decide) (by decide)).trans (m6 6 (by decide))) ((at' 7 (by decide) (by decide)).trans (m6 7 (by decide))) ((at' 8 (by decide) (by decide)).trans (m6 8 (by decide))) (by rw [at' 12 (by decide) (by decide), m6 12 (by decide), e5]; unfold heV; rw [if_neg hk]) (by rw [e13, e5, e11, hw])
  exact ⟨q.1, q.2, ⟨Nat.le_refl _, by rw [e1]; exact Nat.lt_succ_self _, (at' 9 (by decide) (by decide)).trans (m6 9 (by decide)), by rw [e1]; exact Nat.le_refl _⟩, e5, e11, by rw [e]; exact m3⟩
end
end
section
/-! the tree as lists: hanging -/
theorem gl_eq : ∀ (l : List Nat) (d : Nat), l ≠ [] → l.getLastD d = l.getD (l.length - 1) 0 := by
  intro l
  induction l with
  | nil => intro d h; exact absurd rfl h
  | cons y r ih =>
    intro d _
    rw [List.getLastD_cons]
    cases r with
    | nil => rfl
    | cons z q => rw [ih y (by simp)]; rfl
theorem gl_mem {l : List Nat} (h : l ≠ []) : l.getLastD 0 ∈ l := by
  cases l with
  | nil => exact absurd rfl h
  | cons y r => rw [List.getLastD_cons]; exact List.getLastD_mem_cons
theorem gd_mem {l : List Nat} {i : Nat} (hi : i < l.length) : l.getD i 0 ∈ l := by
  rw [List.getD_eq_getElem?_getD, List.getElem?_eq_getElem hi]
  exact List.getElem_mem hi
theorem gd_inj {l : List Nat} (hn : l.Nodup) {i j : Nat} (hi : i < l.length) (hj : j < l.length) (e : l.getD i 0 = l.getD j 0) : i = j := by
  rw [List.getD_eq_getElem?_getD, List.getElem?_eq_getElem hi, List.getD_eq_getElem?_getD, List.getElem?_eq_getElem hj] at e
  have pw := List.pairwise_iff_getElem.mp hn
  have e : l[i] = l[j] := e
  rcases Nat.lt_trichotomy i j with z | z | z
  · exact absurd e (pw i j hi hj z)
  · exact z
  · exact absurd e.symm (pw j i hj hi z)
section
variable {Θ Θ1 Θ2 : TrT} {G G1 G2 : Nat → List Nat} {O H O1 H1 : Nat → Prop} {x a c v : Nat} {k l : Int32} {A : Nat → Nat → Int32}
theorem hgA_is (hne : a ≠ c) : (∀ q y, q ≠ 6 → q ≠ 7 → q ≠ 8 → q ≠ 9 → q ≠ 12 → q ≠ 13 → hgA A a c q y = A q y) ∧ (∀ y, hgA A a c 12 y = if y = a then A 12 a ||| A 12 c else A 12 y) ∧ (∀ y, hgA A a c 13 y = if y = a then aoT (A 5 a) (A 13 a) (A 13 c) (A 6 a = 0) else A 13 y) ∧ (∀ y, hgA A a c 9 y = if y = c then Int32.ofNat a else A 9 y) ∧ (∀ y, hgA A a c 6 y = if y = a ∧ A 6 a = 0 then Int32.ofNat c else A 6 y) ∧ (∀ y, hgA A a c 7 y = if y = a then Int32.ofNat c else A 7 y) ∧ (∀ y, hgA A a c 8 y = if ¬ A 6 a = 0 ∧ y = (A 7 a).toNatClampNeg then Int32.ofNat c else A 8 y) := by
  unfold hgA
  by_cases z : A 6 a = 0
  · rw [if_pos z]
    refine ⟨fun q y h6 h7 h8 h9 h12 h13 => ?_, fun y => ?_, fun y => ?_, fun y => ?_, fun y => ?_, fun y => ?_, fun y => ?_⟩
    · rw [up2_ne (fun w => h7 w.1), up2_ne (fun w => h6 w.1), up2_ne (fun w => h9 w.1), up2_ne (fun w => h12 w.1), up2_ne (fun w => h13 w.1)]
    · simp only [up2]; by_cases w : y = a <;> simp [w]
    · simp only [up2]; by_cases w : y = a <;> simp [w]
    · simp only [up2]; by_cases w : y = c <;> simp [w]
    · simp only [up2]; by_cases w : y = a <;> simp [w, z]
    · simp only [up2]; by_cases w : y = a <;> simp [w]
    · simp [up2, z]
  · rw [if_neg z]
    refine ⟨fun q y h6 h7 h8 h9 h12 h13 => ?_, fun y => ?_, fun y => ?_, fun y => ?_, fun y => ?_, fun y => ?_, fun y => ?_⟩
    · rw [up2_ne (fun w => h7 w.1), up2_ne (fun w => h8 w.1), up2_ne (fun w => h9 w.1), up2_ne (fun w => h12 w.1), up2_ne (fun w => h13 w.1)]
    · simp only [up2]; by_cases w : y = a <;> simp [w]
    · simp only [up2]; by_cases w : y = a <;> simp [w]
    · simp only [up2]; by_cases w : y = c <;> simp [w]
    · simp [up2, z]
    · simp only [up2]; by_cases w : y = a <;> simp [w]
    · simp only [up2]; by_cases w : y = (A 7 a).toNatClampNeg <;> simp [w, z]
theorem aoG_app {z : Int32} {r : List Int32} {d : Int32} : aoG k z (r ++ [d]) = aoT k (aoG k z r) d (r = []) := by
  cases r with
  | nil => show aoT k z d True = aoT k z d ([] = []); simp
  | cons y r =>
    show (r ++ [d]).foldl _ _ = _
    rw [List.foldl_append]
    show aoT k _ d False = aoT k _ d (y :: r = [])
    simp [aoG]
theorem TG.hg (hT : TG Θ G) (ha : 1 ≤ a ∧ a < Θ.1) (hc : 1 ≤ c ∧ c < Θ.1) (hne : a ≠ c) (ra : Θ.2.2 9 a = 0) (rc : Θ.2.2 9 c = 0) : TG (hgT Θ a c) (va_up G a (G a ++ [c])) ∧ TE Θ (hgT Θ a c) G (va_up G a (G a ++ [c])) (fun y => y = a) (fun y => y = c) ∧ (hgT Θ a c).1 = Θ.1 ∧ (hgT Θ a c).2.1 = Θ.2.1 := by
  have eT : hgT Θ a c = (Θ.1, Θ.2.1, hgA Θ.2.2 a c) := by unfold hgT; rw [if_neg (by omega)]
  rw [eT]
  obtain ⟨⟨h1, h2⟩, h3, h4⟩ := hT
  obtain ⟨i0, i12, i13, i9, i6, i7, i8⟩ := hgA_is (A := Θ.2.2) hne
  obtain ⟨⟨l6, l7, l8, l9, lz⟩, nd, ch, he, ao⟩ := h3 a ha.1 ha.2
  have nz : ∀ p : Nat, 1 ≤ p → p < 2000 → Int32.ofNat p ≠ 0 := fun p q1 q2 z => by have := nof (q := 0) q2 (by decide) z; omega
  have par : ∀ y d, 1 ≤ y → y < Θ.1 → d ∈ G y → Θ.2.2 9 d = Int32.ofNat y := fun y d q1 q2 q3 => (h3 y q1 q2).1.2.2.2.1 d q3
  have ncl : ∀ y, 1 ≤ y → y < Θ.1 → c ∉ G y := fun y q1 q2 q3 => nz y q1 (by omega) ((par y c q1 q2 q3).symm.trans rc)
  have nal : ∀ y, 1 ≤ y → y < Θ.1 → a ∉ G y := fun y q1 q2 q3 => nz y q1 (by omega) ((par y a q1 q2 q3).symm.trans ra)
  have f6 : Θ.2.2 6 a = 0 ↔ G a = [] := by
    rw [l6]
    cases e : G a with
    | nil => exact ⟨fun _ => rfl, fun _ => rfl⟩
    | cons y r =>
      have := ch y (by rw [e]; exact List.mem_cons_self)
      exact ⟨fun z => absurd z (nz y this.1 (by omega)), fun z => by cases z⟩
  have t7 : G a ≠ [] → (Θ.2.2 7 a).toNatClampNeg = (G a).getLastD 0 := fun hn => by
    rw [l7]
    have := ch _ (gl_mem hn)
    exact lt32 (by omega)
  have n8 : ∀ y, (∀ _ : G a ≠ [], y ≠ (G a).getLastD 0) → hgA Θ.2.2 a c 8 y = Θ.2.2 8 y := fun y hy => by
    rw [i8 y]
    refine if_neg (fun z => ?_)
    have hn : G a ≠ [] := fun w => z.1 (f6.mpr w)
    exact hy hn (by rw [← t7 hn]; exact z.2)
  have c8 : hgA Θ.2.2 a c 8 c = 0 := by
    rw [n8 c (fun hn z => ncl a ha.1 ha.2 (by rw [z]; exact gl_mem hn))]
    exact h4 c hc.1 hc.2 rc
  refine ⟨⟨⟨h1, h2⟩, fun y q1 q2 => ?_, fun d q1 q2 q3 => ?_⟩, ⟨Nat.le_refl _, fun y q1 q2 => ?_⟩, rfl, rfl⟩
  · have q2 : y < Θ.1 := q2
    by_cases w : y = a
    · subst w
      rw [va_up_self]
      refine ⟨⟨?_, ?_, fun i hi => ?_, fun d hd => ?_, fun _ => ?_⟩, ?_, fun d hd => ?_, ?_, ?_⟩
      · show hgA Θ.2.2 y c 6 y = _
        rw [i6 y]
        cases e : G y with
        | nil => rw [if_pos ⟨rfl, f6.mpr e⟩]; rfl
        | cons p r =>
          rw [if_neg (fun z => by have := f6.mp z.2; rw [e] at this; cases this), l6, e]; rfl
      · show hgA Θ.2.2 y c 7 y = _
        rw [i7 y, if_pos rfl]; simp
      · show hgA Θ.2.2 y c 8 _ = _
        rw [List.length_append] at hi
        have hi : i + 1 < (G y).length + 1 := hi
        rw [getD_apN (show i < (G y).length + 1 by omega), getD_apN hi, if_neg (by omega)]
        by_cases z : i + 1 = (G y).length
        · have hn : G y ≠ [] := fun e => by rw [e] at z; cases z
          rw [if_pos z, i8, if_pos]
          refine ⟨fun e => hn (f6.mp e), ?_⟩
          rw [t7 hn, gl_eq _ _ hn]
          congr 1
          omega
        · rw [if_neg z, n8 _ (fun hn e => ?_)]
          · exact l8 i (by omega)
          · rw [gl_eq _ _ hn] at e
            have := gd_inj nd (show i < (G y).length by omega) (show (G y).length - 1 < (G y).length by omega) e
            omega
      · show hgA Θ.2.2 y c 9 d = _
        rw [i9 d]
        rcases List.mem_append.mp hd with z | z
        · have : d ≠ c := fun e => ncl y ha.1 ha.2 (by rw [e] at z; exact z)
          rw [if_neg this]; exact l9 d z
        · rw [List.mem_singleton] at z
          rw [if_pos z]
      · have e : (G y ++ [c]).getLastD 0 = c := by simp
        rw [e]; exact c8
      · rw [List.nodup_append]
        refine ⟨nd, by simp, fun d hd e he => ?_⟩
        rw [List.mem_singleton] at he
        intro z
        exact ncl y ha.1 ha.2 (by rw [← he, ← z]; exact hd)
      · rcases List.mem_append.mp hd with z | z
        · exact ch d z
        · rw [List.mem_singleton] at z; rw [z]; exact hc
      · show hgA Θ.2.2 y c 12 y = heG (heV (hgA Θ.2.2 y c 5 y) (hgA Θ.2.2 y c 11 y)) ((G y ++ [c]).map (hgA Θ.2.2 y c 12))
        have mm : (G y ++ [c]).map (hgA Θ.2.2 y c 12) = (G y).map (Θ.2.2 12) ++ [Θ.2.2 12 c] := by
          rw [List.map_append]
          congr 1
          · exact List.map_congr_left (fun d hd => by rw [i12 d, if_neg (fun (e : d = y) => nal y ha.1 ha.2 (by rw [e] at hd; exact hd))])
          · show [hgA Θ.2.2 y c 12 c] = _
            rw [i12 c, if_neg (fun e => hne e.symm)]
        rw [mm, i12 y, if_pos rfl, i0 5 y (by decide) (by decide) (by decide) (by decide) (by decide) (by decide), i0 11 y (by decide) (by decide) (by decide) (by decide) (by decide) (by decide)]
        unfold heG
        rw [List.foldl_append]
        unfold heG at he
        rw [← he]
        rfl
      · show hgA Θ.2.2 y c 13 y = aoG (hgA Θ.2.2 y c 5 y) (leV (hgA Θ.2.2 y c 5 y) (hgA Θ.2.2 y c 11 y)) ((G y ++ [c]).map (hgA Θ.2.2 y c 13))
        have mm : (G y ++ [c]).map (hgA Θ.2.2 y c 13) = (G y).map (Θ.2.2 13) ++ [Θ.2.2 13 c] := by
          rw [List.map_append]
          congr 1
          · exact List.map_congr_left (fun d hd => by rw [i13 d, if_neg (fun (e : d = y) => nal y ha.1 ha.2 (by rw [e] at hd; exact hd))])
          · show [hgA Θ.2.2 y c 13 c] = _
            rw [i13 c, if_neg (fun e => hne e.symm)]
        rw [mm, i13 y, if_pos rfl, i0 5 y (by decide) (by decide) (by decide) (by decide) (by decide) (by decide), i0 11 y (by decide) (by decide) (by decide) (by decide) (by decide) (by decide), aoG_app, ← ao]
        have fe : (Θ.2.2 6 y = 0) = ((G y).map (Θ.2.2 13) = []) := by rw [List.map_eq_nil_iff]; exact propext f6
        simp only [fe]
    · rw [va_up_ne _ _ w]
      obtain ⟨m1, m2, m3, m4, m5⟩ := h3 y q1 q2
      refine ⟨m1.cg ?_ ?_ (fun d hd => n8 d (fun hn e => ?_)) (fun d hd => ?_), m2, m3, ?_, ?_⟩
      · show hgA Θ.2.2 a c 6 y = _
        rw [i6 y, if_neg (fun z => w z.1)]
      · show hgA Θ.2.2 a c 7 y = _
        rw [i7 y, if_neg w]
      · have e1 := par y d q1 q2 hd
        have e2 := l9 d (by rw [e]; exact gl_mem hn)
        exact w (nof (by omega) (by omega) (e1.symm.trans e2))
      · show hgA Θ.2.2 a c 9 d = _
        rw [i9 d, if_neg (fun (e : d = c) => ncl y q1 q2 (by rw [e] at hd; exact hd))]
      · show hgA Θ.2.2 a c 12 y = heG (heV (hgA Θ.2.2 a c 5 y) (hgA Θ.2.2 a c 11 y)) ((G y).map (hgA Θ.2.2 a c 12))
        rw [i12 y, if_neg w, i0 5 y (by decide) (by decide) (by decide) (by decide) (by decide) (by decide), i0 11 y (by decide) (by decide) (by decide) (by decide) (by decide) (by decide), m4]
        congr 1
        exact List.map_congr_left (fun d hd => by rw [i12 d, if_neg (fun (e : d = a) => nal y q1 q2 (by rw [e] at hd; exact hd))])
      · show hgA Θ.2.2 a c 13 y = aoG (hgA Θ.2.2 a c 5 y) (leV (hgA Θ.2.2 a c 5 y) (hgA Θ.2.2 a c 11 y)) ((G y).map (hgA Θ.2.2 a c 13))
        rw [i13 y, if_neg w, i0 5 y (by decide) (by decide) (by decide) (by decide) (by decide) (by decide), i0 11 y (by decide) (by decide) (by decide) (by decide) (by decide) (by decide), m5]
        congr 1
        exact List.map_congr_left (fun d hd => by rw [i13 d, if_neg (fun (e : d = a) => nal y q1 q2 (by rw [e] at hd; exact hd))])
  · have q2 : d < Θ.1 := q2
    have q3 : hgA Θ.2.2 a c 9 d = 0 := q3
    show hgA Θ.2.2 a c 8 d = 0
    rw [i9 d] at q3
    by_cases w : d = c
    · rw [w]; exact c8
    · rw [if_neg w] at q3
      rw [n8 d (fun hn e => ?_)]
      · exact h4 d q1 q2 q3
      · have e2 := l9 d (by rw [e]; exact gl_mem hn)
        exact nz a ha.1 (by omega) (e2.symm.trans q3)
  · refine ⟨⟨i0 5 y (by decide) (by decide) (by decide) (by decide) (by decide) (by decide), i0 10 y (by decide) (by decide) (by decide) (by decide) (by decide) (by decide), i0 11 y (by decide) (by decide) (by decide) (by decide) (by decide) (by decide)⟩, fun w => ⟨va_up_ne _ _ w, ?_, ?_⟩, fun w => ?_⟩
    · show hgA Θ.2.2 a c 12 y = _
      rw [i12 y, if_neg w]
    · show hgA Θ.2.2 a c 13 y = _
      rw [i13 y, if_neg w]
    · show hgA Θ.2.2 a c 9 y = _
      rw [i9 y, if_neg w]
end
end
section
/-! the tree as lists: what the reader's pieces look like -/
abbrev Vw : Type := Nat → Int32 × Int32 × Int32 × List Nat
def vwT (Θ : TrT) (G : Nat → List Nat) : Vw := fun x => (Θ.2.2 5 x, Θ.2.2 10 x, Θ.2.2 11 x, G x)
/-- a leaf, a node with children; all within lo .. hi -/
def lfS (w : Vw) (lo hi x : Nat) (k d : Int32) : Prop := (lo ≤ x ∧ x < hi) ∧ (w x).1 = k ∧ (w x).2.2.1 = d ∧ (w x).2.2.2 = []
def ndS (w : Vw) (lo hi x : Nat) (k l : Int32) (cs : List Nat) : Prop := (lo ≤ x ∧ x < hi) ∧ (w x).1 = k ∧ (w x).2.1 = l ∧ (w x).2.2.2 = cs
/-- two views alike from lo to hi; more room -/
def Sm (w w' : Vw) (lo hi : Nat) : Prop := ∀ y, lo ≤ y → y < hi → w' y = w y
section
variable {w w' : Vw} {lo hi lo' hi' x : Nat} {k d l : Int32} {cs : List Nat}
theorem lfS.st (h : lfS w lo hi x k d) (s : Sm w w' lo hi) (h1 : lo' ≤ lo) (h2 : hi ≤ hi') : lfS w' lo' hi' x k d := by
  obtain ⟨a1, a2⟩ := h
  exact ⟨⟨by omega, by omega⟩, by rw [s x a1.1 a1.2]; exact a2⟩
theorem ndS.st (h : ndS w lo hi x k l cs) (s : Sm w w' lo hi) (h1 : lo' ≤ lo) (h2 : hi ≤ hi') : ndS w' lo' hi' x k l cs := by
  obtain ⟨a1, a2⟩ := h
  exact ⟨⟨by omega, by omega⟩, by rw [s x a1.1 a1.2]; exact a2⟩
end
def haS (w : Vw) (lo hi x p : Nat) : Prop := ∃ y, ndS w lo hi x 6 0 [y] ∧ lfS w lo hi y 1 (Int32.ofNat p)
def stS (w : Vw) (lo hi x v p : Nat) : Prop := ∃ sq e pa, ndS w lo hi x 6 0 [sq] ∧ ndS w lo hi sq 5 0 [e, pa] ∧ lfS w lo hi e 2 (Int32.ofNat v) ∧ lfS w lo hi pa 1 (Int32.ofNat p)
def waS (w : Vw) (lo hi x : Nat) (l : Int32) (im : Bool) (p : Nat) : Prop := ∃ sq pa ch ex no, ndS w lo hi x 6 0 [sq] ∧ ndS w lo hi sq 5 0 (if im = true then [ch, pa] else [pa, ch]) ∧ lfS w lo hi pa 1 (Int32.ofNat p) ∧ ndS w lo hi ch 4 l [ex, no] ∧ lfS w lo hi ex 3 2 ∧ lfS w lo hi no 0 0
def awS (w : Vw) (lo hi x : Nat) (l : Int32) (im : Bool) (p : Nat) : Prop := ∃ y, ndS w lo hi x 9 0 [y] ∧ waS w lo hi y l im p
def wkS (w : Vw) (lo hi x body : Nat) (l : Int32) (im : Bool) (p : Nat) : Prop := ∃ par sq wa ex, ndS w lo hi x 9 0 [par] ∧ ndS w lo hi par 8 0 [sq, wa] ∧ ndS w lo hi sq 5 0 [body, ex] ∧ lfS w lo hi ex 3 2 ∧ waS w lo hi wa l im p
def abS (w : Vw) (lo hi x body : Nat) (l : Int32) (p : Nat) : Prop := ∃ y, ndS w lo hi y 7 l [body] ∧ wkS w lo hi x y l false p
def evS (w : Vw) (lo hi x body aw : Nat) (l : Int32) (p2 p3 : Nat) : Prop := ∃ lp ab sq ha, ndS w lo hi x 5 0 [aw, lp] ∧ ndS w lo hi lp 6 0 [ab] ∧ abS w lo hi ab sq l p3 ∧ ndS w lo hi sq 5 0 [body, ha] ∧ haS w lo hi ha p2
section
variable {w w' : Vw} {lo hi lo' hi' x v p body aw p2 p3 : Nat} {l : Int32} {im : Bool}
theorem haS.st (h : haS w lo hi x p) (s : Sm w w' lo hi) (h1 : lo' ≤ lo) (h2 : hi ≤ hi') : haS w' lo' hi' x p := by
  obtain ⟨y, a, b⟩ := h
  exact ⟨y, a.st s h1 h2, b.st s h1 h2⟩
theorem stS.st (h : stS w lo hi x v p) (s : Sm w w' lo hi) (h1 : lo' ≤ lo) (h2 : hi ≤ hi') : stS w' lo' hi' x v p := by
  obtain ⟨y1, y2, y3, a, b, c, d⟩ := h
  exact ⟨y1, y2, y3, a.st s h1 h2, b.st s h1 h2, c.st s h1 h2, d.st s h1 h2⟩
theorem waS.st (h : waS w lo hi x l im p) (s : Sm w w' lo hi) (h1 : lo' ≤ lo) (h2 : hi ≤ hi') : waS w' lo' hi' x l im p := by
  obtain ⟨y1, y2, y3, y4, y5, a, b, c, d, e, f⟩ := h
  exact ⟨y1, y2, y3, y4, y5, a.st s h1 h2, b.st s h1 h2, c.st s h1 h2, d.st s h1 h2, e.st s h1 h2, f.st s h1 h2⟩
theorem awS.st (h : awS w lo hi x l im p) (s : Sm w w' lo hi) (h1 : lo' ≤ lo) (h2 : hi ≤ hi') : awS w' lo' hi' x l im p := by
  obtain ⟨y, a, b⟩ := h
  exact ⟨y, a.st s h1 h2, b.st s h1 h2⟩
theorem wkS.st (h : wkS w lo hi x body l im p) (s : Sm w w' lo hi) (h1 : lo' ≤ lo) (h2 : hi ≤ hi') : wkS w' lo' hi' x body l im p := by
  obtain ⟨y1, y2, y3, y4, a, b, c, d, e⟩ := h
  exact ⟨y1, y2, y3, y4, a.st s h1 h2, b.st s h1 h2, c.st s h1 h2, d.st s h1 h2, e.st s h1 h2⟩
theorem abS.st (h : abS w lo hi x body l p) (s : Sm w w' lo hi) (h1 : lo' ≤ lo) (h2 : hi ≤ hi') : abS w' lo' hi' x body l p := by
  obtain ⟨y, a, b⟩ := h
  exact ⟨y, a.st s h1 h2, b.st s h1 h2⟩
theorem evS.st (h : evS w lo hi x body aw l p2 p3) (s : Sm w w' lo hi) (h1 : lo' ≤ lo) (h2 : hi ≤ hi') : evS w' lo' hi' x body aw l p2 p3 := by
  obtain ⟨y1, y2, y3, y4, a, b, c, d, e⟩ := h
  exact ⟨y1, y2, y3, y4, a.st s h1 h2, b.st s h1 h2, c.st s h1 h2, d.st s h1 h2, e.st s h1 h2⟩
end
/-- an operation: a node x comes, those of H get a parent, at most m nodes are made, pz pauses -/
def NW (Θ Θ' : TrT) (G G' : Nat → List Nat) (x : Nat) (H : Nat → Prop) (m pz : Nat) : Prop := TG Θ' G' ∧ TE Θ Θ' G G' (fun _ => False) H ∧ NwN Θ Θ' x m ∧ Θ'.2.1 = Θ.2.1 + pz
section
variable {Θ Θ1 Θ2 : TrT} {G G1 G2 : Nat → List Nat} {O H H1 H2 : Nat → Prop} {x y a c d v m1 m2 p1 p2 lo hi : Nat} {k l : Int32} {im : Bool}
theorem TE.sm (h : TE Θ Θ1 G G1 O H) (h0 : 1 ≤ lo) (h1 : hi ≤ Θ.1) (hO : ∀ y, lo ≤ y → y < hi → ¬ O y) : Sm (vwT Θ G) (vwT Θ1 G1) lo hi := by
  intro y z1 z2
  obtain ⟨⟨a1, a2, a3⟩, a4, -⟩ := h.2 y (by omega) (by omega)
  show (Θ1.2.2 5 y, Θ1.2.2 10 y, Θ1.2.2 11 y, G1 y) = (Θ.2.2 5 y, Θ.2.2 10 y, Θ.2.2 11 y, G y)
  rw [a1, a2, a3, (a4 (hO y z1 z2)).1]
theorem NW.sm (h : NW Θ Θ1 G G1 x H m1 p1) (h0 : 1 ≤ lo) (h1 : hi ≤ Θ.1) : Sm (vwT Θ G) (vwT Θ1 G1) lo hi := h.2.1.sm h0 h1 (fun _ _ _ z => z)
theorem NW.tr (h : NW Θ Θ1 G G1 x H1 m1 p1) (k : NW Θ1 Θ2 G1 G2 y H2 m2 p2) (q1 : ∀ z, 1 ≤ z → z < Θ.1 → H1 z → H z) (q2 : ∀ z, 1 ≤ z → z < Θ.1 → H2 z → H z) : NW Θ Θ2 G G2 y H (m1 + m2) (p1 + p2) := by
  obtain ⟨-, b1, ⟨b2, b3, b4, b5⟩, b6⟩ := h
  obtain ⟨c0, c1, ⟨c2, c3, c4, c5⟩, c6⟩ := k
  exact ⟨c0, (b1.more (fun _ _ _ z => z) q1).tr c1 (fun _ _ _ z => z) q2, ⟨Nat.le_trans b1.1 c2, c3, c4, by omega⟩, by rw [c6, b6, Nat.add_assoc]⟩
/-- a node that hangs nowhere still does, once another operation was done that doesn't hang it -/
theorem NW.rt (h : NW Θ Θ1 G G1 x H m1 p1) (hc : 1 ≤ c ∧ c < Θ.1) (rc : Θ.2.2 9 c = 0) (nh : ¬ H c) : (1 ≤ c ∧ c < Θ1.1) ∧ Θ1.2.2 9 c = 0 := ⟨⟨hc.1, Nat.lt_of_lt_of_le hc.2 h.2.1.1⟩, ((h.2.1.2 c hc.1 hc.2).2.2 nh).trans rc⟩
theorem NW.own (h : NW Θ Θ1 G G1 x H m1 p1) (hT : TG Θ G) : (1 ≤ x ∧ x < Θ1.1) ∧ Θ1.2.2 9 x = 0 := ⟨⟨Nat.le_trans hT.1.1 h.2.2.1.1, h.2.2.1.2.1⟩, h.2.2.1.2.2.1⟩
theorem W_mk (hT : TG Θ G) (hf : Θ.1 < 640) (hk : k ≠ 1 ∧ k ≠ 2 ∧ k ≠ 3) : ∃ G1, NW Θ (mkT Θ k).1 G G1 (mkT Θ k).2 (fun _ => False) 1 0 ∧ ndS (vwT (mkT Θ k).1 G1) Θ.1 (mkT Θ k).1.1 (mkT Θ k).2 k 0 [] ∧ lfS (vwT (mkT Θ k).1 G1) Θ.1 (mkT Θ k).1.1 (mkT Θ k).2 k 0 := by
  obtain ⟨q1, q2, q3, q4, q5, q6, q7, q8⟩ := hT.mk (O := fun _ => False) (H := fun _ => False) hf hk
  have e := q3.2.1
  rw [q4] at e
  refine ⟨_, ⟨q1, q2, q3, q8⟩, ?_, ?_⟩
  · rw [q4]; exact ⟨⟨Nat.le_refl _, e⟩, q5, q6, va_up_self _ _ _⟩
  · rw [q4]; exact ⟨⟨Nat.le_refl _, e⟩, q5, q7, va_up_self _ _ _⟩
theorem W_pa (hT : TG Θ G) (hf : Θ.1 < 640) : ∃ G1, NW Θ (paT Θ).1 G G1 (paT Θ).2 (fun _ => False) 1 1 ∧ lfS (vwT (paT Θ).1 G1) Θ.1 (paT Θ).1.1 (paT Θ).2 1 (Int32.ofNat Θ.2.1) := by
  obtain ⟨q1, q2, q3, q4, q5, q6, q7⟩ := hT.pa (O := fun _ => False) (H := fun _ => False) hf
  have e := q3.2.1
  rw [q4] at e
  exact ⟨_, ⟨q1, q2, q3, q7⟩, by rw [q4]; exact ⟨⟨Nat.le_refl _, e⟩, q5, q6, va_up_self _ _ _⟩⟩
theorem W_em (hT : TG Θ G) (hf : Θ.1 < 640) : ∃ G1, NW Θ (emT Θ v).1 G G1 (emT Θ v).2 (fun _ => False) 1 0 ∧ lfS (vwT (emT Θ v).1 G1) Θ.1 (emT Θ v).1.1 (emT Θ v).2 2 (Int32.ofNat v) := by
  obtain ⟨q1, q2, q3, q5, q6, q7⟩ := hT.le (k := 2) (Θ' := (emT Θ v).1) (O := fun _ => False) (H := fun _ => False) hf (by decide) (by unfold leV; rw [if_pos (by decide)]) rfl
  have q4 : (emT Θ v).2 = Θ.1 := (mkT_is (k := 2) hf).1
  exact ⟨_, ⟨q1, q2, by rw [q4]; exact q3, q7⟩, by rw [q4]; exact ⟨⟨Nat.le_refl _, q3.2.1⟩, q5, q6, va_up_self _ _ _⟩⟩
theorem W_ex (hT : TG Θ G) (hf : Θ.1 < 640) : ∃ G1, NW Θ (exT Θ v).1 G G1 (exT Θ v).2 (fun _ => False) 1 0 ∧ lfS (vwT (exT Θ v).1 G1) Θ.1 (exT Θ v).1.1 (exT Θ v).2 3 (2 + Int32.ofNat v) := by
  obtain ⟨q1, q2, q3, q5, q6, q7⟩ := hT.le (k := 3) (Θ' := (exT Θ v).1) (O := fun _ => False) (H := fun _ => False) hf (by decide) (by unfold leV; rw [if_neg (by decide), if_neg (by decide), if_pos rfl]) rfl
  have q4 : (exT Θ v).2 = Θ.1 := (mkT_is (k := 3) hf).1
  exact ⟨_, ⟨q1, q2, by rw [q4]; exact q3, q7⟩, by rw [q4]; exact ⟨⟨Nat.le_refl _, q3.2.1⟩, q5, q6, va_up_self _ _ _⟩⟩
theorem W_wr (hT : TG Θ G) (hf : Θ.1 < 640) (hk : k ≠ 1 ∧ k ≠ 2 ∧ k ≠ 3) (hc : 1 ≤ c ∧ c < Θ.1) (rc : Θ.2.2 9 c = 0) : ∃ G1, NW Θ (wrT Θ k c).1 G G1 (wrT Θ k c).2 (fun y => y = c) 1 0 ∧ ndS (vwT (wrT Θ k c).1 G1) Θ.1 (wrT Θ k c).1.1 (wrT Θ k c).2 k 0 [c] := by
  obtain ⟨q1, q2, q3, q4, q5, q6, q7, q8⟩ := hT.mk (O := fun _ => False) (H := fun _ => False) hf hk
  have m2 := (mkT_is (k := k) hf).2.1
  have r1 := ((q2.2 c hc.1 hc.2).2.2 (fun z => z)).trans rc
  have rx := q3.2.2.1
  unfold wrT
  rw [q4] at rx ⊢
  obtain ⟨p1, p2, p3, p4⟩ := q1.hg (a := Θ.1) (c := c) ⟨hT.1.1, by omega⟩ ⟨hc.1, by omega⟩ (by omega) rx r1
  obtain ⟨⟨t1, t2, t3⟩, -, t5⟩ := p2.2 Θ.1 hT.1.1 (by omega)
  refine ⟨_, ⟨p1, (q2.more (fun _ _ _ z => z) (fun _ _ _ z => z.elim)).tr p2 (fun z z1 z2 z3 => by omega) (fun _ _ _ z => z), ⟨Nat.le_refl _, by rw [p3]; omega, (t5 (by omega)).trans rx, by rw [p3]; omega⟩, by rw [p4]; exact q8⟩, ⟨Nat.le_refl _, by rw [p3]; omega⟩, t1.trans q5, t2.trans q6, ?_⟩
  show va_up (va_up G Θ.1 []) Θ.1 (va_up G Θ.1 [] Θ.1 ++ [c]) Θ.1 = [c]
  rw [va_up_self, va_up_self]
  rfl
theorem W_pr (hT : TG Θ G) (hf : Θ.1 < 640) (hk : k ≠ 1 ∧ k ≠ 2 ∧ k ≠ 3) (hc : 1 ≤ c ∧ c < Θ.1) (rc : Θ.2.2 9 c = 0) (hd : 1 ≤ d ∧ d < Θ.1) (rd : Θ.2.2 9 d = 0) (hne : c ≠ d) : ∃ G1, NW Θ (prT Θ k c d).1 G G1 (prT Θ k c d).2 (fun y => y = c ∨ y = d) 1 0 ∧ ndS (vwT (prT Θ k c d).1 G1) Θ.1 (prT Θ k c d).1.1 (prT Θ k c d).2 k 0 [c, d] := by
  obtain ⟨q1, q2, q3, q4, q5, q6, q7, q8⟩ := hT.mk (O := fun _ => False) (H := fun _ => False) hf hk
  have m2 := (mkT_is (k := k) hf).2.1
  have r1 := ((q2.2 c hc.1 hc.2).2.2 (fun z => z)).trans rc
  have r2 := ((q2.2 d hd.1 hd.2).2.2 (fun z => z)).trans rd
  have rx := q3.2.2.1
  unfold prT
  rw [q4] at rx ⊢
  obtain ⟨p1, p2, p3, p4⟩ := q1.hg (a := Θ.1) (c := c) ⟨hT.1.1, by omega⟩ ⟨hc.1, by omega⟩ (by omega) rx r1
  obtain ⟨⟨t1, t2, t3⟩, -, t5⟩ := p2.2 Θ.1 hT.1.1 (by omega)
  have rx2 := (t5 (by omega)).trans rx
  have r3 := ((p2.2 d hd.1 (by omega)).2.2 (fun z => hne z.symm)).trans r2
  obtain ⟨s1, s2, s3, s4⟩ := p1.hg (a := Θ.1) (c := d) ⟨hT.1.1, by rw [p3]; omega⟩ ⟨hd.1, by rw [p3]; omega⟩ (by omega) rx2 r3
  obtain ⟨⟨u1, u2, u3⟩, -, u5⟩ := s2.2 Θ.1 hT.1.1 (by rw [p3]; omega)
  refine ⟨_, ⟨s1, ((q2.more (fun _ _ _ z => z) (fun _ _ _ z => z.elim)).tr p2 (fun z z1 z2 z3 => by omega) (fun _ _ _ z => Or.inl z)).tr s2 (fun z z1 z2 z3 => by omega) (fun _ _ _ z => Or.inr z), ⟨Nat.le_refl _, by rw [s3, p3]; omega, (u5 (by omega)).trans rx2, by rw [s3, p3]; omega⟩, by rw [s4, p4]; exact q8⟩, ⟨Nat.le_refl _, by rw [s3, p3]; omega⟩, (u1.trans t1).trans q5, (u2.trans t2).trans q6, ?_⟩
  show va_up (va_up (va_up G Θ.1 []) Θ.1 (va_up G Θ.1 [] Θ.1 ++ [c])) Θ.1 (va_up (va_up G Θ.1 []) Θ.1 (va_up G Θ.1 [] Θ.1 ++ [c]) Θ.1 ++ [d]) Θ.1 = [c, d]
  rw [va_up_self, va_up_self, va_up_self]
  rfl
end
end
section
/-! the tree as lists: the reader's pieces, put together -/
section
variable {Θ Θ1 Θ2 : TrT} {G G1 G2 : Nat → List Nat} {O H H1 H2 : Nat → Prop} {x y a c d v m1 m2 p1 p2 lo hi : Nat} {k l : Int32} {im : Bool} {cs : List Nat}
theorem Sm.rf {w : Vw} : Sm w w lo hi := fun _ _ _ => rfl
theorem cdT_is : ∀ q z, q ≠ 10 → (cdT Θ a l).2.2 q z = Θ.2.2 q z := fun q z h => up2_ne (fun y => h y.1)
theorem TG.cd (hT : TG Θ G) : TG (cdT Θ a l) G := by
  obtain ⟨h1, h2, h3⟩ := hT
  have e := cdT_is (Θ := Θ) (a := a) (l := l)
  refine ⟨h1, fun z z1 z2 => ?_, fun z z1 z2 z3 => ?_⟩
  · obtain ⟨a1, a2, a3, a4, a5⟩ := h2 z z1 z2
    have f12 : (cdT Θ a l).2.2 12 = Θ.2.2 12 := funext fun y => e 12 y (by decide)
    have f13 : (cdT Θ a l).2.2 13 = Θ.2.2 13 := funext fun y => e 13 y (by decide)
    refine ⟨a1.cg (e 6 z (by decide)) (e 7 z (by decide)) (fun y _ => e 8 y (by decide)) (fun y _ => e 9 y (by decide)), a2, a3, ?_, ?_⟩
    · rw [f12, e 5 z (by decide), e 11 z (by decide)]; exact a4
    · rw [f13, e 5 z (by decide), e 11 z (by decide)]; exact a5
  · rw [e 8 z (by decide)]
    rw [e 9 z (by decide)] at z3
    exact h3 z z1 z2 z3
theorem NW.cd (h : NW Θ Θ1 G G1 x H m1 p1) : NW Θ (cdT Θ1 x l) G G1 x H m1 p1 := by
  obtain ⟨h1, h2, ⟨h3, h4, h5, h6⟩, h7⟩ := h
  have e := cdT_is (Θ := Θ1) (a := x) (l := l)
  refine ⟨h1.cd, ⟨h2.1, fun z z1 z2 => ?_⟩, ⟨h3, h4, (e 9 x (by decide)).trans h5, h6⟩, h7⟩
  obtain ⟨⟨a1, a2, a3⟩, a4, a5⟩ := h2.2 z z1 z2
  have e10 : (cdT Θ1 x l).2.2 10 z = Θ1.2.2 10 z := up2_ne (fun w => by omega)
  exact ⟨⟨(e 5 z (by decide)).trans a1, e10.trans a2, (e 11 z (by decide)).trans a3⟩, fun n => ⟨(a4 n).1, (e 12 z (by decide)).trans (a4 n).2.1, (e 13 z (by decide)).trans (a4 n).2.2⟩, fun n => (e 9 z (by decide)).trans (a5 n)⟩
theorem ndS.cd {l0 : Int32} (h : ndS (vwT Θ G) lo hi x k l0 cs) : ndS (vwT (cdT Θ x l) G) lo hi x k l cs := by
  obtain ⟨h1, h2, h3, h4⟩ := h
  exact ⟨h1, ((cdT_is (Θ := Θ) (a := x) (l := l) 5 x (by decide)).trans h2), up2_eq, h4⟩
theorem W_ch (hT : TG Θ G) (hf : Θ.1 < 640) (hc : 1 ≤ c ∧ c < Θ.1) (rc : Θ.2.2 9 c = 0) (hd : 1 ≤ d ∧ d < Θ.1) (rd : Θ.2.2 9 d = 0) (hne : c ≠ d) : ∃ G1, NW Θ (chT Θ l c d).1 G G1 (chT Θ l c d).2 (fun y => y = c ∨ y = d) 1 0 ∧ ndS (vwT (chT Θ l c d).1 G1) Θ.1 (chT Θ l c d).1.1 (chT Θ l c d).2 4 l [c, d] := by
  obtain ⟨G1, n1, s1⟩ := W_pr (k := 4) hT hf (by decide) hc rc hd rd hne
  exact ⟨G1, n1.cd, s1.cd⟩
theorem W_su (hT : TG Θ G) (hf : Θ.1 < 640) (hc : 1 ≤ c ∧ c < Θ.1) (rc : Θ.2.2 9 c = 0) : ∃ G1, NW Θ (suT Θ c l).1 G G1 (suT Θ c l).2 (fun y => y = c) 1 0 ∧ ndS (vwT (suT Θ c l).1 G1) Θ.1 (suT Θ c l).1.1 (suT Θ c l).2 7 l [c] := by
  obtain ⟨G1, n1, s1⟩ := W_wr (k := 7) hT hf (by decide) hc rc
  exact ⟨G1, n1.cd, s1.cd⟩
theorem NW.ge (h : NW Θ Θ1 G G1 x H m1 p1) : Θ.1 ≤ x ∧ x < Θ1.1 ∧ Θ1.1 ≤ Θ.1 + m1 ∧ Θ.1 ≤ Θ1.1 := ⟨h.2.2.1.1, h.2.2.1.2.1, h.2.2.1.2.2.2, h.2.1.1⟩
theorem W_ha (hT : TG Θ G) (hf : Θ.1 + 2 ≤ 640) : ∃ G1, NW Θ (haT Θ).1 G G1 (haT Θ).2 (fun _ => False) 2 1 ∧ haS (vwT (haT Θ).1 G1) Θ.1 (haT Θ).1.1 (haT Θ).2 Θ.2.1 := by
  have h1 := hT.1.1
  obtain ⟨G1, n1, s1⟩ := W_pa hT (by omega)
  have g1 := n1.ge
  obtain ⟨o1, r1⟩ := n1.own hT
  obtain ⟨G2, n2, s2⟩ := W_wr (k := 6) n1.1 (by omega) (by decide) o1 r1
  have g2 := n2.ge
  exact ⟨G2, n1.tr n2 (fun _ _ _ z => z) (fun z z1 z2 z3 => by omega), _, s2.st Sm.rf g1.2.2.2 (Nat.le_refl _), s1.st (n2.sm h1 (Nat.le_refl _)) (Nat.le_refl _) g2.2.2.2⟩
theorem W_st (hT : TG Θ G) (hf : Θ.1 + 4 ≤ 640) : ∃ G1, NW Θ (stT Θ v).1 G G1 (stT Θ v).2 (fun _ => False) 4 1 ∧ stS (vwT (stT Θ v).1 G1) Θ.1 (stT Θ v).1.1 (stT Θ v).2 v Θ.2.1 := by
  have h1 := hT.1.1
  obtain ⟨G1, n1, s1⟩ := W_em (v := v) hT (by omega)
  have g1 := n1.ge
  obtain ⟨o1, r1⟩ := n1.own hT
  obtain ⟨G2, n2, s2⟩ := W_pa n1.1 (by omega)
  have g2 := n2.ge
  obtain ⟨o2, r2⟩ := n2.own n1.1
  obtain ⟨o1', r1'⟩ := n2.rt o1 r1 (fun z => z)
  obtain ⟨G3, n3, s3⟩ := W_pr (k := 5) n2.1 (by omega) (by decide) o1' r1' o2 r2 (by omega)
  have g3 := n3.ge
  obtain ⟨o3, r3⟩ := n3.own n2.1
  obtain ⟨G4, n4, s4⟩ := W_wr (k := 6) n3.1 (by omega) (by decide) o3 r3
  have g4 := n4.ge
  have k34 : NW _ _ G2 G4 _ (fun _ => True) _ _ := n3.tr n4 (fun _ _ _ _ => trivial) (fun _ _ _ _ => trivial)
  have k24 : NW _ _ G1 G4 _ (fun _ => True) _ _ := n2.tr k34 (fun _ _ _ _ => trivial) (fun _ _ _ _ => trivial)
  have pz : (emT Θ v).1.2.1 = Θ.2.1 := n1.2.2.2
  refine ⟨G4, ((n1.tr n2 (H := fun _ => False) (fun _ _ _ z => z) (fun _ _ _ z => z)).tr n3 (H := fun _ => False) (fun _ _ _ z => z) (fun z z1 z2 z3 => by omega)).tr n4 (fun _ _ _ z => z) (fun z z1 z2 z3 => by omega), _, _, _, s4.st Sm.rf (by omega) (Nat.le_refl _), s3.st (n4.sm (by omega) (Nat.le_refl _)) (by omega) g4.2.2.2, s1.st (k24.sm h1 (Nat.le_refl _)) (Nat.le_refl _) (by show _ ≤ (stT Θ v).1.1; exact k24.2.1.1), ?_⟩
  have q := s2.st (k34.sm (by omega) (Nat.le_refl _)) g1.2.2.2 k34.2.1.1
  rw [pz] at q
  exact q
theorem W_wa (hT : TG Θ G) (hf : Θ.1 + 6 ≤ 640) : ∃ G1, NW Θ (waT Θ l im).1 G G1 (waT Θ l im).2 (fun _ => False) 6 1 ∧ waS (vwT (waT Θ l im).1 G1) Θ.1 (waT Θ l im).1.1 (waT Θ l im).2 l im Θ.2.1 := by
  have h1 := hT.1.1
  obtain ⟨G1, n1, s1⟩ := W_pa hT (by omega)
  have g1 := n1.ge
  obtain ⟨o1, r1⟩ := n1.own hT
  obtain ⟨G2, n2, s2⟩ := W_ex (v := 0) n1.1 (by omega)
  have g2 := n2.ge
  obtain ⟨o2, r2⟩ := n2.own n1.1
  obtain ⟨o12, r12⟩ := n2.rt o1 r1 (fun z => z)
  obtain ⟨G3, n3, -, s3⟩ := W_mk (k := 0) n2.1 (by omega) (by decide)
  have g3 := n3.ge
  obtain ⟨o3, r3⟩ := n3.own n2.1
  obtain ⟨o13, r13⟩ := n3.rt o12 r12 (fun z => z)
  obtain ⟨o23, r23⟩ := n3.rt o2 r2 (fun z => z)
  have n3 : NW (exT (paT Θ).1 0).1 (wt1 Θ).1 G2 G3 (wt1 Θ).2 (fun _ => False) 1 0 := n3
  obtain ⟨G4, n4, s4⟩ := W_ch (l := l) n3.1 (show (wt1 Θ).1.1 < 640 by have := n3.ge; omega) o23 r23 o3 r3 (by omega)
  have n4 : NW (wt1 Θ).1 (wt2 Θ l).1 G3 G4 (wt2 Θ l).2 (fun y => y = (exT (paT Θ).1 0).2 ∨ y = (wt1 Θ).2) 1 0 := n4
  have g3 := n3.ge
  have g4 := n4.ge
  obtain ⟨o4, r4⟩ := n4.own n3.1
  have o13' : 1 ≤ (paT Θ).2 ∧ (paT Θ).2 < (wt1 Θ).1.1 := o13
  obtain ⟨o14, r14⟩ := n4.rt o13' r13 (by omega)
  have h5 : ∃ G5, NW (wt2 Θ l).1 (wt3 Θ l im).1 G4 G5 (wt3 Θ l im).2 (fun y => y = (paT Θ).2 ∨ y = (wt2 Θ l).2) 1 0 ∧ ndS (vwT (wt3 Θ l im).1 G5) (wt2 Θ l).1.1 (wt3 Θ l im).1.1 (wt3 Θ l im).2 5 0 (if im = true then [(wt2 Θ l).2, (paT Θ).2] else [(paT Θ).2, (wt2 Θ l).2]) := by
    cases im with
    | true =>
      obtain ⟨G5, n5, s5⟩ := W_pr (k := 5) n4.1 (by omega) (by decide) o4 r4 o14 r14 (by omega)
      exact ⟨G5, ⟨n5.1, n5.2.1.more (fun _ _ _ z => z) (fun _ _ _ z => z.symm), n5.2.2⟩, s5⟩
    | false => exact W_pr (k := 5) n4.1 (by omega) (by decide) o14 r14 o4 r4 (by omega)
  obtain ⟨G5, n5, s5⟩ := h5
  have g5 := n5.ge
  obtain ⟨o5, r5⟩ := n5.own n4.1
  obtain ⟨G6, n6, s6⟩ := W_wr (k := 6) n5.1 (by omega) (by decide) o5 r5
  have n6 : NW (wt3 Θ l im).1 (waT Θ l im).1 G5 G6 (waT Θ l im).2 (fun y => y = (wt3 Θ l im).2) 1 0 := n6
  have g6 := n6.ge
  have k56 : NW _ _ G4 G6 _ (fun _ => True) _ _ := n5.tr n6 (fun _ _ _ _ => trivial) (fun _ _ _ _ => trivial)
  have k46 : NW _ _ G3 G6 _ (fun _ => True) _ _ := n4.tr k56 (fun _ _ _ _ => trivial) (fun _ _ _ _ => trivial)
  have k36 : NW _ _ G2 G6 _ (fun _ => True) _ _ := n3.tr k46 (fun _ _ _ _ => trivial) (fun _ _ _ _ => trivial)
  have k26 : NW _ _ G1 G6 _ (fun _ => True) _ _ := n2.tr k36 (fun _ _ _ _ => trivial) (fun _ _ _ _ => trivial)
  refine ⟨G6, ((((n1.tr n2 (H := fun _ => False) (fun _ _ _ z => z) (fun _ _ _ z => z)).tr n3 (H := fun _ => False) (fun _ _ _ z => z) (fun _ _ _ z => z)).tr n4 (H := fun _ => False) (fun _ _ _ z => z) (fun z z1 z2 z3 => by omega)).tr n5 (H := fun _ => False) (fun _ _ _ z => z) (fun z z1 z2 z3 => by omega)).tr n6 (fun _ _ _ z => z) (fun z z1 z2 z3 => by omega), _, _, _, _, _, s6.st Sm.rf (by omega) (Nat.le_refl _), s5.st (n6.sm (by omega) (Nat.le_refl _)) (by omega) g6.2.2.2, s1.st (k26.sm h1 (Nat.le_refl _)) (Nat.le_refl _) k26.2.1.1, s4.st (k56.sm (by omega) (Nat.le_refl _)) (by omega) k56.2.1.1, s2.st (k36.sm (by omega) (Nat.le_refl _)) (by omega) k36.2.1.1, s3.st (k46.sm (by omega) (Nat.le_refl _)) (by omega) k46.2.1.1⟩
end
end
section
/-! the tree as lists: await, weak abort, abort, every -/
/-- abort at once: a choice over it -/
def aiS (w : Vw) (lo hi x body : Nat) (l : Int32) (im : Bool) (p : Nat) : Prop := if im = true then ∃ no y, ndS w lo hi x 4 l [no, y] ∧ lfS w lo hi no 0 0 ∧ abS w lo hi y body l p else abS w lo hi x body l p
section
variable {Θ Θ1 Θ2 : TrT} {G G1 G2 : Nat → List Nat} {O H H1 H2 : Nat → Prop} {x y a c d v m1 m2 p1 p2 lo hi : Nat} {k l : Int32} {im : Bool} {cs : List Nat}
theorem W_aw (hT : TG Θ G) (hf : Θ.1 + 7 ≤ 640) : ∃ G1, NW Θ (awT Θ l im).1 G G1 (awT Θ l im).2 (fun _ => False) 7 1 ∧ awS (vwT (awT Θ l im).1 G1) Θ.1 (awT Θ l im).1.1 (awT Θ l im).2 l im Θ.2.1 := by
  have h1 := hT.1.1
  obtain ⟨G1, n1, s1⟩ := W_wa (l := l) (im := im) hT (by omega)
  have g1 := n1.ge
  obtain ⟨o1, r1⟩ := n1.own hT
  obtain ⟨G2, n2, s2⟩ := W_wr (k := 9) n1.1 (by omega) (by decide) o1 r1
  have n2 : NW (waT Θ l im).1 (awT Θ l im).1 G1 G2 (awT Θ l im).2 (fun y => y = (waT Θ l im).2) 1 0 := n2
  have g2 := n2.ge
  exact ⟨G2, n1.tr n2 (fun _ _ _ z => z) (fun z z1 z2 z3 => by omega), _, s2.st Sm.rf g1.2.2.2 (Nat.le_refl _), s1.st (n2.sm h1 (Nat.le_refl _)) (Nat.le_refl _) g2.2.2.2⟩
theorem W_wk (hT : TG Θ G) (hf : Θ.1 + 10 ≤ 640) (hc : 1 ≤ c ∧ c < Θ.1) (rc : Θ.2.2 9 c = 0) : ∃ G1, NW Θ (wkT Θ c l im).1 G G1 (wkT Θ c l im).2 (fun y => y = c) 10 1 ∧ wkS (vwT (wkT Θ c l im).1 G1) Θ.1 (wkT Θ c l im).1.1 (wkT Θ c l im).2 c l im Θ.2.1 := by
  have h1 := hT.1.1
  obtain ⟨G1, n1, s1⟩ := W_ex (v := 0) hT (by omega)
  have g1 := n1.ge
  obtain ⟨o1, r1⟩ := n1.own hT
  obtain ⟨oc, rc1⟩ := n1.rt hc rc (fun z => z)
  obtain ⟨G2, n2, s2⟩ := W_pr (k := 5) n1.1 (by omega) (by decide) oc rc1 o1 r1 (by omega)
  have n2 : NW (exT Θ 0).1 (wk1 Θ c).1 G1 G2 (wk1 Θ c).2 (fun y => y = c ∨ y = (exT Θ 0).2) 1 0 := n2
  have s2 : ndS (vwT (wk1 Θ c).1 G2) (exT Θ 0).1.1 (wk1 Θ c).1.1 (wk1 Θ c).2 5 0 [c, (exT Θ 0).2] := s2
  have g2 := n2.ge
  obtain ⟨o2, r2⟩ := n2.own n1.1
  obtain ⟨G3, n3, s3⟩ := W_wa (l := l) (im := im) n2.1 (by omega)
  have n3 : NW (wk1 Θ c).1 (wk2 Θ c l im).1 G2 G3 (wk2 Θ c l im).2 (fun _ => False) 6 1 := n3
  have s3 : waS (vwT (wk2 Θ c l im).1 G3) (wk1 Θ c).1.1 (wk2 Θ c l im).1.1 (wk2 Θ c l im).2 l im (wk1 Θ c).1.2.1 := s3
  have g3 := n3.ge
  obtain ⟨o3, r3⟩ := n3.own n2.1
  obtain ⟨o23, r23⟩ := n3.rt o2 r2 (fun z => z)
  obtain ⟨G4, n4, s4⟩ := W_pr (k := 8) n3.1 (by omega) (by decide) o23 r23 o3 r3 (by omega)
  have n4 : NW (wk2 Θ c l im).1 (wk3 Θ c l im).1 G3 G4 (wk3 Θ c l im).2 (fun y => y = (wk1 Θ c).2 ∨ y = (wk2 Θ c l im).2) 1 0 := n4
  have s4 : ndS (vwT (wk3 Θ c l im).1 G4) (wk2 Θ c l im).1.1 (wk3 Θ c l im).1.1 (wk3 Θ c l im).2 8 0 [(wk1 Θ c).2, (wk2 Θ c l im).2] := s4
  have g4 := n4.ge
  obtain ⟨o4, r4⟩ := n4.own n3.1
  obtain ⟨G5, n5, s5⟩ := W_wr (k := 9) n4.1 (by omega) (by decide) o4 r4
  have n5 : NW (wk3 Θ c l im).1 (wkT Θ c l im).1 G4 G5 (wkT Θ c l im).2 (fun y => y = (wk3 Θ c l im).2) 1 0 := n5
  have g5 := n5.ge
  have k45 : NW _ _ G3 G5 _ (fun _ => True) _ _ := n4.tr n5 (fun _ _ _ _ => trivial) (fun _ _ _ _ => trivial)
  have k35 : NW _ _ G2 G5 _ (fun _ => True) _ _ := n3.tr k45 (fun _ _ _ _ => trivial) (fun _ _ _ _ => trivial)
  have k25 : NW _ _ G1 G5 _ (fun _ => True) _ _ := n2.tr k35 (fun _ _ _ _ => trivial) (fun _ _ _ _ => trivial)
  have pz : (wk1 Θ c).1.2.1 = Θ.2.1 := n2.2.2.2.trans n1.2.2.2
  refine ⟨G5, (((n1.tr n2 (H := fun y => y = c) (fun _ _ _ z => z.elim) (fun z z1 z2 z3 => by omega)).tr n3 (H := fun y => y = c) (fun _ _ _ z => z) (fun _ _ _ z => z.elim)).tr n4 (H := fun y => y = c) (fun _ _ _ z => z) (fun z z1 z2 z3 => by omega)).tr n5 (fun _ _ _ z => z) (fun z z1 z2 z3 => by omega), _, _, _, _, s5.st Sm.rf (by omega) (Nat.le_refl _), s4.st (n5.sm (by omega) (Nat.le_refl _)) (by omega) g5.2.2.2, s2.st (k35.sm (by omega) (Nat.le_refl _)) (by omega) k35.2.1.1, s1.st (k25.sm h1 (Nat.le_refl _)) (Nat.le_refl _) k25.2.1.1, ?_⟩
  have q := s3.st (k45.sm (by omega) (Nat.le_refl _)) (show Θ.1 ≤ _ by omega) k45.2.1.1
  rw [pz] at q
  exact q
theorem W_ab (hT : TG Θ G) (hf : Θ.1 + 11 ≤ 640) (hc : 1 ≤ c ∧ c < Θ.1) (rc : Θ.2.2 9 c = 0) : ∃ G1, NW Θ (abT Θ c l).1 G G1 (abT Θ c l).2 (fun y => y = c) 11 1 ∧ abS (vwT (abT Θ c l).1 G1) Θ.1 (abT Θ c l).1.1 (abT Θ c l).2 c l Θ.2.1 := by
  have h1 := hT.1.1
  obtain ⟨G1, n1, s1⟩ := W_su (l := l) hT (by omega) hc rc
  have g1 := n1.ge
  obtain ⟨o1, r1⟩ := n1.own hT
  obtain ⟨G2, n2, s2⟩ := W_wk (l := l) (im := false) n1.1 (by omega) o1 r1
  have n2 : NW (suT Θ c l).1 (abT Θ c l).1 G1 G2 (abT Θ c l).2 (fun y => y = (suT Θ c l).2) 10 1 := n2
  have s2 : wkS (vwT (abT Θ c l).1 G2) (suT Θ c l).1.1 (abT Θ c l).1.1 (abT Θ c l).2 (suT Θ c l).2 l false (suT Θ c l).1.2.1 := s2
  have g2 := n2.ge
  have pz : (suT Θ c l).1.2.1 = Θ.2.1 := n1.2.2.2
  refine ⟨G2, n1.tr n2 (fun _ _ _ z => z) (fun z z1 z2 z3 => by omega), _, s1.st (n2.sm h1 (Nat.le_refl _)) (Nat.le_refl _) g2.2.2.2, ?_⟩
  rw [pz] at s2
  exact s2.st Sm.rf g1.2.2.2 (Nat.le_refl _)
theorem aiS_f {w : Vw} : aiS w lo hi x y l false p1 = abS w lo hi x y l p1 := if_neg Bool.false_ne_true
theorem aiS_t {w : Vw} : aiS w lo hi x y l true p1 = ∃ no z, ndS w lo hi x 4 l [no, z] ∧ lfS w lo hi no 0 0 ∧ abS w lo hi z y l p1 := if_pos rfl
theorem NW.mo (h : NW Θ Θ1 G G1 x H m1 p1) (hm : m1 ≤ m2) : NW Θ Θ1 G G1 x H m2 p1 := ⟨h.1, h.2.1, ⟨h.2.2.1.1, h.2.2.1.2.1, h.2.2.1.2.2.1, by have := h.2.2.1.2.2.2; omega⟩, h.2.2.2⟩
theorem W_ai (hT : TG Θ G) (hf : Θ.1 + 13 ≤ 640) (hc : 1 ≤ c ∧ c < Θ.1) (rc : Θ.2.2 9 c = 0) : ∃ G1, NW Θ (abF Θ c l im).1 G G1 (abF Θ c l im).2 (fun y => y = c) 13 1 ∧ aiS (vwT (abF Θ c l im).1 G1) Θ.1 (abF Θ c l im).1.1 (abF Θ c l im).2 c l im Θ.2.1 := by
  have h1 := hT.1.1
  obtain ⟨G1, n1, s1⟩ := W_ab (l := l) hT (by omega) hc rc
  have eF : abF Θ c l false = abT Θ c l := if_neg Bool.false_ne_true
  have eT : abF Θ c l true = chT (mkT (abT Θ c l).1 0).1 l (mkT (abT Θ c l).1 0).2 (abT Θ c l).2 := if_pos rfl
  generalize abF Θ c l = F at eF eT ⊢
  generalize abT Θ c l = A at n1 s1 eF eT
  have g1 := n1.ge
  obtain ⟨o1, r1⟩ := n1.own hT
  cases im with
  | false => rw [eF]; exact ⟨G1, n1.mo (by decide), by rw [aiS_f]; exact s1⟩
  | true =>
    rw [eT]
    obtain ⟨G2, n2, -, s2⟩ := W_mk (k := 0) n1.1 (by omega) (by decide)
    have g2 := n2.ge
    obtain ⟨o2, r2⟩ := n2.own n1.1
    obtain ⟨o12, r12⟩ := n2.rt o1 r1 (fun z => z)
    generalize mkT A.1 0 = B at n2 s2 g2 o2 r2 o12 r12 ⊢
    obtain ⟨G3, n3, s3⟩ := W_ch (l := l) n2.1 (by omega) o2 r2 o12 r12 (by omega)
    generalize chT B.1 l B.2 A.2 = C at n3 s3 ⊢
    have g3 := n3.ge
    have k23 : NW _ _ G1 G3 _ (fun _ => True) _ _ := n2.tr n3 (fun _ _ _ _ => trivial) (fun _ _ _ _ => trivial)
    refine ⟨G3, (n1.tr n2 (H := fun y => y = c) (fun _ _ _ z => z) (fun _ _ _ z => z.elim)).tr n3 (fun _ _ _ z => z) (fun z z1 z2 z3 => by omega), ?_⟩
    rw [aiS_t]
    exact ⟨_, _, s3.st Sm.rf (by omega) (Nat.le_refl _), s2.st (n3.sm (by omega) (Nat.le_refl _)) g1.2.2.2 g3.2.2.2, s1.st (k23.sm h1 (Nat.le_refl _)) (Nat.le_refl _) k23.2.1.1⟩
theorem W_ev (hT : TG Θ G) (hf : Θ.1 + 16 ≤ 640) (hc : 1 ≤ c ∧ c < Θ.1) (rc : Θ.2.2 9 c = 0) (hd : 1 ≤ d ∧ d < Θ.1) (rd : Θ.2.2 9 d = 0) (hne : c ≠ d) : ∃ G1, NW Θ (evT Θ c d l).1 G G1 (evT Θ c d l).2 (fun y => y = c ∨ y = d) 16 2 ∧ evS (vwT (evT Θ c d l).1 G1) Θ.1 (evT Θ c d l).1.1 (evT Θ c d l).2 c d l Θ.2.1 (Θ.2.1 + 1) := by
  have h1 := hT.1.1
  obtain ⟨G1, n1, s1⟩ := W_ha hT (by omega)
  have g1 := n1.ge
  obtain ⟨o1, r1⟩ := n1.own hT
  obtain ⟨oc1, rc1⟩ := n1.rt hc rc (fun z => z)
  obtain ⟨od1, rd1⟩ := n1.rt hd rd (fun z => z)
  obtain ⟨G2, n2, s2⟩ := W_pr (k := 5) n1.1 (by omega) (by decide) oc1 rc1 o1 r1 (by omega)
  have n2 : NW (haT Θ).1 (ev1 Θ c).1 G1 G2 (ev1 Θ c).2 (fun y => y = c ∨ y = (haT Θ).2) 1 0 := n2
  have s2 : ndS (vwT (ev1 Θ c).1 G2) (haT Θ).1.1 (ev1 Θ c).1.1 (ev1 Θ c).2 5 0 [c, (haT Θ).2] := s2
  have g2 := n2.ge
  obtain ⟨o2, r2⟩ := n2.own n1.1
  obtain ⟨od2, rd2⟩ := n2.rt od1 rd1 (by omega)
  obtain ⟨G3, n3, s3⟩ := W_ab (l := l) n2.1 (by omega) o2 r2
  have n3 : NW (ev1 Θ c).1 (ev2 Θ c l).1 G2 G3 (ev2 Θ c l).2 (fun y => y = (ev1 Θ c).2) 11 1 := n3
  have s3 : abS (vwT (ev2 Θ c l).1 G3) (ev1 Θ c).1.1 (ev2 Θ c l).1.1 (ev2 Θ c l).2 (ev1 Θ c).2 l (ev1 Θ c).1.2.1 := s3
  have g3 := n3.ge
  obtain ⟨o3, r3⟩ := n3.own n2.1
  obtain ⟨od3, rd3⟩ := n3.rt od2 rd2 (by omega)
  obtain ⟨G4, n4, s4⟩ := W_wr (k := 6) n3.1 (by omega) (by decide) o3 r3
  have n4 : NW (ev2 Θ c l).1 (ev3 Θ c l).1 G3 G4 (ev3 Θ c l).2 (fun y => y = (ev2 Θ c l).2) 1 0 := n4
  have s4 : ndS (vwT (ev3 Θ c l).1 G4) (ev2 Θ c l).1.1 (ev3 Θ c l).1.1 (ev3 Θ c l).2 6 0 [(ev2 Θ c l).2] := s4
  have g4 := n4.ge
  obtain ⟨o4, r4⟩ := n4.own n3.1
  obtain ⟨od4, rd4⟩ := n4.rt od3 rd3 (by omega)
  obtain ⟨G5, n5, s5⟩ := W_pr (k := 5) n4.1 (by omega) (by decide) od4 rd4 o4 r4 (by omega)
  have n5 : NW (ev3 Θ c l).1 (evT Θ c d l).1 G4 G5 (evT Θ c d l).2 (fun y => y = d ∨ y = (ev3 Θ c l).2) 1 0 := n5
  have s5 : ndS (vwT (evT Θ c d l).1 G5) (ev3 Θ c l).1.1 (evT Θ c d l).1.1 (evT Θ c d l).2 5 0 [d, (ev3 Θ c l).2] := s5
  have g5 := n5.ge
  have k45 : NW _ _ G3 G5 _ (fun _ => True) _ _ := n4.tr n5 (fun _ _ _ _ => trivial) (fun _ _ _ _ => trivial)
  have k35 : NW _ _ G2 G5 _ (fun _ => True) _ _ := n3.tr k45 (fun _ _ _ _ => trivial) (fun _ _ _ _ => trivial)
  have k25 : NW _ _ G1 G5 _ (fun _ => True) _ _ := n2.tr k35 (fun _ _ _ _ => trivial) (fun _ _ _ _ => trivial)
  have pz : (ev1 Θ c).1.2.1 = Θ.2.1 + 1 := n2.2.2.2.trans n1.2.2.2
  rw [pz] at s3
  exact ⟨G5, (((n1.tr n2 (H := fun y => y = c ∨ y = d) (fun _ _ _ z => z.elim) (fun z z1 z2 z3 => by omega)).tr n3 (H := fun y => y = c ∨ y = d) (fun _ _ _ z => z) (fun z z1 z2 z3 => by omega)).tr n4 (H := fun y => y = c ∨ y = d) (fun _ _ _ z => z) (fun z z1 z2 z3 => by omega)).tr n5 (fun _ _ _ z => z) (fun z z1 z2 z3 => by omega), _, _, _, _, s5.st Sm.rf (by omega) (Nat.le_refl _), s4.st (n5.sm (by omega) (Nat.le_refl _)) (by omega) g5.2.2.2, s3.st (k45.sm (by omega) (Nat.le_refl _)) (by omega) k45.2.1.1, s2.st (k35.sm (by omega) (Nat.le_refl _)) (by omega) k35.2.1.1, s1.st (k25.sm h1 (Nat.le_refl _)) (Nat.le_refl _) k25.2.1.1⟩
end
end
