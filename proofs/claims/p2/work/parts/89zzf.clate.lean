/-! the class: its first token; the faults that are told late -/
section
variable {b : Nat → Int32} {n s n0 : Nat} {M N M' : Mem} {i o h : Nat} {Q : Option Value → Mem → Prop}
theorem bg_ti (FN : Fix N) (hn : n ≤ 800) (hs : s ≤ n) (hR : ∀ j, j ≤ s → TkR N b n j) : (tK b n 0 ≠ 0 → TI b n s (bgF N) 0 0) ∧ (tK b n 0 = 0 → TF (bgF N) 1 (tP b n 0)) := by
  have r0 := hR 0 (Nat.zero_le _)
  unfold bgF
  obtain ⟨L, hL⟩ : ∃ L, L = wI (wI (wI (wI N 15 7 0) 15 8 0) 15 12 0) 15 13 0 := ⟨_, rfl⟩
  rw [← hL]
  have e12 : mI L 15 12 = 0 := by rw [hL]; simp [mNwI, mSwI, mKwI, mIwI, mJwI, mRwI, mLwI, mAIwI, mAJwI, mARwI, mNwJ, mSwJ, mKwJ, mIwJ, mJwJ, mRwJ, mLwJ, mAIwJ, mAJwJ, mARwJ, mNwR, mSwR, mKwR, mIwR, mJwR, mRwR, mLwR, mAIwR, mAJwR, mARwR, mNwAI, mSwAI, mKwAI, mIwAI, mJwAI, mRwAI, mLwAI, mAIwAI, mAJwAI, mARwAI, mNwAJ, mSwAJ, mKwAJ, mIwAJ, mJwAJ, mRwAJ, mLwAJ, mAIwAJ, mAJwAJ, mARwAJ, mNwAR, mSwAR, mKwAR, mIwAR, mJwAR, mRwAR, mLwAR, mAIwAR, mAJwAR, mARwAR, okkwI, okkwJ, okkwR, okkwAI, okkwAJ, okkwAR]
  have e7 : mI L 15 7 = Int32.ofNat 0 := by rw [hL]; simp [mNwI, mSwI, mKwI, mIwI, mJwI, mRwI, mLwI, mAIwI, mAJwI, mARwI, mNwJ, mSwJ, mKwJ, mIwJ, mJwJ, mRwJ, mLwJ, mAIwJ, mAJwJ, mARwJ, mNwR, mSwR, mKwR, mIwR, mJwR, mRwR, mLwR, mAIwR, mAJwR, mARwR, mNwAI, mSwAI, mKwAI, mIwAI, mJwAI, mRwAI, mLwAI, mAIwAI, mAJwAI, mARwAI, mNwAJ, mSwAJ, mKwAJ, mIwAJ, mJwAJ, mRwAJ, mLwAJ, mAIwAJ, mAJwAJ, mARwAJ, mNwAR, mSwAR, mKwAR, mIwAR, mJwAR, mRwAR, mLwAR, mAIwAR, mAJwAR, mARwAR, okkwI, okkwJ, okkwR, okkwAI, okkwAJ, okkwAR]
  have e8 : mI L 15 8 = 0 := by rw [hL]; simp [mNwI, mSwI, mKwI, mIwI, mJwI, mRwI, mLwI, mAIwI, mAJwI, mARwI, mNwJ, mSwJ, mKwJ, mIwJ, mJwJ, mRwJ, mLwJ, mAIwJ, mAJwJ, mARwJ, mNwR, mSwR, mKwR, mIwR, mJwR, mRwR, mLwR, mAIwR, mAJwR, mARwR, mNwAI, mSwAI, mKwAI, mIwAI, mJwAI, mRwAI, mLwAI, mAIwAI, mAJwAI, mARwAI, mNwAJ, mSwAJ, mKwAJ, mIwAJ, mJwAJ, mRwAJ, mLwAJ, mAIwAJ, mAJwAJ, mARwAJ, mNwAR, mSwAR, mKwAR, mIwAR, mJwAR, mRwAR, mLwAR, mAIwAR, mAJwAR, mARwAR, okkwI, okkwJ, okkwR, okkwAI, okkwAJ, okkwAR]
  have F4 : Fix L := by rw [hL]; exact FN.i.i.i.i
  have a6 : mAI L = mAI N := by rw [hL]; simp [mNwI, mSwI, mKwI, mIwI, mJwI, mRwI, mLwI, mAIwI, mAJwI, mARwI, mNwJ, mSwJ, mKwJ, mIwJ, mJwJ, mRwJ, mLwJ, mAIwJ, mAJwJ, mARwJ, mNwR, mSwR, mKwR, mIwR, mJwR, mRwR, mLwR, mAIwR, mAJwR, mARwR, mNwAI, mSwAI, mKwAI, mIwAI, mJwAI, mRwAI, mLwAI, mAIwAI, mAJwAI, mARwAI, mNwAJ, mSwAJ, mKwAJ, mIwAJ, mJwAJ, mRwAJ, mLwAJ, mAIwAJ, mAJwAJ, mARwAJ, mNwAR, mSwAR, mKwAR, mIwAR, mJwAR, mRwAR, mLwAR, mAIwAR, mAJwAR, mARwAR, okkwI, okkwJ, okkwR, okkwAI, okkwAJ, okkwAR]
  have aj : mAJ L = mAJ N := by rw [hL]; simp [mNwI, mSwI, mKwI, mIwI, mJwI, mRwI, mLwI, mAIwI, mAJwI, mARwI, mNwJ, mSwJ, mKwJ, mIwJ, mJwJ, mRwJ, mLwJ, mAIwJ, mAJwJ, mARwJ, mNwR, mSwR, mKwR, mIwR, mJwR, mRwR, mLwR, mAIwR, mAJwR, mARwR, mNwAI, mSwAI, mKwAI, mIwAI, mJwAI, mRwAI, mLwAI, mAIwAI, mAJwAI, mARwAI, mNwAJ, mSwAJ, mKwAJ, mIwAJ, mJwAJ, mRwAJ, mLwAJ, mAIwAJ, mAJwAJ, mARwAJ, mNwAR, mSwAR, mKwAR, mIwAR, mJwAR, mRwAR, mLwAR, mAIwAR, mAJwAR, mARwAR, okkwI, okkwJ, okkwR, okkwAI, okkwAJ, okkwAR]
  clear hL
  refine ⟨fun k0 => ?_, fun k0 => ?_⟩
  · have e := adv_ok (M := L) (j := 0) e12 e7 (by decide) (by rw [a6, r0.1]; exact k0)
    have FA := F4.adv
    obtain ⟨G, hG⟩ : ∃ G, G = advF L := ⟨_, rfl⟩
    rw [← hG] at FA ⊢
    rw [e] at hG
    have g7 : mI G 15 7 = Int32.ofNat 1 := by rw [hG]; simp [mNwI, mSwI, mKwI, mIwI, mJwI, mRwI, mLwI, mAIwI, mAJwI, mARwI, mNwJ, mSwJ, mKwJ, mIwJ, mJwJ, mRwJ, mLwJ, mAIwJ, mAJwJ, mARwJ, mNwR, mSwR, mKwR, mIwR, mJwR, mRwR, mLwR, mAIwR, mAJwR, mARwR, mNwAI, mSwAI, mKwAI, mIwAI, mJwAI, mRwAI, mLwAI, mAIwAI, mAJwAI, mARwAI, mNwAJ, mSwAJ, mKwAJ, mIwAJ, mJwAJ, mRwAJ, mLwAJ, mAIwAJ, mAJwAJ, mARwAJ, mNwAR, mSwAR, mKwAR, mIwAR, mJwAR, mRwAR, mLwAR, mAIwAR, mAJwAR, mARwAR, okkwI, okkwJ, okkwR, okkwAI, okkwAJ, okkwAR]
    have g8 : mI G 15 8 = 0 := by rw [hG]; simp [e8, mNwI, mSwI, mKwI, mIwI, mJwI, mRwI, mLwI, mAIwI, mAJwI, mARwI, mNwJ, mSwJ, mKwJ, mIwJ, mJwJ, mRwJ, mLwJ, mAIwJ, mAJwJ, mARwJ, mNwR, mSwR, mKwR, mIwR, mJwR, mRwR, mLwR, mAIwR, mAJwR, mARwR, mNwAI, mSwAI, mKwAI, mIwAI, mJwAI, mRwAI, mLwAI, mAIwAI, mAJwAI, mARwAI, mNwAJ, mSwAJ, mKwAJ, mIwAJ, mJwAJ, mRwAJ, mLwAJ, mAIwAJ, mAJwAJ, mARwAJ, mNwAR, mSwAR, mKwAR, mIwAR, mJwAR, mRwAR, mLwAR, mAIwAR, mAJwAR, mARwAR, okkwI, okkwJ, okkwR, okkwAI, okkwAJ, okkwAR]
    have g9 : mI G 15 9 = mAI L 16 0 := by rw [hG]; simp [mNwI, mSwI, mKwI, mIwI, mJwI, mRwI, mLwI, mAIwI, mAJwI, mARwI, mNwJ, mSwJ, mKwJ, mIwJ, mJwJ, mRwJ, mLwJ, mAIwJ, mAJwJ, mARwJ, mNwR, mSwR, mKwR, mIwR, mJwR, mRwR, mLwR, mAIwR, mAJwR, mARwR, mNwAI, mSwAI, mKwAI, mIwAI, mJwAI, mRwAI, mLwAI, mAIwAI, mAJwAI, mARwAI, mNwAJ, mSwAJ, mKwAJ, mIwAJ, mJwAJ, mRwAJ, mLwAJ, mAIwAJ, mAJwAJ, mARwAJ, mNwAR, mSwAR, mKwAR, mIwAR, mJwAR, mRwAR, mLwAR, mAIwAR, mAJwAR, mARwAR, okkwI, okkwJ, okkwR, okkwAI, okkwAJ, okkwAR]
    have g10 : mI G 15 10 = mAI L 17 0 := by rw [hG]; simp [mNwI, mSwI, mKwI, mIwI, mJwI, mRwI, mLwI, mAIwI, mAJwI, mARwI, mNwJ, mSwJ, mKwJ, mIwJ, mJwJ, mRwJ, mLwJ, mAIwJ, mAJwJ, mARwJ, mNwR, mSwR, mKwR, mIwR, mJwR, mRwR, mLwR, mAIwR, mAJwR, mARwR, mNwAI, mSwAI, mKwAI, mIwAI, mJwAI, mRwAI, mLwAI, mAIwAI, mAJwAI, mARwAI, mNwAJ, mSwAJ, mKwAJ, mIwAJ, mJwAJ, mRwAJ, mLwAJ, mAIwAJ, mAJwAJ, mARwAJ, mNwAR, mSwAR, mKwAR, mIwAR, mJwAR, mRwAR, mLwAR, mAIwAR, mAJwAR, mARwAR, okkwI, okkwJ, okkwR, okkwAI, okkwAJ, okkwAR]
    have g11 : mJ G 15 11 = mAJ L 18 0 := by rw [hG]; simp [mNwI, mSwI, mKwI, mIwI, mJwI, mRwI, mLwI, mAIwI, mAJwI, mARwI, mNwJ, mSwJ, mKwJ, mIwJ, mJwJ, mRwJ, mLwJ, mAIwJ, mAJwJ, mARwJ, mNwR, mSwR, mKwR, mIwR, mJwR, mRwR, mLwR, mAIwR, mAJwR, mARwR, mNwAI, mSwAI, mKwAI, mIwAI, mJwAI, mRwAI, mLwAI, mAIwAI, mAJwAI, mARwAI, mNwAJ, mSwAJ, mKwAJ, mIwAJ, mJwAJ, mRwAJ, mLwAJ, mAIwAJ, mAJwAJ, mARwAJ, mNwAR, mSwAR, mKwAR, mIwAR, mJwAR, mRwAR, mLwAR, mAIwAR, mAJwAR, mARwAR, okkwI, okkwJ, okkwR, okkwAI, okkwAJ, okkwAR]
    have g12 : mI G 15 12 = 0 := by rw [hG]; simp [e12, mNwI, mSwI, mKwI, mIwI, mJwI, mRwI, mLwI, mAIwI, mAJwI, mARwI, mNwJ, mSwJ, mKwJ, mIwJ, mJwJ, mRwJ, mLwJ, mAIwJ, mAJwJ, mARwJ, mNwR, mSwR, mKwR, mIwR, mJwR, mRwR, mLwR, mAIwR, mAJwR, mARwR, mNwAI, mSwAI, mKwAI, mIwAI, mJwAI, mRwAI, mLwAI, mAIwAI, mAJwAI, mARwAI, mNwAJ, mSwAJ, mKwAJ, mIwAJ, mJwAJ, mRwAJ, mLwAJ, mAIwAJ, mAJwAJ, mARwAJ, mNwAR, mSwAR, mKwAR, mIwAR, mJwAR, mRwAR, mLwAR, mAIwAR, mAJwAR, mARwAR, okkwI, okkwJ, okkwR, okkwAI, okkwAJ, okkwAR]
    have gA : mAI G = mAI L := by rw [hG]; simp [mNwI, mSwI, mKwI, mIwI, mJwI, mRwI, mLwI, mAIwI, mAJwI, mARwI, mNwJ, mSwJ, mKwJ, mIwJ, mJwJ, mRwJ, mLwJ, mAIwJ, mAJwJ, mARwJ, mNwR, mSwR, mKwR, mIwR, mJwR, mRwR, mLwR, mAIwR, mAJwR, mARwR, mNwAI, mSwAI, mKwAI, mIwAI, mJwAI, mRwAI, mLwAI, mAIwAI, mAJwAI, mARwAI, mNwAJ, mSwAJ, mKwAJ, mIwAJ, mJwAJ, mRwAJ, mLwAJ, mAIwAJ, mAJwAJ, mARwAJ, mNwAR, mSwAR, mKwAR, mIwAR, mJwAR, mRwAR, mLwAR, mAIwAR, mAJwAR, mARwAR, okkwI, okkwJ, okkwR, okkwAI, okkwAJ, okkwAR]
    have gJ : mAJ G = mAJ L := by rw [hG]; simp [mNwI, mSwI, mKwI, mIwI, mJwI, mRwI, mLwI, mAIwI, mAJwI, mARwI, mNwJ, mSwJ, mKwJ, mIwJ, mJwJ, mRwJ, mLwJ, mAIwJ, mAJwJ, mARwJ, mNwR, mSwR, mKwR, mIwR, mJwR, mRwR, mLwR, mAIwR, mAJwR, mARwR, mNwAI, mSwAI, mKwAI, mIwAI, mJwAI, mRwAI, mLwAI, mAIwAI, mAJwAI, mARwAI, mNwAJ, mSwAJ, mKwAJ, mIwAJ, mJwAJ, mRwAJ, mLwAJ, mAIwAJ, mAJwAJ, mARwAJ, mNwAR, mSwAR, mKwAR, mIwAR, mJwAR, mRwAR, mLwAR, mAIwAR, mAJwAR, mARwAR, okkwI, okkwJ, okkwR, okkwAI, okkwAJ, okkwAR]
    clear hG e
    refine ⟨FA, ⟨hn, hs, Nat.zero_le _⟩, fun j hj => ?_, g7, g8, by rw [g9, a6]; exact r0.1, by rw [g10, a6]; exact r0.2.1, fun z1 z2 => by rw [g11, aj]; exact r0.2.2 z1 z2, g12, k0⟩
    unfold TkR
    rw [gA, gJ, a6, aj]
    exact hR j hj
  · have e := adv_bad (M := L) (j := 0) e12 e7 (by decide) (by rw [a6, r0.1]; exact k0)
    have FA := F4.adv
    obtain ⟨G, hG⟩ : ∃ G, G = advF L := ⟨_, rfl⟩
    rw [← hG] at FA ⊢
    rw [e] at hG
    have g7 : mI G 15 7 = Int32.ofNat 1 := by rw [hG]; simp [mNwI, mSwI, mKwI, mIwI, mJwI, mRwI, mLwI, mAIwI, mAJwI, mARwI, mNwJ, mSwJ, mKwJ, mIwJ, mJwJ, mRwJ, mLwJ, mAIwJ, mAJwJ, mARwJ, mNwR, mSwR, mKwR, mIwR, mJwR, mRwR, mLwR, mAIwR, mAJwR, mARwR, mNwAI, mSwAI, mKwAI, mIwAI, mJwAI, mRwAI, mLwAI, mAIwAI, mAJwAI, mARwAI, mNwAJ, mSwAJ, mKwAJ, mIwAJ, mJwAJ, mRwAJ, mLwAJ, mAIwAJ, mAJwAJ, mARwAJ, mNwAR, mSwAR, mKwAR, mIwAR, mJwAR, mRwAR, mLwAR, mAIwAR, mAJwAR, mARwAR, okkwI, okkwJ, okkwR, okkwAI, okkwAJ, okkwAR]
    have g9 : mI G 15 9 = 0 := by rw [hG]; simp [mNwI, mSwI, mKwI, mIwI, mJwI, mRwI, mLwI, mAIwI, mAJwI, mARwI, mNwJ, mSwJ, mKwJ, mIwJ, mJwJ, mRwJ, mLwJ, mAIwJ, mAJwJ, mARwJ, mNwR, mSwR, mKwR, mIwR, mJwR, mRwR, mLwR, mAIwR, mAJwR, mARwR, mNwAI, mSwAI, mKwAI, mIwAI, mJwAI, mRwAI, mLwAI, mAIwAI, mAJwAI, mARwAI, mNwAJ, mSwAJ, mKwAJ, mIwAJ, mJwAJ, mRwAJ, mLwAJ, mAIwAJ, mAJwAJ, mARwAJ, mNwAR, mSwAR, mKwAR, mIwAR, mJwAR, mRwAR, mLwAR, mAIwAR, mAJwAR, mARwAR, okkwI, okkwJ, okkwR, okkwAI, okkwAJ, okkwAR]
    have g12 : mI G 15 12 = 1 := by rw [hG]; simp [mNwI, mSwI, mKwI, mIwI, mJwI, mRwI, mLwI, mAIwI, mAJwI, mARwI, mNwJ, mSwJ, mKwJ, mIwJ, mJwJ, mRwJ, mLwJ, mAIwJ, mAJwJ, mARwJ, mNwR, mSwR, mKwR, mIwR, mJwR, mRwR, mLwR, mAIwR, mAJwR, mARwR, mNwAI, mSwAI, mKwAI, mIwAI, mJwAI, mRwAI, mLwAI, mAIwAI, mAJwAI, mARwAI, mNwAJ, mSwAJ, mKwAJ, mIwAJ, mJwAJ, mRwAJ, mLwAJ, mAIwAJ, mAJwAJ, mARwAJ, mNwAR, mSwAR, mKwAR, mIwAR, mJwAR, mRwAR, mLwAR, mAIwAR, mAJwAR, mARwAR, okkwI, okkwJ, okkwR, okkwAI, okkwAJ, okkwAR]
    have g13 : mI G 15 13 = mAI L 17 0 := by rw [hG]; simp [mNwI, mSwI, mKwI, mIwI, mJwI, mRwI, mLwI, mAIwI, mAJwI, mARwI, mNwJ, mSwJ, mKwJ, mIwJ, mJwJ, mRwJ, mLwJ, mAIwJ, mAJwJ, mARwJ, mNwR, mSwR, mKwR, mIwR, mJwR, mRwR, mLwR, mAIwR, mAJwR, mARwR, mNwAI, mSwAI, mKwAI, mIwAI, mJwAI, mRwAI, mLwAI, mAIwAI, mAJwAI, mARwAI, mNwAJ, mSwAJ, mKwAJ, mIwAJ, mJwAJ, mRwAJ, mLwAJ, mAIwAJ, mAJwAJ, mARwAJ, mNwAR, mSwAR, mKwAR, mIwAR, mJwAR, mRwAR, mLwAR, mAIwAR, mAJwAR, mARwAR, okkwI, okkwJ, okkwR, okkwAI, okkwAJ, okkwAR]
    clear hG e
    exact ⟨FA, by rw [g7]; decide, g12, by decide, by rw [g13, a6]; exact r0.2.1, g9⟩
/-- what looking for late faults needs -/
def LtI (n0 pb : Nat) (ps : List Nat) (A : Nat → Nat → Int32) (M : Mem) : Prop := Fix M ∧ mR M 14 7 = some n0 ∧ ok M n0 3 ∧ mR M n0 6 = some (n0 + 7) ∧ ALp M (n0 + 7) pb 5 ps ∧ ps.length ≤ 40 ∧ ∀ j, j < ps.length → ok M (ps.getD j 0) 5 ∧ mI M (ps.getD j 0) 2 = A j 2 ∧ mI M (ps.getD j 0) 0 = A j 0
theorem LtI.tok {pb : Nat} {ps : List Nat} {A : Nat → Nat → Int32} (hL : LtI n0 pb ps A M) (k : TFr M M') (hn : 132 ≤ n0) : LtI n0 pb ps A M' := by
  obtain ⟨h1, h2, h3, h4, h5, h6, h7⟩ := hL
  have o15 : mK M 15 = 9 := (ok15 h1).2
  refine ⟨k.fix h1, by rw [k.2.2.2.2.1]; exact h2, ok_E h3 k.e, by rw [k.2.2.2.2.1]; exact h4, alp_fr3 h5 k.fr (fun z => by omega) (fun o24 z => ?_), h6, fun j hj => ?_⟩
  · have := o24.2
    rw [show pb = 15 from z, o15] at this
    exact absurd this (by decide)
  · obtain ⟨a1, a2, a3⟩ := h7 j hj
    have ne : ps.getD j 0 ≠ 15 := fun z => by
      have := a1.2
      rw [z, o15] at this
      exact absurd this (by decide)
    rw [(k.row ne).1]
    exact ⟨ok_E a1 k.e, a2, a3⟩
theorem late_stop {pb j : Nat} {ps : List Nat} {A : Nat → Nat → Int32} (hL : LtI n0 pb ps A M) (hf : mI M 15 12 ≠ 0) (H : Q none M) : T (h + 2) mdX4_findLateFault 2 [(0, .ref 14), (1, .int (Int32.ofNat j))] [] M Q := by
  obtain ⟨F, h2, h3, h4, h5, h6, h7⟩ := hL
  refine VX4_findLateFault_2 ?_
  unfold DX4_findLateFault_2 DX4_findLateFault_69
  exact ⟨ok14 F, n0, h2, h3, n0 + 7, h4, h5.1, S_alSize h5 (fun _ => ⟨_, rfl, fun _ => H, fun _ => ⟨15, rf14_0 F, ok15 F, fun _ => H, fun z => absurd z hf⟩⟩)⟩
theorem late_loop {pb : Nat} {ps : List Nat} {A : Nat → Nat → Int32} (hn : 132 ≤ n0) (hL : LtI n0 pb ps A M) (hf : mI M 15 12 = 0) (H0 : (∀ j, j < ps.length → A j 2 = 0) → Q none M) (H1 : ∀ j, j < ps.length → A j 2 ≠ 0 → (∀ q, q < j → A q 2 = 0) → ∀ M', Fix M' → mI M' 15 12 = A j 2 → mI M' 15 13 = A j 0 → TFr M M' → Q none M') : ∀ k j, j + k = ps.length → (∀ q, q < j → A q 2 = 0) → T (h + 4) mdX4_findLateFault 2 [(0, .ref 14), (1, .int (Int32.ofNat j))] [] M Q := by
  obtain ⟨F, h2, h3, h4, h5, h6, h7⟩ := id hL
  intro k
  induction k with
  | zero =>
    intro j hj hz
    refine VX4_findLateFault_2 ?_
    unfold DX4_findLateFault_2 DX4_findLateFault_69
    refine ⟨ok14 F, n0, h2, h3, n0 + 7, h4, h5.1, S_alSize h5 (fun _ => ⟨_, rfl, fun _ => H0 (fun q hq => hz q (by omega)), fun z => absurd ((le32 (by omega) (by omega)).mpr (by omega)) z⟩)⟩
  | succ k ih =>
    intro j hj hz
    have hjl : j < ps.length := by omega
    obtain ⟨a1, a2, a3⟩ := h7 j hjl
    refine VX4_findLateFault_2 ?_
    unfold DX4_findLateFault_2 DX4_findLateFault_69
    refine ⟨ok14 F, n0, h2, h3, n0 + 7, h4, h5.1, S_alSize h5 (fun _ => ⟨_, rfl, fun z => absurd ((le32 (by omega) (by omega)).mp z) (by omega), fun _ => ⟨15, rf14_0 F, ok15 F, fun z => absurd hf z, fun _ => ⟨n0, h2, h3, n0 + 7, h4, h5.1, S_get h5 hjl (fun _ => ⟨_, rfl, a1, fun z => ?_, fun z => ⟨15, rf14_0 F, ok15 F, ?_⟩⟩)⟩⟩⟩)⟩
    · unfold DX4_findLateFault_63
      rw [succ32]
      rw [a2] at z
      exact ih (j + 1) (by omega) (fun q hq => by
        by_cases w : q = j
        · rw [w]; exact z
        · exact hz q (by omega))
    · rw [a2] at z ⊢
      rw [a3]
      refine S_failAt F (fun _ => ⟨rfl, ?_⟩)
      have kf : TFr M (failF (wI M 15 10 (A j 0)) (A j 2)) := TFr.i.tr TFr.fail
      have v12 : mI (failF (wI M 15 10 (A j 0)) (A j 2)) 15 12 = A j 2 := by
        unfold failF
        have q : mI (wI M 15 10 (A j 0)) 15 12 = 0 := by rw [mI_wI, if_neg (by decide)]; exact hf
        rw [if_pos q, mI_wI, if_neg (by decide), mI_wI, if_neg (by decide), mI_wI, if_pos ⟨rfl, rfl⟩]
      have v13 : mI (failF (wI M 15 10 (A j 0)) (A j 2)) 15 13 = A j 0 := by
        unfold failF
        have q : mI (wI M 15 10 (A j 0)) 15 12 = 0 := by rw [mI_wI, if_neg (by decide)]; exact hf
        rw [if_pos q, mI_wI, if_neg (by decide), mI_wI, if_pos ⟨rfl, rfl⟩, mI_wI, if_pos ⟨rfl, rfl⟩]
      unfold DX4_findLateFault_63
      rw [succ32]
      exact late_stop (h := h + 2) (hL.tok kf hn) (by rw [v12]; exact z) (H1 j hjl z hz _ (kf.fix F) v12 v13 kf)
theorem S_late {pb : Nat} {ps : List Nat} {A : Nat → Nat → Int32} (hn : 132 ≤ n0) (hL : LtI n0 pb ps A M) (hf : mI M 15 12 = 0) (H0 : (∀ j, j < ps.length → A j 2 = 0) → Q none M) (H1 : ∀ j, j < ps.length → A j 2 ≠ 0 → (∀ q, q < j → A q 2 = 0) → ∀ M', Fix M' → mI M' 15 12 = A j 2 → mI M' 15 13 = A j 0 → TFr M M' → Q none M') : E (h + 4) mdX4_findLateFault [.ref 14] M Q := by
  refine KX4_findLateFault ?_
  unfold DX4_findLateFault_0
  exact late_loop (h := h) hn hL hf H0 H1 ps.length 0 (Nat.zero_add _) (fun q hq => absurd hq (Nat.not_lt_zero _))
theorem S_lateX {pb : Nat} {ps : List Nat} {A : Nat → Nat → Int32} (hL : LtI n0 pb ps A M) (hf : mI M 15 12 ≠ 0) (H : Q none M) : E (h + 2) mdX4_findLateFault [.ref 14] M Q := by
  refine KX4_findLateFault ?_
  unfold DX4_findLateFault_0
  exact late_stop (j := 0) hL hf H
end
