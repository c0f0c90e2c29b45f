/-! one call on fresh objects: compile of the empty tape, clear; the claim's own rows -/
def tk0 (M : Mem) : Mem := wI (wI (wI (wI (wAI (wAI (wI (wI M 15 2 0) 15 3 0) 17 0 0) 16 0 1) 15 7 0) 15 8 0) 15 12 0) 15 13 0
theorem k0_cut {h : Nat} {M : Mem} {Q : Option Value → Mem → Prop} (F : Fix M) (h2 : mI M 15 2 = 0) (h3 : mI M 15 3 = 0) (H : Q (some (.int 1)) (wAI (wAI M 17 0 0) 16 0 1)) : E (h + 3) mdX7_cut [.ref 15, .int 0] M Q := by
  refine KX7_cut ?_
  refine VX7_cut_0 ?_
  unfold DX7_cut_0 DX7_cut_50 DX7_cut_131
  refine ⟨ok15 F, fun _ => ?_, fun hc => absurd (by rw [h2, h3]; decide) hc⟩
  refine ⟨ok15 F, 17, rf15_5 F, ok17 F, by rw [ln17 F]; exact vp_of (n := 0) (by decide) (by decide), fun M4 e4 => ?_⟩
  have F4 : Fix M4 := by rw [e4]; exact F.ai
  have i2 : mI M4 15 2 = 0 := by rw [e4]; exact h2
  have i3 : mI M4 15 3 = 0 := by rw [e4]; exact h3
  rw [i3]
  refine S_byteAt (n := 0) (b := fun _ => 0) (i := 0) F4 ⟨by decide, i2, fun i hi => absurd hi (Nat.not_lt_zero i), fun _ _ => rfl⟩ (by decide) (fun _ => ⟨_, rfl, fun hc => ?_, fun _ => ?_⟩)
  · rw [i2, i3] at hc
    exact absurd hc (by decide)
  · refine ⟨16, rf15_4 F4, ok16 F4, by rw [ln16 F4]; exact vp_of (n := 0) (by decide) (by decide), fun M20 e20 => ?_⟩
    have F20 : Fix M20 := by rw [e20]; exact F4.ai
    refine ⟨ok15 F20, 16, rf15_4 F20, ok16 F20, by rw [ln16 F20]; exact vp_of (n := 0) (by decide) (by decide), ?_⟩
    rw [h3] at e4
    subst e20 e4
    exact H
theorem k0_begin {h : Nat} {M : Mem} {Q : Option Value → Mem → Prop} (F : Fix M) (H : Q none (advF (tk0 M))) : E (h + 4) mdX7_begin [.ref 15, .int 0] M Q := by
  refine KX7_begin ?_
  unfold DX7_begin_0
  refine ⟨ok15 F, 1, rf15_0 F, ok1 F, fun M4 e4 M5 e5 => ?_⟩
  rw [ln1 F, if_neg (by decide)] at e4
  have F5 : Fix M5 := by rw [e5, e4]; exact F.i.i
  refine VX7_begin_22 ?_
  unfold DX7_begin_22
  refine ⟨ok15 F5, 16, rf15_4 F5, ok16 F5, fun hc => absurd hc (by rw [ln16 F5]; decide), fun _ => ⟨fun hc => absurd hc (by decide), fun _ => ⟨fun hc => absurd hc (by decide), fun _ => ?_⟩⟩⟩
  refine k0_cut F5 (by rw [e5, e4]; rfl) (by rw [e5, e4]; rfl) (fun _ => ⟨_, rfl, ?_⟩)
  refine VX7_begin_22 ?_
  unfold DX7_begin_22 DX7_begin_52
  have F6 : Fix (wAI (wAI M5 17 0 0) 16 0 1) := F5.ai.ai
  generalize hM6 : wAI (wAI M5 17 0 0) 16 0 1 = M6 at F6
  refine ⟨ok15 F6, 16, rf15_4 F6, ok16 F6, fun hc => absurd hc (by rw [ln16 F6]; decide), fun _ => ⟨fun _ => ⟨ok15 F6, fun A a B b C c D d => ?_⟩, fun hc => absurd rfl hc⟩⟩
  have hD : D = tk0 M := by rw [d, c, b, a, ← hM6, e5, e4]; rfl
  rw [hD]
  refine S_adv (by rw [← hD, d, c, b, a]; exact F6.i.i.i.i) (by show ¬ (0 : Int32) < 0; decide) (fun _ => ⟨rfl, H⟩)
theorem k0_adv {M : Mem} : advF (tk0 M) = wI (wJ (wI (wI (tk0 M) 15 9 1) 15 10 0) 15 11 (mAJ M 18 0)) 15 7 1 := by
  rw [adv_ok (M := tk0 M) (j := 0) rfl rfl (by decide) (by show (1 : Int32) ≠ 0; decide)]
  rfl
def tk1 (M : Mem) : Mem := wI (wJ (wI (wI (tk0 M) 15 9 1) 15 10 0) 15 11 (mAJ M 18 0)) 15 7 1
theorem Fix.t1 {M : Mem} (F : Fix M) : Fix (tk1 M) := F.i.i.ai.ai.i.i.i.i.i.i.j.i
theorem k0_beginV {h : Nat} {M : Mem} {Q : Option Value → Mem → Prop} (F : Fix M) (H : ∀ M', M' = tk1 M → Fix M' → Q none M') : E (h + 4) mdX7_begin [.ref 15, .int 0] M Q := k0_begin F (by rw [k0_adv]; exact H (tk1 M) rfl F.t1)
theorem k0_treeV {h : Nat} {M : Mem} {Q : Option Value → Mem → Prop} (F : Fix M) (H : ∀ M', M' = wI (wI M 4 9 1) 4 10 0 → Fix M' → Q none M') : E (h + 1) mdX8_begin [.ref 4] M Q := S_treeBegin F (H _ rfl F.i.i)
theorem t1_I {M : Mem} {a f : Nat} (h : a ≠ 15) : mI (tk1 M) a f = mI M a f := by simp [tk1, tk0, h, mNwI, mSwI, mKwI, mIwI, mJwI, mRwI, mLwI, mAIwI, mAJwI, mARwI, mNwJ, mSwJ, mKwJ, mIwJ, mJwJ, mRwJ, mLwJ, mAIwJ, mAJwJ, mARwJ, mNwR, mSwR, mKwR, mIwR, mJwR, mRwR, mLwR, mAIwR, mAJwR, mARwR, mNwAI, mSwAI, mKwAI, mIwAI, mJwAI, mRwAI, mLwAI, mAIwAI, mAJwAI, mARwAI, mNwAJ, mSwAJ, mKwAJ, mIwAJ, mJwAJ, mRwAJ, mLwAJ, mAIwAJ, mAJwAJ, mARwAJ, mNwAR, mSwAR, mKwAR, mIwAR, mJwAR, mRwAR, mLwAR, mAIwAR, mAJwAR, mARwAR, okkwI, okkwJ, okkwR, okkwAI, okkwAJ, okkwAR]
theorem t1_9 {M : Mem} : mI (tk1 M) 15 9 = 1 := by simp [tk1, tk0, mNwI, mSwI, mKwI, mIwI, mJwI, mRwI, mLwI, mAIwI, mAJwI, mARwI, mNwJ, mSwJ, mKwJ, mIwJ, mJwJ, mRwJ, mLwJ, mAIwJ, mAJwJ, mARwJ, mNwR, mSwR, mKwR, mIwR, mJwR, mRwR, mLwR, mAIwR, mAJwR, mARwR, mNwAI, mSwAI, mKwAI, mIwAI, mJwAI, mRwAI, mLwAI, mAIwAI, mAJwAI, mARwAI, mNwAJ, mSwAJ, mKwAJ, mIwAJ, mJwAJ, mRwAJ, mLwAJ, mAIwAJ, mAJwAJ, mARwAJ, mNwAR, mSwAR, mKwAR, mIwAR, mJwAR, mRwAR, mLwAR, mAIwAR, mAJwAR, mARwAR, okkwI, okkwJ, okkwR, okkwAI, okkwAJ, okkwAR]
theorem t1_10 {M : Mem} : mI (tk1 M) 15 10 = 0 := by simp [tk1, tk0, mNwI, mSwI, mKwI, mIwI, mJwI, mRwI, mLwI, mAIwI, mAJwI, mARwI, mNwJ, mSwJ, mKwJ, mIwJ, mJwJ, mRwJ, mLwJ, mAIwJ, mAJwJ, mARwJ, mNwR, mSwR, mKwR, mIwR, mJwR, mRwR, mLwR, mAIwR, mAJwR, mARwR, mNwAI, mSwAI, mKwAI, mIwAI, mJwAI, mRwAI, mLwAI, mAIwAI, mAJwAI, mARwAI, mNwAJ, mSwAJ, mKwAJ, mIwAJ, mJwAJ, mRwAJ, mLwAJ, mAIwAJ, mAJwAJ, mARwAJ, mNwAR, mSwAR, mKwAR, mIwAR, mJwAR, mRwAR, mLwAR, mAIwAR, mAJwAR, mARwAR, okkwI, okkwJ, okkwR, okkwAI, okkwAJ, okkwAR]
theorem t1_7 {M : Mem} : mI (tk1 M) 15 7 = 1 := by simp [tk1, tk0, mNwI, mSwI, mKwI, mIwI, mJwI, mRwI, mLwI, mAIwI, mAJwI, mARwI, mNwJ, mSwJ, mKwJ, mIwJ, mJwJ, mRwJ, mLwJ, mAIwJ, mAJwJ, mARwJ, mNwR, mSwR, mKwR, mIwR, mJwR, mRwR, mLwR, mAIwR, mAJwR, mARwR, mNwAI, mSwAI, mKwAI, mIwAI, mJwAI, mRwAI, mLwAI, mAIwAI, mAJwAI, mARwAI, mNwAJ, mSwAJ, mKwAJ, mIwAJ, mJwAJ, mRwAJ, mLwAJ, mAIwAJ, mAJwAJ, mARwAJ, mNwAR, mSwAR, mKwAR, mIwAR, mJwAR, mRwAR, mLwAR, mAIwAR, mAJwAR, mARwAR, okkwI, okkwJ, okkwR, okkwAI, okkwAJ, okkwAR]
theorem t1_12 {M : Mem} : mI (tk1 M) 15 12 = 0 := by simp [tk1, tk0, mNwI, mSwI, mKwI, mIwI, mJwI, mRwI, mLwI, mAIwI, mAJwI, mARwI, mNwJ, mSwJ, mKwJ, mIwJ, mJwJ, mRwJ, mLwJ, mAIwJ, mAJwJ, mARwJ, mNwR, mSwR, mKwR, mIwR, mJwR, mRwR, mLwR, mAIwR, mAJwR, mARwR, mNwAI, mSwAI, mKwAI, mIwAI, mJwAI, mRwAI, mLwAI, mAIwAI, mAJwAI, mARwAI, mNwAJ, mSwAJ, mKwAJ, mIwAJ, mJwAJ, mRwAJ, mLwAJ, mAIwAJ, mAJwAJ, mARwAJ, mNwAR, mSwAR, mKwAR, mIwAR, mJwAR, mRwAR, mLwAR, mAIwAR, mAJwAR, mARwAR, okkwI, okkwJ, okkwR, okkwAI, okkwAJ, okkwAR]
theorem t1_R {M : Mem} : mR (tk1 M) = mR M := by simp [tk1, tk0, mNwI, mSwI, mKwI, mIwI, mJwI, mRwI, mLwI, mAIwI, mAJwI, mARwI, mNwJ, mSwJ, mKwJ, mIwJ, mJwJ, mRwJ, mLwJ, mAIwJ, mAJwJ, mARwJ, mNwR, mSwR, mKwR, mIwR, mJwR, mRwR, mLwR, mAIwR, mAJwR, mARwR, mNwAI, mSwAI, mKwAI, mIwAI, mJwAI, mRwAI, mLwAI, mAIwAI, mAJwAI, mARwAI, mNwAJ, mSwAJ, mKwAJ, mIwAJ, mJwAJ, mRwAJ, mLwAJ, mAIwAJ, mAJwAJ, mARwAJ, mNwAR, mSwAR, mKwAR, mIwAR, mJwAR, mRwAR, mLwAR, mAIwAR, mAJwAR, mARwAR, okkwI, okkwJ, okkwR, okkwAI, okkwAJ, okkwAR]
theorem t1_N {M : Mem} : mN (tk1 M) = mN M := by simp [tk1, tk0, mNwI, mSwI, mKwI, mIwI, mJwI, mRwI, mLwI, mAIwI, mAJwI, mARwI, mNwJ, mSwJ, mKwJ, mIwJ, mJwJ, mRwJ, mLwJ, mAIwJ, mAJwJ, mARwJ, mNwR, mSwR, mKwR, mIwR, mJwR, mRwR, mLwR, mAIwR, mAJwR, mARwR, mNwAI, mSwAI, mKwAI, mIwAI, mJwAI, mRwAI, mLwAI, mAIwAI, mAJwAI, mARwAI, mNwAJ, mSwAJ, mKwAJ, mIwAJ, mJwAJ, mRwAJ, mLwAJ, mAIwAJ, mAJwAJ, mARwAJ, mNwAR, mSwAR, mKwAR, mIwAR, mJwAR, mRwAR, mLwAR, mAIwAR, mAJwAR, mARwAR, okkwI, okkwJ, okkwR, okkwAI, okkwAJ, okkwAR]
theorem t1_S {M : Mem} : mS (tk1 M) = mS M := by simp [tk1, tk0, mNwI, mSwI, mKwI, mIwI, mJwI, mRwI, mLwI, mAIwI, mAJwI, mARwI, mNwJ, mSwJ, mKwJ, mIwJ, mJwJ, mRwJ, mLwJ, mAIwJ, mAJwJ, mARwJ, mNwR, mSwR, mKwR, mIwR, mJwR, mRwR, mLwR, mAIwR, mAJwR, mARwR, mNwAI, mSwAI, mKwAI, mIwAI, mJwAI, mRwAI, mLwAI, mAIwAI, mAJwAI, mARwAI, mNwAJ, mSwAJ, mKwAJ, mIwAJ, mJwAJ, mRwAJ, mLwAJ, mAIwAJ, mAJwAJ, mARwAJ, mNwAR, mSwAR, mKwAR, mIwAR, mJwAR, mRwAR, mLwAR, mAIwAR, mAJwAR, mARwAR, okkwI, okkwJ, okkwR, okkwAI, okkwAJ, okkwAR]
theorem t1_ok {M : Mem} {a c : Nat} : ok (tk1 M) a c = ok M a c := by simp [tk1, tk0, mNwI, mSwI, mKwI, mIwI, mJwI, mRwI, mLwI, mAIwI, mAJwI, mARwI, mNwJ, mSwJ, mKwJ, mIwJ, mJwJ, mRwJ, mLwJ, mAIwJ, mAJwJ, mARwJ, mNwR, mSwR, mKwR, mIwR, mJwR, mRwR, mLwR, mAIwR, mAJwR, mARwR, mNwAI, mSwAI, mKwAI, mIwAI, mJwAI, mRwAI, mLwAI, mAIwAI, mAJwAI, mARwAI, mNwAJ, mSwAJ, mKwAJ, mIwAJ, mJwAJ, mRwAJ, mLwAJ, mAIwAJ, mAJwAJ, mARwAJ, mNwAR, mSwAR, mKwAR, mIwAR, mJwAR, mRwAR, mLwAR, mAIwAR, mAJwAR, mARwAR, okkwI, okkwJ, okkwR, okkwAI, okkwAJ, okkwAR]
theorem k0_told {h : Nat} {M : Mem} {Q : Option Value → Mem → Prop} (F : Fix M) (hk : mI M 15 9 = 1) (H : Q none M) : E (h + 2) mdX4_readAllTold [.ref 14] M Q := by
  refine KX4_readAllTold ?_
  unfold DX4_readAllTold_0
  refine VX4_readAllTold_2 ?_
  unfold DX4_readAllTold_2
  refine ⟨fun hc => absurd hc (by decide), fun _ => ⟨ok14 F, 15, rf14_0 F, ok15 F, fun _ => ⟨fun hc => absurd (hk ▸ hc) (by decide), fun _ => ⟨fun hc => absurd (hk ▸ hc) (by decide), fun _ => ⟨fun _ => H, fun hc => absurd (hk ▸ hc) (by decide)⟩⟩⟩, fun hc => absurd (hk ▸ hc) (by decide)⟩⟩
theorem k0_check {h n0 : Nat} {M : Mem} {Q : Option Value → Mem → Prop} (F : Fix M) (hk : mI M 15 12 = 0) (h4 : mI M 14 4 = 0) (hm : mR M 14 7 = some n0) (o3 : ok M n0 3) (hl : mR M n0 6 = some (n0 + 7)) (o1 : ok M (n0 + 7) 1) (hz : mI M (n0 + 7) 2 = 0) (hn : 132 ≤ n0) (H : ∀ M', M' = wI (wI (wI M 15 12 2) 15 13 (mI M 15 10)) 15 9 0 → Fix M' → Q none M') : E (h + 3) mdX4_checkBegin [.ref 14, .int 1] M Q := by
  refine KX4_checkBegin ?_
  unfold DX4_checkBegin_0 DX4_checkBegin_56 DX4_checkBegin_94
  refine ⟨fun _ => S_staysOpen (fun _ => ⟨_, rfl, fun hc => absurd rfl hc, fun _ => S_standsAlone (fun _ => ⟨_, rfl, fun hc => absurd rfl hc, fun _ => ⟨ok14 F, 15, rf14_0 F, ok15 F, S_failV F (fun M' e' F' _ => ⟨rfl, ?_⟩)⟩⟩)⟩), fun hc => absurd hc (by decide)⟩
  have e : M' = wI (wI (wI M 15 12 2) 15 13 (mI M 15 10)) 15 9 0 := by rw [e']; unfold failF; rw [if_pos hk]
  have o1' : ok M' (n0 + 7) 1 := by rw [e]; exact o1
  have z' : mI M' (n0 + 7) 2 = 0 := by rw [e, mI_wI, if_neg (by omega), mI_wI, if_neg (by omega), mI_wI, if_neg (by omega), hz]
  have f' : mI M' 14 4 = 0 := by rw [e]; exact h4
  refine ⟨ok14 F', n0, by rw [e]; exact hm, by rw [e]; exact o3, n0 + 7, by rw [e]; exact hl, o1', S_size o1' (fun _ => ⟨_, rfl, fun hc => ?_, fun _ => S_pausesOf (fun _ => ⟨_, rfl, fun _ => H M' e F', fun hc => ?_⟩)⟩)⟩
  · rw [z'] at hc
    exact absurd hc (by decide)
  · rw [f'] at hc
    exact absurd (by decide) hc
def sq0 (M : Mem) : Mem := wI (wI (wI (mkF M 1 5) 15 12 2) 15 13 0) 15 9 0
theorem sq_I {M : Mem} {a f : Nat} (h : a ≠ 15) (h4 : a ≠ 4) : mI (sq0 M) a f = mI M a f := by simp [sq0, mkF, h, h4, mNwI, mSwI, mKwI, mIwI, mJwI, mRwI, mLwI, mAIwI, mAJwI, mARwI, mNwJ, mSwJ, mKwJ, mIwJ, mJwJ, mRwJ, mLwJ, mAIwJ, mAJwJ, mARwJ, mNwR, mSwR, mKwR, mIwR, mJwR, mRwR, mLwR, mAIwR, mAJwR, mARwR, mNwAI, mSwAI, mKwAI, mIwAI, mJwAI, mRwAI, mLwAI, mAIwAI, mAJwAI, mARwAI, mNwAJ, mSwAJ, mKwAJ, mIwAJ, mJwAJ, mRwAJ, mLwAJ, mAIwAJ, mAJwAJ, mARwAJ, mNwAR, mSwAR, mKwAR, mIwAR, mJwAR, mRwAR, mLwAR, mAIwAR, mAJwAR, mARwAR, okkwI, okkwJ, okkwR, okkwAI, okkwAJ, okkwAR]
theorem sq_9 {M : Mem} : mI (sq0 M) 15 9 = 0 := by simp [sq0, mNwI, mSwI, mKwI, mIwI, mJwI, mRwI, mLwI, mAIwI, mAJwI, mARwI, mNwJ, mSwJ, mKwJ, mIwJ, mJwJ, mRwJ, mLwJ, mAIwJ, mAJwJ, mARwJ, mNwR, mSwR, mKwR, mIwR, mJwR, mRwR, mLwR, mAIwR, mAJwR, mARwR, mNwAI, mSwAI, mKwAI, mIwAI, mJwAI, mRwAI, mLwAI, mAIwAI, mAJwAI, mARwAI, mNwAJ, mSwAJ, mKwAJ, mIwAJ, mJwAJ, mRwAJ, mLwAJ, mAIwAJ, mAJwAJ, mARwAJ, mNwAR, mSwAR, mKwAR, mIwAR, mJwAR, mRwAR, mLwAR, mAIwAR, mAJwAR, mARwAR, okkwI, okkwJ, okkwR, okkwAI, okkwAJ, okkwAR]
theorem sq_12 {M : Mem} : mI (sq0 M) 15 12 = 2 := by simp [sq0, mNwI, mSwI, mKwI, mIwI, mJwI, mRwI, mLwI, mAIwI, mAJwI, mARwI, mNwJ, mSwJ, mKwJ, mIwJ, mJwJ, mRwJ, mLwJ, mAIwJ, mAJwJ, mARwJ, mNwR, mSwR, mKwR, mIwR, mJwR, mRwR, mLwR, mAIwR, mAJwR, mARwR, mNwAI, mSwAI, mKwAI, mIwAI, mJwAI, mRwAI, mLwAI, mAIwAI, mAJwAI, mARwAI, mNwAJ, mSwAJ, mKwAJ, mIwAJ, mJwAJ, mRwAJ, mLwAJ, mAIwAJ, mAJwAJ, mARwAJ, mNwAR, mSwAR, mKwAR, mIwAR, mJwAR, mRwAR, mLwAR, mAIwAR, mAJwAR, mARwAR, okkwI, okkwJ, okkwR, okkwAI, okkwAJ, okkwAR]
theorem sq_13 {M : Mem} : mI (sq0 M) 15 13 = 0 := by simp [sq0, mNwI, mSwI, mKwI, mIwI, mJwI, mRwI, mLwI, mAIwI, mAJwI, mARwI, mNwJ, mSwJ, mKwJ, mIwJ, mJwJ, mRwJ, mLwJ, mAIwJ, mAJwJ, mARwJ, mNwR, mSwR, mKwR, mIwR, mJwR, mRwR, mLwR, mAIwR, mAJwR, mARwR, mNwAI, mSwAI, mKwAI, mIwAI, mJwAI, mRwAI, mLwAI, mAIwAI, mAJwAI, mARwAI, mNwAJ, mSwAJ, mKwAJ, mIwAJ, mJwAJ, mRwAJ, mLwAJ, mAIwAJ, mAJwAJ, mARwAJ, mNwAR, mSwAR, mKwAR, mIwAR, mJwAR, mRwAR, mLwAR, mAIwAR, mAJwAR, mARwAR, okkwI, okkwJ, okkwR, okkwAI, okkwAJ, okkwAR]
theorem sq_R {M : Mem} : mR (sq0 M) = mR M := by simp [sq0, mkF, mNwI, mSwI, mKwI, mIwI, mJwI, mRwI, mLwI, mAIwI, mAJwI, mARwI, mNwJ, mSwJ, mKwJ, mIwJ, mJwJ, mRwJ, mLwJ, mAIwJ, mAJwJ, mARwJ, mNwR, mSwR, mKwR, mIwR, mJwR, mRwR, mLwR, mAIwR, mAJwR, mARwR, mNwAI, mSwAI, mKwAI, mIwAI, mJwAI, mRwAI, mLwAI, mAIwAI, mAJwAI, mARwAI, mNwAJ, mSwAJ, mKwAJ, mIwAJ, mJwAJ, mRwAJ, mLwAJ, mAIwAJ, mAJwAJ, mARwAJ, mNwAR, mSwAR, mKwAR, mIwAR, mJwAR, mRwAR, mLwAR, mAIwAR, mAJwAR, mARwAR, okkwI, okkwJ, okkwR, okkwAI, okkwAJ, okkwAR]
theorem sq_N {M : Mem} : mN (sq0 M) = mN M := by simp [sq0, mkF, mNwI, mSwI, mKwI, mIwI, mJwI, mRwI, mLwI, mAIwI, mAJwI, mARwI, mNwJ, mSwJ, mKwJ, mIwJ, mJwJ, mRwJ, mLwJ, mAIwJ, mAJwJ, mARwJ, mNwR, mSwR, mKwR, mIwR, mJwR, mRwR, mLwR, mAIwR, mAJwR, mARwR, mNwAI, mSwAI, mKwAI, mIwAI, mJwAI, mRwAI, mLwAI, mAIwAI, mAJwAI, mARwAI, mNwAJ, mSwAJ, mKwAJ, mIwAJ, mJwAJ, mRwAJ, mLwAJ, mAIwAJ, mAJwAJ, mARwAJ, mNwAR, mSwAR, mKwAR, mIwAR, mJwAR, mRwAR, mLwAR, mAIwAR, mAJwAR, mARwAR, okkwI, okkwJ, okkwR, okkwAI, okkwAJ, okkwAR]
theorem sq_S {M : Mem} : mS (sq0 M) = mS M := by simp [sq0, mkF, mNwI, mSwI, mKwI, mIwI, mJwI, mRwI, mLwI, mAIwI, mAJwI, mARwI, mNwJ, mSwJ, mKwJ, mIwJ, mJwJ, mRwJ, mLwJ, mAIwJ, mAJwJ, mARwJ, mNwR, mSwR, mKwR, mIwR, mJwR, mRwR, mLwR, mAIwR, mAJwR, mARwR, mNwAI, mSwAI, mKwAI, mIwAI, mJwAI, mRwAI, mLwAI, mAIwAI, mAJwAI, mARwAI, mNwAJ, mSwAJ, mKwAJ, mIwAJ, mJwAJ, mRwAJ, mLwAJ, mAIwAJ, mAJwAJ, mARwAJ, mNwAR, mSwAR, mKwAR, mIwAR, mJwAR, mRwAR, mLwAR, mAIwAR, mAJwAR, mARwAR, okkwI, okkwJ, okkwR, okkwAI, okkwAJ, okkwAR]
theorem sq_ok {M : Mem} {a c : Nat} : ok (sq0 M) a c = ok M a c := by simp [sq0, mkF, mNwI, mSwI, mKwI, mIwI, mJwI, mRwI, mLwI, mAIwI, mAJwI, mARwI, mNwJ, mSwJ, mKwJ, mIwJ, mJwJ, mRwJ, mLwJ, mAIwJ, mAJwJ, mARwJ, mNwR, mSwR, mKwR, mIwR, mJwR, mRwR, mLwR, mAIwR, mAJwR, mARwR, mNwAI, mSwAI, mKwAI, mIwAI, mJwAI, mRwAI, mLwAI, mAIwAI, mAJwAI, mARwAI, mNwAJ, mSwAJ, mKwAJ, mIwAJ, mJwAJ, mRwAJ, mLwAJ, mAIwAJ, mAJwAJ, mARwAJ, mNwAR, mSwAR, mKwAR, mIwAR, mJwAR, mRwAR, mLwAR, mAIwAR, mAJwAR, mARwAR, okkwI, okkwJ, okkwR, okkwAI, okkwAJ, okkwAR]
theorem k0_seq {h n0 : Nat} {M : Mem} {Q : Option Value → Mem → Prop} (F : Fix M) (hk : mI M 15 9 = 1) (h10 : mI M 15 10 = 0) (h7 : mI M 15 7 = 1) (h12 : mI M 15 12 = 0) (h49 : mI M 4 9 = 1) (h4 : mI M 14 4 = 0) (hm : mR M 14 7 = some n0) (o3 : ok M n0 3) (hl : mR M n0 6 = some (n0 + 7)) (o1 : ok M (n0 + 7) 1) (hz : mI M (n0 + 7) 2 = 0) (hn : 132 ≤ n0) (H : ∀ M', M' = sq0 M → Fix M' → Q (some (.int 1)) M') : E (h + 6) mdX4_readSeq [.ref 14, .int 0] M Q := by
  refine KX4_readSeq ?_
  unfold DX4_readSeq_0
  refine ⟨ok14 F, 4, rf14_1 F, ok4 F, S_makeV (n := 1) F h49 (by decide) (fun M1 e1 F1 _ => ⟨_, rfl, 4, rf14_1 F1, ?_⟩)⟩
  refine KX4_readPart ?_
  unfold DX4_readPart_0
  have k9 : mI M1 15 9 = 1 := by rw [e1]; simp [mkF, hk, mNwI, mSwI, mKwI, mIwI, mJwI, mRwI, mLwI, mAIwI, mAJwI, mARwI, mNwJ, mSwJ, mKwJ, mIwJ, mJwJ, mRwJ, mLwJ, mAIwJ, mAJwJ, mARwJ, mNwR, mSwR, mKwR, mIwR, mJwR, mRwR, mLwR, mAIwR, mAJwR, mARwR, mNwAI, mSwAI, mKwAI, mIwAI, mJwAI, mRwAI, mLwAI, mAIwAI, mAJwAI, mARwAI, mNwAJ, mSwAJ, mKwAJ, mIwAJ, mJwAJ, mRwAJ, mLwAJ, mAIwAJ, mAJwAJ, mARwAJ, mNwAR, mSwAR, mKwAR, mIwAR, mJwAR, mRwAR, mLwAR, mAIwAR, mAJwAR, mARwAR, okkwI, okkwJ, okkwR, okkwAI, okkwAJ, okkwAR]
  have k10 : mI M1 15 10 = 0 := by rw [e1]; simp [mkF, h10, mNwI, mSwI, mKwI, mIwI, mJwI, mRwI, mLwI, mAIwI, mAJwI, mARwI, mNwJ, mSwJ, mKwJ, mIwJ, mJwJ, mRwJ, mLwJ, mAIwJ, mAJwJ, mARwJ, mNwR, mSwR, mKwR, mIwR, mJwR, mRwR, mLwR, mAIwR, mAJwR, mARwR, mNwAI, mSwAI, mKwAI, mIwAI, mJwAI, mRwAI, mLwAI, mAIwAI, mAJwAI, mARwAI, mNwAJ, mSwAJ, mKwAJ, mIwAJ, mJwAJ, mRwAJ, mLwAJ, mAIwAJ, mAJwAJ, mARwAJ, mNwAR, mSwAR, mKwAR, mIwAR, mJwAR, mRwAR, mLwAR, mAIwAR, mAJwAR, mARwAR, okkwI, okkwJ, okkwR, okkwAI, okkwAJ, okkwAR]
  have k7 : mI M1 15 7 = 1 := by rw [e1]; simp [mkF, h7, mNwI, mSwI, mKwI, mIwI, mJwI, mRwI, mLwI, mAIwI, mAJwI, mARwI, mNwJ, mSwJ, mKwJ, mIwJ, mJwJ, mRwJ, mLwJ, mAIwJ, mAJwJ, mARwJ, mNwR, mSwR, mKwR, mIwR, mJwR, mRwR, mLwR, mAIwR, mAJwR, mARwR, mNwAI, mSwAI, mKwAI, mIwAI, mJwAI, mRwAI, mLwAI, mAIwAI, mAJwAI, mARwAI, mNwAJ, mSwAJ, mKwAJ, mIwAJ, mJwAJ, mRwAJ, mLwAJ, mAIwAJ, mAJwAJ, mARwAJ, mNwAR, mSwAR, mKwAR, mIwAR, mJwAR, mRwAR, mLwAR, mAIwAR, mAJwAR, mARwAR, okkwI, okkwJ, okkwR, okkwAI, okkwAJ, okkwAR]
  refine ⟨ok14 F1, 15, rf14_0 F1, ok15 F1, ?_⟩
  rw [k9]
  refine k0_check (n0 := n0) F1 (by rw [e1]; simp [mkF, h12, mNwI, mSwI, mKwI, mIwI, mJwI, mRwI, mLwI, mAIwI, mAJwI, mARwI, mNwJ, mSwJ, mKwJ, mIwJ, mJwJ, mRwJ, mLwJ, mAIwJ, mAJwJ, mARwJ, mNwR, mSwR, mKwR, mIwR, mJwR, mRwR, mLwR, mAIwR, mAJwR, mARwR, mNwAI, mSwAI, mKwAI, mIwAI, mJwAI, mRwAI, mLwAI, mAIwAI, mAJwAI, mARwAI, mNwAJ, mSwAJ, mKwAJ, mIwAJ, mJwAJ, mRwAJ, mLwAJ, mAIwAJ, mAJwAJ, mARwAJ, mNwAR, mSwAR, mKwAR, mIwAR, mJwAR, mRwAR, mLwAR, mAIwAR, mAJwAR, mARwAR, okkwI, okkwJ, okkwR, okkwAI, okkwAJ, okkwAR]) (by rw [e1]; simp [mkF, h4, mNwI, mSwI, mKwI, mIwI, mJwI, mRwI, mLwI, mAIwI, mAJwI, mARwI, mNwJ, mSwJ, mKwJ, mIwJ, mJwJ, mRwJ, mLwJ, mAIwJ, mAJwJ, mARwJ, mNwR, mSwR, mKwR, mIwR, mJwR, mRwR, mLwR, mAIwR, mAJwR, mARwR, mNwAI, mSwAI, mKwAI, mIwAI, mJwAI, mRwAI, mLwAI, mAIwAI, mAJwAI, mARwAI, mNwAJ, mSwAJ, mKwAJ, mIwAJ, mJwAJ, mRwAJ, mLwAJ, mAIwAJ, mAJwAJ, mARwAJ, mNwAR, mSwAR, mKwAR, mIwAR, mJwAR, mRwAR, mLwAR, mAIwAR, mAJwAR, mARwAR, okkwI, okkwJ, okkwR, okkwAI, okkwAJ, okkwAR]) (by rw [e1]; simp [mkF, hm, mNwI, mSwI, mKwI, mIwI, mJwI, mRwI, mLwI, mAIwI, mAJwI, mARwI, mNwJ, mSwJ, mKwJ, mIwJ, mJwJ, mRwJ, mLwJ, mAIwJ, mAJwJ, mARwJ, mNwR, mSwR, mKwR, mIwR, mJwR, mRwR, mLwR, mAIwR, mAJwR, mARwR, mNwAI, mSwAI, mKwAI, mIwAI, mJwAI, mRwAI, mLwAI, mAIwAI, mAJwAI, mARwAI, mNwAJ, mSwAJ, mKwAJ, mIwAJ, mJwAJ, mRwAJ, mLwAJ, mAIwAJ, mAJwAJ, mARwAJ, mNwAR, mSwAR, mKwAR, mIwAR, mJwAR, mRwAR, mLwAR, mAIwAR, mAJwAR, mARwAR, okkwI, okkwJ, okkwR, okkwAI, okkwAJ, okkwAR]) (by rw [e1]; simp [mkF, o3, mNwI, mSwI, mKwI, mIwI, mJwI, mRwI, mLwI, mAIwI, mAJwI, mARwI, mNwJ, mSwJ, mKwJ, mIwJ, mJwJ, mRwJ, mLwJ, mAIwJ, mAJwJ, mARwJ, mNwR, mSwR, mKwR, mIwR, mJwR, mRwR, mLwR, mAIwR, mAJwR, mARwR, mNwAI, mSwAI, mKwAI, mIwAI, mJwAI, mRwAI, mLwAI, mAIwAI, mAJwAI, mARwAI, mNwAJ, mSwAJ, mKwAJ, mIwAJ, mJwAJ, mRwAJ, mLwAJ, mAIwAJ, mAJwAJ, mARwAJ, mNwAR, mSwAR, mKwAR, mIwAR, mJwAR, mRwAR, mLwAR, mAIwAR, mAJwAR, mARwAR, okkwI, okkwJ, okkwR, okkwAI, okkwAJ, okkwAR]) (by rw [e1]; simp [mkF, hl, mNwI, mSwI, mKwI, mIwI, mJwI, mRwI, mLwI, mAIwI, mAJwI, mARwI, mNwJ, mSwJ, mKwJ, mIwJ, mJwJ, mRwJ, mLwJ, mAIwJ, mAJwJ, mARwJ, mNwR, mSwR, mKwR, mIwR, mJwR, mRwR, mLwR, mAIwR, mAJwR, mARwR, mNwAI, mSwAI, mKwAI, mIwAI, mJwAI, mRwAI, mLwAI, mAIwAI, mAJwAI, mARwAI, mNwAJ, mSwAJ, mKwAJ, mIwAJ, mJwAJ, mRwAJ, mLwAJ, mAIwAJ, mAJwAJ, mARwAJ, mNwAR, mSwAR, mKwAR, mIwAR, mJwAR, mRwAR, mLwAR, mAIwAR, mAJwAR, mARwAR, okkwI, okkwJ, okkwR, okkwAI, okkwAJ, okkwAR]) (by rw [e1]; simp [mkF, o1, mNwI, mSwI, mKwI, mIwI, mJwI, mRwI, mLwI, mAIwI, mAJwI, mARwI, mNwJ, mSwJ, mKwJ, mIwJ, mJwJ, mRwJ, mLwJ, mAIwJ, mAJwJ, mARwJ, mNwR, mSwR, mKwR, mIwR, mJwR, mRwR, mLwR, mAIwR, mAJwR, mARwR, mNwAI, mSwAI, mKwAI, mIwAI, mJwAI, mRwAI, mLwAI, mAIwAI, mAJwAI, mARwAI, mNwAJ, mSwAJ, mKwAJ, mIwAJ, mJwAJ, mRwAJ, mLwAJ, mAIwAJ, mAJwAJ, mARwAJ, mNwAR, mSwAR, mKwAR, mIwAR, mJwAR, mRwAR, mLwAR, mAIwAR, mAJwAR, mARwAR, okkwI, okkwJ, okkwR, okkwAI, okkwAJ, okkwAR]) (by rw [e1]; simp [mkF, hz, mNwI, mSwI, mKwI, mIwI, mJwI, mRwI, mLwI, mAIwI, mAJwI, mARwI, mNwJ, mSwJ, mKwJ, mIwJ, mJwJ, mRwJ, mLwJ, mAIwJ, mAJwJ, mARwJ, mNwR, mSwR, mKwR, mIwR, mJwR, mRwR, mLwR, mAIwR, mAJwR, mARwR, mNwAI, mSwAI, mKwAI, mIwAI, mJwAI, mRwAI, mLwAI, mAIwAI, mAJwAI, mARwAI, mNwAJ, mSwAJ, mKwAJ, mIwAJ, mJwAJ, mRwAJ, mLwAJ, mAIwAJ, mAJwAJ, mARwAJ, mNwAR, mSwAR, mKwAR, mIwAR, mJwAR, mRwAR, mLwAR, mAIwAR, mAJwAR, mARwAR, okkwI, okkwJ, okkwR, okkwAI, okkwAJ, okkwAR]) hn (fun M2 e2 F2 _ => ⟨rfl, 15, rf14_0 F2, ok15 F2, fun hc => ?_, fun _ => ?_⟩)
  · have q : mI M2 15 12 = 2 := by rw [e2]; simp [mNwI, mSwI, mKwI, mIwI, mJwI, mRwI, mLwI, mAIwI, mAJwI, mARwI, mNwJ, mSwJ, mKwJ, mIwJ, mJwJ, mRwJ, mLwJ, mAIwJ, mAJwJ, mARwJ, mNwR, mSwR, mKwR, mIwR, mJwR, mRwR, mLwR, mAIwR, mAJwR, mARwR, mNwAI, mSwAI, mKwAI, mIwAI, mJwAI, mRwAI, mLwAI, mAIwAI, mAJwAI, mARwAI, mNwAJ, mSwAJ, mKwAJ, mIwAJ, mJwAJ, mRwAJ, mLwAJ, mAIwAJ, mAJwAJ, mARwAJ, mNwAR, mSwAR, mKwAR, mIwAR, mJwAR, mRwAR, mLwAR, mAIwAR, mAJwAR, mARwAR, okkwI, okkwJ, okkwR, okkwAI, okkwAJ, okkwAR]
    rw [q] at hc
    exact absurd hc (by decide)
  rw [k10] at e2
  have g9 : mI M2 15 9 = 0 := by rw [e2]; simp [mNwI, mSwI, mKwI, mIwI, mJwI, mRwI, mLwI, mAIwI, mAJwI, mARwI, mNwJ, mSwJ, mKwJ, mIwJ, mJwJ, mRwJ, mLwJ, mAIwJ, mAJwJ, mARwJ, mNwR, mSwR, mKwR, mIwR, mJwR, mRwR, mLwR, mAIwR, mAJwR, mARwR, mNwAI, mSwAI, mKwAI, mIwAI, mJwAI, mRwAI, mLwAI, mAIwAI, mAJwAI, mARwAI, mNwAJ, mSwAJ, mKwAJ, mIwAJ, mJwAJ, mRwAJ, mLwAJ, mAIwAJ, mAJwAJ, mARwAJ, mNwAR, mSwAR, mKwAR, mIwAR, mJwAR, mRwAR, mLwAR, mAIwAR, mAJwAR, mARwAR, okkwI, okkwJ, okkwR, okkwAI, okkwAJ, okkwAR]
  have g7 : mI M2 15 7 = 1 := by rw [e2]; simp [k7, mNwI, mSwI, mKwI, mIwI, mJwI, mRwI, mLwI, mAIwI, mAJwI, mARwI, mNwJ, mSwJ, mKwJ, mIwJ, mJwJ, mRwJ, mLwJ, mAIwJ, mAJwJ, mARwJ, mNwR, mSwR, mKwR, mIwR, mJwR, mRwR, mLwR, mAIwR, mAJwR, mARwR, mNwAI, mSwAI, mKwAI, mIwAI, mJwAI, mRwAI, mLwAI, mAIwAI, mAJwAI, mARwAI, mNwAJ, mSwAJ, mKwAJ, mIwAJ, mJwAJ, mRwAJ, mLwAJ, mAIwAJ, mAJwAJ, mARwAJ, mNwAR, mSwAR, mKwAR, mIwAR, mJwAR, mRwAR, mLwAR, mAIwAR, mAJwAR, mARwAR, okkwI, okkwJ, okkwR, okkwAI, okkwAJ, okkwAR]
  refine fun _ => ⟨_, rfl, ok4 F2, ?_⟩
  refine KX8_hang ?_
  unfold DX8_hang_0 DX8_hang_8
  refine ⟨fun hc => absurd hc (by decide), fun _ => ⟨fun hc => absurd rfl hc, fun _ => fun _ => ⟨rfl, ?_⟩⟩⟩
  refine VX4_readSeq_26 ?_
  unfold DX4_readSeq_26 DX4_readSeq_65
  refine ⟨fun hc => absurd hc (by decide), fun _ => ⟨ok14 F2, 15, rf14_0 F2, ok15 F2, S_accept F2 (by rw [g7]; decide) (fun hc => ?_) (fun _ => fun _ => ⟨_, rfl, fun _ => H M2 (by rw [e2, e1]; rfl) F2, fun hc => absurd rfl hc⟩)⟩⟩
  rw [g9] at hc
  exact absurd hc (by decide)
theorem k0_late {h n0 : Nat} {M : Mem} {Q : Option Value → Mem → Prop} (F : Fix M) (hm : mR M 14 7 = some n0) (o3 : ok M n0 3) (hl : mR M n0 6 = some (n0 + 7)) (o1 : ok M (n0 + 7) 1) (hz : mI M (n0 + 7) 2 = 0) (H : Q none M) : E (h + 2) mdX4_findLateFault [.ref 14] M Q := by
  refine KX4_findLateFault ?_
  unfold DX4_findLateFault_0
  refine VX4_findLateFault_2 ?_
  unfold DX4_findLateFault_2 DX4_findLateFault_69
  refine ⟨ok14 F, n0, hm, o3, n0 + 7, hl, o1, S_size o1 (fun _ => ⟨_, rfl, fun _ => H, fun hc => ?_⟩)⟩
  rw [hz] at hc
  exact absurd (by decide) hc
theorem cpC_n : mN cpC = 25 := rfl
theorem cpC_s : mS cpC ≤ 1000 := by decide +kernel
/-- what one empty compile leaves of a memory -/
def G0 (M M' : Mem) : Prop := Fix M' ∧ mI M' 29 = mI M 29 ∧ mN M' = mN M + 25 ∧ mS M' ≤ mS M + 1000
theorem rR147 : (tR ++ tS).all (fun e => !(e.1 == 14 && e.2.1 == 7)) = true := by decide +kernel
theorem k0_read {h : Nat} {M : Mem} {Q : Option Value → Mem → Prop} (F : Fix M) (H : ∀ M', G0 M M' → mI M' 15 12 = 2 → mI M' 15 13 = 0 → Q (some (va_rf none)) M') : E (h + 8) mdX4_read [.ref 14, .int 0] M Q := by
  refine KX4_read ?_
  unfold DX4_read_0 DX4_read_81 DX4_read_117
  intro q2 M1 hq hM1
  have hS : Sh (mN M) M M1 cp0 := by rw [hM1]; exact (Sh.start rfl).o (by decide)
  have h132 := F.1
  generalize hn0 : mN M = n0 at *
  have hq := hq.symm
  subst hq
  refine (S_comp hS).imp (fun r M3 _ hp _ => ⟨hp.1, ?_⟩)
  obtain ⟨-, m⟩ := hp
  have F3 : Fix M3 := m.fix F
  have i29 : mI M3 29 = mI M 29 := (m.2.2.2.1.2 29 (by omega) (fun z => z)).1
  have n3 : mN M3 = n0 + 25 := m.1
  have s3 : mS M3 ≤ mS M + 1000 := by rw [m.2.2.1]; have := cpC_s; omega
  have a1 : ok M3 n0 3 := m.k (a := 0) (by decide) rfl
  have a2 : mR M3 n0 6 = some (n0 + 7) := m.rR (a := 0) (by decide) (by decide) rfl (by decide)
  have a3 : ok M3 (n0 + 7) 1 := m.k (by decide) rfl
  have a4 : mI M3 (n0 + 7) 2 = 0 := m.rI (by decide) (by decide) rfl
  clear m
  refine ⟨ok14 F3, fun M5 e5 M6 e6 M7 e7 M8 e8 M9 e9 => ?_⟩
  have F9 : Fix M9 := by rw [e9, e8, e7, e6, e5]; exact (F3.r rR147).i.i.i.i
  have e9 : M9 = wI (wI (wI (wI (wR M3 14 7 (some n0)) 14 3 0) 14 4 0) 14 5 0) 14 6 0 := by rw [e9, e8, e7, e6, e5]
  have g1 : mI M9 14 4 = 0 := by rw [e9]; simp [mNwI, mSwI, mKwI, mIwI, mJwI, mRwI, mLwI, mAIwI, mAJwI, mARwI, mNwJ, mSwJ, mKwJ, mIwJ, mJwJ, mRwJ, mLwJ, mAIwJ, mAJwJ, mARwJ, mNwR, mSwR, mKwR, mIwR, mJwR, mRwR, mLwR, mAIwR, mAJwR, mARwR, mNwAI, mSwAI, mKwAI, mIwAI, mJwAI, mRwAI, mLwAI, mAIwAI, mAJwAI, mARwAI, mNwAJ, mSwAJ, mKwAJ, mIwAJ, mJwAJ, mRwAJ, mLwAJ, mAIwAJ, mAJwAJ, mARwAJ, mNwAR, mSwAR, mKwAR, mIwAR, mJwAR, mRwAR, mLwAR, mAIwAR, mAJwAR, mARwAR, okkwI, okkwJ, okkwR, okkwAI, okkwAJ, okkwAR]
  have g2 : mR M9 14 7 = some n0 := by rw [e9]; simp [mNwI, mSwI, mKwI, mIwI, mJwI, mRwI, mLwI, mAIwI, mAJwI, mARwI, mNwJ, mSwJ, mKwJ, mIwJ, mJwJ, mRwJ, mLwJ, mAIwJ, mAJwJ, mARwJ, mNwR, mSwR, mKwR, mIwR, mJwR, mRwR, mLwR, mAIwR, mAJwR, mARwR, mNwAI, mSwAI, mKwAI, mIwAI, mJwAI, mRwAI, mLwAI, mAIwAI, mAJwAI, mARwAI, mNwAJ, mSwAJ, mKwAJ, mIwAJ, mJwAJ, mRwAJ, mLwAJ, mAIwAJ, mAJwAJ, mARwAJ, mNwAR, mSwAR, mKwAR, mIwAR, mJwAR, mRwAR, mLwAR, mAIwAR, mAJwAR, mARwAR, okkwI, okkwJ, okkwR, okkwAI, okkwAJ, okkwAR]
  have g3 : ok M9 n0 3 := by rw [e9]; simp [a1, mNwI, mSwI, mKwI, mIwI, mJwI, mRwI, mLwI, mAIwI, mAJwI, mARwI, mNwJ, mSwJ, mKwJ, mIwJ, mJwJ, mRwJ, mLwJ, mAIwJ, mAJwJ, mARwJ, mNwR, mSwR, mKwR, mIwR, mJwR, mRwR, mLwR, mAIwR, mAJwR, mARwR, mNwAI, mSwAI, mKwAI, mIwAI, mJwAI, mRwAI, mLwAI, mAIwAI, mAJwAI, mARwAI, mNwAJ, mSwAJ, mKwAJ, mIwAJ, mJwAJ, mRwAJ, mLwAJ, mAIwAJ, mAJwAJ, mARwAJ, mNwAR, mSwAR, mKwAR, mIwAR, mJwAR, mRwAR, mLwAR, mAIwAR, mAJwAR, mARwAR, okkwI, okkwJ, okkwR, okkwAI, okkwAJ, okkwAR]
  have g4 : mR M9 n0 6 = some (n0 + 7) := by rw [e9]; simp [a2, mNwI, mSwI, mKwI, mIwI, mJwI, mRwI, mLwI, mAIwI, mAJwI, mARwI, mNwJ, mSwJ, mKwJ, mIwJ, mJwJ, mRwJ, mLwJ, mAIwJ, mAJwJ, mARwJ, mNwR, mSwR, mKwR, mIwR, mJwR, mRwR, mLwR, mAIwR, mAJwR, mARwR, mNwAI, mSwAI, mKwAI, mIwAI, mJwAI, mRwAI, mLwAI, mAIwAI, mAJwAI, mARwAI, mNwAJ, mSwAJ, mKwAJ, mIwAJ, mJwAJ, mRwAJ, mLwAJ, mAIwAJ, mAJwAJ, mARwAJ, mNwAR, mSwAR, mKwAR, mIwAR, mJwAR, mRwAR, mLwAR, mAIwAR, mAJwAR, mARwAR, okkwI, okkwJ, okkwR, okkwAI, okkwAJ, okkwAR]
  have g5 : ok M9 (n0 + 7) 1 := by rw [e9]; simp [a3, mNwI, mSwI, mKwI, mIwI, mJwI, mRwI, mLwI, mAIwI, mAJwI, mARwI, mNwJ, mSwJ, mKwJ, mIwJ, mJwJ, mRwJ, mLwJ, mAIwJ, mAJwJ, mARwJ, mNwR, mSwR, mKwR, mIwR, mJwR, mRwR, mLwR, mAIwR, mAJwR, mARwR, mNwAI, mSwAI, mKwAI, mIwAI, mJwAI, mRwAI, mLwAI, mAIwAI, mAJwAI, mARwAI, mNwAJ, mSwAJ, mKwAJ, mIwAJ, mJwAJ, mRwAJ, mLwAJ, mAIwAJ, mAJwAJ, mARwAJ, mNwAR, mSwAR, mKwAR, mIwAR, mJwAR, mRwAR, mLwAR, mAIwAR, mAJwAR, mARwAR, okkwI, okkwJ, okkwR, okkwAI, okkwAJ, okkwAR]
  have g6 : ∀ a f, a ≠ 14 → mI M9 a f = mI M3 a f := by intro a f ha; rw [e9]; simp [ha, mNwI, mSwI, mKwI, mIwI, mJwI, mRwI, mLwI, mAIwI, mAJwI, mARwI, mNwJ, mSwJ, mKwJ, mIwJ, mJwJ, mRwJ, mLwJ, mAIwJ, mAJwJ, mARwJ, mNwR, mSwR, mKwR, mIwR, mJwR, mRwR, mLwR, mAIwR, mAJwR, mARwR, mNwAI, mSwAI, mKwAI, mIwAI, mJwAI, mRwAI, mLwAI, mAIwAI, mAJwAI, mARwAI, mNwAJ, mSwAJ, mKwAJ, mIwAJ, mJwAJ, mRwAJ, mLwAJ, mAIwAJ, mAJwAJ, mARwAJ, mNwAR, mSwAR, mKwAR, mIwAR, mJwAR, mRwAR, mLwAR, mAIwAR, mAJwAR, mARwAR, okkwI, okkwJ, okkwR, okkwAI, okkwAJ, okkwAR]
  have g7 : mN M9 = n0 + 25 := by rw [e9]; simp [n3, mNwI, mSwI, mKwI, mIwI, mJwI, mRwI, mLwI, mAIwI, mAJwI, mARwI, mNwJ, mSwJ, mKwJ, mIwJ, mJwJ, mRwJ, mLwJ, mAIwJ, mAJwJ, mARwJ, mNwR, mSwR, mKwR, mIwR, mJwR, mRwR, mLwR, mAIwR, mAJwR, mARwR, mNwAI, mSwAI, mKwAI, mIwAI, mJwAI, mRwAI, mLwAI, mAIwAI, mAJwAI, mARwAI, mNwAJ, mSwAJ, mKwAJ, mIwAJ, mJwAJ, mRwAJ, mLwAJ, mAIwAJ, mAJwAJ, mARwAJ, mNwAR, mSwAR, mKwAR, mIwAR, mJwAR, mRwAR, mLwAR, mAIwAR, mAJwAR, mARwAR, okkwI, okkwJ, okkwR, okkwAI, okkwAJ, okkwAR]
  have g8 : mS M9 = mS M3 := by rw [e9]; simp [mNwI, mSwI, mKwI, mIwI, mJwI, mRwI, mLwI, mAIwI, mAJwI, mARwI, mNwJ, mSwJ, mKwJ, mIwJ, mJwJ, mRwJ, mLwJ, mAIwJ, mAJwJ, mARwJ, mNwR, mSwR, mKwR, mIwR, mJwR, mRwR, mLwR, mAIwR, mAJwR, mARwR, mNwAI, mSwAI, mKwAI, mIwAI, mJwAI, mRwAI, mLwAI, mAIwAI, mAJwAI, mARwAI, mNwAJ, mSwAJ, mKwAJ, mIwAJ, mJwAJ, mRwAJ, mLwAJ, mAIwAJ, mAJwAJ, mARwAJ, mNwAR, mSwAR, mKwAR, mIwAR, mJwAR, mRwAR, mLwAR, mAIwAR, mAJwAR, mARwAR, okkwI, okkwJ, okkwR, okkwAI, okkwAJ, okkwAR]
  clear e9 e8 e7 e6 e5
  refine ⟨4, rf14_1 F9, ok4 F9, k0_treeV F9 (fun A hA FA _ => ⟨rfl, ?_⟩)⟩
  have hA := hA.symm
  have g9 : mI A 4 9 = 1 := by rw [← hA]; simp [mNwI, mSwI, mKwI, mIwI, mJwI, mRwI, mLwI, mAIwI, mAJwI, mARwI, mNwJ, mSwJ, mKwJ, mIwJ, mJwJ, mRwJ, mLwJ, mAIwJ, mAJwJ, mARwJ, mNwR, mSwR, mKwR, mIwR, mJwR, mRwR, mLwR, mAIwR, mAJwR, mARwR, mNwAI, mSwAI, mKwAI, mIwAI, mJwAI, mRwAI, mLwAI, mAIwAI, mAJwAI, mARwAI, mNwAJ, mSwAJ, mKwAJ, mIwAJ, mJwAJ, mRwAJ, mLwAJ, mAIwAJ, mAJwAJ, mARwAJ, mNwAR, mSwAR, mKwAR, mIwAR, mJwAR, mRwAR, mLwAR, mAIwAR, mAJwAR, mARwAR, okkwI, okkwJ, okkwR, okkwAI, okkwAJ, okkwAR]
  have gA : ∀ a f, a ≠ 4 → mI A a f = mI M9 a f := by intro a f ha; rw [← hA]; simp [ha, mNwI, mSwI, mKwI, mIwI, mJwI, mRwI, mLwI, mAIwI, mAJwI, mARwI, mNwJ, mSwJ, mKwJ, mIwJ, mJwJ, mRwJ, mLwJ, mAIwJ, mAJwJ, mARwJ, mNwR, mSwR, mKwR, mIwR, mJwR, mRwR, mLwR, mAIwR, mAJwR, mARwR, mNwAI, mSwAI, mKwAI, mIwAI, mJwAI, mRwAI, mLwAI, mAIwAI, mAJwAI, mARwAI, mNwAJ, mSwAJ, mKwAJ, mIwAJ, mJwAJ, mRwAJ, mLwAJ, mAIwAJ, mAJwAJ, mARwAJ, mNwAR, mSwAR, mKwAR, mIwAR, mJwAR, mRwAR, mLwAR, mAIwAR, mAJwAR, mARwAR, okkwI, okkwJ, okkwR, okkwAI, okkwAJ, okkwAR]
  have gB : mR A = mR M9 := by rw [← hA]; simp [mNwI, mSwI, mKwI, mIwI, mJwI, mRwI, mLwI, mAIwI, mAJwI, mARwI, mNwJ, mSwJ, mKwJ, mIwJ, mJwJ, mRwJ, mLwJ, mAIwJ, mAJwJ, mARwJ, mNwR, mSwR, mKwR, mIwR, mJwR, mRwR, mLwR, mAIwR, mAJwR, mARwR, mNwAI, mSwAI, mKwAI, mIwAI, mJwAI, mRwAI, mLwAI, mAIwAI, mAJwAI, mARwAI, mNwAJ, mSwAJ, mKwAJ, mIwAJ, mJwAJ, mRwAJ, mLwAJ, mAIwAJ, mAJwAJ, mARwAJ, mNwAR, mSwAR, mKwAR, mIwAR, mJwAR, mRwAR, mLwAR, mAIwAR, mAJwAR, mARwAR, okkwI, okkwJ, okkwR, okkwAI, okkwAJ, okkwAR]
  have gC : mN A = mN M9 := by rw [← hA]; simp [mNwI, mSwI, mKwI, mIwI, mJwI, mRwI, mLwI, mAIwI, mAJwI, mARwI, mNwJ, mSwJ, mKwJ, mIwJ, mJwJ, mRwJ, mLwJ, mAIwJ, mAJwJ, mARwJ, mNwR, mSwR, mKwR, mIwR, mJwR, mRwR, mLwR, mAIwR, mAJwR, mARwR, mNwAI, mSwAI, mKwAI, mIwAI, mJwAI, mRwAI, mLwAI, mAIwAI, mAJwAI, mARwAI, mNwAJ, mSwAJ, mKwAJ, mIwAJ, mJwAJ, mRwAJ, mLwAJ, mAIwAJ, mAJwAJ, mARwAJ, mNwAR, mSwAR, mKwAR, mIwAR, mJwAR, mRwAR, mLwAR, mAIwAR, mAJwAR, mARwAR, okkwI, okkwJ, okkwR, okkwAI, okkwAJ, okkwAR]
  have gD : mS A = mS M9 := by rw [← hA]; simp [mNwI, mSwI, mKwI, mIwI, mJwI, mRwI, mLwI, mAIwI, mAJwI, mARwI, mNwJ, mSwJ, mKwJ, mIwJ, mJwJ, mRwJ, mLwJ, mAIwJ, mAJwJ, mARwJ, mNwR, mSwR, mKwR, mIwR, mJwR, mRwR, mLwR, mAIwR, mAJwR, mARwR, mNwAI, mSwAI, mKwAI, mIwAI, mJwAI, mRwAI, mLwAI, mAIwAI, mAJwAI, mARwAI, mNwAJ, mSwAJ, mKwAJ, mIwAJ, mJwAJ, mRwAJ, mLwAJ, mAIwAJ, mAJwAJ, mARwAJ, mNwAR, mSwAR, mKwAR, mIwAR, mJwAR, mRwAR, mLwAR, mAIwAR, mAJwAR, mARwAR, okkwI, okkwJ, okkwR, okkwAI, okkwAJ, okkwAR]
  have gE : ∀ a c, ok M9 a c → ok A a c := by intro a c q; rw [← hA]; simp [q, mNwI, mSwI, mKwI, mIwI, mJwI, mRwI, mLwI, mAIwI, mAJwI, mARwI, mNwJ, mSwJ, mKwJ, mIwJ, mJwJ, mRwJ, mLwJ, mAIwJ, mAJwJ, mARwJ, mNwR, mSwR, mKwR, mIwR, mJwR, mRwR, mLwR, mAIwR, mAJwR, mARwR, mNwAI, mSwAI, mKwAI, mIwAI, mJwAI, mRwAI, mLwAI, mAIwAI, mAJwAI, mARwAI, mNwAJ, mSwAJ, mKwAJ, mIwAJ, mJwAJ, mRwAJ, mLwAJ, mAIwAJ, mAJwAJ, mARwAJ, mNwAR, mSwAR, mKwAR, mIwAR, mJwAR, mRwAR, mLwAR, mAIwAR, mAJwAR, mARwAR, okkwI, okkwJ, okkwR, okkwAI, okkwAJ, okkwAR]
  clear hA
  refine ⟨15, rf14_0 FA, ok15 FA, k0_beginV FA (fun B hB FB _ => ⟨rfl, ?_⟩)⟩
  have hB := hB.symm
  have b1 : mI B 15 9 = 1 := by rw [← hB]; exact t1_9
  have b2 : mI B 15 10 = 0 := by rw [← hB]; exact t1_10
  have b3 : mI B 15 7 = 1 := by rw [← hB]; exact t1_7
  have b4 : mI B 15 12 = 0 := by rw [← hB]; exact t1_12
  have b5 : mI B 4 9 = 1 := by rw [← hB, t1_I (by decide)]; exact g9
  have b6 : mI B 14 4 = 0 := by rw [← hB, t1_I (by decide), gA 14 4 (by decide)]; exact g1
  have b7 : mR B 14 7 = some n0 := by rw [← hB, t1_R, gB]; exact g2
  have b8 : ok B n0 3 := by rw [← hB, t1_ok]; exact gE _ _ g3
  have b9 : mR B n0 6 = some (n0 + 7) := by rw [← hB, t1_R, gB]; exact g4
  have bA : ok B (n0 + 7) 1 := by rw [← hB, t1_ok]; exact gE _ _ g5
  have bB : mI B (n0 + 7) 2 = 0 := by rw [← hB, t1_I (by omega), gA _ _ (by omega), g6 _ _ (by omega)]; exact a4
  have bC : mI B 29 = mI M 29 := by funext j; rw [← hB, t1_I (by decide), gA _ _ (by decide), g6 _ _ (by decide), i29]
  have bD : mN B = n0 + 25 := by rw [← hB, t1_N, gC, g7]
  have bE : mS B = mS M3 := by rw [← hB, t1_S, gD, g8]
  clear hB
  refine k0_told FB b1 (fun _ => ⟨rfl, n0, b7, k0_seq FB b1 b2 b3 b4 b5 b6 b7 b8 b9 bA bB h132 (fun C hC FC _ => ⟨_, rfl, by rw [hC, sq_ok]; exact b8, fun D hD => ?_⟩)⟩)
  have FD : Fix D := by rw [hD]; exact FC.i
  have dI : ∀ a f, a ≠ n0 → mI D a f = mI C a f := by intro a f ha; rw [hD, mI_wI, if_neg (fun z => ha z.1)]
  have d9 : mI D 15 9 = 0 := by rw [dI _ _ (by omega), hC, sq_9]
  have d12 : mI D 15 12 = 2 := by rw [dI _ _ (by omega), hC, sq_12]
  have d13 : mI D 15 13 = 0 := by rw [dI _ _ (by omega), hC, sq_13]
  have dR : mR D = mR B := by rw [hD, mR_wI, hC, sq_R]
  have dk : ∀ a c, ok B a c → ok D a c := by intro a c q; rw [hD, ok_wI, hC, sq_ok]; exact q
  have dN : mN D = n0 + 25 := by rw [hD, mN_wI, hC, sq_N, bD]
  have dS : mS D = mS M3 := by rw [hD, mS_wI, hC, sq_S, bE]
  have d7 : mI D (n0 + 7) 2 = 0 := by rw [dI _ _ (by omega), hC, sq_I (by omega) (by omega)]; exact bB
  have d29 : mI D 29 = mI M 29 := by funext j; rw [dI _ _ (by omega), hC, sq_I (by decide) (by decide), bC]
  refine ⟨15, rf14_0 FD, ok15 FD, fun hc => absurd (d9 ▸ hc) (by decide), fun _ => ⟨15, rf14_0 FD, ok15 FD, S_failV FD (fun X hX FX _ => ⟨rfl, ?_⟩)⟩⟩
  have hX : X = wI D 15 9 0 := by rw [hX]; unfold failF; rw [if_neg (by rw [d12]; decide)]
  have x1 : mR X 14 7 = some n0 := by rw [hX, mR_wI, dR]; exact b7
  have x2 : ok X n0 3 := by rw [hX, ok_wI]; exact dk _ _ b8
  have x3 : mR X n0 6 = some (n0 + 7) := by rw [hX, mR_wI, dR]; exact b9
  have x4 : ok X (n0 + 7) 1 := by rw [hX, ok_wI]; exact dk _ _ bA
  have x5 : mI X (n0 + 7) 2 = 0 := by rw [hX, mI_wI, if_neg (by omega)]; exact d7
  have x6 : mI X 15 12 = 2 := by rw [hX, mI_wI, if_neg (by decide)]; exact d12
  have x7 : mI X 15 13 = 0 := by rw [hX, mI_wI, if_neg (by decide)]; exact d13
  have x8 : mI X 29 = mI M 29 := by funext j; rw [hX, mI_wI, if_neg (by omega), d29]
  have x9 : mN X = n0 + 25 := by rw [hX, mN_wI, dN]
  have xA : mS X ≤ mS M + 1000 := by rw [hX, mS_wI, dS]; exact s3
  refine ⟨ok14 FX, k0_late FX x1 x2 x3 x4 x5 (fun _ => ⟨rfl, n0, x1, 4, rf14_1 FX, ok4 FX, x2, fun Y hY => ?_⟩)⟩
  have FY : Fix Y := by rw [hY]; exact FX.i
  have y12 : mI Y 15 12 = 2 := by rw [hY, mI_wI, if_neg (by omega), x6]
  refine ⟨15, rf14_0 FY, ok15 FY, fun _ => H Y ⟨FY, ?_, ?_, ?_⟩ y12 ?_, fun hc => absurd (y12 ▸ hc) (by decide)⟩
  · funext j; rw [hY, mI_wI, if_neg (by omega), x8]
  · rw [hY, hn0, mN_wI, x9]
  · rw [hY, mS_wI]; exact xA
  · rw [hY, mI_wI, if_neg (by omega), x7]
theorem k0_compile {h : Nat} {M : Mem} {Q : Option Value → Mem → Prop} (F : Fix M) (hs : mI M 2 2 = 0) (ht : mI M 0 1 = 0) (H : ∀ M', G0 M M' → Q (some (.int (-10))) M') : E (h + 9) mdX10_compile [.ref 0] M Q := by
  refine KX10_compile ?_
  unfold DX10_compile_0
  refine ⟨ok0 F, 2, rf0_2 F, ok2 F, S_size (ok2 F) (fun _ => ⟨_, rfl, fun _ => ⟨14, rf0_4 F, ok14 F, ?_⟩, fun hc => absurd (by rw [hs]; decide) hc⟩)⟩
  rw [ht]
  refine k0_read F (fun M8 g q12 q13 _ => ⟨none, rfl, fun M10 e10 => ?_⟩)
  have F10 : Fix M10 := by rw [e10]; exact g.1.i
  refine ⟨14, rf0_4 F10, ok14 F10, 15, rf14_0 F10, ok15 F10, fun M15 e15 => ?_⟩
  have F15 : Fix M15 := by rw [e15]; exact F10.i
  have r13 : mI M15 15 13 = 0 := by rw [e15, mI_wI, if_neg (by decide), e10, mI_wI, if_neg (by decide), q13]
  refine ⟨fun _ => ⟨14, rf0_4 F15, ok14 F15, 15, rf14_0 F15, ok15 F15, ?_⟩, fun b hb => by cases hb⟩
  rw [r13]
  refine H M15 ⟨F15, ?_, ?_, ?_⟩
  · funext j; rw [e15, mI_wI, if_neg (by omega), e10, mI_wI, if_neg (by omega), g.2.1]
  · rw [e15, mN_wI, e10, mN_wI, g.2.2.1]
  · rw [e15, mS_wI, e10, mS_wI]; exact g.2.2.2
/-! the reference's compile of the empty tape -/
def rc0 (M : Mem) : Mem := wAJ (wAI (wAI (wAI M 32 0 0) 31 0 0) 32 0 0) 33 0 0
theorem q0_cut {h : Nat} {M : Mem} {Q : Option Value → Mem → Prop} (F : Fix M) (h1 : mI M 29 1 = 0) (H : ∀ M', M' = rc0 M → Fix M' → Q none M') : E (h + 3) mdX11_cut [.ref 29] M Q := by
  refine KX11_cut ?_
  unfold DX11_cut_0
  refine VX11_cut_6 ?_
  unfold DX11_cut_6
  refine ⟨fun hc => absurd hc (by decide), fun _ => ?_⟩
  refine VX11_cut_10 ?_
  unfold DX11_cut_10
  have hT : ∀ M', mI M' 29 1 = 0 → TR M' 0 (fun _ => 0) := fun M' q => ⟨by decide, q, fun i hi => absurd hi (Nat.not_lt_zero i), fun _ _ => rfl⟩
  refine ⟨ok29 F, R_byteAt (i := 0) F (hT M h1) (by decide) (fun _ => ⟨_, rfl, fun hc => absurd hc (by decide), fun _ => R_byteAt (i := 0) F (hT M h1) (by decide) (fun _ => ⟨_, rfl, fun _ => R_byteAt (i := 0) F (hT M h1) (by decide) (fun _ => ⟨_, rfl, R_byteAt (i := 1) F (hT M h1) (by decide) (fun _ => ⟨_, rfl, 32, rf29_3 F, ok32 F, by rw [ln32 F]; exact vp_of (n := 0) (by decide) (by decide), fun M12 e12 => ?_⟩)⟩), fun hc => absurd hc (by decide)⟩)⟩)⟩
  have F12 : Fix M12 := by rw [e12]; exact F.ai
  have i12 : mI M12 29 1 = 0 := by rw [e12, mI_wAI]; exact h1
  rw [i12]
  refine ⟨fun hc => absurd hc (by decide), fun _ => ⟨31, rf29_2 F12, ok31 F12, by rw [ln31 F12]; exact vp_of (n := 0) (by decide) (by decide), fun M19 e19 => ?_⟩⟩
  have F19 : Fix M19 := by rw [e19]; exact F12.ai
  have i19 : mI M19 29 1 = 0 := by rw [e19, mI_wAI]; exact i12
  refine ⟨32, rf29_3 F19, ok32 F19, by rw [ln32 F19]; exact vp_of (n := 0) (by decide) (by decide), fun M22 e22 => ?_⟩
  have F22 : Fix M22 := by rw [e22]; exact F19.ai
  rw [i19] at e22
  unfold DX11_cut_374 DX11_cut_400 DX11_cut_401
  refine ⟨ok29 F22, 33, rf29_4 F22, ok33 F22, by rw [ln33 F22]; exact vp_of (n := 0) (by decide) (by decide), fun M4 e4 => ⟨fun _ => ?_, fun hc => absurd rfl hc⟩⟩
  have F4 : Fix M4 := by rw [e4]; exact F22.aj (by decide)
  refine VX11_cut_6 ?_
  unfold DX11_cut_6
  refine ⟨fun _ => H M4 ?_ F4, fun hc => absurd rfl hc⟩
  rw [e4, e22, e19, e12]; rfl
theorem q0_sort {h : Nat} {M : Mem} {Q : Option Value → Mem → Prop} (F : Fix M) (h5 : mI M 29 5 = 0) (hs : mAI M 31 0 = 0) (H : Q (some (.int (-1))) M) : E (h + 3) mdX11_sortOf [.ref 29] M Q := by
  refine KX11_sortOf ?_
  unfold DX11_sortOf_0 DX11_sortOf_50 DX11_sortOf_241
  refine ⟨ok29 F, R_isSaid (j := 0) F h5 (by decide) (fun _ => ⟨_, rfl, fun _ => ?_, fun hc => ?_⟩)⟩
  · refine KX11_isName ?_
    unfold DX11_isName_0 DX11_isName_24 DX11_isName_25
    have v0 : ∀ {c : Nat}, mL M c = 802 → vp_in (mI M 29 5) (mL M c) := fun e => by rw [e, h5]; exact vp_of (n := 0) (by decide) (by decide)
    refine ⟨ok29 F, 31, rf29_2 F, ok31 F, v0 (ln31 F), fun _ => ⟨Or.inl rfl, fun _ => ⟨_, rfl, fun _ => ⟨31, rf29_2 F, ok31 F, v0 (ln31 F), fun _ => ?_, fun hc => ?_⟩, fun hc => absurd rfl hc⟩⟩, fun hc => ?_⟩
    · refine ⟨fun _ => ⟨fun _ => ⟨fun _ => ⟨fun _ => ⟨fun _ => ⟨fun _ => ⟨fun _ => ⟨fun _ => ⟨fun _ => ⟨fun _ => ⟨fun _ => ⟨fun _ => ⟨fun _ => ⟨fun _ => ⟨fun _ => H, ?_⟩, ?_⟩, ?_⟩, ?_⟩, ?_⟩, ?_⟩, ?_⟩, ?_⟩, ?_⟩, ?_⟩, ?_⟩, ?_⟩, ?_⟩, ?_⟩, ?_⟩ <;> (intro hc; exact absurd hc (by decide))
    · rw [h5] at hc
      have hc : mAI M 31 0 = 1 := hc
      rw [hs] at hc
      exact absurd hc (by decide)
    · rw [h5] at hc
      have hc : mAI M 31 0 = 1 := hc
      rw [hs] at hc
      exact absurd hc (by decide)
  · rw [if_neg (by rw [hs]; exact fun z => absurd z.1 (by decide))] at hc
    exact absurd rfl hc
theorem q0_told {h : Nat} {M : Mem} {Q : Option Value → Mem → Prop} (F : Fix M) (h5 : mI M 29 5 = 0) (hs : mAI M 31 0 = 0) (H : Q none M) : E (h + 2) mdX11_readTold [.ref 29] M Q := by
  refine KX11_readTold ?_
  unfold DX11_readTold_0
  refine VX11_readTold_2 ?_
  unfold DX11_readTold_2 DX11_readTold_74 DX11_readTold_85 DX11_readTold_141 DX11_readTold_144
  have hz : ∀ v : Int64, (if mAI M 31 0 = 1 ∧ mAJ M 33 0 = v then (1 : Int32) else 0) = 0 := fun v => if_neg (by rw [hs]; exact fun z => absurd z.1 (by decide))
  refine ⟨fun hc => absurd hc (by decide), fun _ => ⟨ok29 F, fun _ => H, fun _ => ?_⟩⟩
  refine R_isSaid (j := 0) F h5 (by decide) (fun _ => ⟨_, rfl, fun _ => ?_, fun hc => absurd (hz _) hc⟩)
  refine R_isSaid (j := 0) F h5 (by decide) (fun _ => ⟨_, rfl, fun _ => ?_, fun hc => absurd (hz _) hc⟩)
  refine R_isSaid (j := 0) F h5 (by decide) (fun _ => ⟨_, rfl, fun _ => ?_, fun hc => absurd (hz _) hc⟩)
  refine R_isSaid (j := 0) F h5 (by decide) (fun _ => ⟨_, rfl, fun _ => ?_, fun hc => absurd (hz _) hc⟩)
  refine ⟨fun _ => ⟨fun _ => ?_, fun hc => absurd rfl hc⟩, fun hc => absurd (by decide) hc⟩
  refine VX11_readTold_2 ?_
  unfold DX11_readTold_2 DX11_readTold_144
  exact ⟨fun _ => H, fun hc => absurd rfl hc⟩
theorem q0_parts {h : Nat} {M : Mem} {Q : Option Value → Mem → Prop} (F : Fix M) (h5 : mI M 29 5 = 0) (h6 : mI M 29 6 = 0) (hs : mAI M 31 0 = 0) (hp : mAI M 32 0 = 0) (H : ∀ M' : Mem, Fix M' → mI M' 29 6 = 2 → mI M' 29 7 = 0 → mN M' = mN M → mS M' = mS M → Q (some (.int 0)) M') : E (h + 5) mdX11_readParts [.ref 29] M Q := by
  refine KX11_readParts ?_
  unfold DX11_readParts_0
  refine ⟨ok29 F, fun A a B b C c => ?_⟩
  have FC : Fix C := by rw [c, b, a]; exact F.i.i.i
  refine R_newSeq (q := 0) FC (by rw [c, b, a]; simp [mNwI, mSwI, mKwI, mIwI, mJwI, mRwI, mLwI, mAIwI, mAJwI, mARwI, mNwJ, mSwJ, mKwJ, mIwJ, mJwJ, mRwJ, mLwJ, mAIwJ, mAJwJ, mARwJ, mNwR, mSwR, mKwR, mIwR, mJwR, mRwR, mLwR, mAIwR, mAJwR, mARwR, mNwAI, mSwAI, mKwAI, mIwAI, mJwAI, mRwAI, mLwAI, mAIwAI, mAJwAI, mARwAI, mNwAJ, mSwAJ, mKwAJ, mIwAJ, mJwAJ, mRwAJ, mLwAJ, mAIwAJ, mAJwAJ, mARwAJ, mNwAR, mSwAR, mKwAR, mIwAR, mJwAR, mRwAR, mLwAR, mAIwAR, mAJwAR, mARwAR, okkwI, okkwJ, okkwR, okkwAI, okkwAJ, okkwAR]) (by decide) (fun D d FD _ => ⟨_, rfl, ?_⟩)
  have D5 : mI D 29 5 = 0 := by rw [d, c, b, a]; simp [nsF, h5, mNwI, mSwI, mKwI, mIwI, mJwI, mRwI, mLwI, mAIwI, mAJwI, mARwI, mNwJ, mSwJ, mKwJ, mIwJ, mJwJ, mRwJ, mLwJ, mAIwJ, mAJwJ, mARwJ, mNwR, mSwR, mKwR, mIwR, mJwR, mRwR, mLwR, mAIwR, mAJwR, mARwR, mNwAI, mSwAI, mKwAI, mIwAI, mJwAI, mRwAI, mLwAI, mAIwAI, mAJwAI, mARwAI, mNwAJ, mSwAJ, mKwAJ, mIwAJ, mJwAJ, mRwAJ, mLwAJ, mAIwAJ, mAJwAJ, mARwAJ, mNwAR, mSwAR, mKwAR, mIwAR, mJwAR, mRwAR, mLwAR, mAIwAR, mAJwAR, mARwAR, okkwI, okkwJ, okkwR, okkwAI, okkwAJ, okkwAR]
  have D6 : mI D 29 6 = 0 := by rw [d, c, b, a]; simp [nsF, h6, mNwI, mSwI, mKwI, mIwI, mJwI, mRwI, mLwI, mAIwI, mAJwI, mARwI, mNwJ, mSwJ, mKwJ, mIwJ, mJwJ, mRwJ, mLwJ, mAIwJ, mAJwJ, mARwJ, mNwR, mSwR, mKwR, mIwR, mJwR, mRwR, mLwR, mAIwR, mAJwR, mARwR, mNwAI, mSwAI, mKwAI, mIwAI, mJwAI, mRwAI, mLwAI, mAIwAI, mAJwAI, mARwAI, mNwAJ, mSwAJ, mKwAJ, mIwAJ, mJwAJ, mRwAJ, mLwAJ, mAIwAJ, mAJwAJ, mARwAJ, mNwAR, mSwAR, mKwAR, mIwAR, mJwAR, mRwAR, mLwAR, mAIwAR, mAJwAR, mARwAR, okkwI, okkwJ, okkwR, okkwAI, okkwAJ, okkwAR]
  have D60 : mI D 29 60 = 0 := by rw [d, c, b, a]; simp [nsF, mNwI, mSwI, mKwI, mIwI, mJwI, mRwI, mLwI, mAIwI, mAJwI, mARwI, mNwJ, mSwJ, mKwJ, mIwJ, mJwJ, mRwJ, mLwJ, mAIwJ, mAJwJ, mARwJ, mNwR, mSwR, mKwR, mIwR, mJwR, mRwR, mLwR, mAIwR, mAJwR, mARwR, mNwAI, mSwAI, mKwAI, mIwAI, mJwAI, mRwAI, mLwAI, mAIwAI, mAJwAI, mARwAI, mNwAJ, mSwAJ, mKwAJ, mIwAJ, mJwAJ, mRwAJ, mLwAJ, mAIwAJ, mAJwAJ, mARwAJ, mNwAR, mSwAR, mKwAR, mIwAR, mJwAR, mRwAR, mLwAR, mAIwAR, mAJwAR, mARwAR, okkwI, okkwJ, okkwR, okkwAI, okkwAJ, okkwAR]
  have D31 : mAI D 31 0 = 0 := by rw [d, c, b, a]; simp [nsF, hs, mNwI, mSwI, mKwI, mIwI, mJwI, mRwI, mLwI, mAIwI, mAJwI, mARwI, mNwJ, mSwJ, mKwJ, mIwJ, mJwJ, mRwJ, mLwJ, mAIwJ, mAJwJ, mARwJ, mNwR, mSwR, mKwR, mIwR, mJwR, mRwR, mLwR, mAIwR, mAJwR, mARwR, mNwAI, mSwAI, mKwAI, mIwAI, mJwAI, mRwAI, mLwAI, mAIwAI, mAJwAI, mARwAI, mNwAJ, mSwAJ, mKwAJ, mIwAJ, mJwAJ, mRwAJ, mLwAJ, mAIwAJ, mAJwAJ, mARwAJ, mNwAR, mSwAR, mKwAR, mIwAR, mJwAR, mRwAR, mLwAR, mAIwAR, mAJwAR, mARwAR, okkwI, okkwJ, okkwR, okkwAI, okkwAJ, okkwAR]
  have D32 : mAI D 32 0 = 0 := by rw [d, c, b, a]; simp [nsF, hp, mNwI, mSwI, mKwI, mIwI, mJwI, mRwI, mLwI, mAIwI, mAJwI, mARwI, mNwJ, mSwJ, mKwJ, mIwJ, mJwJ, mRwJ, mLwJ, mAIwJ, mAJwJ, mARwJ, mNwR, mSwR, mKwR, mIwR, mJwR, mRwR, mLwR, mAIwR, mAJwR, mARwR, mNwAI, mSwAI, mKwAI, mIwAI, mJwAI, mRwAI, mLwAI, mAIwAI, mAJwAI, mARwAI, mNwAJ, mSwAJ, mKwAJ, mIwAJ, mJwAJ, mRwAJ, mLwAJ, mAIwAJ, mAJwAJ, mARwAJ, mNwAR, mSwAR, mKwAR, mIwAR, mJwAR, mRwAR, mLwAR, mAIwAR, mAJwAR, mARwAR, okkwI, okkwJ, okkwR, okkwAI, okkwAJ, okkwAR]
  have DN : mN D = mN M := by rw [d, c, b, a]; simp [nsF, mNwI, mSwI, mKwI, mIwI, mJwI, mRwI, mLwI, mAIwI, mAJwI, mARwI, mNwJ, mSwJ, mKwJ, mIwJ, mJwJ, mRwJ, mLwJ, mAIwJ, mAJwJ, mARwJ, mNwR, mSwR, mKwR, mIwR, mJwR, mRwR, mLwR, mAIwR, mAJwR, mARwR, mNwAI, mSwAI, mKwAI, mIwAI, mJwAI, mRwAI, mLwAI, mAIwAI, mAJwAI, mARwAI, mNwAJ, mSwAJ, mKwAJ, mIwAJ, mJwAJ, mRwAJ, mLwAJ, mAIwAJ, mAJwAJ, mARwAJ, mNwAR, mSwAR, mKwAR, mIwAR, mJwAR, mRwAR, mLwAR, mAIwAR, mAJwAR, mARwAR, okkwI, okkwJ, okkwR, okkwAI, okkwAJ, okkwAR]
  have DS : mS D = mS M := by rw [d, c, b, a]; simp [nsF, mNwI, mSwI, mKwI, mIwI, mJwI, mRwI, mLwI, mAIwI, mAJwI, mARwI, mNwJ, mSwJ, mKwJ, mIwJ, mJwJ, mRwJ, mLwJ, mAIwJ, mAJwJ, mARwJ, mNwR, mSwR, mKwR, mIwR, mJwR, mRwR, mLwR, mAIwR, mAJwR, mARwR, mNwAI, mSwAI, mKwAI, mIwAI, mJwAI, mRwAI, mLwAI, mAIwAI, mAJwAI, mARwAI, mNwAJ, mSwAJ, mKwAJ, mIwAJ, mJwAJ, mRwAJ, mLwAJ, mAIwAJ, mAJwAJ, mARwAJ, mNwAR, mSwAR, mKwAR, mIwAR, mJwAR, mRwAR, mLwAR, mAIwAR, mAJwAR, mARwAR, okkwI, okkwJ, okkwR, okkwAI, okkwAJ, okkwAR]
  clear d c b a FC
  refine VX11_readParts_22 ?_
  unfold DX11_readParts_22 DX11_readParts_56 DX11_readParts_72 DX11_readParts_157 DX11_readParts_160
  refine ⟨fun hc => absurd hc (by decide), fun _ => ⟨ok29 FD, fun hc => absurd D6 hc, fun _ => ⟨fun hc => absurd D60 hc, fun _ => ⟨ok29 FD, ?_⟩⟩⟩⟩
  refine KX11_beginPart ?_
  unfold DX11_beginPart_0
  refine ⟨ok29 FD, q0_sort FD D5 D31 (fun _ => ⟨_, rfl, fun hc => absurd rfl hc, fun _ => ⟨32, rf29_3 FD, ok32 FD, by rw [ln32 FD, D5]; exact vp_of (n := 0) (by decide) (by decide), R_fails FD (fun _ => ⟨rfl, fun _ => ⟨_, rfl, ?_⟩⟩)⟩⟩)⟩
  have FE : Fix (flF D 2 (mAI D 32 (mI D 29 5).toNatClampNeg)) := FD.fl
  have e : flF D 2 (mAI D 32 (mI D 29 5).toNatClampNeg) = wI (wI D 29 6 2) 29 7 0 := by
    unfold flF; rw [if_pos D6, D5]; show wI _ 29 7 (mAI D 32 0) = _; rw [D32]
  rw [e] at FE ⊢
  have E6 : mI (wI (wI D 29 6 2) 29 7 0) 29 6 = 2 := by simp [mNwI, mSwI, mKwI, mIwI, mJwI, mRwI, mLwI, mAIwI, mAJwI, mARwI, mNwJ, mSwJ, mKwJ, mIwJ, mJwJ, mRwJ, mLwJ, mAIwJ, mAJwJ, mARwJ, mNwR, mSwR, mKwR, mIwR, mJwR, mRwR, mLwR, mAIwR, mAJwR, mARwR, mNwAI, mSwAI, mKwAI, mIwAI, mJwAI, mRwAI, mLwAI, mAIwAI, mAJwAI, mARwAI, mNwAJ, mSwAJ, mKwAJ, mIwAJ, mJwAJ, mRwAJ, mLwAJ, mAIwAJ, mAJwAJ, mARwAJ, mNwAR, mSwAR, mKwAR, mIwAR, mJwAR, mRwAR, mLwAR, mAIwAR, mAJwAR, mARwAR, okkwI, okkwJ, okkwR, okkwAI, okkwAJ, okkwAR]
  refine ⟨ok29 FE, fun _ => ⟨ok29 FE, fun _ => ?_, fun hc => absurd (E6 ▸ hc) (by decide)⟩, fun hc => absurd (E6 ▸ hc) (by decide)⟩
  refine VX11_readParts_22 ?_
  unfold DX11_readParts_22 DX11_readParts_160
  refine ⟨fun hc => absurd hc (by decide), fun _ => ⟨ok29 FE, fun _ => H _ FE E6 (by simp [mNwI, mSwI, mKwI, mIwI, mJwI, mRwI, mLwI, mAIwI, mAJwI, mARwI, mNwJ, mSwJ, mKwJ, mIwJ, mJwJ, mRwJ, mLwJ, mAIwJ, mAJwJ, mARwJ, mNwR, mSwR, mKwR, mIwR, mJwR, mRwR, mLwR, mAIwR, mAJwR, mARwR, mNwAI, mSwAI, mKwAI, mIwAI, mJwAI, mRwAI, mLwAI, mAIwAI, mAJwAI, mARwAI, mNwAJ, mSwAJ, mKwAJ, mIwAJ, mJwAJ, mRwAJ, mLwAJ, mAIwAJ, mAJwAJ, mARwAJ, mNwAR, mSwAR, mKwAR, mIwAR, mJwAR, mRwAR, mLwAR, mAIwAR, mAJwAR, mARwAR, okkwI, okkwJ, okkwR, okkwAI, okkwAJ, okkwAR]) (by simp [DN, mNwI, mSwI, mKwI, mIwI, mJwI, mRwI, mLwI, mAIwI, mAJwI, mARwI, mNwJ, mSwJ, mKwJ, mIwJ, mJwJ, mRwJ, mLwJ, mAIwJ, mAJwJ, mARwJ, mNwR, mSwR, mKwR, mIwR, mJwR, mRwR, mLwR, mAIwR, mAJwR, mARwR, mNwAI, mSwAI, mKwAI, mIwAI, mJwAI, mRwAI, mLwAI, mAIwAI, mAJwAI, mARwAI, mNwAJ, mSwAJ, mKwAJ, mIwAJ, mJwAJ, mRwAJ, mLwAJ, mAIwAJ, mAJwAJ, mARwAJ, mNwAR, mSwAR, mKwAR, mIwAR, mJwAR, mRwAR, mLwAR, mAIwAR, mAJwAR, mARwAR, okkwI, okkwJ, okkwR, okkwAI, okkwAJ, okkwAR]) (by simp [DS, mNwI, mSwI, mKwI, mIwI, mJwI, mRwI, mLwI, mAIwI, mAJwI, mARwI, mNwJ, mSwJ, mKwJ, mIwJ, mJwJ, mRwJ, mLwJ, mAIwJ, mAJwJ, mARwJ, mNwR, mSwR, mKwR, mIwR, mJwR, mRwR, mLwR, mAIwR, mAJwR, mARwR, mNwAI, mSwAI, mKwAI, mIwAI, mJwAI, mRwAI, mLwAI, mAIwAI, mAJwAI, mARwAI, mNwAJ, mSwAJ, mKwAJ, mIwAJ, mJwAJ, mRwAJ, mLwAJ, mAIwAJ, mAJwAJ, mARwAJ, mNwAR, mSwAR, mKwAR, mIwAR, mJwAR, mRwAR, mLwAR, mAIwAR, mAJwAR, mARwAR, okkwI, okkwJ, okkwR, okkwAI, okkwAJ, okkwAR]), fun hc => absurd (E6 ▸ hc) (by decide)⟩⟩
theorem q0_compile {h : Nat} {M : Mem} {Q : Option Value → Mem → Prop} (F : Fix M) (h18 : mI M 29 18 = 0) (h1 : mI M 29 1 = 0) (H : ∀ M' : Mem, Fix M' → mN M' = mN M → mS M' = mS M → Q (some (.int (-10))) M') : E (h + 6) mdX11_compile [.ref 29] M Q := by
  refine KX11_compile ?_
  unfold DX11_compile_0
  refine ⟨ok29 F, fun _ A a B b => ?_, fun hc => absurd (h18 ▸ hc) (by decide)⟩
  have F0 : Fix B := by rw [b, a]; exact F.i.i
  have z0 : mI B 29 19 = 0 := by rw [b, a]; simp [h18, mNwI, mSwI, mKwI, mIwI, mJwI, mRwI, mLwI, mAIwI, mAJwI, mARwI, mNwJ, mSwJ, mKwJ, mIwJ, mJwJ, mRwJ, mLwJ, mAIwJ, mAJwJ, mARwJ, mNwR, mSwR, mKwR, mIwR, mJwR, mRwR, mLwR, mAIwR, mAJwR, mARwR, mNwAI, mSwAI, mKwAI, mIwAI, mJwAI, mRwAI, mLwAI, mAIwAI, mAJwAI, mARwAI, mNwAJ, mSwAJ, mKwAJ, mIwAJ, mJwAJ, mRwAJ, mLwAJ, mAIwAJ, mAJwAJ, mARwAJ, mNwAR, mSwAR, mKwAR, mIwAR, mJwAR, mRwAR, mLwAR, mAIwAR, mAJwAR, mARwAR, okkwI, okkwJ, okkwR, okkwAI, okkwAJ, okkwAR]
  have hv : ∀ {M : Mem} {c : Nat}, mL M c = 4 → mI M 29 19 = 0 → vp_in (mI M 29 19) (mL M c) := fun e q => by rw [e, q]; exact vp_of (n := 0) (by decide) (by decide)
  refine ⟨34, rf29_8 F0, ok34 F0, hv (ln34 F0) z0, fun B1 b1 => ?_⟩
  have F1 : Fix B1 := by rw [b1]; exact F0.ai
  have z1 : mI B1 29 19 = 0 := by rw [b1, mI_wAI]; exact z0
  refine ⟨35, rf29_9 F1, ok35 F1, hv (ln35 F1) z1, fun B2 b2 => ?_⟩
  have F2 : Fix B2 := by rw [b2]; exact F1.ai
  have z2 : mI B2 29 19 = 0 := by rw [b2, mI_wAI]; exact z1
  refine ⟨36, rf29_10 F2, ok36 F2, hv (ln36 F2) z2, fun B3 b3 => ?_⟩
  have F3 : Fix B3 := by rw [b3]; exact F2.ai
  have z3 : mI B3 29 19 = 0 := by rw [b3, mI_wAI]; exact z2
  refine ⟨44, rf29_20 F3, ok44 F3, hv (ln44 F3) z3, fun B4 b4 => ?_⟩
  have F4 : Fix B4 := by rw [b4]; exact F3.ai
  have z4 : mI B4 29 19 = 0 := by rw [b4, mI_wAI]; exact z3
  refine ⟨48, rf29_24 F4, ok48 F4, hv (ln48 F4) z4, fun B5 b5 => ?_⟩
  have F5 : Fix B5 := by rw [b5]; exact F4.ai
  have z5 : mI B5 29 19 = 0 := by rw [b5, mI_wAI]; exact z4
  refine ⟨54, rf29_34 F5, ok54 F5, hv (ln54 F5) z5, fun B6 b6 => ?_⟩
  have F6 : Fix B6 := by rw [b6]; exact F5.ai
  have z6 : mI B6 29 19 = 0 := by rw [b6, mI_wAI]; exact z5
  refine ⟨55, rf29_35 F6, ok55 F6, hv (ln55 F6) z6, fun B7 b7 => ?_⟩
  have F7 : Fix B7 := by rw [b7]; exact F6.ai
  have z7 : mI B7 29 19 = 0 := by rw [b7, mI_wAI]; exact z6
  refine ⟨56, rf29_36 F7, ok56 F7, hv (ln56 F7) z7, fun B8 b8 => ?_⟩
  have F8 : Fix B8 := by rw [b8]; exact F7.ai
  have z8 : mI B8 29 19 = 0 := by rw [b8, mI_wAI]; exact z7
  refine ⟨57, rf29_37 F8, ok57 F8, hv (ln57 F8) z8, fun B9 b9 => ?_⟩
  have F9 : Fix B9 := by rw [b9]; exact F8.ai
  have z9 : mI B9 29 19 = 0 := by rw [b9, mI_wAI]; exact z8
  refine ⟨79, rf29_61 F9, ok79 F9, hv (ln79 F9) z9, fun BA bA => ?_⟩
  have FA : Fix BA := by rw [bA]; exact F9.ai
  have zA : mI BA 29 19 = 0 := by rw [bA, mI_wAI]; exact z9
  refine ⟨_, rf29_114 FA, ok122 FA, hv (ln122 FA) zA, fun BB bB => ?_⟩
  have FB : Fix BB := by rw [bB]; exact FA.ai
  have iB : mI BB = mI B := by rw [bB, mI_wAI, bA, mI_wAI, b9, mI_wAI, b8, mI_wAI, b7, mI_wAI, b6, mI_wAI, b5, mI_wAI, b4, mI_wAI, b3, mI_wAI, b2, mI_wAI, b1, mI_wAI]
  have nB : mN BB = mN M := by rw [bB, mN_wAI, bA, mN_wAI, b9, mN_wAI, b8, mN_wAI, b7, mN_wAI, b6, mN_wAI, b5, mN_wAI, b4, mN_wAI, b3, mN_wAI, b2, mN_wAI, b1, mN_wAI, b, a]; rfl
  have sB : mS BB = mS M := by rw [bB, mS_wAI, bA, mS_wAI, b9, mS_wAI, b8, mS_wAI, b7, mS_wAI, b6, mS_wAI, b5, mS_wAI, b4, mS_wAI, b3, mS_wAI, b2, mS_wAI, b1, mS_wAI, b, a]; rfl
  have b1' : mI BB 29 1 = 0 := by rw [iB, b, a]; simp [h1, mNwI, mSwI, mKwI, mIwI, mJwI, mRwI, mLwI, mAIwI, mAJwI, mARwI, mNwJ, mSwJ, mKwJ, mIwJ, mJwJ, mRwJ, mLwJ, mAIwJ, mAJwJ, mARwJ, mNwR, mSwR, mKwR, mIwR, mJwR, mRwR, mLwR, mAIwR, mAJwR, mARwR, mNwAI, mSwAI, mKwAI, mIwAI, mJwAI, mRwAI, mLwAI, mAIwAI, mAJwAI, mARwAI, mNwAJ, mSwAJ, mKwAJ, mIwAJ, mJwAJ, mRwAJ, mLwAJ, mAIwAJ, mAJwAJ, mARwAJ, mNwAR, mSwAR, mKwAR, mIwAR, mJwAR, mRwAR, mLwAR, mAIwAR, mAJwAR, mARwAR, okkwI, okkwJ, okkwR, okkwAI, okkwAJ, okkwAR]
  have b6' : mI BB 29 6 = 0 := by rw [iB, b, a]; simp [mNwI, mSwI, mKwI, mIwI, mJwI, mRwI, mLwI, mAIwI, mAJwI, mARwI, mNwJ, mSwJ, mKwJ, mIwJ, mJwJ, mRwJ, mLwJ, mAIwJ, mAJwJ, mARwJ, mNwR, mSwR, mKwR, mIwR, mJwR, mRwR, mLwR, mAIwR, mAJwR, mARwR, mNwAI, mSwAI, mKwAI, mIwAI, mJwAI, mRwAI, mLwAI, mAIwAI, mAJwAI, mARwAI, mNwAJ, mSwAJ, mKwAJ, mIwAJ, mJwAJ, mRwAJ, mLwAJ, mAIwAJ, mAJwAJ, mARwAJ, mNwAR, mSwAR, mKwAR, mIwAR, mJwAR, mRwAR, mLwAR, mAIwAR, mAJwAR, mARwAR, okkwI, okkwJ, okkwR, okkwAI, okkwAJ, okkwAR]
  clear bB bA b9 b8 b7 b6 b5 b4 b3 b2 b1
  refine q0_cut FB b1' (fun C c FC _ => ⟨rfl, fun D d E e => ?_⟩)
  have FE : Fix E := by rw [e, d]; exact FC.i.i
  have e5 : mI E 29 5 = 0 := by rw [e]; simp [mNwI, mSwI, mKwI, mIwI, mJwI, mRwI, mLwI, mAIwI, mAJwI, mARwI, mNwJ, mSwJ, mKwJ, mIwJ, mJwJ, mRwJ, mLwJ, mAIwJ, mAJwJ, mARwJ, mNwR, mSwR, mKwR, mIwR, mJwR, mRwR, mLwR, mAIwR, mAJwR, mARwR, mNwAI, mSwAI, mKwAI, mIwAI, mJwAI, mRwAI, mLwAI, mAIwAI, mAJwAI, mARwAI, mNwAJ, mSwAJ, mKwAJ, mIwAJ, mJwAJ, mRwAJ, mLwAJ, mAIwAJ, mAJwAJ, mARwAJ, mNwAR, mSwAR, mKwAR, mIwAR, mJwAR, mRwAR, mLwAR, mAIwAR, mAJwAR, mARwAR, okkwI, okkwJ, okkwR, okkwAI, okkwAJ, okkwAR]
  have e6 : mI E 29 6 = 0 := by rw [e, d, c]; simp [rc0, b6', mNwI, mSwI, mKwI, mIwI, mJwI, mRwI, mLwI, mAIwI, mAJwI, mARwI, mNwJ, mSwJ, mKwJ, mIwJ, mJwJ, mRwJ, mLwJ, mAIwJ, mAJwJ, mARwJ, mNwR, mSwR, mKwR, mIwR, mJwR, mRwR, mLwR, mAIwR, mAJwR, mARwR, mNwAI, mSwAI, mKwAI, mIwAI, mJwAI, mRwAI, mLwAI, mAIwAI, mAJwAI, mARwAI, mNwAJ, mSwAJ, mKwAJ, mIwAJ, mJwAJ, mRwAJ, mLwAJ, mAIwAJ, mAJwAJ, mARwAJ, mNwAR, mSwAR, mKwAR, mIwAR, mJwAR, mRwAR, mLwAR, mAIwAR, mAJwAR, mARwAR, okkwI, okkwJ, okkwR, okkwAI, okkwAJ, okkwAR]
  have e31 : mAI E 31 0 = 0 := by rw [e, d, c]; simp [rc0, mNwI, mSwI, mKwI, mIwI, mJwI, mRwI, mLwI, mAIwI, mAJwI, mARwI, mNwJ, mSwJ, mKwJ, mIwJ, mJwJ, mRwJ, mLwJ, mAIwJ, mAJwJ, mARwJ, mNwR, mSwR, mKwR, mIwR, mJwR, mRwR, mLwR, mAIwR, mAJwR, mARwR, mNwAI, mSwAI, mKwAI, mIwAI, mJwAI, mRwAI, mLwAI, mAIwAI, mAJwAI, mARwAI, mNwAJ, mSwAJ, mKwAJ, mIwAJ, mJwAJ, mRwAJ, mLwAJ, mAIwAJ, mAJwAJ, mARwAJ, mNwAR, mSwAR, mKwAR, mIwAR, mJwAR, mRwAR, mLwAR, mAIwAR, mAJwAR, mARwAR, okkwI, okkwJ, okkwR, okkwAI, okkwAJ, okkwAR]
  have e32 : mAI E 32 0 = 0 := by rw [e, d, c]; simp [rc0, mNwI, mSwI, mKwI, mIwI, mJwI, mRwI, mLwI, mAIwI, mAJwI, mARwI, mNwJ, mSwJ, mKwJ, mIwJ, mJwJ, mRwJ, mLwJ, mAIwJ, mAJwJ, mARwJ, mNwR, mSwR, mKwR, mIwR, mJwR, mRwR, mLwR, mAIwR, mAJwR, mARwR, mNwAI, mSwAI, mKwAI, mIwAI, mJwAI, mRwAI, mLwAI, mAIwAI, mAJwAI, mARwAI, mNwAJ, mSwAJ, mKwAJ, mIwAJ, mJwAJ, mRwAJ, mLwAJ, mAIwAJ, mAJwAJ, mARwAJ, mNwAR, mSwAR, mKwAR, mIwAR, mJwAR, mRwAR, mLwAR, mAIwAR, mAJwAR, mARwAR, okkwI, okkwJ, okkwR, okkwAI, okkwAJ, okkwAR]
  have eN : mN E = mN M := by rw [e, d, c]; simp [rc0, nB, mNwI, mSwI, mKwI, mIwI, mJwI, mRwI, mLwI, mAIwI, mAJwI, mARwI, mNwJ, mSwJ, mKwJ, mIwJ, mJwJ, mRwJ, mLwJ, mAIwJ, mAJwJ, mARwJ, mNwR, mSwR, mKwR, mIwR, mJwR, mRwR, mLwR, mAIwR, mAJwR, mARwR, mNwAI, mSwAI, mKwAI, mIwAI, mJwAI, mRwAI, mLwAI, mAIwAI, mAJwAI, mARwAI, mNwAJ, mSwAJ, mKwAJ, mIwAJ, mJwAJ, mRwAJ, mLwAJ, mAIwAJ, mAJwAJ, mARwAJ, mNwAR, mSwAR, mKwAR, mIwAR, mJwAR, mRwAR, mLwAR, mAIwAR, mAJwAR, mARwAR, okkwI, okkwJ, okkwR, okkwAI, okkwAJ, okkwAR]
  have eS : mS E = mS M := by rw [e, d, c]; simp [rc0, sB, mNwI, mSwI, mKwI, mIwI, mJwI, mRwI, mLwI, mAIwI, mAJwI, mARwI, mNwJ, mSwJ, mKwJ, mIwJ, mJwJ, mRwJ, mLwJ, mAIwJ, mAJwJ, mARwJ, mNwR, mSwR, mKwR, mIwR, mJwR, mRwR, mLwR, mAIwR, mAJwR, mARwR, mNwAI, mSwAI, mKwAI, mIwAI, mJwAI, mRwAI, mLwAI, mAIwAI, mAJwAI, mARwAI, mNwAJ, mSwAJ, mKwAJ, mIwAJ, mJwAJ, mRwAJ, mLwAJ, mAIwAJ, mAJwAJ, mARwAJ, mNwAR, mSwAR, mKwAR, mIwAR, mJwAR, mRwAR, mLwAR, mAIwAR, mAJwAR, mARwAR, okkwI, okkwJ, okkwR, okkwAI, okkwAJ, okkwAR]
  unfold DX11_compile_169 DX11_compile_188 DX11_compile_205
  refine ⟨31, rf29_2 FE, ok31 FE, by rw [ln31 FE]; exact vp_of (n := 0) (by decide) (by decide), fun _ => ⟨ok29 FE, q0_told FE e5 e31 (fun _ => ⟨rfl, fun hc => absurd e6 hc, fun _ => q0_parts FE e5 e6 e31 e32 (fun G FG g6 g7 gN gS _ => ⟨_, rfl, ok29 FG, fun _ => ⟨ok29 FG, fun hc => ?_, fun _ => ?_⟩, fun hc => absurd (g6 ▸ hc) (by decide)⟩)⟩)⟩, fun hc => ?_⟩
  · rw [g6] at hc
    exact absurd hc (by decide)
  · rw [g7]
    exact H G FG (gN.trans eN) (gS.trans eS)
  · have hc : mAI E 31 0 = 4 := hc
    rw [e31] at hc
    exact absurd hc (by decide)
