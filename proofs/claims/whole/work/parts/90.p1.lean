/-! one call on fresh objects: compile of the empty tape, clear; the claim's own rows -/
def tk0 (M : Mem) : Mem := wI (wI (wI (wI (wAI (wAI (wI (wI M 15 2 0) 15 3 0) 17 0 0) 16 0 1) 15 7 0) 15 8 0) 15 12 0) 15 13 0
theorem k0_cut {h : Nat} {M : Mem} {Q : Option Value → Mem → Prop} (F : Fix M) (h2 : mI M 15 2 = 0) (h3 : mI M 15 3 = 0) (H : Q (some (.int 1)) (wAI (wAI M 17 0 0) 16 0 1)) : E (h + 3) mdX7_cut [.ref 15, .int 0] M Q := by
  refine KX7_cut ?_
  refine VX7_cut_0 ?_
  unfold DX7_cut_0 DX7_cut_50 DX7_cut_131
  refine ⟨ok15 F, fun _ => ?_, fun hc => absurd (by rw [h2, h3]; decide) hc⟩
  refine ⟨ok15 F, 17, rf15_5 F, ok17 F, by rw [ln17 F]; exact vp_of (n := 0) (by decide) (by decide), fun M4 e4 => ?_⟩
  have F4 : Fix M4 := by rw [e4]; exact F.ai
  have i2 : mI M4 15 2 = 0 := by rw [e4]; exact h2
  have i3 : mI M4 15 3 = 0 := by rw [e4]; exact h3
  rw [i3]
  refine S_byteAt (n := 0) (b := fun _ => 0) (i := 0) F4 ⟨by decide, i2, fun i hi => absurd hi (Nat.not_lt_zero i), fun _ _ => rfl⟩ (by decide) (fun _ => ⟨_, rfl, fun hc => ?_, fun _ => ?_⟩)
  · rw [i2, i3] at hc
    exact absurd hc (by decide)
  · refine ⟨16, rf15_4 F4, ok16 F4, by rw [ln16 F4]; exact vp_of (n := 0) (by decide) (by decide), fun M20 e20 => ?_⟩
    have F20 : Fix M20 := by rw [e20]; exact F4.ai
    refine ⟨ok15 F20, 16, rf15_4 F20, ok16 F20, by rw [ln16 F20]; exact vp_of (n := 0) (by decide) (by decide), ?_⟩
    rw [h3] at e4
    subst e20 e4
    exact H
theorem k0_begin {h : Nat} {M : Mem} {Q : Option Value → Mem → Prop} (F : Fix M) (H : Q none (advF (tk0 M))) : E (h + 4) mdX7_begin [.ref 15, .int 0] M Q := by
  refine KX7_begin ?_
  unfold DX7_begin_0
  refine ⟨ok15 F, 1, rf15_0 F, ok1 F, fun M4 e4 M5 e5 => ?_⟩
  rw [ln1 F, if_neg (by decide)] at e4
  have F5 : Fix M5 := by rw [e5, e4]; exact F.i.i
  refine VX7_begin_22 ?_
  unfold DX7_begin_22
  refine ⟨ok15 F5, 16, rf15_4 F5, ok16 F5, fun hc => absurd hc (by rw [ln16 F5]; decide), fun _ => ⟨fun hc => absurd hc (by decide), fun _ => ⟨fun hc => absurd hc (by decide), fun _ => ?_⟩⟩⟩
  refine k0_cut F5 (by rw [e5, e4]; rfl) (by rw [e5, e4]; rfl) (fun _ => ⟨_, rfl, ?_⟩)
  refine VX7_begin_22 ?_
  unfold DX7_begin_22 DX7_begin_52
  have F6 : Fix (wAI (wAI M5 17 0 0) 16 0 1) := F5.ai.ai
  generalize hM6 : wAI (wAI M5 17 0 0) 16 0 1 = M6 at F6
  refine ⟨ok15 F6, 16, rf15_4 F6, ok16 F6, fun hc => absurd hc (by rw [ln16 F6]; decide), fun _ => ⟨fun _ => ⟨ok15 F6, fun A a B b C c D d => ?_⟩, fun hc => absurd rfl hc⟩⟩
  have hD : D = tk0 M := by rw [d, c, b, a, ← hM6, e5, e4]; rfl
  rw [hD]
  refine S_adv (by rw [← hD, d, c, b, a]; exact F6.i.i.i.i) (by show ¬ (0 : Int32) < 0; decide) (fun _ => ⟨rfl, H⟩)
theorem k0_adv {M : Mem} : advF (tk0 M) = wI (wJ (wI (wI (tk0 M) 15 9 1) 15 10 0) 15 11 (mAJ M 18 0)) 15 7 1 := by
  rw [adv_ok (M := tk0 M) (j := 0) rfl rfl (by decide) (by show (1 : Int32) ≠ 0; decide)]
  rfl
def tk1 (M : Mem) : Mem := wI (wJ (wI (wI (tk0 M) 15 9 1) 15 10 0) 15 11 (mAJ M 18 0)) 15 7 1
theorem Fix.t1 {M : Mem} (F : Fix M) : Fix (tk1 M) := F.i.i.ai.ai.i.i.i.i.i.i.j.i
theorem k0_beginV {h : Nat} {M : Mem} {Q : Option Value → Mem → Prop} (F : Fix M) (H : ∀ M', M' = tk1 M → Fix M' → Q none M') : E (h + 4) mdX7_begin [.ref 15, .int 0] M Q := k0_begin F (by rw [k0_adv]; exact H (tk1 M) rfl F.t1)
theorem k0_treeV {h : Nat} {M : Mem} {Q : Option Value → Mem → Prop} (F : Fix M) (H : ∀ M', M' = wI (wI M 4 9 1) 4 10 0 → Fix M' → Q none M') : E (h + 1) mdX8_begin [.ref 4] M Q := S_treeBegin F (H _ rfl F.i.i)
theorem t1_I {M : Mem} {a f : Nat} (h : a ≠ 15) : mI (tk1 M) a f = mI M a f := by simp [tk1, tk0, h, mNwI, mSwI, mKwI, mIwI, mJwI, mRwI, mLwI, mAIwI, mAJwI, mARwI, mNwJ, mSwJ, mKwJ, mIwJ, mJwJ, mRwJ, mLwJ, mAIwJ, mAJwJ, mARwJ, mNwR, mSwR, mKwR, mIwR, mJwR, mRwR, mLwR, mAIwR, mAJwR, mARwR, mNwAI, mSwAI, mKwAI, mIwAI, mJwAI, mRwAI, mLwAI, mAIwAI, mAJwAI, mARwAI, mNwAJ, mSwAJ, mKwAJ, mIwAJ, mJwAJ, mRwAJ, mLwAJ, mAIwAJ, mAJwAJ, mARwAJ, mNwAR, mSwAR, mKwAR, mIwAR, mJwAR, mRwAR, mLwAR, mAIwAR, mAJwAR, mARwAR, okkwI, okkwJ, okkwR, okkwAI, okkwAJ, okkwAR]
theorem t1_9 {M : Mem} : mI (tk1 M) 15 9 = 1 := by simp [tk1, tk0, mNwI, mSwI, mKwI, mIwI, mJwI, mRwI, mLwI, mAIwI, mAJwI, mARwI, mNwJ, mSwJ, mKwJ, mIwJ, mJwJ, mRwJ, mLwJ, mAIwJ, mAJwJ, mARwJ, mNwR, mSwR, mKwR, mIwR, mJwR, mRwR, mLwR, mAIwR, mAJwR, mARwR, mNwAI, mSwAI, mKwAI, mIwAI, mJwAI, mRwAI, mLwAI, mAIwAI, mAJwAI, mARwAI, mNwAJ, mSwAJ, mKwAJ, mIwAJ, mJwAJ, mRwAJ, mLwAJ, mAIwAJ, mAJwAJ, mARwAJ, mNwAR, mSwAR, mKwAR, mIwAR, mJwAR, mRwAR, mLwAR, mAIwAR, mAJwAR, mARwAR, okkwI, okkwJ, okkwR, okkwAI, okkwAJ, okkwAR]
theorem t1_10 {M : Mem} : mI (tk1 M) 15 10 = 0 := by simp [tk1, tk0, mNwI, mSwI, mKwI, mIwI, mJwI, mRwI, mLwI, mAIwI, mAJwI, mARwI, mNwJ, mSwJ, mKwJ, mIwJ, mJwJ, mRwJ, mLwJ, mAIwJ, mAJwJ, mARwJ, mNwR, mSwR, mKwR, mIwR, mJwR, mRwR, mLwR, mAIwR, mAJwR, mARwR, mNwAI, mSwAI, mKwAI, mIwAI, mJwAI, mRwAI, mLwAI, mAIwAI, mAJwAI, mARwAI, mNwAJ, mSwAJ, mKwAJ, mIwAJ, mJwAJ, mRwAJ, mLwAJ, mAIwAJ, mAJwAJ, mARwAJ, mNwAR, mSwAR, mKwAR, mIwAR, mJwAR, mRwAR, mLwAR, mAIwAR, mAJwAR, mARwAR, okkwI, okkwJ, okkwR, okkwAI, okkwAJ, okkwAR]
theorem t1_7 {M : Mem} : mI (tk1 M) 15 7 = 1 := by simp [tk1, tk0, mNwI, mSwI, mKwI, mIwI, mJwI, mRwI, mLwI, mAIwI, mAJwI, mARwI, mNwJ, mSwJ, mKwJ, mIwJ, mJwJ, mRwJ, mLwJ, mAIwJ, mAJwJ, mARwJ, mNwR, mSwR, mKwR, mIwR, mJwR, mRwR, mLwR, mAIwR, mAJwR, mARwR, mNwAI, mSwAI, mKwAI, mIwAI, mJwAI, mRwAI, mLwAI, mAIwAI, mAJwAI, mARwAI, mNwAJ, mSwAJ, mKwAJ, mIwAJ, mJwAJ, mRwAJ, mLwAJ, mAIwAJ, mAJwAJ, mARwAJ, mNwAR, mSwAR, mKwAR, mIwAR, mJwAR, mRwAR, mLwAR, mAIwAR, mAJwAR, mARwAR, okkwI, okkwJ, okkwR, okkwAI, okkwAJ, okkwAR]
theorem t1_12 {M : Mem} : mI (tk1 M) 15 12 = 0 := by simp [tk1, tk0, mNwI, mSwI, mKwI, mIwI, mJwI, mRwI, mLwI, mAIwI, mAJwI, mARwI, mNwJ, mSwJ, mKwJ, mIwJ, mJwJ, mRwJ, mLwJ, mAIwJ, mAJwJ, mARwJ, mNwR, mSwR, mKwR, mIwR, mJwR, mRwR, mLwR, mAIwR, mAJwR, mARwR, mNwAI, mSwAI, mKwAI, mIwAI, mJwAI, mRwAI, mLwAI, mAIwAI, mAJwAI, mARwAI, mNwAJ, mSwAJ, mKwAJ, mIwAJ, mJwAJ, mRwAJ, mLwAJ, mAIwAJ, mAJwAJ, mARwAJ, mNwAR, mSwAR, mKwAR, mIwAR, mJwAR, mRwAR, mLwAR, mAIwAR, mAJwAR, mARwAR, okkwI, okkwJ, okkwR, okkwAI, okkwAJ, okkwAR]
theorem t1_R {M : Mem} : mR (tk1 M) = mR M := by simp [tk1, tk0, mNwI, mSwI, mKwI, mIwI, mJwI, mRwI, mLwI, mAIwI, mAJwI, mARwI, mNwJ, mSwJ, mKwJ, mIwJ, mJwJ, mRwJ, mLwJ, mAIwJ, mAJwJ, mARwJ, mNwR, mSwR, mKwR, mIwR, mJwR, mRwR, mLwR, mAIwR, mAJwR, mARwR, mNwAI, mSwAI, mKwAI, mIwAI, mJwAI, mRwAI, mLwAI, mAIwAI, mAJwAI, mARwAI, mNwAJ, mSwAJ, mKwAJ, mIwAJ, mJwAJ, mRwAJ, mLwAJ, mAIwAJ, mAJwAJ, mARwAJ, mNwAR, mSwAR, mKwAR, mIwAR, mJwAR, mRwAR, mLwAR, mAIwAR, mAJwAR, mARwAR, okkwI, okkwJ, okkwR, okkwAI, okkwAJ, okkwAR]
theorem t1_N {M : Mem} : mN (tk1 M) = mN M := by simp [tk1, tk0, mNwI, mSwI, mKwI, mIwI, mJwI, mRwI, mLwI, mAIwI, mAJwI, mARwI, mNwJ, mSwJ, mKwJ, mIwJ, mJwJ, mRwJ, mLwJ, mAIwJ, mAJwJ, mARwJ, mNwR, mSwR, mKwR, mIwR, mJwR, mRwR, mLwR, mAIwR, mAJwR, mARwR, mNwAI, mSwAI, mKwAI, mIwAI, mJwAI, mRwAI, mLwAI, mAIwAI, mAJwAI, mARwAI, mNwAJ, mSwAJ, mKwAJ, mIwAJ, mJwAJ, mRwAJ, mLwAJ, mAIwAJ, mAJwAJ, mARwAJ, mNwAR, mSwAR, mKwAR, mIwAR, mJwAR, mRwAR, mLwAR, mAIwAR, mAJwAR, mARwAR, okkwI, okkwJ, okkwR, okkwAI, okkwAJ, okkwAR]
theorem t1_S {M : Mem} : mS (tk1 M) = mS M := by simp [tk1, tk0, mNwI, mSwI, mKwI, mIwI, mJwI, mRwI, mLwI, mAIwI, mAJwI, mARwI, mNwJ, mSwJ, mKwJ, mIwJ, mJwJ, mRwJ, mLwJ, mAIwJ, mAJwJ, mARwJ, mNwR, mSwR, mKwR, mIwR, mJwR, mRwR, mLwR, mAIwR, mAJwR, mARwR, mNwAI, mSwAI, mKwAI, mIwAI, mJwAI, mRwAI, mLwAI, mAIwAI, mAJwAI, mARwAI, mNwAJ, mSwAJ, mKwAJ, mIwAJ, mJwAJ, mRwAJ, mLwAJ, mAIwAJ, mAJwAJ, mARwAJ, mNwAR, mSwAR, mKwAR, mIwAR, mJwAR, mRwAR, mLwAR, mAIwAR, mAJwAR, mARwAR, okkwI, okkwJ, okkwR, okkwAI, okkwAJ, okkwAR]
theorem t1_ok {M : Mem} {a c : Nat} : ok (tk1 M) a c = ok M a c := by simp [tk1, tk0, mNwI, mSwI, mKwI, mIwI, mJwI, mRwI, mLwI, mAIwI, mAJwI, mARwI, mNwJ, mSwJ, mKwJ, mIwJ, mJwJ, mRwJ, mLwJ, mAIwJ, mAJwJ, mARwJ, mNwR, mSwR, mKwR, mIwR, mJwR, mRwR, mLwR, mAIwR, mAJwR, mARwR, mNwAI, mSwAI, mKwAI, mIwAI, mJwAI, mRwAI, mLwAI, mAIwAI, mAJwAI, mARwAI, mNwAJ, mSwAJ, mKwAJ, mIwAJ, mJwAJ, mRwAJ, mLwAJ, mAIwAJ, mAJwAJ, mARwAJ, mNwAR, mSwAR, mKwAR, mIwAR, mJwAR, mRwAR, mLwAR, mAIwAR, mAJwAR, mARwAR, okkwI, okkwJ, okkwR, okkwAI, okkwAJ, okkwAR]
theorem k0_told {h : Nat} {M : Mem} {Q : Option Value → Mem → Prop} (F : Fix M) (hk : mI M 15 9 = 1) (H : Q none M) : E (h + 2) mdX4_readAllTold [.ref 14] M Q := by
  refine KX4_readAllTold ?_
  unfold DX4_readAllTold_0
  refine VX4_readAllTold_2 ?_
  unfold DX4_readAllTold_2
  refine ⟨fun hc => absurd hc (by decide), fun _ => ⟨ok14 F, 15, rf14_0 F, ok15 F, fun _ => ⟨fun hc => absurd (hk ▸ hc) (by decide), fun _ => ⟨fun hc => absurd (hk ▸ hc) (by decide), fun _ => ⟨fun _ => H, fun hc => absurd (hk ▸ hc) (by decide)⟩⟩⟩, fun hc => absurd (hk ▸ hc) (by decide)⟩⟩
theorem k0_check {h n0 : Nat} {M : Mem} {Q : Option Value → Mem → Prop} (F : Fix M) (hk : mI M 15 12 = 0) (h4 : mI M 14 4 = 0) (hm : mR M 14 7 = some n0) (o3 : ok M n0 3) (hl : mR M n0 6 = some (n0 + 7)) (o1 : ok M (n0 + 7) 1) (hz : mI M (n0 + 7) 2 = 0) (hn : 132 ≤ n0) (H : ∀ M', M' = wI (wI (wI M 15 12 2) 15 13 (mI M 15 10)) 15 9 0 → Fix M' → Q none M') : E (h + 3) mdX4_checkBegin [.ref 14, .int 1] M Q := by
  refine KX4_checkBegin ?_
  unfold DX4_checkBegin_0 DX4_checkBegin_56 DX4_checkBegin_94
  refine ⟨fun _ => S_staysOpen (fun _ => ⟨_, rfl, fun hc => absurd rfl hc, fun _ => S_standsAlone (fun _ => ⟨_, rfl, fun hc => absurd rfl hc, fun _ => ⟨ok14 F, 15, rf14_0 F, ok15 F, S_failV F (fun M' e' F' _ => ⟨rfl, ?_⟩)⟩⟩)⟩), fun hc => absurd hc (by decide)⟩
  have e : M' = wI (wI (wI M 15 12 2) 15 13 (mI M 15 10)) 15 9 0 := by rw [e']; unfold failF; rw [if_pos hk]
  have o1' : ok M' (n0 + 7) 1 := by rw [e]; exact o1
  have z' : mI M' (n0 + 7) 2 = 0 := by rw [e, mI_wI, if_neg (by omega), mI_wI, if_neg (by omega), mI_wI, if_neg (by omega), hz]
  have f' : mI M' 14 4 = 0 := by rw [e]; exact h4
  refine ⟨ok14 F', n0, by rw [e]; exact hm, by rw [e]; exact o3, n0 + 7, by rw [e]; exact hl, o1', S_size o1' (fun _ => ⟨_, rfl, fun hc => ?_, fun _ => S_pausesOf (fun _ => ⟨_, rfl, fun _ => H M' e F', fun hc => ?_⟩)⟩)⟩
  · rw [z'] at hc
    exact absurd hc (by decide)
  · rw [f'] at hc
    exact absurd (by decide) hc
def sq0 (M : Mem) : Mem := wI (wI (wI (mkF M 1 5) 15 12 2) 15 13 0) 15 9 0
theorem sq_I {M : Mem} {a f : Nat} (h : a ≠ 15) (h4 : a ≠ 4) : mI (sq0 M) a f = mI M a f := by simp [sq0, mkF, h, h4, mNwI, mSwI, mKwI, mIwI, mJwI, mRwI, mLwI, mAIwI, mAJwI, mARwI, mNwJ, mSwJ, mKwJ, mIwJ, mJwJ, mRwJ, mLwJ, mAIwJ, mAJwJ, mARwJ, mNwR, mSwR, mKwR, mIwR, mJwR, mRwR, mLwR, mAIwR, mAJwR, mARwR, mNwAI, mSwAI, mKwAI, mIwAI, mJwAI, mRwAI, mLwAI, mAIwAI, mAJwAI, mARwAI, mNwAJ, mSwAJ, mKwAJ, mIwAJ, mJwAJ, mRwAJ, mLwAJ, mAIwAJ, mAJwAJ, mARwAJ, mNwAR, mSwAR, mKwAR, mIwAR, mJwAR, mRwAR, mLwAR, mAIwAR, mAJwAR, mARwAR, okkwI, okkwJ, okkwR, okkwAI, okkwAJ, okkwAR]
theorem sq_9 {M : Mem} : mI (sq0 M) 15 9 = 0 := by simp [sq0, mNwI, mSwI, mKwI, mIwI, mJwI, mRwI, mLwI, mAIwI, mAJwI, mARwI, mNwJ, mSwJ, mKwJ, mIwJ, mJwJ, mRwJ, mLwJ, mAIwJ, mAJwJ, mARwJ, mNwR, mSwR, mKwR, mIwR, mJwR, mRwR, mLwR, mAIwR, mAJwR, mARwR, mNwAI, mSwAI, mKwAI, mIwAI, mJwAI, mRwAI, mLwAI, mAIwAI, mAJwAI, mARwAI, mNwAJ, mSwAJ, mKwAJ, mIwAJ, mJwAJ, mRwAJ, mLwAJ, mAIwAJ, mAJwAJ, mARwAJ, mNwAR, mSwAR, mKwAR, mIwAR, mJwAR, mRwAR, mLwAR, mAIwAR, mAJwAR, mARwAR, okkwI, okkwJ, okkwR, okkwAI, okkwAJ, okkwAR]
theorem sq_12 {M : Mem} : mI (sq0 M) 15 12 = 2 := by simp [sq0, mNwI, mSwI, mKwI, mIwI, mJwI, mRwI, mLwI, mAIwI, mAJwI, mARwI, mNwJ, mSwJ, mKwJ, mIwJ, mJwJ, mRwJ, mLwJ, mAIwJ, mAJwJ, mARwJ, mNwR, mSwR, mKwR, mIwR, mJwR, mRwR, mLwR, mAIwR, mAJwR, mARwR, mNwAI, mSwAI, mKwAI, mIwAI, mJwAI, mRwAI, mLwAI, mAIwAI, mAJwAI, mARwAI, mNwAJ, mSwAJ, mKwAJ, mIwAJ, mJwAJ, mRwAJ, mLwAJ, mAIwAJ, mAJwAJ, mARwAJ, mNwAR, mSwAR, mKwAR, mIwAR, mJwAR, mRwAR, mLwAR, mAIwAR, mAJwAR, mARwAR, okkwI, okkwJ, okkwR, okkwAI, okkwAJ, okkwAR]
theorem sq_13 {M : Mem} : mI (sq0 M) 15 13 = 0 := by simp [sq0, mNwI, mSwI, mKwI, mIwI, mJwI, mRwI, mLwI, mAIwI, mAJwI, mARwI, mNwJ, mSwJ, mKwJ, mIwJ, mJwJ, mRwJ, mLwJ, mAIwJ, mAJwJ, mARwJ, mNwR, mSwR, mKwR, mIwR, mJwR, mRwR, mLwR, mAIwR, mAJwR, mARwR, mNwAI, mSwAI, mKwAI, mIwAI, mJwAI, mRwAI, mLwAI, mAIwAI, mAJwAI, mARwAI, mNwAJ, mSwAJ, mKwAJ, mIwAJ, mJwAJ, mRwAJ, mLwAJ, mAIwAJ, mAJwAJ, mARwAJ, mNwAR, mSwAR, mKwAR, mIwAR, mJwAR, mRwAR, mLwAR, mAIwAR, mAJwAR, mARwAR, okkwI, okkwJ, okkwR, okkwAI, okkwAJ, okkwAR]
theorem sq_R {M : Mem} : mR (sq0 M) = mR M := by simp [sq0, mkF, mNwI, mSwI, mKwI, mIwI, mJwI, mRwI, mLwI, mAIwI, mAJwI, mARwI, mNwJ, mSwJ, mKwJ, mIwJ, mJwJ, mRwJ, mLwJ, mAIwJ, mAJwJ, mARwJ, mNwR, mSwR, mKwR, mIwR, mJwR, mRwR, mLwR, mAIwR, mAJwR, mARwR, mNwAI, mSwAI, mKwAI, mIwAI, mJwAI, mRwAI, mLwAI, mAIwAI, mAJwAI, mARwAI, mNwAJ, mSwAJ, mKwAJ, mIwAJ, mJwAJ, mRwAJ, mLwAJ, mAIwAJ, mAJwAJ, mARwAJ, mNwAR, mSwAR, mKwAR, mIwAR, mJwAR, mRwAR, mLwAR, mAIwAR, mAJwAR, mARwAR, okkwI, okkwJ, okkwR, okkwAI, okkwAJ, okkwAR]
theorem sq_N {M : Mem} : mN (sq0 M) = mN M := by simp [sq0, mkF, mNwI, mSwI, mKwI, mIwI, mJwI, mRwI, mLwI, mAIwI, mAJwI, mARwI, mNwJ, mSwJ, mKwJ, mIwJ, mJwJ, mRwJ, mLwJ, mAIwJ, mAJwJ, mARwJ, mNwR, mSwR, mKwR, mIwR, mJwR, mRwR, mLwR, mAIwR, mAJwR, mARwR, mNwAI, mSwAI, mKwAI, mIwAI, mJwAI, mRwAI, mLwAI, mAIwAI, mAJwAI, mARwAI, mNwAJ, mSwAJ, mKwAJ, mIwAJ, mJwAJ, mRwAJ, mLwAJ, mAIwAJ, mAJwAJ, mARwAJ, mNwAR, mSwAR, mKwAR, mIwAR, mJwAR, mRwAR, mLwAR, mAIwAR, mAJwAR, mARwAR, okkwI, okkwJ, okkwR, okkwAI, okkwAJ, okkwAR]
theorem sq_S {M : Mem} : mS (sq0 M) = mS M := by simp [sq0, mkF, mNwI, mSwI, mKwI, mIwI, mJwI, mRwI, mLwI, mAIwI, mAJwI, mARwI, mNwJ, mSwJ, mKwJ, mIwJ, mJwJ, mRwJ, mLwJ, mAIwJ, mAJwJ, mARwJ, mNwR, mSwR, mKwR, mIwR, mJwR, mRwR, mLwR, mAIwR, mAJwR, mARwR, mNwAI, mSwAI, mKwAI, mIwAI, mJwAI, mRwAI, mLwAI, mAIwAI, mAJwAI, mARwAI, mNwAJ, mSwAJ, mKwAJ, mIwAJ, mJwAJ, mRwAJ, mLwAJ, mAIwAJ, mAJwAJ, mARwAJ, mNwAR, mSwAR, mKwAR, mIwAR, mJwAR, mRwAR, mLwAR, mAIwAR, mAJwAR, mARwAR, okkwI, okkwJ, okkwR, okkwAI, okkwAJ, okkwAR]
theorem sq_ok {M : Mem} {a c : Nat} : ok (sq0 M) a c = ok M a c := by simp [sq0, mkF, mNwI, mSwI, mKwI, mIwI, mJwI, mRwI, mLwI, mAIwI, mAJwI, mARwI, mNwJ, mSwJ, mKwJ, mIwJ, mJwJ, mRwJ, mLwJ, mAIwJ, mAJwJ, mARwJ, mNwR, mSwR, mKwR, mIwR, mJwR, mRwR, mLwR, mAIwR, mAJwR, mARwR, mNwAI, mSwAI, mKwAI, mIwAI, mJwAI, mRwAI, mLwAI, mAIwAI, mAJwAI, mARwAI, mNwAJ, mSwAJ, mKwAJ, mIwAJ, mJwAJ, mRwAJ, mLwAJ, mAIwAJ, mAJwAJ, mARwAJ, mNwAR, mSwAR, mKwAR, mIwAR, mJwAR, mRwAR, mLwAR, mAIwAR, mAJwAR, mARwAR, okkwI, okkwJ, okkwR, okkwAI, okkwAJ, okkwAR]
theorem k0_seq {h n0 : Nat} {M : Mem} {Q : Option Value → Mem → Prop} (F : Fix M) (hk : mI M 15 9 = 1) (h10 : mI M 15 10 = 0) (h7 : mI M 15 7 = 1) (h12 : mI M 15 12 = 0) (h49 : mI M 4 9 = 1) (h4 : mI M 14 4 = 0) (hm : mR M 14 7 = some n0) (o3 : ok M n0 3) (hl : mR M n0 6 = some (n0 + 7)) (o1 : ok M (n0 + 7) 1) (hz : mI M (n0 + 7) 2 = 0) (hn : 132 ≤ n0) (H : ∀ M', M' = sq0 M → Fix M' → Q (some (.int 1)) M') : E (h + 6) mdX4_readSeq [.ref 14, .int 0] M Q := by
  refine KX4_readSeq ?_
  unfold DX4_readSeq_0
  refine ⟨ok14 F, 4, rf14_1 F, ok4 F, S_makeV (n := 1) F h49 (by decide) (fun M1 e1 F1 _ => ⟨_, rfl, 4, rf14_1 F1, ?_⟩)⟩
  refine KX4_readPart ?_
  unfold DX4_readPart_0
  have k9 : mI M1 15 9 = 1 := by rw [e1]; simp [mkF, hk, mNwI, mSwI, mKwI, mIwI, mJwI, mRwI, mLwI, mAIwI, mAJwI, mARwI, mNwJ, mSwJ, mKwJ, mIwJ, mJwJ, mRwJ, mLwJ, mAIwJ, mAJwJ, mARwJ, mNwR, mSwR, mKwR, mIwR, mJwR, mRwR, mLwR, mAIwR, mAJwR, mARwR, mNwAI, mSwAI, mKwAI, mIwAI, mJwAI, mRwAI, mLwAI, mAIwAI, mAJwAI, mARwAI, mNwAJ, mSwAJ, mKwAJ, mIwAJ, mJwAJ, mRwAJ, mLwAJ, mAIwAJ, mAJwAJ, mARwAJ, mNwAR, mSwAR, mKwAR, mIwAR, mJwAR, mRwAR, mLwAR, mAIwAR, mAJwAR, mARwAR, okkwI, okkwJ, okkwR, okkwAI, okkwAJ, okkwAR]
  have k10 : mI M1 15 10 = 0 := by rw [e1]; simp [mkF, h10, mNwI, mSwI, mKwI, mIwI, mJwI, mRwI, mLwI, mAIwI, mAJwI, mARwI, mNwJ, mSwJ, mKwJ, mIwJ, mJwJ, mRwJ, mLwJ, mAIwJ, mAJwJ, mARwJ, mNwR, mSwR, mKwR, mIwR, mJwR, mRwR, mLwR, mAIwR, mAJwR, mARwR, mNwAI, mSwAI, mKwAI, mIwAI, mJwAI, mRwAI, mLwAI, mAIwAI, mAJwAI, mARwAI, mNwAJ, mSwAJ, mKwAJ, mIwAJ, mJwAJ, mRwAJ, mLwAJ, mAIwAJ, mAJwAJ, mARwAJ, mNwAR, mSwAR, mKwAR, mIwAR, mJwAR, mRwAR, mLwAR, mAIwAR, mAJwAR, mARwAR, okkwI, okkwJ, okkwR, okkwAI, okkwAJ, okkwAR]
  have k7 : mI M1 15 7 = 1 := by rw [e1]; simp [mkF, h7, mNwI, mSwI, mKwI, mIwI, mJwI, mRwI, mLwI, mAIwI, mAJwI, mARwI, mNwJ, mSwJ, mKwJ, mIwJ, mJwJ, mRwJ, mLwJ, mAIwJ, mAJwJ, mARwJ, mNwR, mSwR, mKwR, mIwR, mJwR, mRwR, mLwR, mAIwR, mAJwR, mARwR, mNwAI, mSwAI, mKwAI, mIwAI, mJwAI, mRwAI, mLwAI, mAIwAI, mAJwAI, mARwAI, mNwAJ, mSwAJ, mKwAJ, mIwAJ, mJwAJ, mRwAJ, mLwAJ, mAIwAJ, mAJwAJ, mARwAJ, mNwAR, mSwAR, mKwAR, mIwAR, mJwAR, mRwAR, mLwAR, mAIwAR, mAJwAR, mARwAR, okkwI, okkwJ, okkwR, okkwAI, okkwAJ, okkwAR]
  refine ⟨ok14 F1, 15, rf14_0 F1, ok15 F1, ?_⟩
  rw [k9]
  refine k0_check (n0 := n0) F1 (by rw [e1]; simp [mkF, h12, mNwI, mSwI, mKwI, mIwI, mJwI, mRwI, mLwI, mAIwI, mAJwI, mARwI, mNwJ, mSwJ, mKwJ, mIwJ, mJwJ, mRwJ, mLwJ, mAIwJ, mAJwJ, mARwJ, mNwR, mSwR, mKwR, mIwR, mJwR, mRwR, mLwR, mAIwR, mAJwR, mARwR, mNwAI, mSwAI, mKwAI, mIwAI, mJwAI, mRwAI, mLwAI, mAIwAI, mAJwAI, mARwAI, mNwAJ, mSwAJ, mKwAJ, mIwAJ, mJwAJ, mRwAJ, mLwAJ, mAIwAJ, mAJwAJ, mARwAJ, mNwAR, mSwAR, mKwAR, mIwAR, mJwAR, mRwAR, mLwAR, mAIwAR, mAJwAR, mARwAR, okkwI, okkwJ, okkwR, okkwAI, okkwAJ, okkwAR]) (by rw [e1]; simp [mkF, h4, mNwI, mSwI, mKwI, mIwI, mJwI, mRwI, mLwI, mAIwI, mAJwI, mARwI, mNwJ, mSwJ, mKwJ, mIwJ, mJwJ, mRwJ, mLwJ, mAIwJ, mAJwJ, mARwJ, mNwR, mSwR, mKwR, mIwR, mJwR, mRwR, mLwR, mAIwR, mAJwR, mARwR, mNwAI, mSwAI, mKwAI, mIwAI, mJwAI, mRwAI, mLwAI, mAIwAI, mAJwAI, mARwAI, mNwAJ, mSwAJ, mKwAJ, mIwAJ, mJwAJ, mRwAJ, mLwAJ, mAIwAJ, mAJwAJ, mARwAJ, mNwAR, mSwAR, mKwAR, mIwAR, mJwAR, mRwAR, mLwAR, mAIwAR, mAJwAR, mARwAR, okkwI, okkwJ, okkwR, okkwAI, okkwAJ, okkwAR]) (by rw [e1]; simp [mkF, hm, mNwI, mSwI, mKwI, mIwI, mJwI, mRwI, mLwI, mAIwI, mAJwI, mARwI, mNwJ, mSwJ, mKwJ, mIwJ, mJwJ, mRwJ, mLwJ, mAIwJ, mAJwJ, mARwJ, mNwR, mSwR, mKwR, mIwR, mJwR, mRwR, mLwR, mAIwR, mAJwR, mARwR, mNwAI, mSwAI, mKwAI, mIwAI, mJwAI, mRwAI, mLwAI, mAIwAI, mAJwAI, mARwAI, mNwAJ, mSwAJ, mKwAJ, mIwAJ, mJwAJ, mRwAJ, mLwAJ, mAIwAJ, mAJwAJ, mARwAJ, mNwAR, mSwAR, mKwAR, mIwAR, mJwAR, mRwAR, mLwAR, mAIwAR, mAJwAR, mARwAR, okkwI, okkwJ, okkwR, okkwAI, okkwAJ, okkwAR]) (by rw [e1]; simp [mkF, o3, mNwI, mSwI, mKwI, mIwI, mJwI, mRwI, mLwI, mAIwI, mAJwI, mARwI, mNwJ, mSwJ, mKwJ, mIwJ, mJwJ, mRwJ, mLwJ, mAIwJ, mAJwJ, mARwJ, mNwR, mSwR, mKwR, mIwR, mJwR, mRwR, mLwR, mAIwR, mAJwR, mARwR, mNwAI, mSwAI, mKwAI, mIwAI, mJwAI, mRwAI, mLwAI, mAIwAI, mAJwAI, mARwAI, mNwAJ, mSwAJ, mKwAJ, mIwAJ, mJwAJ, mRwAJ, mLwAJ, mAIwAJ, mAJwAJ, mARwAJ, mNwAR, mSwAR, mKwAR, mIwAR, mJwAR, mRwAR, mLwAR, mAIwAR, mAJwAR, mARwAR, okkwI, okkwJ, okkwR, okkwAI, okkwAJ, okkwAR]) (by rw [e1]; simp [mkF, hl, mNwI, mSwI, mKwI, mIwI, mJwI, mRwI, mLwI, mAIwI, mAJwI, mARwI, mNwJ, mSwJ, mKwJ, mIwJ, mJwJ, mRwJ, mLwJ, mAIwJ, mAJwJ, mARwJ, mNwR, mSwR, mKwR, mIwR, mJwR, mRwR, mLwR, mAIwR, mAJwR, mARwR, mNwAI, mSwAI, mKwAI, mIwAI, mJwAI, mRwAI, mLwAI, mAIwAI, mAJwAI, mARwAI, mNwAJ, mSwAJ, mKwAJ, mIwAJ, mJwAJ, mRwAJ, mLwAJ, mAIwAJ, mAJwAJ, mARwAJ, mNwAR, mSwAR, mKwAR, mIwAR, mJwAR, mRwAR, mLwAR, mAIwAR, mAJwAR, mARwAR, okkwI, okkwJ, okkwR, okkwAI, okkwAJ, okkwAR]) (by rw [e1]; simp [mkF, o1, mNwI, mSwI, mKwI, mIwI, mJwI, mRwI, mLwI, mAIwI, mAJwI, mARwI, mNwJ, mSwJ, mKwJ, mIwJ, mJwJ, mRwJ, mLwJ, mAIwJ, mAJwJ, mARwJ, mNwR, mSwR, mKwR, mIwR, mJwR, mRwR, mLwR, mAIwR, mAJwR, mARwR, mNwAI, mSwAI, mKwAI, mIwAI, mJwAI, mRwAI, mLwAI, mAIwAI, mAJwAI, mARwAI, mNwAJ, mSwAJ, mKwAJ, mIwAJ, mJwAJ, mRwAJ, mLwAJ, mAIwAJ, mAJwAJ, mARwAJ, mNwAR, mSwAR, mKwAR, mIwAR, mJwAR, mRwAR, mLwAR, mAIwAR, mAJwAR, mARwAR, okkwI, okkwJ, okkwR, okkwAI, okkwAJ, okkwAR]) (by rw [e1]; simp [mkF, hz, mNwI, mSwI, mKwI, mIwI, mJwI, mRwI, mLwI, mAIwI, mAJwI, mARwI, mNwJ, mSwJ, mKwJ, mIwJ, mJwJ, mRwJ, mLwJ, mAIwJ, mAJwJ, mARwJ, mNwR, mSwR, mKwR, mIwR, mJwR, mRwR, mLwR, mAIwR, mAJwR, mARwR, mNwAI, mSwAI, mKwAI, mIwAI, mJwAI, mRwAI, mLwAI, mAIwAI, mAJwAI, mARwAI, mNwAJ, mSwAJ, mKwAJ, mIwAJ, mJwAJ, mRwAJ, mLwAJ, mAIwAJ, mAJwAJ, mARwAJ, mNwAR, mSwAR, mKwAR, mIwAR, mJwAR, mRwAR, mLwAR, mAIwAR, mAJwAR, mARwAR, okkwI, okkwJ, okkwR, okkwAI, okkwAJ, okkwAR]) hn (fun M2 e2 F2 _ => ⟨rfl, 15, rf14_0 F2, ok15 F2, fun hc => ?_, fun _ => ?_⟩)
  · have q : mI M2 15 12 = 2 := by rw [e2]; simp [mNwI, mSwI, mKwI, mIwI, mJwI, mRwI, mLwI, mAIwI, mAJwI, mARwI, mNwJ, mSwJ, mKwJ, mIwJ, mJwJ, mRwJ, mLwJ, mAIwJ, mAJwJ, mARwJ, mNwR, mSwR, mKwR, mIwR, mJwR, mRwR, mLwR, mAIwR, mAJwR, mARwR, mNwAI, mSwAI, mKwAI, mIwAI, mJwAI, mRwAI, mLwAI, mAIwAI, mAJwAI, mARwAI, mNwAJ, mSwAJ, mKwAJ, mIwAJ, mJwAJ, mRwAJ, mLwAJ, mAIwAJ, mAJwAJ, mARwAJ, mNwAR, mSwAR, mKwAR, mIwAR, mJwAR, mRwAR, mLwAR, mAIwAR, mAJwAR, mARwAR, okkwI, okkwJ, okkwR, okkwAI, okkwAJ, okkwAR]
    rw [q] at hc
    exact absurd hc (by decide)
  rw [k10] at e2
  have g9 : mI M2 15 9 = 0 := by rw [e2]; simp [mNwI, mSwI, mKwI, mIwI, mJwI, mRwI, mLwI, mAIwI, mAJwI, mARwI, mNwJ, mSwJ, mKwJ, mIwJ, mJwJ, mRwJ, mLwJ, mAIwJ, mAJwJ, mARwJ, mNwR, mSwR, mKwR, mIwR, mJwR, mRwR, mLwR, mAIwR, mAJwR, mARwR, mNwAI, mSwAI, mKwAI, mIwAI, mJwAI, mRwAI, mLwAI, mAIwAI, mAJwAI, mARwAI, mNwAJ, mSwAJ, mKwAJ, mIwAJ, mJwAJ, mRwAJ, mLwAJ, mAIwAJ, mAJwAJ, mARwAJ, mNwAR, mSwAR, mKwAR, mIwAR, mJwAR, mRwAR, mLwAR, mAIwAR, mAJwAR, mARwAR, okkwI, okkwJ, okkwR, okkwAI, okkwAJ, okkwAR]
  have g7 : mI M2 15 7 = 1 := by rw [e2]; simp [k7, mNwI, mSwI, mKwI, mIwI, mJwI, mRwI, mLwI, mAIwI, mAJwI, mARwI, mNwJ, mSwJ, mKwJ, mIwJ, mJwJ, mRwJ, mLwJ, mAIwJ, mAJwJ, mARwJ, mNwR, mSwR, mKwR, mIwR, mJwR, mRwR, mLwR, mAIwR, mAJwR, mARwR, mNwAI, mSwAI, mKwAI, mIwAI, mJwAI, mRwAI, mLwAI, mAIwAI, mAJwAI, mARwAI, mNwAJ, mSwAJ, mKwAJ, mIwAJ, mJwAJ, mRwAJ, mLwAJ, mAIwAJ, mAJwAJ, mARwAJ, mNwAR, mSwAR, mKwAR, mIwAR, mJwAR, mRwAR, mLwAR, mAIwAR, mAJwAR, mARwAR, okkwI, okkwJ, okkwR, okkwAI, okkwAJ, okkwAR]
  refine fun _ => ⟨_, rfl, ok4 F2, ?_⟩
  refine KX8_hang ?_
  unfold DX8_hang_0 DX8_hang_8
  refine ⟨fun hc => absurd hc (by decide), fun _ => ⟨fun hc => absurd rfl hc, fun _ => fun _ => ⟨rfl, ?_⟩⟩⟩
  refine VX4_readSeq_26 ?_
  unfold DX4_readSeq_26 DX4_readSeq_65
  refine ⟨fun hc => absurd hc (by decide), fun _ => ⟨ok14 F2, 15, rf14_0 F2, ok15 F2, S_accept F2 (by rw [g7]; decide) (fun hc => ?_) (fun _ => fun _ => ⟨_, rfl, fun _ => H M2 (by rw [e2, e1]; rfl) F2, fun hc => absurd rfl hc⟩)⟩⟩
  rw [g9] at hc
  exact absurd hc (by decide)
theorem k0_late {h n0 : Nat} {M : Mem} {Q : Option Value → Mem → Prop} (F : Fix M) (hm : mR M 14 7 = some n0) (o3 : ok M n0 3) (hl : mR M n0 6 = some (n0 + 7)) (o1 : ok M (n0 + 7) 1) (hz : mI M (n0 + 7) 2 = 0) (H : Q none M) : E (h + 2) mdX4_findLateFault [.ref 14] M Q := by
  refine KX4_findLateFault ?_
  unfold DX4_findLateFault_0
  refine VX4_findLateFault_2 ?_
  unfold DX4_findLateFault_2 DX4_findLateFault_69
  refine ⟨ok14 F, n0, hm, o3, n0 + 7, hl, o1, S_size o1 (fun _ => ⟨_, rfl, fun _ => H, fun hc => ?_⟩)⟩
  rw [hz] at hc
  exact absurd (by decide) hc
theorem cpC_n : mN cpC = 25 := rfl
theorem cpC_s : mS cpC ≤ 1000 := by decide +kernel
/-- what one empty compile leaves of a memory -/
def G0 (M M' : Mem) : Prop := Fix M' ∧ mI M' 29 = mI M 29 ∧ mN M' = mN M + 25 ∧ mS M' ≤ mS M + 1000
theorem rR147 : (tR ++ tS).all (fun e => !(e.1 == 14 && e.2.1 == 7)) = true := by decide +kernel
theorem k0_read {h : Nat} {M : Mem} {Q : Option Value → Mem → Prop} (F : Fix M) (H : ∀ M', G0 M M' → mI M' 15 12 = 2 → mI M' 15 13 = 0 → Q (some (va_rf none)) M') : E (h + 8) mdX4_read [.ref 14, .int 0] M Q := by
  refine KX4_read ?_
  unfold DX4_read_0 DX4_read_81 DX4_read_117
  intro q2 M1 hq hM1
  have hS : Sh (mN M) M M1 cp0 := by rw [hM1]; exact (Sh.start rfl).o (by decide)
  have h132 := F.1
  generalize hn0 : mN M = n0 at *
  have hq := hq.symm
  subst hq
  refine (S_comp hS).imp (fun r M3 _ hp _ => ⟨hp.1, ?_⟩)
  obtain ⟨-, m⟩ := hp
  have F3 : Fix M3 := m.fix F
  have i29 : mI M3 29 = mI M 29 := (m.2.2.2.1.2 29 (by omega) (fun z => z)).1
  have n3 : mN M3 = n0 + 25 := m.1
  have s3 : mS M3 ≤ mS M + 1000 := by rw [m.2.2.1]; have := cpC_s; omega
  have a1 : ok M3 n0 3 := m.k (a := 0) (by decide) rfl
  have a2 : mR M3 n0 6 = some (n0 + 7) := m.rR (a := 0) (by decide) (by decide) rfl (by decide)
  have a3 : ok M3 (n0 + 7) 1 := m.k (by decide) rfl
  have a4 : mI M3 (n0 + 7) 2 = 0 := m.rI (by decide) (by decide) rfl
  clear m
  refine ⟨ok14 F3, fun M5 e5 M6 e6 M7 e7 M8 e8 M9 e9 => ?_⟩
  have F9 : Fix M9 := by rw [e9, e8, e7, e6, e5]; exact (F3.r rR147).i.i.i.i
  have e9 : M9 = wI (wI (wI (wI (wR M3 14 7 (some n0)) 14 3 0) 14 4 0) 14 5 0) 14 6 0 := by rw [e9, e8, e7, e6, e5]
  have g1 : mI M9 14 4 = 0 := by rw [e9]; simp [mNwI, mSwI, mKwI, mIwI, mJwI, mRwI, mLwI, mAIwI, mAJwI, mARwI, mNwJ, mSwJ, mKwJ, mIwJ, mJwJ, mRwJ, mLwJ, mAIwJ, mAJwJ, mARwJ, mNwR, mSwR, mKwR, mIwR, mJwR, mRwR, mLwR, mAIwR, mAJwR, mARwR, mNwAI, mSwAI, mKwAI, mIwAI, mJwAI, mRwAI, mLwAI, mAIwAI, mAJwAI, mARwAI, mNwAJ, mSwAJ, mKwAJ, mIwAJ, mJwAJ, mRwAJ, mLwAJ, mAIwAJ, mAJwAJ, mARwAJ, mNwAR, mSwAR, mKwAR, mIwAR, mJwAR, mRwAR, mLwAR, mAIwAR, mAJwAR, mARwAR, okkwI, okkwJ, okkwR, okkwAI, okkwAJ, okkwAR]
  have g2 : mR M9 14 7 = some n0 := by rw [e9]; simp [mNwI, mSwI, mKwI, mIwI, mJwI, mRwI, mLwI, mAIwI, mAJwI, mARwI, mNwJ, mSwJ, mKwJ, mIwJ, mJwJ, mRwJ, mLwJ, mAIwJ, mAJwJ, mARwJ, mNwR, mSwR, mKwR, mIwR, mJwR, mRwR, mLwR, mAIwR, mAJwR, mARwR, mNwAI, mSwAI, mKwAI, mIwAI, mJwAI, mRwAI, mLwAI, mAIwAI, mAJwAI, mARwAI, mNwAJ, mSwAJ, mKwAJ, mIwAJ, mJwAJ, mRwAJ, mLwAJ, mAIwAJ, mAJwAJ, mARwAJ, mNwAR, mSwAR, mKwAR, mIwAR, mJwAR, mRwAR, mLwAR, mAIwAR, mAJwAR, mARwAR, okkwI, okkwJ, okkwR, okkwAI, okkwAJ, okkwAR]
  have g3 : ok M9 n0 3 := by rw [e9]; simp [a1, mNwI, mSwI, mKwI, mIwI, mJwI, mRwI, mLwI, mAIwI, mAJwI, mARwI, mNwJ, mSwJ, mKwJ, mIwJ, mJwJ, mRwJ, mLwJ, mAIwJ, mAJwJ, mARwJ, mNwR, mSwR, mKwR, mIwR, mJwR, mRwR, mLwR, mAIwR, mAJwR, mARwR, mNwAI, mSwAI, mKwAI, mIwAI, mJwAI, mRwAI, mLwAI, mAIwAI, mAJwAI, mARwAI, mNwAJ, mSwAJ, mKwAJ, mIwAJ, mJwAJ, mRwAJ, mLwAJ, mAIwAJ, mAJwAJ, mARwAJ, mNwAR, mSwAR, mKwAR, mIwAR, mJwAR, mRwAR, mLwAR, mAIwAR, mAJwAR, mARwAR, okkwI, okkwJ, okkwR, okkwAI, okkwAJ, okkwAR]
  have g4 : mR M9 n0 6 = some (n0 + 7) := by rw [e9]; simp [a2, mNwI, mSwI, mKwI, mIwI, mJwI, mRwI, mLwI, mAIwI, mAJwI, mARwI, mNwJ, mSwJ, mKwJ, mIwJ, mJwJ, mRwJ, mLwJ, mAIwJ, mAJwJ, mARwJ, mNwR, mSwR, mKwR, mIwR, mJwR, mRwR, mLwR, mAIwR, mAJwR, mARwR, mNwAI, mSwAI, mKwAI, mIwAI, mJwAI, mRwAI, mLwAI, mAIwAI, mAJwAI, mARwAI, mNwAJ, mSwAJ, mKwAJ, mIwAJ, mJwAJ, mRwAJ, mLwAJ, mAIwAJ, mAJwAJ, mARwAJ, mNwAR, mSwAR, mKwAR, mIwAR, mJwAR, mRwAR, mLwAR, mAIwAR, mAJwAR, mARwAR, okkwI, okkwJ, okkwR, okkwAI, okkwAJ, okkwAR]
  have g5 : ok M9 (n0 + 7) 1 := by rw [e9]; simp [a3, mNwI, mSwI, mKwI, mIwI, mJwI, mRwI, mLwI, mAIwI, mAJwI, mARwI, mNwJ, mSwJ, mKwJ, mIwJ, mJwJ, mRwJ, mLwJ, mAIwJ, mAJwJ, mARwJ, mNwR, mSwR, mKwR, mIwR, mJwR, mRwR, mLwR, mAIwR, mAJwR, mARwR, mNwAI, mSwAI, mKwAI, mIwAI, mJwAI, mRwAI, mLwAI, mAIwAI, mAJwAI, mARwAI, mNwAJ, mSwAJ, mKwAJ, mIwAJ, mJwAJ, mRwAJ, mLwAJ, mAIwAJ, mAJwAJ, mARwAJ, mNwAR, mSwAR, mKwAR, mIwAR, mJwAR, mRwAR, mLwAR, mAIwAR, mAJwAR, mARwAR, okkwI, okkwJ, okkwR, okkwAI, okkwAJ, okkwAR]
  have g6 : ∀ a f, a ≠ 14 → mI M9 a f = mI M3 a f := by intro a f ha; rw [e9]; simp [ha, mNwI, mSwI, mKwI, mIwI, mJwI, mRwI, mLwI, mAIwI, mAJwI, mARwI, mNwJ, mSwJ, mKwJ, mIwJ, mJwJ, mRwJ, mLwJ, mAIwJ, mAJwJ, mARwJ, mNwR, mSwR, mKwR, mIwR, mJwR, mRwR, mLwR, mAIwR, mAJwR, mARwR, mNwAI, mSwAI, mKwAI, mIwAI, mJwAI, mRwAI, mLwAI, mAIwAI, mAJwAI, mARwAI, mNwAJ, mSwAJ, mKwAJ, mIwAJ, mJwAJ, mRwAJ, mLwAJ, mAIwAJ, mAJwAJ, mARwAJ, mNwAR, mSwAR, mKwAR, mIwAR, mJwAR, mRwAR, mLwAR, mAIwAR, mAJwAR, mARwAR, okkwI, okkwJ, okkwR, okkwAI, okkwAJ, okkwAR]
  have g7 : mN M9 = n0 + 25 := by rw [e9]; simp [n3, mNwI, mSwI, mKwI, mIwI, mJwI, mRwI, mLwI, mAIwI, mAJwI, mARwI, mNwJ, mSwJ, mKwJ, mIwJ, mJwJ, mRwJ, mLwJ, mAIwJ, mAJwJ, mARwJ, mNwR, mSwR, mKwR, mIwR, mJwR, mRwR, mLwR, mAIwR, mAJwR, mARwR, mNwAI, mSwAI, mKwAI, mIwAI, mJwAI, mRwAI, mLwAI, mAIwAI, mAJwAI, mARwAI, mNwAJ, mSwAJ, mKwAJ, mIwAJ, mJwAJ, mRwAJ, mLwAJ, mAIwAJ, mAJwAJ, mARwAJ, mNwAR, mSwAR, mKwAR, mIwAR, mJwAR, mRwAR, mLwAR, mAIwAR, mAJwAR, mARwAR, okkwI, okkwJ, okkwR, okkwAI, okkwAJ, okkwAR]
  have g8 : mS M9 = mS M3 := by rw [e9]; simp [mNwI, mSwI, mKwI, mIwI, mJwI, mRwI, mLwI, mAIwI, mAJwI, mARwI, mNwJ, mSwJ, mKwJ, mIwJ, mJwJ, mRwJ, mLwJ, mAIwJ, mAJwJ, mARwJ, mNwR, mSwR, mKwR, mIwR, mJwR, mRwR, mLwR, mAIwR, mAJwR, mARwR, mNwAI, mSwAI, mKwAI, mIwAI, mJwAI, mRwAI, mLwAI, mAIwAI, mAJwAI, mARwAI, mNwAJ, mSwAJ, mKwAJ, mIwAJ, mJwAJ, mRwAJ, mLwAJ, mAIwAJ, mAJwAJ, mARwAJ, mNwAR, mSwAR, mKwAR, mIwAR, mJwAR, mRwAR, mLwAR, mAIwAR, mAJwAR, mARwAR, okkwI, okkwJ, okkwR, okkwAI, okkwAJ, okkwAR]
  clear e9 e8 e7 e6 e5
  refine ⟨4, rf14_1 F9, ok4 F9, k0_treeV F9 (fun A hA FA _ => ⟨rfl, ?_⟩)⟩
  have hA := hA.symm
  have g9 : mI A 4 9 = 1 := by rw [← hA]; simp [mNwI, mSwI, mKwI, mIwI, mJwI, mRwI, mLwI, mAIwI, mAJwI, mARwI, mNwJ, mSwJ, mKwJ, mIwJ, mJwJ, mRwJ, mLwJ, mAIwJ, mAJwJ, mARwJ, mNwR, mSwR, mKwR, mIwR, mJwR, mRwR, mLwR, mAIwR, mAJwR, mARwR, mNwAI, mSwAI, mKwAI, mIwAI, mJwAI, mRwAI, mLwAI, mAIwAI, mAJwAI, mARwAI, mNwAJ, mSwAJ, mKwAJ, mIwAJ, mJwAJ, mRwAJ, mLwAJ, mAIwAJ, mAJwAJ, mARwAJ, mNwAR, mSwAR, mKwAR, mIwAR, mJwAR, mRwAR, mLwAR, mAIwAR, mAJwAR, mARwAR, okkwI, okkwJ, okkwR, okkwAI, okkwAJ, okkwAR]
  have gA : ∀ a f, a ≠ 4 → mI A a f = mI M9 a f := by intro a f ha; rw [← hA]; simp [ha, mNwI, mSwI, mKwI, mIwI, mJwI, mRwI, mLwI, mAIwI, mAJwI, mARwI, mNwJ, mSwJ, mKwJ, mIwJ, mJwJ, mRwJ, mLwJ, mAIwJ, mAJwJ, mARwJ, mNwR, mSwR, mKwR, mIwR, mJwR, mRwR, mLwR, mAIwR, mAJwR, mARwR, mNwAI, mSwAI, mKwAI, mIwAI, mJwAI, mRwAI, mLwAI, mAIwAI, mAJwAI, mARwAI, mNwAJ, mSwAJ, mKwAJ, mIwAJ, mJwAJ, mRwAJ, mLwAJ, mAIwAJ, mAJwAJ, mARwAJ, mNwAR, mSwAR, mKwAR, mIwAR, mJwAR, mRwAR, mLwAR, mAIwAR, mAJwAR, mARwAR, okkwI, okkwJ, okkwR, okkwAI, okkwAJ, okkwAR]
  have gB : mR A = mR M9 := by rw [← hA]; simp [mNwI, mSwI, mKwI, mIwI, mJwI, mRwI, mLwI, mAIwI, mAJwI, mARwI, mNwJ, mSwJ, mKwJ, mIwJ, mJwJ, mRwJ, mLwJ, mAIwJ, mAJwJ, mARwJ, mNwR, mSwR, mKwR, mIwR, mJwR, mRwR, mLwR, mAIwR, mAJwR, mARwR, mNwAI, mSwAI, mKwAI, mIwAI, mJwAI, mRwAI, mLwAI, mAIwAI, mAJwAI, mARwAI, mNwAJ, mSwAJ, mKwAJ, mIwAJ, mJwAJ, mRwAJ, mLwAJ, mAIwAJ, mAJwAJ, mARwAJ, mNwAR, mSwAR, mKwAR, mIwAR, mJwAR, mRwAR, mLwAR, mAIwAR, mAJwAR, mARwAR, okkwI, okkwJ, okkwR, okkwAI, okkwAJ, okkwAR]
  have gC : mN A = mN M9 := by rw [← hA]; simp [mNwI, mSwI, mKwI, mIwI, mJwI, mRwI, mLwI, mAIwI, mAJwI, mARwI, mNwJ, mSwJ, mKwJ, mIwJ, mJwJ, mRwJ, mLwJ, mAIwJ, mAJwJ, mARwJ, mNwR, mSwR, mKwR, mIwR, mJwR, mRwR, mLwR, mAIwR, mAJwR, mARwR, mNwAI, mSwAI, mKwAI, mIwAI, mJwAI, mRwAI, mLwAI, mAIwAI, mAJwAI, mARwAI, mNwAJ, mSwAJ, mKwAJ, mIwAJ, mJwAJ, mRwAJ, mLwAJ, mAIwAJ, mAJwAJ, mARwAJ, mNwAR, mSwAR, mKwAR, mIwAR, mJwAR, mRwAR, mLwAR, mAIwAR, mAJwAR, mARwAR, okkwI, okkwJ, okkwR, okkwAI, okkwAJ, okkwAR]
  have gD : mS A = mS M9 := by rw [← hA]; simp [mNwI, mSwI, mKwI, mIwI, mJwI, mRwI, mLwI, mAIwI, mAJwI, mARwI, mNwJ, mSwJ, mKwJ, mIwJ, mJwJ, mRwJ, mLwJ, mAIwJ, mAJwJ, mARwJ, mNwR, mSwR, mKwR, mIwR, mJwR, mRwR, mLwR, mAIwR, mAJwR, mARwR, mNwAI, mSwAI, mKwAI, mIwAI, mJwAI, mRwAI, mLwAI, mAIwAI, mAJwAI, mARwAI, mNwAJ, mSwAJ, mKwAJ, mIwAJ, mJwAJ, mRwAJ, mLwAJ, mAIwAJ, mAJwAJ, mARwAJ, mNwAR, mSwAR, mKwAR, mIwAR, mJwAR, mRwAR, mLwAR, mAIwAR, mAJwAR, mARwAR, okkwI, okkwJ, okkwR, okkwAI, okkwAJ, okkwAR]
  have gE : ∀ a c, ok M9 a c → ok A a c := by intro a c q; rw [← hA]; simp [q, mNwI, mSwI, mKwI, mIwI, mJwI, mRwI, mLwI, mAIwI, mAJwI, mARwI, mNwJ, mSwJ, mKwJ, mIwJ, mJwJ, mRwJ, mLwJ, mAIwJ, mAJwJ, mARwJ, mNwR, mSwR, mKwR, mIwR, mJwR, mRwR, mLwR, mAIwR, mAJwR, mARwR, mNwAI, mSwAI, mKwAI, mIwAI, mJwAI, mRwAI, mLwAI, mAIwAI, mAJwAI, mARwAI, mNwAJ, mSwAJ, mKwAJ, mIwAJ, mJwAJ, mRwAJ, mLwAJ, mAIwAJ, mAJwAJ, mARwAJ, mNwAR, mSwAR, mKwAR, mIwAR, mJwAR, mRwAR, mLwAR, mAIwAR, mAJwAR, mARwAR, okkwI, okkwJ, okkwR, okkwAI, okkwAJ, okkwAR]
  clear hA
  refine ⟨15, rf14_0 FA, ok15 FA, k0_beginV FA (fun B hB FB _ => ⟨rfl, ?_⟩)⟩
  have hB := hB.symm
  have b1 : mI B 15 9 = 1 := by rw [← hB]; exact t1_9
  have b2 : mI B 15 10 = 0 := by rw [← hB]; exact t1_10
  have b3 : mI B 15 7 = 1 := by rw [← hB]; exact t1_7
  have b4 : mI B 15 12 = 0 := by rw [← hB]; exact t1_12
  have b5 : mI B 4 9 = 1 := by rw [← hB, t1_I (by decide)]; exact g9
  have b6 : mI B 14 4 = 0 := by rw [← hB, t1_I (by decide), gA 14 4 (by decide)]; exact g1
  have b7 : mR B 14 7 = some n0 := by rw [← hB, t1_R, gB]; exact g2
  have b8 : ok B n0 3 := by rw [← hB, t1_ok]; exact gE _ _ g3
  have b9 : mR B n0 6 = some (n0 + 7) := by rw [← hB, t1_R, gB]; exact g4
  have bA : ok B (n0 + 7) 1 := by rw [← hB, t1_ok]; exact gE _ _ g5
  have bB : mI B (n0 + 7) 2 = 0 := by rw [← hB, t1_I (by omega), gA _ _ (by omega), g6 _ _ (by omega)]; exact a4
  have bC : mI B 29 = mI M 29 := by funext j; rw [← hB, t1_I (by decide), gA _ _ (by decide), g6 _ _ (by decide), i29]
  have bD : mN B = n0 + 25 := by rw [← hB, t1_N, gC, g7]
  have bE : mS B = mS M3 := by rw [← hB, t1_S, gD, g8]
  clear hB
  refine k0_told FB b1 (fun _ => ⟨rfl, n0, b7, k0_seq FB b1 b2 b3 b4 b5 b6 b7 b8 b9 bA bB h132 (fun C hC FC _ => ⟨_, rfl, by rw [hC, sq_ok]; exact b8, fun D hD => ?_⟩)⟩)
  have FD : Fix D := by rw [hD]; exact FC.i
  have dI : ∀ a f, a ≠ n0 → mI D a f = mI C a f := by intro a f ha; rw [hD, mI_wI, if_neg (fun z => ha z.1)]
  have d9 : mI D 15 9 = 0 := by rw [dI _ _ (by omega), hC, sq_9]
  have d12 : mI D 15 12 = 2 := by rw [dI _ _ (by omega), hC, sq_12]
  have d13 : mI D 15 13 = 0 := by rw [dI _ _ (by omega), hC, sq_13]
  have dR : mR D = mR B := by rw [hD, mR_wI, hC, sq_R]
  have dk : ∀ a c, ok B a c → ok D a c := by intro a c q; rw [hD, ok_wI, hC, sq_ok]; exact q
  have dN : mN D = n0 + 25 := by rw [hD, mN_wI, hC, sq_N, bD]
  have dS : mS D = mS M3 := by rw [hD, mS_wI, hC, sq_S, bE]
  have d7 : mI D (n0 + 7) 2 = 0 := by rw [dI _ _ (by omega), hC, sq_I (by omega) (by omega)]; exact bB
  have d29 : mI D 29 = mI M 29 := by funext j; rw [dI _ _ (by omega), hC, sq_I (by decide) (by decide), bC]
  refine ⟨15, rf14_0 FD, ok15 FD, fun hc => absurd (d9 ▸ hc) (by decide), fun _ => ⟨15, rf14_0 FD, ok15 FD, S_failV FD (fun X hX FX _ => ⟨rfl, ?_⟩)⟩⟩
  have hX : X = wI D 15 9 0 := by rw [hX]; unfold failF; rw [if_neg (by rw [d12]; decide)]
  have x1 : mR X 14 7 = some n0 := by rw [hX, mR_wI, dR]; exact b7
  have x2 : ok X n0 3 := by rw [hX, ok_wI]; exact dk _ _ b8
  have x3 : mR X n0 6 = some (n0 + 7) := by rw [hX, mR_wI, dR]; exact b9
  have x4 : ok X (n0 + 7) 1 := by rw [hX, ok_wI]; exact dk _ _ bA
  have x5 : mI X (n0 + 7) 2 = 0 := by rw [hX, mI_wI, if_neg (by omega)]; exact d7
  have x6 : mI X 15 12 = 2 := by rw [hX, mI_wI, if_neg (by decide)]; exact d12
  have x7 : mI X 15 13 = 0 := by rw [hX, mI_wI, if_neg (by decide)]; exact d13
  have x8 : mI X 29 = mI M 29 := by funext j; rw [hX, mI_wI, if_neg (by omega), d29]
  have x9 : mN X = n0 + 25 := by rw [hX, mN_wI, dN]
  have xA : mS X ≤ mS M + 1000 := by rw [hX, mS_wI, dS]; exact s3
  refine ⟨ok14 FX, k0_late FX x1 x2 x3 x4 x5 (fun _ => ⟨rfl, n0, x1, 4, rf14_1 FX, ok4 FX, x2, fun Y hY => ?_⟩)⟩
  have FY : Fix Y := by rw [hY]; exact FX.i
  have y12 : mI Y 15 12 = 2 := by rw [hY, mI_wI, if_neg (by omega), x6]
  refine ⟨15, rf14_0 FY, ok15 FY, fun _ => H Y ⟨FY, ?_, ?_, ?_⟩ y12 ?_, fun hc => absurd (y12 ▸ hc) (by decide)⟩
  · funext j; rw [hY, mI_wI, if_neg (by omega), x8]
  · rw [hY, hn0, mN_wI, x9]
  · rw [hY, mS_wI]; exact xA
  · rw [hY, mI_wI, if_neg (by omega), x7]
