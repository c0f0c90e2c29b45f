/-! p1: one call on fresh objects -/
def Fsh (M : Mem) : Prop := Fix M ∧ mN M = 132 ∧ mS M ≤ 150000 ∧ mI M 0 1 = 0 ∧ mI M 2 2 = 0 ∧ mI M 3 2 = 0 ∧ mI M 0 6 = 0 ∧ mI M 0 7 = -1 ∧ mI M 0 8 = -1 ∧ mR M 2 1 = some (mBig + 5) ∧ mR M 3 1 = some (mBig + 5) ∧ mI M 29 1 = 0 ∧ mI M 29 18 = 0 ∧ mI M 29 91 = 0 ∧ mI M 29 6 = 0 ∧ mI M 29 123 = -1 ∧ mI M 29 124 = -1
set_option maxRecDepth 8000 in
theorem fsh_H : mI mH0 0 1 = 0 ∧ mI mH0 2 2 = 0 ∧ mI mH0 3 2 = 0 ∧ mI mH0 0 6 = 0 ∧ mI mH0 0 7 = -1 ∧ mI mH0 0 8 = -1 ∧ mR mH0 2 1 = some (mBig + 5) ∧ mR mH0 3 1 = some (mBig + 5) := by decide +kernel
theorem Fsh_of {M : Mem} (h : Start M) : Fsh M := by
  obtain ⟨F, h1, h2, h3, h4, -⟩ := h
  obtain ⟨a1, a2, a3, a4, a5, a6, a7, a8⟩ := fsh_H
  have s0 := h3 0 (by decide)
  have s2 := h3 2 (by decide)
  have s3 := h3 3 (by decide)
  refine ⟨F, h1, h2, ?_, ?_, ?_, ?_, ?_, ?_, ?_, ?_, ?_, ?_, ?_, ?_, ?_, ?_⟩
  · rw [s0.1]; exact a1
  · rw [s2.1]; exact a2
  · rw [s3.1]; exact a3
  · rw [s0.1]; exact a4
  · rw [s0.1]; exact a5
  · rw [s0.1]; exact a6
  · rw [s2.2.2.1]; exact a7
  · rw [s3.2.2.1]; exact a8
  all_goals (rw [h4]; rfl)
def Bnd (M : Mem) : Prop := Fix M ∧ mN M ≤ 600000 ∧ mS M ≤ 7302250
theorem Fsh.b {M : Mem} (h : Fsh M) : Bnd M := ⟨h.1, by have := h.2.1; omega, by have := h.2.2.1; omega⟩
theorem ap4_o {M : Mem} {v : Int32} : mN (ap4 M v) = mN M ∧ mS (ap4 M v) = mS M ∧ mI (ap4 M v) 29 1 = mI M 29 1 := by
  refine ⟨?_, ?_, ?_⟩ <;> simp [ap4, ap1, mNwI, mSwI, mKwI, mIwI, mJwI, mRwI, mLwI, mAIwI, mAJwI, mARwI, mNwJ, mSwJ, mKwJ, mIwJ, mJwJ, mRwJ, mLwJ, mAIwJ, mAJwJ, mARwJ, mNwR, mSwR, mKwR, mIwR, mJwR, mRwR, mLwR, mAIwR, mAJwR, mARwR, mNwAI, mSwAI, mKwAI, mIwAI, mJwAI, mRwAI, mLwAI, mAIwAI, mAJwAI, mARwAI, mNwAJ, mSwAJ, mKwAJ, mIwAJ, mJwAJ, mRwAJ, mLwAJ, mAIwAJ, mAJwAJ, mARwAJ, mNwAR, mSwAR, mKwAR, mIwAR, mJwAR, mRwAR, mLwAR, mAIwAR, mAJwAR, mARwAR, okkwI, okkwJ, okkwR, okkwAI, okkwAJ, okkwAR]
theorem pu4_o {M : Mem} {v : Int32} : mN (pu4 M v) = mN M ∧ mS (pu4 M v) = mS M := by
  refine ⟨?_, ?_⟩ <;> simp [pu4, pu1, mNwI, mSwI, mKwI, mIwI, mJwI, mRwI, mLwI, mAIwI, mAJwI, mARwI, mNwJ, mSwJ, mKwJ, mIwJ, mJwJ, mRwJ, mLwJ, mAIwJ, mAJwJ, mARwJ, mNwR, mSwR, mKwR, mIwR, mJwR, mRwR, mLwR, mAIwR, mAJwR, mARwR, mNwAI, mSwAI, mKwAI, mIwAI, mJwAI, mRwAI, mLwAI, mAIwAI, mAJwAI, mARwAI, mNwAJ, mSwAJ, mKwAJ, mIwAJ, mJwAJ, mRwAJ, mLwAJ, mAIwAJ, mAJwAJ, mARwAJ, mNwAR, mSwAR, mKwAR, mIwAR, mJwAR, mRwAR, mLwAR, mAIwAR, mAJwAR, mARwAR, okkwI, okkwJ, okkwR, okkwAI, okkwAJ, okkwAR]
theorem S_clearM0 {h : Nat} {M : Mem} {Q : Option Value → Mem → Prop} (F : Fix M) (h2 : mI M 2 2 = 0) (h3 : mI M 3 2 = 0) (r2 : mR M 2 1 = some (mBig + 5)) (r3 : mR M 3 1 = some (mBig + 5)) (H : ∀ M' : Mem, Fix M' → mN M' = mN M → mS M' = mS M → mI M' 29 = mI M 29 → Q (some (.int 0)) M') : E (h + 2) mdX10_clear [.ref 0] M Q := by
  refine KX10_clear ?_
  unfold DX10_clear_0
  refine ⟨ok0 F, 2, rf0_2 F, ok2 F, S_size (ok2 F) (fun _ => ⟨_, rfl, 2, rf0_2 F, ok2 F, S_clear0 (ok2 F) r2 h2 ?_⟩)⟩
  have F2 : Fix (wI (wI M 2 0 (mI M 2 0 + 1)) 2 2 0) := F.i.i
  generalize e : wI (wI M 2 0 (mI M 2 0 + 1)) 2 2 0 = N at F2
  have n2 : mI N 3 2 = 0 := by rw [← e]; simp [h3, mNwI, mSwI, mKwI, mIwI, mJwI, mRwI, mLwI, mAIwI, mAJwI, mARwI, mNwJ, mSwJ, mKwJ, mIwJ, mJwJ, mRwJ, mLwJ, mAIwJ, mAJwJ, mARwJ, mNwR, mSwR, mKwR, mIwR, mJwR, mRwR, mLwR, mAIwR, mAJwR, mARwR, mNwAI, mSwAI, mKwAI, mIwAI, mJwAI, mRwAI, mLwAI, mAIwAI, mAJwAI, mARwAI, mNwAJ, mSwAJ, mKwAJ, mIwAJ, mJwAJ, mRwAJ, mLwAJ, mAIwAJ, mAJwAJ, mARwAJ, mNwAR, mSwAR, mKwAR, mIwAR, mJwAR, mRwAR, mLwAR, mAIwAR, mAJwAR, mARwAR, okkwI, okkwJ, okkwR, okkwAI, okkwAJ, okkwAR]
  have n3 : mR N 3 1 = some (mBig + 5) := by rw [← e]; simp [r3, mNwI, mSwI, mKwI, mIwI, mJwI, mRwI, mLwI, mAIwI, mAJwI, mARwI, mNwJ, mSwJ, mKwJ, mIwJ, mJwJ, mRwJ, mLwJ, mAIwJ, mAJwJ, mARwJ, mNwR, mSwR, mKwR, mIwR, mJwR, mRwR, mLwR, mAIwR, mAJwR, mARwR, mNwAI, mSwAI, mKwAI, mIwAI, mJwAI, mRwAI, mLwAI, mAIwAI, mAJwAI, mARwAI, mNwAJ, mSwAJ, mKwAJ, mIwAJ, mJwAJ, mRwAJ, mLwAJ, mAIwAJ, mAJwAJ, mARwAJ, mNwAR, mSwAR, mKwAR, mIwAR, mJwAR, mRwAR, mLwAR, mAIwAR, mAJwAR, mARwAR, okkwI, okkwJ, okkwR, okkwAI, okkwAJ, okkwAR]
  have n4 : mN N = mN M := by rw [← e]; simp [mNwI, mSwI, mKwI, mIwI, mJwI, mRwI, mLwI, mAIwI, mAJwI, mARwI, mNwJ, mSwJ, mKwJ, mIwJ, mJwJ, mRwJ, mLwJ, mAIwJ, mAJwJ, mARwJ, mNwR, mSwR, mKwR, mIwR, mJwR, mRwR, mLwR, mAIwR, mAJwR, mARwR, mNwAI, mSwAI, mKwAI, mIwAI, mJwAI, mRwAI, mLwAI, mAIwAI, mAJwAI, mARwAI, mNwAJ, mSwAJ, mKwAJ, mIwAJ, mJwAJ, mRwAJ, mLwAJ, mAIwAJ, mAJwAJ, mARwAJ, mNwAR, mSwAR, mKwAR, mIwAR, mJwAR, mRwAR, mLwAR, mAIwAR, mAJwAR, mARwAR, okkwI, okkwJ, okkwR, okkwAI, okkwAJ, okkwAR]
  have n5 : mS N = mS M := by rw [← e]; simp [mNwI, mSwI, mKwI, mIwI, mJwI, mRwI, mLwI, mAIwI, mAJwI, mARwI, mNwJ, mSwJ, mKwJ, mIwJ, mJwJ, mRwJ, mLwJ, mAIwJ, mAJwJ, mARwJ, mNwR, mSwR, mKwR, mIwR, mJwR, mRwR, mLwR, mAIwR, mAJwR, mARwR, mNwAI, mSwAI, mKwAI, mIwAI, mJwAI, mRwAI, mLwAI, mAIwAI, mAJwAI, mARwAI, mNwAJ, mSwAJ, mKwAJ, mIwAJ, mJwAJ, mRwAJ, mLwAJ, mAIwAJ, mAJwAJ, mARwAJ, mNwAR, mSwAR, mKwAR, mIwAR, mJwAR, mRwAR, mLwAR, mAIwAR, mAJwAR, mARwAR, okkwI, okkwJ, okkwR, okkwAI, okkwAJ, okkwAR]
  have n6 : mI N 29 = mI M 29 := by rw [← e]; funext j; simp [mNwI, mSwI, mKwI, mIwI, mJwI, mRwI, mLwI, mAIwI, mAJwI, mARwI, mNwJ, mSwJ, mKwJ, mIwJ, mJwJ, mRwJ, mLwJ, mAIwJ, mAJwJ, mARwJ, mNwR, mSwR, mKwR, mIwR, mJwR, mRwR, mLwR, mAIwR, mAJwR, mARwR, mNwAI, mSwAI, mKwAI, mIwAI, mJwAI, mRwAI, mLwAI, mAIwAI, mAJwAI, mARwAI, mNwAJ, mSwAJ, mKwAJ, mIwAJ, mJwAJ, mRwAJ, mLwAJ, mAIwAJ, mAJwAJ, mARwAJ, mNwAR, mSwAR, mKwAR, mIwAR, mJwAR, mRwAR, mLwAR, mAIwAR, mAJwAR, mARwAR, okkwI, okkwJ, okkwR, okkwAI, okkwAJ, okkwAR]
  refine fun _ => ⟨rfl, 3, rf0_3 F2, ok3 F2, S_clear0 (ok3 F2) n3 n2 (fun _ => ⟨rfl, ?_⟩)⟩
  rw [h2]
  exact H _ F2.i.i (by simp [n4, mNwI, mSwI, mKwI, mIwI, mJwI, mRwI, mLwI, mAIwI, mAJwI, mARwI, mNwJ, mSwJ, mKwJ, mIwJ, mJwJ, mRwJ, mLwJ, mAIwJ, mAJwJ, mARwJ, mNwR, mSwR, mKwR, mIwR, mJwR, mRwR, mLwR, mAIwR, mAJwR, mARwR, mNwAI, mSwAI, mKwAI, mIwAI, mJwAI, mRwAI, mLwAI, mAIwAI, mAJwAI, mARwAI, mNwAJ, mSwAJ, mKwAJ, mIwAJ, mJwAJ, mRwAJ, mLwAJ, mAIwAJ, mAJwAJ, mARwAJ, mNwAR, mSwAR, mKwAR, mIwAR, mJwAR, mRwAR, mLwAR, mAIwAR, mAJwAR, mARwAR, okkwI, okkwJ, okkwR, okkwAI, okkwAJ, okkwAR]) (by simp [n5, mNwI, mSwI, mKwI, mIwI, mJwI, mRwI, mLwI, mAIwI, mAJwI, mARwI, mNwJ, mSwJ, mKwJ, mIwJ, mJwJ, mRwJ, mLwJ, mAIwJ, mAJwJ, mARwJ, mNwR, mSwR, mKwR, mIwR, mJwR, mRwR, mLwR, mAIwR, mAJwR, mARwR, mNwAI, mSwAI, mKwAI, mIwAI, mJwAI, mRwAI, mLwAI, mAIwAI, mAJwAI, mARwAI, mNwAJ, mSwAJ, mKwAJ, mIwAJ, mJwAJ, mRwAJ, mLwAJ, mAIwAJ, mAJwAJ, mARwAJ, mNwAR, mSwAR, mKwAR, mIwAR, mJwAR, mRwAR, mLwAR, mAIwAR, mAJwAR, mARwAR, okkwI, okkwJ, okkwR, okkwAI, okkwAJ, okkwAR]) (by funext j; simp [n6, mNwI, mSwI, mKwI, mIwI, mJwI, mRwI, mLwI, mAIwI, mAJwI, mARwI, mNwJ, mSwJ, mKwJ, mIwJ, mJwJ, mRwJ, mLwJ, mAIwJ, mAJwJ, mARwJ, mNwR, mSwR, mKwR, mIwR, mJwR, mRwR, mLwR, mAIwR, mAJwR, mARwR, mNwAI, mSwAI, mKwAI, mIwAI, mJwAI, mRwAI, mLwAI, mAIwAI, mAJwAI, mARwAI, mNwAJ, mSwAJ, mKwAJ, mIwAJ, mJwAJ, mRwAJ, mLwAJ, mAIwAJ, mAJwAJ, mARwAJ, mNwAR, mSwAR, mKwAR, mIwAR, mJwAR, mRwAR, mLwAR, mAIwAR, mAJwAR, mARwAR, okkwI, okkwJ, okkwR, okkwAI, okkwAJ, okkwAR])
theorem p1_step {h : Nat} {M : Mem} (hM : Fsh M) : Step (h + 20) M Bnd := by
  have hb := hM.b
  obtain ⟨F, hn, hs, t0, m0, g0, f0, a7, a8, r2, r3, t1, m1, g1, f1, b7, b8⟩ := hM
  refine ⟨?_, ?_, ?_, ?_, ?_, ?_, ?_, ?_, ?_, ?_, ?_, ?_, ?_, ?_, ?_, ?_, ?_, ?_, ?_, ?_, ?_, ?_, ?_, ?_, ?_, ?_, ?_⟩
  · intro a b c d e
    refine S_feed (t := 0) F t0 (by decide) (fun _ => ⟨_, rfl, ?_⟩) (fun hc => absurd (by decide) hc)
    have FA : Fix (ap20 M a b c d e) := F.p4.p4.p4.p4.p4
    have i1 : mI (ap20 M a b c d e) 29 1 = 0 := by unfold ap20; rw [ap4_o.2.2, ap4_o.2.2, ap4_o.2.2, ap4_o.2.2, ap4_o.2.2, t1]
    refine R_feed (t := 0) FA i1 (by decide) (fun _ => ⟨rfl, FA.u4.u4.u4.u4.u4, ?_, ?_⟩) (fun hc => absurd (by decide) hc)
    · unfold pu20 ap20; rw [pu4_o.1, pu4_o.1, pu4_o.1, pu4_o.1, pu4_o.1, ap4_o.1, ap4_o.1, ap4_o.1, ap4_o.1, ap4_o.1]; exact hb.2.1
    · unfold pu20 ap20; rw [pu4_o.2, pu4_o.2, pu4_o.2, pu4_o.2, pu4_o.2, ap4_o.2.1, ap4_o.2.1, ap4_o.2.1, ap4_o.2.1, ap4_o.2.1]; exact hb.2.2
  · intro a
    refine S_end F (fun h1 h2 => ⟨_, rfl, ?_⟩) (fun hc => ⟨_, rfl, ?_⟩)
    · have i1 : mI (wI M 0 1 a) 29 1 = 0 := by simp [t1, mNwI, mSwI, mKwI, mIwI, mJwI, mRwI, mLwI, mAIwI, mAJwI, mARwI, mNwJ, mSwJ, mKwJ, mIwJ, mJwJ, mRwJ, mLwJ, mAIwJ, mAJwJ, mARwJ, mNwR, mSwR, mKwR, mIwR, mJwR, mRwR, mLwR, mAIwR, mAJwR, mARwR, mNwAI, mSwAI, mKwAI, mIwAI, mJwAI, mRwAI, mLwAI, mAIwAI, mAJwAI, mARwAI, mNwAJ, mSwAJ, mKwAJ, mIwAJ, mJwAJ, mRwAJ, mLwAJ, mAIwAJ, mAJwAJ, mARwAJ, mNwAR, mSwAR, mKwAR, mIwAR, mJwAR, mRwAR, mLwAR, mAIwAR, mAJwAR, mARwAR, okkwI, okkwJ, okkwR, okkwAI, okkwAJ, okkwAR]
      refine R_end F.i (fun _ _ => ⟨by rw [i1, t0], F.i.i, hb.2⟩) (fun hc => ?_)
      rw [i1] at hc
      rw [t0] at h2
      rcases hc with hc | hc
      · exact absurd hc h1
      · exact absurd h2 hc
    · refine R_end F (fun h1 h2 => ?_) (fun _ => ⟨rfl, hb⟩)
      rw [t1] at h2
      rw [t0] at hc
      rcases hc with hc | hc
      · exact absurd hc h1
      · exact absurd h2 hc
  · refine k0_compile F m0 t0 (fun M' g => ⟨_, rfl, q0_compile g.1 (by rw [g.2.1]; exact m1) (by rw [g.2.1]; exact t1) (fun M'' F'' e1 e2 => ⟨rfl, F'', ?_, ?_⟩)⟩)
    · rw [e1, g.2.2.1, hn]; decide
    · rw [e2]; have := g.2.2.2; omega
  · exact S_fault F ⟨_, rfl, R_fault F ⟨by rw [f0, f1], hb⟩⟩
  · intro a b; exact c0_module F m0 ⟨_, rfl, r0_module F m1 ⟨rfl, hb⟩⟩
  · intro a b; exact c0_part F m0 ⟨_, rfl, r0_part F m1 ⟨rfl, hb⟩⟩
  · intro a; exact c0_governor F m0 ⟨_, rfl, r0_governor F m1 ⟨rfl, hb⟩⟩
  · intro a b c d; exact c0_give F g0 ⟨_, rfl, r0_give F g1 ⟨rfl, hb⟩⟩
  · intro a; exact c0_beat F g0 ⟨_, rfl, r0_beat F g1 ⟨rfl, hb⟩⟩
  · intro a b; exact c0_present F g0 ⟨_, rfl, r0_present F g1 ⟨rfl, hb⟩⟩
  · intro a b; exact c0_value F g0 ⟨_, rfl, r0_value F g1 ⟨rfl, hb⟩⟩
  · intro a b; exact c0_variable F g0 ⟨_, rfl, r0_variable F g1 ⟨rfl, hb⟩⟩
  · intro a b c; exact c0_wire F g0 ⟨_, rfl, r0_wire F g1 ⟨rfl, hb⟩⟩
  · intro a b; exact c0_told F g0 ⟨_, rfl, r0_told F g1 ⟨rfl, hb⟩⟩
  · intro a b; exact c0_paused F g0 ⟨_, rfl, r0_paused F g1 ⟨rfl, hb⟩⟩
  · intro a; exact c0_keep F g0 ⟨_, rfl, r0_keep F g1 ⟨rfl, hb⟩⟩
  · intro a; exact c0_back F g0 ⟨_, rfl, r0_back F g1 ⟨rfl, hb⟩⟩
  · intro a b; exact c0_same F g0 ⟨_, rfl, r0_same F g1 ⟨rfl, hb⟩⟩
  · intro a; exact c0_search F m0 ⟨_, rfl, r0_search F m1 ⟨rfl, hb⟩⟩
  · intro a b c d; exact c0_move F m0 ⟨_, rfl, r0_move F m1 ⟨rfl, hb⟩⟩
  · intro a b; exact c0_classOf F m0 ⟨_, rfl, r0_classOf F m1 ⟨rfl, hb⟩⟩
  · intro a b c; exact c0_way F m0 ⟨_, rfl, r0_way F m1 ⟨rfl, hb⟩⟩
  · intro a b; exact c0_never F m0 ⟨_, rfl, r0_never F m1 ⟨rfl, hb⟩⟩
  · intro a b c; exact c0_always F m0 ⟨_, rfl, r0_always F m1 ⟨rfl, hb⟩⟩
  · intro a; exact S_against F ⟨_, rfl, R_against F ⟨by rw [a7, a8, b7, b8], hb⟩⟩
  · intro a; exact S_count F ⟨_, rfl, R_count F ⟨by rw [m0, g0, t0, m1, g1, t1], hb⟩⟩
  · refine S_clearM0 F m0 g0 r2 r3 (fun M' F' e1 e2 e3 => ⟨_, rfl, R_clear F' ⟨by rw [e3, m1], F'.i.i, ?_, ?_⟩⟩)
    · rw [mN_wI, mN_wI, e1]; exact hb.2.1
    · rw [mS_wI, mS_wI, e2]; exact hb.2.2
def I1 (k : Nat) (M : Mem) : Prop := if k = 0 then Fsh M else Bnd M
theorem p1_walk {L : Nat} {xs : Nat → Int32} (hL : L ≤ 6) : T 700 (mdL L xs) 0 [(0, .ref (mBig + 0))] [] mem0 (fun r M' => r = some (.int 1) ∧ mN M' ≤ 600000 ∧ mS M' ≤ 7302250) := by
  refine law_start (h := 691) (fun M hM => ?_)
  have hb : ∀ k M, I1 k M → Bnd M := fun k M h => by
    unfold I1 at h
    by_cases hk : k = 0
    · rw [if_pos hk] at h; exact h.b
    · rw [if_neg hk] at h; exact h
  refine law_all (h := 699) (I := I1) (by omega) (fun k M h => (hb k M h).1) (fun k M h => ⟨rfl, (hb k M h).2⟩) (fun k M hk h => ?_) L 0 M (by omega) (by omega) (Fsh_of hM)
  have hk : k = 0 := by omega
  subst hk
  have hf : Fsh M := h
  exact ⟨p1_step (h := 679) hf, hf.b⟩
