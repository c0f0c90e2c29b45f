/-! the reference reads what the text tells -/
def RT (b : Nat → Int32) (n s m : Nat) (τ : Td) (M : Mem) (i : Nat) : Prop := CoR b n s m τ.1 τ.2.1 τ.2.2.1 τ.2.2.2.1 M ∧ (n ≤ 800 ∧ s ≤ n ∧ i ≤ s) ∧ mI M 29 5 = Int32.ofNat i ∧ mI M 29 6 = 0 ∧ (mAI M 35 m = Int32.ofNat (inL τ.2.1).length ∧ (inL τ.2.1).length ≤ 4 ∧ ∀ j, j < (inL τ.2.1).length → mAI M 41 (4 * m + j) = Int32.ofNat ((inL τ.2.1).getD j 0)) ∧ (τ.2.2.2.2.length = τ.2.2.2.1.length ∧ ∀ k, k < τ.2.2.2.1.length → mAJ M 43 (6 * m + k) = τ.2.2.2.2.getD k 0) ∧ (∀ k, k < τ.1.length → mAI M 40 (16 * m + k) = 0)
abbrev RGt (m : Nat) (M M' : Mem) : Prop := RG m [5, 6, 7] [34, 35, 36, 38, 39, 40, 41] [37, 42, 43] M M'
section
variable {b : Nat → Int32} {n s m : Nat} {τ : Td} {M M' : Mem} {i h : Nat} {Q : Option Value → Mem → Prop}
theorem RT.tk (hR : RT b n s m τ M i) (hB : By b) : Tk b n M i := ⟨hR.1.1, hB, hR.1.2.1 i hR.2.1.2.2, hR.2.2.1, by have := hR.2.1; omega⟩
theorem RT.at (hR : RT b n s m τ M i) {j : Nat} (hj : j ≤ s) : RT b n s m τ (wI M 29 5 (Int32.ofNat j)) j := by
  obtain ⟨⟨F, h1, e1, e2, e3, e4, e5, e6, e7, e8, e9⟩, h2, h3, h4, h5, h6, h7⟩ := hR
  exact ⟨⟨F.i, h1, by simp [e1, mNwI, mSwI, mKwI, mIwI, mJwI, mRwI, mLwI, mAIwI, mAJwI, mARwI, mNwJ, mSwJ, mKwJ, mIwJ, mJwJ, mRwJ, mLwJ, mAIwJ, mAJwJ, mARwJ, mNwR, mSwR, mKwR, mIwR, mJwR, mRwR, mLwR, mAIwR, mAJwR, mARwR, mNwAI, mSwAI, mKwAI, mIwAI, mJwAI, mRwAI, mLwAI, mAIwAI, mAJwAI, mARwAI, mNwAJ, mSwAJ, mKwAJ, mIwAJ, mJwAJ, mRwAJ, mLwAJ, mAIwAJ, mAJwAJ, mARwAJ, mNwAR, mSwAR, mKwAR, mIwAR, mJwAR, mRwAR, mLwAR, mAIwAR, mAJwAR, mARwAR, okkwI, okkwJ, okkwR, okkwAI, okkwAJ, okkwAR], e2, e3, e4, e5, e6, e7, e8, e9⟩, ⟨h2.1, h2.2.1, hj⟩, by simp [mNwI, mSwI, mKwI, mIwI, mJwI, mRwI, mLwI, mAIwI, mAJwI, mARwI, mNwJ, mSwJ, mKwJ, mIwJ, mJwJ, mRwJ, mLwJ, mAIwJ, mAJwJ, mARwJ, mNwR, mSwR, mKwR, mIwR, mJwR, mRwR, mLwR, mAIwR, mAJwR, mARwR, mNwAI, mSwAI, mKwAI, mIwAI, mJwAI, mRwAI, mLwAI, mAIwAI, mAJwAI, mARwAI, mNwAJ, mSwAJ, mKwAJ, mIwAJ, mJwAJ, mRwAJ, mLwAJ, mAIwAJ, mAJwAJ, mARwAJ, mNwAR, mSwAR, mKwAR, mIwAR, mJwAR, mRwAR, mLwAR, mAIwAR, mAJwAR, mARwAR, okkwI, okkwJ, okkwR, okkwAI, okkwAJ, okkwAR], by simp [h4, mNwI, mSwI, mKwI, mIwI, mJwI, mRwI, mLwI, mAIwI, mAJwI, mARwI, mNwJ, mSwJ, mKwJ, mIwJ, mJwJ, mRwJ, mLwJ, mAIwJ, mAJwJ, mARwJ, mNwR, mSwR, mKwR, mIwR, mJwR, mRwR, mLwR, mAIwR, mAJwR, mARwR, mNwAI, mSwAI, mKwAI, mIwAI, mJwAI, mRwAI, mLwAI, mAIwAI, mAJwAI, mARwAI, mNwAJ, mSwAJ, mKwAJ, mIwAJ, mJwAJ, mRwAJ, mLwAJ, mAIwAJ, mAJwAJ, mARwAJ, mNwAR, mSwAR, mKwAR, mIwAR, mJwAR, mRwAR, mLwAR, mAIwAR, mAJwAR, mARwAR, okkwI, okkwJ, okkwR, okkwAI, okkwAJ, okkwAR], h5, h6, h7⟩
theorem TXf5 {m : Nat} {M : Mem} {i p : Nat} {c : Int32} (F : Fix M) (hc : 0 < c) : TXr (wI (wI (wI M 29 5 (Int32.ofNat i)) 29 6 c) 29 7 (Int32.ofNat p)) c p ∧ RGt m M (wI (wI (wI M 29 5 (Int32.ofNat i)) 29 6 c) 29 7 (Int32.ofNat p)) :=
  ⟨⟨F.i.i.i, by simp [mNwI, mSwI, mKwI, mIwI, mJwI, mRwI, mLwI, mAIwI, mAJwI, mARwI, mNwJ, mSwJ, mKwJ, mIwJ, mJwJ, mRwJ, mLwJ, mAIwJ, mAJwJ, mARwJ, mNwR, mSwR, mKwR, mIwR, mJwR, mRwR, mLwR, mAIwR, mAJwR, mARwR, mNwAI, mSwAI, mKwAI, mIwAI, mJwAI, mRwAI, mLwAI, mAIwAI, mAJwAI, mARwAI, mNwAJ, mSwAJ, mKwAJ, mIwAJ, mJwAJ, mRwAJ, mLwAJ, mAIwAJ, mAJwAJ, mARwAJ, mNwAR, mSwAR, mKwAR, mIwAR, mJwAR, mRwAR, mLwAR, mAIwAR, mAJwAR, mARwAR, okkwI, okkwJ, okkwR, okkwAI, okkwAJ, okkwAR], hc, by simp [mNwI, mSwI, mKwI, mIwI, mJwI, mRwI, mLwI, mAIwI, mAJwI, mARwI, mNwJ, mSwJ, mKwJ, mIwJ, mJwJ, mRwJ, mLwJ, mAIwJ, mAJwJ, mARwJ, mNwR, mSwR, mKwR, mIwR, mJwR, mRwR, mLwR, mAIwR, mAJwR, mARwR, mNwAI, mSwAI, mKwAI, mIwAI, mJwAI, mRwAI, mLwAI, mAIwAI, mAJwAI, mARwAI, mNwAJ, mSwAJ, mKwAJ, mIwAJ, mJwAJ, mRwAJ, mLwAJ, mAIwAJ, mAJwAJ, mARwAJ, mNwAR, mSwAR, mKwAR, mIwAR, mJwAR, mRwAR, mLwAR, mAIwAR, mAJwAR, mARwAR, okkwI, okkwJ, okkwR, okkwAI, okkwAJ, okkwAR]⟩, ((RG.i (by decide)).tr (RG.i (by decide))).tr (RG.i (by decide))⟩
theorem TXf6 {m : Nat} {M : Mem} {p : Nat} {c : Int32} (F : Fix M) (hc : 0 < c) : TXr (wI (wI M 29 6 c) 29 7 (Int32.ofNat p)) c p ∧ RGt m M (wI (wI M 29 6 c) 29 7 (Int32.ofNat p)) :=
  ⟨⟨F.i.i, by simp [mNwI, mSwI, mKwI, mIwI, mJwI, mRwI, mLwI, mAIwI, mAJwI, mARwI, mNwJ, mSwJ, mKwJ, mIwJ, mJwJ, mRwJ, mLwJ, mAIwJ, mAJwJ, mARwJ, mNwR, mSwR, mKwR, mIwR, mJwR, mRwR, mLwR, mAIwR, mAJwR, mARwR, mNwAI, mSwAI, mKwAI, mIwAI, mJwAI, mRwAI, mLwAI, mAIwAI, mAJwAI, mARwAI, mNwAJ, mSwAJ, mKwAJ, mIwAJ, mJwAJ, mRwAJ, mLwAJ, mAIwAJ, mAJwAJ, mARwAJ, mNwAR, mSwAR, mKwAR, mIwAR, mJwAR, mRwAR, mLwAR, mAIwAR, mAJwAR, mARwAR, okkwI, okkwJ, okkwR, okkwAI, okkwAJ, okkwAR], hc, by simp [mNwI, mSwI, mKwI, mIwI, mJwI, mRwI, mLwI, mAIwI, mAJwI, mARwI, mNwJ, mSwJ, mKwJ, mIwJ, mJwJ, mRwJ, mLwJ, mAIwJ, mAJwJ, mARwJ, mNwR, mSwR, mKwR, mIwR, mJwR, mRwR, mLwR, mAIwR, mAJwR, mARwR, mNwAI, mSwAI, mKwAI, mIwAI, mJwAI, mRwAI, mLwAI, mAIwAI, mAJwAI, mARwAI, mNwAJ, mSwAJ, mKwAJ, mIwAJ, mJwAJ, mRwAJ, mLwAJ, mAIwAJ, mAJwAJ, mARwAJ, mNwAR, mSwAR, mKwAR, mIwAR, mJwAR, mRwAR, mLwAR, mAIwAR, mAJwAR, mARwAR, okkwI, okkwJ, okkwR, okkwAI, okkwAJ, okkwAR]⟩, (RG.i (by decide)).tr (RG.i (by decide))⟩
theorem T_take (hR : RT b n s m τ M i) (hB : By b) (hs : i < s) (H1 : tK b n (i + 1) ≠ 0 → ∀ M', RT b n s m τ M' (i + 1) → RGt m M M' → Q none M') (H0 : tK b n (i + 1) = 0 → ∀ M', TXr M' 1 (tP b n (i + 1)) → RGt m M M' → Q none M') : E (h + 2) mdX11_take [.ref 29] M Q :=
  K_take (hR.tk hB) hs hR.1.2.1 (by have := hR.2.1; omega) hR.2.2.2.1 (fun k1 => H1 k1 _ (hR.at hs) (RG.i (by decide))) (fun k1 => H0 k1 _ (TXf5 (m := m) hR.1.1 (by decide)).1 (TXf5 hR.1.1 (by decide)).2)
theorem T_fails {c : Int32} (hR : RT b n s m τ M i) (hB : By b) (hc : 0 < c) (H : ∀ M', TXr M' c (tP b n i) → RGt m M M' → Q none M') : E (h + 1) mdX11_fails [.ref 29, .int c, .int (mAI M 32 i)] M Q :=
  K_fails (hR.tk hB) hR.2.2.2.1 hc (fun M' e T' => H M' T' (by rw [e]; exact (TXf6 hR.1.1 hc).2))
theorem X_want {f : Int32} {p : Nat} {x1 : Int32} {x2 : Int64} (hT : TXr M f p) (H : Q none M) : E (h + 1) mdX11_want [.ref 29, .int x1, .long x2] M Q := by
  refine KX11_want ?_
  unfold DX11_want_0 DX11_want_37
  have n0 : ¬ mI M 29 6 = 0 := by rw [hT.2.1]; intro z; have := hT.2.2.1; rw [z] at this; exact absurd this (by decide)
  exact ⟨ok29 hT.1, fun _ => H, fun z => absurd z n0⟩
def EndX (b : Nat → Int32) (n s m : Nat) (τ : Td) (M : Mem) (Q : Option Value → Mem → Prop) (R : Except (Int32 × Nat) Nat) : Prop := match R with
  | .ok j => ∀ M', RT b n s m τ M' j → RGt m M M' → Q none M'
  | .error e => ∀ M', TXr M' e.1 e.2 → RGt m M M' → Q none M'
theorem T_want {k : Int32} {v : Int64} (hR : RT b n s m τ M i) (hB : By b) (hS : Sto b n s) (h0 : tK b n i ≠ 0) (hk : k ∈ sKs) (hv : v = sv k) (hE : EndX b n s m τ M Q (ex b n i k)) : E (h + 3) mdX11_want [.ref 29, .int 3, .long v] M Q := by
  have F := hR.1.1
  have tk := hR.tk hB
  unfold ex at hE
  refine KX11_want ?_
  unfold DX11_want_0 DX11_want_37
  refine ⟨ok29 F, fun z => absurd hR.2.2.2.1 z, fun _ => K_sign tk hk hv (fun q _ => ⟨_, rfl, fun z => absurd z (by decide), fun _ => ?_⟩) (fun q _ => ⟨_, rfl, fun _ => ?_, fun z => absurd rfl z⟩)⟩
  · rw [if_pos q] at hE
    have hs := hS.lt hR.2.1.2.2 h0 (by rw [q]; exact (sK_ne k hk).2.1)
    refine T_take hR hB hs (fun k1 M' R' F' _ => ⟨rfl, ?_⟩) (fun k1 M' T' F' _ => ⟨rfl, ?_⟩)
    · rw [adv_ok' k1] at hE; exact hE M' R' F'
    · rw [adv_er' k1] at hE; exact hE M' T' F'
  · rw [if_neg q] at hE
    rw [hR.2.2.1, lt32 (by have := hR.2.1; omega)]
    exact ⟨32, rf29_3 F, ok32 F, by rw [ln32 F]; exact vp_of (by have := hR.2.1; omega) (by decide), T_fails hR hB (by decide) (fun M' T' F' _ => ⟨rfl, hE M' T' F'⟩)⟩
theorem sp0 : vp_nar .boolean (0 : Int32) = 0 := by decide
theorem kn32 : ∀ r : Int32, r = 30 ∨ r = 31 ∨ r = 32 → (r - 30 = 0 ↔ r = 30) ∧ r - 30 ≠ 3 ∧ (r - 30 = 0 ∨ r - 30 = 1 ∨ r - 30 = 2) := by
  rintro r (rfl | rfl | rfl) <;> decide
set_option maxHeartbeats 2000000 in
/-- a new signal: the name is put down -/
theorem T_sig {r : Int32} (hR : RT b n s m τ M i) (hB : By b) (hr : r = 30 ∨ r = 31 ∨ r = 32) (hk : tK b n i = 2) (hL : τ.1.length < 16) (hI : r = 30 → (inL τ.2.1).length < 4) (H : ∀ M', RT b n s m (τ.1 ++ [tC b n i], τ.2.1 ++ [r], τ.2.2.1 ++ [0], τ.2.2.2.1, τ.2.2.2.2) M' i → RGt m M M' → Q none M') : DX11_readName_140 h 29 (r - 30) (mAJ M 33 i) M Q := by
  have tk := hR.tk hB
  have nm := tk.nm hk
  obtain ⟨⟨F, h1, e1, e2, e3, e4, e5, e6, e7, e8, e9⟩, h2, h3, h4, h5, h6, h7⟩ := hR
  obtain ⟨k30, kn3, -⟩ := kn32 r hr
  unfold DX11_readName_140 DX11_readName_305 DX11_readName_318
  have ek : (16 : Int32) * Int32.ofNat m + Int32.ofNat τ.1.length = Int32.ofNat (16 * m + τ.1.length) := by
    rw [show (16 : Int32) = Int32.ofNat 16 from rfl, mul32, add32]
  have e4k : (4 : Int32) * Int32.ofNat m + Int32.ofNat (inL τ.2.1).length = Int32.ofNat (4 * m + (inL τ.2.1).length) := by
    rw [show (4 : Int32) = Int32.ofNat 4 from rfl, mul32, add32]
  refine ⟨fun _ => ?_, fun z => absurd z kn3⟩
  rw [e1, lt32 (by omega)]
  refine ⟨ok29 F, 34, rf29_8 F, ok34 F, by rw [ln34 F]; exact vp_of e2 (by decide), ?_⟩
  rw [e4, ek, lt32 (by omega)]
  refine ⟨37, rf29_11 F, ok37 F, by rw [ln37 F]; exact vp_of (by omega) (by decide), fun A a => ?_⟩
  have FA : Fix A := by rw [a]; exact F.aj (by decide)
  refine ⟨38, rf29_12 FA, ok38 FA, by rw [ln38 FA]; exact vp_of (by omega) (by decide), fun B bb => ?_⟩
  have FB : Fix B := by rw [bb]; exact FA.ai
  refine ⟨39, rf29_13 FB, ok39 FB, by rw [ln39 FB]; exact vp_of (by omega) (by decide), fun C c => ?_⟩
  have FC : Fix C := by rw [c]; exact FB.ai
  refine ⟨40, rf29_14 FC, ok40 FC, by rw [ln40 FC]; exact vp_of (by omega) (by decide), fun D d => ?_⟩
  have FD : Fix D := by rw [d]; exact FC.ai
  rw [sp0] at d
  have eD : D = wAI (wAI (wAI (wAJ M 37 (16 * m + τ.1.length) (mAJ M 33 i)) 38 (16 * m + τ.1.length) (r - 30)) 39 (16 * m + τ.1.length) 0) 40 (16 * m + τ.1.length) 0 := by rw [d, c, bb, a]
  have fD : RGt m M D := by
    rw [eD]
    exact (((RG.aj (by decide) (by rw [show szA 37 = 16 by decide]; omega)).tr (RG.ai (by decide) (by rw [show szA 38 = 16 by decide]; omega))).tr (RG.ai (by decide) (by rw [show szA 39 = 16 by decide]; omega))).tr (RG.ai (by decide) (by rw [show szA 40 = 16 by decide]; omega))
  have i19 : mI D 29 19 = Int32.ofNat m := by rw [eD]; exact e1
  have a35 : mAI D 35 m = Int32.ofNat (inL τ.2.1).length := by rw [eD]; simp [h5.1, mNwI, mSwI, mKwI, mIwI, mJwI, mRwI, mLwI, mAIwI, mAJwI, mARwI, mNwJ, mSwJ, mKwJ, mIwJ, mJwJ, mRwJ, mLwJ, mAIwJ, mAJwJ, mARwJ, mNwR, mSwR, mKwR, mIwR, mJwR, mRwR, mLwR, mAIwR, mAJwR, mARwR, mNwAI, mSwAI, mKwAI, mIwAI, mJwAI, mRwAI, mLwAI, mAIwAI, mAJwAI, mARwAI, mNwAJ, mSwAJ, mKwAJ, mIwAJ, mJwAJ, mRwAJ, mLwAJ, mAIwAJ, mAJwAJ, mARwAJ, mNwAR, mSwAR, mKwAR, mIwAR, mJwAR, mRwAR, mLwAR, mAIwAR, mAJwAR, mARwAR, okkwI, okkwJ, okkwR, okkwAI, okkwAJ, okkwAR]
  have a34 : mAI D 34 m = Int32.ofNat τ.1.length := by rw [eD]; simp [e4, mNwI, mSwI, mKwI, mIwI, mJwI, mRwI, mLwI, mAIwI, mAJwI, mARwI, mNwJ, mSwJ, mKwJ, mIwJ, mJwJ, mRwJ, mLwJ, mAIwJ, mAJwJ, mARwJ, mNwR, mSwR, mKwR, mIwR, mJwR, mRwR, mLwR, mAIwR, mAJwR, mARwR, mNwAI, mSwAI, mKwAI, mIwAI, mJwAI, mRwAI, mLwAI, mAIwAI, mAJwAI, mARwAI, mNwAJ, mSwAJ, mKwAJ, mIwAJ, mJwAJ, mRwAJ, mLwAJ, mAIwAJ, mAJwAJ, mARwAJ, mNwAR, mSwAR, mKwAR, mIwAR, mJwAR, mRwAR, mLwAR, mAIwAR, mAJwAR, mARwAR, okkwI, okkwJ, okkwR, okkwAI, okkwAJ, okkwAR]
  -- the end: one signal more
  have fin : ∀ (D2 M' : Mem), Fix D2 → RGt m D D2 → mAI D2 34 m = Int32.ofNat τ.1.length → mAI D2 38 = mAI D 38 → mAI D2 39 = mAI D 39 → mAI D2 40 = mAI D 40 → mAI D2 36 = mAI D 36 → (mAI D2 35 m = Int32.ofNat (inL (τ.2.1 ++ [r])).length ∧ (inL (τ.2.1 ++ [r])).length ≤ 4 ∧ ∀ j, j < (inL (τ.2.1 ++ [r])).length → mAI D2 41 (4 * m + j) = Int32.ofNat ((inL (τ.2.1 ++ [r])).getD j 0)) → mAJ D2 = mAJ D → mI D2 = mI D → M' = wAI D2 34 m (Int32.ofNat (τ.1.length + 1)) → Q none M' := by
    intro D2 M' F2 f2 q34 q38 q39 q40 q36 q35 qJ qI eM
    have fM : RGt m M M' := by rw [eM]; exact (fD.tr f2).tr (RG.ai (by decide) (by rw [show szA 34 = 1 by decide]; omega))
    have r38 : mAI M' 38 = mAI D 38 := by rw [eM, mAI_wAI_ne (by decide)]; exact q38
    have r39 : mAI M' 39 = mAI D 39 := by rw [eM, mAI_wAI_ne (by decide)]; exact q39
    have r40 : mAI M' 40 = mAI D 40 := by rw [eM, mAI_wAI_ne (by decide)]; exact q40
    have rJ : mAJ M' = mAJ D := by rw [eM]; exact qJ
    have rI : mI M' = mI D := by rw [eM]; exact qI
    have c37 : ∀ k, mAJ D 37 k = if k = 16 * m + τ.1.length then mAJ M 33 i else mAJ M 37 k := by intro k; rw [eD]; simp [mNwI, mSwI, mKwI, mIwI, mJwI, mRwI, mLwI, mAIwI, mAJwI, mARwI, mNwJ, mSwJ, mKwJ, mIwJ, mJwJ, mRwJ, mLwJ, mAIwJ, mAJwJ, mARwJ, mNwR, mSwR, mKwR, mIwR, mJwR, mRwR, mLwR, mAIwR, mAJwR, mARwR, mNwAI, mSwAI, mKwAI, mIwAI, mJwAI, mRwAI, mLwAI, mAIwAI, mAJwAI, mARwAI, mNwAJ, mSwAJ, mKwAJ, mIwAJ, mJwAJ, mRwAJ, mLwAJ, mAIwAJ, mAJwAJ, mARwAJ, mNwAR, mSwAR, mKwAR, mIwAR, mJwAR, mRwAR, mLwAR, mAIwAR, mAJwAR, mARwAR, okkwI, okkwJ, okkwR, okkwAI, okkwAJ, okkwAR]
    have c38 : ∀ k, mAI D 38 k = if k = 16 * m + τ.1.length then r - 30 else mAI M 38 k := by intro k; rw [eD]; simp [mNwI, mSwI, mKwI, mIwI, mJwI, mRwI, mLwI, mAIwI, mAJwI, mARwI, mNwJ, mSwJ, mKwJ, mIwJ, mJwJ, mRwJ, mLwJ, mAIwJ, mAJwJ, mARwJ, mNwR, mSwR, mKwR, mIwR, mJwR, mRwR, mLwR, mAIwR, mAJwR, mARwR, mNwAI, mSwAI, mKwAI, mIwAI, mJwAI, mRwAI, mLwAI, mAIwAI, mAJwAI, mARwAI, mNwAJ, mSwAJ, mKwAJ, mIwAJ, mJwAJ, mRwAJ, mLwAJ, mAIwAJ, mAJwAJ, mARwAJ, mNwAR, mSwAR, mKwAR, mIwAR, mJwAR, mRwAR, mLwAR, mAIwAR, mAJwAR, mARwAR, okkwI, okkwJ, okkwR, okkwAI, okkwAJ, okkwAR]
    have c39 : ∀ k, mAI D 39 k = if k = 16 * m + τ.1.length then 0 else mAI M 39 k := by intro k; rw [eD]; simp [mNwI, mSwI, mKwI, mIwI, mJwI, mRwI, mLwI, mAIwI, mAJwI, mARwI, mNwJ, mSwJ, mKwJ, mIwJ, mJwJ, mRwJ, mLwJ, mAIwJ, mAJwJ, mARwJ, mNwR, mSwR, mKwR, mIwR, mJwR, mRwR, mLwR, mAIwR, mAJwR, mARwR, mNwAI, mSwAI, mKwAI, mIwAI, mJwAI, mRwAI, mLwAI, mAIwAI, mAJwAI, mARwAI, mNwAJ, mSwAJ, mKwAJ, mIwAJ, mJwAJ, mRwAJ, mLwAJ, mAIwAJ, mAJwAJ, mARwAJ, mNwAR, mSwAR, mKwAR, mIwAR, mJwAR, mRwAR, mLwAR, mAIwAR, mAJwAR, mARwAR, okkwI, okkwJ, okkwR, okkwAI, okkwAJ, okkwAR]
    have c40 : ∀ k, mAI D 40 k = if k = 16 * m + τ.1.length then 0 else mAI M 40 k := by intro k; rw [eD]; simp [mNwI, mSwI, mKwI, mIwI, mJwI, mRwI, mLwI, mAIwI, mAJwI, mARwI, mNwJ, mSwJ, mKwJ, mIwJ, mJwJ, mRwJ, mLwJ, mAIwJ, mAJwJ, mARwJ, mNwR, mSwR, mKwR, mIwR, mJwR, mRwR, mLwR, mAIwR, mAJwR, mARwR, mNwAI, mSwAI, mKwAI, mIwAI, mJwAI, mRwAI, mLwAI, mAIwAI, mAJwAI, mARwAI, mNwAJ, mSwAJ, mKwAJ, mIwAJ, mJwAJ, mRwAJ, mLwAJ, mAIwAJ, mAJwAJ, mARwAJ, mNwAR, mSwAR, mKwAR, mIwAR, mJwAR, mRwAR, mLwAR, mAIwAR, mAJwAR, mARwAR, okkwI, okkwJ, okkwR, okkwAI, okkwAJ, okkwAR]
    have cJ : ∀ a, a ≠ 37 → mAJ D a = mAJ M a := by intro a ha; rw [eD]; funext k; simp [ha, mNwI, mSwI, mKwI, mIwI, mJwI, mRwI, mLwI, mAIwI, mAJwI, mARwI, mNwJ, mSwJ, mKwJ, mIwJ, mJwJ, mRwJ, mLwJ, mAIwJ, mAJwJ, mARwJ, mNwR, mSwR, mKwR, mIwR, mJwR, mRwR, mLwR, mAIwR, mAJwR, mARwR, mNwAI, mSwAI, mKwAI, mIwAI, mJwAI, mRwAI, mLwAI, mAIwAI, mAJwAI, mARwAI, mNwAJ, mSwAJ, mKwAJ, mIwAJ, mJwAJ, mRwAJ, mLwAJ, mAIwAJ, mAJwAJ, mARwAJ, mNwAR, mSwAR, mKwAR, mIwAR, mJwAR, mRwAR, mLwAR, mAIwAR, mAJwAR, mARwAR, okkwI, okkwJ, okkwR, okkwAI, okkwAJ, okkwAR]
    refine H M' ⟨⟨fM.fix F (by decide), fun j hj => ?_, ?_⟩, h2, by rw [rI, eD]; exact h3, by rw [rI, eD]; exact h4, ?_, ⟨h6.1, fun k hk => by rw [rJ, cJ 43 (by decide)]; exact h6.2 k hk⟩, fun k hk => ?_⟩ fM
    · obtain ⟨r1, r2, r3⟩ := h1 j hj
      exact ⟨by rw [fM.fA (by decide)]; exact r1, by rw [fM.fA (by decide)]; exact r2, by rw [fM.fJ (by decide)]; exact r3⟩
    · have hl : (τ.1 ++ [tC b n i]).length = τ.1.length + 1 := by rw [List.length_append]; rfl
      have gN : ∀ k, k < τ.1.length + 1 → (τ.1 ++ [tC b n i]).getD k 0 = if k = τ.1.length then tC b n i else τ.1.getD k 0 := by
        intro k hk
        rw [List.getD_eq_getElem?_getD, List.getD_eq_getElem?_getD]
        by_cases z : k = τ.1.length
        · rw [if_pos z, z, List.getElem?_append_right (Nat.le_refl _), Nat.sub_self]; rfl
        · rw [if_neg z, List.getElem?_append_left (by omega)]
      have gR : ∀ (l : List Int32) (x : Int32), l.length = τ.1.length → ∀ k, k < τ.1.length + 1 → (l ++ [x]).getD k 0 = if k = τ.1.length then x else l.getD k 0 := by
        intro l x hl k hk
        rw [getD_app (by omega), hl]
      refine ⟨by rw [rI, eD]; exact e1, e2, ⟨by show (τ.1 ++ [tC b n i]).length ≤ 16; omega, by show (τ.2.1 ++ [r]).length = (τ.1 ++ [tC b n i]).length; rw [List.length_append, List.length_append, e3.2.1]; rfl, by show (τ.2.2.1 ++ [0]).length = (τ.1 ++ [tC b n i]).length; rw [List.length_append, List.length_append, e3.2.2.1]; rfl, e3.2.2.2⟩, ?_, ?_, fun k hk => ?_, fun k hk => ?_, fun k hk => ?_, fun k hk => ?_⟩
      · show mAI M' 34 m = Int32.ofNat (τ.1 ++ [tC b n i]).length
        rw [hl, eM]; simp [mNwI, mSwI, mKwI, mIwI, mJwI, mRwI, mLwI, mAIwI, mAJwI, mARwI, mNwJ, mSwJ, mKwJ, mIwJ, mJwJ, mRwJ, mLwJ, mAIwJ, mAJwJ, mARwJ, mNwR, mSwR, mKwR, mIwR, mJwR, mRwR, mLwR, mAIwR, mAJwR, mARwR, mNwAI, mSwAI, mKwAI, mIwAI, mJwAI, mRwAI, mLwAI, mAIwAI, mAJwAI, mARwAI, mNwAJ, mSwAJ, mKwAJ, mIwAJ, mJwAJ, mRwAJ, mLwAJ, mAIwAJ, mAJwAJ, mARwAJ, mNwAR, mSwAR, mKwAR, mIwAR, mJwAR, mRwAR, mLwAR, mAIwAR, mAJwAR, mARwAR, okkwI, okkwJ, okkwR, okkwAI, okkwAJ, okkwAR]
      · rw [eM, mAI_wAI_ne (by decide), q36, eD]; simp [e5, mNwI, mSwI, mKwI, mIwI, mJwI, mRwI, mLwI, mAIwI, mAJwI, mARwI, mNwJ, mSwJ, mKwJ, mIwJ, mJwJ, mRwJ, mLwJ, mAIwJ, mAJwJ, mARwJ, mNwR, mSwR, mKwR, mIwR, mJwR, mRwR, mLwR, mAIwR, mAJwR, mARwR, mNwAI, mSwAI, mKwAI, mIwAI, mJwAI, mRwAI, mLwAI, mAIwAI, mAJwAI, mARwAI, mNwAJ, mSwAJ, mKwAJ, mIwAJ, mJwAJ, mRwAJ, mLwAJ, mAIwAJ, mAJwAJ, mARwAJ, mNwAR, mSwAR, mKwAR, mIwAR, mJwAR, mRwAR, mLwAR, mAIwAR, mAJwAR, mARwAR, okkwI, okkwJ, okkwR, okkwAI, okkwAJ, okkwAR]
      · have hk : k < (τ.1 ++ [tC b n i]).length := hk
        rw [hl] at hk
        show NmR b n ((τ.1 ++ [tC b n i]).getD k 0) (mAJ M' 37 (16 * m + k))
        rw [gN k hk, rJ, c37]
        by_cases z : k = τ.1.length
        · rw [if_pos z, if_pos (by omega)]; exact nm
        · rw [if_neg z, if_neg (by omega)]; exact e6 k (by omega)
      · have hk : k < (τ.1 ++ [tC b n i]).length := hk
        rw [hl] at hk
        show mAI M' 38 (16 * m + k) = (τ.2.1 ++ [r]).getD k 0 - 30
        rw [gR _ _ e3.2.1 k hk, r38, c38]
        by_cases z : k = τ.1.length
        · rw [if_pos z, if_pos (by omega)]
        · rw [if_neg z, if_neg (by omega)]; exact e7 k (by omega)
      · have hk : k < (τ.1 ++ [tC b n i]).length := hk
        rw [hl] at hk
        show mAI M' 39 (16 * m + k) = (if (τ.2.2.1 ++ [0]).getD k 0 = 0 then 0 else (τ.2.2.1 ++ [0]).getD k 0 - 32) ∧ (τ.2.2.1 ++ [0]).getD k 0 ≠ 32
        rw [gR _ _ e3.2.2.1 k hk, r39, c39]
        by_cases z : k = τ.1.length
        · rw [if_pos z, if_pos (by omega)]; exact ⟨rfl, by decide⟩
        · rw [if_neg z, if_neg (by omega)]; exact e8 k (by omega)
      · show NmR b n (τ.2.2.2.1.getD k 0) (mAJ M' 42 (6 * m + k))
        rw [rJ, cJ 42 (by decide)]; exact e9 k hk
    · obtain ⟨z1, z2, z3⟩ := q35
      exact ⟨by rw [eM, mAI_wAI_ne (by decide)]; exact z1, z2, fun j hj => by rw [eM, mAI_wAI_ne (by decide)]; exact z3 j hj⟩
    · have hk : k < (τ.1 ++ [tC b n i]).length := hk
      rw [List.length_append] at hk
      have hk : k < τ.1.length + 1 := hk
      rw [r40, c40]
      by_cases z : k = τ.1.length
      · rw [if_pos (by omega)]
      · rw [if_neg (by omega)]; exact h7 k (by omega)
  refine ⟨fun q => ?_, fun q => ?_⟩
  · have n30 : r ≠ 30 := fun z => q (k30.mpr z)
    have ei : inL (τ.2.1 ++ [r]) = inL τ.2.1 := by rw [inL_app, if_neg n30, List.append_nil]
    rw [i19, lt32 (by omega)]
    refine ⟨ok29 FD, 34, rf29_8 FD, ok34 FD, by rw [ln34 FD]; exact vp_of e2 (by decide), by rw [ln34 FD]; exact vp_of e2 (by decide), fun M' eM => ?_⟩
    rw [a34, succ32] at eM
    refine fin D M' FD RG.rf a34 rfl rfl rfl rfl ?_ rfl rfl eM
    rw [ei]
    exact ⟨a35, h5.2.1, fun j hj => by rw [eD]; simp [h5.2.2 j hj, mNwI, mSwI, mKwI, mIwI, mJwI, mRwI, mLwI, mAIwI, mAJwI, mARwI, mNwJ, mSwJ, mKwJ, mIwJ, mJwJ, mRwJ, mLwJ, mAIwJ, mAJwJ, mARwJ, mNwR, mSwR, mKwR, mIwR, mJwR, mRwR, mLwR, mAIwR, mAJwR, mARwR, mNwAI, mSwAI, mKwAI, mIwAI, mJwAI, mRwAI, mLwAI, mAIwAI, mAJwAI, mARwAI, mNwAJ, mSwAJ, mKwAJ, mIwAJ, mJwAJ, mRwAJ, mLwAJ, mAIwAJ, mAJwAJ, mARwAJ, mNwAR, mSwAR, mKwAR, mIwAR, mJwAR, mRwAR, mLwAR, mAIwAR, mAJwAR, mARwAR, okkwI, okkwJ, okkwR, okkwAI, okkwAJ, okkwAR]⟩
  · have y30 : r = 30 := k30.mp q
    have ei : inL (τ.2.1 ++ [r]) = inL τ.2.1 ++ [τ.1.length] := by rw [inL_app, if_pos y30, e3.2.1]
    have hI4 := hI y30
    rw [i19, lt32 (by omega)]
    refine ⟨41, rf29_15 FD, 35, rf29_9 FD, ok35 FD, by rw [ln35 FD]; exact vp_of e2 (by decide), 34, rf29_8 FD, ok34 FD, by rw [ln34 FD]; exact vp_of e2 (by decide), ok41 FD, ?_⟩
    rw [a35, e4k, lt32 (by omega), a34]
    refine ⟨by rw [ln41 FD]; exact vp_of (by omega) (by decide), fun G g => ?_⟩
    have FG : Fix G := by rw [g]; exact FD.ai
    have g19 : mI G 29 19 = Int32.ofNat m := by rw [g]; exact i19
    have g35 : mAI G 35 m = Int32.ofNat (inL τ.2.1).length := by rw [g, mAI_wAI_ne (by decide)]; exact a35
    rw [g19, lt32 (by omega)]
    refine ⟨35, rf29_9 FG, ok35 FG, by rw [ln35 FG]; exact vp_of e2 (by decide), by rw [ln35 FG]; exact vp_of e2 (by decide), fun K k => ?_⟩
    rw [g35, succ32] at k
    have FK : Fix K := by rw [k]; exact FG.ai
    have k19 : mI K 29 19 = Int32.ofNat m := by rw [k]; exact g19
    have k34 : mAI K 34 m = Int32.ofNat τ.1.length := by rw [k, mAI_wAI_ne (by decide), g, mAI_wAI_ne (by decide)]; exact a34
    rw [k19, lt32 (by omega)]
    refine ⟨ok29 FK, 34, rf29_8 FK, ok34 FK, by rw [ln34 FK]; exact vp_of e2 (by decide), by rw [ln34 FK]; exact vp_of e2 (by decide), fun M' eM => ?_⟩
    rw [k34, succ32] at eM
    have rK : ∀ q, q ≠ 35 → q ≠ 41 → mAI K q = mAI D q := fun q z1 z2 => by rw [k, mAI_wAI_ne z1, g, mAI_wAI_ne z2]
    refine fin K M' FK ?_ k34 (rK 38 (by decide) (by decide)) (rK 39 (by decide) (by decide)) (rK 40 (by decide) (by decide)) (rK 36 (by decide) (by decide)) ?_ (by rw [k, g]; rfl) (by rw [k, g]; rfl) eM
    · rw [k, g]
      exact (RG.ai (by decide) (by rw [show szA 41 = 4 by decide]; omega)).tr (RG.ai (by decide) (by rw [show szA 35 = 1 by decide]; omega))
    · rw [ei, List.length_append]
      refine ⟨by rw [k]; simp [mNwI, mSwI, mKwI, mIwI, mJwI, mRwI, mLwI, mAIwI, mAJwI, mARwI, mNwJ, mSwJ, mKwJ, mIwJ, mJwJ, mRwJ, mLwJ, mAIwJ, mAJwJ, mARwJ, mNwR, mSwR, mKwR, mIwR, mJwR, mRwR, mLwR, mAIwR, mAJwR, mARwR, mNwAI, mSwAI, mKwAI, mIwAI, mJwAI, mRwAI, mLwAI, mAIwAI, mAJwAI, mARwAI, mNwAJ, mSwAJ, mKwAJ, mIwAJ, mJwAJ, mRwAJ, mLwAJ, mAIwAJ, mAJwAJ, mARwAJ, mNwAR, mSwAR, mKwAR, mIwAR, mJwAR, mRwAR, mLwAR, mAIwAR, mAJwAR, mARwAR, okkwI, okkwJ, okkwR, okkwAI, okkwAJ, okkwAR], by show (inL τ.2.1).length + 1 ≤ 4; omega, fun j hj => ?_⟩
      have hj : j < (inL τ.2.1).length + 1 := hj
      rw [k, mAI_wAI_ne (by decide), g, mAI_wAI]
      have gg : (inL τ.2.1 ++ [τ.1.length]).getD j 0 = if j = (inL τ.2.1).length then τ.1.length else (inL τ.2.1).getD j 0 := by
        rw [List.getD_eq_getElem?_getD, List.getD_eq_getElem?_getD]
        by_cases z : j = (inL τ.2.1).length
        · rw [if_pos z, z, List.getElem?_append_right (Nat.le_refl _), Nat.sub_self]; rfl
        · rw [if_neg z, List.getElem?_append_left (by omega)]
      rw [gg]
      by_cases z : j = (inL τ.2.1).length
      · rw [if_pos ⟨rfl, by omega⟩, if_pos z]
      · rw [if_neg (by rintro ⟨-, y⟩; omega), if_neg z, eD]; simp [h5.2.2 j (by omega), mNwI, mSwI, mKwI, mIwI, mJwI, mRwI, mLwI, mAIwI, mAJwI, mARwI, mNwJ, mSwJ, mKwJ, mIwJ, mJwJ, mRwJ, mLwJ, mAIwJ, mAJwJ, mARwJ, mNwR, mSwR, mKwR, mIwR, mJwR, mRwR, mLwR, mAIwR, mAJwR, mARwR, mNwAI, mSwAI, mKwAI, mIwAI, mJwAI, mRwAI, mLwAI, mAIwAI, mAJwAI, mARwAI, mNwAJ, mSwAJ, mKwAJ, mIwAJ, mJwAJ, mRwAJ, mLwAJ, mAIwAJ, mAJwAJ, mARwAJ, mNwAR, mSwAR, mKwAR, mIwAR, mJwAR, mRwAR, mLwAR, mAIwAR, mAJwAR, mARwAR, okkwI, okkwJ, okkwR, okkwAI, okkwAJ, okkwAR]
end
