/-! the reference looks at its token -/
section
variable {b : Nat → Int32} {n i : Nat} {M : Mem} {h : Nat} {Q : Option Value → Mem → Prop}
/-- the token that stands -/
def Tk (b : Nat → Int32) (n : Nat) (M : Mem) (i : Nat) : Prop := Fix M ∧ By b ∧ RkR M b n i ∧ mI M 29 5 = Int32.ofNat i ∧ i < 802
theorem K_sign {k : Int32} {v : Int64} (hT : Tk b n M i) (hk : k ∈ sKs) (hv : v = sv k) (H1 : tK b n i = k → Q (some (.int 1)) M) (H0 : tK b n i ≠ k → Q (some (.int 0)) M) : E (h + 1) mdX11_isSaid [.ref 29, .int 3, .long v] M Q := by
  obtain ⟨F, hB, ⟨r1, r2, r3⟩, h5, h8⟩ := hT
  refine R_isSaid F h5 h8 ?_
  rw [r1, r3, hv]
  have e := said_sign (b := b) (n := n) (p := tP b n i) hB hk
  by_cases q : tK b n i = k
  · rw [if_pos (e.mpr q)]; exact H1 q
  · rw [if_neg (fun z => q (e.mp z))]; exact H0 q
theorem K_key {k : Int32} {v : Int64} {j : Nat} (hT : Tk b n M i) (hj : j < 33) (hk : k = 30 + Int32.ofNat j) (hv : v = key27.getD j 0) (H1 : tK b n i = k → Q (some (.int 1)) M) (H0 : tK b n i ≠ k → Q (some (.int 0)) M) : E (h + 1) mdX11_isSaid [.ref 29, .int 1, .long v] M Q := by
  obtain ⟨F, hB, ⟨r1, r2, r3⟩, h5, h8⟩ := hT
  refine R_isSaid F h5 h8 ?_
  rw [r1, r3, hv]
  have e := said_key (b := b) (n := n) (p := tP b n i) hB hj
  rw [← hk] at e
  by_cases q : tK b n i = k
  · rw [if_pos (e.mpr q)]; exact H1 q
  · rw [if_neg (fun z => q (e.mp z))]; exact H0 q
theorem K_name (hT : Tk b n M i) (H1 : tK b n i = 2 → Q (some (.int 1)) M) (H0 : tK b n i ≠ 2 → Q (some (.int 0)) M) : E (h + 2) mdX11_isName [.ref 29] M Q := by
  obtain ⟨F, hB, r, h5, h8⟩ := hT
  refine R_isName F hB h5 h8 r ?_
  by_cases q : tK b n i = 2
  · rw [if_pos q]; exact H1 q
  · rw [if_neg q]; exact H0 q
theorem Tk.nm (hT : Tk b n M i) (hk : tK b n i = 2) : NmR b n (tC b n i) (mAJ M 33 i) := ⟨tP b n i, name_WD hT.2.1 hk, rfl, hT.2.2.1.2.2⟩
/-- a fault here: the two fields are written -/
theorem K_fails {c : Int32} (hT : Tk b n M i) (h6 : mI M 29 6 = 0) (hc : 0 < c) (H : ∀ M', M' = wI (wI M 29 6 c) 29 7 (Int32.ofNat (tP b n i)) → TXr M' c (tP b n i) → Q none M') : E (h + 1) mdX11_fails [.ref 29, .int c, .int (mAI M 32 i)] M Q := by
  obtain ⟨F, hB, ⟨r1, r2, r3⟩, h5, h8⟩ := hT
  refine R_fails F ?_
  have e : flF M c (mAI M 32 i) = wI (wI M 29 6 c) 29 7 (Int32.ofNat (tP b n i)) := by unfold flF; rw [if_pos h6, r2]
  rw [e]
  exact H _ rfl ⟨F.i.i, by simp [mNwI, mSwI, mKwI, mIwI, mJwI, mRwI, mLwI, mAIwI, mAJwI, mARwI, mNwJ, mSwJ, mKwJ, mIwJ, mJwJ, mRwJ, mLwJ, mAIwJ, mAJwJ, mARwJ, mNwR, mSwR, mKwR, mIwR, mJwR, mRwR, mLwR, mAIwR, mAJwR, mARwR, mNwAI, mSwAI, mKwAI, mIwAI, mJwAI, mRwAI, mLwAI, mAIwAI, mAJwAI, mARwAI, mNwAJ, mSwAJ, mKwAJ, mIwAJ, mJwAJ, mRwAJ, mLwAJ, mAIwAJ, mAJwAJ, mARwAJ, mNwAR, mSwAR, mKwAR, mIwAR, mJwAR, mRwAR, mLwAR, mAIwAR, mAJwAR, mARwAR, okkwI, okkwJ, okkwR, okkwAI, okkwAJ, okkwAR], hc, by simp [mNwI, mSwI, mKwI, mIwI, mJwI, mRwI, mLwI, mAIwI, mAJwI, mARwI, mNwJ, mSwJ, mKwJ, mIwJ, mJwJ, mRwJ, mLwJ, mAIwJ, mAJwJ, mARwJ, mNwR, mSwR, mKwR, mIwR, mJwR, mRwR, mLwR, mAIwR, mAJwR, mARwR, mNwAI, mSwAI, mKwAI, mIwAI, mJwAI, mRwAI, mLwAI, mAIwAI, mAJwAI, mARwAI, mNwAJ, mSwAJ, mKwAJ, mIwAJ, mJwAJ, mRwAJ, mLwAJ, mAIwAJ, mAJwAJ, mARwAJ, mNwAR, mSwAR, mKwAR, mIwAR, mJwAR, mRwAR, mLwAR, mAIwAR, mAJwAR, mARwAR, okkwI, okkwJ, okkwR, okkwAI, okkwAJ, okkwAR]⟩
/-- the token is taken: what is written -/
theorem K_take {s : Nat} (hT : Tk b n M i) (hs : i < s) (hR : ∀ j, j ≤ s → RkR M b n j) (h8 : s < 802) (h6 : mI M 29 6 = 0) (H1 : tK b n (i + 1) ≠ 0 → Q none (wI M 29 5 (Int32.ofNat (i + 1)))) (H0 : tK b n (i + 1) = 0 → Q none (wI (wI (wI M 29 5 (Int32.ofNat (i + 1))) 29 6 1) 29 7 (Int32.ofNat (tP b n (i + 1))))) : E (h + 2) mdX11_take [.ref 29] M Q := by
  obtain ⟨F, hB, -, h5, -⟩ := hT
  have e : mI M 29 5 + 1 = Int32.ofNat (i + 1) := by rw [h5, succ32]
  refine R_take F (by rw [e]; exact vp_of (by omega) (by decide)) ?_
  unfold takF
  rw [e, lt32 (by omega)]
  obtain ⟨r1, r2, r3⟩ := hR (i + 1) (by omega)
  have rel : rS b n (tP b n (i + 1)) = 4 ↔ tK b n (i + 1) = 0 := (rS_rel hB).2
  by_cases hk : tK b n (i + 1) = 0
  · rw [if_pos (r1.trans (rel.mpr hk)), r2]
    have e2 : flF (wI M 29 5 (Int32.ofNat (i + 1))) 1 (Int32.ofNat (tP b n (i + 1))) = wI (wI (wI M 29 5 (Int32.ofNat (i + 1))) 29 6 1) 29 7 (Int32.ofNat (tP b n (i + 1))) := by
      unfold flF; rw [if_pos (by simp [h6, mNwI, mSwI, mKwI, mIwI, mJwI, mRwI, mLwI, mAIwI, mAJwI, mARwI, mNwJ, mSwJ, mKwJ, mIwJ, mJwJ, mRwJ, mLwJ, mAIwJ, mAJwJ, mARwJ, mNwR, mSwR, mKwR, mIwR, mJwR, mRwR, mLwR, mAIwR, mAJwR, mARwR, mNwAI, mSwAI, mKwAI, mIwAI, mJwAI, mRwAI, mLwAI, mAIwAI, mAJwAI, mARwAI, mNwAJ, mSwAJ, mKwAJ, mIwAJ, mJwAJ, mRwAJ, mLwAJ, mAIwAJ, mAJwAJ, mARwAJ, mNwAR, mSwAR, mKwAR, mIwAR, mJwAR, mRwAR, mLwAR, mAIwAR, mAJwAR, mARwAR, okkwI, okkwJ, okkwR, okkwAI, okkwAJ, okkwAR])]
    rw [e2]
    exact H0 hk
  · rw [if_neg (fun z => hk (rel.mp (r1.symm.trans z)))]
    exact H1 hk
end
section
variable {b : Nat → Int32} {n s m : Nat} {sN : List Int64} {ro mx : List Int32} {vN : List Int64} {M : Mem} {i o pr : Nat} {σ ν : List Nat} {Y : List Cd} {h : Nat} {Q : Option Value → Mem → Prop}
theorem SC.tk {w : Int32 × Int32} (hR : SC b n s m sN ro mx vN w M i o pr σ ν Y) (hB : By b) : Tk b n M i := ⟨hR.1.1, hB, hR.1.2.1 i hR.2.1.2.2, hR.2.2.1, by have := hR.2.1; omega⟩
theorem SC.x {f : Int32} {p : Nat} (h : SC b n s m sN ro mx vN (f, Int32.ofNat p) M i o pr σ ν Y) (hf : 0 < f) : TXr M f p := ⟨h.1.1, h.2.2.2.1.1, hf, h.2.2.2.1.2.resolve_left (fun z => by
  have z : f = 0 := z
  rw [z] at hf
  exact absurd hf (by decide))⟩
theorem G_fails {c : Int32} (hR : SC b n s m sN ro mx vN (0, 0) M i o pr σ ν Y) (hB : By b) (hc : 0 < c) (H : ∀ M', TXr M' c (tP b n i) → RFc m M M' → Q none M') : E (h + 1) mdX11_fails [.ref 29, .int c, .int (mAI M 32 i)] M Q :=
  K_fails (hR.tk hB) hR.2.2.2.1.1 hc (fun M' e T' => H M' T' (by rw [e]; exact (RFc.i (by decide)).tr (RFc.i (by decide))))
theorem G_take (h1 : CoR b n s m sN ro mx vN M) (hi : n ≤ 800 ∧ s ≤ n ∧ i < s) (h3 : mI M 29 5 = Int32.ofNat i) (h4 : mI M 29 6 = 0) (h5 : mI M 29 33 = Int32.ofNat o) (h6 : mI M 29 32 = Int32.ofNat pr) (h7 : St M 52 29 0 σ) (h8 : St M 53 31 (410 * m) ν) (h9 : YR sN.length M m Y) (h10 : (2 * (Y.length + wt σ) ≤ bt b n (i + 1) ∧ σ.length ≤ i + 1) ∧ ν.length ≤ i + 1 ∧ o ≤ 15 ∧ pr ≤ i + 1 ∧ ∀ x ∈ ν, x < Y.length) (hB : By b) (H1 : tK b n (i + 1) ≠ 0 → ∀ M', SC b n s m sN ro mx vN (0, 0) M' (i + 1) o pr σ ν Y → RFc m M M' → Q none M') (H0 : tK b n (i + 1) = 0 → ∀ M', SC b n s m sN ro mx vN (1, Int32.ofNat (tP b n (i + 1))) M' (i + 1) o pr σ ν Y → RFc m M M' → Q none M') : E (h + 2) mdX11_take [.ref 29] M Q := by
  have fr : RFc m M (wI M 29 5 (Int32.ofNat (i + 1))) := RFc.i (by decide)
  have fr2 : RFc m M (wI (wI (wI M 29 5 (Int32.ofNat (i + 1))) 29 6 1) 29 7 (Int32.ofNat (tP b n (i + 1)))) := (fr.tr (RFc.i (by decide))).tr (RFc.i (by decide))
  refine K_take (s := s) ⟨h1.1, hB, h1.2.1 i (by omega), h3, by omega⟩ hi.2.2 h1.2.1 (by omega) h4 (fun hk => ?_) (fun hk => ?_)
  · exact H1 hk _ ⟨h1.frc fr, ⟨hi.1, hi.2.1, hi.2.2⟩, by simp [mNwI, mSwI, mKwI, mIwI, mJwI, mRwI, mLwI, mAIwI, mAJwI, mARwI, mNwJ, mSwJ, mKwJ, mIwJ, mJwJ, mRwJ, mLwJ, mAIwJ, mAJwJ, mARwJ, mNwR, mSwR, mKwR, mIwR, mJwR, mRwR, mLwR, mAIwR, mAJwR, mARwR, mNwAI, mSwAI, mKwAI, mIwAI, mJwAI, mRwAI, mLwAI, mAIwAI, mAJwAI, mARwAI, mNwAJ, mSwAJ, mKwAJ, mIwAJ, mJwAJ, mRwAJ, mLwAJ, mAIwAJ, mAJwAJ, mARwAJ, mNwAR, mSwAR, mKwAR, mIwAR, mJwAR, mRwAR, mLwAR, mAIwAR, mAJwAR, mARwAR, okkwI, okkwJ, okkwR, okkwAI, okkwAJ, okkwAR], ⟨by simp [h4, mNwI, mSwI, mKwI, mIwI, mJwI, mRwI, mLwI, mAIwI, mAJwI, mARwI, mNwJ, mSwJ, mKwJ, mIwJ, mJwJ, mRwJ, mLwJ, mAIwJ, mAJwJ, mARwJ, mNwR, mSwR, mKwR, mIwR, mJwR, mRwR, mLwR, mAIwR, mAJwR, mARwR, mNwAI, mSwAI, mKwAI, mIwAI, mJwAI, mRwAI, mLwAI, mAIwAI, mAJwAI, mARwAI, mNwAJ, mSwAJ, mKwAJ, mIwAJ, mJwAJ, mRwAJ, mLwAJ, mAIwAJ, mAJwAJ, mARwAJ, mNwAR, mSwAR, mKwAR, mIwAR, mJwAR, mRwAR, mLwAR, mAIwAR, mAJwAR, mARwAR, okkwI, okkwJ, okkwR, okkwAI, okkwAJ, okkwAR], Or.inl rfl⟩, by simp [h5, mNwI, mSwI, mKwI, mIwI, mJwI, mRwI, mLwI, mAIwI, mAJwI, mARwI, mNwJ, mSwJ, mKwJ, mIwJ, mJwJ, mRwJ, mLwJ, mAIwJ, mAJwJ, mARwJ, mNwR, mSwR, mKwR, mIwR, mJwR, mRwR, mLwR, mAIwR, mAJwR, mARwR, mNwAI, mSwAI, mKwAI, mIwAI, mJwAI, mRwAI, mLwAI, mAIwAI, mAJwAI, mARwAI, mNwAJ, mSwAJ, mKwAJ, mIwAJ, mJwAJ, mRwAJ, mLwAJ, mAIwAJ, mAJwAJ, mARwAJ, mNwAR, mSwAR, mKwAR, mIwAR, mJwAR, mRwAR, mLwAR, mAIwAR, mAJwAR, mARwAR, okkwI, okkwJ, okkwR, okkwAI, okkwAJ, okkwAR], by simp [h6, mNwI, mSwI, mKwI, mIwI, mJwI, mRwI, mLwI, mAIwI, mAJwI, mARwI, mNwJ, mSwJ, mKwJ, mIwJ, mJwJ, mRwJ, mLwJ, mAIwJ, mAJwJ, mARwJ, mNwR, mSwR, mKwR, mIwR, mJwR, mRwR, mLwR, mAIwR, mAJwR, mARwR, mNwAI, mSwAI, mKwAI, mIwAI, mJwAI, mRwAI, mLwAI, mAIwAI, mAJwAI, mARwAI, mNwAJ, mSwAJ, mKwAJ, mIwAJ, mJwAJ, mRwAJ, mLwAJ, mAIwAJ, mAJwAJ, mARwAJ, mNwAR, mSwAR, mKwAR, mIwAR, mJwAR, mRwAR, mLwAR, mAIwAR, mAJwAR, mARwAR, okkwI, okkwJ, okkwR, okkwAI, okkwAJ, okkwAR], h7.fr (by simp [mNwI, mSwI, mKwI, mIwI, mJwI, mRwI, mLwI, mAIwI, mAJwI, mARwI, mNwJ, mSwJ, mKwJ, mIwJ, mJwJ, mRwJ, mLwJ, mAIwJ, mAJwJ, mARwJ, mNwR, mSwR, mKwR, mIwR, mJwR, mRwR, mLwR, mAIwR, mAJwR, mARwR, mNwAI, mSwAI, mKwAI, mIwAI, mJwAI, mRwAI, mLwAI, mAIwAI, mAJwAI, mARwAI, mNwAJ, mSwAJ, mKwAJ, mIwAJ, mJwAJ, mRwAJ, mLwAJ, mAIwAJ, mAJwAJ, mARwAJ, mNwAR, mSwAR, mKwAR, mIwAR, mJwAR, mRwAR, mLwAR, mAIwAR, mAJwAR, mARwAR, okkwI, okkwJ, okkwR, okkwAI, okkwAJ, okkwAR]) rfl, h8.fr (by simp [mNwI, mSwI, mKwI, mIwI, mJwI, mRwI, mLwI, mAIwI, mAJwI, mARwI, mNwJ, mSwJ, mKwJ, mIwJ, mJwJ, mRwJ, mLwJ, mAIwJ, mAJwJ, mARwJ, mNwR, mSwR, mKwR, mIwR, mJwR, mRwR, mLwR, mAIwR, mAJwR, mARwR, mNwAI, mSwAI, mKwAI, mIwAI, mJwAI, mRwAI, mLwAI, mAIwAI, mAJwAI, mARwAI, mNwAJ, mSwAJ, mKwAJ, mIwAJ, mJwAJ, mRwAJ, mLwAJ, mAIwAJ, mAJwAJ, mARwAJ, mNwAR, mSwAR, mKwAR, mIwAR, mJwAR, mRwAR, mLwAR, mAIwAR, mAJwAR, mARwAR, okkwI, okkwJ, okkwR, okkwAI, okkwAJ, okkwAR]) rfl, h9.fr rfl rfl rfl rfl rfl, h10⟩ fr
  · exact H0 hk _ ⟨h1.frc fr2, ⟨hi.1, hi.2.1, hi.2.2⟩, by simp [mNwI, mSwI, mKwI, mIwI, mJwI, mRwI, mLwI, mAIwI, mAJwI, mARwI, mNwJ, mSwJ, mKwJ, mIwJ, mJwJ, mRwJ, mLwJ, mAIwJ, mAJwJ, mARwJ, mNwR, mSwR, mKwR, mIwR, mJwR, mRwR, mLwR, mAIwR, mAJwR, mARwR, mNwAI, mSwAI, mKwAI, mIwAI, mJwAI, mRwAI, mLwAI, mAIwAI, mAJwAI, mARwAI, mNwAJ, mSwAJ, mKwAJ, mIwAJ, mJwAJ, mRwAJ, mLwAJ, mAIwAJ, mAJwAJ, mARwAJ, mNwAR, mSwAR, mKwAR, mIwAR, mJwAR, mRwAR, mLwAR, mAIwAR, mAJwAR, mARwAR, okkwI, okkwJ, okkwR, okkwAI, okkwAJ, okkwAR], ⟨by simp [mNwI, mSwI, mKwI, mIwI, mJwI, mRwI, mLwI, mAIwI, mAJwI, mARwI, mNwJ, mSwJ, mKwJ, mIwJ, mJwJ, mRwJ, mLwJ, mAIwJ, mAJwJ, mARwJ, mNwR, mSwR, mKwR, mIwR, mJwR, mRwR, mLwR, mAIwR, mAJwR, mARwR, mNwAI, mSwAI, mKwAI, mIwAI, mJwAI, mRwAI, mLwAI, mAIwAI, mAJwAI, mARwAI, mNwAJ, mSwAJ, mKwAJ, mIwAJ, mJwAJ, mRwAJ, mLwAJ, mAIwAJ, mAJwAJ, mARwAJ, mNwAR, mSwAR, mKwAR, mIwAR, mJwAR, mRwAR, mLwAR, mAIwAR, mAJwAR, mARwAR, okkwI, okkwJ, okkwR, okkwAI, okkwAJ, okkwAR], Or.inr (by simp [mNwI, mSwI, mKwI, mIwI, mJwI, mRwI, mLwI, mAIwI, mAJwI, mARwI, mNwJ, mSwJ, mKwJ, mIwJ, mJwJ, mRwJ, mLwJ, mAIwJ, mAJwJ, mARwJ, mNwR, mSwR, mKwR, mIwR, mJwR, mRwR, mLwR, mAIwR, mAJwR, mARwR, mNwAI, mSwAI, mKwAI, mIwAI, mJwAI, mRwAI, mLwAI, mAIwAI, mAJwAI, mARwAI, mNwAJ, mSwAJ, mKwAJ, mIwAJ, mJwAJ, mRwAJ, mLwAJ, mAIwAJ, mAJwAJ, mARwAJ, mNwAR, mSwAR, mKwAR, mIwAR, mJwAR, mRwAR, mLwAR, mAIwAR, mAJwAR, mARwAR, okkwI, okkwJ, okkwR, okkwAI, okkwAJ, okkwAR])⟩, by simp [h5, mNwI, mSwI, mKwI, mIwI, mJwI, mRwI, mLwI, mAIwI, mAJwI, mARwI, mNwJ, mSwJ, mKwJ, mIwJ, mJwJ, mRwJ, mLwJ, mAIwJ, mAJwJ, mARwJ, mNwR, mSwR, mKwR, mIwR, mJwR, mRwR, mLwR, mAIwR, mAJwR, mARwR, mNwAI, mSwAI, mKwAI, mIwAI, mJwAI, mRwAI, mLwAI, mAIwAI, mAJwAI, mARwAI, mNwAJ, mSwAJ, mKwAJ, mIwAJ, mJwAJ, mRwAJ, mLwAJ, mAIwAJ, mAJwAJ, mARwAJ, mNwAR, mSwAR, mKwAR, mIwAR, mJwAR, mRwAR, mLwAR, mAIwAR, mAJwAR, mARwAR, okkwI, okkwJ, okkwR, okkwAI, okkwAJ, okkwAR], by simp [h6, mNwI, mSwI, mKwI, mIwI, mJwI, mRwI, mLwI, mAIwI, mAJwI, mARwI, mNwJ, mSwJ, mKwJ, mIwJ, mJwJ, mRwJ, mLwJ, mAIwJ, mAJwJ, mARwJ, mNwR, mSwR, mKwR, mIwR, mJwR, mRwR, mLwR, mAIwR, mAJwR, mARwR, mNwAI, mSwAI, mKwAI, mIwAI, mJwAI, mRwAI, mLwAI, mAIwAI, mAJwAI, mARwAI, mNwAJ, mSwAJ, mKwAJ, mIwAJ, mJwAJ, mRwAJ, mLwAJ, mAIwAJ, mAJwAJ, mARwAJ, mNwAR, mSwAR, mKwAR, mIwAR, mJwAR, mRwAR, mLwAR, mAIwAR, mAJwAR, mARwAR, okkwI, okkwJ, okkwR, okkwAI, okkwAJ, okkwAR], h7.fr (by simp [mNwI, mSwI, mKwI, mIwI, mJwI, mRwI, mLwI, mAIwI, mAJwI, mARwI, mNwJ, mSwJ, mKwJ, mIwJ, mJwJ, mRwJ, mLwJ, mAIwJ, mAJwJ, mARwJ, mNwR, mSwR, mKwR, mIwR, mJwR, mRwR, mLwR, mAIwR, mAJwR, mARwR, mNwAI, mSwAI, mKwAI, mIwAI, mJwAI, mRwAI, mLwAI, mAIwAI, mAJwAI, mARwAI, mNwAJ, mSwAJ, mKwAJ, mIwAJ, mJwAJ, mRwAJ, mLwAJ, mAIwAJ, mAJwAJ, mARwAJ, mNwAR, mSwAR, mKwAR, mIwAR, mJwAR, mRwAR, mLwAR, mAIwAR, mAJwAR, mARwAR, okkwI, okkwJ, okkwR, okkwAI, okkwAJ, okkwAR]) rfl, h8.fr (by simp [mNwI, mSwI, mKwI, mIwI, mJwI, mRwI, mLwI, mAIwI, mAJwI, mARwI, mNwJ, mSwJ, mKwJ, mIwJ, mJwJ, mRwJ, mLwJ, mAIwJ, mAJwJ, mARwJ, mNwR, mSwR, mKwR, mIwR, mJwR, mRwR, mLwR, mAIwR, mAJwR, mARwR, mNwAI, mSwAI, mKwAI, mIwAI, mJwAI, mRwAI, mLwAI, mAIwAI, mAJwAI, mARwAI, mNwAJ, mSwAJ, mKwAJ, mIwAJ, mJwAJ, mRwAJ, mLwAJ, mAIwAJ, mAJwAJ, mARwAJ, mNwAR, mSwAR, mKwAR, mIwAR, mJwAR, mRwAR, mLwAR, mAIwAR, mAJwAR, mARwAR, okkwI, okkwJ, okkwR, okkwAI, okkwAJ, okkwAR]) rfl, h9.fr rfl rfl rfl rfl rfl, h10⟩ fr2
theorem G_opening {op : Nat} (hz : ∀ i, n ≤ i → b i = 0) (hR : SC b n s m sN ro mx vN (0, 0) M i o pr σ ν Y) (hB : By b) (hs : i < s) (h1' : tK b n i ≠ 1) (hop : op = 2 ∧ wdK (tK b n i) ∨ op = 5) (H1 : o < 15 → tK b n (i + 1) ≠ 0 → ∀ M', SC b n s m sN ro mx vN (0, 0) M' (i + 1) (o + 1) (pr + (if op = 5 then 1 else 0)) (op :: σ) ν Y → RFc m M M' → Q none M') (H0 : o < 15 → tK b n (i + 1) = 0 → ∀ M', TXr M' 1 (tP b n (i + 1)) → RFc m M M' → Q none M') (H6 : o = 15 → ∀ M', TXr M' 6 (tP b n i) → RFc m M M' → Q none M') : E (h + 3) mdX11_opening [.ref 29, .int (Int32.ofNat op)] M Q := by
  obtain ⟨h1, h2, h3, h4, h5, h6, h7, h8, h9, h10⟩ := id hR
  have F := h1.1
  have hop' : op = 2 ∨ op = 5 := by omega
  have hbt : 2 * (Y.length + wt (op :: σ)) ≤ bt b n (i + 1) := by
    rw [wt_cons]
    have := h10.1.1
    rcases hop with ⟨q, w⟩ | q
    · have := bt_word hz hB w
      rw [if_neg (by omega)]; omega
    · have := bt_mono hz h1'
      rw [if_pos q]; omega
  refine KX11_opening ?_
  unfold DX11_opening_0 DX11_opening_73 DX11_opening_78 DX11_opening_86
  rw [h5, succ32]
  have e15 : (Int32.ofNat o = 15) ↔ o = 15 := ⟨fun z => inj32 (b := 15) (by omega) (by decide) z, fun z => by rw [z]; rfl⟩
  refine ⟨ok29 F, fun hc => ?_, fun hc => ?_⟩
  · have ho : o < 15 := by
      have : o ≠ 15 := fun z => hc (e15.mpr z)
      have := h10.2.2.1
      omega
    intro A a
    have FA : Fix A := by rw [a]; exact F.i
    have iA : mI A 29 29 = Int32.ofNat σ.length := by rw [a]; simp [h7.1, mNwI, mSwI, mKwI, mIwI, mJwI, mRwI, mLwI, mAIwI, mAJwI, mARwI, mNwJ, mSwJ, mKwJ, mIwJ, mJwJ, mRwJ, mLwJ, mAIwJ, mAJwJ, mARwJ, mNwR, mSwR, mKwR, mIwR, mJwR, mRwR, mLwR, mAIwR, mAJwR, mARwR, mNwAI, mSwAI, mKwAI, mIwAI, mJwAI, mRwAI, mLwAI, mAIwAI, mAJwAI, mARwAI, mNwAJ, mSwAJ, mKwAJ, mIwAJ, mJwAJ, mRwAJ, mLwAJ, mAIwAJ, mAJwAJ, mARwAJ, mNwAR, mSwAR, mKwAR, mIwAR, mJwAR, mRwAR, mLwAR, mAIwAR, mAJwAR, mARwAR, okkwI, okkwJ, okkwR, okkwAI, okkwAJ, okkwAR]
    rw [iA, lt32 (by omega)]
    refine ⟨52, rf29_28 FA, ok52 FA, by rw [ln52 FA]; exact vp_of (by omega) (by decide), fun B bb C c => ?_⟩
    have iB : mI B 29 29 = Int32.ofNat σ.length := by rw [bb, mI_wAI]; exact iA
    rw [iB, succ32] at c
    have iC : mI C 29 32 = Int32.ofNat pr := by rw [c, bb, a]; simp [h6, mNwI, mSwI, mKwI, mIwI, mJwI, mRwI, mLwI, mAIwI, mAJwI, mARwI, mNwJ, mSwJ, mKwJ, mIwJ, mJwJ, mRwJ, mLwJ, mAIwJ, mAJwJ, mARwJ, mNwR, mSwR, mKwR, mIwR, mJwR, mRwR, mLwR, mAIwR, mAJwR, mARwR, mNwAI, mSwAI, mKwAI, mIwAI, mJwAI, mRwAI, mLwAI, mAIwAI, mAJwAI, mARwAI, mNwAJ, mSwAJ, mKwAJ, mIwAJ, mJwAJ, mRwAJ, mLwAJ, mAIwAJ, mAJwAJ, mARwAJ, mNwAR, mSwAR, mKwAR, mIwAR, mJwAR, mRwAR, mLwAR, mAIwAR, mAJwAR, mARwAR, okkwI, okkwJ, okkwR, okkwAI, okkwAJ, okkwAR]
    have FC : Fix C := by rw [c, bb, a]; exact F.i.ai.i
    have frC : RFc m M C := by rw [c, bb, a]; exact ((RFc.i (by decide)).tr (RFc.st (Or.inl rfl))).tr (RFc.i (by decide))
    have stC : St C 52 29 0 (op :: σ) := (h7.fr (M' := A) (by rw [a]; simp [mNwI, mSwI, mKwI, mIwI, mJwI, mRwI, mLwI, mAIwI, mAJwI, mARwI, mNwJ, mSwJ, mKwJ, mIwJ, mJwJ, mRwJ, mLwJ, mAIwJ, mAJwJ, mARwJ, mNwR, mSwR, mKwR, mIwR, mJwR, mRwR, mLwR, mAIwR, mAJwR, mARwR, mNwAI, mSwAI, mKwAI, mIwAI, mJwAI, mRwAI, mLwAI, mAIwAI, mAJwAI, mARwAI, mNwAJ, mSwAJ, mKwAJ, mIwAJ, mJwAJ, mRwAJ, mLwAJ, mAIwAJ, mAJwAJ, mARwAJ, mNwAR, mSwAR, mKwAR, mIwAR, mJwAR, mRwAR, mLwAR, mAIwAR, mAJwAR, mARwAR, okkwI, okkwJ, okkwR, okkwAI, okkwAJ, okkwAR]) (by rw [a]; rfl)).push (x := op) (by rw [c, bb, Nat.zero_add])
    have rC : ∀ q, q ≠ 52 → mAI C q = mAI M q := fun q hq => by rw [c, mAI_wI, bb, mAI_wAI_ne hq, a]; rfl
    have fin : ∀ (D : Mem) (q : Nat), q ≤ 1 → D = wI C 29 32 (Int32.ofNat pr + Int32.ofNat q) → (if op = 5 then 1 else 0) = q → ok D 29 13 ∧ E (h + 2) mdX11_take [.ref 29] D (fun r M4 => mE D M4 → r = none ∧ Q none M4) := by
      intro D q hq d eq
      rw [add32] at d
      have frD : RFc m M D := by rw [d]; exact frC.tr (RFc.i (by decide))
      have rD : ∀ q, q ≠ 52 → mAI D q = mAI M q := fun q hq => by rw [d, mAI_wI]; exact rC q hq
      refine ⟨ok29 (frD.fix F), G_take (pr := pr + q) (o := o + 1) (σ := op :: σ) (ν := ν) (Y := Y) (h1.frc frD) ⟨h2.1, h2.2.1, hs⟩ (by rw [d, c, bb, a]; simp [h3, mNwI, mSwI, mKwI, mIwI, mJwI, mRwI, mLwI, mAIwI, mAJwI, mARwI, mNwJ, mSwJ, mKwJ, mIwJ, mJwJ, mRwJ, mLwJ, mAIwJ, mAJwJ, mARwJ, mNwR, mSwR, mKwR, mIwR, mJwR, mRwR, mLwR, mAIwR, mAJwR, mARwR, mNwAI, mSwAI, mKwAI, mIwAI, mJwAI, mRwAI, mLwAI, mAIwAI, mAJwAI, mARwAI, mNwAJ, mSwAJ, mKwAJ, mIwAJ, mJwAJ, mRwAJ, mLwAJ, mAIwAJ, mAJwAJ, mARwAJ, mNwAR, mSwAR, mKwAR, mIwAR, mJwAR, mRwAR, mLwAR, mAIwAR, mAJwAR, mARwAR, okkwI, okkwJ, okkwR, okkwAI, okkwAJ, okkwAR]) (by rw [d, c, bb, a]; simp [show mI M 29 6 = 0 from h4.1, mNwI, mSwI, mKwI, mIwI, mJwI, mRwI, mLwI, mAIwI, mAJwI, mARwI, mNwJ, mSwJ, mKwJ, mIwJ, mJwJ, mRwJ, mLwJ, mAIwJ, mAJwJ, mARwJ, mNwR, mSwR, mKwR, mIwR, mJwR, mRwR, mLwR, mAIwR, mAJwR, mARwR, mNwAI, mSwAI, mKwAI, mIwAI, mJwAI, mRwAI, mLwAI, mAIwAI, mAJwAI, mARwAI, mNwAJ, mSwAJ, mKwAJ, mIwAJ, mJwAJ, mRwAJ, mLwAJ, mAIwAJ, mAJwAJ, mARwAJ, mNwAR, mSwAR, mKwAR, mIwAR, mJwAR, mRwAR, mLwAR, mAIwAR, mAJwAR, mARwAR, okkwI, okkwJ, okkwR, okkwAI, okkwAJ, okkwAR]) (by rw [d, c, bb, a]; simp [mNwI, mSwI, mKwI, mIwI, mJwI, mRwI, mLwI, mAIwI, mAJwI, mARwI, mNwJ, mSwJ, mKwJ, mIwJ, mJwJ, mRwJ, mLwJ, mAIwJ, mAJwJ, mARwJ, mNwR, mSwR, mKwR, mIwR, mJwR, mRwR, mLwR, mAIwR, mAJwR, mARwR, mNwAI, mSwAI, mKwAI, mIwAI, mJwAI, mRwAI, mLwAI, mAIwAI, mAJwAI, mARwAI, mNwAJ, mSwAJ, mKwAJ, mIwAJ, mJwAJ, mRwAJ, mLwAJ, mAIwAJ, mAJwAJ, mARwAJ, mNwAR, mSwAR, mKwAR, mIwAR, mJwAR, mRwAR, mLwAR, mAIwAR, mAJwAR, mARwAR, okkwI, okkwJ, okkwR, okkwAI, okkwAJ, okkwAR]) (by rw [d]; simp [mNwI, mSwI, mKwI, mIwI, mJwI, mRwI, mLwI, mAIwI, mAJwI, mARwI, mNwJ, mSwJ, mKwJ, mIwJ, mJwJ, mRwJ, mLwJ, mAIwJ, mAJwJ, mARwJ, mNwR, mSwR, mKwR, mIwR, mJwR, mRwR, mLwR, mAIwR, mAJwR, mARwR, mNwAI, mSwAI, mKwAI, mIwAI, mJwAI, mRwAI, mLwAI, mAIwAI, mAJwAI, mARwAI, mNwAJ, mSwAJ, mKwAJ, mIwAJ, mJwAJ, mRwAJ, mLwAJ, mAIwAJ, mAJwAJ, mARwAJ, mNwAR, mSwAR, mKwAR, mIwAR, mJwAR, mRwAR, mLwAR, mAIwAR, mAJwAR, mARwAR, okkwI, okkwJ, okkwR, okkwAI, okkwAJ, okkwAR]) (stC.fr (by rw [d]; simp [mNwI, mSwI, mKwI, mIwI, mJwI, mRwI, mLwI, mAIwI, mAJwI, mARwI, mNwJ, mSwJ, mKwJ, mIwJ, mJwJ, mRwJ, mLwJ, mAIwJ, mAJwJ, mARwJ, mNwR, mSwR, mKwR, mIwR, mJwR, mRwR, mLwR, mAIwR, mAJwR, mARwR, mNwAI, mSwAI, mKwAI, mIwAI, mJwAI, mRwAI, mLwAI, mAIwAI, mAJwAI, mARwAI, mNwAJ, mSwAJ, mKwAJ, mIwAJ, mJwAJ, mRwAJ, mLwAJ, mAIwAJ, mAJwAJ, mARwAJ, mNwAR, mSwAR, mKwAR, mIwAR, mJwAR, mRwAR, mLwAR, mAIwAR, mAJwAR, mARwAR, okkwI, okkwJ, okkwR, okkwAI, okkwAJ, okkwAR]) (by rw [d]; rfl)) (h8.fr (by rw [d, c, bb, a]; simp [mNwI, mSwI, mKwI, mIwI, mJwI, mRwI, mLwI, mAIwI, mAJwI, mARwI, mNwJ, mSwJ, mKwJ, mIwJ, mJwJ, mRwJ, mLwJ, mAIwJ, mAJwJ, mARwJ, mNwR, mSwR, mKwR, mIwR, mJwR, mRwR, mLwR, mAIwR, mAJwR, mARwR, mNwAI, mSwAI, mKwAI, mIwAI, mJwAI, mRwAI, mLwAI, mAIwAI, mAJwAI, mARwAI, mNwAJ, mSwAJ, mKwAJ, mIwAJ, mJwAJ, mRwAJ, mLwAJ, mAIwAJ, mAJwAJ, mARwAJ, mNwAR, mSwAR, mKwAR, mIwAR, mJwAR, mRwAR, mLwAR, mAIwAR, mAJwAR, mARwAR, okkwI, okkwJ, okkwR, okkwAI, okkwAJ, okkwAR]) (rD 53 (by decide))) (h9.fr (rD 40 (by decide)) (rD 44 (by decide)) (rD 45 (by decide)) (rD 46 (by decide)) (rD 47 (by decide))) ⟨⟨hbt, by show σ.length + 1 ≤ i + 1; omega⟩, by omega, by omega, by omega, h10.2.2.2.2⟩ hB (fun k1 M' R' F' _ => ⟨rfl, H1 ho k1 M' (by rw [eq]; exact R') (frD.tr F')⟩) (fun k1 M' T' F' _ => ⟨rfl, H0 ho k1 M' (T'.x (by decide)) (frD.tr F')⟩)⟩
    rw [iC]
    refine ⟨fun hc5 => ?_, fun h5' => ⟨fun h9 => ?_, fun h9 => ?_⟩⟩
    · have hop5 : op = 5 := inj32 (b := 5) (by omega) (by decide) hc5
      exact ⟨ok29 FC, fun D d => fin D 1 (by omega) d (by rw [if_pos hop5])⟩
    · have hop5 : op ≠ 5 := fun z => h5' (by rw [z]; rfl)
      exact ⟨ok29 FC, fun D d => fin D 0 (by omega) d (by rw [if_neg hop5])⟩
    · exfalso
      have := inj32 (b := 9) (by omega) (by decide) h9
      omega
  · rw [h3, lt32 (by omega)]
    exact ⟨32, rf29_3 F, ok32 F, by rw [ln32 F]; exact vp_of (by omega) (by decide), G_fails hR hB (by decide) (fun M' T' F' _ => ⟨rfl, H6 (e15.mp hc) M' T' F'⟩)⟩
theorem G_nots {w : Int32 × Int32} {k r : Nat} {σ0 ν0 : List Nat} (hz : ∀ i, n ≤ i → b i = 0) (ht : top? σ0 (fun x => x ≠ 2)) (h100 : ∀ x ∈ σ0, x < 100) (hR : SC b n s m sN ro mx vN w M i (o + k) pr (List.replicate k 2 ++ σ0) (r :: ν0) Y) (H : ∀ M', SC b n s m sN ro mx vN w M' i o pr σ0 ((nc k r Y).1 :: ν0) (nc k r Y).2 → RFc m M M' → Q none M') : E (h + 2) mdX11_closeNots [.ref 29] M Q := by
  refine E.of (by decide) (Nat.le_of_ble_eq_true rfl) (fun _ _ _ => trivial) ?_
  show T _ _ 0 [(0, .ref 29)] [] M _
  exact G_notsT hz ht h100 k M i o r Y hR H
def EndC (b : Nat → Int32) (n s m : Nat) (sN : List Int64) (ro mx : List Int32) (vN : List Int64) (M : Mem) (o k pr : Nat) (σ0 ν : List Nat) (K : Mem → Prop) (Kx : Mem → Prop) (R : Except (Int32 × Nat) (Nat × List Cd)) : Prop := match R with
  | .ok r => ∀ M', SC b n s m sN ro mx vN (0, 0) M' r.1 o pr σ0 ((nc k (r.2.length - 1) r.2).1 :: ν) (nc k (r.2.length - 1) r.2).2 → RFc m M M' → K M'
  | .error e => ∀ M', TXr M' e.1 e.2 → RFc m M M' → Kx M'
theorem pq_app {Y : List Cd} {p k : Nat} (j : Nat) : pq (Y ++ [(p, k, 0)]) j = (pq Y j || decide (p = 1 ∧ k = j)) := by
  unfold pq; rw [List.any_append]; simp
theorem bool_nar0 : vp_nar .boolean (0 : Int32) = 0 := by decide
theorem bool_nar1 : vp_nar .boolean (1 : Int32) = 1 := by decide
set_option maxHeartbeats 400000 in
/-- an operand of a condition, and the nots ahead of it -/
theorem G_operand {k p : Nat} {σ0 : List Nat} (hz : ∀ i, n ≤ i → b i = 0) (hR : SC b n s m sN ro mx vN (0, 0) M i (o + k) pr (List.replicate k 2 ++ σ0) ν Y) (hB : By b) (hS : Sto b n s) (h0 : tK b n i ≠ 0) (ht : top? σ0 (fun x => x ≠ 2)) (h100 : ∀ x ∈ σ0, x < 100) (hp : p < 2) (H : EndC b n s m sN ro mx vN M o k pr σ0 ν (fun M' => Q none M') (fun M' => Q none M') (rc0 b n sN p i Y)) : E (h + 4) mdX11_condOperand [.ref 29, .int (Int32.ofNat p)] M Q := by
  obtain ⟨h1, h2, h3, h4, h5, h6, h7, h8, h9, h10⟩ := id hR
  have F := h1.1
  have tk := hR.tk hB
  have h8' : i < 802 := by omega
  have v32 : vp_in (Int32.ofNat i) (mL M 32) := by rw [ln32 F]; exact vp_of h8' (by decide)
  have v33 : vp_in (Int32.ofNat i) (mL M 33) := by rw [ln33 F]; exact vp_of h8' (by decide)
  unfold rc0 at H
  refine KX11_condOperand ?_
  unfold DX11_condOperand_0 DX11_condOperand_24 DX11_condOperand_105 DX11_condOperand_110 DX11_condOperand_122 DX11_condOperand_138
  refine ⟨ok29 F, K_name tk (fun k2 _ => ⟨_, rfl, fun z => absurd z (by decide), fun _ => ?_⟩) (fun k2 _ => ⟨_, rfl, fun _ => ⟨ok29 F, K_name tk (fun z => absurd z k2) (fun _ _ => ⟨_, rfl, fun z => absurd rfl z, fun _ => ?_⟩)⟩, fun z => absurd rfl z⟩)⟩
  · rw [if_pos k2] at H
    have hs := hS.lt h2.2.2 h0 (by rw [k2]; decide)
    rw [h3, lt32 (by omega)]
    refine ⟨33, rf29_4 F, ok33 F, v33, R_sigNamed F h1.2.2 (tk.nm k2) (fun _ => ⟨_, rfl, ok29 F, K_name tk (fun _ _ => ⟨_, rfl, fun _ => ⟨fun qv => ?_, fun qv => ?_⟩, fun z => absurd z (by decide)⟩) (fun z => absurd k2 z)⟩)⟩
    · cases e : fd sN (tC b n i) with
      | none => rw [e] at qv; exact absurd rfl qv
      | some j =>
        rw [e] at H
        have H : EndC b n s m sN ro mx vN M o k pr σ0 ν (fun M' => Q none M') (fun M' => Q none M') ((adv' b n i).bind fun j' => .ok (j', Y ++ [(p, j, 0)])) := H
        have hj := (fd_some e).1
        obtain ⟨c1, c2, c3, c4, c5, c6, c7, c8, c9⟩ := h1.2.2
        have e16 : (16 : Int32) * mI M 29 19 + oi (some j) = Int32.ofNat (16 * m + j) := by
          rw [c1, show (16 : Int32) = Int32.ofNat 16 from rfl, mul32]; exact add32
        rw [e16, lt32 (by omega)]
        have v40 : ∀ {M : Mem}, Fix M → vp_in (Int32.ofNat (16 * m + j)) (mL M 40) := fun F => by rw [ln40 F]; exact vp_of (by omega) (by decide)
        have hw : wdK (tK b n i) := Or.inl k2
        have hbt := bt_word hz hB hw
        have hbl := bt_le (b := b) (n := n) (i := i) hz
        -- what is left behind the mark of the signal
        have rest : ∀ (A : Mem) (v : Int32), A = wAI M 40 (16 * m + j) v → v = (if pq (Y ++ [(p, j, 0)]) j = true then 1 else 0) → ok A 29 13 ∧ E (h + 3) mdX11_cond [.ref 29, .int (Int32.ofNat p), .int (Int32.ofNat j), .int 0] A (fun r M2 => mE A M2 → ∃ r3 : Int32, r = some (.int r3) ∧ ok M2 29 13 ∧ E (h + 3) mdX11_pushed [.ref 29, .int r3] M2 (fun r M5 => mE M2 M5 → r = none ∧ ok M5 29 13 ∧ E (h + 3) mdX11_take [.ref 29] M5 (fun r M7 => mE M5 M7 → r = none ∧ E (h + 3) mdX11_closeNots [.ref 29] M7 (fun r M8 => mE M7 M8 → r = none ∧ Q none M8)))) := by
          intro A v eA ev
          have fA : RFc m M A := by
            rw [eA]
            refine ⟨rfl, rfl, rfl, rfl, rfl, rfl, rfl, fun _ _ => rfl, fun _ _ => rfl, fun a q => up2_row (by rintro rfl; exact q (by decide)), rfl, fun q _ => by rw [mAI_wAI, if_neg (by omega)], fun q _ => ⟨by rw [mAI_wAI, if_neg (by omega)], by rw [mAI_wAI, if_neg (by omega)], by rw [mAI_wAI, if_neg (by omega)]⟩, fun q _ => by rw [mAI_wAI, if_neg (by omega)]⟩
          have FA := fA.fix F
          have rA : ∀ q, q ≠ 40 → mAI A q = mAI M q := fun q hq => by rw [eA]; exact mAI_wAI_ne hq
          have c40 : ∀ q, q < sN.length → mAI A 40 (16 * m + q) = if pq (Y ++ [(p, j, 0)]) q = true then 1 else 0 := by
            intro q hq
            rw [eA, mAI_wAI]
            by_cases hqj : q = j
            · rw [if_pos ⟨rfl, by omega⟩, ev, hqj]
            · rw [if_neg (by rintro ⟨-, z⟩; omega), h9.2.2 q hq, pq_app]
              have : decide (p = 1 ∧ j = q) = false := decide_eq_false (fun z => hqj z.2.symm)
              rw [this, Bool.or_false]
          have hYl : Y.length < 410 := by have := h10.1.1; omega
          have yA : YR 0 A m Y := ⟨by rw [rA 44 (by decide)]; exact h9.1, fun q hq => by rw [rA 45 (by decide), rA 46 (by decide), rA 47 (by decide)]; exact h9.2.1 q hq, fun q hq => absurd hq (Nat.not_lt_zero _)⟩
          refine ⟨ok29 FA, G_cond (d := (p, j, 0)) (h1.frc fA) yA hYl (by unfold ya; rw [if_pos (by show p < 2; exact hp)]) (by unfold yb; rw [if_pos (by show p ≤ 2; omega)]) c40 (fun D xD iD0 s52 s53 cD fD _ => ⟨_, rfl, ok29 cD.1, KX11_pushed ?_⟩)⟩
          have iD : ∀ f, mI D 29 f = mI M 29 f := fun f => (iD0 f).trans (by rw [eA]; rfl)
          have FD := cD.1
          unfold DX11_pushed_0
          have e31 : mI D 29 31 = Int32.ofNat ν.length := (iD 31).trans h8.1
          rw [e31, lt32 (by omega)]
          refine ⟨ok29 FD, 53, rf29_30 FD, ok53 FD, by rw [ln53 FD]; exact vp_of (by omega) (by decide), fun M4 e4 M5 e5 => ?_⟩
          have i4 : mI M4 29 31 = Int32.ofNat ν.length := by rw [e4, mI_wAI]; exact e31
          rw [i4, succ32, e4] at e5
          have g : ∀ f, f ≠ 31 → mI M5 29 f = mI M 29 f := by intro f hf; rw [e5]; simp [hf, iD, mNwI, mSwI, mKwI, mIwI, mJwI, mRwI, mLwI, mAIwI, mAJwI, mARwI, mNwJ, mSwJ, mKwJ, mIwJ, mJwJ, mRwJ, mLwJ, mAIwJ, mAJwJ, mARwJ, mNwR, mSwR, mKwR, mIwR, mJwR, mRwR, mLwR, mAIwR, mAJwR, mARwR, mNwAI, mSwAI, mKwAI, mIwAI, mJwAI, mRwAI, mLwAI, mAIwAI, mAJwAI, mARwAI, mNwAJ, mSwAJ, mKwAJ, mIwAJ, mJwAJ, mRwAJ, mLwAJ, mAIwAJ, mAJwAJ, mARwAJ, mNwAR, mSwAR, mKwAR, mIwAR, mJwAR, mRwAR, mLwAR, mAIwAR, mAJwAR, mARwAR, okkwI, okkwJ, okkwR, okkwAI, okkwAJ, okkwAR]
          have st5 : St M5 53 31 (410 * m) (Y.length :: ν) := (h8.fr (iD 31) (s53.trans (rA 53 (by decide)))).push e5
          have F5 : RFc m D M5 := by rw [e5]; exact (RFc.st (Or.inr rfl)).tr (RFc.i (by decide))
          have r5 : ∀ q, q ≠ 53 → mAI M5 q = mAI D q := fun q hq => by rw [e5, mAI_wI]; exact mAI_wAI_ne hq
          have ops5 : St M5 52 29 0 (List.replicate k 2 ++ σ0) := h7.fr (g 29 (by decide)) ((r5 52 (by decide)).trans (s52.trans (rA 52 (by decide))))
          have x5 : YR sN.length M5 m (Y ++ [(p, j, 0)]) := xD.fr (r5 40 (by decide)) (r5 44 (by decide)) (r5 45 (by decide)) (r5 46 (by decide)) (r5 47 (by decide))
          refine fun _ => ⟨rfl, ok29 (F5.fix FD), G_take (h := h + 1) (pr := pr) (o := o + k) (cD.frc F5) ⟨h2.1, h2.2.1, hs⟩ ((g 5 (by decide)).trans h3) ((g 6 (by decide)).trans h4.1) ((g 33 (by decide)).trans h5) ((g 32 (by decide)).trans h6) ops5 st5 x5 ⟨⟨?_, by omega⟩, by show ν.length + 1 ≤ i + 1; omega, h10.2.2.1, by omega, fun y hy => ?_⟩ hB (fun k1 M6 R6 F6 _ => ⟨rfl, ?_⟩) (fun k1 M6 R6 F6 _ => ⟨rfl, ?_⟩)⟩
          · rw [List.length_append]
            show 2 * (Y.length + 1 + _) ≤ _
            have := h10.1.1
            omega
          · rw [List.length_append]
            show y < Y.length + 1
            rcases List.mem_cons.mp hy with q | q
            · omega
            · have := h10.2.2.2.2 y q
              omega
          · rw [adv_ok' k1] at H
            refine G_nots (h := h + 1) hz ht h100 R6 (fun M' R' F' _ => ⟨rfl, H M' ?_ ((((fA.tr fD).tr F5).tr F6).tr F')⟩)
            have e2 : (Y ++ [((p, j, 0) : Cd)]).length - 1 = Y.length := by rw [List.length_append]; rfl
            show SC b n s m sN ro mx vN (0, 0) M' (i + 1) o pr σ0 ((nc k ((Y ++ [((p, j, 0) : Cd)]).length - 1) (Y ++ [(p, j, 0)])).1 :: ν) (nc k ((Y ++ [((p, j, 0) : Cd)]).length - 1) (Y ++ [(p, j, 0)])).2
            rw [e2]
            exact R'
          · rw [adv_er' k1] at H
            exact G_nots (h := h + 1) hz ht h100 R6 (fun M' R' F' _ => ⟨rfl, H M' (R'.x (by decide)) ((((fA.tr fD).tr F5).tr F6).tr F')⟩)
        have old := h9.2.2 j hj
        refine ⟨40, rf29_14 F, 40, rf29_14 F, ok40 F, v40 F, fun q0 => ?_, fun q0 => ⟨fun qp => ?_, fun qp => ?_⟩⟩
        all_goals rw [old] at q0
        · have pj : pq Y j = true := by
            by_cases z : pq Y j = true
            · exact z
            · rw [if_neg z] at q0; exact absurd rfl q0
          refine ⟨ok40 F, v40 F, fun A eA => ?_⟩
          have ev : vp_nar .boolean (1 : Int32) = (if pq (Y ++ [(p, j, 0)]) j = true then 1 else 0) := by rw [pq_app, pj, Bool.true_or, if_pos rfl]; exact bool_nar1
          have := rest A _ eA ev
          refine ⟨fun qp => ?_, fun qp => ?_⟩
          · have p0 : p = 0 := inj32 (b := 0) (by omega) (by decide) qp
            rw [p0] at this; exact this
          · have p1 : p = 1 := by
              have : p ≠ 0 := fun z => qp (by rw [z]; rfl)
              omega
            rw [p1] at this; exact this
        · have p0 : p = 0 := inj32 (b := 0) (by omega) (by decide) qp
          have pj : pq Y j = false := by
            cases z : pq Y j with
            | true => rw [z, if_pos rfl] at q0; exact absurd q0 (by decide)
            | false => rfl
          refine ⟨ok40 F, v40 F, fun A eA => ?_⟩
          have ev : vp_nar .boolean (0 : Int32) = (if pq (Y ++ [(p, j, 0)]) j = true then 1 else 0) := by rw [pq_app, pj, p0, if_neg (by simp)]; exact bool_nar0
          have := rest A _ eA ev
          refine ⟨fun _ => ?_, fun z => absurd qp z⟩
          rw [p0] at this; exact this
        · have p1 : p = 1 := by
            have : p ≠ 0 := fun z => qp (by rw [z]; rfl)
            omega
          refine ⟨ok40 F, v40 F, fun A eA => ?_⟩
          have ev : vp_nar .boolean (1 : Int32) = (if pq (Y ++ [(p, j, 0)]) j = true then 1 else 0) := by
            rw [pq_app, decide_eq_true (show p = 1 ∧ j = j from ⟨p1, rfl⟩), Bool.or_true, if_pos rfl]; exact bool_nar1
          have := rest A _ eA ev
          refine ⟨fun z => absurd z qp, fun _ => ?_⟩
          rw [p1] at this; exact this
    · cases e : fd sN (tC b n i) with
      | none =>
        rw [e] at H
        rw [h3, lt32 (by omega)]
        exact ⟨32, rf29_3 F, ok32 F, v32, G_fails hR hB (by decide) (fun M' T' F' _ => ⟨rfl, H M' T' F'⟩)⟩
      | some j =>
        rw [e] at qv
        exact absurd qv (oi_ne (by have := (fd_some e).1; have := h1.2.2.2.2.1.1; omega))
  · rw [if_neg k2] at H
    rw [h3, lt32 (by omega)]
    exact ⟨32, rf29_3 F, ok32 F, v32, G_fails hR hB (by decide) (fun M' T' F' _ => ⟨rfl, H M' T' F'⟩)⟩
end
