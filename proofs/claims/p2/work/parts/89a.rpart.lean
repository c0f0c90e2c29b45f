/-! the reference reads parts: its state, the small steps -/
abbrev RGp (m : Nat) (M M' : Mem) : Prop := RG m [5, 6, 7, 29, 31, 32, 33, 53, 60] [40, 44, 45, 46, 47, 48, 49, 51, 52, 53, 54, 55, 56, 57, 58, 59, 60, 61, 62, 63, 64, 65, 66, 67, 68, 69, 70, 71, 73, 74, 75, 76, 77, 78] [50, 72] M M'
def RPd (m : Nat) (τ : Td) (K : List KE) (σ : PS) (M : Mem) : Prop := XR M m σ.2.2.1 ∧ YR τ.1.length M m σ.2.2.2 ∧ (∀ c, 58 ≤ c → c ≤ 75 → c ≠ 72 → mAI M c = σ.1.2.1 c) ∧ mAJ M 72 = σ.1.2.2 ∧ (mAI M 54 m = Int32.ofNat (σ.1.1 0) ∧ mAI M 55 m = Int32.ofNat (σ.1.1 1) ∧ mAI M 56 m = Int32.ofNat (σ.1.1 2) ∧ mAI M 57 m = Int32.ofNat (σ.1.1 3)) ∧ mI M 29 53 = Int32.ofNat (σ.1.1 4) ∧ (St M 76 60 0 (K.map (fun e => e.1)) ∧ St M 77 60 0 (K.map (fun e => e.2.1)) ∧ St M 78 60 0 (K.map (fun e => e.2.2.1)))
def RPs (b : Nat → Int32) (n s m : Nat) (τ : Td) (K : List KE) (σ : PS) (M : Mem) (i o : Nat) : Prop := CoR b n s m τ.1 τ.2.1 τ.2.2.1 τ.2.2.2.1 M ∧ (n ≤ 800 ∧ s ≤ n ∧ i ≤ s) ∧ mI M 29 5 = Int32.ofNat i ∧ mI M 29 6 = 0 ∧ mI M 29 33 = Int32.ofNat o ∧ RPd m τ K σ M ∧ (σ.2.2.1.length ≤ i ∧ 2 * σ.2.2.2.length ≤ bt b n i ∧ o ≤ 15)
section
variable {b : Nat → Int32} {n s m : Nat} {τ : Td} {K : List KE} {σ : PS} {M M' : Mem} {i o h : Nat} {Q : Option Value → Mem → Prop}
theorem CoR.rg {sN : List Int64} {ro mx : List Int32} {vN : List Int64} (hc : CoR b n s m sN ro mx vN M) (k : RGp m M M') : CoR b n s m sN ro mx vN M' := by
  obtain ⟨h1, h2, h3⟩ := hc
  refine ⟨k.fix h1 (by decide), fun j hj => ?_, ?_⟩
  · obtain ⟨r1, r2, r3⟩ := h2 j hj
    exact ⟨by rw [k.fA (by decide)]; exact r1, by rw [k.fA (by decide)]; exact r2, by rw [k.fJ (by decide)]; exact r3⟩
  · obtain ⟨e1, e2, e3, e4, e5, e6, e7, e8, e9⟩ := h3
    exact ⟨by rw [k.fI (by decide)]; exact e1, e2, e3, by rw [k.fA (c := 34) (by decide)]; exact e4, by rw [k.fA (c := 36) (by decide)]; exact e5, by rw [k.fJ (c := 37) (by decide)]; exact e6, by rw [k.fA (c := 38) (by decide)]; exact e7, by rw [k.fA (c := 39) (by decide)]; exact e8, by rw [k.fJ (c := 42) (by decide)]; exact e9⟩
theorem RPs.tk (hR : RPs b n s m τ K σ M i o) (hB : By b) : Tk b n M i := ⟨hR.1.1, hB, hR.1.2.1 i hR.2.1.2.2, hR.2.2.1, by have := hR.2.1; omega⟩
theorem RPd.wi {f : Nat} {v : Int32} (hd : RPd m τ K σ M) (h1 : f ≠ 53) (h2 : f ≠ 60) : RPd m τ K σ (wI M 29 f v) := by
  obtain ⟨d1, d2, d3, d4, d5, d6, d7, d8, d9⟩ := hd
  have e3 : mI (wI M 29 f v) 29 53 = mI M 29 53 := up2_ne (fun z => h1 z.2.symm)
  have e0 : mI (wI M 29 f v) 29 60 = mI M 29 60 := up2_ne (fun z => h2 z.2.symm)
  exact ⟨d1.fr rfl rfl rfl rfl, d2.fr rfl rfl rfl rfl rfl, d3, d4, d5, e3.trans d6, d7.fr e0 rfl, d8.fr e0 rfl, d9.fr e0 rfl⟩
theorem RPs.at (hR : RPs b n s m τ K σ M i o) (hz : ∀ i, n ≤ i → b i = 0) (hs : i < s) (h1 : tK b n i ≠ 1) : RPs b n s m τ K σ (wI M 29 5 (Int32.ofNat (i + 1))) (i + 1) o := by
  obtain ⟨c1, c2, c3, c4, c5, c6, c7⟩ := hR
  have := bt_mono (b := b) (n := n) (i := i) hz h1
  exact ⟨c1.rg (RG.i (by decide)), ⟨c2.1, c2.2.1, hs⟩, by simp [mNwI, mSwI, mKwI, mIwI, mJwI, mRwI, mLwI, mAIwI, mAJwI, mARwI, mNwJ, mSwJ, mKwJ, mIwJ, mJwJ, mRwJ, mLwJ, mAIwJ, mAJwJ, mARwJ, mNwR, mSwR, mKwR, mIwR, mJwR, mRwR, mLwR, mAIwR, mAJwR, mARwR, mNwAI, mSwAI, mKwAI, mIwAI, mJwAI, mRwAI, mLwAI, mAIwAI, mAJwAI, mARwAI, mNwAJ, mSwAJ, mKwAJ, mIwAJ, mJwAJ, mRwAJ, mLwAJ, mAIwAJ, mAJwAJ, mARwAJ, mNwAR, mSwAR, mKwAR, mIwAR, mJwAR, mRwAR, mLwAR, mAIwAR, mAJwAR, mARwAR, okkwI, okkwJ, okkwR, okkwAI, okkwAJ, okkwAR], by simp [c4, mNwI, mSwI, mKwI, mIwI, mJwI, mRwI, mLwI, mAIwI, mAJwI, mARwI, mNwJ, mSwJ, mKwJ, mIwJ, mJwJ, mRwJ, mLwJ, mAIwJ, mAJwJ, mARwJ, mNwR, mSwR, mKwR, mIwR, mJwR, mRwR, mLwR, mAIwR, mAJwR, mARwR, mNwAI, mSwAI, mKwAI, mIwAI, mJwAI, mRwAI, mLwAI, mAIwAI, mAJwAI, mARwAI, mNwAJ, mSwAJ, mKwAJ, mIwAJ, mJwAJ, mRwAJ, mLwAJ, mAIwAJ, mAJwAJ, mARwAJ, mNwAR, mSwAR, mKwAR, mIwAR, mJwAR, mRwAR, mLwAR, mAIwAR, mAJwAR, mARwAR, okkwI, okkwJ, okkwR, okkwAI, okkwAJ, okkwAR], by simp [c5, mNwI, mSwI, mKwI, mIwI, mJwI, mRwI, mLwI, mAIwI, mAJwI, mARwI, mNwJ, mSwJ, mKwJ, mIwJ, mJwJ, mRwJ, mLwJ, mAIwJ, mAJwJ, mARwJ, mNwR, mSwR, mKwR, mIwR, mJwR, mRwR, mLwR, mAIwR, mAJwR, mARwR, mNwAI, mSwAI, mKwAI, mIwAI, mJwAI, mRwAI, mLwAI, mAIwAI, mAJwAI, mARwAI, mNwAJ, mSwAJ, mKwAJ, mIwAJ, mJwAJ, mRwAJ, mLwAJ, mAIwAJ, mAJwAJ, mARwAJ, mNwAR, mSwAR, mKwAR, mIwAR, mJwAR, mRwAR, mLwAR, mAIwAR, mAJwAR, mARwAR, okkwI, okkwJ, okkwR, okkwAI, okkwAJ, okkwAR], c6.wi (by decide) (by decide), by omega, by omega, c7.2.2⟩
theorem RPs.op {o' : Nat} (hR : RPs b n s m τ K σ M i o) (ho : o' ≤ 15) : RPs b n s m τ K σ (wI M 29 33 (Int32.ofNat o')) i o' := by
  obtain ⟨c1, c2, c3, c4, c5, c6, c7⟩ := hR
  exact ⟨c1.rg (RG.i (by decide)), c2, by simp [c3, mNwI, mSwI, mKwI, mIwI, mJwI, mRwI, mLwI, mAIwI, mAJwI, mARwI, mNwJ, mSwJ, mKwJ, mIwJ, mJwJ, mRwJ, mLwJ, mAIwJ, mAJwJ, mARwJ, mNwR, mSwR, mKwR, mIwR, mJwR, mRwR, mLwR, mAIwR, mAJwR, mARwR, mNwAI, mSwAI, mKwAI, mIwAI, mJwAI, mRwAI, mLwAI, mAIwAI, mAJwAI, mARwAI, mNwAJ, mSwAJ, mKwAJ, mIwAJ, mJwAJ, mRwAJ, mLwAJ, mAIwAJ, mAJwAJ, mARwAJ, mNwAR, mSwAR, mKwAR, mIwAR, mJwAR, mRwAR, mLwAR, mAIwAR, mAJwAR, mARwAR, okkwI, okkwJ, okkwR, okkwAI, okkwAJ, okkwAR], by simp [c4, mNwI, mSwI, mKwI, mIwI, mJwI, mRwI, mLwI, mAIwI, mAJwI, mARwI, mNwJ, mSwJ, mKwJ, mIwJ, mJwJ, mRwJ, mLwJ, mAIwJ, mAJwJ, mARwJ, mNwR, mSwR, mKwR, mIwR, mJwR, mRwR, mLwR, mAIwR, mAJwR, mARwR, mNwAI, mSwAI, mKwAI, mIwAI, mJwAI, mRwAI, mLwAI, mAIwAI, mAJwAI, mARwAI, mNwAJ, mSwAJ, mKwAJ, mIwAJ, mJwAJ, mRwAJ, mLwAJ, mAIwAJ, mAJwAJ, mARwAJ, mNwAR, mSwAR, mKwAR, mIwAR, mJwAR, mRwAR, mLwAR, mAIwAR, mAJwAR, mARwAR, okkwI, okkwJ, okkwR, okkwAI, okkwAJ, okkwAR], by simp [mNwI, mSwI, mKwI, mIwI, mJwI, mRwI, mLwI, mAIwI, mAJwI, mARwI, mNwJ, mSwJ, mKwJ, mIwJ, mJwJ, mRwJ, mLwJ, mAIwJ, mAJwJ, mARwJ, mNwR, mSwR, mKwR, mIwR, mJwR, mRwR, mLwR, mAIwR, mAJwR, mARwR, mNwAI, mSwAI, mKwAI, mIwAI, mJwAI, mRwAI, mLwAI, mAIwAI, mAJwAI, mARwAI, mNwAJ, mSwAJ, mKwAJ, mIwAJ, mJwAJ, mRwAJ, mLwAJ, mAIwAJ, mAJwAJ, mARwAJ, mNwAR, mSwAR, mKwAR, mIwAR, mJwAR, mRwAR, mLwAR, mAIwAR, mAJwAR, mARwAR, okkwI, okkwJ, okkwR, okkwAI, okkwAJ, okkwAR], c6.wi (by decide) (by decide), c7.1, c7.2.1, ho⟩
/-- one of the parts' rows is written -/
theorem RPd.ra {c k : Nat} {v : Int32} (hd : RPd m τ K σ M) (h1 : 58 ≤ c) (h2 : c ≤ 75) (h3 : c ≠ 72) : RPd m τ K (raP σ (up2 σ.1.2.1 c k v)) (wAI M c k v) := by
  obtain ⟨d1, d2, d3, d4, d5, d6, d7, d8, d9⟩ := hd
  have ne : ∀ {a : Nat}, a ≠ c → mAI (wAI M c k v) a = mAI M a := fun q => mAI_wAI_ne q
  exact ⟨d1.fr (ne (by omega)) (ne (by omega)) rfl (ne (by omega)), d2.fr (ne (by omega)) (ne (by omega)) (ne (by omega)) (ne (by omega)) (ne (by omega)), fun a q1 q2 q3 => up2_cg (d3 a q1 q2 q3), d4, ⟨by rw [ne (by omega)]; exact d5.1, by rw [ne (by omega)]; exact d5.2.1, by rw [ne (by omega)]; exact d5.2.2.1, by rw [ne (by omega)]; exact d5.2.2.2⟩, d6, d7.fr rfl (ne (by omega)), d8.fr rfl (ne (by omega)), d9.fr rfl (ne (by omega))⟩
theorem RGp.ra {c k : Nat} {v : Int32} (h1 : 58 ≤ c) (h2 : c ≤ 78) (h3 : c ≠ 72) (hk : szA c * m ≤ k) : RGp m M (wAI M c k v) := by
  refine RG.ai ?_ hk
  simp only [List.mem_cons, List.not_mem_nil]
  omega
theorem sz_q {c : Nat} (h : 73 ≤ c) (h2 : c ≤ 78) : szA c = 0 := by
  rcases (show c = 73 ∨ c = 74 ∨ c = 75 ∨ c = 76 ∨ c = 77 ∨ c = 78 by omega) with rfl | rfl | rfl | rfl | rfl | rfl <;> decide
theorem sz_p {c : Nat} (h : 58 ≤ c) (h2 : c ≤ 72) : szA c = 40 := by
  rcases (show c = 58 ∨ c = 59 ∨ c = 60 ∨ c = 61 ∨ c = 62 ∨ c = 63 ∨ c = 64 ∨ c = 65 ∨ c = 66 ∨ c = 67 ∨ c = 68 ∨ c = 69 ∨ c = 70 ∨ c = 71 ∨ c = 72 by omega) with rfl | rfl | rfl | rfl | rfl | rfl | rfl | rfl | rfl | rfl | rfl | rfl | rfl | rfl | rfl <;> decide
theorem RPs.ra {c k : Nat} {v : Int32} (hR : RPs b n s m τ K σ M i o) (h1 : 58 ≤ c) (h2 : c ≤ 75) (h3 : c ≠ 72) (hk : szA c * m ≤ k) : RPs b n s m τ K (raP σ (up2 σ.1.2.1 c k v)) (wAI M c k v) i o := by
  obtain ⟨c1, c2, c3, c4, c5, c6, c7⟩ := hR
  exact ⟨c1.rg (RGp.ra h1 (by omega) h3 hk), c2, c3, c4, c5, c6.ra h1 h2 h3, c7⟩
theorem P_take (hR : RPs b n s m τ K σ M i o) (hB : By b) (hz : ∀ i, n ≤ i → b i = 0) (hs : i < s) (h1 : tK b n i ≠ 1) (H1 : tK b n (i + 1) ≠ 0 → ∀ M', RPs b n s m τ K σ M' (i + 1) o → RGp m M M' → Q none M') (H0 : tK b n (i + 1) = 0 → ∀ M', TXr M' 1 (tP b n (i + 1)) → RGp m M M' → Q none M') : E (h + 2) mdX11_take [.ref 29] M Q :=
  K_take (hR.tk hB) hs hR.1.2.1 (by have := hR.2.1; omega) hR.2.2.2.1 (fun k1 => H1 k1 _ (hR.at hz hs h1) (RG.i (by decide))) (fun k1 => H0 k1 _ ⟨hR.1.1.i.i.i, by simp [mNwI, mSwI, mKwI, mIwI, mJwI, mRwI, mLwI, mAIwI, mAJwI, mARwI, mNwJ, mSwJ, mKwJ, mIwJ, mJwJ, mRwJ, mLwJ, mAIwJ, mAJwJ, mARwJ, mNwR, mSwR, mKwR, mIwR, mJwR, mRwR, mLwR, mAIwR, mAJwR, mARwR, mNwAI, mSwAI, mKwAI, mIwAI, mJwAI, mRwAI, mLwAI, mAIwAI, mAJwAI, mARwAI, mNwAJ, mSwAJ, mKwAJ, mIwAJ, mJwAJ, mRwAJ, mLwAJ, mAIwAJ, mAJwAJ, mARwAJ, mNwAR, mSwAR, mKwAR, mIwAR, mJwAR, mRwAR, mLwAR, mAIwAR, mAJwAR, mARwAR, okkwI, okkwJ, okkwR, okkwAI, okkwAJ, okkwAR], by decide, by simp [mNwI, mSwI, mKwI, mIwI, mJwI, mRwI, mLwI, mAIwI, mAJwI, mARwI, mNwJ, mSwJ, mKwJ, mIwJ, mJwJ, mRwJ, mLwJ, mAIwJ, mAJwJ, mARwJ, mNwR, mSwR, mKwR, mIwR, mJwR, mRwR, mLwR, mAIwR, mAJwR, mARwR, mNwAI, mSwAI, mKwAI, mIwAI, mJwAI, mRwAI, mLwAI, mAIwAI, mAJwAI, mARwAI, mNwAJ, mSwAJ, mKwAJ, mIwAJ, mJwAJ, mRwAJ, mLwAJ, mAIwAJ, mAJwAJ, mARwAJ, mNwAR, mSwAR, mKwAR, mIwAR, mJwAR, mRwAR, mLwAR, mAIwAR, mAJwAR, mARwAR, okkwI, okkwJ, okkwR, okkwAI, okkwAJ, okkwAR]⟩ (((RG.i (by decide)).tr (RG.i (by decide))).tr (RG.i (by decide))))
theorem P_fails {c : Int32} (hR : RPs b n s m τ K σ M i o) (hB : By b) (hc : 0 < c) (H : ∀ M', TXr M' c (tP b n i) → RGp m M M' → Q none M') : E (h + 1) mdX11_fails [.ref 29, .int c, .int (mAI M 32 i)] M Q :=
  K_fails (hR.tk hB) hR.2.2.2.1 hc (fun M' e T' => H M' T' (by rw [e]; exact (RG.i (by decide)).tr (RG.i (by decide))))
/-- fails at the token, as the methods write it -/
theorem P_failsA {c : Int32} {H2 : Mem → Prop} (hR : RPs b n s m τ K σ M i o) (hB : By b) (hc : 0 < c) (H : ∀ M', TXr M' c (tP b n i) → RGp m M M' → H2 M') : ∃ b2 : Nat, mR M 29 3 = some b2 ∧ ok M b2 21 ∧ vp_in (mI M 29 5) (mL M b2) ∧ E (h + 1) mdX11_fails [.ref 29, .int c, .int (mAI M b2 (mI M 29 5).toNatClampNeg)] M (fun r M4 => mE M M4 → r = none ∧ H2 M4) := by
  have F := hR.1.1
  have hi := hR.2.1
  rw [hR.2.2.1, lt32 (by omega)]
  exact ⟨32, rf29_3 F, ok32 F, by rw [ln32 F]; exact vp_of (by omega) (by decide), P_fails hR hB hc (fun M' T' F' _ => ⟨rfl, H M' T' F'⟩)⟩
def EndP (b : Nat → Int32) (n s m : Nat) (τ : Td) (K : List KE) (σ : PS) (o : Nat) (M : Mem) (Q : Mem → Prop) (R : Except (Int32 × Nat) Nat) : Prop := match R with
  | .ok j => ∀ M', RPs b n s m τ K σ M' j o → RGp m M M' → Q M'
  | .error e => ∀ M', TXr M' e.1 e.2 → RGp m M M' → Q M'
theorem P_wantX {k x1 : Int32} {v : Int64} (hR : RPs b n s m τ K σ M i o) (hB : By b) (hz : ∀ i, n ≤ i → b i = 0) (hS : Sto b n s) (h0 : tK b n i ≠ 0) (k1 : k ≠ 1) (hI : ∀ Q' : Option Value → Mem → Prop, (tK b n i = k → Q' (some (.int 1)) M) → (tK b n i ≠ k → Q' (some (.int 0)) M) → E (h + 2) mdX11_isSaid [.ref 29, .int x1, .long v] M Q') (hE : EndP b n s m τ K σ o M (fun M' => Q none M') (ex b n i k)) : E (h + 3) mdX11_want [.ref 29, .int x1, .long v] M Q := by
  have F := hR.1.1
  unfold ex at hE
  refine KX11_want ?_
  unfold DX11_want_0 DX11_want_37
  refine ⟨ok29 F, fun z => absurd hR.2.2.2.1 z, fun _ => hI _ (fun q _ => ⟨_, rfl, fun z => absurd z (by decide), fun _ => ?_⟩) (fun q _ => ⟨_, rfl, fun _ => ?_, fun z => absurd rfl z⟩)⟩
  · rw [if_pos q] at hE
    have hs := hS.lt hR.2.1.2.2 h0 (by rw [q]; exact k1)
    refine P_take hR hB hz hs (by rw [q]; exact k1) (fun k1 M' R' F' _ => ⟨rfl, ?_⟩) (fun k1 M' T' F' _ => ⟨rfl, ?_⟩)
    · rw [adv_ok' k1] at hE; exact hE M' R' F'
    · rw [adv_er' k1] at hE; exact hE M' T' F'
  · rw [if_neg q] at hE
    exact P_failsA (h := h + 1) hR hB (by decide) (fun M' T' F' => hE M' T' F')
theorem P_wantS {k : Int32} {v : Int64} (hR : RPs b n s m τ K σ M i o) (hB : By b) (hz : ∀ i, n ≤ i → b i = 0) (hS : Sto b n s) (h0 : tK b n i ≠ 0) (hk : k ∈ sKs) (hv : v = sv k) (hE : EndP b n s m τ K σ o M (fun M' => Q none M') (ex b n i k)) : E (h + 3) mdX11_want [.ref 29, .int 3, .long v] M Q :=
  P_wantX hR hB hz hS h0 (sK_ne k hk).2.1 (fun Q' H1 H0 => K_sign (h := h + 1) (hR.tk hB) hk hv H1 H0) hE
theorem P_wantW {k : Int32} {v : Int64} {j : Nat} (hR : RPs b n s m τ K σ M i o) (hB : By b) (hz : ∀ i, n ≤ i → b i = 0) (hS : Sto b n s) (h0 : tK b n i ≠ 0) (hj : j < 33) (hk : k = 30 + Int32.ofNat j) (hv : v = key27.getD j 0) (hE : EndP b n s m τ K σ o M (fun M' => Q none M') (ex b n i k)) : E (h + 3) mdX11_want [.ref 29, .int 1, .long v] M Q :=
  P_wantX hR hB hz hS h0 (fun z => by have := key_lt ⟨j, hj⟩; rw [← hk, z] at this; exact absurd this (by decide)) (fun Q' H1 H0 => K_key (h := h + 1) (hR.tk hB) hj hk hv H1 H0) hE
end
