/-! the reference's tokens, one behind another -/
theorem TR.aj {M : Mem} {n c i : Nat} {b : Nat → Int32} {v : Int64} (h : TR M n b) : TR (wAJ M c i v) n b := h
theorem r_at {h n i p : Nat} {b : Nat → Int32} {M : Mem} {Q : Option Value → Mem → Prop} (F : Fix M) (hT : TR M n b) (hi : i < 802) (hp : p ≤ n)
    (H : T (h + 3) mdX11_cut 6 [(0, .ref 29), (1, .int (Int32.ofNat (i + 1))), (2, .int (Int32.ofNat (rE b n p))), (3, .int (if rS b n p = 0 ∨ rS b n p = 4 then 0 else 1))] [] (rcF M i p n b) Q) (hb1 : ¬ b p = 32) (hb2 : ¬ b p = 10) : T (h + 3) mdX11_cut 10 [(0, .ref 29), (1, .int (Int32.ofNat i)), (2, .int (Int32.ofNat p)), (3, .int 1)] [] M Q := by
  have hn := hT.1
  refine VX11_cut_10 ?_
  unfold DX11_cut_10
  rw [succ32, lt32 (n := i) (by omega)]
  refine ⟨ok29 F, R_byteAt F hT (by omega) (fun _ => ⟨_, rfl, fun hc => absurd hc hb1, fun _ => R_byteAt F hT (by omega) (fun _ => ⟨_, rfl, fun _ => R_byteAt F hT (by omega) (fun _ => ⟨_, rfl, R_byteAt F hT (by omega) (fun _ => ⟨_, rfl, 32, rf29_3 F, ok32 F, by rw [ln32 F]; exact vp_of hi (by decide), fun A a => ?_⟩)⟩), fun hc => absurd hc hb2⟩)⟩)⟩
  have FA : Fix A := by rw [a]; exact F.ai
  have TA : TR A n b := by rw [a]; exact hT.ai (by decide)
  rw [TA.2.1, ltn32 (by omega) (by omega)]
  unfold rcF at H
  rw [← a] at H
  refine ⟨fun hlt => ?_, fun hge => ?_⟩
  · have hnp : ¬ n ≤ p := by omega
    refine R_isL (fun _ => ⟨_, rfl, fun h0 => ?_, fun h0 => ?_⟩)
    · have h0 : ¬ isL (b p) = true := by intro z; rw [if_pos z] at h0; exact absurd h0 (by decide)
      refine R_isF (fun _ => ⟨_, rfl, fun h1 => ?_, fun h1 => ?_⟩)
      · have h1 : ¬ isF (b p) = true := by intro z; rw [if_pos z] at h1; exact absurd h1 (by decide)
        have eS : rS b n p = sgS (b p) (b (p + 1)) := by unfold rS; rw [if_neg hnp, if_neg h0, if_neg h1]
        have eV : rV b n p = sgV (b p) (b (p + 1)) := by unfold rV; rw [if_neg hnp, if_neg h0, if_neg h1]
        have eE : rE b n p = p + (if tw (b p) (b (p + 1)) = true then 2 else 1) := by unfold rE; rw [if_neg hnp, if_neg h0, if_neg h1]
        rw [eS, eV, eE] at H
        have n0 : sgS (b p) (b (p + 1)) ≠ 0 := by unfold sgS; split <;> decide
        refine r_sgn FA hi (r_end (M := A) FA hi rfl n0 ?_)
        have e4 : (if sgS (b p) (b (p + 1)) = 0 ∨ sgS (b p) (b (p + 1)) = 4 then (0 : Int32) else 1) = if sgS (b p) (b (p + 1)) = 4 then 0 else 1 := by simp [n0]
        rw [e4] at H
        exact H
      · have h1 : isF (b p) = true := by
          cases e : isF (b p) with
          | true => rfl
          | false => rw [e] at h1; exact absurd rfl h1
        have eS : rS b n p = (if rnE isF b n p - p ≤ 6 then 2 else 4) := by unfold rS; rw [if_neg hnp, if_neg h0, if_pos h1]
        have eV : rV b n p = n10 b p (n - p) p 0 := by unfold rV; rw [if_neg hnp, if_neg h0, if_pos h1]
        have eE : rE b n p = rnE isF b n p := by unfold rE; rw [if_neg hnp, if_neg h0, if_pos h1]
        rw [eS, eV, eE] at H
        refine r_num FA TA (n - p) p 0 (by omega) (Nat.le_refl _) ?_
        have n0 : (if rnE isF b n p - p ≤ 6 then (2 : Int32) else 4) ≠ 0 := by split <;> decide
        unfold DX11_cut_253
        rw [lt32 (by omega)]
        refine ⟨ok31 FA, by rw [ln31 FA]; exact vp_of hi (by decide), fun M2 e2 => ?_⟩
        refine r_end (M := A) FA hi e2 n0 ?_
        have e4 : (if (if rnE isF b n p - p ≤ 6 then (2 : Int32) else 4) = 0 ∨ (if rnE isF b n p - p ≤ 6 then (2 : Int32) else 4) = 4 then (0 : Int32) else 1) = if (if rnE isF b n p - p ≤ 6 then (2 : Int32) else 4) = 4 then 0 else 1 := by simp only [n0, false_or]
        rw [e4] at H
        rw [e2]
        exact H
    · have h0 : isL (b p) = true := by
        cases e : isL (b p) with
        | true => rfl
        | false => rw [e] at h0; exact absurd rfl h0
      have eS : rS b n p = (if rnE isL b n p - p ≤ 10 then 1 else 4) := by unfold rS; rw [if_neg hnp, if_pos h0]
      have eV : rV b n p = w27 b p (n - p) p 0 := by unfold rV; rw [if_neg hnp, if_pos h0]
      have eE : rE b n p = rnE isL b n p := by unfold rE; rw [if_neg hnp, if_pos h0]
      rw [eS, eV, eE] at H
      refine r_word FA TA (n - p) p 0 (by omega) (Nat.le_refl _) ?_
      have n0 : (if rnE isL b n p - p ≤ 10 then (1 : Int32) else 4) ≠ 0 := by split <;> decide
      unfold DX11_cut_172
      rw [lt32 (by omega)]
      refine ⟨ok31 FA, by rw [ln31 FA]; exact vp_of hi (by decide), fun M2 e2 => ?_⟩
      refine r_end (M := A) FA hi e2 n0 ?_
      have e4 : (if (if rnE isL b n p - p ≤ 10 then (1 : Int32) else 4) = 0 ∨ (if rnE isL b n p - p ≤ 10 then (1 : Int32) else 4) = 4 then (0 : Int32) else 1) = if (if rnE isL b n p - p ≤ 10 then (1 : Int32) else 4) = 4 then 0 else 1 := by simp only [n0, false_or]
      rw [e4] at H
      rw [e2]
      exact H
  · have hnp : n ≤ p := by omega
    have hpn : p = n := by omega
    have eS : rS b n p = 0 := by unfold rS; rw [if_pos hnp]
    have eV : rV b n p = 0 := by unfold rV; rw [if_pos hnp]
    have eE : rE b n p = p := by unfold rE; rw [if_pos hnp]
    rw [eS, eV, eE, if_pos (Or.inl rfl)] at H
    refine ⟨31, rf29_2 FA, ok31 FA, by rw [ln31 FA]; exact vp_of hi (by decide), fun B bb => ?_⟩
    have FB : Fix B := by rw [bb]; exact FA.ai
    have iB : mI B 29 1 = Int32.ofNat p := by rw [bb, mI_wAI, TA.2.1, hpn]
    refine ⟨32, rf29_3 FB, ok32 FB, by rw [ln32 FB]; exact vp_of hi (by decide), fun C c => ?_⟩
    have eC : C = B := by rw [c, iB]; exact wAI_same (by rw [bb, a]; simp [mNwI, mSwI, mKwI, mIwI, mJwI, mRwI, mLwI, mAIwI, mAJwI, mARwI, mNwJ, mSwJ, mKwJ, mIwJ, mJwJ, mRwJ, mLwJ, mAIwJ, mAJwJ, mARwJ, mNwR, mSwR, mKwR, mIwR, mJwR, mRwR, mLwR, mAIwR, mAJwR, mARwR, mNwAI, mSwAI, mKwAI, mIwAI, mJwAI, mRwAI, mLwAI, mAIwAI, mAJwAI, mARwAI, mNwAJ, mSwAJ, mKwAJ, mIwAJ, mJwAJ, mRwAJ, mLwAJ, mAIwAJ, mAJwAJ, mARwAJ, mNwAR, mSwAR, mKwAR, mIwAR, mJwAR, mRwAR, mLwAR, mAIwAR, mAJwAR, mARwAR, okkwI, okkwJ, okkwR, okkwAI, okkwAJ, okkwAR])
    rw [eC]
    unfold DX11_cut_374 DX11_cut_400 DX11_cut_401
    rw [lt32 (by omega), succ32]
    refine ⟨ok29 FB, 33, rf29_4 FB, ok33 FB, by rw [ln33 FB]; exact vp_of hi (by decide), fun D d => ⟨fun _ => ?_, fun hc => absurd rfl hc⟩⟩
    rw [d, bb]
    exact H
theorem r_blank {h n i : Nat} {b : Nat → Int32} {M : Mem} {Q : Option Value → Mem → Prop} (F : Fix M) (hT : TR M n b) (hi : i < 802) : ∀ (k a : Nat), a + k = n →
    T (h + 3) mdX11_cut 6 [(0, .ref 29), (1, .int (Int32.ofNat (i + 1))), (2, .int (Int32.ofNat (rE b n (runF isB b k a)))), (3, .int (if rS b n (runF isB b k a) = 0 ∨ rS b n (runF isB b k a) = 4 then 0 else 1))] [] (rcF M i (runF isB b k a) n b) Q → T (h + 3) mdX11_cut 10 [(0, .ref 29), (1, .int (Int32.ofNat i)), (2, .int (Int32.ofNat a)), (3, .int 1)] [] M Q := by
  intro k
  have hn := hT.1
  induction k with
  | zero =>
    intro a hk H
    have hb : b a = 0 := hT.2.2.2 a (by omega)
    unfold runF at H
    exact r_at F hT hi (by omega) H (by rw [hb]; decide) (by rw [hb]; decide)
  | succ k ih =>
    intro a hk H
    unfold runF at H
    by_cases hb : isB (b a) = true
    · rw [if_pos hb] at H
      have hi2 := ih (a + 1) (by omega) H
      refine VX11_cut_10 ?_
      unfold DX11_cut_10 DX11_cut_30
      rw [succ32]
      refine ⟨ok29 F, R_byteAt F hT (by omega) (fun _ => ⟨_, rfl, fun _ => hi2, fun hc => R_byteAt F hT (by omega) (fun _ => ⟨_, rfl, fun hc2 => ?_, fun _ => hi2⟩)⟩)⟩
      rcases isB_or.mp hb with q | q
      · exact absurd q hc
      · exact absurd q hc2
    · rw [if_neg hb] at H
      exact r_at F hT hi (by omega) H (fun z => hb (isB_or.mpr (Or.inl z))) (fun z => hb (isB_or.mpr (Or.inr z)))
/-! both go on at the same place, and stop at the same token -/
theorem sg_fin : ∀ k : Fin 256, (¬ idxF (Int32.ofNat k).toInt8.toInt32 12 0 < 0 → Int32.ofNat k ≠ 33 ∧ Int32.ofNat k ≠ 58 ∧ Int32.ofNat k ≠ 60 ∧ Int32.ofNat k ≠ 62 ∧ Int32.ofNat k ≠ 124 ∧ Int32.ofNat k ≠ 61 ∧ isSg (Int32.ofNat k) = true ∧ 13 + idxF (Int32.ofNat k).toInt8.toInt32 12 0 ≠ 0 ∧ 13 + idxF (Int32.ofNat k).toInt8.toInt32 12 0 ≠ 1) ∧ (idxF (Int32.ofNat k).toInt8.toInt32 12 0 < 0 → isSg (Int32.ofNat k) = true → Int32.ofNat k = 58 ∨ Int32.ofNat k = 60 ∨ Int32.ofNat k = 61 ∨ Int32.ofNat k = 62) := by decide +kernel
theorem by_fin {c : Int32} (h0 : ¬ c < 0) (h1 : ¬ 255 < c) : ∃ k : Fin 256, c = Int32.ofNat k := by
  have q0 : ¬ c.toInt < 0 := fun z => h0 (Int32.lt_iff_toInt_lt.mpr z)
  have q1 : ¬ 255 < c.toInt := fun z => h1 (Int32.lt_iff_toInt_lt.mpr z)
  refine ⟨⟨c.toInt.toNat, by omega⟩, Int32.toInt_inj.mp ?_⟩
  show _ = (Int32.ofNat c.toInt.toNat).toInt
  rw [ti32 (by omega)]
  omega
theorem sg_rel {c d : Int32} (h0 : ¬ c < 0) (h1 : ¬ 255 < c) : (if tw c d = true then 2 else 1) = 1 + sgX c d ∧ (sgK c d = 0 ↔ sgS c d = 4) ∧ sgK c d ≠ 1 := by
  obtain ⟨k, rfl⟩ := by_fin h0 h1
  obtain ⟨f1, f2⟩ := sg_fin k
  generalize Int32.ofNat k = c at *
  have hw : tw c d = true ↔ (c = 124 ∧ d = 124) ∨ ((c = 58 ∨ c = 33 ∨ c = 60 ∨ c = 62) ∧ d = 61) := by unfold tw; simp
  by_cases hx : idxF c.toInt8.toInt32 12 0 < 0
  · have f2 := f2 hx
    unfold sgX sgK sgS
    simp only [hx, not_true_eq_false, if_false]
    by_cases c1 : c = 33
    · subst c1
      have e : isSg 33 = false := by decide
      by_cases hd : d = 61
      · subst hd; decide
      · have : ¬ tw 33 d = true := by rw [hw]; simp [hd]
        simp [this, hd, e]
    by_cases c2 : c = 58
    · subst c2
      have e : isSg 58 = true := by decide
      by_cases hd : d = 61
      · subst hd; decide
      · have : ¬ tw 58 d = true := by rw [hw]; simp [hd]
        simp [this, hd, e]
    by_cases c3 : c = 60
    · subst c3
      have e : isSg 60 = true := by decide
      by_cases hd : d = 61
      · subst hd; decide
      · have : ¬ tw 60 d = true := by rw [hw]; simp [hd]
        simp [this, hd, e]
    by_cases c4 : c = 61
    · subst c4
      have e : isSg 61 = true := by decide
      have : ¬ tw 61 d = true := by rw [hw]; simp
      simp [this, e]
    by_cases c5 : c = 62
    · subst c5
      have e : isSg 62 = true := by decide
      by_cases hd : d = 61
      · subst hd; decide
      · have : ¬ tw 62 d = true := by rw [hw]; simp [hd]
        simp [this, hd, e]
    by_cases c6 : c = 124
    · subst c6
      have e : isSg 124 = false := by decide
      by_cases hd : d = 124
      · subst hd; decide
      · have : ¬ tw 124 d = true := by rw [hw]; simp [hd]
        simp [this, hd, e]
    have e : ¬ isSg c = true := fun z => by
      rcases f2 z with q | q | q | q
      · exact c2 q
      · exact c3 q
      · exact c4 q
      · exact c5 q
    have t : ¬ tw c d = true := by rw [hw]; simp [c1, c2, c3, c5, c6]
    simp [e, t, c1, c2, c3, c4, c5, c6]
  · obtain ⟨g1, g2, g3, g4, g5, g6, g7, g8, g9⟩ := f1 hx
    have t : ¬ tw c d = true := by rw [hw]; simp [g1, g2, g3, g4, g5]
    unfold sgX sgK sgS
    simp only [hx, not_false_eq_true, if_true, t, g7, or_true, if_false]
    refine ⟨rfl, ⟨fun z => absurd z g8, fun z => absurd z (by decide)⟩, g9⟩
theorem rE_eq {b : Nat → Int32} {n p : Nat} (hB : By b) : rE b n p = ckE b n p := by
  unfold rE ckE
  split
  · rfl
  · split
    · rfl
    · split
      · rfl
      · rw [(sg_rel (d := b (p + 1)) (hB p).1 (hB p).2).1]; omega
theorem key_ne : ∀ (k j : Nat) (c : Int64), j + k = 33 → keyK c k j ≠ 0 ∧ keyK c k j ≠ 1 := by
  intro k
  induction k with
  | zero => intro j c _; exact ⟨by unfold keyK; decide, by unfold keyK; decide⟩
  | succ k ih =>
    intro j c hj
    unfold keyK
    split
    · have e : (30 : Int32) + Int32.ofNat j = Int32.ofNat (30 + j) := add32 (a := 30)
      rw [e]
      refine ⟨fun z => ?_, fun z => ?_⟩
      · have := inj32 (b := 0) (by omega) (by decide) z
        omega
      · have := inj32 (b := 1) (by omega) (by decide) z
        omega
    · exact ih (j + 1) c (by omega)
theorem rS_rel {b : Nat → Int32} {n p : Nat} (hB : By b) : (rS b n p = 0 ↔ ckK b n p = 1) ∧ (rS b n p = 4 ↔ ckK b n p = 0) := by
  unfold rS ckK
  split
  · exact ⟨⟨fun _ => rfl, fun _ => rfl⟩, ⟨fun z => absurd z (by decide), fun z => absurd z (by decide)⟩⟩
  · split
    · split
      · have k := key_ne 33 0 (spellF b (n - p) p 0) rfl
        exact ⟨⟨fun z => absurd z (by decide), fun z => absurd z k.2⟩, ⟨fun z => absurd z (by decide), fun z => absurd z k.1⟩⟩
      · exact ⟨⟨fun z => absurd z (by decide), fun z => absurd z (by decide)⟩, ⟨fun _ => rfl, fun _ => rfl⟩⟩
    · split
      · split
        · exact ⟨⟨fun z => absurd z (by decide), fun z => absurd z (by decide)⟩, ⟨fun z => absurd z (by decide), fun z => absurd z (by decide)⟩⟩
        · exact ⟨⟨fun z => absurd z (by decide), fun z => absurd z (by decide)⟩, ⟨fun _ => rfl, fun _ => rfl⟩⟩
      · have g := sg_rel (d := b (p + 1)) (hB p).1 (hB p).2
        refine ⟨⟨fun z => absurd z ?_, fun z => absurd z g.2.2⟩, ⟨fun z => g.2.1.mpr z, fun z => g.2.1.mp z⟩⟩
        unfold sgS
        split <;> decide
/-- what the reference's row has of the i-th token -/
def RkR (M : Mem) (b : Nat → Int32) (n i : Nat) : Prop := mAI M 31 i = rS b n (tP b n i) ∧ mAI M 32 i = Int32.ofNat (tP b n i) ∧ mAJ M 33 i = rV b n (tP b n i)
def RFr (M M' : Mem) : Prop := mN M' = mN M ∧ mS M' = mS M ∧ mK M' = mK M ∧ mL M' = mL M ∧ mR M' = mR M ∧ mAR M' = mAR M ∧ mJ M' = mJ M ∧ mI M' = mI M ∧ (∀ a, a ≠ 31 → a ≠ 32 → mAI M' a = mAI M a) ∧ (∀ a, a ≠ 33 → mAJ M' a = mAJ M a)
theorem RFr.rf {M : Mem} : RFr M M := ⟨rfl, rfl, rfl, rfl, rfl, rfl, rfl, rfl, fun _ _ _ => rfl, fun _ _ => rfl⟩
theorem RFr.tr {M M1 M2 : Mem} (h : RFr M M1) (k : RFr M1 M2) : RFr M M2 := by
  obtain ⟨a1, a2, a3, a4, a5, a6, a7, a8, a9, aA⟩ := h
  obtain ⟨b1, b2, b3, b4, b5, b6, b7, b8, b9, bA⟩ := k
  exact ⟨b1.trans a1, b2.trans a2, b3.trans a3, b4.trans a4, b5.trans a5, b6.trans a6, b7.trans a7, b8.trans a8, fun a q r => (b9 a q r).trans (a9 a q r), fun a q => (bA a q).trans (aA a q)⟩
theorem rc_fr {M : Mem} {i p n : Nat} {b : Nat → Int32} : RFr M (rcF M i p n b) := ⟨rfl, rfl, rfl, rfl, rfl, rfl, rfl, rfl, fun a q r => by unfold rcF; rw [mAI_wAJ]; exact (up2_row q).trans (up2_row r), fun a q => up2_row q⟩
theorem RFr.tx {M M' : Mem} {n : Nat} {b : Nat → Int32} (h : RFr M M') (hT : TR M n b) : TR M' n b := ⟨hT.1, by rw [h.2.2.2.2.2.2.2.1]; exact hT.2.1, fun i hi => by rw [h.2.2.2.2.2.2.2.2.1 30 (by decide) (by decide)]; exact hT.2.2.1 i hi, hT.2.2.2⟩
theorem rcut_loop {h n : Nat} {b : Nat → Int32} {Q : Option Value → Mem → Prop} {M0 : Mem} (hB : By b)
    (H : ∀ (s : Nat) (M' : Mem), s ≤ n → (tK b n s = 0 ∨ tK b n s = 1) → (∀ j, j < s → tK b n j ≠ 0 ∧ tK b n j ≠ 1) → (∀ j, j ≤ s → RkR M' b n j) → Fix M' → RFr M0 M' → Q none M') :
    ∀ (m i : Nat) (M : Mem), i + m = n + 1 → Fix M → TR M n b → RFr M0 M → (∀ j, j < i → RkR M b n j) → (∀ j, j < i → tK b n j ≠ 0 ∧ tK b n j ≠ 1) →
    T (h + 3) mdX11_cut 6 [(0, .ref 29), (1, .int (Int32.ofNat i)), (2, .int (Int32.ofNat (tPos b n i))), (3, .int 1)] [] M Q := by
  intro m
  induction m with
  | zero =>
    intro i M hi F hT hC hR hK
    have h1 := tPos_ge hT.2.2.2 i (fun j hj => (hK j hj).2)
    have h2 := tPos_le hT.2.2.2 (b := b) (n := n) i
    omega
  | succ m ih =>
    intro i M hi F hT hC hR hK
    have hn := hT.1
    have h1 := tPos_ge hT.2.2.2 i (fun j hj => (hK j hj).2)
    have h2 := tPos_le hT.2.2.2 (b := b) (n := n) i
    refine VX11_cut_6 ?_
    unfold DX11_cut_6
    refine ⟨fun hc => absurd hc (by decide), fun _ => r_blank F hT (by omega) (n - tPos b n i) (tPos b n i) (by omega) ?_⟩
    have F1 : Fix (rcF M i (tP b n i) n b) := (F.ai.ai).aj (by decide)
    have C1 : RFr M0 (rcF M i (tP b n i) n b) := hC.tr rc_fr
    have T1 : TR (rcF M i (tP b n i) n b) n b := rc_fr.tx hT
    have R1 : ∀ j, j < i + 1 → RkR (rcF M i (tP b n i) n b) b n j := by
      intro j hj
      by_cases hji : j = i
      · subst hji
        refine ⟨?_, ?_, ?_⟩ <;> simp [rcF, mNwI, mSwI, mKwI, mIwI, mJwI, mRwI, mLwI, mAIwI, mAJwI, mARwI, mNwJ, mSwJ, mKwJ, mIwJ, mJwJ, mRwJ, mLwJ, mAIwJ, mAJwJ, mARwJ, mNwR, mSwR, mKwR, mIwR, mJwR, mRwR, mLwR, mAIwR, mAJwR, mARwR, mNwAI, mSwAI, mKwAI, mIwAI, mJwAI, mRwAI, mLwAI, mAIwAI, mAJwAI, mARwAI, mNwAJ, mSwAJ, mKwAJ, mIwAJ, mJwAJ, mRwAJ, mLwAJ, mAIwAJ, mAJwAJ, mARwAJ, mNwAR, mSwAR, mKwAR, mIwAR, mJwAR, mRwAR, mLwAR, mAIwAR, mAJwAR, mARwAR, okkwI, okkwJ, okkwR, okkwAI, okkwAJ, okkwAR]
      · obtain ⟨r1, r2, r3⟩ := hR j (by omega)
        refine ⟨?_, ?_, ?_⟩
        · simp [rcF, hji, r1, mNwI, mSwI, mKwI, mIwI, mJwI, mRwI, mLwI, mAIwI, mAJwI, mARwI, mNwJ, mSwJ, mKwJ, mIwJ, mJwJ, mRwJ, mLwJ, mAIwJ, mAJwJ, mARwJ, mNwR, mSwR, mKwR, mIwR, mJwR, mRwR, mLwR, mAIwR, mAJwR, mARwR, mNwAI, mSwAI, mKwAI, mIwAI, mJwAI, mRwAI, mLwAI, mAIwAI, mAJwAI, mARwAI, mNwAJ, mSwAJ, mKwAJ, mIwAJ, mJwAJ, mRwAJ, mLwAJ, mAIwAJ, mAJwAJ, mARwAJ, mNwAR, mSwAR, mKwAR, mIwAR, mJwAR, mRwAR, mLwAR, mAIwAR, mAJwAR, mARwAR, okkwI, okkwJ, okkwR, okkwAI, okkwAJ, okkwAR]
        · simp [rcF, hji, r2, mNwI, mSwI, mKwI, mIwI, mJwI, mRwI, mLwI, mAIwI, mAJwI, mARwI, mNwJ, mSwJ, mKwJ, mIwJ, mJwJ, mRwJ, mLwJ, mAIwJ, mAJwJ, mARwJ, mNwR, mSwR, mKwR, mIwR, mJwR, mRwR, mLwR, mAIwR, mAJwR, mARwR, mNwAI, mSwAI, mKwAI, mIwAI, mJwAI, mRwAI, mLwAI, mAIwAI, mAJwAI, mARwAI, mNwAJ, mSwAJ, mKwAJ, mIwAJ, mJwAJ, mRwAJ, mLwAJ, mAIwAJ, mAJwAJ, mARwAJ, mNwAR, mSwAR, mKwAR, mIwAR, mJwAR, mRwAR, mLwAR, mAIwAR, mAJwAR, mARwAR, okkwI, okkwJ, okkwR, okkwAI, okkwAJ, okkwAR]
        · simp [rcF, hji, r3, mNwI, mSwI, mKwI, mIwI, mJwI, mRwI, mLwI, mAIwI, mAJwI, mARwI, mNwJ, mSwJ, mKwJ, mIwJ, mJwJ, mRwJ, mLwJ, mAIwJ, mAJwJ, mARwJ, mNwR, mSwR, mKwR, mIwR, mJwR, mRwR, mLwR, mAIwR, mAJwR, mARwR, mNwAI, mSwAI, mKwAI, mIwAI, mJwAI, mRwAI, mLwAI, mAIwAI, mAJwAI, mARwAI, mNwAJ, mSwAJ, mKwAJ, mIwAJ, mJwAJ, mRwAJ, mLwAJ, mAIwAJ, mAJwAJ, mARwAJ, mNwAR, mSwAR, mKwAR, mIwAR, mJwAR, mRwAR, mLwAR, mAIwAR, mAJwAR, mARwAR, okkwI, okkwJ, okkwR, okkwAI, okkwAJ, okkwAR]
    show T (h + 3) mdX11_cut 6 [(0, .ref 29), (1, .int (Int32.ofNat (i + 1))), (2, .int (Int32.ofNat (rE b n (tP b n i)))), (3, .int (if rS b n (tP b n i) = 0 ∨ rS b n (tP b n i) = 4 then 0 else 1))] [] (rcF M i (tP b n i) n b) Q
    generalize rcF M i (tP b n i) n b = N at F1 C1 T1 R1
    rw [rE_eq hB]
    have rel := rS_rel (b := b) (n := n) (p := tP b n i) hB
    by_cases hk : tK b n i = 0 ∨ tK b n i = 1
    · have hs : rS b n (tP b n i) = 0 ∨ rS b n (tP b n i) = 4 := by
        rcases hk with k | k
        · exact Or.inr (rel.2.mpr k)
        · exact Or.inl (rel.1.mpr k)
      rw [if_pos hs]
      refine VX11_cut_6 ?_
      unfold DX11_cut_6
      exact ⟨fun _ => H i N (by omega) hk hK (fun j hj => R1 j (by omega)) F1 C1, fun hc => absurd rfl hc⟩
    · have hs : ¬ (rS b n (tP b n i) = 0 ∨ rS b n (tP b n i) = 4) := by
        rintro (k | k)
        · exact hk (Or.inr (rel.1.mp k))
        · exact hk (Or.inl (rel.2.mp k))
      rw [if_neg hs]
      refine ih (i + 1) N (by omega) F1 T1 C1 R1 (fun j hj => ?_)
      by_cases hji : j = i
      · subst hji; exact ⟨fun z => hk (Or.inl z), fun z => hk (Or.inr z)⟩
      · exact hK j (by omega)
theorem R_cut {h n : Nat} {b : Nat → Int32} {M : Mem} {Q : Option Value → Mem → Prop} (F : Fix M) (hT : TR M n b) (hB : By b)
    (H : ∀ (s : Nat) (N : Mem), s ≤ n → (tK b n s = 0 ∨ tK b n s = 1) → (∀ j, j < s → tK b n j ≠ 0 ∧ tK b n j ≠ 1) → (∀ j, j ≤ s → RkR N b n j) → Fix N → RFr M N → Q none N) : E (h + 3) mdX11_cut [.ref 29] M Q :=
  KX11_cut (rcut_loop hB H (n + 1) 0 M (by omega) F hT RFr.rf (fun j hj => absurd hj (Nat.not_lt_zero j)) (fun j hj => absurd hj (Nat.not_lt_zero j)))
