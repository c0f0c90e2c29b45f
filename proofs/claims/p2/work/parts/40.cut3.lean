/-! all tokens of a text -/
def ckK (b : Nat → Int32) (n p : Nat) : Int32 := if n ≤ p then 1 else if isL (b p) = true then (if rnE isL b n p - p ≤ 10 then keyK (spellF b (n - p) p 0) 33 0 else 0) else if isF (b p) = true then (if rnE isF b n p - p ≤ 6 then 3 else 0) else sgK (b p) (b (p + 1))
def ckE (b : Nat → Int32) (n p : Nat) : Nat := if n ≤ p then p else if isL (b p) = true then rnE isL b n p else if isF (b p) = true then rnE isF b n p else p + 1 + sgX (b p) (b (p + 1))
def ckC (b : Nat → Int32) (n p : Nat) : Int64 := if isL (b p) = true then spellF b (n - p) p 0 else numF b (n - p) p 0
def ctP (M : Mem) (i p : Nat) : Mem := wAI (wI M 15 3 (Int32.ofNat p)) 17 i (Int32.ofNat p)
def ctF (M : Mem) (i p n : Nat) (b : Nat → Int32) : Mem :=
  if n ≤ p then wAI (ctP M i p) 16 i 1 else if isL (b p) = true then cwF (ctP M i p) i p n b else if isF (b p) = true then cnF (ctP M i p) i p n b else wAI (wI (ctP M i p) 15 3 (Int32.ofNat (p + 1 + sgX (b p) (b (p + 1))))) 16 i (sgK (b p) (b (p + 1)))
theorem isB_or {c : Int32} : isB c = true ↔ c = 32 ∨ c = 10 := by unfold isB; simp
/-- bytes are 0 to 255 -/
def By (b : Nat → Int32) : Prop := ∀ i, ¬ b i < 0 ∧ ¬ 255 < b i
theorem cut_rest {h n p i : Nat} {b : Nat → Int32} {M : Mem} {Q : Option Value → Mem → Prop} (F : Fix M) (hT : TX M n b) (hB : By b) (hp : mI M 15 3 = Int32.ofNat p) (hpn : p ≤ n) (hi : i < 801) (H : Q (some (.int (ckK b n p))) (ctF M i p n b)) : DX7_cut_50 (h + 6) 15 (Int32.ofNat i) M Q := by
  unfold DX7_cut_50 DX7_cut_131
  have hn := hT.1
  rw [hp, lt32 (n := i) (by omega)]
  have vi : ∀ {M : Mem} {c : Nat}, mL M c = 801 → vp_in (Int32.ofNat i) (mL M c) := fun e => by rw [e]; exact vp_of hi (by decide)
  refine ⟨ok15 F, 17, rf15_5 F, ok17 F, vi (ln17 F), fun A a => ?_⟩
  have FA : Fix A := by rw [a]; exact F.ai
  have eA : A = ctP M i p := by rw [a]; unfold ctP; rw [wI_same hp]
  have TA : TX A n b := by rw [a]; exact ⟨hT.1, hT.2.1, fun j hj => by rw [mAI_wAI, if_neg (by omega)]; exact hT.2.2.1 j hj, hT.2.2.2⟩
  have pA : mI A 15 3 = Int32.ofNat p := by rw [a, mI_wAI]; exact hp
  have lA : mI A 15 2 = Int32.ofNat n := TA.2.1
  unfold ckK ctF at H
  rw [← eA] at H
  rw [pA]
  refine S_byteAt FA TA (by omega) (fun _ => ⟨_, rfl, fun hc => ?_, fun hc => ?_⟩)
  · rw [pA, lA, ltn32 (by omega) (by omega)] at hc
    have hnp : ¬ n ≤ p := by omega
    rw [if_neg hnp, if_neg hnp] at H
    refine S_isL2 (fun _ => ⟨_, rfl, fun h0 => ?_, fun h0 => ?_⟩)
    · have h0 : ¬ isL (b p) = true := by intro z; rw [if_pos z] at h0; exact absurd h0 (by decide)
      rw [if_neg h0, if_neg h0] at H
      refine S_isF2 (fun _ => ⟨_, rfl, fun h1 => ?_, fun h1 => ?_⟩)
      · have h1 : ¬ isF (b p) = true := by intro z; rw [if_pos z] at h1; exact absurd h1 (by decide)
        rw [if_neg h1, if_neg h1] at H
        refine ⟨16, rf15_4 FA, S_signKind FA TA pA hc (hB p).1 (hB p).2 (fun _ => ⟨_, rfl, ?_⟩)⟩
        have FB : Fix (wI A 15 3 (Int32.ofNat (p + 1 + sgX (b p) (b (p + 1))))) := FA.i
        generalize eB : wI A 15 3 (Int32.ofNat (p + 1 + sgX (b p) (b (p + 1)))) = B at FB
        rw [eB] at H
        refine ⟨ok16 FB, vi (ln16 FB), fun C c => ?_⟩
        have FC : Fix C := by rw [c]; exact FB.ai
        refine ⟨ok15 FC, 16, rf15_4 FC, ok16 FC, vi (ln16 FC), ?_⟩
        rw [c, mAI_own]
        exact H
      · have h1 : isF (b p) = true := by
          cases e : isF (b p) with
          | true => rfl
          | false => rw [e] at h1; exact absurd rfl h1
        rw [if_pos h1, if_pos h1] at H
        refine S_cutNum FA TA pA hpn hi ?_
        have e9 : mAI (cnF A i p n b) 16 i = (if rnE isF b n p - p ≤ 6 then (3 : Int32) else 0) := mAI_own _ _ _ _
        have FB : Fix (cnF A i p n b) := (FA.i.aj (by decide)).ai
        generalize eB : cnF A i p n b = B at FB H e9
        refine fun _ => ⟨rfl, ok15 FB, 16, rf15_4 FB, ok16 FB, vi (ln16 FB), ?_⟩
        rw [e9]
        exact H
    · have h0 : isL (b p) = true := by
        cases e : isL (b p) with
        | true => rfl
        | false => rw [e] at h0; exact absurd rfl h0
      rw [if_pos h0, if_pos h0] at H
      refine S_cutWord FA TA pA hpn hi ?_
      have e9 : mAI (cwF A i p n b) 16 i = (if rnE isL b n p - p ≤ 10 then keyK (spellF b (n - p) p 0) 33 0 else 0) := mAI_own _ _ _ _
      have FB : Fix (cwF A i p n b) := (FA.i.aj (by decide)).ai
      generalize eB : cwF A i p n b = B at FB H e9
      refine fun _ => ⟨rfl, ok15 FB, 16, rf15_4 FB, ok16 FB, vi (ln16 FB), ?_⟩
      rw [e9]
      exact H
  · rw [pA, lA, ltn32 (by omega) (by omega)] at hc
    have hnp : n ≤ p := by omega
    rw [if_pos hnp, if_pos hnp] at H
    refine ⟨16, rf15_4 FA, ok16 FA, vi (ln16 FA), fun C c => ?_⟩
    have FC : Fix C := by rw [c]; exact FA.ai
    refine ⟨ok15 FC, 16, rf15_4 FC, ok16 FC, vi (ln16 FC), ?_⟩
    rw [c, mAI_own]
    exact H
theorem blank_loop {h n i : Nat} {b : Nat → Int32} {Q : Option Value → Mem → Prop} (hB : By b) (hi : i < 801) : ∀ (k a : Nat) (M : Mem), a + k = n → Fix M → TX M n b → mI M 15 3 = Int32.ofNat a →
    Q (some (.int (ckK b n (runF isB b k a)))) (ctF (wI M 15 3 (Int32.ofNat (runF isB b k a))) i (runF isB b k a) n b) → T (h + 7) mdX7_cut 0 [(0, .ref 15), (1, .int (Int32.ofNat i))] [] M Q := by
  intro k
  induction k with
  | zero =>
    intro a M hk F hT ha H
    have hn := hT.1
    refine VX7_cut_0 ?_
    unfold DX7_cut_0
    rw [hT.2.1, ha]
    refine ⟨ok15 F, fun _ => ?_, fun hc => absurd ((le32 (by omega) (by omega)).mpr (by omega)) hc⟩
    unfold runF at H
    rw [wI_same ha] at H
    exact cut_rest F hT hB ha (by omega) hi H
  | succ k ih =>
    intro a M hk F hT ha H
    have hn := hT.1
    refine VX7_cut_0 ?_
    unfold DX7_cut_0 DX7_cut_37
    rw [hT.2.1, ha]
    refine ⟨ok15 F, fun hc => absurd ((le32 (by omega) (by omega)).mp hc) (by omega), fun _ => ?_⟩
    have go : isB (b a) = true → ok M 15 9 ∧ ∀ M2 : Mem, M2 = wI M 15 3 (mI M 15 3 + 1) → T (h + 7) mdX7_cut 0 [(0, .ref 15), (1, .int (Int32.ofNat i))] [] M2 Q := by
      intro hb
      refine ⟨ok15 F, fun M2 e2 => ?_⟩
      rw [ha, succ32] at e2
      unfold runF at H
      rw [if_pos hb] at H
      refine ih (a + 1) M2 (by omega) (by rw [e2]; exact F.i) (by rw [e2]; exact hT.wI3) (by rw [e2]; exact mI_own _ _ _ _) ?_
      rw [e2, wI_wI]
      exact H
    refine S_byteAt F hT (by omega) (fun _ => ⟨_, rfl, fun hc => go (isB_or.mpr (Or.inl hc)), fun hc => ?_⟩)
    rw [ha]
    refine S_byteAt F hT (by omega) (fun _ => ⟨_, rfl, fun hc2 => ?_, fun hc2 => go (isB_or.mpr (Or.inr hc2))⟩)
    unfold runF at H
    have hb : ¬ isB (b a) = true := fun z => by
      rcases isB_or.mp z with q | q
      · exact hc q
      · exact hc2 q
    rw [if_neg hb, wI_same ha] at H
    exact cut_rest F hT hB ha (by omega) hi H
theorem S_cut {h n a i : Nat} {b : Nat → Int32} {M : Mem} {Q : Option Value → Mem → Prop} (F : Fix M) (hT : TX M n b) (hB : By b) (ha : mI M 15 3 = Int32.ofNat a) (han : a ≤ n) (hi : i < 801) (H : Q (some (.int (ckK b n (rnE isB b n a)))) (ctF (wI M 15 3 (Int32.ofNat (rnE isB b n a))) i (rnE isB b n a) n b)) : E (h + 7) mdX7_cut [.ref 15, .int (Int32.ofNat i)] M Q :=
  KX7_cut (blank_loop hB hi (n - a) a M (by omega) F hT ha H)
/-! what one cut leaves -/
theorem sgX_le {c d : Int32} : sgX c d ≤ 1 := by unfold sgX; split <;> (try split) <;> omega
theorem runF_all {p : Int32 → Bool} {b : Nat → Int32} : ∀ (k a i : Nat), a ≤ i → i < runF p b k a → p (b i) = true := by
  intro k
  induction k with
  | zero => intro a i h1 h2; unfold runF at h2; omega
  | succ k ih =>
    intro a i h1 h2
    unfold runF at h2
    split at h2
    · rename_i h
      by_cases hi : i = a
      · subst hi; exact h
      · exact ih (a + 1) i (by omega) h2
    · omega
theorem runF_pos {p : Int32 → Bool} {b : Nat → Int32} {k a : Nat} (hk : 0 < k) (h : p (b a) = true) : a < runF p b k a := by
  obtain ⟨j, rfl⟩ : ∃ j, k = j + 1 := ⟨k - 1, by omega⟩
  unfold runF
  rw [if_pos h]
  have := (runF_le (p := p) (b := b) j (a + 1)).1
  omega
theorem ckE_gt {b : Nat → Int32} {n p : Nat} (h : p < n) : p < ckE b n p := by
  unfold ckE
  rw [if_neg (by omega)]
  split
  · rename_i q; exact runF_pos (by omega) q
  · split
    · rename_i q; exact runF_pos (by omega) q
    · omega
theorem ckE_le {b : Nat → Int32} {n p : Nat} (h : p ≤ n) (hz : ∀ i, n ≤ i → b i = 0) : ckE b n p ≤ n := by
  unfold ckE
  split
  · omega
  · split
    · have := (runF_le (p := isL) (b := b) (n - p) p).2; unfold rnE; omega
    · split
      · have := (runF_le (p := isF) (b := b) (n - p) p).2; unfold rnE; omega
      · have h1 := @sgX_le (b p) (b (p + 1))
        by_cases hl : p + 1 < n
        · omega
        · have e : b (p + 1) = 0 := hz _ (by omega)
          have : sgX (b p) (b (p + 1)) = 0 := by
            rw [e]
            unfold sgX
            split
            · rfl
            · rw [if_neg (by rintro (⟨-, z⟩ | ⟨-, z⟩) <;> exact absurd z (by decide))]
          omega
