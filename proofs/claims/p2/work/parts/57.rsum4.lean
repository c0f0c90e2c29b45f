/-! the reference reads sums: opening, operators, operands -/
section
variable {b : Nat → Int32} {n s m : Nat} {sN : List Int64} {ro mx : List Int32} {vN : List Int64} {M : Mem} {i o pr : Nat} {σ ν : List Nat} {X : List Nd} {h : Nat} {Q : Option Value → Mem → Prop}
theorem SR.tok (hR : SR b n s m sN ro mx vN (0, 0) M i o pr σ ν X) : RkR M b n i ∧ mI M 29 5 = Int32.ofNat i ∧ i < 802 := ⟨hR.1.2.1 i hR.2.1.2.2, hR.2.2.1, by have := hR.2.1; omega⟩
theorem B_said {k : Int32} {v : Int64} (hR : SR b n s m sN ro mx vN (0, 0) M i o pr σ ν X) (hB : By b) (hk : k ∈ sKs) (hv : v = sv k) (H : Q (some (.int (if tK b n i = k then 1 else 0))) M) : E (h + 1) mdX11_isSaid [.ref 29, .int 3, .long v] M Q := by
  obtain ⟨⟨r1, r2, r3⟩, h5, h8⟩ := hR.tok
  refine R_isSaid hR.1.1 h5 h8 ?_
  rw [r1, r3, hv]
  have e := said_sign (b := b) (n := n) (p := tP b n i) hB hk
  have eK : tK b n i = ckK b n (tP b n i) := rfl
  rw [eK] at H
  by_cases q : ckK b n (tP b n i) = k
  · rw [if_pos q] at H; rw [if_pos (e.mpr q)]; exact H
  · rw [if_neg q] at H; rw [if_neg (fun z => q (e.mp z))]; exact H
theorem B_fails {c : Int32} (hR : SR b n s m sN ro mx vN (0, 0) M i o pr σ ν X) (hc : 0 < c) (H : ∀ M', TXr M' c (tP b n i) → RFm m M M' → Q none M') : E (h + 1) mdX11_fails [.ref 29, .int c, .int (mAI M 32 i)] M Q := by
  obtain ⟨⟨r1, r2, r3⟩, h5, h8⟩ := hR.tok
  have h6 : mI M 29 6 = 0 := hR.2.2.2.1.1
  refine R_fails hR.1.1 ?_
  have e : flF M c (mAI M 32 i) = wI (wI M 29 6 c) 29 7 (Int32.ofNat (tP b n i)) := by unfold flF; rw [if_pos h6, r2]
  rw [e]
  have fr : RFm m M (wI (wI M 29 6 c) 29 7 (Int32.ofNat (tP b n i))) := (RFm.i (by decide)).tr (RFm.i (by decide))
  exact H _ ⟨fr.fix hR.1.1, by simp [mNwI, mSwI, mKwI, mIwI, mJwI, mRwI, mLwI, mAIwI, mAJwI, mARwI, mNwJ, mSwJ, mKwJ, mIwJ, mJwJ, mRwJ, mLwJ, mAIwJ, mAJwJ, mARwJ, mNwR, mSwR, mKwR, mIwR, mJwR, mRwR, mLwR, mAIwR, mAJwR, mARwR, mNwAI, mSwAI, mKwAI, mIwAI, mJwAI, mRwAI, mLwAI, mAIwAI, mAJwAI, mARwAI, mNwAJ, mSwAJ, mKwAJ, mIwAJ, mJwAJ, mRwAJ, mLwAJ, mAIwAJ, mAJwAJ, mARwAJ, mNwAR, mSwAR, mKwAR, mIwAR, mJwAR, mRwAR, mLwAR, mAIwAR, mAJwAR, mARwAR, okkwI, okkwJ, okkwR, okkwAI, okkwAJ, okkwAR], hc, by simp [mNwI, mSwI, mKwI, mIwI, mJwI, mRwI, mLwI, mAIwI, mAJwI, mARwI, mNwJ, mSwJ, mKwJ, mIwJ, mJwJ, mRwJ, mLwJ, mAIwJ, mAJwJ, mARwJ, mNwR, mSwR, mKwR, mIwR, mJwR, mRwR, mLwR, mAIwR, mAJwR, mARwR, mNwAI, mSwAI, mKwAI, mIwAI, mJwAI, mRwAI, mLwAI, mAIwAI, mAJwAI, mARwAI, mNwAJ, mSwAJ, mKwAJ, mIwAJ, mJwAJ, mRwAJ, mLwAJ, mAIwAJ, mAJwAJ, mARwAJ, mNwAR, mSwAR, mKwAR, mIwAR, mJwAR, mRwAR, mLwAR, mAIwAR, mAJwAR, mARwAR, okkwI, okkwJ, okkwR, okkwAI, okkwAJ, okkwAR]⟩ fr
theorem B_opening {op : Nat} (hR : SR b n s m sN ro mx vN (0, 0) M i o pr σ ν X) (hB : By b) (hs : i < s) (hop : op = 3 ∨ op = 9) (H1 : o < 15 → tK b n (i + 1) ≠ 0 → ∀ M', SR b n s m sN ro mx vN (0, 0) M' (i + 1) (o + 1) (pr + (if op = 9 then 1 else 0)) (op :: σ) ν X → RFm m M M' → Q none M') (H0 : o < 15 → tK b n (i + 1) = 0 → ∀ M', TXr M' 1 (tP b n (i + 1)) → RFm m M M' → Q none M') (H6 : o = 15 → ∀ M', TXr M' 6 (tP b n i) → RFm m M M' → Q none M') : E (h + 3) mdX11_opening [.ref 29, .int (Int32.ofNat op)] M Q := by
  obtain ⟨h1, h2, h3, h4, h5, h6, h7, h8, h9, h10⟩ := id hR
  have F := h1.1
  refine KX11_opening ?_
  unfold DX11_opening_0 DX11_opening_73 DX11_opening_78 DX11_opening_86
  rw [h5, succ32]
  have e15 : (Int32.ofNat o = 15) ↔ o = 15 := ⟨fun z => inj32 (b := 15) (by omega) (by decide) z, fun z => by rw [z]; rfl⟩
  refine ⟨ok29 F, fun hc => ?_, fun hc => ?_⟩
  · have ho : o < 15 := by
      have : o ≠ 15 := fun z => hc (e15.mpr z)
      have := h10.2.2.1
      omega
    intro A a
    have FA : Fix A := by rw [a]; exact F.i
    have iA : mI A 29 29 = Int32.ofNat σ.length := by rw [a]; simp [h7.1, mNwI, mSwI, mKwI, mIwI, mJwI, mRwI, mLwI, mAIwI, mAJwI, mARwI, mNwJ, mSwJ, mKwJ, mIwJ, mJwJ, mRwJ, mLwJ, mAIwJ, mAJwJ, mARwJ, mNwR, mSwR, mKwR, mIwR, mJwR, mRwR, mLwR, mAIwR, mAJwR, mARwR, mNwAI, mSwAI, mKwAI, mIwAI, mJwAI, mRwAI, mLwAI, mAIwAI, mAJwAI, mARwAI, mNwAJ, mSwAJ, mKwAJ, mIwAJ, mJwAJ, mRwAJ, mLwAJ, mAIwAJ, mAJwAJ, mARwAJ, mNwAR, mSwAR, mKwAR, mIwAR, mJwAR, mRwAR, mLwAR, mAIwAR, mAJwAR, mARwAR, okkwI, okkwJ, okkwR, okkwAI, okkwAJ, okkwAR]
    rw [iA, lt32 (by omega)]
    refine ⟨52, rf29_28 FA, ok52 FA, by rw [ln52 FA]; exact vp_of (by omega) (by decide), fun B bb C c => ?_⟩
    have iB : mI B 29 29 = Int32.ofNat σ.length := by rw [bb, mI_wAI]; exact iA
    rw [iB, succ32] at c
    have iC : mI C 29 32 = Int32.ofNat pr := by rw [c, bb, a]; simp [h6, mNwI, mSwI, mKwI, mIwI, mJwI, mRwI, mLwI, mAIwI, mAJwI, mARwI, mNwJ, mSwJ, mKwJ, mIwJ, mJwJ, mRwJ, mLwJ, mAIwJ, mAJwJ, mARwJ, mNwR, mSwR, mKwR, mIwR, mJwR, mRwR, mLwR, mAIwR, mAJwR, mARwR, mNwAI, mSwAI, mKwAI, mIwAI, mJwAI, mRwAI, mLwAI, mAIwAI, mAJwAI, mARwAI, mNwAJ, mSwAJ, mKwAJ, mIwAJ, mJwAJ, mRwAJ, mLwAJ, mAIwAJ, mAJwAJ, mARwAJ, mNwAR, mSwAR, mKwAR, mIwAR, mJwAR, mRwAR, mLwAR, mAIwAR, mAJwAR, mARwAR, okkwI, okkwJ, okkwR, okkwAI, okkwAJ, okkwAR]
    have FC : Fix C := by rw [c, bb, a]; exact F.i.ai.i
    have frC : RFm m M C := by rw [c, bb, a]; exact ((RFm.i (by decide)).tr (RFm.st (Or.inl rfl))).tr (RFm.i (by decide))
    have stC : St C 52 29 0 (op :: σ) := (h7.fr (M' := A) (by rw [a]; simp [mNwI, mSwI, mKwI, mIwI, mJwI, mRwI, mLwI, mAIwI, mAJwI, mARwI, mNwJ, mSwJ, mKwJ, mIwJ, mJwJ, mRwJ, mLwJ, mAIwJ, mAJwJ, mARwJ, mNwR, mSwR, mKwR, mIwR, mJwR, mRwR, mLwR, mAIwR, mAJwR, mARwR, mNwAI, mSwAI, mKwAI, mIwAI, mJwAI, mRwAI, mLwAI, mAIwAI, mAJwAI, mARwAI, mNwAJ, mSwAJ, mKwAJ, mIwAJ, mJwAJ, mRwAJ, mLwAJ, mAIwAJ, mAJwAJ, mARwAJ, mNwAR, mSwAR, mKwAR, mIwAR, mJwAR, mRwAR, mLwAR, mAIwAR, mAJwAR, mARwAR, okkwI, okkwJ, okkwR, okkwAI, okkwAJ, okkwAR]) (by rw [a]; rfl)).push (x := op) (by rw [c, bb, Nat.zero_add])
    have fin : ∀ (D : Mem) (q : Nat), q ≤ 1 → D = wI C 29 32 (Int32.ofNat pr + Int32.ofNat q) → (if op = 9 then 1 else 0) = q → ok D 29 13 ∧ E (h + 2) mdX11_take [.ref 29] D (fun r M4 => mE D M4 → r = none ∧ Q none M4) := by
      intro D q hq d eq
      rw [add32] at d
      have frD : RFm m M D := by rw [d]; exact frC.tr (RFm.i (by decide))
      refine ⟨ok29 (frD.fix F), B_take (pr := pr + q) (o := o + 1) (σ := op :: σ) (ν := ν) (X := X) (h1.fr frD) ⟨h2.1, h2.2.1, hs⟩ (by rw [d, c, bb, a]; simp [h3, mNwI, mSwI, mKwI, mIwI, mJwI, mRwI, mLwI, mAIwI, mAJwI, mARwI, mNwJ, mSwJ, mKwJ, mIwJ, mJwJ, mRwJ, mLwJ, mAIwJ, mAJwJ, mARwJ, mNwR, mSwR, mKwR, mIwR, mJwR, mRwR, mLwR, mAIwR, mAJwR, mARwR, mNwAI, mSwAI, mKwAI, mIwAI, mJwAI, mRwAI, mLwAI, mAIwAI, mAJwAI, mARwAI, mNwAJ, mSwAJ, mKwAJ, mIwAJ, mJwAJ, mRwAJ, mLwAJ, mAIwAJ, mAJwAJ, mARwAJ, mNwAR, mSwAR, mKwAR, mIwAR, mJwAR, mRwAR, mLwAR, mAIwAR, mAJwAR, mARwAR, okkwI, okkwJ, okkwR, okkwAI, okkwAJ, okkwAR]) (by rw [d, c, bb, a]; simp [show mI M 29 6 = 0 from h4.1, mNwI, mSwI, mKwI, mIwI, mJwI, mRwI, mLwI, mAIwI, mAJwI, mARwI, mNwJ, mSwJ, mKwJ, mIwJ, mJwJ, mRwJ, mLwJ, mAIwJ, mAJwJ, mARwJ, mNwR, mSwR, mKwR, mIwR, mJwR, mRwR, mLwR, mAIwR, mAJwR, mARwR, mNwAI, mSwAI, mKwAI, mIwAI, mJwAI, mRwAI, mLwAI, mAIwAI, mAJwAI, mARwAI, mNwAJ, mSwAJ, mKwAJ, mIwAJ, mJwAJ, mRwAJ, mLwAJ, mAIwAJ, mAJwAJ, mARwAJ, mNwAR, mSwAR, mKwAR, mIwAR, mJwAR, mRwAR, mLwAR, mAIwAR, mAJwAR, mARwAR, okkwI, okkwJ, okkwR, okkwAI, okkwAJ, okkwAR]) (by rw [d, c, bb, a]; simp [mNwI, mSwI, mKwI, mIwI, mJwI, mRwI, mLwI, mAIwI, mAJwI, mARwI, mNwJ, mSwJ, mKwJ, mIwJ, mJwJ, mRwJ, mLwJ, mAIwJ, mAJwJ, mARwJ, mNwR, mSwR, mKwR, mIwR, mJwR, mRwR, mLwR, mAIwR, mAJwR, mARwR, mNwAI, mSwAI, mKwAI, mIwAI, mJwAI, mRwAI, mLwAI, mAIwAI, mAJwAI, mARwAI, mNwAJ, mSwAJ, mKwAJ, mIwAJ, mJwAJ, mRwAJ, mLwAJ, mAIwAJ, mAJwAJ, mARwAJ, mNwAR, mSwAR, mKwAR, mIwAR, mJwAR, mRwAR, mLwAR, mAIwAR, mAJwAR, mARwAR, okkwI, okkwJ, okkwR, okkwAI, okkwAJ, okkwAR]) (by rw [d]; simp [mNwI, mSwI, mKwI, mIwI, mJwI, mRwI, mLwI, mAIwI, mAJwI, mARwI, mNwJ, mSwJ, mKwJ, mIwJ, mJwJ, mRwJ, mLwJ, mAIwJ, mAJwJ, mARwJ, mNwR, mSwR, mKwR, mIwR, mJwR, mRwR, mLwR, mAIwR, mAJwR, mARwR, mNwAI, mSwAI, mKwAI, mIwAI, mJwAI, mRwAI, mLwAI, mAIwAI, mAJwAI, mARwAI, mNwAJ, mSwAJ, mKwAJ, mIwAJ, mJwAJ, mRwAJ, mLwAJ, mAIwAJ, mAJwAJ, mARwAJ, mNwAR, mSwAR, mKwAR, mIwAR, mJwAR, mRwAR, mLwAR, mAIwAR, mAJwAR, mARwAR, okkwI, okkwJ, okkwR, okkwAI, okkwAJ, okkwAR]) (stC.fr (by rw [d]; simp [mNwI, mSwI, mKwI, mIwI, mJwI, mRwI, mLwI, mAIwI, mAJwI, mARwI, mNwJ, mSwJ, mKwJ, mIwJ, mJwJ, mRwJ, mLwJ, mAIwJ, mAJwJ, mARwJ, mNwR, mSwR, mKwR, mIwR, mJwR, mRwR, mLwR, mAIwR, mAJwR, mARwR, mNwAI, mSwAI, mKwAI, mIwAI, mJwAI, mRwAI, mLwAI, mAIwAI, mAJwAI, mARwAI, mNwAJ, mSwAJ, mKwAJ, mIwAJ, mJwAJ, mRwAJ, mLwAJ, mAIwAJ, mAJwAJ, mARwAJ, mNwAR, mSwAR, mKwAR, mIwAR, mJwAR, mRwAR, mLwAR, mAIwAR, mAJwAR, mARwAR, okkwI, okkwJ, okkwR, okkwAI, okkwAJ, okkwAR]) (by rw [d]; rfl)) (h8.fr (by rw [d, c, bb, a]; simp [mNwI, mSwI, mKwI, mIwI, mJwI, mRwI, mLwI, mAIwI, mAJwI, mARwI, mNwJ, mSwJ, mKwJ, mIwJ, mJwJ, mRwJ, mLwJ, mAIwJ, mAJwJ, mARwJ, mNwR, mSwR, mKwR, mIwR, mJwR, mRwR, mLwR, mAIwR, mAJwR, mARwR, mNwAI, mSwAI, mKwAI, mIwAI, mJwAI, mRwAI, mLwAI, mAIwAI, mAJwAI, mARwAI, mNwAJ, mSwAJ, mKwAJ, mIwAJ, mJwAJ, mRwAJ, mLwAJ, mAIwAJ, mAJwAJ, mARwAJ, mNwAR, mSwAR, mKwAR, mIwAR, mJwAR, mRwAR, mLwAR, mAIwAR, mAJwAR, mARwAR, okkwI, okkwJ, okkwR, okkwAI, okkwAJ, okkwAR]) (by rw [d, mAI_wI, c, mAI_wI, bb, mAI_wAI_ne (by decide), a]; rfl)) (h9.fr (by rw [d, mAI_wI, c, mAI_wI, bb, mAI_wAI_ne (by decide), a]; rfl) (by rw [d, mAI_wI, c, mAI_wI, bb, mAI_wAI_ne (by decide), a]; rfl) (by rw [d, c, bb, a]; rfl) (by rw [d, mAI_wI, c, mAI_wI, bb, mAI_wAI_ne (by decide), a]; rfl)) ⟨by show X.length + (σ.length + 1) ≤ i + 1; omega, by omega, by omega, by omega, h10.2.2.2.2⟩ hB (fun k1 M' R' F' _ => ⟨rfl, H1 ho k1 M' (by rw [eq]; exact R') (frD.tr F')⟩) (fun k1 M' T' F' _ => ⟨rfl, H0 ho k1 M' (T'.x (by decide)) (frD.tr F')⟩)⟩
    rw [iC]
    refine ⟨fun hc5 => ?_, fun _ => ⟨fun h9 => ?_, fun h9 => ?_⟩⟩
    · exfalso
      have := inj32 (b := 5) (by omega) (by decide) hc5
      omega
    · have hop3 : op = 3 := by
        rcases hop with q | q
        · exact q
        · subst q; exact absurd rfl h9
      exact ⟨ok29 FC, fun D d => fin D 0 (by omega) d (by rw [hop3]; rfl)⟩
    · have hop9 : op = 9 := inj32 (b := 9) (by omega) (by decide) h9
      exact ⟨ok29 FC, fun D d => fin D 1 (by omega) d (by rw [if_pos hop9])⟩
  · rw [h3, lt32 (by omega)]
    exact ⟨32, rf29_3 F, ok32 F, by rw [ln32 F]; exact vp_of (by omega) (by decide), B_fails hR (by decide) (fun M' T' F' _ => ⟨rfl, H6 (e15.mp hc) M' T' F'⟩)⟩
theorem B_operator (hR : SR b n s m sN ro mx vN (0, 0) M i o pr σ ν X) (hB : By b) (H : Q (some (.int (if tK b n i = 20 then 7 else if tK b n i = 21 then 8 else if tK b n i = 22 then 4 else if tK b n i = 23 then 5 else if tK b n i = 24 then 6 else -1))) M) : E (h + 1) mdX11_operator [.ref 29] M Q := by
  obtain ⟨⟨r1, r2, r3⟩, h5, h8⟩ := hR.tok
  have F := hR.1.1
  have eK : tK b n i = ckK b n (tP b n i) := rfl
  have e : ∀ k ∈ sKs, (rS b n (tP b n i) = 3 ∧ rV b n (tP b n i) = sv k) ↔ tK b n i = k := fun k hk => said_sign hB hk
  refine KX11_operator ?_
  unfold DX11_operator_0 DX11_operator_121
  rw [h5, lt32 (by omega)]
  have v31 : vp_in (Int32.ofNat i) (mL M 31) := by rw [ln31 F]; exact vp_of h8 (by decide)
  have v33 : vp_in (Int32.ofNat i) (mL M 33) := by rw [ln33 F]; exact vp_of h8 (by decide)
  refine ⟨ok29 F, 31, rf29_2 F, ok31 F, v31, fun q3 => ⟨33, rf29_4 F, ok33 F, v33, fun n43 => ⟨33, rf29_4 F, ok33 F, v33, fun n45 => ⟨33, rf29_4 F, ok33 F, v33, fun n42 => ⟨33, rf29_4 F, ok33 F, v33, fun n47 => ⟨33, rf29_4 F, ok33 F, v33, fun n37 => ?_, fun y => ?_⟩, fun y => ?_⟩, fun y => ?_⟩, fun y => ?_⟩, fun y => ?_⟩, fun q3 => ?_⟩
  all_goals rw [r1] at q3
  · rw [r3, lgz] at n43 n45 n42 n47 n37
    rw [if_neg (fun z => n43 ((e 20 (by decide)).mpr z).2), if_neg (fun z => n45 ((e 21 (by decide)).mpr z).2), if_neg (fun z => n42 ((e 22 (by decide)).mpr z).2), if_neg (fun z => n47 ((e 23 (by decide)).mpr z).2), if_neg (fun z => n37 ((e 24 (by decide)).mpr z).2)] at H
    exact H
  · rw [r3, lgz] at y
    have k := (e 24 (by decide)).mp ⟨q3, y⟩
    rw [k] at H
    exact H
  · rw [r3, lgz] at y
    have k := (e 23 (by decide)).mp ⟨q3, y⟩
    rw [k] at H
    exact H
  · rw [r3, lgz] at y
    have k := (e 22 (by decide)).mp ⟨q3, y⟩
    rw [k] at H
    exact H
  · rw [r3, lgz] at y
    have k := (e 21 (by decide)).mp ⟨q3, y⟩
    rw [k] at H
    exact H
  · rw [r3, lgz] at y
    have k := (e 20 (by decide)).mp ⟨q3, y⟩
    rw [k] at H
    exact H
  · rw [if_neg (fun z => q3 ((e 20 (by decide)).mpr z).1), if_neg (fun z => q3 ((e 21 (by decide)).mpr z).1), if_neg (fun z => q3 ((e 22 (by decide)).mpr z).1), if_neg (fun z => q3 ((e 23 (by decide)).mpr z).1), if_neg (fun z => q3 ((e 24 (by decide)).mpr z).1)] at H
    exact H
/-- an operand and the negatives ahead of it -/
theorem B_operand {k : Nat} {σ0 : List Nat} {d : Nd} {va : Int64} (hR : SR b n s m sN ro mx vN (0, 0) M i (o + k) pr (List.replicate k 3 ++ σ0) ν X) (hB : By b) (hs : i < s) (ht : top? σ0 (fun x => x ≠ 3)) (h100 : ∀ x ∈ σ0, x < 100) (hd : d.1 < 3) (hva : va = d.2.1) (H1 : tK b n (i + 1) ≠ 0 → ∀ M', SR b n s m sN ro mx vN (0, 0) M' (i + 1) o pr σ0 ((ng k X.length (X ++ [d])).1 :: ν) (ng k X.length (X ++ [d])).2 → RFm m M M' → Q none M') (H0 : tK b n (i + 1) = 0 → ∀ M', TXr M' 1 (tP b n (i + 1)) → RFm m M M' → Q none M') : E (h + 3) mdX11_sumOperand [.ref 29, .int (Int32.ofNat d.1), .long va] M Q := by
  obtain ⟨h1, h2, h3, h4, h5, h6, h7, h8, h9, h10⟩ := id hR
  have F := h1.1
  refine KX11_sumOperand ?_
  unfold DX11_sumOperand_0
  refine ⟨ok29 F, B_sum (d := d) hR (by omega) (by omega) (by rw [hva]; unfold xa; rw [if_pos hd]) (by unfold xb; rw [if_pos (by omega)]) (fun M3 _ x3 i3 s52 s53 c3 F3 _ => ⟨_, rfl, ?_⟩)⟩
  refine KX11_pushed ?_
  unfold DX11_pushed_0
  have e31 : mI M3 29 31 = Int32.ofNat ν.length := (i3 31).trans h8.1
  rw [e31, lt32 (by omega)]
  have FF := c3.1
  refine ⟨ok29 FF, 53, rf29_30 FF, ok53 FF, by rw [ln53 FF]; exact vp_of (by omega) (by decide), fun M4 e4 M5 e5 => ?_⟩
  have i4 : mI M4 29 31 = Int32.ofNat ν.length := by rw [e4, mI_wAI]; exact e31
  rw [i4, succ32, e4] at e5
  have g : ∀ f, f ≠ 31 → mI M5 29 f = mI M 29 f := by intro f hf; rw [e5]; simp [hf, i3, mNwI, mSwI, mKwI, mIwI, mJwI, mRwI, mLwI, mAIwI, mAJwI, mARwI, mNwJ, mSwJ, mKwJ, mIwJ, mJwJ, mRwJ, mLwJ, mAIwJ, mAJwJ, mARwJ, mNwR, mSwR, mKwR, mIwR, mJwR, mRwR, mLwR, mAIwR, mAJwR, mARwR, mNwAI, mSwAI, mKwAI, mIwAI, mJwAI, mRwAI, mLwAI, mAIwAI, mAJwAI, mARwAI, mNwAJ, mSwAJ, mKwAJ, mIwAJ, mJwAJ, mRwAJ, mLwAJ, mAIwAJ, mAJwAJ, mARwAJ, mNwAR, mSwAR, mKwAR, mIwAR, mJwAR, mRwAR, mLwAR, mAIwAR, mAJwAR, mARwAR, okkwI, okkwJ, okkwR, okkwAI, okkwAJ, okkwAR]
  have st3 : St M3 53 31 (810 * m) ν := h8.fr (i3 31) s53
  have st5 : St M5 53 31 (810 * m) (X.length :: ν) := st3.push e5
  have F5 : RFm m M3 M5 := by rw [e5]; exact (RFm.st (Or.inr rfl)).tr (RFm.i (by decide))
  have a52 : mAI M5 52 = mAI M 52 := by rw [e5, mAI_wI, mAI_wAI_ne (by decide)]; exact s52
  have ops5 : St M5 52 29 0 (List.replicate k 3 ++ σ0) := h7.fr (g 29 (by decide)) a52
  have x5 : XR M5 m (X ++ [d]) := x3.fr (by rw [e5, mAI_wI]; exact mAI_wAI_ne (by decide)) (by rw [e5, mAI_wI]; exact mAI_wAI_ne (by decide)) (by rw [e5]; rfl) (by rw [e5, mAI_wI]; exact mAI_wAI_ne (by decide))
  have hb10 : (X ++ [d]).length + (List.replicate k 3 ++ σ0).length ≤ i + 1 := by rw [List.length_append]; show X.length + 1 + _ ≤ i + 1; omega
  refine fun _ => ⟨rfl, B_take (pr := pr) (o := o + k) (c3.fr F5) ⟨h2.1, h2.2.1, hs⟩ ((g 5 (by decide)).trans h3) ((g 6 (by decide)).trans h4.1) ((g 33 (by decide)).trans h5) ((g 32 (by decide)).trans h6) ops5 st5 x5 ⟨hb10, by show ν.length + 1 ≤ i + 1; omega, h10.2.2.1, by omega, fun y hy => ?_⟩ hB (fun k1 M6 R6 F6 _ => ⟨rfl, ?_⟩) (fun k1 M6 R6 F6 _ => ⟨rfl, ?_⟩)⟩
  · rw [List.length_append]
    show y < X.length + 1
    rcases List.mem_cons.mp hy with q | q
    · omega
    · have := h10.2.2.2.2 y q
      omega
  · exact neg15 ht h100 k M6 (i + 1) o X.length (X ++ [d]) R6 (fun M' R' F' => H1 k1 M' R' (((F3.tr F5).tr F6).tr F'))
  · exact neg15 ht h100 k M6 (i + 1) o X.length (X ++ [d]) R6 (fun M' R' F' => H0 k1 M' (R'.x (by decide)) (((F3.tr F5).tr F6).tr F'))
end
