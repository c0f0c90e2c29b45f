/-! the reference reads sums: closing negatives, opening, an operand -/
section
variable {b : Nat → Int32} {n s m : Nat} {sN : List Int64} {ro mx : List Int32} {vN : List Int64} {w : Int32 × Int32} {pr : Nat} {h : Nat} {Q : Option Value → Mem → Prop}
theorem neg_body {M : Mem} {i o r : Nat} {σ ν : List Nat} {X : List Nd} {K : Mem → Prop} (hR : SR b n s m sN ro mx vN w M i (o + 1) pr (3 :: σ) (r :: ν) X) (H : ∀ M', SR b n s m sN ro mx vN w M' i o pr σ (X.length :: ν) (X ++ [(3, Int64.ofNat r, 0)]) → RFm m M M' → K M') :
    E (h + 1) mdX11_popped [.ref 29] M (fun r M4 => mE M M4 → ∃ r5 : Int32, r = some (.int r5) ∧ E (h + 1) mdX11_sum [.ref 29, .int 3, .long ((r5 : Int32).toInt64), .int 0] M4 (fun r M6 => mE M4 M6 → ∃ r7 : Int32, r = some (.int r7) ∧ E (h + 1) mdX11_pushed [.ref 29, .int r7] M6 (fun r M8 => mE M6 M8 → r = none ∧ ∀ M9 : Mem, M9 = wI M8 29 29 ((mI M8 29 29) - 1) → ∀ M10 : Mem, M10 = wI M9 29 33 ((mI M9 29 33) - 1) → K M10))) := by
  have hi := hR.2.1
  have h10 := hR.2.2.2.2.2.2.2.2.2
  have hl : X.length + (σ.length + 1) ≤ i := h10.1
  have hN2 : ν.length + 1 ≤ i := h10.2.1
  have hr : r < X.length := h10.2.2.2.2 r List.mem_cons_self
  refine B_popped hR (fun M2 R2 F2 _ => ⟨_, rfl, ?_⟩)
  have hm := R2.1.2.2.2.1
  refine B_sum (d := (3, Int64.ofNat r, 0)) R2 (by show X.length + 1 + (σ.length + 1) ≤ i + 1; omega) (by omega) ?_ rfl (fun M3 _ x3 i3 s52 s53 c3 F3 _ => ⟨_, rfl, ?_⟩)
  · show (Int32.ofNat (810 * m + r)).toInt64 = xa m (3, Int64.ofNat r, 0)
    unfold xa
    rw [if_neg (by show ¬ (3 : Nat) < 3; decide), i32_64 (by omega)]
    show _ = Int64.ofNat r + Int64.ofNat (810 * m)
    rw [i64_add, Nat.add_comm]
  refine KX11_pushed ?_
  unfold DX11_pushed_0
  have e31 : mI M3 29 31 = Int32.ofNat ν.length := (i3 31).trans R2.2.2.2.2.2.2.2.1.1
  rw [e31, lt32 (by omega)]
  have FF := c3.1
  refine ⟨ok29 FF, 53, rf29_30 FF, ok53 FF, by rw [ln53 FF]; exact vp_of (by omega) (by decide), fun M4 e4 M5 e5 => ?_⟩
  have i4 : mI M4 29 31 = Int32.ofNat ν.length := by rw [e4, mI_wAI]; exact e31
  rw [i4, succ32, e4] at e5
  refine fun _ => ⟨rfl, fun M6 e6 M7 e7 => ?_⟩
  have g : ∀ f, f ≠ 31 → mI M5 29 f = mI M2 29 f := by intro f hf; rw [e5]; simp [hf, i3, mNwI, mSwI, mKwI, mIwI, mJwI, mRwI, mLwI, mAIwI, mAJwI, mARwI, mNwJ, mSwJ, mKwJ, mIwJ, mJwJ, mRwJ, mLwJ, mAIwJ, mAJwJ, mARwJ, mNwR, mSwR, mKwR, mIwR, mJwR, mRwR, mLwR, mAIwR, mAJwR, mARwR, mNwAI, mSwAI, mKwAI, mIwAI, mJwAI, mRwAI, mLwAI, mAIwAI, mAJwAI, mARwAI, mNwAJ, mSwAJ, mKwAJ, mIwAJ, mJwAJ, mRwAJ, mLwAJ, mAIwAJ, mAJwAJ, mARwAJ, mNwAR, mSwAR, mKwAR, mIwAR, mJwAR, mRwAR, mLwAR, mAIwAR, mAJwAR, mARwAR, okkwI, okkwJ, okkwR, okkwAI, okkwAJ, okkwAR]
  have i5 : mI M5 29 29 = Int32.ofNat (σ.length + 1) := (g 29 (by decide)).trans R2.2.2.2.2.2.2.1.1
  rw [i5, show Int32.ofNat (σ.length + 1) - 1 = Int32.ofNat σ.length from sub32 (c := 1) (by omega) (by omega)] at e6
  have i6 : mI M6 29 33 = Int32.ofNat (o + 1) := by rw [e6]; simp [g, R2.2.2.2.2.1, mNwI, mSwI, mKwI, mIwI, mJwI, mRwI, mLwI, mAIwI, mAJwI, mARwI, mNwJ, mSwJ, mKwJ, mIwJ, mJwJ, mRwJ, mLwJ, mAIwJ, mAJwJ, mARwJ, mNwR, mSwR, mKwR, mIwR, mJwR, mRwR, mLwR, mAIwR, mAJwR, mARwR, mNwAI, mSwAI, mKwAI, mIwAI, mJwAI, mRwAI, mLwAI, mAIwAI, mAJwAI, mARwAI, mNwAJ, mSwAJ, mKwAJ, mIwAJ, mJwAJ, mRwAJ, mLwAJ, mAIwAJ, mAJwAJ, mARwAJ, mNwAR, mSwAR, mKwAR, mIwAR, mJwAR, mRwAR, mLwAR, mAIwAR, mAJwAR, mARwAR, okkwI, okkwJ, okkwR, okkwAI, okkwAJ, okkwAR]
  have ho := h10.2.2.1
  rw [i6, show Int32.ofNat (o + 1) - 1 = Int32.ofNat o from sub32 (c := 1) (by omega) (by omega), e6] at e7
  have st3 : St M3 53 31 (810 * m) ν := R2.2.2.2.2.2.2.2.1.fr (i3 31) s53
  have st5 : St M5 53 31 (810 * m) (X.length :: ν) := st3.push e5
  have ops3 : St M3 52 29 0 (3 :: σ) := R2.2.2.2.2.2.2.1.fr (i3 29) s52
  have F5 : RFm m M3 M5 := by rw [e5]; exact (RFm.st (Or.inr rfl)).tr (RFm.i (by decide))
  have a52 : mAI M5 52 = mAI M3 52 := by rw [e5, mAI_wI]; exact mAI_wAI_ne (by decide)
  have ops5 : St M5 52 29 0 (3 :: σ) := ops3.fr (by rw [e5]; simp [mNwI, mSwI, mKwI, mIwI, mJwI, mRwI, mLwI, mAIwI, mAJwI, mARwI, mNwJ, mSwJ, mKwJ, mIwJ, mJwJ, mRwJ, mLwJ, mAIwJ, mAJwJ, mARwJ, mNwR, mSwR, mKwR, mIwR, mJwR, mRwR, mLwR, mAIwR, mAJwR, mARwR, mNwAI, mSwAI, mKwAI, mIwAI, mJwAI, mRwAI, mLwAI, mAIwAI, mAJwAI, mARwAI, mNwAJ, mSwAJ, mKwAJ, mIwAJ, mJwAJ, mRwAJ, mLwAJ, mAIwAJ, mAJwAJ, mARwAJ, mNwAR, mSwAR, mKwAR, mIwAR, mJwAR, mRwAR, mLwAR, mAIwAR, mAJwAR, mARwAR, okkwI, okkwJ, okkwR, okkwAI, okkwAJ, okkwAR]) a52
  have x5 : XR M5 m (X ++ [(3, Int64.ofNat r, 0)]) := x3.fr (by rw [e5, mAI_wI]; exact mAI_wAI_ne (by decide)) (by rw [e5, mAI_wI]; exact mAI_wAI_ne (by decide)) (by rw [e5]; rfl) (by rw [e5, mAI_wI]; exact mAI_wAI_ne (by decide))
  have F7 : RFm m M5 M7 := by rw [e7]; exact (RFm.i (by decide)).tr (RFm.i (by decide))
  refine H M7 ?_ ((((F2.tr F3).tr F5)).tr F7)
  refine SR.opPop (M := M5) (x := 3) (c3.fr F5) hi ((g 5 (by decide)).trans R2.2.2.1) (R2.2.2.2.1.fr (g 6 (by decide)) (g 7 (by decide))) ops5 st5 x5 ⟨by rw [List.length_append]; show X.length + 1 + σ.length ≤ i; omega, by show ν.length + 1 ≤ i; omega, by omega, h10.2.2.2.1, fun y hy => ?_⟩ F7 (by rw [e7]; simp [mNwI, mSwI, mKwI, mIwI, mJwI, mRwI, mLwI, mAIwI, mAJwI, mARwI, mNwJ, mSwJ, mKwJ, mIwJ, mJwJ, mRwJ, mLwJ, mAIwJ, mAJwJ, mARwJ, mNwR, mSwR, mKwR, mIwR, mJwR, mRwR, mLwR, mAIwR, mAJwR, mARwR, mNwAI, mSwAI, mKwAI, mIwAI, mJwAI, mRwAI, mLwAI, mAIwAI, mAJwAI, mARwAI, mNwAJ, mSwAJ, mKwAJ, mIwAJ, mJwAJ, mRwAJ, mLwAJ, mAIwAJ, mAJwAJ, mARwAJ, mNwAR, mSwAR, mKwAR, mIwAR, mJwAR, mRwAR, mLwAR, mAIwAR, mAJwAR, mARwAR, okkwI, okkwJ, okkwR, okkwAI, okkwAJ, okkwAR]) (by rw [e7]; simp [mNwI, mSwI, mKwI, mIwI, mJwI, mRwI, mLwI, mAIwI, mAJwI, mARwI, mNwJ, mSwJ, mKwJ, mIwJ, mJwJ, mRwJ, mLwJ, mAIwJ, mAJwJ, mARwJ, mNwR, mSwR, mKwR, mIwR, mJwR, mRwR, mLwR, mAIwR, mAJwR, mARwR, mNwAI, mSwAI, mKwAI, mIwAI, mJwAI, mRwAI, mLwAI, mAIwAI, mAJwAI, mARwAI, mNwAJ, mSwAJ, mKwAJ, mIwAJ, mJwAJ, mRwAJ, mLwAJ, mAIwAJ, mAJwAJ, mARwAJ, mNwAR, mSwAR, mKwAR, mIwAR, mJwAR, mRwAR, mLwAR, mAIwAR, mAJwAR, mARwAR, okkwI, okkwJ, okkwR, okkwAI, okkwAJ, okkwAR]) (by rw [e7]; simp [mNwI, mSwI, mKwI, mIwI, mJwI, mRwI, mLwI, mAIwI, mAJwI, mARwI, mNwJ, mSwJ, mKwJ, mIwJ, mJwJ, mRwJ, mLwJ, mAIwJ, mAJwJ, mARwJ, mNwR, mSwR, mKwR, mIwR, mJwR, mRwR, mLwR, mAIwR, mAJwR, mARwR, mNwAI, mSwAI, mKwAI, mIwAI, mJwAI, mRwAI, mLwAI, mAIwAI, mAJwAI, mARwAI, mNwAJ, mSwAJ, mKwAJ, mIwAJ, mJwAJ, mRwAJ, mLwAJ, mAIwAJ, mAJwAJ, mARwAJ, mNwAR, mSwAR, mKwAR, mIwAR, mJwAR, mRwAR, mLwAR, mAIwAR, mAJwAR, mARwAR, okkwI, okkwJ, okkwR, okkwAI, okkwAJ, okkwAR]) (by rw [e7]; simp [mNwI, mSwI, mKwI, mIwI, mJwI, mRwI, mLwI, mAIwI, mAJwI, mARwI, mNwJ, mSwJ, mKwJ, mIwJ, mJwJ, mRwJ, mLwJ, mAIwJ, mAJwJ, mARwJ, mNwR, mSwR, mKwR, mIwR, mJwR, mRwR, mLwR, mAIwR, mAJwR, mARwR, mNwAI, mSwAI, mKwAI, mIwAI, mJwAI, mRwAI, mLwAI, mAIwAI, mAJwAI, mARwAI, mNwAJ, mSwAJ, mKwAJ, mIwAJ, mJwAJ, mRwAJ, mLwAJ, mAIwAJ, mAJwAJ, mARwAJ, mNwAR, mSwAR, mKwAR, mIwAR, mJwAR, mRwAR, mLwAR, mAIwAR, mAJwAR, mARwAR, okkwI, okkwJ, okkwR, okkwAI, okkwAJ, okkwAR]) (by rw [e7]; simp [mNwI, mSwI, mKwI, mIwI, mJwI, mRwI, mLwI, mAIwI, mAJwI, mARwI, mNwJ, mSwJ, mKwJ, mIwJ, mJwJ, mRwJ, mLwJ, mAIwJ, mAJwJ, mARwJ, mNwR, mSwR, mKwR, mIwR, mJwR, mRwR, mLwR, mAIwR, mAJwR, mARwR, mNwAI, mSwAI, mKwAI, mIwAI, mJwAI, mRwAI, mLwAI, mAIwAI, mAJwAI, mARwAI, mNwAJ, mSwAJ, mKwAJ, mIwAJ, mJwAJ, mRwAJ, mLwAJ, mAIwAJ, mAJwAJ, mARwAJ, mNwAR, mSwAR, mKwAR, mIwAR, mJwAR, mRwAR, mLwAR, mAIwAR, mAJwAR, mARwAR, okkwI, okkwJ, okkwR, okkwAI, okkwAJ, okkwAR]) (by rw [e7]; simp [mNwI, mSwI, mKwI, mIwI, mJwI, mRwI, mLwI, mAIwI, mAJwI, mARwI, mNwJ, mSwJ, mKwJ, mIwJ, mJwJ, mRwJ, mLwJ, mAIwJ, mAJwJ, mARwJ, mNwR, mSwR, mKwR, mIwR, mJwR, mRwR, mLwR, mAIwR, mAJwR, mARwR, mNwAI, mSwAI, mKwAI, mIwAI, mJwAI, mRwAI, mLwAI, mAIwAI, mAJwAI, mARwAI, mNwAJ, mSwAJ, mKwAJ, mIwAJ, mJwAJ, mRwAJ, mLwAJ, mAIwAJ, mAJwAJ, mARwAJ, mNwAR, mSwAR, mKwAR, mIwAR, mJwAR, mRwAR, mLwAR, mAIwAR, mAJwAR, mARwAR, okkwI, okkwJ, okkwR, okkwAI, okkwAJ, okkwAR]) (by rw [e7]; simp [g, R2.2.2.2.2.2.1, mNwI, mSwI, mKwI, mIwI, mJwI, mRwI, mLwI, mAIwI, mAJwI, mARwI, mNwJ, mSwJ, mKwJ, mIwJ, mJwJ, mRwJ, mLwJ, mAIwJ, mAJwJ, mARwJ, mNwR, mSwR, mKwR, mIwR, mJwR, mRwR, mLwR, mAIwR, mAJwR, mARwR, mNwAI, mSwAI, mKwAI, mIwAI, mJwAI, mRwAI, mLwAI, mAIwAI, mAJwAI, mARwAI, mNwAJ, mSwAJ, mKwAJ, mIwAJ, mJwAJ, mRwAJ, mLwAJ, mAIwAJ, mAJwAJ, mARwAJ, mNwAR, mSwAR, mKwAR, mIwAR, mJwAR, mRwAR, mLwAR, mAIwAR, mAJwAR, mARwAR, okkwI, okkwJ, okkwR, okkwAI, okkwAJ, okkwAR]) (by rw [e7]; rfl) (by rw [e7]; rfl)
  rw [List.length_append]
  show y < X.length + 1
  rcases List.mem_cons.mp hy with q | q
  · omega
  · have := h10.2.2.2.2 y (List.mem_cons_of_mem _ q)
    omega
theorem neg15 {σ0 ν0 : List Nat} (ht : top? σ0 (fun x => x ≠ 3)) (h100 : ∀ x ∈ σ0, x < 100) : ∀ (k : Nat) (M : Mem) (i o r : Nat) (X : List Nd), SR b n s m sN ro mx vN w M i (o + k) pr (List.replicate k 3 ++ σ0) (r :: ν0) X → (∀ M', SR b n s m sN ro mx vN w M' i o pr σ0 ((ng k r X).1 :: ν0) (ng k r X).2 → RFm m M M' → Q none M') → T (h + 2) mdX11_sumOperand 15 [(0, .ref 29)] [] M Q := by
  intro k
  induction k with
  | zero =>
    intro M i o r X hR H
    have hR : SR b n s m sN ro mx vN w M i o pr σ0 (r :: ν0) X := by simpa using hR
    have HQ := H M hR RFm.rf
    have F := hR.1.1
    have hi := hR.2.1
    have h7 := hR.2.2.2.2.2.2.1
    have h10 := hR.2.2.2.2.2.2.2.2.2
    refine VX11_sumOperand_15 ?_
    unfold DX11_sumOperand_15 DX11_sumOperand_75
    rw [h7.1]
    cases σ0 with
    | nil => exact ⟨ok29 F, fun _ => HQ, fun hc => absurd (by decide) hc⟩
    | cons x σ =>
      have hl : σ.length + 1 ≤ i := by
        have := h10.1
        simp only [List.length_cons] at this
        omega
      have tp := h7.top
      rw [Nat.zero_add] at tp
      have hx := h100 x List.mem_cons_self
      rw [show Int32.ofNat (x :: σ).length - 1 = Int32.ofNat σ.length from sub32 (c := 1) (a := σ.length + 1) (by omega) (by omega), lt32 (by omega)]
      refine ⟨ok29 F, fun _ => HQ, fun _ => ⟨52, rf29_28 F, ok52 F, by rw [ln52 F]; exact vp_of (by omega) (by decide), fun _ => HQ, fun q => ?_⟩⟩
      rw [tp] at q
      exact absurd (inj32 (b := 3) (by omega) (by decide) q) ht
  | succ k ih =>
    intro M i o r X hR H
    have hR : SR b n s m sN ro mx vN w M i (o + k + 1) pr (3 :: (List.replicate k 3 ++ σ0)) (r :: ν0) X := hR
    have F := hR.1.1
    have hi := hR.2.1
    have h7 := hR.2.2.2.2.2.2.1
    have h10 := hR.2.2.2.2.2.2.2.2.2
    have ihk := ih
    clear ih
    generalize hS : List.replicate k 3 ++ σ0 = S at hR h7 h10
    have hl : X.length + (S.length + 1) ≤ i := h10.1
    have e29 : mI M 29 29 = Int32.ofNat (S.length + 1) := h7.1
    have e1 : Int32.ofNat (S.length + 1) - 1 = Int32.ofNat S.length := sub32 (c := 1) (by omega) (by omega)
    have tp := h7.top
    rw [Nat.zero_add] at tp
    refine VX11_sumOperand_15 ?_
    unfold DX11_sumOperand_15
    rw [e29, e1, lt32 (by omega)]
    refine ⟨ok29 F, fun hc => ?_, fun _ => ⟨52, rf29_28 F, ok52 F, by rw [ln52 F]; exact vp_of (by omega) (by decide), fun hc => ?_, fun _ => ?_⟩⟩
    · exact absurd ((le32 (b := 0) (by omega) (by decide)).mp hc) (by omega)
    · rw [tp] at hc; exact absurd rfl hc
    · refine neg_body hR (fun M1 R1 F1 => ihk M1 i o X.length (X ++ [(3, Int64.ofNat r, 0)]) (by rw [hS]; exact R1) (fun M' R' F' => H M' R' (F1.tr F')))
theorem neg199 {σ0 ν0 : List Nat} {x1 x2 : Int32} (ht : top? σ0 (fun x => x ≠ 3)) (h100 : ∀ x ∈ σ0, x < 100) : ∀ (k : Nat) (M : Mem) (i o r : Nat) (X : List Nd), SR b n s m sN ro mx vN w M i (o + k) pr (List.replicate k 3 ++ σ0) (r :: ν0) X → (∀ M', SR b n s m sN ro mx vN w M' i o pr σ0 ((ng k r X).1 :: ν0) (ng k r X).2 → RFm m M M' → T (h + 2) mdX11_readSum 19 [(0, .ref 29), (1, .int x1), (2, .int x2)] [] M' Q) → T (h + 2) mdX11_readSum 199 [(0, .ref 29), (1, .int x1), (2, .int x2)] [] M Q := by
  intro k
  induction k with
  | zero =>
    intro M i o r X hR H
    have hR : SR b n s m sN ro mx vN w M i o pr σ0 (r :: ν0) X := by simpa using hR
    have HQ := H M hR RFm.rf
    have F := hR.1.1
    have hi := hR.2.1
    have h7 := hR.2.2.2.2.2.2.1
    have h10 := hR.2.2.2.2.2.2.2.2.2
    refine VX11_readSum_199 ?_
    unfold DX11_readSum_199
    rw [h7.1]
    cases σ0 with
    | nil => exact ⟨ok29 F, fun _ => HQ, fun hc => absurd (by decide) hc⟩
    | cons x σ =>
      have hl : σ.length + 1 ≤ i := by
        have := h10.1
        simp only [List.length_cons] at this
        omega
      have tp := h7.top
      rw [Nat.zero_add] at tp
      have hx := h100 x List.mem_cons_self
      rw [show Int32.ofNat (x :: σ).length - 1 = Int32.ofNat σ.length from sub32 (c := 1) (a := σ.length + 1) (by omega) (by omega), lt32 (by omega)]
      refine ⟨ok29 F, fun _ => HQ, fun _ => ⟨52, rf29_28 F, ok52 F, by rw [ln52 F]; exact vp_of (by omega) (by decide), fun _ => HQ, fun q => ?_⟩⟩
      rw [tp] at q
      exact absurd (inj32 (b := 3) (by omega) (by decide) q) ht
  | succ k ih =>
    intro M i o r X hR H
    have hR : SR b n s m sN ro mx vN w M i (o + k + 1) pr (3 :: (List.replicate k 3 ++ σ0)) (r :: ν0) X := hR
    have F := hR.1.1
    have hi := hR.2.1
    have h7 := hR.2.2.2.2.2.2.1
    have h10 := hR.2.2.2.2.2.2.2.2.2
    have ihk := ih
    clear ih
    generalize hS : List.replicate k 3 ++ σ0 = S at hR h7 h10
    have hl : X.length + (S.length + 1) ≤ i := h10.1
    have e29 : mI M 29 29 = Int32.ofNat (S.length + 1) := h7.1
    have e1 : Int32.ofNat (S.length + 1) - 1 = Int32.ofNat S.length := sub32 (c := 1) (by omega) (by omega)
    have tp := h7.top
    rw [Nat.zero_add] at tp
    refine VX11_readSum_199 ?_
    unfold DX11_readSum_199
    rw [e29, e1, lt32 (by omega)]
    refine ⟨ok29 F, fun hc => ?_, fun _ => ⟨52, rf29_28 F, ok52 F, by rw [ln52 F]; exact vp_of (by omega) (by decide), fun hc => ?_, fun _ => ?_⟩⟩
    · exact absurd ((le32 (b := 0) (by omega) (by decide)).mp hc) (by omega)
    · rw [tp] at hc; exact absurd rfl hc
    · refine neg_body hR (fun M1 R1 F1 => ihk M1 i o X.length (X ++ [(3, Int64.ofNat r, 0)]) (by rw [hS]; exact R1) (fun M' R' F' => H M' R' (F1.tr F')))
/-! taking a token -/
theorem B_take {M : Mem} {i o : Nat} {σ ν : List Nat} {X : List Nd} (h1 : CoR b n s m sN ro mx vN M) (hi : n ≤ 800 ∧ s ≤ n ∧ i < s) (h3 : mI M 29 5 = Int32.ofNat i) (h4 : mI M 29 6 = 0) (h5 : mI M 29 33 = Int32.ofNat o) (h6 : mI M 29 32 = Int32.ofNat pr) (h7 : St M 52 29 0 σ) (h8 : St M 53 31 (810 * m) ν) (h9 : XR M m X) (h10 : X.length + σ.length ≤ i + 1 ∧ ν.length ≤ i + 1 ∧ o ≤ 15 ∧ pr ≤ i + 1 ∧ ∀ x ∈ ν, x < X.length) (hB : By b) (H1 : tK b n (i + 1) ≠ 0 → ∀ M', SR b n s m sN ro mx vN (0, 0) M' (i + 1) o pr σ ν X → RFm m M M' → Q none M') (H0 : tK b n (i + 1) = 0 → ∀ M', SR b n s m sN ro mx vN (1, Int32.ofNat (tP b n (i + 1))) M' (i + 1) o pr σ ν X → RFm m M M' → Q none M') : E (h + 2) mdX11_take [.ref 29] M Q := by
  have F := h1.1
  have e : mI M 29 5 + 1 = Int32.ofNat (i + 1) := by rw [h3, succ32]
  refine R_take F (by rw [e]; exact vp_of (by omega) (by decide)) ?_
  unfold takF
  rw [e, lt32 (by omega)]
  obtain ⟨r1, r2, r3⟩ := h1.2.1 (i + 1) (by omega)
  have rel : rS b n (tP b n (i + 1)) = 4 ↔ tK b n (i + 1) = 0 := (rS_rel hB).2
  have fr : RFm m M (wI M 29 5 (Int32.ofNat (i + 1))) := RFm.i (by decide)
  by_cases hk : tK b n (i + 1) = 0
  · rw [if_pos (r1.trans (rel.mpr hk)), r2]
    have e2 : flF (wI M 29 5 (Int32.ofNat (i + 1))) 1 (Int32.ofNat (tP b n (i + 1))) = wI (wI (wI M 29 5 (Int32.ofNat (i + 1))) 29 6 1) 29 7 (Int32.ofNat (tP b n (i + 1))) := by
      unfold flF; rw [if_pos (by simp [h4, mNwI, mSwI, mKwI, mIwI, mJwI, mRwI, mLwI, mAIwI, mAJwI, mARwI, mNwJ, mSwJ, mKwJ, mIwJ, mJwJ, mRwJ, mLwJ, mAIwJ, mAJwJ, mARwJ, mNwR, mSwR, mKwR, mIwR, mJwR, mRwR, mLwR, mAIwR, mAJwR, mARwR, mNwAI, mSwAI, mKwAI, mIwAI, mJwAI, mRwAI, mLwAI, mAIwAI, mAJwAI, mARwAI, mNwAJ, mSwAJ, mKwAJ, mIwAJ, mJwAJ, mRwAJ, mLwAJ, mAIwAJ, mAJwAJ, mARwAJ, mNwAR, mSwAR, mKwAR, mIwAR, mJwAR, mRwAR, mLwAR, mAIwAR, mAJwAR, mARwAR, okkwI, okkwJ, okkwR, okkwAI, okkwAJ, okkwAR])]
    rw [e2]
    have fr2 : RFm m M (wI (wI (wI M 29 5 (Int32.ofNat (i + 1))) 29 6 1) 29 7 (Int32.ofNat (tP b n (i + 1)))) := (fr.tr (RFm.i (by decide))).tr (RFm.i (by decide))
    exact H0 hk _ ⟨h1.fr fr2, ⟨hi.1, hi.2.1, hi.2.2⟩, by simp [mNwI, mSwI, mKwI, mIwI, mJwI, mRwI, mLwI, mAIwI, mAJwI, mARwI, mNwJ, mSwJ, mKwJ, mIwJ, mJwJ, mRwJ, mLwJ, mAIwJ, mAJwJ, mARwJ, mNwR, mSwR, mKwR, mIwR, mJwR, mRwR, mLwR, mAIwR, mAJwR, mARwR, mNwAI, mSwAI, mKwAI, mIwAI, mJwAI, mRwAI, mLwAI, mAIwAI, mAJwAI, mARwAI, mNwAJ, mSwAJ, mKwAJ, mIwAJ, mJwAJ, mRwAJ, mLwAJ, mAIwAJ, mAJwAJ, mARwAJ, mNwAR, mSwAR, mKwAR, mIwAR, mJwAR, mRwAR, mLwAR, mAIwAR, mAJwAR, mARwAR, okkwI, okkwJ, okkwR, okkwAI, okkwAJ, okkwAR], ⟨by simp [mNwI, mSwI, mKwI, mIwI, mJwI, mRwI, mLwI, mAIwI, mAJwI, mARwI, mNwJ, mSwJ, mKwJ, mIwJ, mJwJ, mRwJ, mLwJ, mAIwJ, mAJwJ, mARwJ, mNwR, mSwR, mKwR, mIwR, mJwR, mRwR, mLwR, mAIwR, mAJwR, mARwR, mNwAI, mSwAI, mKwAI, mIwAI, mJwAI, mRwAI, mLwAI, mAIwAI, mAJwAI, mARwAI, mNwAJ, mSwAJ, mKwAJ, mIwAJ, mJwAJ, mRwAJ, mLwAJ, mAIwAJ, mAJwAJ, mARwAJ, mNwAR, mSwAR, mKwAR, mIwAR, mJwAR, mRwAR, mLwAR, mAIwAR, mAJwAR, mARwAR, okkwI, okkwJ, okkwR, okkwAI, okkwAJ, okkwAR], Or.inr (by simp [mNwI, mSwI, mKwI, mIwI, mJwI, mRwI, mLwI, mAIwI, mAJwI, mARwI, mNwJ, mSwJ, mKwJ, mIwJ, mJwJ, mRwJ, mLwJ, mAIwJ, mAJwJ, mARwJ, mNwR, mSwR, mKwR, mIwR, mJwR, mRwR, mLwR, mAIwR, mAJwR, mARwR, mNwAI, mSwAI, mKwAI, mIwAI, mJwAI, mRwAI, mLwAI, mAIwAI, mAJwAI, mARwAI, mNwAJ, mSwAJ, mKwAJ, mIwAJ, mJwAJ, mRwAJ, mLwAJ, mAIwAJ, mAJwAJ, mARwAJ, mNwAR, mSwAR, mKwAR, mIwAR, mJwAR, mRwAR, mLwAR, mAIwAR, mAJwAR, mARwAR, okkwI, okkwJ, okkwR, okkwAI, okkwAJ, okkwAR])⟩, by simp [h5, mNwI, mSwI, mKwI, mIwI, mJwI, mRwI, mLwI, mAIwI, mAJwI, mARwI, mNwJ, mSwJ, mKwJ, mIwJ, mJwJ, mRwJ, mLwJ, mAIwJ, mAJwJ, mARwJ, mNwR, mSwR, mKwR, mIwR, mJwR, mRwR, mLwR, mAIwR, mAJwR, mARwR, mNwAI, mSwAI, mKwAI, mIwAI, mJwAI, mRwAI, mLwAI, mAIwAI, mAJwAI, mARwAI, mNwAJ, mSwAJ, mKwAJ, mIwAJ, mJwAJ, mRwAJ, mLwAJ, mAIwAJ, mAJwAJ, mARwAJ, mNwAR, mSwAR, mKwAR, mIwAR, mJwAR, mRwAR, mLwAR, mAIwAR, mAJwAR, mARwAR, okkwI, okkwJ, okkwR, okkwAI, okkwAJ, okkwAR], by simp [h6, mNwI, mSwI, mKwI, mIwI, mJwI, mRwI, mLwI, mAIwI, mAJwI, mARwI, mNwJ, mSwJ, mKwJ, mIwJ, mJwJ, mRwJ, mLwJ, mAIwJ, mAJwJ, mARwJ, mNwR, mSwR, mKwR, mIwR, mJwR, mRwR, mLwR, mAIwR, mAJwR, mARwR, mNwAI, mSwAI, mKwAI, mIwAI, mJwAI, mRwAI, mLwAI, mAIwAI, mAJwAI, mARwAI, mNwAJ, mSwAJ, mKwAJ, mIwAJ, mJwAJ, mRwAJ, mLwAJ, mAIwAJ, mAJwAJ, mARwAJ, mNwAR, mSwAR, mKwAR, mIwAR, mJwAR, mRwAR, mLwAR, mAIwAR, mAJwAR, mARwAR, okkwI, okkwJ, okkwR, okkwAI, okkwAJ, okkwAR], h7.fr (by simp [mNwI, mSwI, mKwI, mIwI, mJwI, mRwI, mLwI, mAIwI, mAJwI, mARwI, mNwJ, mSwJ, mKwJ, mIwJ, mJwJ, mRwJ, mLwJ, mAIwJ, mAJwJ, mARwJ, mNwR, mSwR, mKwR, mIwR, mJwR, mRwR, mLwR, mAIwR, mAJwR, mARwR, mNwAI, mSwAI, mKwAI, mIwAI, mJwAI, mRwAI, mLwAI, mAIwAI, mAJwAI, mARwAI, mNwAJ, mSwAJ, mKwAJ, mIwAJ, mJwAJ, mRwAJ, mLwAJ, mAIwAJ, mAJwAJ, mARwAJ, mNwAR, mSwAR, mKwAR, mIwAR, mJwAR, mRwAR, mLwAR, mAIwAR, mAJwAR, mARwAR, okkwI, okkwJ, okkwR, okkwAI, okkwAJ, okkwAR]) rfl, h8.fr (by simp [mNwI, mSwI, mKwI, mIwI, mJwI, mRwI, mLwI, mAIwI, mAJwI, mARwI, mNwJ, mSwJ, mKwJ, mIwJ, mJwJ, mRwJ, mLwJ, mAIwJ, mAJwJ, mARwJ, mNwR, mSwR, mKwR, mIwR, mJwR, mRwR, mLwR, mAIwR, mAJwR, mARwR, mNwAI, mSwAI, mKwAI, mIwAI, mJwAI, mRwAI, mLwAI, mAIwAI, mAJwAI, mARwAI, mNwAJ, mSwAJ, mKwAJ, mIwAJ, mJwAJ, mRwAJ, mLwAJ, mAIwAJ, mAJwAJ, mARwAJ, mNwAR, mSwAR, mKwAR, mIwAR, mJwAR, mRwAR, mLwAR, mAIwAR, mAJwAR, mARwAR, okkwI, okkwJ, okkwR, okkwAI, okkwAJ, okkwAR]) rfl, h9.fr rfl rfl rfl rfl, h10⟩ fr2
  · rw [if_neg (fun z => hk (rel.mp (r1.symm.trans z)))]
    refine H1 hk _ ⟨h1.fr fr, ⟨hi.1, hi.2.1, hi.2.2⟩, by simp [mNwI, mSwI, mKwI, mIwI, mJwI, mRwI, mLwI, mAIwI, mAJwI, mARwI, mNwJ, mSwJ, mKwJ, mIwJ, mJwJ, mRwJ, mLwJ, mAIwJ, mAJwJ, mARwJ, mNwR, mSwR, mKwR, mIwR, mJwR, mRwR, mLwR, mAIwR, mAJwR, mARwR, mNwAI, mSwAI, mKwAI, mIwAI, mJwAI, mRwAI, mLwAI, mAIwAI, mAJwAI, mARwAI, mNwAJ, mSwAJ, mKwAJ, mIwAJ, mJwAJ, mRwAJ, mLwAJ, mAIwAJ, mAJwAJ, mARwAJ, mNwAR, mSwAR, mKwAR, mIwAR, mJwAR, mRwAR, mLwAR, mAIwAR, mAJwAR, mARwAR, okkwI, okkwJ, okkwR, okkwAI, okkwAJ, okkwAR], ⟨by simp [h4, mNwI, mSwI, mKwI, mIwI, mJwI, mRwI, mLwI, mAIwI, mAJwI, mARwI, mNwJ, mSwJ, mKwJ, mIwJ, mJwJ, mRwJ, mLwJ, mAIwJ, mAJwJ, mARwJ, mNwR, mSwR, mKwR, mIwR, mJwR, mRwR, mLwR, mAIwR, mAJwR, mARwR, mNwAI, mSwAI, mKwAI, mIwAI, mJwAI, mRwAI, mLwAI, mAIwAI, mAJwAI, mARwAI, mNwAJ, mSwAJ, mKwAJ, mIwAJ, mJwAJ, mRwAJ, mLwAJ, mAIwAJ, mAJwAJ, mARwAJ, mNwAR, mSwAR, mKwAR, mIwAR, mJwAR, mRwAR, mLwAR, mAIwAR, mAJwAR, mARwAR, okkwI, okkwJ, okkwR, okkwAI, okkwAJ, okkwAR], Or.inl rfl⟩, by simp [h5, mNwI, mSwI, mKwI, mIwI, mJwI, mRwI, mLwI, mAIwI, mAJwI, mARwI, mNwJ, mSwJ, mKwJ, mIwJ, mJwJ, mRwJ, mLwJ, mAIwJ, mAJwJ, mARwJ, mNwR, mSwR, mKwR, mIwR, mJwR, mRwR, mLwR, mAIwR, mAJwR, mARwR, mNwAI, mSwAI, mKwAI, mIwAI, mJwAI, mRwAI, mLwAI, mAIwAI, mAJwAI, mARwAI, mNwAJ, mSwAJ, mKwAJ, mIwAJ, mJwAJ, mRwAJ, mLwAJ, mAIwAJ, mAJwAJ, mARwAJ, mNwAR, mSwAR, mKwAR, mIwAR, mJwAR, mRwAR, mLwAR, mAIwAR, mAJwAR, mARwAR, okkwI, okkwJ, okkwR, okkwAI, okkwAJ, okkwAR], by simp [h6, mNwI, mSwI, mKwI, mIwI, mJwI, mRwI, mLwI, mAIwI, mAJwI, mARwI, mNwJ, mSwJ, mKwJ, mIwJ, mJwJ, mRwJ, mLwJ, mAIwJ, mAJwJ, mARwJ, mNwR, mSwR, mKwR, mIwR, mJwR, mRwR, mLwR, mAIwR, mAJwR, mARwR, mNwAI, mSwAI, mKwAI, mIwAI, mJwAI, mRwAI, mLwAI, mAIwAI, mAJwAI, mARwAI, mNwAJ, mSwAJ, mKwAJ, mIwAJ, mJwAJ, mRwAJ, mLwAJ, mAIwAJ, mAJwAJ, mARwAJ, mNwAR, mSwAR, mKwAR, mIwAR, mJwAR, mRwAR, mLwAR, mAIwAR, mAJwAR, mARwAR, okkwI, okkwJ, okkwR, okkwAI, okkwAJ, okkwAR], h7.fr (by simp [mNwI, mSwI, mKwI, mIwI, mJwI, mRwI, mLwI, mAIwI, mAJwI, mARwI, mNwJ, mSwJ, mKwJ, mIwJ, mJwJ, mRwJ, mLwJ, mAIwJ, mAJwJ, mARwJ, mNwR, mSwR, mKwR, mIwR, mJwR, mRwR, mLwR, mAIwR, mAJwR, mARwR, mNwAI, mSwAI, mKwAI, mIwAI, mJwAI, mRwAI, mLwAI, mAIwAI, mAJwAI, mARwAI, mNwAJ, mSwAJ, mKwAJ, mIwAJ, mJwAJ, mRwAJ, mLwAJ, mAIwAJ, mAJwAJ, mARwAJ, mNwAR, mSwAR, mKwAR, mIwAR, mJwAR, mRwAR, mLwAR, mAIwAR, mAJwAR, mARwAR, okkwI, okkwJ, okkwR, okkwAI, okkwAJ, okkwAR]) rfl, h8.fr (by simp [mNwI, mSwI, mKwI, mIwI, mJwI, mRwI, mLwI, mAIwI, mAJwI, mARwI, mNwJ, mSwJ, mKwJ, mIwJ, mJwJ, mRwJ, mLwJ, mAIwJ, mAJwJ, mARwJ, mNwR, mSwR, mKwR, mIwR, mJwR, mRwR, mLwR, mAIwR, mAJwR, mARwR, mNwAI, mSwAI, mKwAI, mIwAI, mJwAI, mRwAI, mLwAI, mAIwAI, mAJwAI, mARwAI, mNwAJ, mSwAJ, mKwAJ, mIwAJ, mJwAJ, mRwAJ, mLwAJ, mAIwAJ, mAJwAJ, mARwAJ, mNwAR, mSwAR, mKwAR, mIwAR, mJwAR, mRwAR, mLwAR, mAIwAR, mAJwAR, mARwAR, okkwI, okkwJ, okkwR, okkwAI, okkwAJ, okkwAR]) rfl, h9.fr rfl rfl rfl rfl, h10⟩ fr
theorem SR.x {f : Int32} {p i o : Nat} {M : Mem} {σ ν : List Nat} {X : List Nd} (h : SR b n s m sN ro mx vN (f, Int32.ofNat p) M i o pr σ ν X) (hf : 0 < f) : TXr M f p := ⟨h.1.1, h.2.2.2.1.1, hf, h.2.2.2.1.2.resolve_left (fun z => by
  have z : f = 0 := z
  rw [z] at hf
  exact absurd hf (by decide))⟩
end
