/-! the reference reads sums: joining, closing, opening -/
/-- joins all pending operators: head is on top, with its left node; r is the right one -/
def jf : List (Nat × Nat) → Nat → List Nd → Nat × List Nd
  | [], r, X => (r, X)
  | e :: π, r, X => jf π X.length (X ++ [(e.1, Int64.ofNat e.2, r)])
theorem jf_app {e : Nat × Nat} : ∀ (π : List (Nat × Nat)) (r : Nat) (X : List Nd), jf (π ++ [e]) r X = ((jf π r X).2.length, (jf π r X).2 ++ [(e.1, Int64.ofNat e.2, (jf π r X).1)]) := by
  intro π
  induction π with
  | nil => intro r X; rfl
  | cons a π ih => intro r X; exact ih _ _
def ng : Nat → Nat → List Nd → Nat × List Nd
  | 0, r, X => (r, X)
  | k + 1, r, X => ng k X.length (X ++ [(3, Int64.ofNat r, 0)])
def top? (σ : List Nat) (P : Nat → Prop) : Prop := match σ with
  | [] => True
  | x :: _ => P x
theorem i64_add {a c : Nat} : Int64.ofNat a + Int64.ofNat c = Int64.ofNat (a + c) := (Int64.ofNat_add a c).symm
theorem i32_64 {a : Nat} (h : a < 2147483648) : (Int32.ofNat a).toInt64 = Int64.ofNat a := by
  rw [c64, ti32 h]; rfl
section
variable {b : Nat → Int32} {n s m : Nat} {sN : List Int64} {ro mx : List Int32} {vN : List Int64} {w : Int32 × Int32} {o pr : Nat} {h : Nat} {Q : Option Value → Mem → Prop}
/-- the operator on top goes -/
theorem SR.opPop {M M' : Mem} {i : Nat} {x : Nat} {σ ν : List Nat} {X : List Nd} {o' pr' : Nat} (h1 : CoR b n s m sN ro mx vN M) (h2 : n ≤ 800 ∧ s ≤ n ∧ i ≤ s) (h3 : mI M 29 5 = Int32.ofNat i) (h4 : W6 M w) (h7 : St M 52 29 0 (x :: σ)) (h8 : St M 53 31 (810 * m) ν) (h9 : XR M m X) (h10 : X.length + σ.length ≤ i ∧ ν.length ≤ i ∧ o' ≤ 15 ∧ pr' ≤ i ∧ ∀ x ∈ ν, x < X.length) (fr : RFm m M M') (e5 : mI M' 29 5 = mI M 29 5) (e6 : mI M' 29 6 = mI M 29 6) (e7 : mI M' 29 7 = mI M 29 7) (e29 : mI M' 29 29 = Int32.ofNat σ.length) (e31 : mI M' 29 31 = mI M 29 31) (e33 : mI M' 29 33 = Int32.ofNat o') (e32 : mI M' 29 32 = Int32.ofNat pr') (eA : mAI M' = mAI M) (eJ : mAJ M' = mAJ M) : SR b n s m sN ro mx vN w M' i o' pr' σ ν X := by
  refine ⟨h1.fr fr, h2, e5.trans h3, h4.fr e6 e7, e33, e32, ⟨e29, fun j hj => ?_⟩, h8.fr e31 (by rw [eA]), h9.fr (by rw [eA]) (by rw [eA]) (by rw [eJ]) (by rw [eA]), h10⟩
  have := h7.2 j (Nat.lt_succ_of_lt hj)
  rw [rev_app (Nat.lt_succ_of_lt hj), if_neg (by omega)] at this
  rw [eA]
  exact this
theorem B_joinT {L : Nat} {σb νb : List Nat} (hL : L = 6 ∨ L = 8) (hb : top? σb (fun x => x < 4 ∨ L < x)) : ∀ (π : List (Nat × Nat)) (r : Nat) (X : List Nd) (M : Mem) (i : Nat), (∀ e ∈ π, 4 ≤ e.1 ∧ e.1 ≤ L) → (∀ x ∈ σb, x < 100) → SR b n s m sN ro mx vN w M i o pr (π.map Prod.fst ++ σb) (r :: (π.map Prod.snd ++ νb)) X → (∀ M', SR b n s m sN ro mx vN w M' i o pr σb ((jf π r X).1 :: νb) (jf π r X).2 → RFm m M M' → Q none M') → T (h + 3) mdX11_joinSums 0 [(0, .ref 29), (1, .int (Int32.ofNat L))] [] M Q := by
  intro π
  have hL9 : L < 10 := by omega
  induction π with
  | nil =>
    intro r X M i _ h100 hR H
    have hR : SR b n s m sN ro mx vN w M i o pr σb (r :: νb) X := hR
    have F := hR.1.1
    have HQ : Q none M := H M hR RFm.rf
    have hi := hR.2.1
    have h7 := hR.2.2.2.2.2.2.1
    have h10 := hR.2.2.2.2.2.2.2.2.2
    clear H hR
    refine VX11_joinSums_0 ?_
    unfold DX11_joinSums_0 DX11_joinSums_82
    rw [h7.1]
    cases σb with
    | nil => exact ⟨ok29 F, fun _ => HQ, fun hc => absurd (by decide) hc⟩
    | cons x σ =>
      have hl : σ.length + 1 ≤ i := by
        have := h10.1
        simp only [List.length_cons] at this
        omega
      have e1 : Int32.ofNat (x :: σ).length - 1 = Int32.ofNat σ.length := sub32 (c := 1) (a := σ.length + 1) (by omega) (by omega)
      have tp := h7.top
      rw [Nat.zero_add] at tp
      have hx : x < 100 := h100 x List.mem_cons_self
      rw [e1, lt32 (by omega)]
      refine ⟨ok29 F, fun _ => HQ, fun _ => ⟨52, rf29_28 F, ok52 F, by rw [ln52 F]; exact vp_of (by omega) (by decide), fun _ => HQ, fun q => ⟨52, rf29_28 F, ok52 F, by rw [ln52 F]; exact vp_of (by omega) (by decide), fun _ => HQ, fun q2 => ?_⟩⟩⟩
      exfalso
      rw [tp] at q q2
      rcases hb with z | z
      · exact q ((ltn32 (b := 4) (by omega) (by decide)).mpr z)
      · exact q2 ((ltn32 (by omega) (by omega)).mpr z)
  | cons e π ih =>
    intro r X M i hπ h100 hR H
    obtain ⟨q4, qL⟩ := hπ e List.mem_cons_self
    have hR : SR b n s m sN ro mx vN w M i o pr (e.1 :: (π.map Prod.fst ++ σb)) (r :: e.2 :: (π.map Prod.snd ++ νb)) X := hR
    have F := hR.1.1
    have hi := hR.2.1
    have h7 := hR.2.2.2.2.2.2.1
    have h10 := hR.2.2.2.2.2.2.2.2.2
    have hl : (π.map Prod.fst ++ σb).length + 1 + X.length ≤ i := by have := h10.1; simp only [List.length_cons] at this; omega
    generalize hS : π.map Prod.fst ++ σb = S at *
    generalize hN : π.map Prod.snd ++ νb = N at *
    refine VX11_joinSums_0 ?_
    unfold DX11_joinSums_0
    have e29 : mI M 29 29 = Int32.ofNat (S.length + 1) := h7.1
    have e1 : Int32.ofNat (S.length + 1) - 1 = Int32.ofNat S.length := sub32 (c := 1) (by omega) (by omega)
    have tp := h7.top
    rw [Nat.zero_add] at tp
    rw [e29, e1, lt32 (by omega)]
    refine ⟨ok29 F, fun hc => ?_, fun _ => ⟨52, rf29_28 F, ok52 F, by rw [ln52 F]; exact vp_of (by omega) (by decide), fun hc => ?_, fun _ => ⟨52, rf29_28 F, ok52 F, by rw [ln52 F]; exact vp_of (by omega) (by decide), fun hc => ?_, fun _ => ?_⟩⟩⟩
    · exact absurd ((le32 (b := 0) (by omega) (by decide)).mp hc) (by omega)
    · rw [tp] at hc
      exact absurd ((ltn32 (b := 4) (by omega) (by decide)).mp hc) (by omega)
    · rw [tp] at hc
      exact absurd ((ltn32 (by omega) (by omega)).mp hc) (by omega)
    refine B_popped hR (fun M1 R1 F1 _ => ⟨_, rfl, B_popped R1 (fun M2 R2 F2 _ => ⟨_, rfl, 52, rf29_28 R2.1.1, ok52 R2.1.1, ?_⟩)⟩)
    have e29b : mI M2 29 29 = Int32.ofNat (S.length + 1) := R2.2.2.2.2.2.2.1.1
    have tp2 := R2.2.2.2.2.2.2.1.top
    rw [Nat.zero_add] at tp2
    rw [e29b, e1, lt32 (by omega), tp2]
    refine ⟨by rw [ln52 R2.1.1]; exact vp_of (by omega) (by decide), ?_⟩
    have hm := R2.1.2.2.2.1
    have hr : r < X.length := h10.2.2.2.2 r List.mem_cons_self
    have he : e.2 < X.length := h10.2.2.2.2 e.2 (List.mem_cons_of_mem _ List.mem_cons_self)
    refine B_sum (d := (e.1, Int64.ofNat e.2, r)) R2 (by show X.length + 1 + (S.length + 1) ≤ i + 1; omega) (by omega) ?_ ?_ (fun M3 _ x3 i3 s52 s53 c3 F3 _ => ⟨_, rfl, ?_⟩)
    · show (Int32.ofNat (810 * m + e.2)).toInt64 = xa m (e.1, Int64.ofNat e.2, r)
      unfold xa
      rw [if_neg (by show ¬ e.1 < 3; omega), i32_64 (by omega)]
      show _ = Int64.ofNat e.2 + Int64.ofNat (810 * m)
      rw [i64_add, Nat.add_comm]
    · show Int32.ofNat (810 * m + r) = xb m (e.1, Int64.ofNat e.2, r)
      unfold xb
      rw [if_neg (by show ¬ e.1 ≤ 3; omega)]
    -- the new node goes on top, the operator goes
    have hN2 : N.length + 2 ≤ i := h10.2.1
    refine KX11_pushed ?_
    unfold DX11_pushed_0
    have e31 : mI M3 29 31 = Int32.ofNat N.length := (i3 31).trans R2.2.2.2.2.2.2.2.1.1
    rw [e31, lt32 (by omega)]
    have FF := c3.1
    refine ⟨ok29 FF, 53, rf29_30 FF, ok53 FF, by rw [ln53 FF]; exact vp_of (by omega) (by decide), fun M4 e4 M5 e5 => ?_⟩
    have i4 : mI M4 29 31 = Int32.ofNat N.length := by rw [e4, mI_wAI]; exact e31
    rw [i4, succ32, e4] at e5
    refine fun _ => ⟨rfl, fun M6 e6 => ?_⟩
    have i5 : mI M5 29 29 = Int32.ofNat (S.length + 1) := by rw [e5]; simp [i3, e29b, mNwI, mSwI, mKwI, mIwI, mJwI, mRwI, mLwI, mAIwI, mAJwI, mARwI, mNwJ, mSwJ, mKwJ, mIwJ, mJwJ, mRwJ, mLwJ, mAIwJ, mAJwJ, mARwJ, mNwR, mSwR, mKwR, mIwR, mJwR, mRwR, mLwR, mAIwR, mAJwR, mARwR, mNwAI, mSwAI, mKwAI, mIwAI, mJwAI, mRwAI, mLwAI, mAIwAI, mAJwAI, mARwAI, mNwAJ, mSwAJ, mKwAJ, mIwAJ, mJwAJ, mRwAJ, mLwAJ, mAIwAJ, mAJwAJ, mARwAJ, mNwAR, mSwAR, mKwAR, mIwAR, mJwAR, mRwAR, mLwAR, mAIwAR, mAJwAR, mARwAR, okkwI, okkwJ, okkwR, okkwAI, okkwAJ, okkwAR]
    rw [i5, e1] at e6
    have st3 : St M3 53 31 (810 * m) N := R2.2.2.2.2.2.2.2.1.fr (i3 31) s53
    have st5 : St M5 53 31 (810 * m) (X.length :: N) := st3.push e5
    have ops3 : St M3 52 29 0 (e.1 :: S) := R2.2.2.2.2.2.2.1.fr (i3 29) s52
    have F5 : RFm m M3 M5 := by rw [e5]; exact (RFm.st (Or.inr rfl)).tr (RFm.i (by decide))
    have a52 : mAI M5 52 = mAI M3 52 := by rw [e5, mAI_wI]; exact mAI_wAI_ne (by decide)
    have ops5 : St M5 52 29 0 (e.1 :: S) := ops3.fr (by rw [e5]; simp [mNwI, mSwI, mKwI, mIwI, mJwI, mRwI, mLwI, mAIwI, mAJwI, mARwI, mNwJ, mSwJ, mKwJ, mIwJ, mJwJ, mRwJ, mLwJ, mAIwJ, mAJwJ, mARwJ, mNwR, mSwR, mKwR, mIwR, mJwR, mRwR, mLwR, mAIwR, mAJwR, mARwR, mNwAI, mSwAI, mKwAI, mIwAI, mJwAI, mRwAI, mLwAI, mAIwAI, mAJwAI, mARwAI, mNwAJ, mSwAJ, mKwAJ, mIwAJ, mJwAJ, mRwAJ, mLwAJ, mAIwAJ, mAJwAJ, mARwAJ, mNwAR, mSwAR, mKwAR, mIwAR, mJwAR, mRwAR, mLwAR, mAIwAR, mAJwAR, mARwAR, okkwI, okkwJ, okkwR, okkwAI, okkwAJ, okkwAR]) a52
    have x5 : XR M5 m (X ++ [(e.1, Int64.ofNat e.2, r)]) := x3.fr (by rw [e5, mAI_wI]; exact mAI_wAI_ne (by decide)) (by rw [e5, mAI_wI]; exact mAI_wAI_ne (by decide)) (by rw [e5]; rfl) (by rw [e5, mAI_wI]; exact mAI_wAI_ne (by decide))
    have F6 : RFm m M5 M6 := by rw [e6]; exact RFm.i (by decide)
    have g : ∀ f, f ≠ 31 → mI M5 29 f = mI M2 29 f := by intro f hf; rw [e5]; simp [hf, i3, mNwI, mSwI, mKwI, mIwI, mJwI, mRwI, mLwI, mAIwI, mAJwI, mARwI, mNwJ, mSwJ, mKwJ, mIwJ, mJwJ, mRwJ, mLwJ, mAIwJ, mAJwJ, mARwJ, mNwR, mSwR, mKwR, mIwR, mJwR, mRwR, mLwR, mAIwR, mAJwR, mARwR, mNwAI, mSwAI, mKwAI, mIwAI, mJwAI, mRwAI, mLwAI, mAIwAI, mAJwAI, mARwAI, mNwAJ, mSwAJ, mKwAJ, mIwAJ, mJwAJ, mRwAJ, mLwAJ, mAIwAJ, mAJwAJ, mARwAJ, mNwAR, mSwAR, mKwAR, mIwAR, mJwAR, mRwAR, mLwAR, mAIwAR, mAJwAR, mARwAR, okkwI, okkwJ, okkwR, okkwAI, okkwAJ, okkwAR]
    have SR6 : SR b n s m sN ro mx vN w M6 i o pr S (X.length :: N) (X ++ [(e.1, Int64.ofNat e.2, r)]) := by
      refine SR.opPop (M := M5) (x := e.1) (c3.fr F5) hi ((g 5 (by decide)).trans R2.2.2.1) (R2.2.2.2.1.fr (g 6 (by decide)) (g 7 (by decide))) ops5 st5 x5 ⟨by rw [List.length_append]; show X.length + 1 + S.length ≤ i; omega, by show N.length + 1 ≤ i; omega, h10.2.2.1, h10.2.2.2.1, fun y hy => ?_⟩ F6 (by rw [e6]; simp [mNwI, mSwI, mKwI, mIwI, mJwI, mRwI, mLwI, mAIwI, mAJwI, mARwI, mNwJ, mSwJ, mKwJ, mIwJ, mJwJ, mRwJ, mLwJ, mAIwJ, mAJwJ, mARwJ, mNwR, mSwR, mKwR, mIwR, mJwR, mRwR, mLwR, mAIwR, mAJwR, mARwR, mNwAI, mSwAI, mKwAI, mIwAI, mJwAI, mRwAI, mLwAI, mAIwAI, mAJwAI, mARwAI, mNwAJ, mSwAJ, mKwAJ, mIwAJ, mJwAJ, mRwAJ, mLwAJ, mAIwAJ, mAJwAJ, mARwAJ, mNwAR, mSwAR, mKwAR, mIwAR, mJwAR, mRwAR, mLwAR, mAIwAR, mAJwAR, mARwAR, okkwI, okkwJ, okkwR, okkwAI, okkwAJ, okkwAR]) (by rw [e6]; simp [mNwI, mSwI, mKwI, mIwI, mJwI, mRwI, mLwI, mAIwI, mAJwI, mARwI, mNwJ, mSwJ, mKwJ, mIwJ, mJwJ, mRwJ, mLwJ, mAIwJ, mAJwJ, mARwJ, mNwR, mSwR, mKwR, mIwR, mJwR, mRwR, mLwR, mAIwR, mAJwR, mARwR, mNwAI, mSwAI, mKwAI, mIwAI, mJwAI, mRwAI, mLwAI, mAIwAI, mAJwAI, mARwAI, mNwAJ, mSwAJ, mKwAJ, mIwAJ, mJwAJ, mRwAJ, mLwAJ, mAIwAJ, mAJwAJ, mARwAJ, mNwAR, mSwAR, mKwAR, mIwAR, mJwAR, mRwAR, mLwAR, mAIwAR, mAJwAR, mARwAR, okkwI, okkwJ, okkwR, okkwAI, okkwAJ, okkwAR]) (by rw [e6]; simp [mNwI, mSwI, mKwI, mIwI, mJwI, mRwI, mLwI, mAIwI, mAJwI, mARwI, mNwJ, mSwJ, mKwJ, mIwJ, mJwJ, mRwJ, mLwJ, mAIwJ, mAJwJ, mARwJ, mNwR, mSwR, mKwR, mIwR, mJwR, mRwR, mLwR, mAIwR, mAJwR, mARwR, mNwAI, mSwAI, mKwAI, mIwAI, mJwAI, mRwAI, mLwAI, mAIwAI, mAJwAI, mARwAI, mNwAJ, mSwAJ, mKwAJ, mIwAJ, mJwAJ, mRwAJ, mLwAJ, mAIwAJ, mAJwAJ, mARwAJ, mNwAR, mSwAR, mKwAR, mIwAR, mJwAR, mRwAR, mLwAR, mAIwAR, mAJwAR, mARwAR, okkwI, okkwJ, okkwR, okkwAI, okkwAJ, okkwAR]) (by rw [e6]; simp [mNwI, mSwI, mKwI, mIwI, mJwI, mRwI, mLwI, mAIwI, mAJwI, mARwI, mNwJ, mSwJ, mKwJ, mIwJ, mJwJ, mRwJ, mLwJ, mAIwJ, mAJwJ, mARwJ, mNwR, mSwR, mKwR, mIwR, mJwR, mRwR, mLwR, mAIwR, mAJwR, mARwR, mNwAI, mSwAI, mKwAI, mIwAI, mJwAI, mRwAI, mLwAI, mAIwAI, mAJwAI, mARwAI, mNwAJ, mSwAJ, mKwAJ, mIwAJ, mJwAJ, mRwAJ, mLwAJ, mAIwAJ, mAJwAJ, mARwAJ, mNwAR, mSwAR, mKwAR, mIwAR, mJwAR, mRwAR, mLwAR, mAIwAR, mAJwAR, mARwAR, okkwI, okkwJ, okkwR, okkwAI, okkwAJ, okkwAR]) (by rw [e6]; simp [mNwI, mSwI, mKwI, mIwI, mJwI, mRwI, mLwI, mAIwI, mAJwI, mARwI, mNwJ, mSwJ, mKwJ, mIwJ, mJwJ, mRwJ, mLwJ, mAIwJ, mAJwJ, mARwJ, mNwR, mSwR, mKwR, mIwR, mJwR, mRwR, mLwR, mAIwR, mAJwR, mARwR, mNwAI, mSwAI, mKwAI, mIwAI, mJwAI, mRwAI, mLwAI, mAIwAI, mAJwAI, mARwAI, mNwAJ, mSwAJ, mKwAJ, mIwAJ, mJwAJ, mRwAJ, mLwAJ, mAIwAJ, mAJwAJ, mARwAJ, mNwAR, mSwAR, mKwAR, mIwAR, mJwAR, mRwAR, mLwAR, mAIwAR, mAJwAR, mARwAR, okkwI, okkwJ, okkwR, okkwAI, okkwAJ, okkwAR]) (by rw [e6]; simp [g, R2.2.2.2.2.1, mNwI, mSwI, mKwI, mIwI, mJwI, mRwI, mLwI, mAIwI, mAJwI, mARwI, mNwJ, mSwJ, mKwJ, mIwJ, mJwJ, mRwJ, mLwJ, mAIwJ, mAJwJ, mARwJ, mNwR, mSwR, mKwR, mIwR, mJwR, mRwR, mLwR, mAIwR, mAJwR, mARwR, mNwAI, mSwAI, mKwAI, mIwAI, mJwAI, mRwAI, mLwAI, mAIwAI, mAJwAI, mARwAI, mNwAJ, mSwAJ, mKwAJ, mIwAJ, mJwAJ, mRwAJ, mLwAJ, mAIwAJ, mAJwAJ, mARwAJ, mNwAR, mSwAR, mKwAR, mIwAR, mJwAR, mRwAR, mLwAR, mAIwAR, mAJwAR, mARwAR, okkwI, okkwJ, okkwR, okkwAI, okkwAJ, okkwAR]) (by rw [e6]; simp [g, R2.2.2.2.2.2.1, mNwI, mSwI, mKwI, mIwI, mJwI, mRwI, mLwI, mAIwI, mAJwI, mARwI, mNwJ, mSwJ, mKwJ, mIwJ, mJwJ, mRwJ, mLwJ, mAIwJ, mAJwJ, mARwJ, mNwR, mSwR, mKwR, mIwR, mJwR, mRwR, mLwR, mAIwR, mAJwR, mARwR, mNwAI, mSwAI, mKwAI, mIwAI, mJwAI, mRwAI, mLwAI, mAIwAI, mAJwAI, mARwAI, mNwAJ, mSwAJ, mKwAJ, mIwAJ, mJwAJ, mRwAJ, mLwAJ, mAIwAJ, mAJwAJ, mARwAJ, mNwAR, mSwAR, mKwAR, mIwAR, mJwAR, mRwAR, mLwAR, mAIwAR, mAJwAR, mARwAR, okkwI, okkwJ, okkwR, okkwAI, okkwAJ, okkwAR]) (by rw [e6]; rfl) (by rw [e6]; rfl)
      rw [List.length_append]
      show y < X.length + 1
      rcases List.mem_cons.mp hy with q | q
      · omega
      · have := h10.2.2.2.2 y (List.mem_cons_of_mem _ (List.mem_cons_of_mem _ q))
        omega
    subst hS hN
    refine ih X.length (X ++ [(e.1, Int64.ofNat e.2, r)]) M6 i (fun y hy => hπ y (List.mem_cons_of_mem _ hy)) h100 SR6 (fun M7 R7 F7 => H M7 R7 (((((F1.tr F2).tr F3).tr F5).tr F6).tr F7))
end
