/-! the reference reads what the text tells: names, how numbers come together, first numbers -/
section
variable {b : Nat → Int32} {n s m : Nat} {τ : Td} {M M' : Mem} {i h : Nat} {Q : Option Value → Mem → Prop}
theorem getD_a64 {l : List Int64} {x : Int64} {k : Nat} (h : k < l.length + 1) : (l ++ [x]).getD k 0 = if k = l.length then x else l.getD k 0 := by
  rw [List.getD_eq_getElem?_getD, List.getD_eq_getElem?_getD]
  by_cases z : k = l.length
  · rw [if_pos z, z, List.getElem?_append_right (Nat.le_refl _), Nat.sub_self]; rfl
  · rw [if_neg z, List.getElem?_append_left (by omega)]
set_option maxHeartbeats 1000000 in
theorem T_var (hR : RT b n s m τ M i) (hB : By b) (hk : tK b n i = 2) (hL : τ.2.2.2.1.length < 6) (H : ∀ M', RT b n s m (τ.1, τ.2.1, τ.2.2.1, τ.2.2.2.1 ++ [tC b n i], τ.2.2.2.2 ++ [0]) M' i → RGt m M M' → Q none M') : DX11_readName_140 h 29 3 (mAJ M 33 i) M Q := by
  have tk := hR.tk hB
  have nm := tk.nm hk
  obtain ⟨⟨F, h1, e1, e2, e3, e4, e5, e6, e7, e8, e9⟩, h2, h3, h4, h5, h6, h7⟩ := hR
  unfold DX11_readName_140 DX11_readName_318
  have ek : (6 : Int32) * Int32.ofNat m + Int32.ofNat τ.2.2.2.1.length = Int32.ofNat (6 * m + τ.2.2.2.1.length) := by
    rw [show (6 : Int32) = Int32.ofNat 6 from rfl, mul32, add32]
  refine ⟨fun z => absurd rfl z, fun _ => ?_⟩
  rw [e1, lt32 (by omega)]
  refine ⟨ok29 F, 42, rf29_16 F, 36, rf29_10 F, ok36 F, by rw [ln36 F]; exact vp_of e2 (by decide), ok42 F, ?_⟩
  rw [e5, ek, lt32 (by omega)]
  refine ⟨by rw [ln42 F]; exact vp_of (by omega) (by decide), fun A a => ?_⟩
  have FA : Fix A := by rw [a]; exact F.aj (by decide)
  have a19 : mI A 29 19 = Int32.ofNat m := by rw [a]; exact e1
  have a36 : mAI A 36 m = Int32.ofNat τ.2.2.2.1.length := by rw [a]; exact e5
  rw [a19, lt32 (by omega)]
  refine ⟨43, rf29_17 FA, 36, rf29_10 FA, ok36 FA, by rw [ln36 FA]; exact vp_of e2 (by decide), ok43 FA, ?_⟩
  rw [a36, ek, lt32 (by omega)]
  refine ⟨by rw [ln43 FA]; exact vp_of (by omega) (by decide), fun B bb => ?_⟩
  have FB : Fix B := by rw [bb]; exact FA.aj (by decide)
  have b19 : mI B 29 19 = Int32.ofNat m := by rw [bb]; exact a19
  have b36 : mAI B 36 m = Int32.ofNat τ.2.2.2.1.length := by rw [bb]; exact a36
  rw [b19, lt32 (by omega)]
  refine ⟨36, rf29_10 FB, ok36 FB, by rw [ln36 FB]; exact vp_of e2 (by decide), by rw [ln36 FB]; exact vp_of e2 (by decide), fun D d => ?_⟩
  rw [b36, succ32] at d
  have eD : D = wAI (wAJ (wAJ M 42 (6 * m + τ.2.2.2.1.length) (mAJ M 33 i)) 43 (6 * m + τ.2.2.2.1.length) 0) 36 m (Int32.ofNat (τ.2.2.2.1.length + 1)) := by rw [d, bb, a]
  have fD : RGt m M D := by
    rw [eD]
    exact ((RG.aj (by decide) (by rw [show szA 42 = 6 by decide]; omega)).tr (RG.aj (by decide) (by rw [show szA 43 = 6 by decide]; omega))).tr (RG.ai (by decide) (by rw [show szA 36 = 1 by decide]; omega))
  have rA : ∀ q, q ≠ 36 → mAI D q = mAI M q := fun q hq => by rw [eD, mAI_wAI_ne hq]; rfl
  have c42 : ∀ k, mAJ D 42 k = if k = 6 * m + τ.2.2.2.1.length then mAJ M 33 i else mAJ M 42 k := by intro k; rw [eD]; simp [mNwI, mSwI, mKwI, mIwI, mJwI, mRwI, mLwI, mAIwI, mAJwI, mARwI, mNwJ, mSwJ, mKwJ, mIwJ, mJwJ, mRwJ, mLwJ, mAIwJ, mAJwJ, mARwJ, mNwR, mSwR, mKwR, mIwR, mJwR, mRwR, mLwR, mAIwR, mAJwR, mARwR, mNwAI, mSwAI, mKwAI, mIwAI, mJwAI, mRwAI, mLwAI, mAIwAI, mAJwAI, mARwAI, mNwAJ, mSwAJ, mKwAJ, mIwAJ, mJwAJ, mRwAJ, mLwAJ, mAIwAJ, mAJwAJ, mARwAJ, mNwAR, mSwAR, mKwAR, mIwAR, mJwAR, mRwAR, mLwAR, mAIwAR, mAJwAR, mARwAR, okkwI, okkwJ, okkwR, okkwAI, okkwAJ, okkwAR]
  have c43 : ∀ k, mAJ D 43 k = if k = 6 * m + τ.2.2.2.1.length then 0 else mAJ M 43 k := by intro k; rw [eD]; simp [mNwI, mSwI, mKwI, mIwI, mJwI, mRwI, mLwI, mAIwI, mAJwI, mARwI, mNwJ, mSwJ, mKwJ, mIwJ, mJwJ, mRwJ, mLwJ, mAIwJ, mAJwJ, mARwJ, mNwR, mSwR, mKwR, mIwR, mJwR, mRwR, mLwR, mAIwR, mAJwR, mARwR, mNwAI, mSwAI, mKwAI, mIwAI, mJwAI, mRwAI, mLwAI, mAIwAI, mAJwAI, mARwAI, mNwAJ, mSwAJ, mKwAJ, mIwAJ, mJwAJ, mRwAJ, mLwAJ, mAIwAJ, mAJwAJ, mARwAJ, mNwAR, mSwAR, mKwAR, mIwAR, mJwAR, mRwAR, mLwAR, mAIwAR, mAJwAR, mARwAR, okkwI, okkwJ, okkwR, okkwAI, okkwAJ, okkwAR]
  have hl : (τ.2.2.2.1 ++ [tC b n i]).length = τ.2.2.2.1.length + 1 := by rw [List.length_append]; rfl
  refine H D ⟨⟨fD.fix F (by decide), fun j hj => ?_, ?_⟩, h2, by rw [eD]; exact h3, by rw [eD]; exact h4, ?_, ⟨by show (τ.2.2.2.2 ++ [0]).length = (τ.2.2.2.1 ++ [tC b n i]).length; rw [List.length_append, List.length_append, h6.1]; rfl, fun k hk => ?_⟩, fun k hk => by rw [rA 40 (by decide)]; exact h7 k hk⟩ fD
  · obtain ⟨r1, r2, r3⟩ := h1 j hj
    exact ⟨by rw [fD.fA (by decide)]; exact r1, by rw [fD.fA (by decide)]; exact r2, by rw [fD.fJ (by decide)]; exact r3⟩
  · refine ⟨by rw [eD]; exact e1, e2, ⟨e3.1, e3.2.1, e3.2.2.1, by show (τ.2.2.2.1 ++ [tC b n i]).length ≤ 6; omega⟩, by rw [rA 34 (by decide)]; exact e4, ?_, fun k hk => ?_, fun k hk => by rw [rA 38 (by decide)]; exact e7 k hk, fun k hk => by rw [rA 39 (by decide)]; exact e8 k hk, fun k hk => ?_⟩
    · show mAI D 36 m = Int32.ofNat (τ.2.2.2.1 ++ [tC b n i]).length
      rw [hl, eD]; simp [mNwI, mSwI, mKwI, mIwI, mJwI, mRwI, mLwI, mAIwI, mAJwI, mARwI, mNwJ, mSwJ, mKwJ, mIwJ, mJwJ, mRwJ, mLwJ, mAIwJ, mAJwJ, mARwJ, mNwR, mSwR, mKwR, mIwR, mJwR, mRwR, mLwR, mAIwR, mAJwR, mARwR, mNwAI, mSwAI, mKwAI, mIwAI, mJwAI, mRwAI, mLwAI, mAIwAI, mAJwAI, mARwAI, mNwAJ, mSwAJ, mKwAJ, mIwAJ, mJwAJ, mRwAJ, mLwAJ, mAIwAJ, mAJwAJ, mARwAJ, mNwAR, mSwAR, mKwAR, mIwAR, mJwAR, mRwAR, mLwAR, mAIwAR, mAJwAR, mARwAR, okkwI, okkwJ, okkwR, okkwAI, okkwAJ, okkwAR]
    · have : mAJ D 37 = mAJ M 37 := by rw [eD]; funext k; simp [mNwI, mSwI, mKwI, mIwI, mJwI, mRwI, mLwI, mAIwI, mAJwI, mARwI, mNwJ, mSwJ, mKwJ, mIwJ, mJwJ, mRwJ, mLwJ, mAIwJ, mAJwJ, mARwJ, mNwR, mSwR, mKwR, mIwR, mJwR, mRwR, mLwR, mAIwR, mAJwR, mARwR, mNwAI, mSwAI, mKwAI, mIwAI, mJwAI, mRwAI, mLwAI, mAIwAI, mAJwAI, mARwAI, mNwAJ, mSwAJ, mKwAJ, mIwAJ, mJwAJ, mRwAJ, mLwAJ, mAIwAJ, mAJwAJ, mARwAJ, mNwAR, mSwAR, mKwAR, mIwAR, mJwAR, mRwAR, mLwAR, mAIwAR, mAJwAR, mARwAR, okkwI, okkwJ, okkwR, okkwAI, okkwAJ, okkwAR]
      rw [this]; exact e6 k hk
    · have hk : k < (τ.2.2.2.1 ++ [tC b n i]).length := hk
      rw [hl] at hk
      show NmR b n ((τ.2.2.2.1 ++ [tC b n i]).getD k 0) (mAJ D 42 (6 * m + k))
      rw [getD_a64 hk, c42]
      by_cases z : k = τ.2.2.2.1.length
      · rw [if_pos z, if_pos (by omega)]; exact nm
      · rw [if_neg z, if_neg (by omega)]; exact e9 k (by omega)
  · exact ⟨by rw [rA 35 (by decide)]; exact h5.1, h5.2.1, fun j hj => by rw [rA 41 (by decide)]; exact h5.2.2 j hj⟩
  · have hk : k < (τ.2.2.2.1 ++ [tC b n i]).length := hk
    rw [hl] at hk
    show mAJ D 43 (6 * m + k) = (τ.2.2.2.2 ++ [0]).getD k 0
    rw [getD_a64 (by rw [h6.1]; exact hk), h6.1, c43]
    by_cases z : k = τ.2.2.2.1.length
    · rw [if_pos z, if_pos (by omega)]
    · rw [if_neg z, if_neg (by omega)]; exact h6.2 k (by omega)
/-- the role of a token as the reference has it: 0, 1, 2; 3 a variable -/
def rSo (r : Int32) : Int32 := if r = 36 then 3 else r - 30
/-- the name is put down -/
def upN (b : Nat → Int32) (n i : Nat) (r : Int32) (τ : Td) : Td := if r = 36 then (τ.1, τ.2.1, τ.2.2.1, τ.2.2.2.1 ++ [tC b n i], τ.2.2.2.2 ++ [0]) else (τ.1 ++ [tC b n i], τ.2.1 ++ [r], τ.2.2.1 ++ [0], τ.2.2.2.1, τ.2.2.2.2)
theorem oi_none {o : Option Nat} {k : Nat} (h : ∀ j, o = some j → j < 100) : (oi o = -1) ↔ o = none := by
  cases o with
  | none => exact ⟨fun _ => rfl, fun _ => rfl⟩
  | some j => exact ⟨fun z => absurd z (oi_ne (by have := h j rfl; omega)), fun z => absurd z (by simp)⟩
theorem T_name {r : Int32} (hR : RT b n s m τ M i) (hB : By b) (hr : r = 30 ∨ r = 31 ∨ r = 32 ∨ r = 36) (H1 : tK b n i = 2 → toT (tC b n i) τ = false → fuT r τ = false → ∀ M', RT b n s m (upN b n i r τ) M' i → RGt m M M' → Q none M') (H2 : tK b n i ≠ 2 → ∀ M', TXr M' 2 (tP b n i) → RGt m M M' → Q none M') (H3 : tK b n i = 2 → toT (tC b n i) τ = true → ∀ M', TXr M' 3 (tP b n i) → RGt m M M' → Q none M') (H6 : tK b n i = 2 → toT (tC b n i) τ = false → fuT r τ = true → ∀ M', TXr M' 6 (tP b n i) → RGt m M M' → Q none M') : E (h + 3) mdX11_readName [.ref 29, .int (rSo r)] M Q := by
  have tk := hR.tk hB
  obtain ⟨⟨F, h1, e1, e2, e3, e4, e5, e6, e7, e8, e9⟩, h2, h3, h4, h5, h6, h7⟩ := id hR
  have hRE : RE b n M m τ.1 τ.2.1 τ.2.2.1 τ.2.2.2.1 := hR.1.2.2
  have bad : ∀ c : Int32, 0 < c → (∀ M', TXr M' c (tP b n i) → RGt m M M' → Q none M') → ∃ b2 : Nat, mR M 29 3 = some b2 ∧ ok M b2 21 ∧ vp_in (mI M 29 5) (mL M b2) ∧ E (h + 2) mdX11_fails [.ref 29, .int c, .int (mAI M b2 ((mI M 29 5) : Int32).toNatClampNeg)] M (fun r M4 => mE M M4 → r = none ∧ Q none M4) := by
    intro c hc K
    rw [h3, lt32 (by omega)]
    exact ⟨32, rf29_3 F, ok32 F, by rw [ln32 F]; exact vp_of (by omega) (by decide), T_fails hR hB hc (fun M' T' F' _ => ⟨rfl, K M' T' F'⟩)⟩
  refine KX11_readName ?_
  unfold DX11_readName_0 DX11_readName_52 DX11_readName_122 DX11_readName_318
  have v33 : vp_in (mI M 29 5) (mL M 33) := by rw [h3, ln33 F]; exact vp_of (by omega) (by decide)
  refine ⟨ok29 F, 33, rf29_4 F, ok33 F, v33, ?_⟩
  have e33 : ((mI M 29 5) : Int32).toNatClampNeg = i := by rw [h3]; exact lt32 (by omega)
  rw [e33]
  refine K_name tk (fun k2 _ => ⟨_, rfl, fun _ => ?_, fun z => absurd z (by decide)⟩) (fun k2 _ => ⟨_, rfl, fun z => absurd rfl z, fun _ => bad 2 (by decide) (H2 k2)⟩)
  have nm := tk.nm k2
  have nS := oi_none (o := fd τ.1 (tC b n i)) (k := 0) (fun j hj => by have := (fd_some hj).1; omega)
  have nV := oi_none (o := fd τ.2.2.2.1 (tC b n i)) (k := 0) (fun j hj => by have := (fd_some hj).1; omega)
  refine R_sigNamed F hRE nm (fun _ => ⟨_, rfl, fun q => ⟨ok29 F, bad 3 (by decide) (H3 k2 ?_)⟩, fun q => ?_⟩)
  · unfold toT
    cases z : fd τ.1 (tC b n i) with
    | none => exact absurd (nS.mpr z) q
    | some j => rfl
  refine R_varNamed F hRE nm (fun _ => ⟨_, rfl, fun q2 => ?_, fun q2 => ⟨ok29 F, bad 3 (by decide) (H3 k2 ?_)⟩⟩)
  · have nt : toT (tC b n i) τ = false := by unfold toT; rw [nS.mp q, nV.mp q2]; rfl
    have nm6 := bad 6 (by decide)
    refine ⟨fun q3 => ?_, fun q3 => ?_⟩
    · have r36 : r ≠ 36 := fun z => q3 (by unfold rSo; rw [if_pos z])
      have hr' : r = 30 ∨ r = 31 ∨ r = 32 := by rcases hr with z | z | z | z <;> first | exact Or.inl z | exact Or.inr (Or.inl z) | exact Or.inr (Or.inr z) | exact absurd z r36
      have es : rSo r = r - 30 := by unfold rSo; rw [if_neg r36]
      have eu : upN b n i r τ = (τ.1 ++ [tC b n i], τ.2.1 ++ [r], τ.2.2.1 ++ [0], τ.2.2.2.1, τ.2.2.2.2) := by unfold upN; rw [if_neg r36]
      obtain ⟨k30, kn3, -⟩ := kn32 r hr'
      have ef : fuT r τ = (decide (16 ≤ τ.1.length) || (decide (r = 30) && decide (4 ≤ (inL τ.2.1).length))) := by unfold fuT; rw [if_neg r36]
      rw [ef] at H1 H6
      rw [e1, lt32 (by omega)]
      refine ⟨34, rf29_8 F, ok34 F, by rw [ln34 F]; exact vp_of e2 (by decide), ?_⟩
      rw [e4, es]
      have z16 := z32 (a := τ.1.length) (k := 16) (by omega) (by decide)
      rw [eu] at H1
      refine ⟨fun q4 => ⟨ok29 F, nm6 (H6 k2 nt ?_)⟩, fun q4 => ⟨fun q5 => ?_, fun q5 => ⟨35, rf29_9 F, ok35 F, by rw [ln35 F]; exact vp_of e2 (by decide), fun q6 => ?_, fun q6 => ⟨ok29 F, nm6 (H6 k2 nt ?_)⟩⟩⟩⟩
      · have : τ.1.length = 16 := z16.mp q4
        simp [this]
      · have n30 : r ≠ 30 := fun z => q5 (k30.mpr z)
        have l16 : τ.1.length < 16 := by have : τ.1.length ≠ 16 := fun z => q4 (z16.mpr z); omega
        refine T_sig hR hB hr' k2 l16 (fun z => absurd z n30) (fun M' R' F' => H1 k2 nt ?_ M' R' F')
        have : ¬ 16 ≤ τ.1.length := by omega
        simp [this, n30]
      · have y30 : r = 30 := k30.mp q5
        have l16 : τ.1.length < 16 := by have : τ.1.length ≠ 16 := fun z => q4 (z16.mpr z); omega
        rw [h5.1] at q6
        have z4 := z32 (a := (inL τ.2.1).length) (k := 4) (by omega) (by decide)
        have l4 : (inL τ.2.1).length < 4 := by have : (inL τ.2.1).length ≠ 4 := fun z => q6 (z4.mpr z); have := h5.2.1; omega
        refine T_sig hR hB hr' k2 l16 (fun _ => l4) (fun M' R' F' => H1 k2 nt ?_ M' R' F')
        have n1 : ¬ 16 ≤ τ.1.length := by omega
        have n2 : ¬ 4 ≤ (inL τ.2.1).length := by omega
        simp [n1, n2]
      · have y30 : r = 30 := k30.mp q5
        rw [h5.1] at q6
        have z4 := (z32 (a := (inL τ.2.1).length) (k := 4) (by omega) (by decide)).mp q6
        simp [y30, z4]
    · have r36 : r = 36 := by
        rcases hr with z | z | z | z
        · rw [z] at q3; exact absurd q3 (by decide)
        · rw [z] at q3; exact absurd q3 (by decide)
        · rw [z] at q3; exact absurd q3 (by decide)
        · exact z
      have es : rSo r = 3 := by unfold rSo; rw [if_pos r36]
      have eu : upN b n i r τ = (τ.1, τ.2.1, τ.2.2.1, τ.2.2.2.1 ++ [tC b n i], τ.2.2.2.2 ++ [0]) := by unfold upN; rw [if_pos r36]
      have ef : fuT r τ = decide (6 ≤ τ.2.2.2.1.length) := by unfold fuT; rw [if_pos r36]
      rw [ef] at H1 H6
      rw [eu] at H1
      rw [e1, lt32 (by omega)]
      refine ⟨36, rf29_10 F, ok36 F, by rw [ln36 F]; exact vp_of e2 (by decide), ?_⟩
      rw [e5, es]
      have z6 := z32 (a := τ.2.2.2.1.length) (k := 6) (by omega) (by decide)
      refine ⟨fun q4 => ?_, fun q4 => ⟨ok29 F, nm6 (H6 k2 nt ?_)⟩⟩
      · have l6 : τ.2.2.2.1.length < 6 := by have : τ.2.2.2.1.length ≠ 6 := fun z => q4 (z6.mpr z); omega
        have n6 : ¬ 6 ≤ τ.2.2.2.1.length := by omega
        exact T_var hR hB k2 l6 (fun M' R' F' => H1 k2 nt (decide_eq_false n6) M' R' F')
      · have : τ.2.2.2.1.length = 6 := z6.mp q4
        simp [this]
  · unfold toT
    cases z : fd τ.2.2.2.1 (tC b n i) with
    | none => exact absurd (nV.mpr z) q2
    | some j => simp
/-- ONE, SUM or MOST behind a colon -/
def EndH (b : Nat → Int32) (n s m : Nat) (τ : Td) (M : Mem) (Q : Option Value → Mem → Prop) (R : Except (Int32 × Nat) (Nat × Int32)) : Prop := match R with
  | .ok r => ∀ M', RT b n s m (τ.1, τ.2.1, τ.2.2.1.dropLast ++ [r.2], τ.2.2.2.1, τ.2.2.2.2) M' r.1 → RGt m M M' → Q none M'
  | .error e => ∀ M', TXr M' e.1 e.2 → RGt m M M' → Q none M'
theorem dropLast_snoc {α : Type} {l : List α} {x : α} : (l ++ [x]).dropLast = l := by simp
theorem hw32 : ∀ v : Int32, v = 33 ∨ v = 34 ∨ v = 35 → v ≠ 0 ∧ v ≠ 32 ∧ v - 32 ≠ 0 := by rintro v (rfl | rfl | rfl) <;> decide
theorem T_how75 {v : Int32} {mx0 : List Int32} (hm : τ.2.2.1 = mx0 ++ [0]) (hR : RT b n s m τ M i) (hB : By b) (hs : i < s) (hv : v = 33 ∨ v = 34 ∨ v = 35) (H1 : tK b n (i + 1) ≠ 0 → ∀ M', RT b n s m (τ.1, τ.2.1, mx0 ++ [v], τ.2.2.2.1, τ.2.2.2.2) M' (i + 1) → RGt m M M' → Q none M') (H0 : tK b n (i + 1) = 0 → ∀ M', TXr M' 1 (tP b n (i + 1)) → RGt m M M' → Q none M') : DX11_readHow_75 (h + 2) 29 (v - 32) M Q := by
  obtain ⟨⟨F, h1, e1, e2, e3, e4, e5, e6, e7, e8, e9⟩, h2, h3, h4, h5, h6, h7⟩ := id hR
  obtain ⟨v0, v32, vne⟩ := hw32 v hv
  unfold DX11_readHow_75 DX11_readHow_126
  have hlen : τ.1.length = mx0.length + 1 := by rw [← e3.2.2.1, hm, List.length_append]; rfl
  have ek : (16 : Int32) * Int32.ofNat m + Int32.ofNat τ.1.length - 1 = Int32.ofNat (16 * m + mx0.length) := by
    rw [show (16 : Int32) = Int32.ofNat 16 from rfl, mul32, add32, hlen]
    exact dec32 (a := 16 * m + mx0.length) (by omega)
  refine ⟨fun _ => ?_, fun z => absurd z vne⟩
  rw [e1, lt32 (by omega)]
  refine ⟨ok29 F, 39, rf29_13 F, 34, rf29_8 F, ok34 F, by rw [ln34 F]; exact vp_of e2 (by decide), ok39 F, ?_⟩
  rw [e4, ek, lt32 (by omega)]
  refine ⟨by rw [ln39 F]; exact vp_of (by omega) (by decide), fun A a => ?_⟩
  have fA : RGt m M A := by rw [a]; exact RG.ai (by decide) (by rw [show szA 39 = 16 by decide]; omega)
  have rA : ∀ q, q ≠ 39 → mAI A q = mAI M q := fun q hq => by rw [a]; exact mAI_wAI_ne hq
  have RA : RT b n s m (τ.1, τ.2.1, mx0 ++ [v], τ.2.2.2.1, τ.2.2.2.2) A i := by
    refine ⟨⟨fA.fix F (by decide), fun j hj => ?_, by rw [a]; exact e1, e2, ⟨e3.1, e3.2.1, by show (mx0 ++ [v]).length = _; rw [List.length_append, hlen]; rfl, e3.2.2.2⟩, by rw [rA 34 (by decide)]; exact e4, by rw [rA 36 (by decide)]; exact e5, by rw [a]; exact e6, by rw [rA 38 (by decide)]; exact e7, fun k hk => ?_, by rw [a]; exact e9⟩, h2, by rw [a]; exact h3, by rw [a]; exact h4, ?_, ⟨h6.1, by rw [a]; exact h6.2⟩, by rw [rA 40 (by decide)]; exact h7⟩
    · obtain ⟨r1, r2, r3⟩ := h1 j hj
      exact ⟨by rw [fA.fA (by decide)]; exact r1, by rw [fA.fA (by decide)]; exact r2, by rw [fA.fJ (by decide)]; exact r3⟩
    · have hk : k < τ.1.length := hk
      show mAI A 39 (16 * m + k) = (if (mx0 ++ [v]).getD k 0 = 0 then 0 else (mx0 ++ [v]).getD k 0 - 32) ∧ (mx0 ++ [v]).getD k 0 ≠ 32
      rw [getD_app (by omega), a, mAI_wAI]
      by_cases z : k = mx0.length
      · rw [if_pos ⟨rfl, by omega⟩, if_pos z, if_neg v0]; exact ⟨rfl, v32⟩
      · rw [if_neg (by rintro ⟨-, y⟩; omega), if_neg z]
        have := e8 k hk
        rw [hm, getD_app (by omega), if_neg z] at this
        exact this
    · exact ⟨by rw [rA 35 (by decide)]; exact h5.1, h5.2.1, fun j hj => by rw [rA 41 (by decide)]; exact h5.2.2 j hj⟩
  exact T_take RA hB hs (fun k1 M' R' F' _ => ⟨rfl, H1 k1 M' R' (fA.tr F')⟩) (fun k1 M' T' F' _ => ⟨rfl, H0 k1 M' T' (fA.tr F')⟩)
theorem RT.eta (hR : RT b n s m τ M i) : RT b n s m (τ.1, τ.2.1, τ.2.2.1, τ.2.2.2.1, τ.2.2.2.2) M i := hR
theorem T_how {mx0 : List Int32} (hm : τ.2.2.1 = mx0 ++ [0]) (hR : RT b n s m τ M i) (hB : By b) (hS : Sto b n s) (h0 : tK b n i ≠ 0) (hE : EndH b n s m τ M Q (tdH b n i)) : E (h + 3) mdX11_readHow [.ref 29] M Q := by
  have tk := hR.tk hB
  have F := hR.1.1
  have hd : τ.2.2.1.dropLast = mx0 := by rw [hm]; exact dropLast_snoc
  unfold tdH at hE
  refine KX11_readHow ?_
  unfold DX11_readHow_0 DX11_readHow_126
  refine ⟨ok29 F, fun z => absurd hR.2.2.2.1 z, fun _ => K_sign tk (k := 4) (by decide) rfl (fun q _ => ⟨_, rfl, fun z => absurd z (by decide), fun _ => ?_⟩) (fun q _ => ⟨_, rfl, fun _ => ?_, fun z => absurd rfl z⟩)⟩
  · rw [if_pos q] at hE
    have hs := hS.lt hR.2.1.2.2 h0 (by rw [q]; decide)
    refine T_take hR hB hs (fun k1 M1 R1 F1 _ => ⟨rfl, fun z => absurd R1.2.2.2.1 z, fun _ => ?_⟩) (fun k1 M1 T1 F1 _ => ⟨rfl, fun _ => ?_, fun z => ?_⟩)
    · rw [adv_ok' k1] at hE
      have hE : EndH b n s m τ M Q (if tK b n (i + 1) = 33 ∨ tK b n (i + 1) = 34 ∨ tK b n (i + 1) = 35 then (adv' b n (i + 1)).bind fun l => .ok (l, tK b n (i + 1)) else .error (2, tP b n (i + 1))) := hE
      have tk1 := R1.tk hB
      have good : ∀ v : Int32, tK b n (i + 1) = v → (v = 33 ∨ v = 34 ∨ v = 35) → DX11_readHow_75 (h + 2) 29 (v - 32) M1 Q := by
        intro v ev hv
        rw [ev, if_pos hv] at hE
        have hs1 := hS.lt hs k1 (by rw [ev]; rcases hv with z | z | z <;> (rw [z]; decide))
        refine T_how75 hm R1 hB hs1 hv (fun k2 M' R' F' => ?_) (fun k2 M' T' F' => ?_)
        · rw [adv_ok' k2] at hE
          refine hE M' ?_ (F1.tr F')
          rw [hd]; exact R'
        · rw [adv_er' k2] at hE
          exact hE M' T' (F1.tr F')
      refine K_key tk1 (j := 3) (k := 33) (by decide) rfl rfl (fun q3 _ => ⟨_, rfl, fun z => absurd z (by decide), fun _ => good 33 q3 (Or.inl rfl)⟩) (fun q3 _ => ⟨_, rfl, fun _ => ?_, fun z => absurd rfl z⟩)
      refine K_key tk1 (j := 4) (k := 34) (by decide) rfl rfl (fun q4 _ => ⟨_, rfl, fun z => absurd z (by decide), fun _ => good 34 q4 (Or.inr (Or.inl rfl))⟩) (fun q4 _ => ⟨_, rfl, fun _ => ?_, fun z => absurd rfl z⟩)
      refine K_key tk1 (j := 5) (k := 35) (by decide) rfl rfl (fun q5 _ => ⟨_, rfl, fun z => absurd z (by decide), fun _ => good 35 q5 (Or.inr (Or.inr rfl))⟩) (fun q5 _ => ⟨_, rfl, fun _ => ?_, fun z => absurd rfl z⟩)
      rw [if_neg (by rintro (z | z | z) <;> first | exact q3 z | exact q4 z | exact q5 z)] at hE
      have F1' := R1.1.1
      unfold DX11_readHow_75 DX11_readHow_126
      refine ⟨fun z => absurd rfl z, fun _ => ?_⟩
      rw [R1.2.2.1, lt32 (by have := R1.2.1; omega)]
      exact ⟨ok29 F1', 32, rf29_3 F1', ok32 F1', by rw [ln32 F1']; exact vp_of (by have := R1.2.1; omega) (by decide), T_fails R1 hB (by decide) (fun M' T' F' _ => ⟨rfl, hE M' T' (F1.tr F')⟩)⟩
    · rw [adv_er' k1] at hE
      exact hE M1 T1 F1
    · rw [T1.2.1] at z; exact absurd z (by decide)
  · rw [if_neg q] at hE
    refine hE M ?_ RG.rf
    rw [hd, ← hm]; exact hR
/-- the first number of a variable -/
def EndV (b : Nat → Int32) (n s m : Nat) (τ : Td) (M : Mem) (Q : Option Value → Mem → Prop) (R : Except (Int32 × Nat) (Nat × Int64)) : Prop := match R with
  | .ok r => ∀ M', RT b n s m (τ.1, τ.2.1, τ.2.2.1, τ.2.2.2.1, τ.2.2.2.2.dropLast ++ [r.2]) M' r.1 → RGt m M M' → Q none M'
  | .error e => ∀ M', TXr M' e.1 e.2 → RGt m M M' → Q none M'
theorem X_first {f : Int32} {p : Nat} {x1 : Int64} (hT : TXr M f p) (H : Q none M) : DX11_readFirst_36 h 29 x1 M Q := by
  unfold DX11_readFirst_36 DX11_readFirst_112
  have n0 : ¬ mI M 29 6 = 0 := by rw [hT.2.1]; intro z; have := hT.2.2.1; rw [z] at this; exact absurd this (by decide)
  exact ⟨ok29 hT.1, fun _ => H, fun z => absurd z n0⟩
theorem T_first36 {vB0 : List Int64} {x1 v : Int64} (hm : τ.2.2.2.2 = vB0 ++ [0]) (hR : RT b n s m τ M i) (hB : By b) (hS : Sto b n s) (h0 : tK b n i ≠ 0) (hx : tK b n i = 3 → x1 * tC b n i = v) (H1 : tK b n i = 3 → tK b n (i + 1) ≠ 0 → ∀ M', RT b n s m (τ.1, τ.2.1, τ.2.2.1, τ.2.2.2.1, vB0 ++ [v]) M' (i + 1) → RGt m M M' → Q none M') (H0 : tK b n i = 3 → tK b n (i + 1) = 0 → ∀ M', TXr M' 1 (tP b n (i + 1)) → RGt m M M' → Q none M') (H2 : tK b n i ≠ 3 → ∀ M', TXr M' 2 (tP b n i) → RGt m M M' → Q none M') : DX11_readFirst_36 (h + 2) 29 x1 M Q := by
  have tk := hR.tk hB
  obtain ⟨⟨F, h1, e1, e2, e3, e4, e5, e6, e7, e8, e9⟩, h2, h3, h4, h5, h6, h7⟩ := id hR
  obtain ⟨-, -, ⟨r1, r2, r3⟩, -, h8⟩ := id tk
  have en := said_num (b := b) (n := n) (p := tP b n i) hB
  have hlen : τ.2.2.2.1.length = vB0.length + 1 := by rw [← h6.1, hm, List.length_append]; rfl
  have ek : (6 : Int32) * Int32.ofNat m + Int32.ofNat τ.2.2.2.1.length - 1 = Int32.ofNat (6 * m + vB0.length) := by
    rw [show (6 : Int32) = Int32.ofNat 6 from rfl, mul32, add32, hlen]
    exact dec32 (a := 6 * m + vB0.length) (by omega)
  unfold DX11_readFirst_36 DX11_readFirst_112
  rw [h3, lt32 (by omega)]
  refine ⟨ok29 F, fun z => absurd h4 z, fun _ => ⟨31, rf29_2 F, ok31 F, by rw [ln31 F]; exact vp_of h8 (by decide), fun q => ?_, fun q => ?_⟩⟩
  · rw [r1] at q
    exact ⟨32, rf29_3 F, ok32 F, by rw [ln32 F]; exact vp_of h8 (by decide), T_fails hR hB (by decide) (fun M' T' F' _ => ⟨rfl, H2 (fun z => q (en.mpr z)) M' T' F'⟩)⟩
  · rw [r1] at q
    have k3 : tK b n i = 3 := en.mp q
    have hs := hS.lt h2.2.2 h0 (by rw [k3]; decide)
    obtain ⟨-, -, x, hxx, ex, ev⟩ := num_val2 hB k3
    have e33 : mAJ M 33 i = tC b n i := by rw [r3, ev]; exact ex.symm
    rw [e1, lt32 (by omega)]
    refine ⟨43, rf29_17 F, 36, rf29_10 F, ok36 F, by rw [ln36 F]; exact vp_of e2 (by decide), 33, rf29_4 F, ok33 F, by rw [ln33 F]; exact vp_of h8 (by decide), ok43 F, ?_⟩
    rw [e5, ek, lt32 (by omega), e33, hx k3]
    refine ⟨by rw [ln43 F]; exact vp_of (by omega) (by decide), fun A a => ?_⟩
    have fA : RGt m M A := by rw [a]; exact RG.aj (by decide) (by rw [show szA 43 = 6 by decide]; omega)
    have rJ : ∀ q, q ≠ 43 → mAJ A q = mAJ M q := fun q hq => by rw [a]; exact up2_row hq
    have RA : RT b n s m (τ.1, τ.2.1, τ.2.2.1, τ.2.2.2.1, vB0 ++ [v]) A i := by
      refine ⟨⟨fA.fix F (by decide), fun j hj => ?_, by rw [a]; exact e1, e2, e3, by rw [a]; exact e4, by rw [a]; exact e5, by rw [rJ 37 (by decide)]; exact e6, by rw [a]; exact e7, by rw [a]; exact e8, by rw [rJ 42 (by decide)]; exact e9⟩, h2, by rw [a]; exact h3, by rw [a]; exact h4, by rw [a]; exact h5, ⟨by show (vB0 ++ [v]).length = τ.2.2.2.1.length; rw [List.length_append, hlen]; rfl, fun k hk => ?_⟩, by rw [a]; exact h7⟩
      · obtain ⟨q1, q2, q3⟩ := h1 j hj
        exact ⟨by rw [fA.fA (by decide)]; exact q1, by rw [fA.fA (by decide)]; exact q2, by rw [fA.fJ (by decide)]; exact q3⟩
      · have hk : k < τ.2.2.2.1.length := hk
        show mAJ A 43 (6 * m + k) = (vB0 ++ [v]).getD k 0
        rw [getD_a64 (by omega), a, mAJ_wAJ]
        by_cases z : k = vB0.length
        · rw [if_pos ⟨rfl, by omega⟩, if_pos z]
        · rw [if_neg (by rintro ⟨-, y⟩; omega), if_neg z]
          have := h6.2 k hk
          rw [hm, getD_a64 (by omega), if_neg z] at this
          exact this
    exact T_take RA hB hs (fun k1 M' R' F' _ => ⟨rfl, H1 k3 k1 M' R' (fA.tr F')⟩) (fun k1 M' T' F' _ => ⟨rfl, H0 k3 k1 M' T' (fA.tr F')⟩)
theorem T_first {vB0 : List Int64} (hm : τ.2.2.2.2 = vB0 ++ [0]) (hR : RT b n s m τ M i) (hB : By b) (hS : Sto b n s) (h0 : tK b n i ≠ 0) (hE : EndV b n s m τ M Q (tdV b n i)) : E (h + 4) mdX11_readFirst [.ref 29] M Q := by
  have F := hR.1.1
  have hd : τ.2.2.2.2.dropLast = vB0 := by rw [hm]; exact dropLast_snoc
  unfold tdV at hE
  refine KX11_readFirst ?_
  unfold DX11_readFirst_0
  refine ⟨ok29 F, T_want hR hB hS h0 (k := 5) (by decide) rfl ?_⟩
  unfold ex at hE ⊢
  by_cases q5 : tK b n i = 5
  · rw [if_pos q5] at hE ⊢
    have hs := hS.lt hR.2.1.2.2 h0 (by rw [q5]; decide)
    by_cases k1 : tK b n (i + 1) = 0
    · rw [adv_er' k1] at hE ⊢
      exact fun M1 T1 F1 _ => ⟨rfl, fun _ => X_first T1 (hE M1 T1 F1), fun z => absurd (T1.2.1.symm.trans z) (by show ¬ (1 : Int32) = 0; decide)⟩
    · rw [adv_ok' k1] at hE ⊢
      have hE : EndV b n s m τ M Q (if tK b n (i + 1) = 21 then (adv' b n (i + 1)).bind fun l => if tK b n l = 3 then (adv' b n l).bind fun p => .ok (p, -(tC b n l)) else .error (2, tP b n l) else if tK b n (i + 1) = 3 then (adv' b n (i + 1)).bind fun p => .ok (p, tC b n (i + 1)) else .error (2, tP b n (i + 1))) := hE
      intro M1 R1 F1
      have tk1 := R1.tk hB
      refine fun _ => ⟨rfl, fun z => absurd R1.2.2.2.1 z, fun _ => K_sign tk1 (k := 21) (by decide) rfl (fun q _ => ⟨_, rfl, fun z => absurd z (by decide), fun _ => ?_⟩) (fun q _ => ⟨_, rfl, fun _ => ?_, fun z => absurd rfl z⟩)⟩
      · rw [if_pos q] at hE
        have hs1 := hS.lt hs k1 (by rw [q]; decide)
        refine T_take (h := h + 1) R1 hB hs1 (fun k2 M2 R2 F2 _ => ⟨rfl, ?_⟩) (fun k2 M2 T2 F2 _ => ⟨rfl, ?_⟩)
        · rw [adv_ok' k2] at hE
          have hE : EndV b n s m τ M Q (if tK b n (i + 1 + 1) = 3 then (adv' b n (i + 1 + 1)).bind fun p => .ok (p, -(tC b n (i + 1 + 1))) else .error (2, tP b n (i + 1 + 1))) := hE
          refine T_first36 (h := h + 1) (v := -(tC b n (i + 1 + 1))) hm R2 hB hS k2 (fun _ => by rw [Int64.neg_mul, Int64.one_mul]) (fun k3 k4 M' R' F' => ?_) (fun k3 k4 M' T' F' => ?_) (fun k3 M' T' F' => ?_)
          · rw [if_pos k3, adv_ok' k4] at hE
            refine hE M' ?_ ((F1.tr F2).tr F')
            rw [hd]; exact R'
          · rw [if_pos k3, adv_er' k4] at hE
            exact hE M' T' ((F1.tr F2).tr F')
          · rw [if_neg k3] at hE
            exact hE M' T' ((F1.tr F2).tr F')
        · rw [adv_er' k2] at hE
          exact X_first T2 (hE M2 T2 (F1.tr F2))
      · rw [if_neg q] at hE
        refine T_first36 (h := h + 1) (v := tC b n (i + 1)) hm R1 hB hS k1 (fun _ => Int64.one_mul _) (fun k3 k4 M' R' F' => ?_) (fun k3 k4 M' T' F' => ?_) (fun k3 M' T' F' => ?_)
        · rw [if_pos k3, adv_ok' k4] at hE
          refine hE M' ?_ (F1.tr F')
          rw [hd]; exact R'
        · rw [if_pos k3, adv_er' k4] at hE
          exact hE M' T' (F1.tr F')
        · rw [if_neg k3] at hE
          exact hE M' T' (F1.tr F')
  · rw [if_neg q5] at hE ⊢
    exact fun M1 T1 F1 _ => ⟨rfl, fun _ => X_first T1 (hE M1 T1 F1), fun z => absurd (T1.2.1.symm.trans z) (by show ¬ (2 : Int32) = 0; decide)⟩
end
