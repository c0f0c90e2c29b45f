/-! the reference's small methods -/
theorem lgz {x y : Int64} : (lg_cmp x y = 0) ↔ x = y := by
  unfold lg_cmp
  constructor
  · intro h
    by_cases h1 : x > y
    · rw [if_pos h1] at h; exact absurd h (by decide)
    · rw [if_neg h1] at h
      by_cases h2 : x = y
      · exact h2
      · rw [if_neg h2] at h; exact absurd h (by decide)
  · intro h
    subst h
    rw [if_neg (by intro z; exact absurd (Int64.lt_iff_toInt_lt.mp z) (Int.lt_irrefl _)), if_pos rfl]
def TR (M : Mem) (n : Nat) (b : Nat → Int32) : Prop := n ≤ 800 ∧ mI M 29 1 = Int32.ofNat n ∧ (∀ i, i < n → mAI M 30 i = b i) ∧ (∀ i, n ≤ i → b i = 0)
theorem R_byteAt {h n i : Nat} {b : Nat → Int32} {M : Mem} {Q : Option Value → Mem → Prop} (F : Fix M) (hT : TR M n b) (hi : i ≤ 2000) (H : Q (some (.int (b i))) M) : E (h + 1) mdX11_byteAt [.ref 29, .int (Int32.ofNat i)] M Q := by
  obtain ⟨t1, t2, t3, t4⟩ := hT
  refine KX11_byteAt ?_
  unfold DX11_byteAt_0 DX11_byteAt_18
  refine ⟨ok29 F, fun h1 => ?_, fun h1 => ⟨30, rf29_0 F, ok30 F, ?_, ?_⟩⟩
  · rw [t2, le32 (by omega) (by omega)] at h1
    rw [← t4 i h1]; exact H
  · rw [t2, le32 (by omega) (by omega)] at h1
    rw [ln30 F]; exact vp_of (by omega) (by omega)
  · rw [t2, le32 (by omega) (by omega)] at h1
    rw [lt32 (by omega), t3 i (by omega)]; exact H
theorem R_isL {h : Nat} {c : Int32} {M : Mem} {Q : Option Value → Mem → Prop} (H : Q (some (.int (if isL c = true then 1 else 0))) M) : E (h + 1) mdX11_isLetter [.int c] M Q := by
  rw [← isL_ite] at H
  refine KX11_isLetter ?_
  unfold DX11_isLetter_0 DX11_isLetter_16 DX11_isLetter_17
  refine ⟨fun h1 => ⟨Or.inl rfl, ?_⟩, fun h1 => ⟨fun h2 => ⟨Or.inl rfl, ?_⟩, fun h2 => ⟨Or.inr rfl, ?_⟩⟩⟩
  · rwa [if_pos h1] at H
  · rwa [if_neg h1, if_pos h2] at H
  · rwa [if_neg h1, if_neg h2] at H
theorem R_isF {h : Nat} {c : Int32} {M : Mem} {Q : Option Value → Mem → Prop} (H : Q (some (.int (if isF c = true then 1 else 0))) M) : E (h + 1) mdX11_isFigure [.int c] M Q := by
  rw [← isF_ite] at H
  refine KX11_isFigure ?_
  unfold DX11_isFigure_0 DX11_isFigure_16 DX11_isFigure_17
  refine ⟨fun h1 => ⟨Or.inl rfl, ?_⟩, fun h1 => ⟨fun h2 => ⟨Or.inl rfl, ?_⟩, fun h2 => ⟨Or.inr rfl, ?_⟩⟩⟩
  · rwa [if_pos h1] at H
  · rwa [if_neg h1, if_pos h2] at H
  · rwa [if_neg h1, if_neg h2] at H
def flF (M : Mem) (c a : Int32) : Mem := if mI M 29 6 = 0 then wI (wI M 29 6 c) 29 7 a else M
theorem R_fails {h : Nat} {c a : Int32} {M : Mem} {Q : Option Value → Mem → Prop} (F : Fix M) (H : Q none (flF M c a)) : E (h + 1) mdX11_fails [.ref 29, .int c, .int a] M Q := by
  refine KX11_fails ?_
  unfold DX11_fails_0 DX11_fails_17
  unfold flF at H
  refine ⟨ok29 F, fun h1 => ?_, fun h1 M2 e2 M3 e3 => ?_⟩
  · rwa [if_neg h1] at H
  · rw [if_pos h1] at H; subst e2 e3; exact H
theorem Fix.fl {M : Mem} {c a : Int32} (F : Fix M) : Fix (flF M c a) := by
  unfold flF; split
  · exact F.i.i
  · exact F
def takF (M : Mem) : Mem := if mAI M 31 (mI M 29 5 + 1).toNatClampNeg = 4 then flF (wI M 29 5 (mI M 29 5 + 1)) 1 (mAI M 32 (mI M 29 5 + 1).toNatClampNeg) else wI M 29 5 (mI M 29 5 + 1)
theorem R_take {h : Nat} {M : Mem} {Q : Option Value → Mem → Prop} (F : Fix M) (hv : vp_in (mI M 29 5 + 1) 802) (H : Q none (takF M)) : E (h + 2) mdX11_take [.ref 29] M Q := by
  refine KX11_take ?_
  unfold DX11_take_0 DX11_take_37
  unfold takF at H
  refine ⟨ok29 F, fun M2 e2 => ?_⟩
  have e5 : mI M2 29 5 = mI M 29 5 + 1 := by rw [e2]; exact mI_own _ _ _ _
  have F2 : Fix M2 := by rw [e2]; exact F.i
  rw [e5]
  refine ⟨31, rf29_2 F2, ok31 F2, (ln31 F2).symm ▸ hv, fun h1 => ?_, fun h1 => ⟨32, rf29_3 F2, ok32 F2, (ln32 F2).symm ▸ hv, R_fails F2 (fun _ => ⟨rfl, ?_⟩)⟩⟩
  · subst e2
    have h1 : ¬ mAI M 31 (mI M 29 5 + 1).toNatClampNeg = 4 := h1
    rwa [if_neg h1] at H
  · subst e2
    have h1 : mAI M 31 (mI M 29 5 + 1).toNatClampNeg = 4 := h1
    rw [if_pos h1] at H
    exact H
theorem R_isSaid {h j : Nat} {s : Int32} {v : Int64} {M : Mem} {Q : Option Value → Mem → Prop} (F : Fix M) (hj : mI M 29 5 = Int32.ofNat j) (h8 : j < 802) (H : Q (some (.int (if mAI M 31 j = s ∧ mAJ M 33 j = v then 1 else 0))) M) : E (h + 1) mdX11_isSaid [.ref 29, .int s, .long v] M Q := by
  refine KX11_isSaid ?_
  unfold DX11_isSaid_0 DX11_isSaid_31 DX11_isSaid_32
  rw [hj, lt32 (by omega)]
  refine ⟨ok29 F, 31, rf29_2 F, ok31 F, by rw [ln31 F]; exact vp_of h8 (by decide), fun h1 => ⟨Or.inl rfl, ?_⟩, fun h1 => ⟨33, rf29_4 F, ok33 F, by rw [ln33 F]; exact vp_of h8 (by decide), fun h2 => ⟨Or.inl rfl, ?_⟩, fun h2 => ⟨Or.inr rfl, ?_⟩⟩⟩
  · rwa [if_neg (fun z => h1 z.1)] at H
  · rwa [if_neg (fun z => h2 (lgz.mpr z.2))] at H
  · rwa [if_pos ⟨h1, lgz.mp h2⟩] at H
