/-! the tree: its rows as they stand in the memory, and what each method makes of them -/
abbrev TrT : Type := Nat × Nat × (Nat → Nat → Int32)
def mkT (Θ : TrT) (k : Int32) : TrT × Nat := if Θ.1 < 640 then ((Θ.1 + 1, Θ.2.1, up2 (up2 (up2 (up2 (up2 (up2 (up2 (up2 (up2 Θ.2.2 5 Θ.1 k) 6 Θ.1 0) 7 Θ.1 0) 8 Θ.1 0) 9 Θ.1 0) 10 Θ.1 0) 11 Θ.1 0) 12 Θ.1 0) 13 Θ.1 (if k = 0 ∨ k = 5 then 1 else 0)), Θ.1) else (Θ, 0)
def lob (x : Int32) : Int32 := x &&& (-x)
def us2 (x : Int32) : Int32 := ((x : Int32).toUInt32 >>> ((2 : Int32).toUInt32 &&& Int32.toUInt32 31)).toInt32
def us1 (x : Int32) : Int32 := ((x : Int32).toUInt32 >>> ((1 : Int32).toUInt32 &&& Int32.toUInt32 31)).toInt32
def aoT (k had added : Int32) (isF : Prop) [Decidable isF] : Int32 :=
  if k = 5 then (if had &&& 1 = 0 then had else (had &&& (-2)) ||| added) else if k = 6 then added &&& (-2)
  else if k = 8 then (if isF then added else if had = 0 ∨ added = 0 then 0 else (had ||| added) &&& (-(if lob had < lob added then lob added else lob had)))
  else if k = 9 then ((added &&& 3) ||| (us2 added &&& 1)) ||| (us1 added &&& (-4)) else had ||| added
def hgA (A : Nat → Nat → Int32) (a c : Nat) : Nat → Nat → Int32 :=
  up2 (if A 6 a = 0 then up2 (up2 (up2 (up2 A 13 a (aoT (A 5 a) (A 13 a) (A 13 c) (A 6 a = 0))) 12 a (A 12 a ||| A 12 c)) 9 c (Int32.ofNat a)) 6 a (Int32.ofNat c) else up2 (up2 (up2 (up2 A 13 a (aoT (A 5 a) (A 13 a) (A 13 c) (A 6 a = 0))) 12 a (A 12 a ||| A 12 c)) 9 c (Int32.ofNat a)) 8 (A 7 a).toNatClampNeg (Int32.ofNat c)) 7 a (Int32.ofNat c)
def hgT (Θ : TrT) (a c : Nat) : TrT := if a = 0 ∨ c = 0 then Θ else (Θ.1, Θ.2.1, hgA Θ.2.2 a c)
def TrP (M : Mem) (Θ : TrT) : Prop := mI M 4 9 = Int32.ofNat Θ.1 ∧ mI M 4 10 = Int32.ofNat Θ.2.1 ∧ (1 ≤ Θ.1 ∧ Θ.1 ≤ 640) ∧ (∀ c, 5 ≤ c → c ≤ 13 → mAI M c = Θ.2.2 c) ∧ (∀ j, 1 ≤ j → j < Θ.1 → ∃ x, x < Θ.1 ∧ Θ.2.2 7 j = Int32.ofNat x) ∧ Θ.2.2 5 0 = 0
/-- what the tree's methods may change -/
def TrF (M M' : Mem) : Prop := mN M' = mN M ∧ mS M' = mS M ∧ mK M' = mK M ∧ mL M' = mL M ∧ mR M' = mR M ∧ mJ M' = mJ M ∧ mAJ M' = mAJ M ∧ mAR M' = mAR M ∧ (∀ a, a ≠ 4 → mI M' a = mI M a) ∧ (∀ f, f ≠ 9 → f ≠ 10 → mI M' 4 f = mI M 4 f) ∧ (∀ a, a < 5 ∨ 13 < a → mAI M' a = mAI M a)
theorem TrF.rf {M : Mem} : TrF M M := ⟨rfl, rfl, rfl, rfl, rfl, rfl, rfl, rfl, fun _ _ => rfl, fun _ _ _ => rfl, fun _ _ => rfl⟩
theorem TrF.tr {M M1 M2 : Mem} (h : TrF M M1) (k : TrF M1 M2) : TrF M M2 := by
  obtain ⟨a1, a2, a3, a4, a5, a6, a7, a8, a9, aA, aB⟩ := h
  obtain ⟨b1, b2, b3, b4, b5, b6, b7, b8, b9, bA, bB⟩ := k
  exact ⟨b1.trans a1, b2.trans a2, b3.trans a3, b4.trans a4, b5.trans a5, b6.trans a6, b7.trans a7, b8.trans a8, fun a q => (b9 a q).trans (a9 a q), fun f q r => (bA f q r).trans (aA f q r), fun a q => (bB a q).trans (aB a q)⟩
theorem TrF.i {M : Mem} {f : Nat} {v : Int32} (hf : f = 9 ∨ f = 10) : TrF M (wI M 4 f v) := ⟨rfl, rfl, rfl, rfl, rfl, rfl, rfl, rfl, fun a q => up2_row q, fun g q r => by rw [mI_wI, if_neg (fun z => by omega)], fun _ _ => rfl⟩
theorem TrF.ai {M : Mem} {c k : Nat} {v : Int32} (h5 : 5 ≤ c) (h13 : c ≤ 13) : TrF M (wAI M c k v) := ⟨rfl, rfl, rfl, rfl, rfl, rfl, rfl, rfl, fun _ _ => rfl, fun _ _ _ => rfl, fun a q => up2_row (by omega)⟩
theorem TrF.e {M M' : Mem} (h : TrF M M') : mE M M' := ⟨Nat.le_of_eq h.1.symm, Nat.le_of_eq h.2.1.symm, fun a _ => ⟨by rw [h.2.2.1], by rw [h.2.2.2.1]⟩⟩
theorem TrF.fix {M M' : Mem} (h : TrF M M') (F : Fix M) : Fix M' := F.of_fr (S := fun _ => True) h.e (fun e _ => by rw [h.2.2.2.2.1]) (by rw [h.2.2.2.2.2.2.1])
theorem TrF.row {M M' : Mem} {a : Nat} (h : TrF M M') (ha : a < 4 ∨ 13 < a) : sameRow M M' a := ⟨h.2.2.2.2.2.2.2.2.1 a (by omega), by rw [h.2.2.2.2.2.1], by rw [h.2.2.2.2.1], h.2.2.2.2.2.2.2.2.2.2 a (by omega), by rw [h.2.2.2.2.2.2.1], by rw [h.2.2.2.2.2.2.2.1]⟩
theorem up2_cg {α : Type} {f g : Nat → Nat → α} {a k c : Nat} {v : α} (h : f c = g c) : up2 f a k v c = up2 g a k v c := by
  funext j
  unfold up2
  rw [h]
section
variable {M : Mem} {Θ : TrT} {h : Nat} {Q : Option Value → Mem → Prop}
theorem mkT_lt (h1 : 1 ≤ Θ.1) {k : Int32} : (mkT Θ k).2 < (mkT Θ k).1.1 := by
  unfold mkT
  by_cases q : Θ.1 < 640
  · rw [if_pos q]; exact Nat.lt_succ_self _
  · rw [if_neg q]; exact h1
theorem mkT_le {k : Int32} : Θ.1 ≤ (mkT Θ k).1.1 := by
  unfold mkT
  by_cases q : Θ.1 < 640
  · rw [if_pos q]; exact Nat.le_succ _
  · rw [if_neg q]; exact Nat.le_refl _
theorem S_mk {k : Int32} (F : Fix M) (hT : TrP M Θ) (H : ∀ M', TrP M' (mkT Θ k).1 → TrF M M' → Q (some (.int (Int32.ofNat (mkT Θ k).2))) M') : E (h + 1) mdX8_make [.ref 4, .int k] M Q := by
  obtain ⟨h1, h2, h3, h4, h5, h6⟩ := hT
  unfold mkT at H
  by_cases q : Θ.1 < 640
  · rw [if_pos q] at H
    refine S_make F h1 q (H _ ⟨by unfold mkF; simp [mNwI, mSwI, mKwI, mIwI, mJwI, mRwI, mLwI, mAIwI, mAJwI, mARwI, mNwJ, mSwJ, mKwJ, mIwJ, mJwJ, mRwJ, mLwJ, mAIwJ, mAJwJ, mARwJ, mNwR, mSwR, mKwR, mIwR, mJwR, mRwR, mLwR, mAIwR, mAJwR, mARwR, mNwAI, mSwAI, mKwAI, mIwAI, mJwAI, mRwAI, mLwAI, mAIwAI, mAJwAI, mARwAI, mNwAJ, mSwAJ, mKwAJ, mIwAJ, mJwAJ, mRwAJ, mLwAJ, mAIwAJ, mAJwAJ, mARwAJ, mNwAR, mSwAR, mKwAR, mIwAR, mJwAR, mRwAR, mLwAR, mAIwAR, mAJwAR, mARwAR, okkwI, okkwJ, okkwR, okkwAI, okkwAJ, okkwAR], by unfold mkF; simp [h2, mNwI, mSwI, mKwI, mIwI, mJwI, mRwI, mLwI, mAIwI, mAJwI, mARwI, mNwJ, mSwJ, mKwJ, mIwJ, mJwJ, mRwJ, mLwJ, mAIwJ, mAJwJ, mARwJ, mNwR, mSwR, mKwR, mIwR, mJwR, mRwR, mLwR, mAIwR, mAJwR, mARwR, mNwAI, mSwAI, mKwAI, mIwAI, mJwAI, mRwAI, mLwAI, mAIwAI, mAJwAI, mARwAI, mNwAJ, mSwAJ, mKwAJ, mIwAJ, mJwAJ, mRwAJ, mLwAJ, mAIwAJ, mAJwAJ, mARwAJ, mNwAR, mSwAR, mKwAR, mIwAR, mJwAR, mRwAR, mLwAR, mAIwAR, mAJwAR, mARwAR, okkwI, okkwJ, okkwR, okkwAI, okkwAJ, okkwAR], ⟨by show 1 ≤ Θ.1 + 1; omega, q⟩, fun c c5 c13 => ?_, fun j j1 j2 => ?_, ?_⟩ ?_)
    · show up2 (up2 (up2 (up2 (up2 (up2 (up2 (up2 (up2 (mAI M) 5 Θ.1 k) 6 Θ.1 0) 7 Θ.1 0) 8 Θ.1 0) 9 Θ.1 0) 10 Θ.1 0) 11 Θ.1 0) 12 Θ.1 0) 13 Θ.1 (if k = 0 ∨ k = 5 then 1 else 0) c = _
      exact up2_cg (up2_cg (up2_cg (up2_cg (up2_cg (up2_cg (up2_cg (up2_cg (up2_cg (h4 c c5 c13)))))))))
    · have j2 : j < Θ.1 + 1 := j2
      show ∃ x, x < Θ.1 + 1 ∧ up2 (up2 (up2 (up2 (up2 (up2 (up2 (up2 (up2 Θ.2.2 5 Θ.1 k) 6 Θ.1 0) 7 Θ.1 0) 8 Θ.1 0) 9 Θ.1 0) 10 Θ.1 0) 11 Θ.1 0) 12 Θ.1 0) 13 Θ.1 (if k = 0 ∨ k = 5 then 1 else 0) 7 j = Int32.ofNat x
      by_cases z : j = Θ.1
      · exact ⟨0, by omega, by simp [up2, z]⟩
      · obtain ⟨x, hx, ex⟩ := h5 j j1 (by omega)
        exact ⟨x, by omega, by simp [up2, z, ex]⟩
    · show up2 (up2 (up2 (up2 (up2 (up2 (up2 (up2 (up2 Θ.2.2 5 Θ.1 k) 6 Θ.1 0) 7 Θ.1 0) 8 Θ.1 0) 9 Θ.1 0) 10 Θ.1 0) 11 Θ.1 0) 12 Θ.1 0) 13 Θ.1 (if k = 0 ∨ k = 5 then 1 else 0) 5 0 = 0
      have z : ¬ (0 = Θ.1) := by omega
      simp [up2, z, h6]
    · unfold mkF
      exact (((((((((TrF.i (Or.inl rfl)).tr (TrF.ai (by decide) (by decide))).tr (TrF.ai (by decide) (by decide))).tr (TrF.ai (by decide) (by decide))).tr (TrF.ai (by decide) (by decide))).tr (TrF.ai (by decide) (by decide))).tr (TrF.ai (by decide) (by decide))).tr (TrF.ai (by decide) (by decide))).tr (TrF.ai (by decide) (by decide))).tr (TrF.ai (by decide) (by decide))
  · rw [if_neg q] at H
    have e : Θ.1 = 640 := by omega
    refine KX8_make ?_
    unfold DX8_make_0
    rw [h1, e]
    exact ⟨ok4 F, fun hc => absurd ((ltn32 (a := 640) (b := 640) (by decide) (by decide)).mp hc) (by omega), fun _ => H M ⟨h1, h2, h3, h4, h5, h6⟩ TrF.rf⟩
theorem S_lob {x : Int32} (H : Q (some (.int (lob x))) M) : E (h + 1) mdJ6_lowestOneBit_0f7a4 [.int x] M Q := by
  refine E.of (by decide) (Nat.le_of_ble_eq_true rfl) (fun _ _ _ => trivial) ?_
  show T _ _ 0 [(0, .int x)] [] M _
  refine xt_iload_n (j := 0) dJ6_lowestOneBit_0f7a4_0 rfl rfl ?_
  refine xt_iload_n (j := 0) dJ6_lowestOneBit_0f7a4_1 rfl rfl ?_
  refine xt_ineg dJ6_lowestOneBit_0f7a4_2 ?_
  refine xt_iand dJ6_lowestOneBit_0f7a4_3 ?_
  exact xt_ireturn dJ6_lowestOneBit_0f7a4_4 rfl H
/-- the end of hang, once 'atOnce' is written -/
theorem hang216 {a c : Nat} {x5 : Int32} {A0 : Nat → Nat → Int32} {v : Int32} {Mo : Mem} (F : Fix M) (h5 : ∀ j, 1 ≤ j → j < Θ.1 → ∃ x, x < Θ.1 ∧ A0 7 j = Int32.ofNat x) (hn : Θ.1 ≤ 640) (ha : 1 ≤ a ∧ a < Θ.1) (hc : c < Θ.1) (hA : ∀ q, 5 ≤ q → q ≤ 13 → mAI M q = up2 A0 13 a v q) (hx : (x5 = 0 ∧ ¬ A0 6 a = 0) ∨ (x5 ≠ 0 ∧ A0 6 a = 0)) (hI : mI M = mI Mo) (H : ∀ M', mI M' = mI Mo → (∀ q, 5 ≤ q → q ≤ 13 → mAI M' q = up2 (if A0 6 a = 0 then up2 (up2 (up2 (up2 A0 13 a v) 12 a (A0 12 a ||| A0 12 c)) 9 c (Int32.ofNat a)) 6 a (Int32.ofNat c) else up2 (up2 (up2 (up2 A0 13 a v) 12 a (A0 12 a ||| A0 12 c)) 9 c (Int32.ofNat a)) 8 (A0 7 a).toNatClampNeg (Int32.ofNat c)) 7 a (Int32.ofNat c) q) → TrF M M' → Q none M') : DX8_hang_216 h 4 (Int32.ofNat a) (Int32.ofNat c) x5 M Q := by
  unfold DX8_hang_216
  have va : ∀ {M : Mem} {q : Nat}, mL M q = 640 → vp_in (Int32.ofNat a) (mL M q) := fun e => by rw [e]; exact vp_of (by omega) (by decide)
  have vc : ∀ {M : Mem} {q : Nat}, mL M q = 640 → vp_in (Int32.ofNat c) (mL M q) := fun e => by rw [e]; exact vp_of (by omega) (by decide)
  have e12 : mAI M 12 = A0 12 := by rw [hA 12 (by decide) (by decide)]; exact up2_row (by decide)
  have e7 : mAI M 7 = A0 7 := by rw [hA 7 (by decide) (by decide)]; exact up2_row (by decide)
  rw [lt32 (by omega), lt32 (by omega)]
  refine ⟨ok4 F, 12, rf4_7 F, ok12 F, va (ln12 F), 12, rf4_7 F, ok12 F, vc (ln12 F), va (ln12 F), fun B1 b1 => ?_⟩
  rw [e12] at b1
  have F1 : Fix B1 := by rw [b1]; exact F.ai
  refine ⟨9, rf4_4 F1, ok9 F1, vc (ln9 F1), fun B2 b2 => ?_⟩
  have F2 : Fix B2 := by rw [b2]; exact F1.ai
  have T2 : TrF M B2 := by rw [b2, b1]; exact (TrF.ai (by decide) (by decide)).tr (TrF.ai (by decide) (by decide))
  have A2 : mAI B2 = up2 (up2 (mAI M) 12 a (A0 12 a ||| A0 12 c)) 9 c (Int32.ofNat a) := by rw [b2, b1]; rfl
  have fin : ∀ (B3 : Mem) (A3 : Nat → Nat → Int32), Fix B3 → TrF M B3 → mI B3 = mI Mo → (∀ q, 5 ≤ q → q ≤ 13 → mAI B3 q = A3 q) → A3 = (if A0 6 a = 0 then up2 (up2 (up2 (up2 A0 13 a v) 12 a (A0 12 a ||| A0 12 c)) 9 c (Int32.ofNat a)) 6 a (Int32.ofNat c) else up2 (up2 (up2 (up2 A0 13 a v) 12 a (A0 12 a ||| A0 12 c)) 9 c (Int32.ofNat a)) 8 (A0 7 a).toNatClampNeg (Int32.ofNat c)) → DX8_hang_265 h 4 (Int32.ofNat a) (Int32.ofNat c) B3 Q := by
    intro B3 A3 F3 T3 I3 hA3 eA3
    unfold DX8_hang_265
    rw [lt32 (by omega)]
    refine ⟨ok4 F3, 7, rf4_2 F3, ok7 F3, va (ln7 F3), fun M' eM => ?_⟩
    refine H M' (by rw [eM]; exact I3) (fun q q5 q13 => ?_) (by rw [eM]; exact T3.tr (TrF.ai (by decide) (by decide)))
    rw [← eA3, eM]
    exact up2_cg (hA3 q q5 q13)
  have hA2 : ∀ q, 5 ≤ q → q ≤ 13 → mAI B2 q = up2 (up2 (up2 A0 13 a v) 12 a (A0 12 a ||| A0 12 c)) 9 c (Int32.ofNat a) q := fun q q5 q13 => by rw [A2]; exact up2_cg (up2_cg (hA q q5 q13))
  have e7b : mAI B2 7 = A0 7 := by rw [A2, up2_row (by decide), up2_row (by decide), e7]
  obtain ⟨x, hx7, ex7⟩ := h5 a ha.1 ha.2
  refine ⟨fun z => ?_, fun z => ?_⟩
  · have nz : ¬ A0 6 a = 0 := by
      rcases hx with ⟨-, q⟩ | ⟨q, -⟩
      · exact q
      · exact absurd z q
    refine ⟨8, rf4_3 F2, 7, rf4_2 F2, ok7 F2, va (ln7 F2), ok8 F2, ?_⟩
    rw [e7b, ex7, lt32 (by omega)]
    refine ⟨by rw [ln8 F2]; exact vp_of (by omega) (by decide), fun B3 b3 => ?_⟩
    refine fin B3 _ (by rw [b3]; exact F2.ai) (by rw [b3]; exact T2.tr (TrF.ai (by decide) (by decide))) (by rw [b3, b2, b1]; exact hI) (fun q q5 q13 => ?_) rfl
    rw [if_neg nz, b3, ex7, lt32 (by omega)]
    exact up2_cg (hA2 q q5 q13)
  · have nz : A0 6 a = 0 := by
      rcases hx with ⟨q, -⟩ | ⟨-, q⟩
      · exact absurd q z
      · exact q
    refine ⟨6, rf4_1 F2, ok6 F2, va (ln6 F2), fun B3 b3 => ?_⟩
    refine fin B3 _ (by rw [b3]; exact F2.ai) (by rw [b3]; exact T2.tr (TrF.ai (by decide) (by decide))) (by rw [b3, b2, b1]; exact hI) (fun q q5 q13 => ?_) rfl
    rw [if_pos nz, b3]
    exact up2_cg (hA2 q q5 q13)
theorem hgT_n {a c : Nat} : (hgT Θ a c).1 = Θ.1 ∧ (hgT Θ a c).2.1 = Θ.2.1 := by unfold hgT; split <;> exact ⟨rfl, rfl⟩
theorem S_hg {a c : Nat} (F : Fix M) (hT : TrP M Θ) (ha : a < Θ.1) (hc : c < Θ.1) (H : ∀ M', TrP M' (hgT Θ a c) → TrF M M' → Q none M') : E (h + 2) mdX8_hang [.ref 4, .int (Int32.ofNat a), .int (Int32.ofNat c)] M Q := by
  obtain ⟨h1, h2, h3, h4, h5, h6⟩ := id hT
  have za := z32 (a := a) (k := 0) (by omega) (by decide)
  have zc := z32 (a := c) (k := 0) (by omega) (by decide)
  unfold hgT at H
  refine KX8_hang ?_
  unfold DX8_hang_0 DX8_hang_8
  refine ⟨fun q => ?_, fun qa => ⟨fun qc => ?_, fun q => ?_⟩⟩
  · rw [if_pos (Or.inl (za.mp q))] at H; exact H M hT TrF.rf
  · have na : a ≠ 0 := fun z => qa (za.mpr z)
    have nc : c ≠ 0 := fun z => qc (zc.mpr z)
    rw [if_neg (by rintro (z | z) <;> first | exact na z | exact nc z)] at H
    have va : ∀ {M : Mem} {q : Nat}, mL M q = 640 → vp_in (Int32.ofNat a) (mL M q) := fun e => by rw [e]; exact vp_of (by omega) (by decide)
    have vc : ∀ {M : Mem} {q : Nat}, mL M q = 640 → vp_in (Int32.ofNat c) (mL M q) := fun e => by rw [e]; exact vp_of (by omega) (by decide)
    -- what is behind 'atOnce'
    have fin : ∀ (B : Mem) (x5 v : Int32), B = wAI M 13 a v → ((x5 = 0 ∧ ¬ Θ.2.2 6 a = 0) ∨ (x5 ≠ 0 ∧ Θ.2.2 6 a = 0)) → v = aoT (Θ.2.2 5 a) (Θ.2.2 13 a) (Θ.2.2 13 c) (Θ.2.2 6 a = 0) → DX8_hang_216 (h + 1) 4 (Int32.ofNat a) (Int32.ofNat c) x5 B Q := by
      intro B x5 v eB hx ev
      refine hang216 (Θ := Θ) (A0 := Θ.2.2) (v := v) (Mo := M) (by rw [eB]; exact F.ai) h5 h3.2 ⟨by omega, ha⟩ hc (fun q q5 q13 => by rw [eB]; exact up2_cg (h4 q q5 q13)) hx (by rw [eB]; rfl) (fun M' I' A' Θ' => ?_)
      rw [ev] at A'
      have h0 : hgA Θ.2.2 a c 5 0 = 0 := by
        unfold hgA
        by_cases y : Θ.2.2 6 a = 0
        · simp [up2, y, h6]
        · simp [up2, y, h6]
      refine H M' ⟨by rw [I']; exact h1, by rw [I']; exact h2, h3, A', fun j j1 j2 => ?_, h0⟩ ((by rw [eB]; exact TrF.ai (by decide) (by decide) : TrF M B).tr Θ')
      show ∃ x, x < Θ.1 ∧ hgA Θ.2.2 a c 7 j = Int32.ofNat x
      unfold hgA
      by_cases z : j = a
      · exact ⟨c, hc, by simp [up2, z]⟩
      · obtain ⟨x, hx, ex⟩ := h5 j j1 j2
        refine ⟨x, hx, ?_⟩
        by_cases y : Θ.2.2 6 a = 0
        · simp [up2, z, y, ex]
        · simp [up2, z, y, ex]
    -- what is chosen by the kind
    have mid : ∀ (x5 : Int32), ((x5 = 0 ∧ ¬ Θ.2.2 6 a = 0) ∨ (x5 ≠ 0 ∧ Θ.2.2 6 a = 0)) → DX8_hang_38 (h + 1) 4 (Int32.ofNat a) (Int32.ofNat c) (Θ.2.2 13 a) (Θ.2.2 13 c) x5 M Q := by
      intro x5 hx
      have fin2 : ∀ (v : Int32), v = aoT (Θ.2.2 5 a) (Θ.2.2 13 a) (Θ.2.2 13 c) (Θ.2.2 6 a = 0) → ok M 13 21 ∧ vp_in (Int32.ofNat a) (mL M 13) ∧ ∀ B : Mem, B = wAI M 13 a v → DX8_hang_216 (h + 1) 4 (Int32.ofNat a) (Int32.ofNat c) x5 B Q := fun v ev => ⟨ok13 F, va (ln13 F), fun B eB => fin B x5 v eB hx ev⟩
      have fin3 := fun v ev => (fin2 v ev).2.2
      unfold DX8_hang_38 DX8_hang_102 DX8_hang_143 DX8_hang_155 DX8_hang_174
      rw [lt32 (by omega)]
      refine ⟨ok4 F, 5, rf4_0 F, ok5 F, va (ln5 F), ?_⟩
      rw [h4 5 (by decide) (by decide)]
      unfold aoT at fin2 fin3
      refine ⟨fun k5 => ⟨13, rf4_8 F, fun q => ?_, fun q => ?_⟩, fun k6 => ⟨13, rf4_8 F, ok13 F, va (ln13 F), fin3 _ ?_⟩, fun k7 => ⟨13, rf4_8 F, ok13 F, va (ln13 F), fin3 _ ?_⟩, fun k8 => ?_, fun k9 => ⟨13, rf4_8 F, ok13 F, va (ln13 F), fin3 _ ?_⟩, fun kd => ⟨13, rf4_8 F, ok13 F, va (ln13 F), fin3 _ ?_⟩⟩
      · exact fin2 _ (by rw [if_pos k5, if_neg q])
      · exact fin2 _ (by rw [if_pos k5, if_pos q])
      · rw [if_neg (by rw [k6]; decide), if_pos k6]
      · rw [if_neg (by rw [k7]; decide), if_neg (by rw [k7]; decide), if_neg (by rw [k7]; decide), if_neg (by rw [k7]; decide)]
      · have n5 : ¬ Θ.2.2 5 a = 5 := by rw [k8]; decide
        have n6 : ¬ Θ.2.2 5 a = 6 := by rw [k8]; decide
        refine S_lob (fun _ => ⟨_, rfl, S_lob (fun _ => ⟨_, rfl, fun q => ⟨ok4 F, 13, rf4_8 F, fun z => fin2 _ ?_, fun z => fin2 _ ?_⟩, fun q => ⟨fun q2 => ⟨ok4 F, 13, rf4_8 F, fun z => fin2 _ ?_, fun z => fin2 _ ?_⟩, fun q2 => ⟨ok4 F, 13, rf4_8 F, fun z => fin2 _ ?_, fun z => fin2 _ ?_⟩⟩⟩)⟩)
        · have f0 : ¬ Θ.2.2 6 a = 0 := by rcases hx with ⟨-, y⟩ | ⟨y, -⟩; exact y; exact absurd z y
          rw [if_neg n5, if_neg n6, if_pos k8, if_neg f0, if_pos (Or.inl q)]
        · have f0 : Θ.2.2 6 a = 0 := by rcases hx with ⟨y, -⟩ | ⟨-, y⟩; exact absurd y z; exact y
          rw [if_neg n5, if_neg n6, if_pos k8, if_pos f0]
        · have f0 : ¬ Θ.2.2 6 a = 0 := by rcases hx with ⟨-, y⟩ | ⟨y, -⟩; exact y; exact absurd z y
          rw [if_neg n5, if_neg n6, if_pos k8, if_neg f0, if_neg (show ¬ (Θ.2.2 13 a = 0 ∨ Θ.2.2 13 c = 0) from fun y => y.elim q q2)]
        · have f0 : Θ.2.2 6 a = 0 := by rcases hx with ⟨y, -⟩ | ⟨-, y⟩; exact absurd y z; exact y
          rw [if_neg n5, if_neg n6, if_pos k8, if_pos f0]
        · have f0 : ¬ Θ.2.2 6 a = 0 := by rcases hx with ⟨-, y⟩ | ⟨y, -⟩; exact y; exact absurd z y
          rw [if_neg n5, if_neg n6, if_pos k8, if_neg f0, if_pos (Or.inr q2)]
        · have f0 : Θ.2.2 6 a = 0 := by rcases hx with ⟨y, -⟩ | ⟨-, y⟩; exact absurd y z; exact y
          rw [if_neg n5, if_neg n6, if_pos k8, if_pos f0]
      · rw [if_neg (by rw [k9]; decide), if_neg (by rw [k9]; decide), if_neg (by rw [k9]; decide), if_pos k9]; rfl
      · have ne : ∀ k : Int32, 5 ≤ k.toInt → k.toInt ≤ 9 → ¬ Θ.2.2 5 a = k := fun k y1 y2 z => by rw [z] at kd; omega
        rw [if_neg (ne 5 (by decide) (by decide)), if_neg (ne 6 (by decide) (by decide)), if_neg (ne 8 (by decide) (by decide)), if_neg (ne 9 (by decide) (by decide))]
    rw [lt32 (by omega), lt32 (by omega)]
    refine ⟨ok4 F, 13, rf4_8 F, ok13 F, va (ln13 F), 13, rf4_8 F, ok13 F, vc (ln13 F), 6, rf4_1 F, ok6 F, va (ln6 F), ?_⟩
    rw [h4 6 (by decide) (by decide), h4 13 (by decide) (by decide)]
    exact ⟨fun q => mid 0 (Or.inl ⟨rfl, q⟩), fun q => mid 1 (Or.inr ⟨by decide, q⟩)⟩
  · rw [if_pos (Or.inr (zc.mp q))] at H; exact H M hT TrF.rf
end
