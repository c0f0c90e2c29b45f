/-! Tree: begin, make; the reader's tables of kinds -/
theorem Fix.fail {M : Mem} {c : Int32} (F : Fix M) : Fix (failF M c) := by
  unfold failF; split
  · exact F.i.i.i
  · exact F.i
theorem Fix.adv {M : Mem} (F : Fix M) : Fix (advF M) := by
  unfold advF
  split
  · split
    · dsimp only
      split
      · exact F.i.i.j.i.i.i
      · exact F.i.i.j.i
    · exact F
  · exact F
theorem adv_ok {M : Mem} {j : Nat} (h12 : mI M 15 12 = 0) (h7 : mI M 15 7 = Int32.ofNat j) (hj : j < 801) (hk : mAI M 16 j ≠ 0) : advF M = wI (wJ (wI (wI M 15 9 (mAI M 16 j)) 15 10 (mAI M 17 j)) 15 11 (mAJ M 18 j)) 15 7 (Int32.ofNat (j + 1)) := by
  unfold advF
  have h8 : Int32.ofNat j < 801 := (ltn32 (b := 801) (by omega) (by decide)).mpr hj
  rw [if_pos h12, h7, lt32 (by omega), succ32, if_pos h8]
  dsimp only
  rw [if_neg hk]
theorem adv_bad {M : Mem} {j : Nat} (h12 : mI M 15 12 = 0) (h7 : mI M 15 7 = Int32.ofNat j) (hj : j < 801) (hk : mAI M 16 j = 0) : advF M = wI (wI (wI (wJ (wI (wI M 15 9 0) 15 10 (mAI M 17 j)) 15 11 (mAJ M 18 j)) 15 7 (Int32.ofNat (j + 1))) 15 12 1) 15 13 (mAI M 17 j) := by
  unfold advF
  have h8 : Int32.ofNat j < 801 := (ltn32 (b := 801) (by omega) (by decide)).mpr hj
  rw [if_pos h12, h7, lt32 (by omega), succ32, if_pos h8]
  dsimp only
  rw [if_pos hk, hk]
theorem adv_off {M : Mem} (h12 : mI M 15 12 ≠ 0) : advF M = M := by unfold advF; rw [if_neg h12]
theorem S_failV {h : Nat} {c : Int32} {M : Mem} {Q : Option Value → Mem → Prop} (F : Fix M) (H : ∀ M', M' = failF M c → Fix M' → Q none M') : E (h + 1) mdX7_fail [.ref 15, .int c] M Q := S_fail F (H _ rfl F.fail)
theorem S_advV {h : Nat} {M : Mem} {Q : Option Value → Mem → Prop} (F : Fix M) (h0 : ¬ mI M 15 7 < 0) (H : ∀ M', M' = advF M → Fix M' → Q none M') : E (h + 1) mdX7_advance [.ref 15] M Q := S_adv F h0 (H _ rfl F.adv)
theorem S_treeBegin {h : Nat} {M : Mem} {Q : Option Value → Mem → Prop} (F : Fix M) (H : Q none (wI (wI M 4 9 1) 4 10 0)) : E (h + 1) mdX8_begin [.ref 4] M Q := by
  refine KX8_begin ?_
  unfold DX8_begin_0
  refine ⟨ok4 F, fun M2 e2 M3 e3 => ?_⟩
  subst e2 e3
  exact H
def mkF (M : Mem) (n : Nat) (k : Int32) : Mem := wAI (wAI (wAI (wAI (wAI (wAI (wAI (wAI (wAI (wI M 4 9 (Int32.ofNat (n + 1))) 5 n k) 6 n 0) 7 n 0) 8 n 0) 9 n 0) 10 n 0) 11 n 0) 12 n 0) 13 n (if k = 0 ∨ k = 5 then 1 else 0)
theorem Fix.mk {M : Mem} {n : Nat} {k : Int32} (F : Fix M) : Fix (mkF M n k) := F.i.ai.ai.ai.ai.ai.ai.ai.ai.ai
theorem S_make {h n : Nat} {k : Int32} {M : Mem} {Q : Option Value → Mem → Prop} (F : Fix M) (hn : mI M 4 9 = Int32.ofNat n) (h6 : n < 640) (H : Q (some (.int (Int32.ofNat n))) (mkF M n k)) : E (h + 1) mdX8_make [.ref 4, .int k] M Q := by
  refine KX8_make ?_
  unfold DX8_make_0 DX8_make_97 DX8_make_102
  rw [hn, lt32 (by omega), succ32]
  have hv : ∀ {M : Mem} {c : Nat}, mL M c = 640 → vp_in (Int32.ofNat n) (mL M c) := fun e => by rw [e]; exact vp_of h6 (by decide)
  refine ⟨ok4 F, fun _ M2 e2 => ?_, fun hc => absurd ((ltn32 (b := 640) (by omega) (by decide)).mpr h6) hc⟩
  have F0 : Fix M2 := by rw [e2]; exact F.i
  refine ⟨5, rf4_0 F0, ok5 F0, hv (ln5 F0), fun A0 f0 => ?_⟩
  have G0 : Fix A0 := by rw [f0]; exact F0.ai
  refine ⟨6, rf4_1 G0, ok6 G0, hv (ln6 G0), fun A1 f1 => ?_⟩
  have G1 : Fix A1 := by rw [f1]; exact G0.ai
  refine ⟨7, rf4_2 G1, ok7 G1, hv (ln7 G1), fun A2 f2 => ?_⟩
  have G2 : Fix A2 := by rw [f2]; exact G1.ai
  refine ⟨8, rf4_3 G2, ok8 G2, hv (ln8 G2), fun A3 f3 => ?_⟩
  have G3 : Fix A3 := by rw [f3]; exact G2.ai
  refine ⟨9, rf4_4 G3, ok9 G3, hv (ln9 G3), fun A4 f4 => ?_⟩
  have G4 : Fix A4 := by rw [f4]; exact G3.ai
  refine ⟨10, rf4_5 G4, ok10 G4, hv (ln10 G4), fun A5 f5 => ?_⟩
  have G5 : Fix A5 := by rw [f5]; exact G4.ai
  refine ⟨11, rf4_6 G5, ok11 G5, hv (ln11 G5), fun A6 f6 => ?_⟩
  have G6 : Fix A6 := by rw [f6]; exact G5.ai
  refine ⟨12, rf4_7 G6, ok12 G6, hv (ln12 G6), fun A7 f7 => ?_⟩
  have G7 : Fix A7 := by rw [f7]; exact G6.ai
  unfold mkF at H
  refine ⟨13, rf4_8 G7, fun h0 => ⟨ok13 G7, hv (ln13 G7), fun B e => ?_⟩, fun h0 => ⟨fun h5 => ⟨ok13 G7, hv (ln13 G7), fun B e => ?_⟩, fun h5 => ⟨ok13 G7, hv (ln13 G7), fun B e => ?_⟩⟩⟩
  · rw [if_pos (Or.inl h0)] at H
    rw [e, f7, f6, f5, f4, f3, f2, f1, f0, e2]
    exact H
  · rw [if_neg (by intro z; rcases z with z | z; exact h0 z; exact h5 z)] at H
    rw [e, f7, f6, f5, f4, f3, f2, f1, f0, e2]
    exact H
  · rw [if_pos (Or.inr h5)] at H
    rw [e, f7, f6, f5, f4, f3, f2, f1, f0, e2]
    exact H
theorem S_makeV {h n : Nat} {k : Int32} {M : Mem} {Q : Option Value → Mem → Prop} (F : Fix M) (hn : mI M 4 9 = Int32.ofNat n) (h6 : n < 640) (H : ∀ M', M' = mkF M n k → Fix M' → Q (some (.int (Int32.ofNat n))) M') : E (h + 1) mdX8_make [.ref 4, .int k] M Q := S_make F hn h6 (H _ rfl F.mk)
theorem S_standsAlone {h : Nat} {k : Int32} {M : Mem} {Q : Option Value → Mem → Prop} (H : Q (some (.int (if (¬ k < 37 ∧ k ≤ 41) ∨ k = 47 ∨ k = 57 then 1 else 0))) M) : E (h + 1) mdX4_standsAlone [.int k] M Q := by
  refine KX4_standsAlone ?_
  unfold DX4_standsAlone_0 DX4_standsAlone_12 DX4_standsAlone_24 DX4_standsAlone_29
  refine ⟨fun h1 => ⟨fun h2 => ⟨Or.inr rfl, ?_⟩, fun h2 => ⟨fun h3 => ⟨Or.inl rfl, ?_⟩, fun h3 => ⟨Or.inr rfl, ?_⟩⟩⟩, fun h1 => ⟨fun h2 => ⟨Or.inr rfl, ?_⟩, fun h2 => ⟨fun h3 => ⟨Or.inr rfl, ?_⟩, fun h3 => ⟨fun h4 => ⟨Or.inl rfl, ?_⟩, fun h4 => ⟨Or.inr rfl, ?_⟩⟩⟩⟩⟩
  · rwa [if_pos (Or.inr (Or.inl h2))] at H
  · rwa [if_neg (by rintro (z | z | z); exact z.1 h1; exact h2 z; exact h3 z)] at H
  · rwa [if_pos (Or.inr (Or.inr h3))] at H
  · rwa [if_pos (Or.inl ⟨h1, h2⟩)] at H
  · rwa [if_pos (Or.inr (Or.inl h3))] at H
  · rwa [if_neg (by rintro (z | z | z); exact h2 z.2; exact h3 z; exact h4 z)] at H
  · rwa [if_pos (Or.inr (Or.inr h4))] at H
def opK (k : Int32) : Bool := k == 17 || k == 42 || k == 44 || k == 49 || k == 50 || k == 52 || k == 53 || k == 55 || k == 58
theorem S_staysOpen {h : Nat} {k : Int32} {M : Mem} {Q : Option Value → Mem → Prop} (H : Q (some (.int (if opK k = true then 1 else 0))) M) : E (h + 1) mdX4_staysOpen [.int k] M Q := by
  refine KX4_staysOpen ?_
  unfold DX4_staysOpen_0
  refine ⟨fun z => ?_, fun z => ?_, fun z => ?_, fun z => ?_, fun z => ?_, fun z => ?_, fun z => ?_, fun z => ?_, fun z => ?_, fun z => ?_⟩
  · subst z; exact ⟨Or.inr rfl, H⟩
  · subst z; exact ⟨Or.inr rfl, H⟩
  · subst z; exact ⟨Or.inr rfl, H⟩
  · subst z; exact ⟨Or.inr rfl, H⟩
  · subst z; exact ⟨Or.inr rfl, H⟩
  · subst z; exact ⟨Or.inr rfl, H⟩
  · subst z; exact ⟨Or.inr rfl, H⟩
  · subst z; exact ⟨Or.inr rfl, H⟩
  · subst z; exact ⟨Or.inr rfl, H⟩
  · obtain ⟨z1, z2, z3, z4, z5, z6, z7, z8, z9⟩ := z
    have e : opK k = false := by simp [opK, z1, z2, z3, z4, z5, z6, z7, z8, z9]
    rw [e] at H
    exact ⟨Or.inl rfl, H⟩
def pzK (k : Int32) : Nat := if k = 38 ∨ k = 39 ∨ k = 41 ∨ k = 47 ∨ k = 49 ∨ k = 50 then 1 else if k = 53 then 3 else 0
theorem S_pausesOf {h : Nat} {k : Int32} {M : Mem} {Q : Option Value → Mem → Prop} (H : Q (some (.int (Int32.ofNat (pzK k)))) M) : E (h + 1) mdX4_pausesOf [.int k] M Q := by
  refine KX4_pausesOf ?_
  unfold DX4_pausesOf_0
  refine ⟨fun z => ?_, fun z => ?_, fun z => ?_, fun z => ?_, fun z => ?_, fun z => ?_, fun z => ?_, fun z => ?_, fun z => ?_, fun z => ?_, fun z => ?_, fun z => ?_, fun z => ?_, fun z => ?_, fun z => ?_, fun z => ?_, fun z => ?_⟩
  iterate 16 (first | (subst z; exact H))
  have e : pzK k = 0 := by
    unfold pzK
    rw [if_neg (by rintro (q | q | q | q | q | q) <;> subst q <;> revert z <;> decide), if_neg (by intro q; subst q; revert z; decide)]
  rw [e] at H
  exact H
