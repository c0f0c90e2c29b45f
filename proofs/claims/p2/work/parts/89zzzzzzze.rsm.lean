/-! the reference's three truths -/
section
variable {M : Mem} {h a c : Nat} {Q : Option Value → Mem → Prop}
theorem t0_ {a : Nat} (h : a ≤ 2) : (Int32.ofNat a = 0) ↔ a = 0 := ⟨fun e => inj32 (a := a) (b := 0) (by omega) (by decide) e, fun e => by rw [e]; rfl⟩
theorem t1_ {a : Nat} (h : a ≤ 2) : (Int32.ofNat a = 1) ↔ a = 1 := ⟨fun e => inj32 (a := a) (b := 1) (by omega) (by decide) e, fun e => by rw [e]; rfl⟩
theorem t2_ {a : Nat} (h : a ≤ 2) : (Int32.ofNat a = 2) ↔ a = 2 := ⟨fun e => inj32 (a := a) (b := 2) (by omega) (by decide) e, fun e => by rw [e]; rfl⟩
theorem R_both (ha : a ≤ 2) (hc : c ≤ 2) (H : Q (some (.int (Int32.ofNat (v3A a c)))) M) : E (h + 1) mdX11_both [.int (Int32.ofNat a), .int (Int32.ofNat c)] M Q := by
  refine KX11_both ?_
  unfold DX11_both_0 DX11_both_8 DX11_both_26 DX11_both_27
  rw [t0_ ha, t0_ hc, t1_ ha, t1_ hc]
  unfold v3A at H
  refine ⟨fun z => ?_, fun z => ⟨fun z1 => ⟨fun z2 => ?_, fun z2 => ⟨fun z3 => ?_, fun z3 => ?_⟩⟩, fun z1 => ?_⟩⟩
  · rw [if_pos (Or.inl z)] at H; exact H
  · rw [if_neg (by omega), if_neg (by omega)] at H; exact H
  · rw [if_neg (by omega), if_neg (by omega)] at H; exact H
  · rw [if_neg (by omega), if_pos ⟨z2, z3⟩] at H; exact H
  · rw [if_pos (Or.inr z1)] at H; exact H
theorem R_either (ha : a ≤ 2) (hc : c ≤ 2) (H : Q (some (.int (Int32.ofNat (v3O a c)))) M) : E (h + 1) mdX11_either [.int (Int32.ofNat a), .int (Int32.ofNat c)] M Q := by
  refine KX11_either ?_
  unfold DX11_either_0 DX11_either_10 DX11_either_26 DX11_either_27
  rw [t0_ ha, t0_ hc, t1_ ha, t1_ hc]
  unfold v3O at H
  refine ⟨fun z => ?_, fun z => ⟨fun z1 => ⟨fun z2 => ?_, fun z2 => ⟨fun z3 => ?_, fun z3 => ?_⟩⟩, fun z1 => ?_⟩⟩
  · rw [if_pos (Or.inl z)] at H; exact H
  · rw [if_neg (by omega), if_neg (by omega)] at H; exact H
  · rw [if_neg (by omega), if_neg (by omega)] at H; exact H
  · rw [if_neg (by omega), if_pos ⟨z2, z3⟩] at H; exact H
  · rw [if_pos (Or.inr z1)] at H; exact H
theorem R_other (ha : a ≤ 2) (H : Q (some (.int (Int32.ofNat (v3N a)))) M) : E (h + 1) mdX11_other [.int (Int32.ofNat a)] M Q := by
  refine KX11_other ?_
  unfold DX11_other_0 DX11_other_12
  rw [t2_ ha]
  unfold v3N at H
  refine ⟨fun z => ?_, fun z => ?_⟩
  · rw [if_neg z] at H
    have e : (1 : Int32) - Int32.ofNat a = Int32.ofNat (1 - a) := by
      have : a = 0 ∨ a = 1 := by omega
      rcases this with e | e <;> rw [e] <;> rfl
    rw [e]; exact H
  · rw [if_pos z] at H; exact H
end
/-! a module of the reference in memory, as a beat needs it -/
/-- places that count -/
def plR (R : RMo) (i : Plc) : Prop := (i.1 ≤ 3 ∧ inR R i.2.1 ∧ i.2.2 = 0) ∨ (i.1 = 4 ∧ inR R i.2.1 ∧ i.2.2 < moC R) ∨ (i.1 = 5 ∧ i.2.1 < moQ R ∧ i.2.2 = 0)
/-- the truths in memory -/
def RSv (R : RMo) (ρ : Plc → Nat) (M : Mem) : Prop := (∀ j, ρ j ≤ 2) ∧ (∀ j, ¬ plR R j → ρ j = 2) ∧ (∀ c y, c ≤ 3 → inR R y → mAI M (95 + c) (y - 700 * moM R) = Int32.ofNat (ρ (c, y, 0))) ∧ (∀ y n, inR R y → n < moC R → mAI M 99 (24 * (y - 700 * moM R) + n) = Int32.ofNat (ρ (4, y, n))) ∧ ∀ s, s < moQ R → mAI M 100 s = Int32.ofNat (ρ (5, s, 0))
/-- a module of the reference, where it stands -/
def RmS (R : RMo) (sl : List Nat) (M : Mem) : Prop := (moM R < 4 ∧ frM R ∧ moQ R ≤ 16 ∧ 3 ≤ moC R ∧ moC R ≤ 20 ∧ (moY R).length ≤ 410) ∧ (∀ c y, 80 ≤ c → c ≤ 86 → inR R y → mAI M c y = (moS R).2 c y) ∧ (∀ y, inR R y → mAI M 87 y = moK R y ∧ mAI M 88 y = moN R y) ∧ (∀ c p, 58 ≤ c → c ≤ 71 → 40 * moM R ≤ p → p < 40 * moM R + 40 → mAI M c p = moA R c p) ∧ (∀ k, k < (moY R).length → mAI M 45 (410 * moM R + k) = Int32.ofNat ((moY R).getD k cd0).1 ∧ mAI M 46 (410 * moM R + k) = ya (moM R) ((moY R).getD k cd0) ∧ mAI M 47 (410 * moM R + k) = yb (moM R) ((moY R).getD k cd0)) ∧ (mAI M 79 (moM R) = Int32.ofNat (moS R).1 ∧ mAI M 92 (moM R) = Int32.ofNat (moC R) ∧ mAI M 94 (moM R) = Int32.ofNat sl.length ∧ (∀ i, i < sl.length → mAI M 93 (1400 * moM R + i) = Int32.ofNat (sl.getD i 0)) ∧ mAI M 34 (moM R) = Int32.ofNat (moQ R) ∧ ∀ s, s < moQ R → mAI M 38 (16 * moM R + s) = moT R s)
/-- what solving writes -/
def RbF (M M' : Mem) : Prop := (mN M' = mN M ∧ mS M' = mS M ∧ mK M' = mK M ∧ mL M' = mL M) ∧ (mJ M' = mJ M ∧ mR M' = mR M ∧ mAJ M' = mAJ M ∧ mAR M' = mAR M) ∧ (∀ a, a ≠ 29 → mI M' a = mI M a) ∧ (∀ f, f ≠ 83 → mI M' 29 f = mI M 29 f) ∧ ∀ c, ¬ (95 ≤ c ∧ c ≤ 101) → mAI M' c = mAI M c
