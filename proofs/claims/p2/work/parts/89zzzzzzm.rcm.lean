/-! the reference's compile, whole -/
def EndRR (b : Nat → Int32) (n m : Nat) (M : Mem) (Q : Option Value → Mem → Prop) (R : Except (Int32 × Nat) (Nat × Td × PS × Nat)) : Prop := match R with
  | .error e => ∀ M', TXr M' e.1 e.2 → RGc m M M' → Q (some (.int (-10 - Int32.ofNat e.2))) M'
  | .ok r => ∀ s M1 γ g0, Sto b n s → RPs b n s m r.2.1 [] r.2.2.1 M1 r.1 0 → RTq m r.2.1 M1 → mAI M1 122 m = 0 → RGc m M M1 → RdE r.2.1 m r.2.2.1 r.2.2.2 γ g0 → RdX r.2.1 r.2.2.1 r.2.2.2 γ → ((∀ j, j < npS r.2.2.1 → r.2.2.1.2.1.1 j 2 = 0) → ∀ pn S G mk nu co sl km g y M2 M3, BuR (woS r.2.1 m r.2.2.1 γ) ((trS r.2.2.1).2.2 12) m r.2.2.1.2.2.2.length (ifS r.2.2.1).length r.2.2.1.1.2.1 pn S G mk nu co sl km g y r.2.2.2 (trS r.2.2.1).2.1 (npS r.2.2.1) M2 → RGd m M1 M2 → M3 = wI M2 29 18 (mI M1 29 18 + 1) → Q (some (.int (mI M1 29 18))) M3) ∧ ∀ j pl M3, j < npS r.2.2.1 → (∀ q, q < j → r.2.2.1.2.1.1 q 2 = 0) → r.2.2.1.2.1.1 j 2 ≠ 0 → r.2.2.1.2.1.1 j 0 = Int32.ofNat pl → TXr M3 (r.2.2.1.2.1.1 j 2) pl → RGe m M1 M3 → Q (some (.int (-10 - Int32.ofNat pl))) M3
theorem EndRR.rc {b : Nat → Int32} {n m h : Nat} {M : Mem} {A : Nat → Nat → Int32} {B : Nat → Int64} {Zt : Nat → Nat → Int32} {Q : Option Value → Mem → Prop} (hB : By b) (h4 : m < 4) (hZ : Zt 5 0 = 0) (H : EndRR b n m M Q (rdM b n m A B Zt)) : EndRC b n m (h + 15) M Q (rdM b n m A B Zt) := by
  cases e : rdM b n m A B Zt with
  | error y => rw [e] at H; exact H
  | ok r =>
    rw [e] at H
    intro s M1 hS hR hT ⟨e79, e122⟩ hG
    have hv : HvT r.2.1 := ⟨hR.1.2.2.2.2.1.2.2.2, hR.1.2.2.2.2.1.1⟩
    obtain ⟨γ, g0, rE, rX⟩ := rdm_all hB hS h4 hv hZ e
    obtain ⟨H0, H1⟩ := H s M1 γ g0 hS hR hT e122 hG rE rX
    exact R_188 (h := h) hR e79 rE H0 H1
