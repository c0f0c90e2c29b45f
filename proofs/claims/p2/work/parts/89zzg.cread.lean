/-! the class reads a text -/
/-- the whole reading, in the middle -/
def rdM (b : Nat → Int32) (n m : Nat) (A : Nat → Nat → Int32) (B : Nat → Int64) (Z : Nat → Nat → Int32) : Except (Int32 × Nat) (Nat × Td × PS × Nat) := if tK b n 0 = 0 then .error (1, tP b n 0) else (td b n 900 0 td0).bind fun r => (rdQ b n m r.2 r.1 (σI A B (cl0 Z r.2))).bind fun q => .ok (q.1, r.2, q.2.1, q.2.2)
/-- all but the tokens', the tree's and the reader's own cells stays -/
abbrev FrC (M M' : Mem) : Prop := fr (fun c => (4 ≤ c ∧ c ≤ 18) ∨ c = 20) M M'
/-- a module once its text is read without a fault: M0 as it was when the parts began -/
def CRd (b : Nat → Int32) (n s : Nat) (τ : Td) (M M0 M2 : Mem) (i : Nat) (σ : PS) (ps : List Nat) : Prop := CS b n s (mN M) τ M0 M2 i 0 σ.2.1 σ.1.1 ps [] ∧ (∃ lc rc, CT (mN M) τ M0 lc rc) ∧ MdN (mN M) M0 ∧ FrC M M0 ∧ mN M0 ≤ mN M + 57 ∧ (∃ lc, mS M0 ≤ mS M + mS cpC + 4 * mL M0 lc ∧ mL M0 lc ≤ 64 + 2 * 18)
/-- what the room has come to -/
def RmC (n : Nat) (M M' : Mem) : Prop := ∃ (τ : Td) (M0 M2 : Mem) (γ : ClT) (cn : Nat → Nat) (ps : List Nat) (tl : List Int64) (lc : Nat), CQ (mN M) τ M0 M2 γ cn ps tl ∧ γ.2.2.1.length ≤ n + 90 ∧ γ.2.2.2.2.2.1.length ≤ 4 * n + 300 ∧ γ.2.2.2.2.1.length ≤ 55 ∧ (mN M' = mN M2 ∧ mS M' = mS M2) ∧ mN M0 ≤ mN M + 57 ∧ mS M0 ≤ mS M + mS cpC + 4 * mL M0 lc ∧ mL M0 lc ≤ 64 + 2 * 18
/-- behind a fault -/
def CRx (n : Nat) (M M' : Mem) (f v : Int32) : Prop := Fix M' ∧ mI M' 15 12 = f ∧ f ≠ 0 ∧ mI M' 15 13 = v ∧ FrC M M' ∧ RmC n M M' ∧ mAI M' 5 0 = 0
section
variable {b : Nat → Int32} {n s n0 m : Nat} {τ : Td} {M Mz M0 M1 M2 M' : Mem} {i o h : Nat} {Q : Option Value → Mem → Prop} {lc rc lc' rc' L L' : Nat}
theorem MdN.fr (hM : MdN n0 M) (k : fr (fun c => c = 15 ∨ (n0 ≤ c ∧ c ≤ n0 + 6) ∨ c = n0 + 8 ∨ c = n0 + 20 ∨ c = lc ∨ c = rc) M M') (hn : 132 ≤ n0) (hN : n0 + 25 ≤ mN M) (h1 : lc = n0 + 9 ∨ n0 + 25 ≤ lc) (h2 : rc = n0 + 10 ∨ n0 + 25 ≤ rc) (hr : mR M' n0 = mR M n0) (hi : ∀ f, f ≠ 4 → mI M' (n0 + 8) f = mI M (n0 + 8) f) (hR : ∀ f, f ≠ 0 → f ≠ 1 → mR M' (n0 + 8) f = mR M (n0 + 8) f) (kl : mK M lc = 21) (kr : mK M rc = 21) (k6 : ∀ c, n0 ≤ c → c ≤ n0 + 6 → mK M c ≠ 24 ∧ mK M c ≠ 0) (k15 : mK M 15 = 9) (k8 : mK M (n0 + 8) = 2) (k20 : mK M (n0 + 20) = 21) : MdN n0 M' := by
  obtain ⟨⟨a1, a2⟩, ⟨a3, a4⟩, a5, ⟨b1, b2, b3⟩, ⟨b4, b5, b6, b7⟩, ⟨b8, b9⟩, ⟨c1, c2, c3⟩, ⟨c4, c5, c6⟩, ⟨c7, c8, c9⟩, d1⟩ := hM
  have row : ∀ c, n0 + 11 ≤ c → c < n0 + 25 → c ≠ n0 + 20 → sameRow M M' c := fun c z1 z2 z3 => k.2 c (by omega) (by omega)
  have ln : ∀ c, c < mN M → mL M' c = mL M c := fun c hc => (k.1.2.2 c hc).2
  have S0 : ∀ c, c < mN M → (c = 15 ∨ (n0 ≤ c ∧ c ≤ n0 + 6) ∨ c = n0 + 8 ∨ c = n0 + 20 ∨ c = lc ∨ c = rc) → mK M c ≠ 0 := by
    intro c _ z
    rcases z with z | z | z | z | z | z
    · rw [z, k15]; decide
    · exact (k6 c z.1 z.2).2
    · rw [z, k8]; decide
    · rw [z, k20]; decide
    · rw [z, kl]; decide
    · rw [z, kr]; decide
  have S24 : mK M (mBig + 5) = 24 → ¬ ((mBig + 5) = 15 ∨ (n0 ≤ (mBig + 5) ∧ (mBig + 5) ≤ n0 + 6) ∨ (mBig + 5) = n0 + 8 ∨ (mBig + 5) = n0 + 20 ∨ (mBig + 5) = lc ∨ (mBig + 5) = rc) := by
    intro e z
    rcases z with z | z | z | z | z | z
    · rw [z, k15] at e; exact absurd e (by decide)
    · exact (k6 _ z.1 z.2).1 e
    · rw [z, k8] at e; exact absurd e (by decide)
    · rw [z, k20] at e; exact absurd e (by decide)
    · rw [z, kl] at e; exact absurd e (by decide)
    · rw [z, kr] at e; exact absurd e (by decide)
  refine ⟨⟨a1.fr k (by omega) S24 S0, by rw [hR 5 (by decide) (by decide)]; exact a2⟩, ⟨a3.fr k (by omega) S24 S0, by rw [hR 6 (by decide) (by decide)]; exact a4⟩, fun c hc => ?_, ⟨by rw [hR 9 (by decide) (by decide)]; exact b1, by rw [hR 10 (by decide) (by decide)]; exact b2, by rw [hR 11 (by decide) (by decide)]; exact b3⟩, ⟨by rw [hR 14 (by decide) (by decide)]; exact b4, ok_E b5 k.1, (ln _ b5.1).trans b6, fun q => by rw [(row (n0 + 21) (by omega) (by omega) (by omega)).2.2.2.1]; exact b7 q⟩, ⟨by rw [hi 12 (by decide)]; exact b8, by rw [hi 15 (by decide)]; exact b9⟩, ⟨by rw [hR 2 (by decide) (by decide)]; exact c1, ok_E c2 k.1, (ln _ c2.1).trans c3⟩, ⟨by rw [hR 3 (by decide) (by decide)]; exact c4, ok_E c5 k.1, (ln _ c5.1).trans c6⟩, ⟨by rw [(row (n0 + 22) (by omega) (by omega) (by omega)).2.2.1]; exact c7, ok_E c8 k.1, (ln _ c8.1).trans c9⟩, by rw [hr]; exact d1.1, fun c q c1 c2 => by rw [(row (n0 + c) (by omega) (by omega) (by omega)).2.2.2.1]; exact d1.2 c q c1 c2⟩
  exact ⟨ok_E (a5 c hc).1 k.1, (ln _ (a5 c hc).1.1).trans (a5 c hc).2⟩
/-- from what is told to the first part: the state -/
theorem CQ_init {Zt : Nat → Nat → Int32} (F : Fix M) (hC : CT n0 τ M lc rc) (hS : SumP M (n0 + 22) (n0 + 23) []) (hA : ALp M (n0 + 7) (mBig + 5) 5 []) (hI : ALi M (n0 + 15) (mBig + 5) []) (hr : mR M n0 6 = some (n0 + 7) ∧ mR M n0 8 = some (n0 + 22) ∧ mR M (n0 + 8) 7 = some (n0 + 15)) (hf : mI M n0 14 = 0 ∧ mI M n0 15 = 0) (h14 : mI M 14 3 = 0 ∧ mI M 14 4 = 0 ∧ mI M 14 5 = 0 ∧ mI M 14 6 = 0) (h4 : mI M 4 9 = 1 ∧ mI M 4 10 = 0) (hZ : ∀ c, 5 ≤ c → c ≤ 13 → mAI M c = Zt c) (hN : mN M ≤ 1000000) (hZ0 : Zt 5 0 = 0) : CQ n0 τ M M (cl0 Zt τ) (fun _ => 0) [] [] := by
  obtain ⟨l1, l2, l3, l4, l5, l6, l7, l8⟩ := hC.lim
  refine ⟨lc, rc, n0 + 23, mBig + 5, mBig + 5, hC.1, ⟨hS, Or.inl rfl, by omega, by omega⟩, ⟨h4.1, h4.2, ⟨Nat.le_refl _, show (1 : Nat) ≤ 640 by decide⟩, hZ, fun j z1 z2 => ?_, hZ0⟩, ⟨hA, hI, Or.inl rfl, Or.inl rfl, fun _ => rfl, ⟨fun j hj => absurd hj (Nat.not_lt_zero _), fun i j hi => absurd hi (Nat.not_lt_zero _)⟩⟩, ⟨⟨h14.1, Nat.zero_le _, fun j hj => absurd hj (Nat.not_lt_zero _)⟩, h14.2.1, h14.2.2.1, h14.2.2.2, hf.1, hf.2⟩, FrQ.rf, ⟨?_, ?_, hN⟩, hr, ⟨rfl, Nat.zero_le _, Nat.zero_le _⟩⟩
  · have z2 : j < 1 := z2
    omega
  · omega
  · omega
end
