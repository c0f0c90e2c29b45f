/-! governor and clear -/
section
variable {ow ow' : Nat → Nat} {ga : Nat → Td × PS × CoT} {gm gm' : Nat → Nat} {M M1 M2 M' : Mem} {ms gs : List Nat} {mb gb gb' t h k : Nat} {f : Nat → Int32} {a : Int32}
theorem IvC.gn (h1 : IvC (Ag M) M ow ga gm ms gs mb gb t f) (hb : mN M + 20 < mBig) {i g : Nat} (hi : i < ms.length) (hC1 : CvS ow' ga gm' M1 ms (gs ++ [g]) mb gb') (P : GnP ow ow' gm gm' ms gs (ms.getD i 0) g M M1) (K : GnF gs.length i M1 M2) : IvC (Ag M2) M2 ow' ga gm' ms (gs ++ [g]) mb gb' t f ∧ mS M2 + smS M2 ms ≤ mS M + 300 + smS M ms ∧ mN M2 + smN M2 ms ≤ mN M + 10 + smN M ms := by
  obtain ⟨-, -, -, f2, rm, sm, g5, kq⟩ := P
  obtain ⟨hC, hR, ⟨t1, ⟨t2, t3⟩, t4, t5⟩, h6, hq, hm, h5⟩ := h1
  have n132 := hC.1.1
  have lg : (gs ++ [g]).length = gs.length + 1 := by rw [List.length_append]; rfl
  have g8 : gs.length + 1 ≤ 8 := by have := hC1.2.2.1.2; omega
  have row : ∀ c, c < 132 → c ≠ 3 → sameRow M M1 c := fun c h2 h3 => f2.2 c (by omega) (by omega)
  have hR1 : RvS M1 ms.length gs.length := hR.cl hC1.1 (row 29 (by decide) (by decide)).1 (fun c _ h => (row c (by omega) (by omega)).2.2.2.1) (row 50 (by decide) (by decide)).2.2.2.2.1
  obtain ⟨k, k1, ⟨k2, k3⟩, k4, k5⟩ := K
  have cs : ∀ {c : Nat}, (gvA c ∨ c = 102 ∨ c = 110) → 95 ≤ c ∧ c < 122 := fun {c} z => by unfold gvA at z; omega
  have r2 : ∀ c, c < 95 ∨ 122 ≤ c → mAI M2 c = mAI M1 c := fun c h => k.2.2.2.2.1 c (fun z => by have := cs z; omega)
  have i2 : ∀ a, a ≠ 29 → mI M2 a = mI M1 a := fun a z => k.2.2.1 a z
  have i29 : ∀ f, f ≠ 91 → mI M2 29 f = mI M1 29 f := fun f z => k.2.2.2.1 f z
  have F2 : Fix M2 := k.fix hC1.1 (by unfold gvJ; omega)
  have hR2 : RvS M2 ms.length (gs.length + 1) := by
    obtain ⟨-, ⟨a1, a2, a3⟩, ⟨b1, b2⟩, c, d, e⟩ := id hR1.1
    refine hR1.kk F2 (i29 18 (by decide)) k1 g8 k5 (fun j hj => ?_) (fun j hj => ?_) (fun c _ h => r2 c (by omega)) (k.2.2.2.2.2 50 (by unfold gvJ; omega)) (fun c h _ => r2 c (by omega))
    · by_cases z : j = gs.length
      · rw [z]; exact ⟨i, hi, k2⟩
      · rw [(k4 j z).1]; exact c j (by omega)
    · by_cases z : j = gs.length
      · rw [z]; exact ⟨0, by decide, k3⟩
      · rw [(k4 j z).2]; exact d j (by omega)
  have bg1 : mN M1 < mBig := by omega
  obtain ⟨hC2, hK1, hK2⟩ := hC1.rr bg1 k (fun c z => by
    rcases z with z | z
    · have := cs z; omega
    · unfold gvJ at z; omega)
  obtain ⟨q1, q2⟩ := SaM.sm (ms := ms) (M := M1) (M' := M2) hK1
  obtain ⟨q3, q4⟩ := SaM.sm (ms := ms) (M := M) (M' := M1) sm
  have r : ∀ c, c < 95 → c ≠ 3 → mAI M2 c = mAI M c := fun c h h3 => by rw [r2 c (by omega), (row c (by omega) h3).2.2.2.1]
  have e0 : mI M2 0 = mI M 0 := by rw [i2 0 (by decide), (row 0 (by decide) (by decide)).1]
  have e29 : ∀ f, f ≠ 91 → mI M2 29 f = mI M 29 f := fun f z => by rw [i29 f z, (row 29 (by decide) (by decide)).1]
  refine ⟨⟨hC2, by rw [lg]; exact hR2, ⟨t1, ⟨by rw [e0]; exact t2, by rw [r 1 (by decide) (by decide)]; exact t3⟩, by rw [e29 1 (by decide)]; exact t4, by rw [r 30 (by decide) (by decide)]; exact t5⟩, by rw [e0, e29 6 (by decide)]; exact h6, fun j hj => ?_, fun j hj => (hm j hj).mv (fun c h0 h => r c h (by omega)) (by rw [k.2.2.2.2.2 50 (by unfold gvJ; omega), (row 50 (by decide) (by decide)).2.2.2.2.1]) (fun c h1 h2 => by rw [r2 c (by omega), (row c (by omega) (by omega)).2.2.2.1]), by rw [r 5 (by decide) (by decide)]; exact h5.1, by have z := h5.2; unfold Ag at z ⊢; rw [e0, e29 123 (by decide), e29 124 (by decide)]; exact z⟩, ?_, ?_⟩
  · have g132 := (hC1.2.2.2.2.2.2.2.2 j hj).1
    rw [lg] at hj
    by_cases z : j = gs.length
    · rw [z, getD_gr] at g132
      rw [z, getD_gr, k3, i2 g (by omega)]; exact g5
    · have hj' : j < gs.length := by omega
      rw [getD_gl hj'] at g132
      rw [getD_gl hj', (k4 j z).2, i2 _ (by omega), kq j hj', (row 110 (by decide) (by decide)).2.2.2.1]; exact hq j hj'
  · rw [q1, q3, k.1.2.1]; omega
  · rw [q2, q4, k.1.1]; omega
theorem A_governor (hk : k ≤ 512) (I : Inv k M) : Pr (h + 230) mdX10_governor mdX11_governor [.int a] M (Inv (k + 1)) := by
  obtain ⟨ow, ga, gm, ms, gs, mb, gb, t, f, h1, h2⟩ := id I
  have bg := h2.bg hk
  have m4 := h1.1.2.1.2
  have g8 := h1.1.2.2.1.2
  refine G_governor h1.1 bg (fun ne => ⟨_, rfl, R_governor h1.2.1.1 (fun _ => ⟨rfl, I.up⟩) (fun i hi e _ => absurd e (ne i hi)) (fun i M' hi e _ _ => absurd e (ne i hi))⟩) (fun i hi e e8 => ⟨_, rfl, R_governor h1.2.1.1 (fun ne => absurd e (ne i hi)) (fun _ _ _ _ => ⟨rfl, I.up⟩) (fun i' M' hi' e' lt _ => absurd e8 (by omega))⟩) (fun i g M1 ow' gm' gb' hi e lt hC1 P => ⟨_, rfl, ?_⟩)
  have row : ∀ c, c < 132 → c ≠ 3 → sameRow M M1 c := fun c q2 q3 => P.2.2.2.1.2 c (by have := h1.1.1.1; omega) (by omega)
  have hR1 : RvS M1 ms.length gs.length := h1.2.1.cl hC1.1 (row 29 (by decide) (by decide)).1 (fun c _ h => (row c (by omega) (by omega)).2.2.2.1) (row 50 (by decide) (by decide)).2.2.2.2.1
  refine R_governor hR1.1 (fun ne => absurd e (ne i hi)) (fun i' hi' e' e8 => absurd e8 (by omega)) (fun i' M2 hi' e' _ K => ⟨rfl, ?_⟩)
  have ii : i = i' := inj32 (by omega) (by omega) (e.symm.trans e')
  subst ii
  obtain ⟨I2, s2, s3⟩ := h1.gn bg hi hC1 P K
  exact ⟨ow', ga, gm', ms, gs ++ [g], mb, gb', t, f, I2, by unfold Rom at h2 ⊢; omega⟩
theorem A_clear (hk : k ≤ 512) (I : Inv k M) : Pr (h + 230) mdX10_clear mdX11_clear [] M (Inv (k + 1)) := by
  obtain ⟨ow, ga, gm, ms, gs, mb, gb, t, f, h1, h2⟩ := I
  have bg := h2.bg hk
  refine G_clear h1.1 (by omega) (fun M1 hC1 e1 f1 => ⟨_, rfl, ?_⟩)
  obtain ⟨hC, hR, ⟨t1, ⟨t2, t3⟩, t4, t5⟩, h6, hq, hm, h5⟩ := h1
  have n132 := hC.1.1
  have row : ∀ c, c < 132 → c ≠ 2 → c ≠ 3 → sameRow M M1 c := fun c q1 q2 q3 => f1.2 c (by omega) (by omega)
  have r29 := (row 29 (by decide) (by decide) (by decide)).1
  refine R_clear hC1.1 ⟨?_, ?_⟩
  · rw [r29, hR.1.2.1.1]
  · obtain ⟨M2, e2⟩ : ∃ M2, M2 = wI (wI M1 29 18 0) 29 91 0 := ⟨_, rfl⟩
    rw [← e2]
    have k2 : RfF (fun f => f = 18 ∨ f = 91) noP noP M1 M2 := (RfF.i (M' := wI M1 29 18 0) (f := 18) (Or.inl rfl) rfl).tr (RfF.i (f := 91) (Or.inr rfl) e2)
    obtain ⟨hC2, -⟩ := hC1.rr (by rw [e1.1]; omega) k2 (fun c z => by rcases z with z | z <;> exact z.elim)
    have a2 : mAI M2 = mAI M := by rw [e2]; exact e1.2.2.2.1
    have i0 : mI M2 0 = mI M 0 := by rw [k2.2.2.1 0 (by decide), (row 0 (by decide) (by decide) (by decide)).1]
    have i29 : ∀ f, f ≠ 18 → f ≠ 91 → mI M2 29 f = mI M 29 f := fun f q1 q2 => by rw [k2.2.2.2.1 f (by omega), r29]
    have hR2 : RvS M2 0 0 := ⟨⟨hC2.1, ⟨by rw [e2]; exact (mI_wI ..).trans (by rw [if_neg (by decide)]; exact mI_own _ _ _ _), Nat.zero_le _, fun j => by rw [a2]; exact hR.1.2.1.2.2 j⟩, ⟨by rw [e2]; exact mI_own _ _ _ _, Nat.zero_le _⟩, fun g hg => absurd hg (Nat.not_lt_zero _), fun g hg => absurd hg (Nat.not_lt_zero _), fun m hm => absurd hm (Nat.not_lt_zero _)⟩, hR.2.1.k (by rw [a2]), fun m hm => absurd hm (Nat.not_lt_zero _)⟩
    refine ⟨ow, ga, gm, [], [], mb, gb, t, f, ⟨hC2, hR2, ⟨t1, ⟨by rw [i0]; exact t2, by rw [a2]; exact t3⟩, by rw [i29 1 (by decide) (by decide)]; exact t4, by rw [a2]; exact t5⟩, by rw [i0, i29 6 (by decide) (by decide)]; exact h6, fun q hq => absurd hq (Nat.not_lt_zero _), fun j hj => absurd hj (Nat.not_lt_zero _), by rw [a2]; exact h5.1, by have z := h5.2; unfold Ag at z ⊢; rw [i0, i29 123 (by decide) (by decide), i29 124 (by decide) (by decide)]; exact z⟩, ?_⟩
    have s2 : mS M2 = mS M := by rw [k2.1.2.1, e1.2.1]
    have n2 : mN M2 = mN M := by rw [k2.1.1, e1.1]
    have z1 : smS M2 [] = 0 := rfl
    have z2 : smN M2 [] = 0 := rfl
    unfold Rom at h2 ⊢
    rw [s2, n2, z1, z2]
    omega
end
