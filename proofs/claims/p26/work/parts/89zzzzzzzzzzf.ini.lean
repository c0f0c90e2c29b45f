/-! module; the start, the bound -/
theorem A_module {M : Mem} {h k : Nat} {a b : Int32} (I : Inv k M) : Pr (h + 230) mdX10_module mdX11_module [.int a, .int b] M (Inv (k + 1)) := by
  obtain ⟨ow, ga, gm, ms, gs, mb, gb, t, f, h1, h2⟩ := id I
  have m4 := h1.1.2.1.2
  refine G_module h1.1 (fun ne => ⟨_, rfl, R_module h1.2.1.1 (fun _ => ⟨rfl, I.up⟩) (fun i S hi e _ _ => absurd e (ne i hi))⟩) (fun i hi e => ⟨_, rfl, R_module h1.2.1.1 (fun ne => absurd e (ne i hi)) (fun i' S hi' e' eS S16 => ⟨?_, I.up⟩)⟩)
  have ii : i = i' := inj32 (by omega) (by omega) (e.symm.trans e')
  subst ii
  obtain ⟨⟨a1, a2, a3, a4⟩, ⟨b1, b2, b3, b4, b5, b6⟩, -⟩ := (h1.2.2.2.2.2.1 i hi).1
  have eS : S = (ga (ms.getD i 0)).1.1.length := inj32 (by omega) (by omega) (eS.symm.trans a1)
  unfold mdV mcX
  rw [a1, a3, a4, b1, b3, b4, b5, eS, ← b6]
set_option maxRecDepth 8000 in
theorem inv_H : mI mH0 0 1 = 0 ∧ mI mH0 2 2 = 0 ∧ mI mH0 3 2 = 0 ∧ mI mH0 0 6 = 0 ∧ mR mH0 2 1 = some (mBig + 5) ∧ mR mH0 3 1 = some (mBig + 5) ∧ mAI mH0 5 0 = 0 ∧ mI mH0 0 7 = -1 ∧ mI mH0 0 8 = -1 := by decide +kernel
def ps00 : PS := σI (fun _ _ => 0) (fun _ => 0) (cl0 (fun _ _ => 0) td0)
theorem inv_0 {M : Mem} (h : Start M) : Inv 0 M := by
  obtain ⟨F, h1, h2, h3, h4, -, h6⟩ := h
  obtain ⟨a1, a2, a3, a4, a5, a6, a7, a8, a9⟩ := inv_H
  have s0 := h3 0 (by decide)
  have s2 := h3 2 (by decide)
  have s3 := h3 3 (by decide)
  have s5 := h3 5 (by decide)
  have i1 : mI M 29 1 = 0 := by rw [h4]; rfl
  have i6 : mI M 29 6 = 0 := by rw [h4]; rfl
  have i18 : mI M 29 18 = 0 := by rw [h4]; rfl
  have i91 : mI M 29 91 = 0 := by rw [h4]; rfl
  refine ⟨fun _ => 0, fun _ => (td0, ps00, fun _ _ _ _ _ => False), fun _ => 0, [], [], mBig + 5, mBig + 5, 0, fun _ => 0, ⟨⟨F, ⟨⟨ok2 F, by rw [s2.1]; exact a2, Nat.zero_le _, fun v hv => absurd hv List.not_mem_nil, by rw [s2.2.2.1]; exact a5, Or.inl ⟨rfl, rfl⟩⟩, Nat.zero_le _⟩, ⟨⟨ok3 F, by rw [s3.1]; exact a3, Nat.zero_le _, fun v hv => absurd hv List.not_mem_nil, by rw [s3.2.2.1]; exact a6, Or.inl ⟨rfl, rfl⟩⟩, Nat.zero_le _⟩, ⟨Or.inl rfl, Or.inl rfl⟩, fun _ _ => rfl, fun i j hi => absurd hi (Nat.not_lt_zero _), fun i j hi => absurd hi (Nat.not_lt_zero _), fun i hi => absurd hi (Nat.not_lt_zero _), fun i hi => absurd hi (Nat.not_lt_zero _)⟩, ⟨⟨F, ⟨i18, Nat.zero_le _, fun j => Or.inl (by rw [(h6 103 (by decide) (by decide)).1])⟩, ⟨i91, Nat.zero_le _⟩, fun g hg => absurd hg (Nat.not_lt_zero _), fun g hg => absurd hg (Nat.not_lt_zero _), fun m hm => absurd hm (Nat.not_lt_zero _)⟩, fun j => Or.inr ⟨0, by decide, by rw [(h6 129 (by decide) (by decide)).1]; rfl⟩, fun m hm => absurd hm (Nat.not_lt_zero _)⟩, t0_tp (by rw [s0.1]; exact a1) i1, by rw [s0.1, a4, i6], fun q hq => absurd hq (Nat.not_lt_zero _), fun j hj => absurd hj (Nat.not_lt_zero _), by rw [s5.2.2.2.1]; exact a7, by unfold Ag; rw [s0.1, a8, a9, h4]; exact ⟨rfl, rfl⟩⟩, ?_⟩
  have z1 : smS M [] = 0 := rfl
  have z2 : smN M [] = 0 := rfl
  unfold Rom
  rw [z1, z2]
  omega
/-- what the law's loop keeps -/
def InvL (k : Nat) (M : Mem) : Prop := k ≤ 512 ∧ Inv k M
theorem InvL.b {k : Nat} {M : Mem} (h : InvL k M) : Fix M ∧ mN M ≤ 600000 ∧ mS M ≤ 7302250 := by
  obtain ⟨hk, ow, ga, gm, ms, gs, mb, gb, t, f, h1, h2⟩ := h
  unfold Rom at h2
  exact ⟨h1.1.1, by omega, by omega⟩
theorem Pr.up {h : Nat} {dc dr : MD} {as : List Value} {M : Mem} {P P' : Mem → Prop} (k : Pr h dc dr as M P) (hP : ∀ M', P M' → P' M') : Pr h dc dr as M P' := k.imp (fun r M1 _ ⟨v, e, k2⟩ => ⟨v, e, k2.imp (fun r2 M2 _ z => ⟨z.1, hP _ z.2⟩)⟩)
theorem PrN.up {h : Nat} {dc dr : MD} {as : List Value} {M : Mem} {P P' : Mem → Prop} (k : PrN h dc dr as M P) (hP : ∀ M', P M' → P' M') : PrN h dc dr as M P' := k.imp (fun r M1 _ ⟨v, e, k2⟩ => ⟨v, e, k2.imp (fun r2 M2 _ ⟨w, e2, z⟩ => ⟨w, e2, hP _ z⟩)⟩)
