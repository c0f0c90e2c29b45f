/-! a module that was read is one that can be woven -/
section
variable {b : Nat → Int32} {n s n0 l0 r0 i : Nat} {τ : Td} {M Ma M0 M2 M' : Mem} {σ : PS} {ps : List Nat} {Θ : TrT} {N : Nt} {S : Nat} {ro : List Int32}
theorem WvZ.nu (h : WvZ n0 l0 r0 Θ N M) (k : NuF (fun c => c = n0 ∨ c = 0) M M') : WvZ n0 l0 r0 Θ N M' := by
  obtain ⟨⟨⟨n1, n2⟩, n3, ⟨f5, f6, f9, f10, f11, f14⟩, n8, ⟨n9, n10⟩, ⟨n5, n6⟩, n7⟩, F, hT, hC, ⟨hA1, hA2⟩, ⟨g7, o3⟩, f15, f12, hem⟩ := h
  obtain ⟨⟨p1, p2, p3, p4, p5⟩, ⟨s1, s2, s3, s4, s5⟩⟩ := LcW.far (M0 := M) (Or.inl rfl) (Or.inl rfl) n3 n1 n2
  have E := k.e
  have fk := k.fre
  obtain ⟨⟨k1, k2, k3, k4⟩, ⟨k5, k6, k7, k8, k9⟩, k10⟩ := k
  have i8 : mI M' (n0 + 8) = mI M (n0 + 8) := k10 _ (by omega)
  have k0 : mK M 0 = 12 := (ok0 F).2
  have kn : mK M n0 = 3 := o3.2
  have kk : ∀ {c q : Nat}, (c = n0 ∨ c = 0) → mK M c = q → q = 3 ∨ q = 12 := by
    intro c q z e
    rcases z with z | z
    · rw [z, kn] at e; exact Or.inl e.symm
    · rw [z, k0] at e; exact Or.inr e.symm
  have al : ∀ {a : Nat}, a = n0 + 13 ∨ a = n0 + 14 → ALi M a (mBig + 5) [] → ALi M' a (mBig + 5) [] := by
    intro a ha hA
    refine hA.fr fk (fun z => by omega) (fun hb z => ?_) (fun d _ z w => ?_)
    · rcases kk z hb with q | q <;> exact absurd q (by decide)
    · rcases kk z w with q | q <;> exact absurd q (by decide)
  have nl : ∀ {c : Nat}, 132 ≤ c → c ≠ n0 → c < mN M → sameRow M M' c := fun z1 z2 z3 => fk.2 _ z3 (by omega)
  have l0n : l0 ≠ n0 := by unfold LrB at n3; omega
  have r0n : r0 ≠ n0 := by unfold LrB at n3; omega
  refine ⟨⟨⟨n1, by rw [k1]; exact n2⟩, n3, by rw [k6]; exact ⟨f5, f6, f9, f10, f11, f14⟩, fun c hc => ⟨ok_E (n8 c hc).1 E, by rw [k4]; exact (n8 c hc).2⟩, ⟨ok_E n9 E, by rw [k4]; exact n10⟩, ⟨ok_E n5 E, ok_E n6 E⟩, by rw [k1]; exact n7⟩, F.of_fr (S := fun _ => True) E (fun e _ => by rw [k6]) (by rw [k8]), ?_, hC.fr E (nl (by omega) (by omega) hC.1.1) (nl p1 l0n n5.1) (nl s1 r0n n6.1), ⟨al (Or.inl rfl) hA1, al (Or.inr rfl) hA2⟩, ⟨by rw [k6]; exact g7, ok_E o3 E⟩, by rw [i8]; exact f15, by rw [i8]; exact f12, fun q => by rw [k7]; exact hem q⟩
  obtain ⟨t1, t2, t3, t4, t5⟩ := hT
  have i4 : mI M' 4 = mI M 4 := k10 4 (by omega)
  exact ⟨by rw [i4]; exact t1, by rw [i4]; exact t2, t3, fun c c1 c2 => by rw [k7]; exact t4 c c1 c2, t5⟩
theorem FnB.nu (h : FnB n0 S ro M) (k : NuF (fun c => c = n0 ∨ c = 0) M M') (e9 : mI M' n0 9 = mI M n0 9) : FnB n0 S ro M' := by
  obtain ⟨o3, ⟨f9, S16⟩, ⟨f1, o2, l2, r2⟩, ⟨f13, o20, l20, r20⟩⟩ := h
  have E := k.e
  obtain ⟨⟨k1, k2, k3, k4⟩, ⟨k5, k6, k7, k8, k9⟩, k10⟩ := k
  exact ⟨ok_E o3 E, ⟨e9.trans f9, S16⟩, ⟨by rw [k6]; exact f1, ok_E o2 E, by rw [k4]; exact l2, fun j hj => by rw [k7]; exact r2 j hj⟩, ⟨by rw [k6]; exact f13, ok_E o20 E, by rw [k4]; exact l20, fun j hj => by rw [k7]; exact r20 j hj⟩⟩
/-- from what reading leaves -/
theorem wz_of (hC : CRd b n s τ Ma M0 M2 i σ ps) (hN : σ.2.1.2.2.1.length ≤ 40000) (hl : σ.2.1.2.2.2.2.2.1.length ≤ 40000) : ∃ lc rc pb ib, WvZ (mN Ma) lc rc (trS σ) σ.2.1.2.2.1 M2 ∧ FnB (mN Ma) τ.1.length τ.2.1 M2 ∧ LPt (mN Ma) M2 ps σ.2.1.1 (ifS σ) pb ib ∧ mR M2 (mN Ma) 6 = some (mN Ma + 7) := by
  obtain ⟨⟨hTI, ⟨lc, rc, cc, pb, ib, hQ⟩, -, -, -, -⟩, -, hM, hF, hb, -⟩ := hC
  obtain ⟨h1, -, ht, hL, -, h6, h7, h8, h9⟩ := id hQ
  obtain ⟨e1, b1, b2, b3, b4, b5, ⟨s1, s2, s3⟩, b6, ⟨u1, u2, u3⟩, b7, b8, b9⟩ := h1
  obtain ⟨⟨m1, m2⟩, ⟨m3, m4⟩, m5, ⟨m6, m7, m8⟩, ⟨m9, m10, m11, m12⟩, ⟨m13, m14⟩, -⟩ := hM
  obtain ⟨q1, q2, q3, q4, q5, q6, q7, q8⟩ := h6
  have row : ∀ c, c = mN Ma + 13 ∨ c = mN Ma + 14 ∨ c = mN Ma + 17 ∨ c = mN Ma + 18 ∨ c = mN Ma + 19 ∨ c = mN Ma + 21 → c < mN M0 → sameRow M0 M2 c := fun c hc hlt => q1.2 c hlt (by omega)
  have o21 := m10
  have al : ∀ {a : Nat}, a = mN Ma + 13 ∨ a = mN Ma + 14 → ALi M0 a (mBig + 5) [] → ALi M2 a (mBig + 5) [] := by
    intro a ha hA
    obtain ⟨l, ⟨a1, a2, a3, a4, a5, a6⟩, l2, l3⟩ := hA
    have el : l = [] := List.eq_nil_of_length_eq_zero l2
    subst el
    have rr := row a (by omega) a1.1
    exact ⟨[], ⟨ok_E a1 q1.1, by rw [rr.1]; exact a2, a3, fun v hv => absurd hv List.not_mem_nil, by rw [rr.2.2.1]; exact a5, Or.inl ⟨rfl, rfl⟩⟩, rfl, fun j hj => absurd hj (Nat.not_lt_zero _)⟩
  have r21 := row (mN Ma + 21) (by omega) m10.1
  have fR : ∀ {f v : Nat}, f ≠ 0 → f ≠ 1 → mR M0 (mN Ma + 8) f = some v → mR M2 (mN Ma + 8) f = some v := fun z1 z2 e => by rw [q5 _ z1 z2]; exact e
  refine ⟨lc, rc, pb, ib, ⟨⟨⟨b8, b9⟩, ⟨b2, b3⟩, ⟨fR (by decide) (by decide) m2, fR (by decide) (by decide) m4, fR (by decide) (by decide) m6, fR (by decide) (by decide) m7, fR (by decide) (by decide) m8, fR (by decide) (by decide) m9⟩, fun c hc => ⟨ok_E (m5 c hc).1 q1.1, ((q1.1.2.2 _ (m5 c hc).1.1).2).trans (m5 c hc).2⟩, ⟨ok_E m10 q1.1, ((q1.1.2.2 _ m10.1).2).trans m11⟩, ⟨b1.2.2.1, b1.2.2.2.2.1⟩, ?_⟩, hTI.1, ht, b1, ⟨al (Or.inl rfl) m1, al (Or.inr rfl) m3⟩, ⟨b4, e1.1⟩, by rw [q4 15 (by decide)]; exact m14, by rw [q4 12 (by decide)]; exact m13, fun k => by rw [r21.2.2.2.1]; exact m12 k⟩, ⟨e1.1, ⟨e1.2.2.1, e1.2.1.1⟩, ⟨e1.2.2.2.2.2.2.1, e1.2.2.2.2.2.2.2.1⟩, ?_⟩, hL, h8.1⟩
  · obtain ⟨c1, -, c3⟩ := h7
    obtain ⟨d1, d2, d3⟩ := h9
    omega
  · refine ⟨b5, s1, s2, fun j hj => ?_⟩
    have := (s3 j (by have := e1.2.1.1; omega)).1
    rw [this]
    unfold sgT
    rw [if_pos hj, show 4 + 2 * j = 2 * (2 + j) by omega]
end
