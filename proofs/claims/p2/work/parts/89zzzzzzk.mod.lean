/-! the list of modules, while a module is read and woven -/
section
variable {b : Nat → Int32} {n s i mb n0 l0 r0 S g x : Nat} {τ : Td} {M M0 M2 Mw M3 : Mem} {σ : PS} {ps ms : List Nat} {ro : List Int32} {Θ : TrT} {G : Nat → List Nat} {N : Nt} {Ro : List (Nat × Nat)} {xs : Nat → Nat}
theorem CRd.mods (hC : CRd b n s τ M M0 M2 i σ ps) (hA : ALp M 2 mb 3 ms) (hmb : mb = mBig + 5 ∨ (132 ≤ mb ∧ mb < mN M)) (n1 : 132 ≤ mN M) (hN : mN M ≤ 900000) : ALp M2 2 mb 3 ms := by
  obtain ⟨⟨hTI, ⟨lc, rc, cc, pb, ib, hQ⟩, -, -, -, -⟩, -, -, hF, hb, -⟩ := hC
  have hq := hQ.2.2.2.2.2.1.1
  have big : mBig = 1099511627776 := rfl
  have A0 : ALp M0 2 mb 3 ms := alp_fr3 hA hF (fun z => by omega) (fun o z => by omega)
  exact alp_fr3 A0 hq (fun z => by omega) (fun o z => by have := o.1; omega)
theorem WvE.mods (hZ : WvZ n0 l0 r0 Θ N Mw) (hp : ∀ j, j < ps.length → ok Mw (ps.getD j 0) 5) (hE : WvE n0 l0 r0 S ro Θ G N Ro g x ps xs Mw M3) (hA : ALp Mw 2 mb 3 ms) : ALp M3 2 mb 3 ms ∧ mE Mw M3 := by
  obtain ⟨Ψ1, Ψ2, P, zp, M1, -, -, -, ⟨lc, rc, b1, b2, hl, hH⟩, -, -, nf, -⟩ := hE
  have fw := hH.2.2.2.2.2.1.1
  obtain ⟨⟨n1, n2⟩, n3, -⟩ := id hZ.1
  have A1 : ALp M1 2 mb 3 ms := alp_fr3 hA fw (fun z => by unfold wvS at z; unfold LrB at n3; omega) (fun o z => by
    have k := o.2
    rcases hZ.kd z with e | e | e | e <;> (rw [k] at e; exact absurd e (by decide)))
  have kp : ∀ j, j < ps.length → mK M1 (ps.getD j 0) = 5 := fun j hj => (ok_E (hp j hj) fw.1).2
  refine ⟨alp_fr3 A1 nf.fre ?_ (fun o => ?_), fw.1.tr nf.e⟩
  · rintro ⟨j, hj, e⟩
    have := kp j hj
    rw [← e, A1.1.2] at this
    exact absurd this (by decide)
  · rintro ⟨j, hj, e⟩
    have := kp j hj
    rw [← e, o.2] at this
    exact absurd this (by decide)
end
