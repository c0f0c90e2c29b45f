/-! a module that was read is woven -/
section
variable {b : Nat → Int32} {n s m i root g0 h : Nat} {τ : Td} {Ma M0 M2 Mw : Mem} {σ : PS} {γ : Gh} {ps : List Nat} {Q : Option Value → Mem → Prop}
theorem C_wv (hC : CRd b n s τ Ma M0 M2 i σ ps) (hE : RdE τ m σ root γ g0) (hX : RdX τ σ root γ) (k : NuF (fun c => c = mN Ma ∨ c = 0) M2 Mw) (e16 : mI Mw (mN Ma) 16 = Int32.ofNat root) (e9 : mI Mw (mN Ma) 9 = mI M2 (mN Ma) 9) (K : ∀ lc rc g xs M', WvZ (mN Ma) lc rc (trS σ) σ.2.1.2.2.1 Mw → (∀ j, j < ps.length → ok Mw (ps.getD j 0) 5) → (∀ j, j < npS σ → σ.2.1.1 j 1 = Int32.ofNat (xs j) ∧ 1 ≤ xs j ∧ xs j < (trS σ).1) → FtN (chR (trS σ) γ.1) g root → WvE (mN Ma) lc rc τ.1.length τ.2.1 (trS σ) (chR (trS σ) γ.1) σ.2.1.2.2.1 (m6R γ.2.2) g root ps xs Mw M' → Q none M') : E (h + 10) mdX9_weave [.ref 21, .ref (mN Ma)] Mw Q := by
  obtain ⟨hTI, ⟨lc0, rc0, cc, pb0, ib0, hQ⟩, l1, l2, -, -⟩ := id hC.1
  have is := hTI.2.1
  have psn : ps.length = σ.1.1 0 ∧ σ.1.1 0 ≤ 40 := ⟨hQ.2.2.2.2.2.2.2.2.1, hQ.2.2.2.2.2.2.2.2.2.1⟩
  obtain ⟨lc, rc, pb, ib, wz, fb, lp, f6⟩ := wz_of hC (by omega) (by omega)
  obtain ⟨g, ft, nd, sh, ln, hf, p8, k5, ro, n2, sg⟩ := hE.wv hX
  obtain ⟨xs, hxs⟩ := hE.xs
  obtain ⟨a1, -, -, -, -, ⟨pt, pd⟩⟩ := lp
  have n1 := wz.1.1.1
  have F2 := wz.2.1
  have kn : mK M2 (mN Ma) = 3 := wz.2.2.2.2.2.1.2.2
  have k0 : mK M2 0 = 12 := (ok0 F2).2
  have t4 := hE.2.2.2.1.1
  refine W_all (h := h) (wz.nu k) ro ⟨n2, by omega⟩ hf ft nd sh ln (Nat.le_refl _) e16 hX.1 p8 k5 hX.2.1 (fb.nu k e9) sg (by rw [k.2.1.2.1]; exact f6) (pb := pb) (a1.fr k.fre (fun z => by omega) (fun hb z => ?_)) (xs := xs) (fun j hj => ?_) pd (by omega) (fun M' we => K lc rc g xs M' (wz.nu k) (fun j hj => ok_E (pt j hj).1 k.e) hxs ft we)
  · rcases z with z | z
    · rw [z, kn] at hb; exact absurd hb (by decide)
    · rw [z, k0] at hb; exact absurd hb (by decide)
  · obtain ⟨o5, lo, fl⟩ := pt j hj
    have q := hxs j (by show j < σ.1.1 0; omega)
    refine ⟨ok_E o5 k.e, ?_, by omega⟩
    rw [k.2.2 _ (by omega), fl 1 (by decide)]
    exact q.1
end
