/-! the reference reads all parts -/
section
variable {b : Nat → Int32} {n s m : Nat} {τ : Td} {K : List KE} {σ : PS} {M M' : Mem} {i o h g : Nat} {Q : Option Value → Mem → Prop}
theorem R_pt {a1 a2 a3 a4 : Nat} {c1 c2 : Int32} (hB : By b) (hz : ∀ i, n ≤ i → b i = 0) (hS : Sto b n s) (hM : MxOk τ) (ih : RpS b n s m τ h Q g) (hR : RPs b n s m τ K σ M i K.length) (h0 : tK b n i ≠ 0) (hI : RpI m 2 K σ a2 a3) (hN : KNm b n m σ K) (hg : 6 * (s + 1 - i) ≤ g + 1) (hE : EndZ b n s m τ K 2 a2 h M Q (rp b n m τ (g + 1) 2 K i σ a1 a2 a3 a4 c1 c2)) : SLp h Q M := by
  have hi := hR.2.1.2.2
  refine R_ptx hB hz hS hM hR h0 hI hN hE (fun r ho ha hop e hE2 M1 R1 G1 => ?_)
  by_cases k17 : tK b n i = 17
  · rw [if_pos k17] at hE2
    obtain ⟨⟨t0, t1, t2⟩, prw, okw, ⟨n1, n2, n3⟩, ⟨hl, o3, o2⟩, x58, n69, kn⟩ := hh_facts hB hS hi h0 hI hN ho ha hop e
    have nm : r.2.2.2.2.2 = none := (hd_nm hB e).2.2 (Or.inl k17)
    rw [nm] at R1 kn
    have hc := hI.2.2.2.2.2
    refine ih 3 K r.1 (rwP (40 * m + npS σ) none r.2.1) r.2.2.2.2.1 (npS σ) (r.2.1.1.1 4) 1 0 0 M1 (by decide) t0 ⟨okw, hI.2.1, fun z => absurd z (by decide), fun _ => ⟨hl, by rw [n2, n3]; exact Nat.lt_succ_self _, by rw [n1]; exact Nat.lt_succ_self _⟩, fun z => absurd z (by decide), by rw [n2, n1]; omega⟩ kn (fun _ => ⟨by rw [x58, k17]; decide, n69, by decide, by decide⟩) R1 (by rw [w3]; omega) ?_
    cases e3 : rp b n m τ g 3 K r.1 (rwP (40 * m + npS σ) none r.2.1) r.2.2.2.2.1 (npS σ) (r.2.1.1.1 4) 1 0 0 with
    | error y => rw [e3] at hE2; exact fun M2 T2 G2 => hE2 M2 T2 (G1.tr G2)
    | ok q => rw [e3] at hE2; exact fun M2 R2 G2 _ => hE2 M2 (R2.cg rfl rfl) (G1.tr G2) (fun z => absurd z (by decide))
  · rw [if_neg k17] at hE2
    by_cases kc : tK b n i = 44 ∨ tK b n i = 58
    · refine R_ch hB hz hS ih hi h0 hI hN hg ho ha hop e kc ?_ M1 R1 G1
      cases e0 : rp b n m τ g 0 ((40 * m + npS σ, r.2.1.1.1 4, 1, r.2.2.2.2.2) :: K) r.1 (rwP (40 * m + npS σ) none r.2.1) 0 0 0 0 0 0 with
      | error y => rw [e0] at hE2; exact hE2
      | ok q =>
        rw [e0] at hE2
        have hE2 : EndZ b n s m τ K 2 a2 h M Q (if tK b n i = 44 ∨ tK b n i = 58 then _ else _) := hE2
        rw [if_pos kc] at hE2
        exact hE2
    · refine R_hh hB hz hS ih hi h0 hI hN hg ho ha hop e k17 (fun z => kc (Or.inl z)) (fun z => kc (Or.inr z)) ?_ M1 R1 G1
      cases e0 : rp b n m τ g 0 ((40 * m + npS σ, r.2.1.1.1 4, 1, r.2.2.2.2.2) :: K) r.1 (rwP (40 * m + npS σ) none r.2.1) 0 0 0 0 0 0 with
      | error y => rw [e0] at hE2; exact hE2
      | ok q =>
        rw [e0] at hE2
        have hE2 : EndZ b n s m τ K 2 a2 h M Q (if tK b n i = 44 ∨ tK b n i = 58 then _ else _) := hE2
        rw [if_neg kc] at hE2
        exact hE2
theorem R_rp (hB : By b) (hz : ∀ i, n ≤ i → b i = 0) (hS : Sto b n s) (hM : MxOk τ) : ∀ g, RpS b n s m τ h Q g := by
  intro g
  induction g with
  | zero => intro md K i σ a1 a2 a3 a4 c1 c2 M hmd h0 hI hN h3 hR hg hE; have := hR.2.1.2.2; omega
  | succ g ih =>
    intro md K i σ a1 a2 a3 a4 c1 c2 M hmd h0 hI hN h3 hR hg hE
    rcases (show md = 0 ∨ md = 1 ∨ md = 2 ∨ md = 3 by omega) with rfl | rfl | rfl | rfl
    · rw [w0] at hg; exact R_row hS ih hR h0 hI hN hg hE
    · rw [w1] at hg; exact R_more hB hz hS ih hR h0 hI hN hg hE
    · rw [w2] at hg; exact R_pt hB hz hS hM ih hR h0 hI hN hg hE
    · rw [w3] at hg; exact R_branch hB hz hS ih hR h0 hI hN (h3 rfl) hg hE
end
