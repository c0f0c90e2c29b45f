/-! the class has a module more -/
section
variable {ow : Nat → Nat} {ga : Nat → Td × PS} {gm : Nat → Nat} {M M0 M2 Mw M3 M4 : Mem} {ms gs : List Nat} {mb mb' gb : Nat}
variable {b : Nat → Int32} {n s m i root g0 lc rc g S0 : Nat} {τ : Td} {σ : PS} {γ : Gh} {ps : List Nat} {xs : Nat → Nat} {ro : List Int32} {Ro : List (Nat × Nat)} {Θ : TrT} {G : Nat → List Nat} {N : Nt}
/-- what compile changes of what was there -/
theorem cm_fr (F : Fix M) (hRd : CRd b n s τ M M0 M2 i σ ps) (k : NuF (fun c => c = mN M ∨ c = 0) M2 Mw) (wz : WvZ (mN M) lc rc Θ N Mw) (we : WvE (mN M) lc rc S0 ro Θ G N Ro g root ps xs Mw M3) (hF : ALF M3 M4 2 mb mb' ms.length) : fr (fun a => a = 0 ∨ (4 ≤ a ∧ a ≤ 28) ∨ a = 2 ∨ (a = mb ∧ mK M a = 24)) M M4 := by
  obtain ⟨⟨-, ⟨lc0, rc0, cc, pb, ib, hQ⟩, -⟩, -, -, fr0, -⟩ := hRd
  have hLP := hQ.2.2.2.1
  have hFQ := hQ.2.2.2.2.2.1
  obtain ⟨-, -, -, -, -, ⟨pt, -⟩⟩ := hLP
  obtain ⟨Ψ1, Ψ2, P, zp, M1, -, -, -, ⟨lc', rc', b1, b2, hl, -, -, -, -, -, hR, -⟩, -, -, nu, -⟩ := we
  have lrb := wz.1.2.1
  have n132 := F.1
  have f1 : fr (fun a => a = 0 ∨ (4 ≤ a ∧ a ≤ 28) ∨ a = 2 ∨ (a = mb ∧ mK M a = 24)) M M0 := fr0.more (fun a _ z => Or.inr (Or.inl (by omega)))
  have f2 := f1.tr hFQ.1 (fun a ha z => Or.inr (Or.inl (by omega)))
  have f3 := f2.tr k.fre (fun a ha z => z.elim (fun y => by omega) (fun y => Or.inl y))
  have f4 := f3.tr hR.1 (fun a ha z => by
    unfold wvS at z
    obtain ⟨l1, l2⟩ := lrb
    exact Or.inr (Or.inl (by omega)))
  have f5 := f4.tr nu.fre (fun a ha z => by
    obtain ⟨j, hj, e⟩ := z
    have := (pt j hj).2.1
    omega)
  exact f5.tr hF.1 (fun a ha z => z.elim (fun y => Or.inr (Or.inr (Or.inl y))) (fun y => Or.inr (Or.inr (Or.inr ⟨y.1, by rw [← (f5.1.2.2 a ha).1]; exact y.2⟩))))
theorem CvS.mo {gw n1 lc' rc' cc pb ib b1 b2 pz zn fn y0 q0 : Nat} {Z0 P : Nat → Nat → Int32} {zp : Int32} {Ψ1 Ψ2 : Wg} {R : RMo} {hl : List Int32} (hC : CvS ow ga gm M ms gs mb gb) (hb : mN M4 < mBig) (h4 : ms.length < 4) (f4 : fr (fun a => a = 0 ∨ (4 ≤ a ∧ a ≤ 28) ∨ a = 2 ∨ (a = mb ∧ mK M a = 24)) M M4) (hE3 : mE M M3) (A4 : ALp M4 2 mb' 3 (ms ++ [mN M])) (hF : ALF M3 M4 2 mb mb' ms.length) (F4 : Fix M4) (hp : MdW τ m σ root γ g0 (mN M) gw Z0 P zp Ψ1 Ψ2 ∧ TwT (woS τ m σ γ) R zn fn y0 root q0 ∧ MdR τ m σ R ∧ τ.1.length ≤ 16 ∧ σ.2.2.1.length ≤ 810 ∧ (ifS σ).length ≤ 80 ∧ τ.2.2.2.1.length ≤ 6 ∧ (trS σ).2.1 ≤ 24 ∧ BeO τ) (hM : MoM M4 (mN M) τ σ Ψ2 hl lc' rc' cc pb ib b1 b2 (mN M + 11) (mN M + 12) pz ps) (hz : MoZ (mN M) (mN M3) lc' rc' cc pb ib b1 b2 ps) (e17 : mR M4 (mN M) 17 = none) : ∃ ow' ga', (∀ a, a < mN M → ow' a = ow a ∧ ga' a = ga a) ∧ ga' (mN M) = (τ, σ) ∧ CvS ow' ga' gm M4 (ms ++ [mN M]) gs mb' gb ∧ KeP ms gs M M4 := by
  obtain ⟨F, ⟨A2, -⟩, ⟨A3, g8⟩, ⟨c1, c2⟩, d0, i1, i2, hms, hgs⟩ := id hC
  have n132 := F.1
  have n25 := hz.1
  have nM34 : mN M3 ≤ mN M4 := hF.1.1.1
  obtain ⟨ow', how'⟩ : ∃ ow' : Nat → Nat, ow' = fun a => if a < mN M then ow a else if a = mN M3 then 2 else mN M := ⟨_, rfl⟩
  have hag : ∀ a, a < mN M → ow' a = ow a := fun a ha => by rw [how']; exact if_pos ha
  have hn1 : ow' (mN M3) = 2 := by rw [how']; show (if mN M3 < mN M then _ else if mN M3 = mN M3 then 2 else mN M) = 2; rw [if_neg (by omega), if_pos rfl]
  have hn2 : ∀ a, mN M ≤ a → a < mN M3 → ow' a = mN M := fun a h1 h2 => by rw [how']; show (if a < mN M then _ else if a = mN M3 then 2 else mN M) = mN M; rw [if_neg (by omega), if_neg (by omega)]
  obtain ⟨ga', hga'⟩ : ∃ ga' : Nat → Td × PS, ga' = fun a => if a = mN M then (τ, σ) else ga a := ⟨_, rfl⟩
  have gaq : ga' (mN M) = (τ, σ) := by rw [hga']; exact if_pos rfl
  have gao : ∀ a, a < mN M → ga' a = ga a := fun a ha => by rw [hga']; exact if_neg (by omega)
  clear how' hga'
  have own : ∀ a, (a = 0 ∨ (4 ≤ a ∧ a ≤ 28) ∨ a = 2 ∨ (a = mb ∧ mK M a = 24)) → a < mN M → ow a < 132 ∧ mK M a ≠ 0 := fun a z ha => by
    rcases z with z | z | z | ⟨z, zk⟩
    · exact ⟨by rw [d0 a (by omega)]; decide, kd_fix F (by omega) (by omega)⟩
    · exact ⟨by rw [d0 a (by omega)]; decide, kd_fix F (by omega) (by omega)⟩
    · exact ⟨by rw [d0 a (by omega)]; decide, by rw [z, (ok2 F).2]; decide⟩
    · refine ⟨?_, by rw [zk]; decide⟩
      rcases c1 with y | y
      · omega
      · rw [z, y.2.2]; decide
  have fS : fr (fun a => (a = 0 ∨ (4 ≤ a ∧ a ≤ 28) ∨ a = 2 ∨ (a = mb ∧ mK M a = 24)) ∧ a < mN M) M M4 := ⟨f4.1, fun a ha hn => f4.2 a ha (fun z => hn ⟨z, ha⟩)⟩
  have nS' : ∀ {v : Nat}, 132 ≤ v → ∀ a, ((a = 0 ∨ (4 ≤ a ∧ a ≤ 28) ∨ a = 2 ∨ (a = mb ∧ mK M a = 24)) ∧ a < mN M) → ow' a ≠ v := fun {v} hv a z e => by
    have := (own a z.1 z.2).1
    rw [hag a z.2] at e
    omega
  have k0 : ∀ a, ((a = 0 ∨ (4 ≤ a ∧ a ≤ 28) ∨ a = 2 ∨ (a = mb ∧ mK M a = 24)) ∧ a < mN M) → mK M a ≠ 0 := fun a z => (own a z.1 z.2).2
  have mlt : ∀ q, q < ms.length → ms.getD q 0 < mN M := fun q hq => (hms q hq).2.on.1
  have mbx : mb' = mBig + 5 ∨ (132 ≤ mb' ∧ mb' < mN M4 ∧ ow' mb' = 2) := by
    have lt : mb' = mBig + 5 ∨ mb' < mN M4 := by
      rcases A4.2.2.2.2.2 with ⟨e, -⟩ | ⟨o, -⟩
      · exact Or.inl e
      · exact Or.inr o.1
    rcases lt with y | y
    · exact Or.inl y
    · rcases hF.2.2.2.2.1 with e | e
      · rw [e]
        rcases c1 with q | q
        · exact Or.inl q
        · exact Or.inr ⟨q.1, by have := f4.1.1; omega, by rw [hag _ q.2.1]; exact q.2.2⟩
      · rw [e]
        exact Or.inr ⟨by omega, by rw [← e]; exact y, hn1⟩
  have X4 : CmX ow' M4 (mN M) τ σ := ⟨m, root, γ, g0, gw, Z0, P, zp, Ψ1, Ψ2, R, zn, fn, y0, q0, hl, lc', rc', cc, pb, ib, b1, b2, mN M + 11, mN M + 12, pz, mN M3, ps, hp, hM, hz, ⟨nM34, hn2, hn2 _ (by omega) (by omega), hn2 _ (by omega) (by omega)⟩, Or.inl e17⟩
  refine ⟨ow', ga', fun a ha => ⟨hag a ha, gao a ha⟩, gaq, ⟨F4, ⟨A4, by rw [List.length_append]; exact h4⟩, ⟨alp_fr3 A3 f4 (fun z => ?_) (fun o z => ?_), g8⟩, ⟨mbx, c2.imp id (fun y => ⟨y.1, Nat.lt_of_lt_of_le y.2.1 f4.1.1, by rw [hag _ y.2.1]; exact y.2.2⟩)⟩, fun a ha => by rw [hag a (by omega)]; exact d0 a ha, fun p q hp hq e => ?_, i2, fun q hq => ?_, fun q hq => ?_⟩, hC.ke f4 (fun a z ha => (own a z ha).1)⟩
  · rcases z with z | z | z | ⟨z, -⟩
    · exact absurd z (by decide)
    · omega
    · exact absurd z (by decide)
    · rcases c1 with y | y
      · rw [← z] at y; exact absurd y (by decide)
      · omega
  · have := o.1
    rcases c2 with y2 | y2
    · omega
    · rcases z with z | z | z | ⟨z, -⟩
      · omega
      · omega
      · omega
      · rcases c1 with y | y
        · omega
        · rw [z, y.2.2] at y2; exact absurd y2.2.2 (by decide)
  · rw [List.length_append] at hp hq
    have hp : p < ms.length + 1 := hp
    have hq : q < ms.length + 1 := hq
    by_cases p1' : p < ms.length
    · rw [getD_gl p1'] at e
      by_cases q1 : q < ms.length
      · rw [getD_gl q1] at e; exact i1 p q p1' q1 e
      · rw [show q = ms.length by omega, getD_gr] at e
        have := mlt p p1'
        omega
    · rw [show p = ms.length by omega, getD_gr] at e
      by_cases q1 : q < ms.length
      · rw [getD_gl q1] at e
        have := mlt q q1
        omega
      · omega
  · rw [List.length_append] at hq
    have hq : q < ms.length + 1 := hq
    by_cases q1 : q < ms.length
    · rw [getD_gl q1, gao _ (mlt q q1)]
      exact ⟨(hms q q1).1, ((hms q q1).2.own hag).out (by have := f4.1.1; omega) fS (nS' (hms q q1).1) k0⟩
    · rw [show q = ms.length by omega, getD_gr, gaq]
      exact ⟨n132, X4⟩
  · obtain ⟨h1, j, h2, h3, hx⟩ := hgs q hq
    refine ⟨h1, j, by rw [List.length_append]; exact Nat.lt_succ_of_lt h2, by rw [getD_gl h2]; exact h3, ?_⟩
    rw [getD_gl h2, gao _ (mlt j h2)]
    exact (hx.own hag).out fS (nS' h1)
end
