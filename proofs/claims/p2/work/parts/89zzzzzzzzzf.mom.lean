/-! a module of the class as it lies in memory once it is compiled -/
def MoM (M : Mem) (n0 : Nat) (τ : Td) (σ : PS) (Ψ : Wg) (hl : List Int32) (lc rc cc pb ib b1 b2 ya na pz : Nat) (ps : List Nat) : Prop :=
  PlS M n0 (n0 + 22) cc (n0 + 24) (n0 + 3) (n0 + 4) (inL τ.2.1).length (coS σ) ∧ (mR M n0 6 = some (n0 + 7) ∧ ALp M (n0 + 7) pb 5 ps ∧ ps.length = npS σ ∧ npS σ ≤ 40) ∧ (∀ j, j < ps.length → (PtK M σ.2.2.1 (coS σ) (ps.getD j 0) ∧ (mI M (ps.getD j 0) 3 = 3 → ∃ f, f < (ifS σ).length ∧ mI M (ps.getD j 0) 4 = Int32.ofNat f) ∧ ∀ f, 9 ≤ f → f ≤ 12 → ∃ a, a < 2 * Ψ.1.length ∧ mI M (ps.getD j 0) f = Int32.ofNat a) ∧ mI M (ps.getD j 0) 0 = σ.2.1.1 j 0) ∧ (∀ j, j < (inL τ.2.1).length → ∃ s, s < τ.1.length ∧ τ.2.1.getD s 0 = 30 ∧ mAI M (n0 + 4) j = Int32.ofNat s) ∧ mR M n0 7 = some (n0 + 8) ∧ CsW M (n0 + 8) lc rc ya na (n0 + 13) (n0 + 14) b1 b2 (n0 + 16) (n0 + 20) (n0 + 15) ib τ σ Ψ hl ∧ CeS M (n0 + 8) (n0 + 17) (n0 + 18) (n0 + 19) pz Ψ.1.length ∧ (∀ r, mrR cc (n0 + 4) lc rc (n0 + 20) (n0 + 17) (n0 + 18) (n0 + 19) r → r ≠ ya ∧ r ≠ na) ∧ (mI M n0 9 = Int32.ofNat τ.1.length ∧ mI M n0 11 = omk τ.2.1 ∧ mI M n0 12 = Int32.ofNat τ.2.2.2.1.length ∧ mI M n0 13 = Int32.ofNat (trS σ).2.1 ∧ mI M n0 14 = Int32.ofNat (ifS σ).length ∧ mI M n0 15 = Int32.ofNat (σ.1.1 3) ∧ mR M n0 5 = some (n0 + 6) ∧ ok M (n0 + 6) 21 ∧ mL M (n0 + 6) = 6 ∧ (∀ k, k < τ.2.2.2.1.length → mAI M (n0 + 6) k = (τ.2.2.2.2.getD k 0).toInt32) ∧ n0 + 6 ≠ ya ∧ n0 + 6 ≠ na)
/-- a cell of those from n0 to n1, or none of the memory's -/
def inZ (n0 n1 a : Nat) : Prop := (n0 ≤ a ∧ a < n1) ∨ mBig ≤ a
def MoZ (n0 n1 lc rc cc pb ib b1 b2 : Nat) (ps : List Nat) : Prop := n0 + 25 ≤ n1 ∧ inZ n0 n1 lc ∧ inZ n0 n1 rc ∧ inZ n0 n1 cc ∧ inZ n0 n1 pb ∧ inZ n0 n1 ib ∧ inZ n0 n1 b1 ∧ inZ n0 n1 b2 ∧ ∀ j, j < ps.length → n0 ≤ ps.getD j 0 ∧ ps.getD j 0 < n1
section
variable {M M' : Mem} {S : Nat → Prop} {a b : Nat}
theorem ali_fr4 {xs : List Int32} (hA : ALi M a b xs) (k : fr S M M') (na : ¬ S a) (nb : ok M b 24 → ¬ S b) (h0 : ∀ c, c < mN M → S c → mK M c ≠ 0) : ALi M' a b xs := by
  obtain ⟨l, h1, h2, h3⟩ := hA
  refine ⟨l, alp_fr3 h1 k na nb, h2, fun i hi => ?_⟩
  rcases h3 i hi with ⟨o, e⟩ | q
  · exact Or.inl ⟨ok_E o k.1, by rw [(k.2 _ o.1 (fun z => h0 _ o.1 z o.2)).1]; exact e⟩
  · exact Or.inr q
theorem zp_ok {Θ : TrT} : ∀ (L : List Nat) (v : Int32) (p : Nat), v = Int32.ofNat p → p ≤ 24 → (∀ z ∈ L, Θ.2.2 5 z = 1 → ∃ cd, Θ.2.2 11 z = Int32.ofNat cd ∧ cd < 24) → ∃ p', zpV Θ L v = Int32.ofNat p' ∧ p' ≤ 24
  | [], v, p, e, hp, _ => ⟨p, e, hp⟩
  | z :: L, v, p, e, hp, h => by
    show ∃ p', zpV Θ L (if Θ.2.2 5 z = 1 then mx12 v (Θ.2.2 11 z).toNatClampNeg else v) = Int32.ofNat p' ∧ p' ≤ 24
    by_cases k : Θ.2.2 5 z = 1
    · rw [if_pos k]
      obtain ⟨cd, c1, c2⟩ := h z List.mem_cons_self k
      have q : (Θ.2.2 11 z).toNatClampNeg = cd := by rw [c1]; exact lt32 (by omega)
      unfold mx12
      rw [q, succ32]
      by_cases y : v < Int32.ofNat (cd + 1)
      · rw [if_pos y]; exact zp_ok L _ (cd + 1) rfl (by omega) (fun z hz => h z (List.mem_cons_of_mem _ hz))
      · rw [if_neg y]; exact zp_ok L v p e hp (fun z hz => h z (List.mem_cons_of_mem _ hz))
    · rw [if_neg k]; exact zp_ok L v p e hp (fun z hz => h z (List.mem_cons_of_mem _ hz))
theorem ps_ok {Θ : TrT} {Ψ : Wg} {P : Nat → Nat → Int32} {c j : Nat} : ∀ (L : List Nat) (v : Int32), okI Ψ v → (∀ z ∈ L, okI Ψ (P c z)) → okI Ψ (psV Θ P c j L v)
  | [], v, e, _ => e
  | z :: L, v, e, h => by
    show okI Ψ (psV Θ P c j L (if Θ.2.2 5 z = 1 ∧ Θ.2.2 11 z = Int32.ofNat j then P c z else v))
    by_cases k : Θ.2.2 5 z = 1 ∧ Θ.2.2 11 z = Int32.ofNat j
    · rw [if_pos k]; exact ps_ok L _ (h z List.mem_cons_self) (fun z hz => h z (List.mem_cons_of_mem _ hz))
    · rw [if_neg k]; exact ps_ok L _ e (fun z hz => h z (List.mem_cons_of_mem _ hz))
theorem inL_at {ro : List Int32} {j : Nat} (hj : j < (inL ro).length) : (inL ro).getD j 0 < ro.length ∧ ro.getD ((inL ro).getD j 0) 0 = 30 := by
  have h : (inL ro).getD j 0 ∈ inL ro := by rw [List.getD_eq_getElem?_getD, List.getElem?_eq_getElem hj]; exact List.getElem_mem hj
  unfold inL at h
  rw [List.mem_filter] at h
  exact ⟨List.mem_range.mp h.1, of_decide_eq_true h.2⟩
end
section
variable {b : Nat → Int32} {n s m i root g0 lc rc g mb mb' q : Nat} {τ : Td} {σ : PS} {γ : Gh} {M M0 M2 Mw M3 M4 : Mem} {ps : List Nat} {xs : Nat → Nat}
set_option maxHeartbeats 1000000 in
theorem mo_mk (hC : CRd b n s τ M M0 M2 i σ ps) (hE : RdE τ m σ root γ g0) (hX : RdX τ σ root γ) (hK : TkI τ m σ) (k : NuF (fun c => c = mN M ∨ c = 0) M2 Mw) (kf : (∀ f, f ≠ 13 → f ≠ 16 → mI Mw (mN M) f = mI M2 (mN M) f) ∧ mI Mw (mN M) 13 = Int32.ofNat (trS σ).2.1) (wz : WvZ (mN M) lc rc (trS σ) σ.2.1.2.2.1 Mw) (we : WvE (mN M) lc rc τ.1.length τ.2.1 (trS σ) (chR (trS σ) γ.1) σ.2.1.2.2.1 (m6R γ.2.2) g root ps xs Mw M3) (ft : FtN (chR (trS σ) γ.1) g root) (hin : ∀ j, j < npS σ → xs j ∈ noL (chR (trS σ) γ.1) g root) (hF : ALF M3 M4 2 mb mb' q) (hmb : mb = mBig + 5 ∨ mb < mN M) : ∃ P zp Ψ1 Ψ2 hl lc' rc' cc pb ib b1 b2 pz, MdW τ m σ root γ g0 (mN M) g (mAI Mw) P zp Ψ1 Ψ2 ∧ MoM M4 (mN M) τ σ Ψ2 hl lc' rc' cc pb ib b1 b2 (mN M + 11) (mN M + 12) pz ps ∧ MoZ (mN M) (mN M3) lc' rc' cc pb ib b1 b2 ps ∧ mR M4 (mN M) 17 = none ∧ (mL M4 (mN M + 11) = 0 ∧ mL M4 (mN M + 12) = 0) ∧ mI M3 (mN M + 8) 4 = Int32.ofNat Ψ2.1.length := by
  obtain ⟨⟨hTI, ⟨lc0, rc0, cc, pb, ib, hQ⟩, c1, c2, c3, c4⟩, ⟨lcT, rcT, hCT⟩, hMd, -, -, -⟩ := hC
  obtain ⟨hCB, ⟨hSm, hcc, hcl, hcr⟩, -, hLP, hRd, hFQ, -, ⟨r6, r8, r87⟩, ⟨hps, hp40, hx80⟩⟩ := hQ
  obtain ⟨hEn, hCi, hl1, hr1, c7, c13, ⟨s1, s2, s3⟩, c8, ⟨u1, u2, u3⟩, -, n132, hN25⟩ := hCB
  obtain ⟨e3, ⟨eS, eR, eM, eV⟩, e9, e12, -, -, -, -, er2, ⟨mx1, mx2, -⟩, -⟩ := hEn
  obtain ⟨-, -, -, ⟨m9, m10, m11⟩, -, ⟨-, -⟩, ⟨y1, y2, y3⟩, ⟨z1, z2, z3⟩, ⟨st1, st2, st3⟩, m17, m0⟩ := hMd
  obtain ⟨q1, q2, q3, q4, q5, q6, q7, -⟩ := hFQ
  obtain ⟨-, ⟨ct1, ct2, ct3, ct4, ct5, ct6⟩, ct7, ⟨cb1, cb2, cb3, -, cb5⟩, -⟩ := hCT
  obtain ⟨Ψ1, Ψ2, P, zp, M1, wk, fi, ro1, ⟨lc', rc', b1, b2, hl, -, C1, ⟨w1, w2⟩, ⟨A1, A2, al⟩, ⟨bb1, bb2, -⟩, hR, ro2, hq, rm⟩, rw, i16, nu, hp⟩ := we
  obtain ⟨hA, hI, hpb, hib, -, ⟨pt, pd⟩⟩ := hLP
  obtain ⟨⟨-, nW⟩, lrb, ⟨wr5, wr6, wr9, wr10, wr11, wr14⟩, w17, -, ⟨ol0, or0⟩, nb⟩ := wz.1
  have hCw : CirP Mw (mN M + 8) lc rc σ.2.1.2.2.1 := wz.2.2.2.1
  have i80 := hTI.2.1
  have nM : mN Mw = mN M2 := k.1.1
  have bg : mN M2 < mBig := by rw [← nM]; exact Nat.lt_of_le_of_lt nb (by decide)
  have el : lc0 = lc := by
    have e2 := hCw.2.1
    rw [k.2.1.2.1] at e2
    exact Option.some.inj (hCi.2.1.symm.trans e2)
  have er : rc0 = rc := by
    have e2 := hCw.2.2.2.1
    rw [k.2.1.2.1] at e2
    exact Option.some.inj (hCi.2.2.2.1.symm.trans e2)
  subst el; subst er
  have olc : ok M2 lc0 21 := hCi.2.2.1
  have orc : ok M2 rc0 21 := hCi.2.2.2.2.1
  obtain ⟨pw1, pw2⟩ := lrb
  -- the frames
  have f1 : fr (fun a => a = mN M ∨ a = 0 ∨ wvS (mN M) lc0 rc0 a) M2 M1 := (k.fre.more (fun a _ z => z.elim Or.inl (fun y => Or.inr (Or.inl y)))).tr hR.1 (fun a _ z => Or.inr (Or.inr z))
  have g4 : fr (fun a => (∃ j, j < ps.length ∧ a = ps.getD j 0) ∨ a = 2 ∨ (a = mb ∧ mK M1 a = 24)) M1 M4 := (nu.fre.more (fun a _ z => Or.inl z)).tr hF.1 (fun a ha z => z.elim (fun y => Or.inr (Or.inl y)) (fun y => Or.inr (Or.inr ⟨y.1, by rw [← (nu.e.2.2 a ha).1]; exact y.2⟩)))
  have pl : ∀ j, j < ps.length → mN M + 25 ≤ ps.getD j 0 ∧ ps.getD j 0 < mN M2 ∧ mK M2 (ps.getD j 0) = 5 := fun j hj => ⟨(pt j hj).2.1, (pt j hj).1.1, (pt j hj).1.2⟩
  have o1 : ∀ {a t : Nat}, ok M2 a t → ok M1 a t := fun o => ok_E o f1.1
  have o4 : ∀ {a t : Nat}, ok M1 a t → ok M4 a t := fun o => ok_E o g4.1
  have o02 : ∀ {a t : Nat}, ok M0 a t → ok M2 a t := fun o => ok_E o q1.1
  have row1 : ∀ {a t : Nat}, ok M2 a t → mN M < a → a ≠ mN M + 8 → a ≠ lc0 → a ≠ rc0 → a ≠ mN M + 13 → a ≠ mN M + 14 → (a < mN M + 17 ∨ mN M + 19 < a) → a ≠ mN M + 21 → sameRow M2 M1 a := fun {a t} o h1 h2 h3 h4 h5 h6 h7 h8 => f1.2 a o.1 (by unfold wvS; omega)
  have row4 : ∀ {a t : Nat}, ok M1 a t → t ≠ 5 → t ≠ 24 → a ≠ 2 → sameRow M1 M4 a := fun {a t} o h1 h2 h3 => g4.2 a o.1 (fun z => by
    rcases z with ⟨j, hj, e⟩ | z | z
    · have := (o1 (pt j hj).1).2
      rw [← e, o.2] at this
      exact h1 this
    · exact h3 z
    · exact h2 (o.2.symm.trans z.2))
  have rowx : sameRow M1 M4 (mN M + 8) := row4 C1.1 (by decide) (by decide) (by omega)
  have rowc : sameRow M1 M4 (mN M) := row4 (o1 e3) (by decide) (by decide) (by omega)
  have len1 : ∀ {a t : Nat}, ok M2 a t → mL M1 a = mL M2 a := fun {a t} o => (f1.1.2.2 a o.1).2
  have len4 : ∀ {a t : Nat}, ok M1 a t → mL M4 a = mL M1 a := fun {a t} o => (g4.1.2.2 a o.1).2
  have len0 : ∀ {a t : Nat}, ok M0 a t → mL M2 a = mL M0 a := fun {a t} o => (q1.1.2.2 a o.1).2
  -- rows of M2 that stay to the end
  have row24 : ∀ {a t : Nat}, ok M2 a t → mN M < a → a ≠ mN M + 8 → a ≠ lc0 → a ≠ rc0 → a ≠ mN M + 13 → a ≠ mN M + 14 → (a < mN M + 17 ∨ mN M + 19 < a) → a ≠ mN M + 21 → t ≠ 5 → t ≠ 24 → sameRow M2 M4 a := fun {a t} o h1 h2 h3 h4 h5 h6 h7 h8 h9 h10 => (row1 o h1 h2 h3 h4 h5 h6 h7 h8).tr (row4 (o1 o) h9 h10 (by omega))
  -- the module's own fields
  have nI1 : ∀ f, mI M1 (mN M) f = mI Mw (mN M) f := fun f => by rw [(hR.1.2 (mN M) (by rw [nM]; exact e3.1) (by unfold wvS; omega)).1]
  have nI : ∀ f, f ≠ 13 → f ≠ 16 → mI M4 (mN M) f = mI M2 (mN M) f := fun f h1 h2 => by rw [rowc.1, nI1, kf.1 f h1 h2]
  have nR : mR M4 (mN M) = mR M2 (mN M) := by rw [rowc.2.2.1, (hR.1.2 (mN M) (by rw [nM]; exact e3.1) (by unfold wvS; omega)).2.2.1, k.2.1.2.1]
  -- the circuit's own fields
  have xI : ∀ f, f ≠ 4 → f ≠ 12 → f ≠ 16 → mI M4 (mN M + 8) f = mI M0 (mN M + 8) f := fun f h1 h2 h3 => by rw [rowx.1, hR.2.1 f h1 h2 h3, k.2.2 _ (by omega), q4 f h1]
  have xR : ∀ f, f ≠ 0 → f ≠ 1 → mR M4 (mN M + 8) f = mR M2 (mN M + 8) f := fun f h1 h2 => by rw [rowx.2.2.1, hR.2.2 f h1 h2, k.2.1.2.1]
  have xR0 : ∀ f, f ≠ 0 → f ≠ 1 → mR M4 (mN M + 8) f = mR M0 (mN M + 8) f := fun f h1 h2 => by rw [xR f h1 h2, q5 f h1 h2]
  have row02 : ∀ {a t : Nat}, ok M0 a t → mN M < a → a < mN M + 25 → a ≠ mN M + 7 → a ≠ mN M + 8 → a ≠ mN M + 9 → a ≠ mN M + 10 → a ≠ mN M + 15 → a ≠ mN M + 16 → a ≠ mN M + 22 → a ≠ mN M + 23 → sameRow M0 M2 a := fun {a t} o h1 h2 h3 h4 h5 h6 h7 h8 h9 h10 => q1.2 a o.1 (by omega)
  have lens : Ψ2.1.length = Ψ1.1.length := fi.2.1
  obtain ⟨g', ft', nd', sh', ln', -, -, k5, -, n2, -⟩ := hE.wv hX
  have eL : noL (chR (trS σ) γ.1) g root = noL (chR (trS σ) γ.1) g' root := noL_2 ft ft'
  have lt : Ψ2.1.length < 100000 := by
    have a1 := wk.2.1.1
    rw [eL] at a1
    have a1 : Ψ1.1.length + 62 * _ + 113 ≤ σ.2.1.2.2.1.length + 115 * _ := a1
    omega
  have ge2 : 2 ≤ Ψ2.1.length := by
    have a1 : σ.2.1.2.2.1.length ≤ Ψ1.1.length := wk.1.1.1
    omega
  have hW : MdW τ m σ root γ g0 (mN M) g (mAI Mw) P zp Ψ1 Ψ2 := ⟨hE, hX, ft, wz.2.2.2.2.2.2.2.2, wk, fi, ro1, ro2, lt, k5, n132⟩
  have okN : ∀ z, z ∈ noL (chR (trS σ) γ.1) g root → OkR Ψ1 P z := fun z hz => (hW.nd hz).1.1
  have rt : root ∈ noL (chR (trS σ) γ.1) g root := noL_hd ft
  have lit : ∀ {v : Int32}, okI Ψ1 v → ∃ a, a < 2 * Ψ2.1.length ∧ v = Int32.ofNat a := fun {v} h => by
    obtain ⟨a, a1, a2⟩ := h
    exact ⟨a, by rw [lens]; exact a2, a1⟩
  -- PlS
  have occ : ok M2 cc 21 := hSm.2.2.1
  have osm : ok M2 (mN M + 22) 8 := hSm.1
  have rsm := row24 osm (by omega) (by omega) (by omega) (by omega) (by omega) (by omega) (by omega) (by omega) (by decide) (by decide)
  have rcc := row24 occ (by omega) (by omega) hcl hcr (by omega) (by omega) (by omega) (by omega) (by decide) (by decide)
  have E24 : mE M2 M4 := f1.1.tr g4.1
  have r4i := (row02 ct4 (by omega) (by omega) (by omega) (by omega) (by omega) (by omega) (by omega) (by omega) (by omega) (by omega)).tr (row24 (o02 ct4) (by omega) (by omega) (by omega) (by omega) (by omega) (by omega) (by omega) (by omega) (by decide) (by decide))
  have hP : PlS M4 (mN M) (mN M + 22) cc (mN M + 24) (mN M + 3) (mN M + 4) (inL τ.2.1).length (coS σ) := by
    refine ⟨⟨o4 (o1 e3), by rw [nR]; exact r8, by rw [nR]; exact er2, by rw [nR, q3]; exact ct3, by rw [nI 10 (by decide) (by decide), q2 10 (by decide) (by decide)]; exact ct1⟩, ⟨hSm.fr E24 rsm rcc, ⟨by rw [rsm.2.2.1, q7 2 (by decide)]; exact st1, o4 (o1 (o02 st2)), by rw [len4 (o1 (o02 st2)), len1 (o02 st2), len0 st2]; exact st3⟩, ?_⟩, ⟨o4 (o1 mx1), by rw [len4 (o1 mx1), len1 mx1]; exact mx2⟩, ⟨o4 (o1 (o02 ct4)), by rw [len4 (o1 (o02 ct4)), len1 (o02 ct4), len0 ct4]; exact ct5, ct2, fun j hj => ?_⟩⟩
    · have : (coS σ).length ≤ 3 * i := c2
      omega
    · refine ⟨(inL τ.2.1).getD j 0, ?_, by rw [r4i.2.2.2.1]; exact ct6 j hj⟩
      have := (inL_at hj).1
      omega
  -- CsW
  have rlc : sameRow M1 M4 lc' := row4 C1.2.2.1 (by decide) (by decide) (by rcases w1 with z | z <;> omega)
  have rrc : sameRow M1 M4 rc' := row4 C1.2.2.2.2.1 (by decide) (by decide) (by rcases w2 with z | z <;> omega)
  have C4 : CirP M4 (mN M + 8) lc' rc' Ψ2.1 := C1.fr g4.1 rowx rlc rrc
  have n5a : ∀ {a : Nat}, mN M < a → a < mN M + 25 → ¬ ((∃ j, j < ps.length ∧ a = ps.getD j 0) ∨ a = 2 ∨ (a = mb ∧ mK M1 a = 24)) := fun {a} h1 h2 z => by
    rcases z with ⟨j, hj, e⟩ | z | ⟨z, -⟩
    · have := (pl j hj).1; omega
    · omega
    · rcases hmb with y | y
      · rw [z, y] at h2; have := n132; have h3 : mN M + 25 ≤ mN M2 := hN25; omega
      · omega
  have n5b : ∀ {a : Nat}, (a = mBig + 5 ∨ mN Mw ≤ a) → ok M1 a 24 → ¬ ((∃ j, j < ps.length ∧ a = ps.getD j 0) ∨ a = 2 ∨ (a = mb ∧ mK M1 a = 24)) := fun {a} h1 h2 z => by
    have b1 : mN M1 < mBig := by
      have := rm.1.1
      have h3 : σ.2.1.2.2.1.length ≤ Ψ2.1.length := by have : σ.2.1.2.2.1.length ≤ Ψ1.1.length := wk.1.1.1; omega
      have h4 : mN M1 + 6 * σ.2.1.2.2.1.length ≤ mN Mw + 6 * Ψ2.1.length := this
      have : mBig = 1099511627776 := rfl
      omega
    have a1 := h2.1
    rcases z with ⟨j, hj, e⟩ | z | ⟨z, -⟩
    · have := (pl j hj).2.1; omega
    · omega
    · rcases hmb with y | y <;> omega
  have h50 : ∀ c, c < mN M1 → ((∃ j, j < ps.length ∧ c = ps.getD j 0) ∨ c = 2 ∨ (c = mb ∧ mK M1 c = 24)) → mK M1 c ≠ 0 := fun c hc z => by
    rcases z with ⟨j, hj, e⟩ | z | ⟨-, z⟩
    · rw [e, (o1 (pt j hj).1).2]; decide
    · rw [z, (ok_E (ok2 hTI.1) f1.1).2]; decide
    · rw [z]; decide
  have A14 : ALi M4 (mN M + 13) b1 Ψ2.2.2 := ali_fr4 A1 g4 (n5a (by omega) (by omega)) (n5b bb1) h50
  have A24 : ALi M4 (mN M + 14) b2 hl := ali_fr4 A2 g4 (n5a (by omega) (by omega)) (n5b bb2) h50
  -- lists of M2
  have s1n : ∀ {a : Nat}, mN M < a → a ≠ mN M + 8 → a ≠ lc0 → a ≠ rc0 → a ≠ mN M + 13 → a ≠ mN M + 14 → (a < mN M + 17 ∨ mN M + 19 < a) → a ≠ mN M + 21 → ¬ (a = mN M ∨ a = 0 ∨ wvS (mN M) lc0 rc0 a) := fun {a} h1 h2 h3 h4 h5 h6 h7 h8 => by unfold wvS; omega
  have k1n : ∀ {a : Nat}, ok M2 a 24 → (a = mBig + 5 ∨ mN M + 25 ≤ a) → ¬ (a = mN M ∨ a = 0 ∨ wvS (mN M) lc0 rc0 a) := fun {a} h1 h2 => by
    have a1 := h1.1
    have h3 : a ≠ lc0 := fun e => by rw [e] at h1; exact absurd h1.2 (by rw [olc.2]; decide)
    have h4 : a ≠ rc0 := fun e => by rw [e] at h1; exact absurd h1.2 (by rw [orc.2]; decide)
    exact s1n (by omega) (by omega) h3 h4 (by omega) (by omega) (by omega) (by omega)
  have k2n : ∀ {a : Nat}, ok M1 a 24 → a < mN M2 → mN M + 25 ≤ a → ¬ ((∃ j, j < ps.length ∧ a = ps.getD j 0) ∨ a = 2 ∨ (a = mb ∧ mK M1 a = 24)) := fun {a} h1 h2 h3 z => by
    rcases z with ⟨j, hj, e⟩ | z | ⟨z, -⟩
    · rw [e] at h1; exact absurd h1.2 (by rw [(o1 (pt j hj).1).2]; decide)
    · omega
    · rcases hmb with y | y <;> omega
  have h10 : ∀ c, c < mN M2 → (c = mN M ∨ c = 0 ∨ wvS (mN M) lc0 rc0 c) → mK M2 c ≠ 0 := fun c hc z => by
    have F2 := hTI.1
    have kw : ∀ {c t : Nat}, ok M0 c t ∨ ok M2 c t → mK M2 c = t := fun h => h.elim (fun y => (o02 y).2) (fun y => y.2)
    rcases z with z | z | z
    · rw [z, e3.2]; decide
    · rw [z, (ok0 F2).2]; decide
    · unfold wvS at z
      rcases z with z | z | z | z | z | z | z | z
      · have hc7 : c = 21 ∨ c = 22 ∨ c = 23 ∨ c = 24 ∨ c = 25 ∨ c = 26 ∨ c = 27 ∨ c = 28 := by omega
        rcases hc7 with e | e | e | e | e | e | e | e <;> rw [e]
        · rw [(ok21 F2).2]; decide
        · rw [(ok22 F2).2]; decide
        · rw [(ok23 F2).2]; decide
        · rw [(ok24 F2).2]; decide
        · rw [(ok25 F2).2]; decide
        · rw [(ok26 F2).2]; decide
        · rw [(ok27 F2).2]; decide
        · rw [(ok28 F2).2]; decide
      · rw [z, hCi.1.2]; decide
      · rw [z, olc.2]; decide
      · rw [z, orc.2]; decide
      · have := wz.2.2.2.2.1.1.ok1
        rw [z, ← k.1.2.2.1, this.2]; decide
      · have := wz.2.2.2.2.1.2.ok1
        rw [z, ← k.1.2.2.1, this.2]; decide
      · obtain ⟨j, rfl⟩ : ∃ j, c = mN M + j := ⟨c - mN M, by omega⟩
        have := (w17 j (by omega)).1
        rw [← k.1.2.2.1, this.2]; decide
      · have := wz.1.2.2.2.2.1.1
        rw [z, ← k.1.2.2.1, this.2]; decide
  have ex : ∀ {a : Nat} {bb : Nat}, mR M2 a 1 = some bb → True := fun _ => trivial
  have A7 : ALp M4 (mN M + 7) pb 5 ps := by
    have a1 : ALp M1 (mN M + 7) pb 5 ps := alp_fr3 hA f1 (s1n (by omega) (by omega) (by omega) (by omega) (by omega) (by omega) (by omega) (by omega)) (fun o => k1n o hpb)
    exact alp_fr3 a1 g4 (n5a (by omega) (by omega)) (fun o => by
      rcases hpb with y | y
      · intro z
        have b2 := hA.2.2.2.2.2
        rcases b2 with ⟨-, e⟩ | ⟨b2, -⟩
        · exact n5b (Or.inl y) o z
        · exact n5b (Or.inl y) o z
      · rcases hA.2.2.2.2.2 with ⟨e, -⟩ | ⟨b2, -⟩
        · exact n5b (Or.inl e) o
        · exact k2n o b2.1 y)
  have A15 : ALi M4 (mN M + 15) ib (ifS σ) := by
    have a1 : ALi M1 (mN M + 15) ib (ifS σ) := ali_fr4 hI f1 (s1n (by omega) (by omega) (by omega) (by omega) (by omega) (by omega) (by omega) (by omega)) (fun o => k1n o hib) h10
    obtain ⟨l, ⟨-, -, -, -, -, d6⟩, -⟩ := hI
    exact ali_fr4 a1 g4 (n5a (by omega) (by omega)) (fun o => by
      rcases d6 with ⟨e, -⟩ | ⟨b2, -⟩
      · exact n5b (Or.inl e) o
      · rcases hib with y | y
        · exact n5b (Or.inl y) o
        · exact k2n o b2.1 y) h50
  have r11 := (row02 y2 (by omega) (by omega) (by omega) (by omega) (by omega) (by omega) (by omega) (by omega) (by omega) (by omega)).tr (row24 (o02 y2) (by omega) (by omega) (by omega) (by omega) (by omega) (by omega) (by omega) (by omega) (by decide) (by decide))
  have L11 : mL M4 (mN M + 11) = 0 := by rw [len4 (o1 (o02 y2)), len1 (o02 y2), len0 y2]; exact y3
  have L12 : mL M4 (mN M + 12) = 0 := by rw [len4 (o1 (o02 z2)), len1 (o02 z2), len0 z2]; exact z3
  have r16 := row24 u1 (by omega) (by omega) (by omega) (by omega) (by omega) (by omega) (by omega) (by omega) (by decide) (by decide)
  have r20 := row24 s1 (by omega) (by omega) (by omega) (by omega) (by omega) (by omega) (by omega) (by omega) (by decide) (by decide)
  have nl : lc' ≠ mN M + 11 ∧ lc' ≠ mN M + 12 := by rcases w1 with z | z <;> omega
  have nr : rc' ≠ mN M + 11 ∧ rc' ≠ mN M + 12 := by rcases w2 with z | z <;> omega
  have hC4 : CsW M4 (mN M + 8) lc' rc' (mN M + 11) (mN M + 12) (mN M + 13) (mN M + 14) b1 b2 (mN M + 16) (mN M + 20) (mN M + 15) ib τ σ Ψ2 hl := by
    refine ⟨⟨C4, ⟨by rw [xR0 2 (by decide) (by decide)]; exact y1, o4 (o1 (o02 y2)), by rw [L11]; decide⟩, ⟨by rw [xR0 3 (by decide) (by decide)]; exact z1, o4 (o1 (o02 z2)), by rw [L12]; decide, fun z => by rw [L11] at z; omega⟩, ⟨by omega, fun z => nl.1 z.symm, fun z => nr.1 z.symm, fun z => nl.2 z.symm, fun z => nr.2 z.symm⟩, ⟨ge2, lt⟩, ?_, ⟨?_, ?_, A14, A24, al, ?_⟩, ⟨by rw [xR 8 (by decide) (by decide)]; exact c8, o4 (o1 u1), by rw [len4 (o1 u1), len1 u1]; exact u2, by omega, by omega⟩⟩, hq, fun t ht => ?_, ⟨by rw [xR 13 (by decide) (by decide)]; exact c13, o4 (o1 s1), by rw [len4 (o1 s1), len1 s1]; exact s2, fun t ht => ?_, by omega, by omega⟩, ⟨by rw [xR 7 (by decide) (by decide)]; exact r87, A15, ?_⟩⟩
    · have := wz.2.2.2.2.2.2.1
      rw [rowx.1, hR.2.1 15 (by decide) (by decide) (by decide)]; exact this
    · rw [rowx.2.2.1, hR.2.2 5 (by decide) (by decide)]; exact wr5
    · rw [rowx.2.2.1, hR.2.2 6 (by decide) (by decide)]; exact wr6
    · have := rm.2.2
      omega
    · rw [r16.2.2.2.1]; exact (u3 t ht).1
    · rw [r20.2.2.2.1]; exact (s3 t ht).1
    · have : (ifS σ).length ≤ 80 := hx80
      omega
  -- CeS
  obtain ⟨pz, zz1, zz2⟩ := zp_ok (Θ := trS σ) (noL (chR (trS σ) γ.1) g root) 0 0 rfl (by omega) (fun z hz k1 => by
    rw [eL] at hz
    obtain ⟨-, ⟨cd, d1, -, d3, -⟩, -⟩ := sh' z hz
    exact ⟨cd, d1, d3 k1⟩)
  have exr := wk.2.2.2.2.2.2
  have P17 : ∀ c p, 17 ≤ c → c ≤ 19 → up4 (mAI Mw) root 2 3 0 0 (mN M + c) p = 0 := fun c p h1 h2 => by
    have o := (w17 c (by omega)).1
    have a1 : mAI Mw (mN M + c) p = 0 := by
      rw [k.2.1.2.2.1]
      have o0 : mN M + c < mN M0 := by
        rcases (show c = 17 ∨ c = 18 ∨ c = 19 by omega) with e | e | e <;> (have := st2.1; omega)
      rw [(q1.2 (mN M + c) o0 (by omega)).2.2.2.1]
      exact m0 c p h1 h2
    unfold up4
    by_cases e : p = root
    · rw [if_pos e, if_neg (by omega), if_neg (by omega), if_neg (by omega), if_neg (by omega)]; exact a1
    · rw [if_neg e]; exact a1
  have ok00 : okI Ψ1 0 := ⟨0, rfl, by omega⟩
  have w17M : ∀ c, c = 17 ∨ c = 18 ∨ c = 19 → ok M1 (mN M + c) 21 ∧ mL M1 (mN M + c) = 24 := fun c hc => ⟨ok_E (w17 c hc).1 hR.1.1, by rw [(hR.1.1.2.2 _ (w17 c hc).1.1).2]; exact (w17 c hc).2⟩
  have rwP : ∀ c, 17 ≤ c → c ≤ 19 → mAI M4 (mN M + c) = P (mN M + c) := fun c h1 h2 => by
    rw [(row4 (w17M c (by omega)).1 (by decide) (by decide) (by omega)).2.2.2.1]
    funext j
    exact rw.1 (mN M + c) j (Or.inr (Or.inl ⟨by omega, by omega⟩))
  have psl : ∀ p, p < 24 → okI Ψ1 (P (mN M + 17) p) ∧ okI Ψ1 (P (mN M + 18) p) ∧ okI Ψ1 (P (mN M + 19) p) := fun p hp2 => by
    obtain ⟨t1, t2, t3⟩ := exr.2.2.1 p hp2
    rw [t1, t2, t3, P17 17 p (by decide) (by decide), P17 18 p (by decide) (by decide), P17 19 p (by decide) (by decide)]
    exact ⟨ps_ok _ _ ok00 (fun z hz => (okN z hz).1 22 (by decide) (by decide)), ps_ok _ _ ok00 (fun z hz => (okN z hz).1 24 (by decide) (by decide)), ps_ok _ _ ok00 (fun z hz => (okN z hz).1 25 (by decide) (by decide))⟩
  have hE4 : CeS M4 (mN M + 8) (mN M + 17) (mN M + 18) (mN M + 19) pz Ψ2.1.length := by
    refine ⟨⟨by rw [rowx.1, rw.2, exr.2.2.2]; exact zz1, zz2⟩, ⟨by rw [xR0 9 (by decide) (by decide)]; exact m9, o4 (w17M 17 (by decide)).1, by rw [len4 (w17M 17 (by decide)).1]; exact (w17M 17 (by decide)).2, fun p hp2 => ?_⟩, ⟨by rw [xR0 10 (by decide) (by decide)]; exact m10, o4 (w17M 18 (by decide)).1, by rw [len4 (w17M 18 (by decide)).1]; exact (w17M 18 (by decide)).2, fun p hp2 => ?_⟩, ⟨by rw [xR0 11 (by decide) (by decide)]; exact m11, o4 (w17M 19 (by decide)).1, by rw [len4 (w17M 19 (by decide)).1]; exact (w17M 19 (by decide)).2, fun p hp2 => ?_⟩, ?_⟩
    · rw [rwP 17 (by decide) (by decide)]; exact lit (psl p (by omega)).1
    · rw [rwP 18 (by decide) (by decide)]; exact lit (psl p (by omega)).2.1
    · rw [rwP 19 (by decide) (by decide)]; exact lit (psl p (by omega)).2.2
    · rw [rowx.1, i16]; exact lit ((okN root rt).2 0 (by decide))
  -- parts
  have hnp : ps.length = npS σ := hps
  have pI : ∀ j, j < ps.length → mI M4 (ps.getD j 0) = mI M3 (ps.getD j 0) := fun j hj => by
    have a1 := (pl j hj).1
    have o3 : ok M3 (ps.getD j 0) 5 := ok_E (o1 (pt j hj).1) nu.e
    rw [(hF.1.2 _ o3.1 (fun z => by
      rcases z with z | ⟨-, z⟩
      · omega
      · rw [o3.2] at z; exact absurd z (by decide))).1]
  have pF : ∀ j, j < ps.length → ∀ f, f < 8 → mI M4 (ps.getD j 0) f = σ.2.1.1 j f := fun j hj f hf => by
    have a1 := (pl j hj).1
    rw [pI j hj, (hp j hj).1 f hf, k.2.2 _ (by omega)]
    exact (pt j hj).2.2 f hf
  have su : ∀ {j c1 c2 fo : Nat}, j < ps.length → fo < 8 → SuA m σ.1.2.1 σ.2.1.1 σ.2.2.1 (coS σ) j c1 c2 fo → SuPt M4 σ.2.2.1 (coS σ) (ps.getD j 0) fo := fun {j c1 c2 fo} hj hf h => by
    obtain ⟨f, c, ⟨h1, h2⟩, -, -, h3, pr, po, h4, h5⟩ := h
    exact ⟨f, c, pr, po, ⟨h1, h2⟩, h3, h5, by rw [pF j hj fo hf]; exact h4⟩
  have hif : (ifS σ).length = σ.1.1 2 := hE.2.1
  have hPt : ∀ j, j < ps.length → (PtK M4 σ.2.2.1 (coS σ) (ps.getD j 0) ∧ (mI M4 (ps.getD j 0) 3 = 3 → ∃ f, f < (ifS σ).length ∧ mI M4 (ps.getD j 0) 4 = Int32.ofNat f) ∧ ∀ f, 9 ≤ f → f ≤ 12 → ∃ a, a < 2 * Ψ2.1.length ∧ mI M4 (ps.getD j 0) f = Int32.ofNat a) ∧ mI M4 (ps.getD j 0) 0 = σ.2.1.1 j 0 := fun j hj => by
    have tk := hK.1 j (by omega)
    refine ⟨⟨⟨o4 (o1 (pt j hj).1), ?_⟩, fun z => ?_, fun f f1 f2 => ?_⟩, pF j hj 0 (by decide)⟩
    · rw [pF j hj 3 (by decide), pF j hj 4 (by decide)]
      rcases tk with t | ⟨t1, -, ⟨s, t2, -, -, t3⟩, t4⟩ | ⟨t1, -, ⟨v, t2, -, t3⟩, t4⟩ | ⟨t1, -, -, t4, t5, -⟩
      · exact Or.inl t.1
      · exact Or.inr (Or.inl ⟨t1, ⟨s, by omega, t3⟩, su hj (by decide) t4⟩)
      · exact Or.inr (Or.inr (Or.inl ⟨t1, ⟨v, by omega, t3⟩, su hj (by decide) t4⟩))
      · exact Or.inr (Or.inr (Or.inr ⟨t1, su hj (by decide) t4, su hj (by decide) t5⟩))
    · rw [pF j hj 3 (by decide)] at z
      rw [pF j hj 4 (by decide)]
      rcases tk with t | t | t | ⟨-, t2, t3, -⟩
      · rw [t.1] at z; exact absurd z (by decide)
      · rw [t.1] at z; exact absurd z (by decide)
      · rw [t.1] at z; exact absurd z (by decide)
      · refine ⟨_, ?_, t3⟩
        rw [hif, hK.2]
        have a1 : ifU (σ.1.2.1 58) m (j + 1) ≤ ifU (σ.1.2.1 58) m (npS σ) := ifU_mo (by omega)
        have a2 : ifU (σ.1.2.1 58) m (j + 1) = ifU (σ.1.2.1 58) m j + 1 := by
          show _ + _ = _
          rw [if_pos t2]
        omega
    · have tp := (hp j hj).2
      have on := okN (xs j) (hin j (by omega))
      rw [pI j hj]
      obtain ⟨-, v9, v10, v11, v12⟩ := tp
      rcases (show f = 9 ∨ f = 10 ∨ f = 11 ∨ f = 12 by omega) with rfl | rfl | rfl | rfl
      · rw [v9]; exact lit (on.1 22 (by decide) (by decide))
      · rw [v10]; exact lit (on.2 0 (by decide))
      · rw [v11]; exact lit (on.2 1 (by decide))
      · rw [v12]; exact lit (on.2 2 (by decide))
  have r6b := (row02 cb2 (by omega) (by omega) (by omega) (by omega) (by omega) (by omega) (by omega) (by omega) (by omega) (by omega)).tr (row24 (o02 cb2) (by omega) (by omega) (by omega) (by omega) (by omega) (by omega) (by omega) (by omega) (by decide) (by decide))
  refine ⟨P, zp, Ψ1, Ψ2, hl, lc', rc', cc, pb, ib, b1, b2, pz, hW, ⟨hP, ⟨by rw [nR]; exact r6, A7, hnp, hE.2.2.2.1.2.2.1⟩, hPt, fun j hj => ?_, by rw [nR]; exact c7, hC4, hE4, fun r hr => ?_, ⟨by rw [nI 9 (by decide) (by decide)]; exact e9, by rw [nI 11 (by decide) (by decide), q2 11 (by decide) (by decide)]; exact ct7, by rw [nI 12 (by decide) (by decide)]; exact e12, by rw [rowc.1, nI1]; exact kf.2, by rw [nI 14 (by decide) (by decide), hif]; exact hRd.2.2.2.2.1, by rw [nI 15 (by decide) (by decide)]; exact hRd.2.2.2.2.2, by rw [nR, q3]; exact cb1, o4 (o1 (o02 cb2)), by rw [len4 (o1 (o02 cb2)), len1 (o02 cb2), len0 cb2]; exact cb3, by rw [r6b.2.2.2.1]; exact cb5, by omega, by omega⟩⟩, ?_, by rw [nR, q3]; exact m17, ⟨L11, L12⟩, ?_⟩
  · obtain ⟨a1, a2⟩ := inL_at hj
    exact ⟨_, by omega, a2, by rw [r4i.2.2.2.1]; exact ct6 j hj⟩
  · unfold mrR at hr
    rcases hr with e | e | e | e | e | e | e | e <;> rw [e]
    · omega
    · omega
    · exact nl
    · exact nr
    · omega
    · omega
    · omega
    · omega
  · have E13 : mE M1 M3 := nu.e
    have up : ∀ {a t : Nat}, ok M1 a t → mN M ≤ a → inZ (mN M) (mN M3) a := fun {a t} o h => Or.inl ⟨h, Nat.lt_of_lt_of_le o.1 E13.1⟩
    have lb : ∀ {a aa : Nat} {l : List Int32}, ALi M1 aa a l → (a = mBig + 5 ∨ mN M ≤ a) → inZ (mN M) (mN M3) a := fun {a aa l} hA2 h => by
      obtain ⟨l, ⟨-, -, -, -, -, d6⟩, -⟩ := hA2
      rcases d6 with ⟨e, -⟩ | ⟨o, -⟩
      · exact Or.inr (by omega)
      · rcases h with e | e
        · exact Or.inr (by omega)
        · exact up o e
    refine ⟨?_, up C1.2.2.1 (by rcases w1 with z | z <;> omega), up C1.2.2.2.2.1 (by rcases w2 with z | z <;> omega), up (o1 occ) (by omega), ?_, ?_, lb A1 (bb1.imp id (fun z => by omega)), lb A2 (bb2.imp id (fun z => by omega)), fun j hj => ⟨by have := (pl j hj).1; omega, Nat.lt_of_lt_of_le (o1 (pt j hj).1).1 E13.1⟩⟩
    · have a1 := f1.1.1
      have a2 := E13.1
      omega
    · rcases hA.2.2.2.2.2 with ⟨e, -⟩ | ⟨o, -⟩
      · exact Or.inr (by omega)
      · rcases hpb with e | e
        · exact Or.inr (by omega)
        · exact up (o1 o) (by omega)
    · obtain ⟨l, ⟨-, -, -, -, -, d6⟩, -⟩ := hI
      rcases d6 with ⟨e, -⟩ | ⟨o, -⟩
      · exact Or.inr (by omega)
      · rcases hib with e | e
        · exact Or.inr (by omega)
        · exact up (o1 o) (by omega)
  · rw [(nu.2.2 (mN M + 8) (fun z => by obtain ⟨j, hj, e⟩ := z; have := (pl j hj).1; omega))]
    exact C1.2.2.2.2.2.1
end
