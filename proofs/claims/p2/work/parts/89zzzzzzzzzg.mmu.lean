/-! what a module of the class keeps over calls -/
/-- a module's own cells may change so; of the others those of S -/
def MuF (n0 ya0 na0 ya na len : Nat) (S : Nat → Prop) (M M' : Mem) : Prop := fr (fun a => a = n0 ∨ a = n0 + 22 ∨ a = n0 + 24 ∨ a = n0 + 8 ∨ a = ya0 ∨ a = na0 ∨ S a) M M' ∧ (mI M' n0 = mI M n0 ∧ ∀ f, f ≠ 17 → mR M' n0 f = mR M n0 f) ∧ (mI M' (n0 + 8) = mI M (n0 + 8) ∧ (∀ f, f ≠ 2 → f ≠ 3 → mR M' (n0 + 8) f = mR M (n0 + 8) f) ∧ mR M' (n0 + 8) 2 = some ya ∧ mR M' (n0 + 8) 3 = some na) ∧ ((∀ f, f ≠ 3 → f ≠ 4 → mI M' (n0 + 22) f = mI M (n0 + 22) f) ∧ mR M' (n0 + 22) = mR M (n0 + 22)) ∧ (ok M' ya 21 ∧ ok M' na 21 ∧ mL M' ya < 1000000 ∧ mL M' na < 1000000 ∧ (len ≤ mL M' ya → len ≤ mL M' na)) ∧ ((ya = ya0 ∧ na = na0) ∨ (mN M ≤ ya ∧ mN M ≤ na ∧ ya ≠ na))
section
variable {M M' : Mem} {n0 n1 lc rc cc pb ib b1 b2 ya0 na0 ya na pz : Nat} {τ : Td} {σ : PS} {Ψ : Wg} {hl : List Int32} {ps : List Nat} {ow : Nat → Nat} {S : Nat → Prop}
theorem MoM.mu (h : MoM M n0 τ σ Ψ hl lc rc cc pb ib b1 b2 ya0 na0 pz ps) (hz : MoZ n0 n1 lc rc cc pb ib b1 b2 ps) (how : ∀ a, n0 ≤ a → a < n1 → ow a = n0) (hS : ∀ a, S a → ow a ≠ n0) (h0 : ∀ a, S a → mK M a ≠ 0) (hb : mN M < mBig) (k : MuF n0 ya0 na0 ya na Ψ.1.length S M M') : MoM M' n0 τ σ Ψ hl lc rc cc pb ib b1 b2 ya na pz ps := by
  obtain ⟨⟨⟨a1, a2, a3, a4, a5⟩, ⟨hSm, ⟨a6, a7, a8⟩, a9⟩, ⟨a10, a11⟩, ⟨a12, a13, a14, a15⟩⟩, ⟨p1, p2, p3, p4⟩, hPt, hIn, c7, ⟨⟨hCi, ⟨d1, d2, d3⟩, ⟨d4, d5, d6, d7⟩, ⟨d8, d9, d10, d11, d12⟩, d13, d14, ⟨d15, d16, d17, d18, d19, d20⟩, ⟨d21, d22, d23, d24, d25⟩⟩, hq, f1, ⟨f2, f3, f4, f5, f6, f7⟩, ⟨f8, f9, f10⟩⟩, ⟨⟨e1, e2⟩, ⟨e3, e4, e5, e6⟩, ⟨e7, e8, e9, e10⟩, ⟨e11, e12, e13, e14⟩, e15⟩, hmr, ⟨g1, g2, g3, g4, g5, g6, g7, g8, g9, g10, g11, g12⟩⟩ := h
  obtain ⟨z0, z1, z2, z3, z4, z5, z6, z7, z8⟩ := hz
  obtain ⟨kf, ⟨kn1, kn2⟩, ⟨kx1, kx2, kx3, kx4⟩, ⟨ks1, ks2⟩, ⟨ky1, ky2, ky3, ky4, ky5⟩, kd⟩ := k
  have E := kf.1
  have o' : ∀ {a t : Nat}, ok M a t → ok M' a t := fun o => ok_E o E
  have len : ∀ {a t : Nat}, ok M a t → mL M' a = mL M a := fun {a t} o => (E.2.2 a o.1).2
  have out : ∀ {a : Nat}, n0 ≤ a → a < n1 → ¬ S a := fun h1 h2 z => hS _ z (how _ h1 h2)
  have inz : ∀ {a t : Nat}, ok M a t → inZ n0 n1 a → ¬ S a := fun {a t} o h => by
    rcases h with h | h
    · exact out h.1 h.2
    · have := o.1; omega
  have oy : mK M ya0 = 21 := d2.2
  have on : mK M na0 = 21 := d5.2
  -- rows that stay, by kind
  have rowk : ∀ {a t : Nat}, ok M a t → inZ n0 n1 a → t ≠ 3 → t ≠ 8 → t ≠ 23 → t ≠ 2 → t ≠ 21 → sameRow M M' a := fun {a t} o hi h3 h8 h23 h2 h21 => kf.2 a o.1 (fun z => by
    have e := o.2
    rcases z with z | z | z | z | z | z | z
    · rw [z, a1.2] at e; exact h3 e.symm
    · rw [z, hSm.1.2] at e; exact h8 e.symm
    · rw [z, a7.2] at e; exact h23 e.symm
    · rw [z, hCi.1.2] at e; exact h2 e.symm
    · rw [z, oy] at e; exact h21 e.symm
    · rw [z, on] at e; exact h21 e.symm
    · exact inz o hi z)
  have rowi : ∀ {a : Nat}, ok M a 21 → inZ n0 n1 a → a ≠ ya0 → a ≠ na0 → sameRow M M' a := fun {a} o hi n1' n2' => kf.2 a o.1 (fun z => by
    have e := o.2
    rcases z with z | z | z | z | z | z | z
    · rw [z, a1.2] at e; exact absurd e (by decide)
    · rw [z, hSm.1.2] at e; exact absurd e (by decide)
    · rw [z, a7.2] at e; exact absurd e (by decide)
    · rw [z, hCi.1.2] at e; exact absurd e (by decide)
    · exact n1' z
    · exact n2' z
    · exact inz o hi z)
  have iz : ∀ c, c < 25 → inZ n0 n1 (n0 + c) := fun c hc => Or.inl ⟨by omega, by omega⟩
  have mr : ∀ {r : Nat}, mrR cc (n0 + 4) lc rc (n0 + 20) (n0 + 17) (n0 + 18) (n0 + 19) r → r ≠ ya0 ∧ r ≠ na0 := fun z => hmr _ z
  have m1 := mr (r := cc) (Or.inl rfl)
  have m2 := mr (r := n0 + 4) (Or.inr (Or.inl rfl))
  have m3 := mr (r := lc) (Or.inr (Or.inr (Or.inl rfl)))
  have m4 := mr (r := rc) (Or.inr (Or.inr (Or.inr (Or.inl rfl))))
  have m5 := mr (r := n0 + 20) (Or.inr (Or.inr (Or.inr (Or.inr (Or.inl rfl)))))
  have m6 := mr (r := n0 + 17) (Or.inr (Or.inr (Or.inr (Or.inr (Or.inr (Or.inl rfl))))))
  have m7 := mr (r := n0 + 18) (Or.inr (Or.inr (Or.inr (Or.inr (Or.inr (Or.inr (Or.inl rfl)))))))
  have m8 := mr (r := n0 + 19) (Or.inr (Or.inr (Or.inr (Or.inr (Or.inr (Or.inr (Or.inr rfl)))))))
  have rcc := rowi hSm.2.2.1 z3 m1.1 m1.2
  have ria := rowi a12 (iz 4 (by decide)) m2.1 m2.2
  have rlc := rowi hCi.2.2.1 z1 m3.1 m3.2
  have rrc := rowi hCi.2.2.2.2.1 z2 m4.1 m4.2
  have r20 := rowi f3 (iz 20 (by decide)) m5.1 m5.2
  have r17 := rowi e4 (iz 17 (by decide)) m6.1 m6.2
  have r18 := rowi e8 (iz 18 (by decide)) m7.1 m7.2
  have r19 := rowi e12 (iz 19 (by decide)) m8.1 m8.2
  have r16 := rowi d22 (iz 16 (by decide)) d24 d25
  -- lists
  have nK : ∀ {a t : Nat}, ok M a t → inZ n0 n1 a → t ≠ 3 → t ≠ 8 → t ≠ 23 → t ≠ 2 → t ≠ 21 → ¬ (a = n0 ∨ a = n0 + 22 ∨ a = n0 + 24 ∨ a = n0 + 8 ∨ a = ya0 ∨ a = na0 ∨ S a) := fun {a t} o hi h3 h8 h23 h2 h21 z => by
    have e := o.2
    rcases z with z | z | z | z | z | z | z
    · rw [z, a1.2] at e; exact h3 e.symm
    · rw [z, hSm.1.2] at e; exact h8 e.symm
    · rw [z, a7.2] at e; exact h23 e.symm
    · rw [z, hCi.1.2] at e; exact h2 e.symm
    · rw [z, oy] at e; exact h21 e.symm
    · rw [z, on] at e; exact h21 e.symm
    · exact inz o hi z
  have k0 : ∀ c, c < mN M → (c = n0 ∨ c = n0 + 22 ∨ c = n0 + 24 ∨ c = n0 + 8 ∨ c = ya0 ∨ c = na0 ∨ S c) → mK M c ≠ 0 := fun c _ z => by
    rcases z with z | z | z | z | z | z | z
    · rw [z, a1.2]; decide
    · rw [z, hSm.1.2]; decide
    · rw [z, a7.2]; decide
    · rw [z, hCi.1.2]; decide
    · rw [z, oy]; decide
    · rw [z, on]; decide
    · exact h0 c z
  have liA : ∀ {c bb : Nat} {l : List Int32}, ALi M (n0 + c) bb l → c < 25 → inZ n0 n1 bb → ALi M' (n0 + c) bb l := fun {c bb l} hA hc hbb => ali_fr4 hA kf (nK hA.ok1 (iz c hc) (by decide) (by decide) (by decide) (by decide) (by decide)) (fun o => nK o hbb (by decide) (by decide) (by decide) (by decide) (by decide)) k0
  have P' : PlS M' n0 (n0 + 22) cc (n0 + 24) (n0 + 3) (n0 + 4) (inL τ.2.1).length (coS σ) := by
    obtain ⟨s1, s2, s3, s4, s5, s6, s7, s8⟩ := hSm
    exact ⟨⟨o' a1, by rw [kn2 8 (by decide)]; exact a2, by rw [kn2 2 (by decide)]; exact a3, by rw [kn2 3 (by decide)]; exact a4, by rw [kn1]; exact a5⟩, ⟨⟨o' s1, by rw [ks2]; exact s2, o' s3, by rw [ks1 1 (by decide) (by decide)]; exact s4, by rw [len s3]; exact s5, by rw [len s3]; exact s6, by rw [len s3]; exact s7, by rw [rcc.2.2.2.1]; exact s8⟩, ⟨by rw [ks2]; exact a6, o' a7, by rw [len a7]; exact a8⟩, a9⟩, ⟨o' a10, by rw [len a10]; exact a11⟩, ⟨o' a12, by rw [len a12]; exact a13, a14, by rw [ria.2.2.2.1]; exact a15⟩⟩
  have hp' : ∀ j, j < ps.length → sameRow M M' (ps.getD j 0) := fun j hj => rowk (hPt j hj).1.1.1 (Or.inl (z8 j hj)) (by decide) (by decide) (by decide) (by decide) (by decide)
  have C' : CirP M' (n0 + 8) lc rc Ψ.1 := by
    obtain ⟨s1, s2, s3, s4, s5, s6, ⟨s7, s8, s9, s10, s11⟩, s12, s13, s14⟩ := hCi
    exact ⟨o' s1, by rw [kx2 0 (by decide) (by decide)]; exact s2, o' s3, by rw [kx2 1 (by decide) (by decide)]; exact s4, o' s5, by rw [kx1]; exact s6, ⟨s7, by rw [len s3]; exact s8, by rw [len s3, len s5]; exact s9, by rw [len s3]; exact s10, by rw [len s3]; exact s11⟩, by rw [rlc.2.2.2.1, rrc.2.2.2.1]; exact s12, s13, s14⟩
  have nw : ∀ {a : Nat}, ok M a 21 → a ≠ ya0 → a ≠ na0 → a ≠ ya ∧ a ≠ na := fun {a} o h1 h2 => by
    rcases kd with ⟨e1, e2⟩ | ⟨h3, h4, -⟩
    · rw [e1, e2]; exact ⟨h1, h2⟩
    · have := o.1; omega
  have nwl := nw hCi.2.2.1 m3.1 m3.2
  have nwr := nw hCi.2.2.2.2.1 m4.1 m4.2
  have nw6 := nw d22 d24 d25
  have nw20 := nw f3 f6 f7
  have yn : ya ≠ na := by
    rcases kd with ⟨e1, e2⟩ | ⟨-, -, h⟩
    · rw [e1, e2]; exact d8
    · exact h
  refine ⟨P', ⟨by rw [kn2 6 (by decide)]; exact p1, alp_fr3 p2 kf (nK p2.1 (iz 7 (by decide)) (by decide) (by decide) (by decide) (by decide) (by decide)) (fun o => nK o z4 (by decide) (by decide) (by decide) (by decide) (by decide)), p3, p4⟩, fun j hj => ?_, by rw [ria.2.2.2.1]; exact hIn, by rw [kn2 7 (by decide)]; exact c7, ⟨⟨C', ⟨kx3, ky1, ky3⟩, ⟨kx4, ky2, ky4, ky5⟩, ⟨yn, fun z => nwl.1 z.symm, fun z => nwr.1 z.symm, fun z => nwl.2 z.symm, fun z => nwr.2 z.symm⟩, d13, by rw [kx1]; exact d14, ⟨by rw [kx2 5 (by decide) (by decide)]; exact d15, by rw [kx2 6 (by decide) (by decide)]; exact d16, liA d17 (by decide) z6, liA d18 (by decide) z7, d19, d20⟩, ⟨by rw [kx2 8 (by decide) (by decide)]; exact d21, o' d22, by rw [len d22]; exact d23, nw6.1, nw6.2⟩⟩, hq, by rw [r16.2.2.2.1]; exact f1, ⟨by rw [kx2 13 (by decide) (by decide)]; exact f2, o' f3, by rw [len f3]; exact f4, by rw [r20.2.2.2.1]; exact f5, nw20.1, nw20.2⟩, ⟨by rw [kx2 7 (by decide) (by decide)]; exact f8, liA f9 (by decide) z5, f10⟩⟩, ⟨⟨by rw [kx1]; exact e1, e2⟩, ⟨by rw [kx2 9 (by decide) (by decide)]; exact e3, o' e4, by rw [len e4]; exact e5, by rw [r17.2.2.2.1]; exact e6⟩, ⟨by rw [kx2 10 (by decide) (by decide)]; exact e7, o' e8, by rw [len e8]; exact e9, by rw [r18.2.2.2.1]; exact e10⟩, ⟨by rw [kx2 11 (by decide) (by decide)]; exact e11, o' e12, by rw [len e12]; exact e13, by rw [r19.2.2.2.1]; exact e14⟩, by rw [kx1]; exact e15⟩, fun r hr => ?_, ⟨by rw [kn1]; exact g1, by rw [kn1]; exact g2, by rw [kn1]; exact g3, by rw [kn1]; exact g4, by rw [kn1]; exact g5, by rw [kn1]; exact g6, by rw [kn2 5 (by decide)]; exact g7, o' g8, by rw [len g8]; exact g9, by rw [(rowi g8 (iz 6 (by decide)) g11 g12).2.2.2.1]; exact g10, (nw g8 g11 g12).1, (nw g8 g11 g12).2⟩⟩
  · obtain ⟨⟨x1, x2, x3⟩, x4⟩ := hPt j hj
    have r := hp' j hj
    exact ⟨⟨x1.row r.1 (o' x1.1), by rw [r.1]; exact x2, by rw [r.1]; exact x3⟩, by rw [r.1]; exact x4⟩
  · have q := mr hr
    unfold mrR at hr
    rcases hr with e | e | e | e | e | e | e | e <;> rw [e] at q ⊢
    · exact nw hSm.2.2.1 q.1 q.2
    · exact nw a12 q.1 q.2
    · exact nwl
    · exact nwr
    · exact nw20
    · exact nw e4 q.1 q.2
    · exact nw e8 q.1 q.2
    · exact nw e12 q.1 q.2
/-- a call that leaves the module alone -/
theorem MuF.of (h : MoM M n0 τ σ Ψ hl lc rc cc pb ib b1 b2 ya0 na0 pz ps) (hz : MoZ n0 n1 lc rc cc pb ib b1 b2 ps) (how : ∀ a, n0 ≤ a → a < n1 → ow a = n0) (hS : ∀ a, S a → ow a ≠ n0) (k : fr S M M') : MuF n0 ya0 na0 ya0 na0 Ψ.1.length S M M' := by
  obtain ⟨⟨⟨a1, -⟩, ⟨hSm, -⟩, -⟩, -, -, -, -, ⟨⟨hCi, ⟨d1, d2, d3⟩, ⟨d4, d5, d6, d7⟩, -⟩, -⟩, -⟩ := h
  have out : ∀ {a t : Nat}, ok M a t → n0 ≤ a → a < n0 + 25 → sameRow M M' a := fun {a t} o h1 h2 => k.2 a o.1 (fun z => hS _ z (how _ h1 (by have := hz.1; omega)))
  have rn := out a1 (Nat.le_refl _) (by omega)
  have rx := out hCi.1 (by omega) (by omega)
  have rs := out hSm.1 (by omega) (by omega)
  refine ⟨k.more (fun a _ z => Or.inr (Or.inr (Or.inr (Or.inr (Or.inr (Or.inr z)))))), ⟨rn.1, fun f _ => by rw [rn.2.2.1]⟩, ⟨rx.1, fun f _ _ => by rw [rx.2.2.1], by rw [rx.2.2.1]; exact d1, by rw [rx.2.2.1]; exact d4⟩, ⟨fun f _ _ => by rw [rs.1], rs.2.2.1⟩, ⟨ok_E d2 k.1, ok_E d5 k.1, by rw [(k.1.2.2 _ d2.1).2]; exact d3, by rw [(k.1.2.2 _ d5.1).2]; exact d6, ?_⟩, Or.inl ⟨rfl, rfl⟩⟩
  rw [(k.1.2.2 _ d2.1).2, (k.1.2.2 _ d5.1).2]
  exact d7
end
section
variable {M M' : Mem} {g c nw nx kp gn wr nP : Nat} {ks : Nat → Nat} {S : Nat → Prop}
/-- a governor of the class keeps what it has over calls that leave it alone -/
theorem gv_fr (h : GvS M g c nw nx kp gn wr nP ks) (hR : GvR M g nw nx gn ks) (k : fr S M M') (hg : ¬ S g) (hr : ∀ r, grR nw nx wr gn ks r ∨ r = kp → ¬ S r) : GvS M' g c nw nx kp gn wr nP ks ∧ GvR M' g nw nx gn ks := by
  obtain ⟨⟨a1, a2, a3, a4, a5, a6, a7⟩, ⟨⟨b1, b2⟩, ⟨b3, b4⟩, ⟨b5, b6⟩, ⟨b7, b8⟩⟩, ⟨c1, c2, c3⟩, d⟩ := h
  obtain ⟨r1, r2, r3, r4, q, r5, r6⟩ := hR
  have o' : ∀ {a t : Nat}, ok M a t → ok M' a t := fun o => ok_E o k.1
  have len : ∀ {a t : Nat}, ok M a t → mL M' a = mL M a := fun {a t} o => (k.1.2.2 a o.1).2
  have rg := k.2 g a1.1 hg
  have rnw := k.2 nw b1.1 (hr _ (Or.inl (Or.inl rfl)))
  have rnx := k.2 nx b3.1 (hr _ (Or.inl (Or.inr (Or.inl rfl))))
  have rgn := k.2 gn b5.1 (hr _ (Or.inl (Or.inr (Or.inr (Or.inr (Or.inl rfl))))))
  have rkp := k.2 kp c1.1 (hr _ (Or.inr rfl))
  have rks : ∀ i, i < 3 → sameRow M M' (ks i) := fun i hi => k.2 (ks i) (c3 i hi).2.1.1 (hr _ (Or.inl (Or.inr (Or.inr (Or.inr (Or.inr ⟨i, hi, rfl⟩))))))
  refine ⟨⟨⟨o' a1, by rw [rg.2.2.1]; exact a2, by rw [rg.2.2.1]; exact a3, by rw [rg.2.2.1]; exact a4, by rw [rg.2.2.1]; exact a5, by rw [rg.2.2.1]; exact a6, by rw [rg.2.2.1]; exact a7⟩, ⟨⟨o' b1, by rw [len b1]; exact b2⟩, ⟨o' b3, by rw [len b3]; exact b4⟩, ⟨o' b5, by rw [len b5]; exact b6⟩, ⟨o' b7, by rw [len b7]; exact b8⟩⟩, ⟨o' c1, by rw [len c1]; exact c2, fun i hi => ⟨by rw [rkp.2.2.2.2.2]; exact (c3 i hi).1, o' (c3 i hi).2.1, by rw [len (c3 i hi).2.1]; exact (c3 i hi).2.2⟩⟩, d⟩, r1.k rnw.2.2.2.1, r2.k rnx.2.2.2.1, fun i hi => (r3 i hi).k (rks i hi).2.2.2.1, by rw [rgn.2.2.2.1]; exact r4, q, r5, by rw [rg.1]; exact r6⟩
end
