/-! the class as a whole: modules, governors, whose each cell is -/
/-- a module's search: not made, beyond, or made -/
def SeS (ow : Nat → Nat) (M : Mem) (n0 t ya na : Nat) : Prop := mR M n0 17 = none ∨ ∃ x, mR M n0 17 = some x ∧ ok M x 7 ∧ ow x = n0 ∧ (mI M x 2 = 1 ∨ (mI M x 2 = 0 ∧ ∃ a n, ScO M x n0 t a ∧ ScC M x t n a ∧ 1 ≤ n ∧ ∀ f, 5 ≤ f → f ≤ 12 → ow (a f) = n0 ∧ a f ≠ ya ∧ a f ≠ na))
/-- module n0 of the class -/
def CmX (ow : Nat → Nat) (M : Mem) (n0 : Nat) (τ : Td) (σ : PS) : Prop := ∃ (m root : Nat) (γ : Gh) (g0 gw : Nat) (Z0 P : Nat → Nat → Int32) (zp : Int32) (Ψ1 Ψ2 : Wg) (R : RMo) (zn fn y0 q0 : Nat) (hl : List Int32) (lc rc cc pb ib b1 b2 ya na pz n1 : Nat) (ps : List Nat), (MdW τ m σ root γ g0 n0 gw Z0 P zp Ψ1 Ψ2 ∧ TwT (woS τ m σ γ) R zn fn y0 root q0 ∧ MdR τ m σ R ∧ τ.1.length ≤ 16 ∧ σ.2.2.1.length ≤ 810 ∧ (ifS σ).length ≤ 80 ∧ τ.2.2.2.1.length ≤ 6 ∧ (trS σ).2.1 ≤ 24 ∧ BeO τ) ∧ MoM M n0 τ σ Ψ2 hl lc rc cc pb ib b1 b2 ya na pz ps ∧ MoZ n0 n1 lc rc cc pb ib b1 b2 ps ∧ (n1 ≤ mN M ∧ (∀ a, n0 ≤ a → a < n1 → ow a = n0) ∧ ow ya = n0 ∧ ow na = n0) ∧ SeS ow M n0 ((inL τ.2.1).length + (ifS σ).length) ya na
/-- governor g of module c with nP parts -/
def GoX (ow : Nat → Nat) (M : Mem) (g c nP : Nat) : Prop := ∃ nw nx kp gn wr ks, GvS M g c nw nx kp gn wr nP ks ∧ GvR M g nw nx gn ks ∧ ow g = g ∧ ∀ r, grR nw nx wr gn ks r ∨ r = kp → ow r = g
section
variable {ow ow' : Nat → Nat} {M M' : Mem} {n0 t ya na g c nP : Nat} {τ : Td} {σ : PS} {S : Nat → Prop}
theorem ScO.fr {x t : Nat} {a : Nat → Nat} (h : ScO M x c t a) (k : fr S M M') (hx : ¬ S x) : ScO M' x c t a := by
  obtain ⟨⟨a1, a2, a3, a4⟩, b, d⟩ := h
  have r := k.2 x a1.1 hx
  exact ⟨⟨ok_E a1 k.1, by rw [r.2.2.1]; exact a2, by rw [r.1]; exact a3, a4⟩, fun f f1 f2 => ⟨by rw [r.2.2.1]; exact (b f f1 f2).1, ok_E (b f f1 f2).2.1 k.1, by rw [(k.1.2.2 _ (b f f1 f2).2.1.1).2]; exact (b f f1 f2).2.2⟩, d⟩
theorem SeS.fr (h : SeS ow M n0 t ya na) (k : fr S M M') (on : n0 < mN M) (hr : mR M' n0 17 = mR M n0 17) (hx : ∀ x, mR M n0 17 = some x → ok M x 7 → ow x = n0 → ¬ S x) (ha : ∀ r, ok M r 21 → ow r = n0 → r ≠ ya → r ≠ na → ¬ S r) {ya' na' : Nat} (hy : ∀ r, ok M r 21 → r ≠ ya → r ≠ na → r ≠ ya' ∧ r ≠ na') : SeS ow M' n0 t ya' na' := by
  rcases h with h | ⟨x, h1, h2, h3, h4⟩
  · exact Or.inl (by rw [hr]; exact h)
  · have nx := hx x h1 h2 h3
    have rx := k.2 x h2.1 nx
    refine Or.inr ⟨x, by rw [hr]; exact h1, ok_E h2 k.1, h3, ?_⟩
    rcases h4 with h4 | ⟨h4, a, n, hO, hC, hn, ho⟩
    · exact Or.inl (by rw [rx.1]; exact h4)
    · have ra : ∀ f, 5 ≤ f → f ≤ 12 → sameRow M M' (a f) := fun f f1 f2 => k.2 _ (hO.2.1 f f1 f2).2.1.1 (ha _ (hO.2.1 f f1 f2).2.1 (ho f f1 f2).1 (ho f f1 f2).2.1 (ho f f1 f2).2.2)
      refine Or.inr ⟨by rw [rx.1]; exact h4, a, n, hO.fr k nx, hC.k (by rw [rx.1]) (ra 7 (by decide) (by decide)).2.2.2.1 (ra 9 (by decide) (by decide)).2.2.2.1, hn, fun f f1 f2 => ⟨(ho f f1 f2).1, hy _ (hO.2.1 f f1 f2).2.1 (ho f f1 f2).2.1 (ho f f1 f2).2.2⟩⟩
theorem CmX.on (h : CmX ow M n0 τ σ) : ok M n0 3 := by
  obtain ⟨m, root, γ, g0, gw, Z0, P, zp, Ψ1, Ψ2, R, zn, fn, y0, q0, hl, lc, rc, cc, pb, ib, b1, b2, ya, na, pz, n1, ps, hp, hM, hz, hs⟩ := h
  exact hM.1.1.1
/-- a call that leaves the module's cells alone -/
theorem CmX.out (h : CmX ow M n0 τ σ) (hb : mN M < mBig) (k : fr S M M') (hS : ∀ a, S a → ow a ≠ n0) (h0 : ∀ a, S a → mK M a ≠ 0) : CmX ow M' n0 τ σ := by
  obtain ⟨m, root, γ, g0, gw, Z0, P, zp, Ψ1, Ψ2, R, zn, fn, y0, q0, hl, lc, rc, cc, pb, ib, b1, b2, ya, na, pz, n1, ps, hp, hM, hz, ⟨z1, z2, z3, z4⟩, hs⟩ := h
  have on := hM.1.1.1
  have rn := k.2 n0 on.1 (fun z => hS _ z (z2 n0 (Nat.le_refl _) (by have := hz.1; omega)))
  exact ⟨m, root, γ, g0, gw, Z0, P, zp, Ψ1, Ψ2, R, zn, fn, y0, q0, hl, lc, rc, cc, pb, ib, b1, b2, ya, na, pz, n1, ps, hp, hM.mu hz z2 hS h0 hb (MuF.of hM hz z2 hS k), hz, ⟨Nat.le_trans z1 k.1.1, z2, z3, z4⟩, hs.fr k on.1 (by rw [rn.2.2.1]) (fun x _ _ h3 z => hS _ z h3) (fun r _ h3 _ _ z => hS _ z h3) (fun r _ h1 h2 => ⟨h1, h2⟩)⟩
/-- new cells get their owners -/
theorem CmX.own (h : CmX ow M n0 τ σ) (ho : ∀ a, a < mN M → ow' a = ow a) : CmX ow' M n0 τ σ := by
  obtain ⟨m, root, γ, g0, gw, Z0, P, zp, Ψ1, Ψ2, R, zn, fn, y0, q0, hl, lc, rc, cc, pb, ib, b1, b2, ya, na, pz, n1, ps, hp, hM, hz, ⟨z1, z2, z3, z4⟩, hs⟩ := h
  have oy : ok M ya 21 := hM.2.2.2.2.2.1.1.2.1.2.1
  have on : ok M na 21 := hM.2.2.2.2.2.1.1.2.2.1.2.1
  refine ⟨m, root, γ, g0, gw, Z0, P, zp, Ψ1, Ψ2, R, zn, fn, y0, q0, hl, lc, rc, cc, pb, ib, b1, b2, ya, na, pz, n1, ps, hp, hM, hz, ⟨z1, fun a h1 h2 => by rw [ho a (by omega)]; exact z2 a h1 h2, by rw [ho _ oy.1]; exact z3, by rw [ho _ on.1]; exact z4⟩, ?_⟩
  rcases hs with h | ⟨x, h1, h2, h3, h4⟩
  · exact Or.inl h
  · refine Or.inr ⟨x, h1, h2, by rw [ho _ h2.1]; exact h3, ?_⟩
    rcases h4 with h4 | ⟨h4, a, n, hO, hC, hn, hq⟩
    · exact Or.inl h4
    · exact Or.inr ⟨h4, a, n, hO, hC, hn, fun f f1 f2 => ⟨by rw [ho _ (hO.2.1 f f1 f2).2.1.1]; exact (hq f f1 f2).1, (hq f f1 f2).2⟩⟩
theorem GoX.out (h : GoX ow M g c nP) (k : fr S M M') (hS : ∀ a, S a → ow a ≠ g) : GoX ow M' g c nP := by
  obtain ⟨nw, nx, kp, gn, wr, ks, h1, h2, h3, h4⟩ := h
  obtain ⟨a1, a2⟩ := gv_fr h1 h2 k (fun z => hS _ z h3) (fun r hr z => hS _ z (h4 r hr))
  exact ⟨nw, nx, kp, gn, wr, ks, a1, a2, h3, h4⟩
theorem GoX.own (h : GoX ow M g c nP) (ho : ∀ a, a < mN M → ow' a = ow a) : GoX ow' M g c nP := by
  obtain ⟨nw, nx, kp, gn, wr, ks, h1, h2, h3, h4⟩ := h
  refine ⟨nw, nx, kp, gn, wr, ks, h1, h2, by rw [ho _ h1.1.1.1]; exact h3, fun r hr => ?_⟩
  have hlt : r < mN M := by
    rcases hr with (z | z | z | z | ⟨i, hi, z⟩) | z <;> rw [z]
    · exact h1.2.1.1.1.1
    · exact h1.2.1.2.1.1.1
    · exact h1.2.1.2.2.2.1.1
    · exact h1.2.1.2.2.1.1.1
    · exact (h1.2.2.1.2.2 i hi).2.1.1
    · exact h1.2.2.1.1.1
  rw [ho r hlt]
  exact h4 r hr
end
/-- the whole of it: modules ms, governors gs, the rows mb, gb of their lists; ga: what each module was read as; gm: each governor's module -/
def CvS (ow : Nat → Nat) (ga : Nat → Td × PS) (gm : Nat → Nat) (M : Mem) (ms gs : List Nat) (mb gb : Nat) : Prop := Fix M ∧ (ALp M 2 mb 3 ms ∧ ms.length ≤ 4) ∧ (ALp M 3 gb 4 gs ∧ gs.length ≤ 8) ∧ ((mb = mBig + 5 ∨ (132 ≤ mb ∧ mb < mN M ∧ ow mb = 2)) ∧ (gb = mBig + 5 ∨ (132 ≤ gb ∧ gb < mN M ∧ ow gb = 3))) ∧ (∀ a, a < 132 → ow a = 0) ∧ (∀ i j, i < ms.length → j < ms.length → ms.getD i 0 = ms.getD j 0 → i = j) ∧ (∀ i j, i < gs.length → j < gs.length → gs.getD i 0 = gs.getD j 0 → i = j) ∧ (∀ i, i < ms.length → 132 ≤ ms.getD i 0 ∧ CmX ow M (ms.getD i 0) (ga (ms.getD i 0)).1 (ga (ms.getD i 0)).2) ∧ ∀ i, i < gs.length → 132 ≤ gs.getD i 0 ∧ ∃ j, j < ms.length ∧ gm (gs.getD i 0) = ms.getD j 0 ∧ GoX ow M (gs.getD i 0) (ms.getD j 0) (npS (ga (ms.getD j 0)).2)
section
variable {ow : Nat → Nat} {ga : Nat → Td × PS} {gm : Nat → Nat} {M M' : Mem} {ms gs : List Nat} {mb gb h : Nat} {S : Nat → Prop} {Q : Option Value → Mem → Prop} {x : Int32}
/-- a call that touches only cells ahead of all modules, and not the lists -/
theorem CvS.out (hC : CvS ow ga gm M ms gs mb gb) (hb : mN M < mBig) (k : fr S M M') (F : Fix M') (hS : ∀ a, S a → a < 132 ∧ a ≠ 2 ∧ a ≠ 3 ∧ mK M a ≠ 0) : CvS ow ga gm M' ms gs mb gb := by
  obtain ⟨-, ⟨a1, a2⟩, ⟨b1, b2⟩, ⟨c1, c2⟩, d, e1, e2, f, g⟩ := hC
  have n2 : ¬ S 2 := fun z => (hS 2 z).2.1 rfl
  have n3 : ¬ S 3 := fun z => (hS 3 z).2.2.1 rfl
  have nl : ∀ {r : Nat}, (r = mBig + 5 ∨ (132 ≤ r ∧ r < mN M ∧ (ow r = 2 ∨ ow r = 3))) → ok M r 24 → ¬ S r := fun {r} h1 h2 z => by
    have := (hS r z).1
    rcases h1 with h1 | h1
    · have := h2.1; omega
    · omega
  have hn : ∀ {c : Nat}, 132 ≤ c → ∀ a, S a → ow a ≠ c := fun {c} hc a z e => by
    rw [d a (hS a z).1] at e
    omega
  refine ⟨F, ⟨alp_fr3 a1 k n2 (nl (c1.imp id (fun z => ⟨z.1, z.2.1, Or.inl z.2.2⟩))), a2⟩, ⟨alp_fr3 b1 k n3 (nl (c2.imp id (fun z => ⟨z.1, z.2.1, Or.inr z.2.2⟩))), b2⟩, ⟨c1.imp id (fun z => ⟨z.1, Nat.lt_of_lt_of_le z.2.1 k.1.1, z.2.2⟩), c2.imp id (fun z => ⟨z.1, Nat.lt_of_lt_of_le z.2.1 k.1.1, z.2.2⟩)⟩, d, e1, e2, fun i hi => ⟨(f i hi).1, (f i hi).2.out hb k (hn (f i hi).1) (fun a z => (hS a z).2.2.2)⟩, fun i hi => ?_⟩
  obtain ⟨h1, j, h2, h3, h4⟩ := g i hi
  exact ⟨h1, j, h2, h3, h4.out k (hn h1)⟩
theorem S_modAt (hC : CvS ow ga gm M ms gs mb gb) (K0 : (∀ i, i < ms.length → x ≠ Int32.ofNat i) → Q (some .null) M) (K1 : ∀ i, i < ms.length → x = Int32.ofNat i → Q (some (.ref (ms.getD i 0))) M) : E (h + 4) mdX10_moduleAt [.ref 0, .int x] M Q := by
  obtain ⟨F, ⟨hA, h4⟩, -, -, -, -, -, hm, -⟩ := id hC
  refine KX10_moduleAt (h := h + 3) ?_
  unfold DX10_moduleAt_0 DX10_moduleAt_15 DX10_moduleAt_30
  refine ⟨fun z => K0 (fun i hi e => ?_), fun z => ⟨ok0 F, 2, rf0_2 F, hA.1, S_alSize (h := h + 2) hA (fun _ => ⟨_, rfl, fun y => ?_, fun y => K0 (fun i hi e => ?_)⟩)⟩⟩
  · rw [e] at z
    exact nn32 (by omega) z
  · obtain ⟨i, e, hi⟩ := nn_of z
    rw [e] at y ⊢
    have hl : i < ms.length := (ltn32 hi (by omega)).mp y
    exact ⟨2, rf0_2 F, hA.1, S_get (h := h) hA hl (fun _ => ⟨_, rfl, (hm i hl).2.on, K1 i hl e⟩)⟩
  · rw [e] at y
    exact y ((ltn32 (by omega) (by omega)).mpr hi)
theorem S_govAt (hC : CvS ow ga gm M ms gs mb gb) (K0 : (∀ i, i < gs.length → x ≠ Int32.ofNat i) → Q (some .null) M) (K1 : ∀ i, i < gs.length → x = Int32.ofNat i → Q (some (.ref (gs.getD i 0))) M) : E (h + 4) mdX10_governorAt [.ref 0, .int x] M Q := by
  obtain ⟨F, -, ⟨hA, h8⟩, -, -, -, -, -, hg⟩ := id hC
  refine KX10_governorAt (h := h + 3) ?_
  unfold DX10_governorAt_0 DX10_governorAt_15 DX10_governorAt_30
  refine ⟨fun z => K0 (fun i hi e => ?_), fun z => ⟨ok0 F, 3, rf0_3 F, hA.1, S_alSize (h := h + 2) hA (fun _ => ⟨_, rfl, fun y => ?_, fun y => K0 (fun i hi e => ?_)⟩)⟩⟩
  · rw [e] at z
    exact nn32 (by omega) z
  · obtain ⟨i, e, hi⟩ := nn_of z
    rw [e] at y ⊢
    have hl : i < gs.length := (ltn32 hi (by omega)).mp y
    obtain ⟨-, j, -, -, nw, nx, kp, gn, wr, ks, hv, -⟩ := hg i hl
    exact ⟨3, rf0_3 F, hA.1, S_get (h := h) hA hl (fun _ => ⟨_, rfl, hv.1.1, K1 i hl e⟩)⟩
  · rw [e] at y
    exact y ((ltn32 (by omega) (by omega)).mpr hi)
end
