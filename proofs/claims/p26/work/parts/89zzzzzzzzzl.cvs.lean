section
/-! the class as a whole: modules, governors, whose each cell is -/
/-- a module's search: not made, beyond, or made -/
def SeS (ow : Nat → Nat) (M : Mem) (n0 t ya na : Nat) (C : CoT) (ask o : Int32) : Prop := mR M n0 17 = none ∨ ∃ x, mR M n0 17 = some x ∧ ok M x 7 ∧ ow x = n0 ∧ ((mI M x 2 = 1 ∧ StP C ask o t none) ∨ (mI M x 2 = 0 ∧ ∃ a Y G, ScO M x n0 t a ∧ ScC M x t Y.1.length a ∧ (StP C ask o t (some (Y, G)) ∧ TiC M x t a Y ∧ CgC M a Y.1.length G) ∧ ∀ f, 5 ≤ f → f ≤ 12 → ow (a f) = n0 ∧ a f ≠ ya ∧ a f ≠ na))
def SeT (ow : Nat → Nat) (M : Mem) (n0 : Nat) (τ : Td) (σ : PS) (R : RMo) (Ψ : Wg) (P : Nat → Nat → Int32) (pz root ya na : Nat) (C : CoT) : Prop := MoP M n0 τ P pz root ∧ (τ.2.1.length = τ.1.length ∧ (inL τ.2.1).length ≤ 4 ∧ C = CorW τ n0 R Ψ P pz root) ∧ SeS ow M n0 ((inL τ.2.1).length + (ifS σ).length) ya na C (asS σ) (omk τ.2.1)
/-- module n0 of the class -/
def CmX (ow : Nat → Nat) (M : Mem) (n0 : Nat) (τ : Td) (σ : PS) (C : CoT) : Prop := ∃ (m root : Nat) (γ : Gh) (g0 gw : Nat) (Z0 P : Nat → Nat → Int32) (zp : Int32) (Ψ1 Ψ2 : Wg) (R : RMo) (zn fn y0 q0 : Nat) (hl : List Int32) (lc rc cc pb ib b1 b2 ya na pz n1 : Nat) (ps : List Nat), (MdW τ m σ root γ g0 n0 gw Z0 P zp Ψ1 Ψ2 ∧ TwT (woS τ m σ γ) R zn fn y0 root q0 ∧ MdR τ m σ R ∧ τ.1.length ≤ 16 ∧ σ.2.2.1.length ≤ 810 ∧ (ifS σ).length ≤ 80 ∧ τ.2.2.2.1.length ≤ 6 ∧ (trS σ).2.1 ≤ 24 ∧ BeO τ) ∧ MoM M n0 τ σ Ψ2 hl lc rc cc pb ib b1 b2 ya na pz ps ∧ MoZ n0 n1 lc rc cc pb ib b1 b2 ps ∧ (n1 ≤ mN M ∧ (∀ a, n0 ≤ a → a < n1 → ow a = n0) ∧ ow ya = n0 ∧ ow na = n0) ∧ SeT ow M n0 τ σ R Ψ2 P pz root ya na C
/-- governor g of module c with nP parts -/
def GoX (ow : Nat → Nat) (M : Mem) (g c nP : Nat) : Prop := ∃ nw nx kp gn wr ks, GvS M g c nw nx kp gn wr nP ks ∧ GvR M g nw nx gn ks ∧ ow g = g ∧ ∀ r, grR nw nx wr gn ks r ∨ r = kp → ow r = g
section
variable {ow ow' : Nat → Nat} {M M' : Mem} {n0 t ya na g c nP : Nat} {τ : Td} {σ : PS} {S : Nat → Prop} {C : CoT} {ask o : Int32}
theorem ScO.fr {x t : Nat} {a : Nat → Nat} (h : ScO M x c t a) (k : fr S M M') (hx : ¬ S x) : ScO M' x c t a := by
  obtain ⟨⟨a1, a2, a3, a4⟩, b, d⟩ := h
  have r := k.2 x a1.1 hx
  exact ⟨⟨ok_E a1 k.1, by rw [r.2.2.1]; exact a2, by rw [r.1]; exact a3, a4⟩, fun f f1 f2 => ⟨by rw [r.2.2.1]; exact (b f f1 f2).1, ok_E (b f f1 f2).2.1 k.1, by rw [(k.1.2.2 _ (b f f1 f2).2.1.1).2]; exact (b f f1 f2).2.2⟩, d⟩
theorem SeS.fr (h : SeS ow M n0 t ya na C ask o) (k : fr S M M') (on : n0 < mN M) (hr : mR M' n0 17 = mR M n0 17) (hx : ∀ x, mR M n0 17 = some x → ok M x 7 → ow x = n0 → ¬ S x) (ha : ∀ r, ok M r 21 → ow r = n0 → r ≠ ya → r ≠ na → ¬ S r) {ya' na' : Nat} (hy : ∀ r, ok M r 21 → r ≠ ya → r ≠ na → r ≠ ya' ∧ r ≠ na') : SeS ow M' n0 t ya' na' C ask o := by
  rcases h with h | ⟨x, h1, h2, h3, h4⟩
  · exact Or.inl (by rw [hr]; exact h)
  · have nx := hx x h1 h2 h3
    have rx := k.2 x h2.1 nx
    refine Or.inr ⟨x, by rw [hr]; exact h1, ok_E h2 k.1, h3, ?_⟩
    rcases h4 with h4 | ⟨h4, a, Y, G, hO, hC, ⟨hn, hT, hG⟩, ho⟩
    · exact Or.inl ⟨by rw [rx.1]; exact h4.1, h4.2⟩
    · have ra : ∀ f, 5 ≤ f → f ≤ 12 → sameRow M M' (a f) := fun f f1 f2 => k.2 _ (hO.2.1 f f1 f2).2.1.1 (ha _ (hO.2.1 f f1 f2).2.1 (ho f f1 f2).1 (ho f f1 f2).2.1 (ho f f1 f2).2.2)
      refine Or.inr ⟨by rw [rx.1]; exact h4, a, Y, G, hO.fr k nx, hC.k (by rw [rx.1]) (ra 7 (by decide) (by decide)).2.2.2.1 (ra 9 (by decide) (by decide)).2.2.2.1, ⟨hn, hT.k (by rw [rx.1]) (fun f f1 f2 => (ra f f1 (by omega)).2.2.2.1), fun s hs => by rw [(ra 11 (by decide) (by decide)).2.2.2.1]; exact hG s hs⟩, fun f f1 f2 => ⟨(ho f f1 f2).1, hy _ (hO.2.1 f f1 f2).2.1 (ho f f1 f2).2.1 (ho f f1 f2).2.2⟩⟩
theorem CmX.on (h : CmX ow M n0 τ σ C) : ok M n0 3 := by
  obtain ⟨m, root, γ, g0, gw, Z0, P, zp, Ψ1, Ψ2, R, zn, fn, y0, q0, hl, lc, rc, cc, pb, ib, b1, b2, ya, na, pz, n1, ps, hp, hM, hz, hs⟩ := h
  exact hM.1.1.1
/-- a call that leaves the module's cells alone -/
theorem CmX.out (h : CmX ow M n0 τ σ C) (hb : mN M < mBig) (k : fr S M M') (hS : ∀ a, S a → ow a ≠ n0) (h0 : ∀ a, S a → mK M a ≠ 0) : CmX ow M' n0 τ σ C := by
  obtain ⟨m, root, γ, g0, gw, Z0, P, zp, Ψ1, Ψ2, R, zn, fn, y0, q0, hl, lc, rc, cc, pb, ib, b1, b2, ya, na, pz, n1, ps, hp, hM, hz, ⟨z1, z2, z3, z4⟩, hs⟩ := h
  have on := hM.1.1.1
  have rn := k.2 n0 on.1 (fun z => hS _ z (z2 n0 (Nat.le_refl _) (by have := hz.1; omega)))
  have rz : ∀ c, c < 25 → sameRow M M' (n0 + c) := fun c hc => k.2 (n0 + c) (by have := hz.1; omega) (fun z => hS _ z (z2 (n0 + c) (by omega) (by have := hz.1; omega)))
  exact ⟨m, root, γ, g0, gw, Z0, P, zp, Ψ1, Ψ2, R, zn, fn, y0, q0, hl, lc, rc, cc, pb, ib, b1, b2, ya, na, pz, n1, ps, hp, hM.mu hz z2 hS h0 hb (MuF.of hM hz z2 hS k), hz, ⟨Nat.le_trans z1 k.1.1, z2, z3, z4⟩, hs.1.k (fun c hc => (rz c (by omega)).2.2.2.1) (by rw [(rz 8 (by decide)).1]), hs.2.1, hs.2.2.fr k on.1 (by rw [rn.2.2.1]) (fun x _ _ h3 z => hS _ z h3) (fun r _ h3 _ _ z => hS _ z h3) (fun r _ h1 h2 => ⟨h1, h2⟩)⟩
/-- new cells get their owners -/
theorem CmX.own (h : CmX ow M n0 τ σ C) (ho : ∀ a, a < mN M → ow' a = ow a) : CmX ow' M n0 τ σ C := by
  obtain ⟨m, root, γ, g0, gw, Z0, P, zp, Ψ1, Ψ2, R, zn, fn, y0, q0, hl, lc, rc, cc, pb, ib, b1, b2, ya, na, pz, n1, ps, hp, hM, hz, ⟨z1, z2, z3, z4⟩, hs⟩ := h
  have oy : ok M ya 21 := hM.2.2.2.2.2.1.1.2.1.2.1
  have on : ok M na 21 := hM.2.2.2.2.2.1.1.2.2.1.2.1
  refine ⟨m, root, γ, g0, gw, Z0, P, zp, Ψ1, Ψ2, R, zn, fn, y0, q0, hl, lc, rc, cc, pb, ib, b1, b2, ya, na, pz, n1, ps, hp, hM, hz, ⟨z1, fun a h1 h2 => by rw [ho a (by omega)]; exact z2 a h1 h2, by rw [ho _ oy.1]; exact z3, by rw [ho _ on.1]; exact z4⟩, ?_⟩
  refine ⟨hs.1, hs.2.1, ?_⟩
  rcases hs.2.2 with h | ⟨x, h1, h2, h3, h4⟩
  · exact Or.inl h
  · refine Or.inr ⟨x, h1, h2, by rw [ho _ h2.1]; exact h3, ?_⟩
    rcases h4 with h4 | ⟨h4, a, Y, G, hO, hC, hn, hq⟩
    · exact Or.inl h4
    · exact Or.inr ⟨h4, a, Y, G, hO, hC, hn, fun f f1 f2 => ⟨by rw [ho _ (hO.2.1 f f1 f2).2.1.1]; exact (hq f f1 f2).1, (hq f f1 f2).2⟩⟩
theorem GoX.out (h : GoX ow M g c nP) (k : fr S M M') (hS : ∀ a, S a → ow a ≠ g) : GoX ow M' g c nP := by
  obtain ⟨nw, nx, kp, gn, wr, ks, h1, h2, h3, h4⟩ := h
  obtain ⟨a1, a2⟩ := gv_fr h1 h2 k (fun z => hS _ z h3) (fun r hr z => hS _ z (h4 r hr))
  exact ⟨nw, nx, kp, gn, wr, ks, a1, a2, h3, h4⟩
theorem GoX.own (h : GoX ow M g c nP) (ho : ∀ a, a < mN M → ow' a = ow a) : GoX ow' M g c nP := by
  obtain ⟨nw, nx, kp, gn, wr, ks, h1, h2, h3, h4⟩ := h
  refine ⟨nw, nx, kp, gn, wr, ks, h1, h2, by rw [ho _ h1.1.1.1]; exact h3, fun r hr => ?_⟩
  have hlt : r < mN M := by
    rcases hr with (z | z | z | z | ⟨i, hi, z⟩) | z <;> rw [z]
    · exact h1.2.1.1.1.1
    · exact h1.2.1.2.1.1.1
    · exact h1.2.1.2.2.2.1.1
    · exact h1.2.1.2.2.1.1.1
    · exact (h1.2.2.1.2.2 i hi).2.1.1
    · exact h1.2.2.1.1.1
  rw [ho r hlt]
  exact h4 r hr
end
/-- the whole of it: modules ms, governors gs, the rows mb, gb of their lists; ga: what each module was read as; gm: each governor's module -/
def CvS (ow : Nat → Nat) (ga : Nat → Td × PS × CoT) (gm : Nat → Nat) (M : Mem) (ms gs : List Nat) (mb gb : Nat) : Prop := Fix M ∧ (ALp M 2 mb 3 ms ∧ ms.length ≤ 4) ∧ (ALp M 3 gb 4 gs ∧ gs.length ≤ 8) ∧ ((mb = mBig + 5 ∨ (132 ≤ mb ∧ mb < mN M ∧ ow mb = 2)) ∧ (gb = mBig + 5 ∨ (132 ≤ gb ∧ gb < mN M ∧ ow gb = 3))) ∧ (∀ a, a < 132 → ow a = 0) ∧ (∀ i j, i < ms.length → j < ms.length → ms.getD i 0 = ms.getD j 0 → i = j) ∧ (∀ i j, i < gs.length → j < gs.length → gs.getD i 0 = gs.getD j 0 → i = j) ∧ (∀ i, i < ms.length → 132 ≤ ms.getD i 0 ∧ CmX ow M (ms.getD i 0) (ga (ms.getD i 0)).1 (ga (ms.getD i 0)).2.1 (ga (ms.getD i 0)).2.2) ∧ ∀ i, i < gs.length → 132 ≤ gs.getD i 0 ∧ ∃ j, j < ms.length ∧ gm (gs.getD i 0) = ms.getD j 0 ∧ GoX ow M (gs.getD i 0) (ms.getD j 0) (npS (ga (ms.getD j 0)).2.1)
section
variable {ow : Nat → Nat} {ga : Nat → Td × PS × CoT} {gm : Nat → Nat} {M M' : Mem} {ms gs : List Nat} {mb gb h : Nat} {S : Nat → Prop} {Q : Option Value → Mem → Prop} {x : Int32}
/-- a call that touches only cells ahead of all modules, and not the lists -/
theorem CvS.out (hC : CvS ow ga gm M ms gs mb gb) (hb : mN M < mBig) (k : fr S M M') (F : Fix M') (hS : ∀ a, S a → a < 132 ∧ a ≠ 2 ∧ a ≠ 3 ∧ mK M a ≠ 0) : CvS ow ga gm M' ms gs mb gb := by
  obtain ⟨-, ⟨a1, a2⟩, ⟨b1, b2⟩, ⟨c1, c2⟩, d, e1, e2, f, g⟩ := hC
  have n2 : ¬ S 2 := fun z => (hS 2 z).2.1 rfl
  have n3 : ¬ S 3 := fun z => (hS 3 z).2.2.1 rfl
  have nl : ∀ {r : Nat}, (r = mBig + 5 ∨ (132 ≤ r ∧ r < mN M ∧ (ow r = 2 ∨ ow r = 3))) → ok M r 24 → ¬ S r := fun {r} h1 h2 z => by
    have := (hS r z).1
    rcases h1 with h1 | h1
    · have := h2.1; omega
    · omega
  have hn : ∀ {c : Nat}, 132 ≤ c → ∀ a, S a → ow a ≠ c := fun {c} hc a z e => by
    rw [d a (hS a z).1] at e
    omega
  refine ⟨F, ⟨alp_fr3 a1 k n2 (nl (c1.imp id (fun z => ⟨z.1, z.2.1, Or.inl z.2.2⟩))), a2⟩, ⟨alp_fr3 b1 k n3 (nl (c2.imp id (fun z => ⟨z.1, z.2.1, Or.inr z.2.2⟩))), b2⟩, ⟨c1.imp id (fun z => ⟨z.1, Nat.lt_of_lt_of_le z.2.1 k.1.1, z.2.2⟩), c2.imp id (fun z => ⟨z.1, Nat.lt_of_lt_of_le z.2.1 k.1.1, z.2.2⟩)⟩, d, e1, e2, fun i hi => ⟨(f i hi).1, (f i hi).2.out hb k (hn (f i hi).1) (fun a z => (hS a z).2.2.2)⟩, fun i hi => ?_⟩
  obtain ⟨h1, j, h2, h3, h4⟩ := g i hi
  exact ⟨h1, j, h2, h3, h4.out k (hn h1)⟩
theorem S_modAt (hC : CvS ow ga gm M ms gs mb gb) (K0 : (∀ i, i < ms.length → x ≠ Int32.ofNat i) → Q (some .null) M) (K1 : ∀ i, i < ms.length → x = Int32.ofNat i → Q (some (.ref (ms.getD i 0))) M) : E (h + 4) mdX10_moduleAt [.ref 0, .int x] M Q := by
  obtain ⟨F, ⟨hA, h4⟩, -, -, -, -, -, hm, -⟩ := id hC
  refine KX10_moduleAt (h := h + 3) ?_
  unfold DX10_moduleAt_0 DX10_moduleAt_15 DX10_moduleAt_30
  refine ⟨fun z => K0 (fun i hi e => ?_), fun z => ⟨ok0 F, 2, rf0_2 F, hA.1, S_alSize (h := h + 2) hA (fun _ => ⟨_, rfl, fun y => ?_, fun y => K0 (fun i hi e => ?_)⟩)⟩⟩
  · rw [e] at z
    exact nn32 (by omega) z
  · obtain ⟨i, e, hi⟩ := nn_of z
    rw [e] at y ⊢
    have hl : i < ms.length := (ltn32 hi (by omega)).mp y
    exact ⟨2, rf0_2 F, hA.1, S_get (h := h) hA hl (fun _ => ⟨_, rfl, (hm i hl).2.on, K1 i hl e⟩)⟩
  · rw [e] at y
    exact y ((ltn32 (by omega) (by omega)).mpr hi)
theorem S_govAt (hC : CvS ow ga gm M ms gs mb gb) (K0 : (∀ i, i < gs.length → x ≠ Int32.ofNat i) → Q (some .null) M) (K1 : ∀ i, i < gs.length → x = Int32.ofNat i → Q (some (.ref (gs.getD i 0))) M) : E (h + 4) mdX10_governorAt [.ref 0, .int x] M Q := by
  obtain ⟨F, -, ⟨hA, h8⟩, -, -, -, -, -, hg⟩ := id hC
  refine KX10_governorAt (h := h + 3) ?_
  unfold DX10_governorAt_0 DX10_governorAt_15 DX10_governorAt_30
  refine ⟨fun z => K0 (fun i hi e => ?_), fun z => ⟨ok0 F, 3, rf0_3 F, hA.1, S_alSize (h := h + 2) hA (fun _ => ⟨_, rfl, fun y => ?_, fun y => K0 (fun i hi e => ?_)⟩)⟩⟩
  · rw [e] at z
    exact nn32 (by omega) z
  · obtain ⟨i, e, hi⟩ := nn_of z
    rw [e] at y ⊢
    have hl : i < gs.length := (ltn32 hi (by omega)).mp y
    obtain ⟨-, j, -, -, nw, nx, kp, gn, wr, ks, hv, -⟩ := hg i hl
    exact ⟨3, rf0_3 F, hA.1, S_get (h := h) hA hl (fun _ => ⟨_, rfl, hv.1.1, K1 i hl e⟩)⟩
  · rw [e] at y
    exact y ((ltn32 (by omega) (by omega)).mpr hi)
end
end
section
/-! the class's calls on governors -/
section
variable {ow : Nat → Nat} {ga : Nat → Td × PS × CoT} {gm : Nat → Nat} {M M' : Mem} {ms gs : List Nat} {mb gb h n0 : Nat} {S Wp : Nat → Prop} {Q : Option Value → Mem → Prop} {x y z w : Int32} {τ : Td} {σ : PS}
theorem CvS.fix (hC : CvS ow ga gm M ms gs mb gb) (k : fr S M M') (hS : ∀ a, S a → 132 ≤ a) : Fix M' := by
  have F := hC.1
  have r : ∀ a, a < 132 → sameRow M M' a := fun a ha => k.2 a (by have := F.1; omega) (fun z => by have := hS a z; omega)
  exact F.of_fr (S := S) k.1 (fun e he => by rw [(r e.1 (tRS_lt e he)).2.2.1]) (r 19 (by decide)).2.2.2.2.1
/-- a call that touches only cells of the owners Wp -/
theorem CvS.own (hC : CvS ow ga gm M ms gs mb gb) (hb : mN M < mBig) (k : fr S M M') (hS : ∀ a, S a → Wp (ow a) ∧ mK M a ≠ 0) (hW : ∀ v, Wp v → 132 ≤ v) (hm : ∀ i, i < ms.length → Wp (ms.getD i 0) → CmX ow M' (ms.getD i 0) (ga (ms.getD i 0)).1 (ga (ms.getD i 0)).2.1 (ga (ms.getD i 0)).2.2) (hg : ∀ i j, i < gs.length → j < ms.length → gm (gs.getD i 0) = ms.getD j 0 → Wp (gs.getD i 0) → GoX ow M' (gs.getD i 0) (ms.getD j 0) (npS (ga (ms.getD j 0)).2.1)) : CvS ow ga gm M' ms gs mb gb := by
  obtain ⟨-, ⟨a1, a2⟩, ⟨b1, b2⟩, ⟨c1, c2⟩, d, e1, e2, f, g⟩ := id hC
  have h132 : ∀ a, S a → 132 ≤ a := fun a z => by
    rcases Nat.lt_or_ge a 132 with y | y
    · have := hW _ (hS a z).1
      rw [d a y] at this
      omega
    · exact y
  have n2 : ∀ {r : Nat}, r < 132 → ¬ S r := fun hr z => by have := h132 _ z; omega
  have nl : ∀ {r : Nat}, (r = mBig + 5 ∨ (132 ≤ r ∧ r < mN M ∧ (ow r = 2 ∨ ow r = 3))) → ok M r 24 → ¬ S r := fun {r} h1 h2 z => by
    have := hW _ (hS r z).1
    rcases h1 with h1 | ⟨-, -, h1 | h1⟩
    · have := h2.1; omega
    · omega
    · omega
  refine ⟨hC.fix k h132, ⟨alp_fr3 a1 k (n2 (by decide)) (nl (c1.imp id (fun z => ⟨z.1, z.2.1, Or.inl z.2.2⟩))), a2⟩, ⟨alp_fr3 b1 k (n2 (by decide)) (nl (c2.imp id (fun z => ⟨z.1, z.2.1, Or.inr z.2.2⟩))), b2⟩, ⟨c1.imp id (fun z => ⟨z.1, Nat.lt_of_lt_of_le z.2.1 k.1.1, z.2.2⟩), c2.imp id (fun z => ⟨z.1, Nat.lt_of_lt_of_le z.2.1 k.1.1, z.2.2⟩)⟩, d, e1, e2, fun i hi => ⟨(f i hi).1, ?_⟩, fun i hi => ?_⟩
  · by_cases q : Wp (ms.getD i 0)
    · exact hm i hi q
    · exact (f i hi).2.out hb k (fun a z e => q (by rw [← e]; exact (hS a z).1)) (fun a z => (hS a z).2)
  · obtain ⟨h1, j, h2, h3, h4⟩ := g i hi
    refine ⟨h1, j, h2, h3, ?_⟩
    by_cases q : Wp (gs.getD i 0)
    · exact hg i j hi h2 h3 q
    · exact h4.out k (fun a z e => q (by rw [← e]; exact (hS a z).1))
/-- what governors' calls ask of a module -/
theorem CmX.fl {C : CoT} (hX : CmX ow M n0 τ σ C) : ∃ I pb ps, (mI M n0 9 = Int32.ofNat τ.1.length ∧ τ.1.length ≤ 16) ∧ (mI M n0 10 = Int32.ofNat I ∧ I ≤ 4) ∧ (mI M n0 12 = Int32.ofNat τ.2.2.2.1.length ∧ τ.2.2.2.1.length ≤ 6) ∧ (mI M n0 13 = Int32.ofNat (trS σ).2.1 ∧ (trS σ).2.1 ≤ 24) ∧ mR M n0 6 = some (n0 + 7) ∧ ALp M (n0 + 7) pb 5 ps ∧ ps.length = npS σ ∧ npS σ ≤ 40 := by
  obtain ⟨m, root, γ, g0, gw, Z0, P, zp, Ψ1, Ψ2, R, zn, fn, y0, q0, hl, lc, rc, cc, pb, ib, b1, b2, ya, na, pz, n1, ps, hp, hM, hz, -⟩ := hX
  obtain ⟨hP, ⟨p1, p2, p3, p4⟩, -, -, -, -, -, -, ⟨g1, -, g3, g4, -⟩⟩ := hM
  exact ⟨_, pb, ps, ⟨g1, hp.2.2.2.1⟩, ⟨hP.1.2.2.2.2, hP.2.2.2.2.2.1⟩, ⟨g3, hp.2.2.2.2.2.2.1⟩, ⟨g4, hp.2.2.2.2.2.2.2.1⟩, p1, p2, p3, p4⟩
theorem S_hasSg {S : Nat} (on : ok M n0 3) (e9 : mI M n0 9 = Int32.ofNat S) (hS : S ≤ 16) (K1 : ∀ i, i < S → x = Int32.ofNat i → Q (some (.int 1)) M) (K0 : (∀ i, i < S → x ≠ Int32.ofNat i) → Q (some (.int 0)) M) : E (h + 1) mdX1_hasSignal [.ref n0, .int x] M Q := by
  refine KX1_hasSignal ?_
  unfold DX1_hasSignal_0 DX1_hasSignal_16 DX1_hasSignal_17
  rw [e9]
  refine ⟨fun z => ⟨Or.inl rfl, K0 (fun i hi e => ?_)⟩, fun z => ⟨on, fun y => ⟨Or.inl rfl, K0 (fun i hi e => ?_)⟩, fun y => ⟨Or.inr rfl, ?_⟩⟩⟩
  · rw [e] at z; exact nn32 (by omega) z
  · rw [e] at y; have := (le32 (by omega) (by omega)).mp y; omega
  · obtain ⟨i, e, hi⟩ := nn_of z
    rw [e] at y
    refine K1 i ?_ e
    rcases Nat.lt_or_ge i S with q | q
    · exact q
    · exact absurd ((le32 (by omega) hi).mpr q) y
theorem S_hasPt {pb : Nat} {ps : List Nat} (on : ok M n0 3) (e6 : mR M n0 6 = some (n0 + 7)) (hA : ALp M (n0 + 7) pb 5 ps) (hl : ps.length ≤ 40) (K1 : ∀ i, i < ps.length → x = Int32.ofNat i → Q (some (.int 1)) M) (K0 : (∀ i, i < ps.length → x ≠ Int32.ofNat i) → Q (some (.int 0)) M) : E (h + 2) mdX1_hasPart [.ref n0, .int x] M Q := by
  refine KX1_hasPart (h := h + 1) ?_
  unfold DX1_hasPart_0 DX1_hasPart_19 DX1_hasPart_20
  refine ⟨fun z => ⟨Or.inl rfl, K0 (fun i hi e => ?_)⟩, fun z => ⟨on, n0 + 7, e6, hA.1, S_alSize (h := h) hA (fun _ => ⟨_, rfl, fun y => ⟨Or.inl rfl, K0 (fun i hi e => ?_)⟩, fun y => ⟨Or.inr rfl, ?_⟩⟩)⟩⟩
  · rw [e] at z; exact nn32 (by omega) z
  · rw [e] at y; have := (le32 (by omega) (by omega)).mp y; omega
  · obtain ⟨i, e, hi⟩ := nn_of z
    rw [e] at y
    refine K1 i ?_ e
    rcases Nat.lt_or_ge i ps.length with q | q
    · exact q
    · exact absurd ((le32 (by omega) hi).mpr q) y
/-- a governor and its module -/
theorem CvS.gv (hC : CvS ow ga gm M ms gs mb gb) {i : Nat} (hi : i < gs.length) : ∃ j nw nx kp gn wr ks, j < ms.length ∧ gm (gs.getD i 0) = ms.getD j 0 ∧ 132 ≤ gs.getD i 0 ∧ GvS M (gs.getD i 0) (ms.getD j 0) nw nx kp gn wr (npS (ga (ms.getD j 0)).2.1) ks ∧ GvR M (gs.getD i 0) nw nx gn ks ∧ ow (gs.getD i 0) = gs.getD i 0 ∧ (∀ r, grR nw nx wr gn ks r ∨ r = kp → ow r = gs.getD i 0) ∧ CmX ow M (ms.getD j 0) (ga (ms.getD j 0)).1 (ga (ms.getD j 0)).2.1 (ga (ms.getD j 0)).2.2 := by
  obtain ⟨h1, j, h2, h3, nw, nx, kp, gn, wr, ks, h4, h5, h6, h7⟩ := hC.2.2.2.2.2.2.2.2 i hi
  exact ⟨j, nw, nx, kp, gn, wr, ks, h2, h3, h1, h4, h5, h6, h7, (hC.2.2.2.2.2.2.2.1 j h2).2⟩
theorem G_present (hC : CvS ow ga gm M ms gs mb gb) (K : ∀ r : Int32, Q (some (.int r)) M) : E (h + 5) mdX10_present [.ref 0, .int x, .int y] M Q := by
  refine KX10_present (h := h + 4) ?_
  unfold DX10_present_0 DX10_present_21
  refine ⟨ok0 hC.1, S_govAt (h := h) hC (fun _ _ => ⟨none, rfl, fun _ => K _, fun b e => absurd e (by simp)⟩) (fun i hi _ _ => ⟨some _, rfl, fun e => absurd e (by simp), fun b e => ?_⟩)⟩
  cases e
  obtain ⟨j, nw, nx, kp, gn, wr, ks, hj, -, -, hv, hr, -, -, hm⟩ := hC.gv hi
  obtain ⟨I, pb, ps, ⟨e9, h9⟩, -⟩ := hm.fl
  exact ⟨hv.1.1, _, hv.1.2.1, hm.on, S_hasSg (h := h + 3) hm.on e9 h9 (fun _ _ _ _ => ⟨1, rfl, fun _ => K _, fun z => absurd z (by decide)⟩) (fun _ _ => ⟨0, rfl, fun z => absurd rfl z, fun _ => K _⟩)⟩
theorem G_value (hC : CvS ow ga gm M ms gs mb gb) (K : ∀ r : Int32, Q (some (.int r)) M) : E (h + 5) mdX10_value [.ref 0, .int x, .int y] M Q := by
  refine KX10_value (h := h + 4) ?_
  unfold DX10_value_0 DX10_value_21
  refine ⟨ok0 hC.1, S_govAt (h := h) hC (fun _ _ => ⟨none, rfl, fun _ => K _, fun b e => absurd e (by simp)⟩) (fun i hi _ _ => ⟨some _, rfl, fun e => absurd e (by simp), fun b e => ?_⟩)⟩
  cases e
  obtain ⟨j, nw, nx, kp, gn, wr, ks, hj, -, -, hv, hr, -, -, hm⟩ := hC.gv hi
  obtain ⟨I, pb, ps, ⟨e9, h9⟩, -⟩ := hm.fl
  refine ⟨hv.1.1, _, hv.1.2.1, hm.on, S_hasSg (h := h + 3) hm.on e9 h9 (fun q hq eq _ => ⟨1, rfl, fun _ => ⟨nw, hv.1.2.2.1, hv.2.1.1.1, ?_, K _⟩, fun z => absurd z (by decide)⟩) (fun _ _ => ⟨0, rfl, fun z => absurd rfl z, fun _ => K _⟩)⟩
  rw [eq, hv.2.1.1.2, show (4 : Int32) + Int32.ofNat q = Int32.ofNat (4 + q) from by rw [Int32.ofNat_add]; rfl]
  exact vp_of (by omega) (by decide)
theorem G_variable (hC : CvS ow ga gm M ms gs mb gb) (K : ∀ r : Int32, Q (some (.int r)) M) : E (h + 5) mdX10_variable [.ref 0, .int x, .int y] M Q := by
  refine KX10_variable (h := h + 4) ?_
  unfold DX10_variable_0 DX10_variable_25
  refine ⟨ok0 hC.1, S_govAt (h := h) hC (fun _ _ => ⟨none, rfl, fun _ => K _, fun b e => absurd e (by simp)⟩) (fun i hi _ _ => ⟨some _, rfl, fun e => absurd e (by simp), fun b e => ?_⟩)⟩
  cases e
  obtain ⟨j, nw, nx, kp, gn, wr, ks, hj, -, -, hv, hr, -, -, hm⟩ := hC.gv hi
  obtain ⟨I, pb, ps, -, -, ⟨e12, h12⟩, -⟩ := hm.fl
  refine ⟨fun _ => K _, fun z => ⟨hv.1.1, _, hv.1.2.1, hm.on, fun q => ⟨nw, hv.1.2.2.1, hv.2.1.1.1, ?_, K _⟩, fun _ => K _⟩⟩
  obtain ⟨v, ev, hv2⟩ := nn_of z
  rw [e12, ev] at q
  have := (ltn32 hv2 (by omega)).mp q
  rw [ev, hv.2.1.1.2, show (20 : Int32) + Int32.ofNat v = Int32.ofNat (20 + v) from by rw [Int32.ofNat_add]; rfl]
  exact vp_of (by omega) (by decide)
theorem G_paused (hC : CvS ow ga gm M ms gs mb gb) (K : ∀ r : Int32, Q (some (.int r)) M) : E (h + 5) mdX10_paused [.ref 0, .int x, .int y] M Q := by
  refine KX10_paused (h := h + 4) ?_
  unfold DX10_paused_0 DX10_paused_25
  refine ⟨ok0 hC.1, S_govAt (h := h) hC (fun _ _ => ⟨none, rfl, fun _ => K _, fun b e => absurd e (by simp)⟩) (fun i hi _ _ => ⟨some _, rfl, fun e => absurd e (by simp), fun b e => ?_⟩)⟩
  cases e
  obtain ⟨j, nw, nx, kp, gn, wr, ks, hj, -, -, hv, hr, -, -, hm⟩ := hC.gv hi
  exact ⟨fun _ => K _, fun z => ⟨hv.1.1, _, hv.1.2.1, hm.on, fun q => ⟨nw, hv.1.2.2.1, hv.2.1.1.1, by rw [hv.2.1.1.2]; exact vp_of (n := 0) (by decide) (by decide), K _⟩, fun _ => K _⟩⟩
theorem G_wire (hC : CvS ow ga gm M ms gs mb gb) (K : ∀ r : Int32, Q (some (.int r)) M) : E (h + 5) mdX10_wire [.ref 0, .int x, .int y, .int z] M Q := by
  refine KX10_wire (h := h + 4) ?_
  unfold DX10_wire_0 DX10_wire_24 DX10_wire_35
  refine ⟨ok0 hC.1, S_govAt (h := h) hC (fun _ _ => ⟨none, rfl, fun _ => K _, fun b e => absurd e (by simp)⟩) (fun i hi _ _ => ⟨some _, rfl, fun e => absurd e (by simp), fun b e => ?_⟩)⟩
  cases e
  obtain ⟨j, nw, nx, kp, gn, wr, ks, hj, -, -, hv, hr, -, -, hm⟩ := hC.gv hi
  obtain ⟨I, pb, ps, -, -, -, -, e6, hA, hl, h40⟩ := hm.fl
  refine ⟨hv.1.1, _, hv.1.2.1, hm.on, S_hasPt (h := h + 2) hm.on e6 hA (by omega) (fun q hq eq _ => ⟨1, rfl, fun _ => ⟨fun _ => K _, fun _ => ⟨fun _ => ?_, fun _ => K _⟩⟩, fun z => absurd z (by decide)⟩) (fun _ _ => ⟨0, rfl, fun z => absurd rfl z, fun _ => K _⟩)⟩
  rw [eq]
  exact S_wire (h := h + 3) hv (by omega) h40 (fun r _ => ⟨r, rfl, K _⟩)
theorem G_same (hC : CvS ow ga gm M ms gs mb gb) (K : ∀ r : Int32, Q (some (.int r)) M) : E (h + 5) mdX10_same [.ref 0, .int x, .int y] M Q := by
  refine KX10_same (h := h + 4) ?_
  unfold DX10_same_0 DX10_same_22 DX10_same_53
  have two : ∀ o3 : Option Nat, (o3 = none ∨ ∃ i, i < gs.length ∧ o3 = some (gs.getD i 0)) → E (h + 4) mdX10_governorAt [.ref 0, .int y] M (fun r M4 => mE M M4 → ∃ o5 : Option Nat, r = some (va_rf o5) ∧ (o3 = none → Q (some (.int (-1))) M4) ∧ (∀ b6, o3 = some b6 → (o5 = none → Q (some (.int (-1))) M4) ∧ (∀ b7, o5 = some b7 → ok M4 b6 4 ∧ ok M4 b7 4 ∧ ((mI M4 b6 1) = (mI M4 b7 1) → E (h + 4) mdX2_likeOther [.ref b6, .ref b7] M4 (fun r M10 => mE M4 M10 → ∃ r11 : Int32, r = some (.int r11) ∧ (r11 = 0 → Q (some (.int 0)) M10) ∧ (¬ (r11 = 0) → Q (some (.int 1)) M10))) ∧ (¬ ((mI M4 b6 1) = (mI M4 b7 1)) → Q (some (.int (-2))) M4)))) := by
    intro o3 ho
    refine S_govAt (h := h) hC (fun _ _ => ⟨none, rfl, fun _ => K _, fun b6 _ => ⟨fun _ => K _, fun b e => absurd e (by simp)⟩⟩) (fun i hi _ _ => ⟨some _, rfl, fun _ => K _, fun b6 e6 => ⟨fun _ => K _, fun b e => ?_⟩⟩)
    cases e
    rcases ho with ho | ⟨q, hq, ho⟩
    · rw [ho] at e6; exact absurd e6 (by simp)
    · rw [ho] at e6
      cases e6
      obtain ⟨j, nw, nx, kp, gn, wr, ks, hj, -, -, hv, hr, -⟩ := hC.gv hi
      obtain ⟨j2, nw2, nx2, kp2, gn2, wr2, ks2, hj2, -, -, hv2, hr2, -⟩ := hC.gv hq
      exact ⟨hv2.1.1, hv.1.1, fun _ => S_like (h := h + 3) hv2 hv (fun r _ _ => ⟨r, rfl, fun _ => K _, fun _ => K _⟩), fun _ => K _⟩
  exact ⟨ok0 hC.1, S_govAt (h := h) hC (fun _ _ => ⟨none, rfl, two none (Or.inl rfl)⟩) (fun i hi _ _ => ⟨some _, rfl, two _ (Or.inr ⟨i, hi, rfl⟩)⟩)⟩
/-- governor i alone has changed -/
theorem CvS.gm1 (hC : CvS ow ga gm M ms gs mb gb) (hb : mN M < mBig) {i : Nat} (hi : i < gs.length) {fs R : Nat → Prop} (k : GmF (gs.getD i 0) fs R M M') (hR : ∀ r, R r → ow r = gs.getD i 0 ∧ mK M r ≠ 0) (hG : ∀ j, j < ms.length → gm (gs.getD i 0) = ms.getD j 0 → GoX ow M' (gs.getD i 0) (ms.getD j 0) (npS (ga (ms.getD j 0)).2.1)) : CvS ow ga gm M' ms gs mb gb := by
  obtain ⟨j, nw, nx, kp, gn, wr, ks, hj, e1, e2, hv, hr, ho, -, -⟩ := hC.gv hi
  refine hC.own (Wp := fun v => v = gs.getD i 0) hb k.fr (fun a z => ?_) (fun v z => by rw [z]; exact e2) (fun q hq z => ?_) (fun q q2 hq hq2 e z => ?_)
  · rcases z with z | z
    · rw [z]; exact ⟨ho, by rw [hv.1.1.2]; decide⟩
    · exact hR a z
  · exfalso
    have := (hC.2.2.2.2.2.2.2.1 q hq).2.on
    rw [z, ] at this
    exact absurd (this.2.symm.trans hv.1.1.2) (by decide)
  · have : q = i := hC.2.2.2.2.2.2.1 q i hq hi z
    subst this
    exact hG q2 hq2 e
theorem G_give (hC : CvS ow ga gm M ms gs mb gb) (hb : mN M < mBig) (K : ∀ M' (r : Int32), CvS ow ga gm M' ms gs mb gb → fr (fun a => ∃ i, i < gs.length ∧ ow a = gs.getD i 0) M M' → (mN M' = mN M ∧ mS M' = mS M) → (∀ q, q < gs.length → mI M' (gs.getD q 0) 5 = mI M (gs.getD q 0) 5) → Q (some (.int r)) M') : E (h + 5) mdX10_give [.ref 0, .int x, .int y, .int z, .int w] M Q := by
  have K0 : ∀ r, Q (some (.int r)) M := fun r => K M r hC fr.rf ⟨rfl, rfl⟩ (fun _ _ => rfl)
  refine KX10_give (h := h + 4) ?_
  unfold DX10_give_0 DX10_give_28 DX10_give_44
  refine ⟨ok0 hC.1, S_govAt (h := h) hC (fun _ _ => ⟨none, rfl, fun _ => K0 _, fun b e => absurd e (by simp)⟩) (fun i hi _ _ => ⟨some _, rfl, fun e => absurd e (by simp), fun b e => ?_⟩)⟩
  cases e
  obtain ⟨j, nw, nx, kp, gn, wr, ks, hj, ej, e2, hv, hr, ho, hrow, hm⟩ := hC.gv hi
  obtain ⟨I, pb, ps, -, ⟨e10, h10⟩, -⟩ := hm.fl
  refine ⟨fun _ => K0 _, fun q0 => ⟨hv.1.1, _, hv.1.2.1, hm.on, fun q1 => ⟨fun _ => K0 _, fun q2 => ⟨fun q3 => S_hasE (h := h + 3) hv (fun r9 _ _ => ⟨r9, rfl, fun _ => ?_, fun _ => K0 _⟩), fun _ => K0 _⟩⟩, fun _ => K0 _⟩⟩
  obtain ⟨v, ev, hv2⟩ := nn_of q0
  rw [e10, ev] at q1
  have v4 := (ltn32 hv2 (by omega)).mp q1
  rw [ev]
  refine S_take (h := h + 3) hv hr (by omega) ?_ (fun M10 k10 R10 _ => ⟨rfl, K M10 _ (hC.gm1 hb hi k10 (fun r er => ⟨hrow r (Or.inl (Or.inr (Or.inr (Or.inr (Or.inl er))))), by rw [er, hv.2.1.2.2.1.1.2]; decide⟩) (fun j2 hj2 e => ?_)) (k10.fr.more (fun a _ z => ?_)) ⟨k10.1.1, k10.1.2.1⟩ (fun q hq => ?_)⟩)
  · refine InG.o ?_ ?_
    · rw [Int32.toInt_toInt64]
      have := Int32.not_lt.mp q2
      rw [Int32.le_iff_toInt_le] at this
      exact this
    · rw [Int32.toInt_toInt64]
      rw [Int32.le_iff_toInt_le] at q3
      exact q3
  · have : j2 = j := hC.2.2.2.2.2.1 j2 j hj2 hj (e.symm.trans ej)
    subst this
    exact ⟨nw, nx, kp, gn, wr, ks, hv.gm k10, R10, ho, hrow⟩
  · rcases z with z | z
    · exact ⟨i, hi, by rw [z]; exact ho⟩
    · exact ⟨i, hi, hrow a (Or.inl (Or.inr (Or.inr (Or.inr (Or.inl z)))))⟩
  · by_cases z : gs.getD q 0 = gs.getD i 0
    · rw [z, k10.2.2.2.1 5 (by decide)]
    · rw [k10.2.2.1 _ z]
end
end
section
/-! the class's keep, back, beat -/
section
variable {ow : Nat → Nat} {ga : Nat → Td × PS × CoT} {gm : Nat → Nat} {M M' : Mem} {ms gs : List Nat} {mb gb h n0 : Nat} {Q : Option Value → Mem → Prop} {x : Int32}
theorem ge132 (hC : CvS ow ga gm M ms gs mb gb) {a v : Nat} (hv : 132 ≤ v) (e : ow a = v) : 132 ≤ a := by
  rcases Nat.lt_or_ge a 132 with y | y
  · rw [hC.2.2.2.2.1 a y] at e; omega
  · exact y
theorem G_keep (hC : CvS ow ga gm M ms gs mb gb) (hb : mN M < mBig) (K0 : (∀ i, i < gs.length → x ≠ Int32.ofNat i) → Q (some (.int (-1))) M) (K3 : ∀ i, i < gs.length → x = Int32.ofNat i → mI M (gs.getD i 0) 5 = Int32.ofNat 3 → Q (some (.int (-3))) M) (K : ∀ i q M', i < gs.length → x = Int32.ofNat i → q < 3 → mI M (gs.getD i 0) 5 = Int32.ofNat q → CvS ow ga gm M' ms gs mb gb → fr (fun a => ∃ i, i < gs.length ∧ ow a = gs.getD i 0) M M' → (mN M' = mN M ∧ mS M' = mS M) → mI M' (gs.getD i 0) 5 = Int32.ofNat (q + 1) → (∀ j, j < gs.length → j ≠ i → mI M' (gs.getD j 0) 5 = mI M (gs.getD j 0) 5) → Q (some (.int (Int32.ofNat (q + 1)))) M') : E (h + 5) mdX10_keep [.ref 0, .int x] M Q := by
  refine KX10_keep (h := h + 4) ?_
  unfold DX10_keep_0
  refine ⟨ok0 hC.1, S_govAt (h := h) hC (fun ne _ => ⟨none, rfl, fun _ => K0 ne, fun b e => absurd e (by simp)⟩) (fun i hi ex _ => ⟨some _, rfl, fun e => absurd e (by simp), fun b e => ?_⟩)⟩
  cases e
  obtain ⟨j, nw, nx, kp, gn, wr, ks, hj, ej, e2, hv, hr, ho, hrow, hm⟩ := hC.gv hi
  obtain ⟨q, q3, eq⟩ := hr.2.2.2.2
  refine ⟨hv.1.1, fun z => ?_, fun z => K3 i hi ex ?_⟩
  · rw [eq] at z
    have lt : q < 3 := (ltn32 (a := q) (b := 3) (by omega) (by decide)).mp z
    refine S_store (h := h + 3) hv hr eq lt (fun M6 k6 R6 e6 _ => ⟨rfl, ?_⟩)
    rw [e6]
    refine K i q M6 hi ex lt eq (hC.gm1 hb hi k6 (fun r er => ⟨hrow r (Or.inl (Or.inr (Or.inr (Or.inr (Or.inr ⟨q, lt, er⟩))))), by rw [er, (hv.2.2.1.2.2 q lt).2.1.2]; decide⟩) (fun j2 hj2 e => ?_)) (k6.fr.more (fun a _ z => ?_)) ⟨k6.1.1, k6.1.2.1⟩ e6 (fun j2 hj2 ne => ?_)
    · have : j2 = j := hC.2.2.2.2.2.1 j2 j hj2 hj (e.symm.trans ej)
      subst this
      exact ⟨nw, nx, kp, gn, wr, ks, hv.gm k6, R6, ho, hrow⟩
    · rcases z with z | z
      · exact ⟨i, hi, by rw [z]; exact ho⟩
      · exact ⟨i, hi, hrow a (Or.inl (Or.inr (Or.inr (Or.inr (Or.inr ⟨q, lt, z⟩)))))⟩
    · rw [k6.2.2.1 _ (fun z => ne (hC.2.2.2.2.2.2.1 j2 i hj2 hi z))]
  · rw [eq] at z ⊢
    have : ¬ q < 3 := fun y => z ((ltn32 (a := q) (b := 3) (by omega) (by decide)).mpr y)
    rw [show q = 3 by omega]
theorem G_back (hC : CvS ow ga gm M ms gs mb gb) (hb : mN M < mBig) (K0 : (∀ i, i < gs.length → x ≠ Int32.ofNat i) → Q (some (.int (-1))) M) (K3 : ∀ i, i < gs.length → x = Int32.ofNat i → mI M (gs.getD i 0) 5 = Int32.ofNat 0 → Q (some (.int (-2))) M) (K : ∀ i q M', i < gs.length → x = Int32.ofNat i → q < 3 → mI M (gs.getD i 0) 5 = Int32.ofNat (q + 1) → CvS ow ga gm M' ms gs mb gb → fr (fun a => ∃ i, i < gs.length ∧ ow a = gs.getD i 0) M M' → (mN M' = mN M ∧ mS M' = mS M) → mI M' (gs.getD i 0) 5 = Int32.ofNat q → (∀ j, j < gs.length → j ≠ i → mI M' (gs.getD j 0) 5 = mI M (gs.getD j 0) 5) → Q (some (.int (Int32.ofNat q))) M') : E (h + 5) mdX10_back [.ref 0, .int x] M Q := by
  refine KX10_back (h := h + 4) ?_
  unfold DX10_back_0
  refine ⟨ok0 hC.1, S_govAt (h := h) hC (fun ne _ => ⟨none, rfl, fun _ => K0 ne, fun b e => absurd e (by simp)⟩) (fun i hi ex _ => ⟨some _, rfl, fun e => absurd e (by simp), fun b e => ?_⟩)⟩
  cases e
  obtain ⟨j, nw, nx, kp, gn, wr, ks, hj, ej, e2, hv, hr, ho, hrow, hm⟩ := hC.gv hi
  obtain ⟨q, q3, eq⟩ := hr.2.2.2.2
  obtain ⟨I, pb, ps, -, -, -, -, -, -, hl, h40⟩ := hm.fl
  refine ⟨hv.1.1, fun z => ?_, fun z => K3 i hi ex z⟩
  rw [eq] at z
  obtain ⟨q, rfl⟩ : ∃ q', q = q' + 1 := by
    cases q with
    | zero => exact absurd rfl z
    | succ q => exact ⟨q, rfl⟩
  refine S_rest (h := h + 2) hv hr h40 eq (by omega) (fun M6 k6 R6 e6 _ => ⟨rfl, ?_⟩)
  rw [e6]
  have rw4 : ∀ r, (r = nw ∨ r = wr) → grR nw nx wr gn ks r := fun r er => er.elim (fun y => Or.inl y) (fun y => Or.inr (Or.inr (Or.inl y)))
  refine K i q M6 hi ex (by omega) eq (hC.gm1 hb hi k6 (fun r er => ⟨hrow r (Or.inl (rw4 r er)), ?_⟩) (fun j2 hj2 e => ?_)) (k6.fr.more (fun a _ z => ?_)) ⟨k6.1.1, k6.1.2.1⟩ e6 (fun j2 hj2 ne => ?_)
  · rcases er with er | er
    · rw [er, hv.2.1.1.1.2]; decide
    · rw [er, hv.2.1.2.2.2.1.2]; decide
  · have : j2 = j := hC.2.2.2.2.2.1 j2 j hj2 hj (e.symm.trans ej)
    subst this
    exact ⟨nw, nx, kp, gn, wr, ks, hv.gm k6, R6, ho, hrow⟩
  · rcases z with z | z
    · exact ⟨i, hi, by rw [z]; exact ho⟩
    · exact ⟨i, hi, hrow a (Or.inl (rw4 a z))⟩
  · rw [k6.2.2.1 _ (fun z => ne (hC.2.2.2.2.2.2.1 j2 i hj2 hi z))]
/-- how much room the lanes of module n0 still want -/
def lnS (M : Mem) (n0 : Nat) : Nat := match mR M (n0 + 8) 2 with
  | some ya => if mL M ya < (mI M (n0 + 8) 4).toNatClampNeg then 2 * (mI M (n0 + 8) 4).toNatClampNeg else 0
  | none => 0
def lnN (M : Mem) (n0 : Nat) : Nat := match mR M (n0 + 8) 2 with
  | some ya => if mL M ya < (mI M (n0 + 8) 4).toNatClampNeg then 2 else 0
  | none => 0
theorem CvS.owN {ow' : Nat → Nat} (hC : CvS ow ga gm M ms gs mb gb) (ho : ∀ a, a < mN M → ow' a = ow a) : CvS ow' ga gm M ms gs mb gb := by
  obtain ⟨F, a, b, ⟨c1, c2⟩, d, e1, e2, f, g⟩ := hC
  refine ⟨F, a, b, ⟨c1.imp id (fun z => ⟨z.1, z.2.1, by rw [ho _ z.2.1]; exact z.2.2⟩), c2.imp id (fun z => ⟨z.1, z.2.1, by rw [ho _ z.2.1]; exact z.2.2⟩)⟩, fun a ha => by rw [ho a (by have := F.1; omega)]; exact d a ha, e1, e2, fun i hi => ⟨(f i hi).1, (f i hi).2.own ho⟩, fun i hi => ?_⟩
  obtain ⟨h1, j, h2, h3, h4⟩ := g i hi
  exact ⟨h1, j, h2, h3, h4.own ho⟩
theorem ln_at {ya na len lc rc : Nat} {N : Nt} (hc : CirP M (n0 + 8) lc rc N) (h2 : mR M (n0 + 8) 2 = some ya) (hl : N.length = len) (hlt : len < 100000) : lnS M n0 = (if mL M ya < len then 2 * len else 0) ∧ lnN M n0 = if mL M ya < len then 2 else 0 := by
  have e : (mI M (n0 + 8) 4).toNatClampNeg = len := by rw [hc.2.2.2.2.2.1, hl]; exact lt32 (by omega)
  unfold lnS lnN
  rw [h2, e]
  exact ⟨rfl, rfl⟩
theorem ln_fr {S : Nat → Prop} {τ : Td} {σ : PS} {C : CoT} (hX : CmX ow M n0 τ σ C) (k : fr S M M') (hS : ∀ a, S a → ow a ≠ n0) : lnS M' n0 = lnS M n0 ∧ lnN M' n0 = lnN M n0 ∧ mR M' n0 = mR M n0 := by
  obtain ⟨m, root, γ, g0, gw, Z0, P, zp, Ψ1, Ψ2, R, zn, fn, y0, q0, hl, lc, rc, cc, pb, ib, b1, b2, ya, na, pz, n1, ps, hp, hM, hz, ⟨z1, z2, z3, z4⟩, hs⟩ := hX
  have n25 := hz.1
  have oxx : ok M (n0 + 8) 2 := hM.2.2.2.2.2.1.1.1.1
  have oy : ok M ya 21 := hM.2.2.2.2.2.1.1.2.1.2.1
  have r8 := k.2 (n0 + 8) oxx.1 (fun z => hS _ z (z2 _ (by omega) (by omega)))
  have r0 := k.2 n0 hM.1.1.1.1 (fun z => hS _ z (z2 _ (by omega) (by omega)))
  have e2 := hM.2.2.2.2.2.1.1.2.1.1
  refine ⟨?_, ?_, r0.2.2.1⟩
  · unfold lnS
    rw [r8.2.2.1, r8.1, e2]
    show (if mL M' ya < _ then _ else 0) = if mL M ya < _ then _ else 0
    rw [(k.1.2.2 ya oy.1).2]
  · unfold lnN
    rw [r8.2.2.1, r8.1, e2]
    show (if mL M' ya < _ then 2 else 0) = if mL M ya < _ then 2 else 0
    rw [(k.1.2.2 ya oy.1).2]
set_option maxHeartbeats 1000000 in
theorem G_beat (hC : CvS ow ga gm M ms gs mb gb) (hb : mN M + 4 < mBig) (K0 : ∀ r : Int32, Q (some (.int r)) M) (K : ∀ M' ow' c (r : Int32), (∃ j, j < ms.length ∧ c = ms.getD j 0) → (∀ a, a < mN M → ow' a = ow a) → CvS ow' ga gm M' ms gs mb gb → fr (fun a => 132 ≤ a) M M' → (mN M' + lnN M' c ≤ mN M + lnN M c ∧ mS M' + lnS M' c ≤ mS M + lnS M c) → (∀ j, j < ms.length → ms.getD j 0 ≠ c → lnS M' (ms.getD j 0) = lnS M (ms.getD j 0) ∧ lnN M' (ms.getD j 0) = lnN M (ms.getD j 0)) → (∀ j, j < ms.length → mR M' (ms.getD j 0) 17 = mR M (ms.getD j 0) 17) → (∀ q, q < gs.length → mI M' (gs.getD q 0) 5 = mI M (gs.getD q 0) 5) → Q (some (.int r)) M') : E (h + 9) mdX10_beat [.ref 0, .int x] M Q := by
  refine KX10_beat (h := h + 8) ?_
  unfold DX10_beat_0
  refine ⟨ok0 hC.1, S_govAt (h := h + 4) hC (fun ne _ => ⟨none, rfl, fun _ => K0 _, fun b e => absurd e (by simp)⟩) (fun i hi ex _ => ⟨some _, rfl, fun e => absurd e (by simp), fun b e => ?_⟩)⟩
  cases e
  obtain ⟨j0, -, -, -, -, -, -, hj0, ej0, -⟩ := hC.gv hi
  obtain ⟨ow', how'⟩ : ∃ ow' : Nat → Nat, ow' = fun a => if a < mN M then ow a else ms.getD j0 0 := ⟨_, rfl⟩
  have hag : ∀ a, a < mN M → ow' a = ow a := fun a ha => by rw [how']; exact if_pos ha
  have hnew : ∀ a, mN M ≤ a → ow' a = ms.getD j0 0 := fun a ha => by rw [how']; exact if_neg (by omega)
  have hC0 := hC
  replace hC := hC.owN hag
  have K := fun M' c r => K M' ow' c r
  clear how'
  obtain ⟨j, nw, nx, kp, gn, wr, ks, hj, ej, e2, hv, hr, ho, hrow, hm⟩ := hC.gv hi
  rw [show ms.getD j0 0 = ms.getD j 0 from ej0.symm.trans ej] at hnew
  have hn := (hC.2.2.2.2.2.2.2.1 j hj).1
  generalize hn0 : ms.getD j 0 = n0 at hv hm hn hnew ej
  generalize hgg : gs.getD i 0 = g at hv hr ho hrow e2 ej
  obtain ⟨m, root, γ, g0, gw, Z0, P, zp, Ψ1, Ψ2, R, zn, fn, y0, q0, hl, lc, rc, cc, pb, ib, b1, b2, ya, na, pz, n1, ps, ⟨hW, hT, hR, h16, hX, hif, hva, hpz⟩, hM, hz, ⟨z1, z2, z3, z4⟩, hs⟩ := id hm
  refine ⟨hv.1.1, S_hasE (h := h + 7) hv (fun r7 _ _ => ⟨r7, rfl, fun _ => ?_, fun _ => K0 _⟩)⟩
  have n25 := hz.1
  have cs := hM.2.2.2.2.2.1
  have oy : ok M ya 21 := cs.1.2.1.2.1
  have on : ok M na 21 := cs.1.2.2.1.2.1
  have gne : g ≠ n0 := fun e => by
    have := hM.1.1.1
    rw [← e] at this
    exact absurd (this.2.symm.trans hv.1.1.2) (by decide)
  -- rows of the governor and of the module are apart
  have owm : ∀ {r q : Nat}, ok M r q → inZ n0 n1 r → ow' r = n0 := fun {r q} o hi2 => by
    rcases hi2 with y | y
    · exact z2 r y.1 y.2
    · have := o.1; omega
  have i25 : ∀ c, c < 25 → inZ n0 n1 (n0 + c) := fun c hc => Or.inl ⟨by omega, by omega⟩
  have ce := hM.2.2.2.2.2.2.1
  have mrow : ∀ r, mrR cc (n0 + 4) lc rc (n0 + 20) (n0 + 17) (n0 + 18) (n0 + 19) r → ow' r = n0 := fun r hr2 => by
    unfold mrR at hr2
    rcases hr2 with e | e | e | e | e | e | e | e <;> rw [e]
    · exact owm hM.1.2.1.1.2.2.1 hz.2.2.2.1
    · exact owm hM.1.2.2.2.1 (i25 4 (by decide))
    · exact owm cs.1.1.2.2.1 hz.2.1
    · exact owm cs.1.1.2.2.2.2.1 hz.2.2.1
    · exact owm cs.2.2.2.1.2.1 (i25 20 (by decide))
    · exact owm ce.2.1.2.1 (i25 17 (by decide))
    · exact owm ce.2.2.1.2.1 (i25 18 (by decide))
    · exact owm ce.2.2.2.1.2.1 (i25 19 (by decide))
  have dj : DjR (grR nw nx wr gn ks) (mrR cc (n0 + 4) lc rc (n0 + 20) (n0 + 17) (n0 + 18) (n0 + 19)) ya na := by
    refine ⟨fun r hr2 => ⟨fun e => ?_, fun e => ?_, fun e => ?_⟩, hM.2.2.2.2.2.2.2.1⟩
    · have := hrow r (Or.inl hr2); rw [e, z3] at this; exact gne this.symm
    · have := hrow r (Or.inl hr2); rw [e, z4] at this; exact gne this.symm
    · have := hrow r (Or.inl hr2); rw [mrow r e] at this; exact gne this.symm
  have hB : BtS M g n0 nw nx kp gn wr ks (n0 + 22) cc (n0 + 24) (n0 + 3) (n0 + 4) (inL (ga n0).1.2.1).length (coS (ga n0).2.1) (ga n0).2.1.2.2.1 (n0 + 7) pb ps (ga n0).1.1.length (ga n0).1.2.1 (ifS (ga n0).2.1) Ψ2.1.length := by
    refine ⟨?_, hM.1, ⟨hM.2.1.1, hM.2.1.2.1, by have := hM.2.1; omega⟩, fun q hq => (hM.2.2.1 q hq).1, hM.2.2.2.1⟩
    rw [hM.2.1.2.2.1]
    exact hv
  refine S_react (h := h) hW hT hR h16 hX (by omega) hB hM.2.2.2.2.1 cs ce hr dj (fun M8 ya' na' nw' nx' r9 rf hv8 hr8 _ => ⟨r9, rfl, ?_⟩)
  obtain ⟨f8, ⟨x1, x2, x3, x4, x5⟩, ⟨s1, s2, s3, s4⟩, k5, nn, ⟨o1, l1, l2, o2, l3, l4⟩, sw⟩ := rf
  have e8 := f8.1
  -- owners of new cells
  have dn : ∀ {r : Nat}, r = g ∨ r = n0 + 22 ∨ r = n0 + 24 ∨ r = n0 + 8 ∨ r = ya ∨ r = na ∨ r = nw ∨ r = nx ∨ r = wr → (ow' r = g ∨ ow' r = n0) ∧ mK M r ≠ 0 := fun {r} zz => by
    have osm : ok M (n0 + 22) 8 := hM.1.2.1.1.1
    have ost : ok M (n0 + 24) 23 := hM.1.2.1.2.1.2.1
    have oxx : ok M (n0 + 8) 2 := cs.1.1.1
    rcases zz with e | e | e | e | e | e | e | e | e <;> rw [e]
    · exact ⟨Or.inl ho, by rw [hv.1.1.2]; decide⟩
    · exact ⟨Or.inr (owm osm (i25 22 (by decide))), by rw [osm.2]; decide⟩
    · exact ⟨Or.inr (owm ost (i25 24 (by decide))), by rw [ost.2]; decide⟩
    · exact ⟨Or.inr (owm oxx (i25 8 (by decide))), by rw [oxx.2]; decide⟩
    · exact ⟨Or.inr z3, by rw [oy.2]; decide⟩
    · exact ⟨Or.inr z4, by rw [on.2]; decide⟩
    · exact ⟨Or.inl (hrow nw (Or.inl (Or.inl rfl))), by rw [hv.2.1.1.1.2]; decide⟩
    · exact ⟨Or.inl (hrow nx (Or.inl (Or.inr (Or.inl rfl)))), by rw [hv.2.1.2.1.1.2]; decide⟩
    · exact ⟨Or.inl (hrow wr (Or.inl (Or.inr (Or.inr (Or.inl rfl))))), by rw [hv.2.1.2.2.2.1.2]; decide⟩
  have ogr : ∀ {r q : Nat}, ok M r q → q ≠ 4 → q ≠ 8 → q ≠ 23 → q ≠ 2 → q ≠ 21 → ¬ (r = g ∨ r = n0 + 22 ∨ r = n0 + 24 ∨ r = n0 + 8 ∨ r = ya ∨ r = na ∨ r = nw ∨ r = nx ∨ r = wr) := fun {r q} o h4 h8 h23 h2 h21 zz => by
    have e := o.2
    rcases zz with y | y | y | y | y | y | y | y | y <;> rw [y] at e
    · exact h4 (e.symm.trans hv.1.1.2)
    · exact h8 (e.symm.trans hM.1.2.1.1.1.2)
    · exact h23 (e.symm.trans hM.1.2.1.2.1.2.1.2)
    · exact h2 (e.symm.trans cs.1.1.1.2)
    · exact h21 (e.symm.trans oy.2)
    · exact h21 (e.symm.trans on.2)
    · exact h21 (e.symm.trans hv.2.1.1.1.2)
    · exact h21 (e.symm.trans hv.2.1.2.1.1.2)
    · exact h21 (e.symm.trans hv.2.1.2.2.2.1.2)
  have on0 : ok M n0 3 := hM.1.1.1
  have rn0 := f8.2 n0 on0.1 (ogr on0 (by decide) (by decide) (by decide) (by decide) (by decide))
  have yl : (ya' = ya ∧ na' = na) ∨ (mN M ≤ ya' ∧ mN M ≤ na' ∧ ya' ≠ na') := by
    rcases nn with ⟨e, e', -⟩ | ⟨e, e', -⟩
    · exact Or.inl ⟨e, e'⟩
    · exact Or.inr ⟨by omega, by omega, by omega⟩
  have M8' : MoM M8 n0 (ga n0).1 (ga n0).2.1 Ψ2 hl lc rc cc pb ib b1 b2 ya' na' pz ps := by
    refine hM.mu (S := fun a => a = g ∨ a = nw ∨ a = nx ∨ a = wr) hz z2 (fun a zz e => ?_) (fun a zz => ?_) (by omega) ⟨f8.more (fun a _ zz => ?_), ⟨rn0.1, fun f _ => by rw [rn0.2.2.1]⟩, ⟨x1, x3, x4, x5⟩, ⟨s1, s2⟩, ⟨o1, o2, l2, l4, fun _ => l3⟩, yl⟩
    · rcases zz with y | y | y | y <;> rw [y] at e
      · exact gne (ho.symm.trans e)
      · exact gne ((hrow nw (Or.inl (Or.inl rfl))).symm.trans e)
      · exact gne ((hrow nx (Or.inl (Or.inr (Or.inl rfl)))).symm.trans e)
      · exact gne ((hrow wr (Or.inl (Or.inr (Or.inr (Or.inl rfl))))).symm.trans e)
    · rcases zz with y | y | y | y
      · exact (dn (Or.inl y)).2
      · exact (dn (Or.inr (Or.inr (Or.inr (Or.inr (Or.inr (Or.inr (Or.inl y)))))))).2
      · exact (dn (Or.inr (Or.inr (Or.inr (Or.inr (Or.inr (Or.inr (Or.inr (Or.inl y))))))))).2
      · exact (dn (Or.inr (Or.inr (Or.inr (Or.inr (Or.inr (Or.inr (Or.inr (Or.inr y))))))))).2
    · rcases zz with y | y | y | y | y | y | y | y | y
      · exact Or.inr (Or.inr (Or.inr (Or.inr (Or.inr (Or.inr (Or.inl y))))))
      · exact Or.inr (Or.inl y)
      · exact Or.inr (Or.inr (Or.inl y))
      · exact Or.inr (Or.inr (Or.inr (Or.inl y)))
      · exact Or.inr (Or.inr (Or.inr (Or.inr (Or.inl y))))
      · exact Or.inr (Or.inr (Or.inr (Or.inr (Or.inr (Or.inl y)))))
      · exact Or.inr (Or.inr (Or.inr (Or.inr (Or.inr (Or.inr (Or.inr (Or.inl y)))))))
      · exact Or.inr (Or.inr (Or.inr (Or.inr (Or.inr (Or.inr (Or.inr (Or.inr (Or.inl y))))))))
      · exact Or.inr (Or.inr (Or.inr (Or.inr (Or.inr (Or.inr (Or.inr (Or.inr (Or.inr y))))))))
  have oww : ow' ya' = n0 ∧ ow' na' = n0 := by
    rcases nn with ⟨e, e', -⟩ | ⟨e, e', -⟩
    · rw [e, e']; exact ⟨z3, z4⟩
    · exact ⟨hnew _ (by omega), hnew _ (by omega)⟩
  have rP : ∀ c, c = 4 ∨ c = 17 ∨ c = 18 ∨ c = 19 → ¬ (n0 + c = g ∨ n0 + c = n0 + 22 ∨ n0 + c = n0 + 24 ∨ n0 + c = n0 + 8 ∨ n0 + c = ya ∨ n0 + c = na ∨ n0 + c = nw ∨ n0 + c = nx ∨ n0 + c = wr) := fun c hc zz => by
    have oc : ow' (n0 + c) = n0 := z2 (n0 + c) (by omega) (by omega)
    rcases zz with y | y | y | y | y | y | y | y | y
    · rw [y, ho] at oc; exact gne oc
    · omega
    · omega
    · omega
    · exact (hM.ny hc).1 y
    · exact (hM.ny hc).2 y
    · rw [y, hrow nw (Or.inl (Or.inl rfl))] at oc; exact gne oc
    · rw [y, hrow nx (Or.inl (Or.inr (Or.inl rfl)))] at oc; exact gne oc
    · rw [y, hrow wr (Or.inl (Or.inr (Or.inr (Or.inl rfl))))] at oc; exact gne oc
  have X8 : CmX ow' M8 n0 (ga n0).1 (ga n0).2.1 (ga n0).2.2 := by
    refine ⟨m, root, γ, g0, gw, Z0, P, zp, Ψ1, Ψ2, R, zn, fn, y0, q0, hl, lc, rc, cc, pb, ib, b1, b2, ya', na', pz, n1, ps, ⟨hW, hT, hR, h16, hX, hif, hva, hpz⟩, M8', hz, ⟨Nat.le_trans z1 e8.1, z2, oww.1, oww.2⟩, hs.1.k (fun c hc => (f8.2 (n0 + c) (by omega) (rP c hc)).2.2.2.1) (by rw [x1]), hs.2.1, hs.2.2.fr f8 on0.1 (by rw [rn0.2.2.1]) (fun q _ o7 _ => ogr o7 (by decide) (by decide) (by decide) (by decide) (by decide)) (fun r o21 er ny nn2 zz => ?_) (fun r o21 h1 h2 => ?_)⟩
    · have e := o21.2
      rcases zz with y | y | y | y | y | y | y | y | y
      · rw [y, hv.1.1.2] at e; exact absurd e (by decide)
      · rw [y, hM.1.2.1.1.1.2] at e; exact absurd e (by decide)
      · rw [y, hM.1.2.1.2.1.2.1.2] at e; exact absurd e (by decide)
      · rw [y, cs.1.1.1.2] at e; exact absurd e (by decide)
      · exact ny y
      · exact nn2 y
      · rw [y, hrow nw (Or.inl (Or.inl rfl))] at er; exact gne er
      · rw [y, hrow nx (Or.inl (Or.inr (Or.inl rfl)))] at er; exact gne er
      · rw [y, hrow wr (Or.inl (Or.inr (Or.inr (Or.inl rfl))))] at er; exact gne er
    · rcases yl with ⟨e, e'⟩ | ⟨e, e', -⟩
      · rw [e, e']; exact ⟨h1, h2⟩
      · have := o21.1; omega
  have G8 : GoX ow' M8 g n0 (npS (ga n0).2.1) := by
    refine ⟨nw', nx', kp, gn, wr, ks, ?_, hr8, ho, fun r hr2 => ?_⟩
    · rw [← hM.2.1.2.2.1]; exact hv8
    · rcases sw with ⟨e, e'⟩ | ⟨e, e'⟩
      · rw [e, e'] at hr2; exact hrow r hr2
      · rw [e, e'] at hr2
        refine hrow r ?_
        rcases hr2 with (y | y | y) | y
        · exact Or.inl (Or.inr (Or.inl y))
        · exact Or.inl (Or.inl y)
        · exact Or.inl (Or.inr (Or.inr y))
        · exact Or.inr y
  have kn : ∀ {c : Nat}, c ≠ g → c ≠ n0 → ∀ a, (a = g ∨ a = n0 + 22 ∨ a = n0 + 24 ∨ a = n0 + 8 ∨ a = ya ∨ a = na ∨ a = nw ∨ a = nx ∨ a = wr) → ow' a ≠ c := fun {c} h1 h2 a zz e => by
    rcases (dn zz).1 with y | y
    · exact h1 (e.symm.trans y)
    · exact h2 (e.symm.trans y)
  have msg : ∀ q, q < ms.length → ms.getD q 0 ≠ g := fun q hq e => by
    have := (hC.2.2.2.2.2.2.2.1 q hq).2.on
    rw [e] at this
    exact absurd (this.2.symm.trans hv.1.1.2) (by decide)
  have gsn : ∀ q, q < gs.length → gs.getD q 0 ≠ n0 := fun q hq e => by
    obtain ⟨_, _, _, _, _, _, _, _, _, _, hvq, _⟩ := hC.gv hq
    have o := hvq.1.1
    rw [e] at o
    exact absurd (o.2.symm.trans on0.2) (by decide)
  refine K M8 n0 r9 ⟨j, hj, hn0.symm⟩ hag (hC.own (Wp := fun v => v = g ∨ v = n0) (by omega) f8 (fun a zz => dn zz) (fun v zz => zz.elim (fun y => by rw [y]; exact e2) (fun y => by rw [y]; exact hn)) (fun q hq zz => ?_) (fun q q2 hq hq2 eq2 zz => ?_)) (f8.more (fun a _ zz => ?_)) ?_ (fun q hq ne => ?_) (fun q hq => ?_) (fun q hq => ?_)
  · rcases zz with y | y
    · exact absurd y (msg q hq)
    · rw [y]; exact X8
  · rcases zz with y | y
    · rw [y] at eq2 ⊢
      rw [← eq2, ej]
      exact G8
    · exact absurd y (gsn q hq)
  · rcases (dn zz).1 with y | y
    · exact ge132 hC e2 y
    · exact ge132 hC hn y
  · have lt := hW.2.2.2.2.2.2.2.2.1
    obtain ⟨a1, a2⟩ := ln_at (n0 := n0) (na := na) cs.1.1 cs.1.2.1.1 rfl lt
    obtain ⟨c1, c2⟩ := ln_at (n0 := n0) (na := na) M8'.2.2.2.2.2.1.1.1 M8'.2.2.2.2.2.1.1.2.1.1 rfl lt
    have nlt8 : ¬ mL M8 ya' < Ψ2.1.length := by omega
    rw [if_neg nlt8] at c1 c2
    rw [a1, a2, c1, c2]
    rcases nn with ⟨-, -, e3, e4⟩ | ⟨-, -, e3, e4, e5⟩
    · rw [e3, e4]; exact ⟨Nat.le_add_right _ _, Nat.le_add_right _ _⟩
    · rw [e3, e4, if_pos e5, if_pos e5]; exact ⟨Nat.le_refl _, Nat.le_refl _⟩
  · obtain ⟨a1, a2, -⟩ := ln_fr (hC.2.2.2.2.2.2.2.1 q hq).2 f8 (kn (msg q hq) ne)
    exact ⟨a1, a2⟩
  · by_cases ne : ms.getD q 0 = n0
    · rw [ne, rn0.2.2.1]
    · obtain ⟨-, -, a3⟩ := ln_fr (hC.2.2.2.2.2.2.2.1 q hq).2 f8 (kn (msg q hq) ne)
      rw [a3]
  · by_cases ne : gs.getD q 0 = g
    · rw [ne]; exact k5
    · obtain ⟨_, _, _, _, _, _, _, _, _, _, hvq, _, hoq, _⟩ := hC.gv hq
      have hvq := hvq.1.1
      rw [(f8.2 _ hvq.1 (fun zz => kn ne (gsn q hq) _ zz hoq)).1]
end
end
section
/-! the class's calls on searches -/
def srS (M : Mem) (n0 : Nat) : Nat := if mR M n0 17 = none then 3373 else 0
def srN (M : Mem) (n0 : Nat) : Nat := if mR M n0 17 = none then 9 else 0
/-- room: what one module may still want is used up -/
def RmU (ms : List Nat) (M M' : Mem) : Prop := ∃ c, (∀ j, j < ms.length → ms.getD j 0 ≠ c → lnS M' (ms.getD j 0) = lnS M (ms.getD j 0) ∧ lnN M' (ms.getD j 0) = lnN M (ms.getD j 0) ∧ mR M' (ms.getD j 0) 17 = mR M (ms.getD j 0) 17) ∧ mN M' + (lnN M' c + srN M' c) ≤ mN M + (lnN M c + srN M c) ∧ mS M' + (lnS M' c + srS M' c) ≤ mS M + (lnS M c + srS M c) ∧ ((∃ j, j < ms.length ∧ ms.getD j 0 = c) ∨ (mN M' = mN M ∧ mS M' = mS M ∧ ∀ j, j < ms.length → lnS M' (ms.getD j 0) = lnS M (ms.getD j 0) ∧ lnN M' (ms.getD j 0) = lnN M (ms.getD j 0) ∧ mR M' (ms.getD j 0) 17 = mR M (ms.getD j 0) 17))
theorem RmU.rf {ms : List Nat} {M : Mem} : RmU ms M M := ⟨0, fun _ _ _ => ⟨rfl, rfl, rfl⟩, Nat.le_refl _, Nat.le_refl _, Or.inr ⟨rfl, rfl, fun _ _ => ⟨rfl, rfl, rfl⟩⟩⟩
section
variable {ow : Nat → Nat} {ga : Nat → Td × PS × CoT} {gm : Nat → Nat} {M M' : Mem} {ms gs : List Nat} {mb gb h n0 : Nat} {Q : Option Value → Mem → Prop} {x y z w : Int32}
/-- what a call over a search leaves -/
def SrP (ow ow' : Nat → Nat) (ms gs : List Nat) (M M' : Mem) : Prop := (∀ a, a < mN M → ow' a = ow a) ∧ fr (fun a => 132 ≤ a) M M' ∧ RmU ms M M' ∧ ∀ q, q < gs.length → mI M' (gs.getD q 0) 5 = mI M (gs.getD q 0) 5
theorem SrP.rf : SrP ow ow ms gs M M := ⟨fun _ _ => rfl, fr.rf, RmU.rf, fun _ _ => rfl⟩
set_option maxHeartbeats 1000000 in
theorem G_srOf (hC : CvS ow ga gm M ms gs mb gb) (hb : mN M + 20 < mBig) (K0 : (∀ i, i < ms.length → x ≠ Int32.ofNat i) → Q (some .null) M) (KB : ∀ M' ow' i, SrP ow ow' ms gs M M' → CvS ow' ga gm M' ms gs mb gb → i < ms.length → x = Int32.ofNat i → StQ (ga (ms.getD i 0)) none → Q (some .null) M') (K1 : ∀ M' ow' i s a Y G, SrP ow ow' ms gs M M' → CvS ow' ga gm M' ms gs mb gb → i < ms.length → x = Int32.ofNat i → ScO M' s (ms.getD i 0) (tQ (ga (ms.getD i 0))) a → ScC M' s (tQ (ga (ms.getD i 0))) Y.1.length a → StQ (ga (ms.getD i 0)) (some (Y, G)) → TiC M' s (tQ (ga (ms.getD i 0))) a Y → CgC M' a Y.1.length G → Q (some (.ref s)) M') : E (h + 7) mdX10_searchOf [.ref 0, .int x] M Q := by
  -- its end
  have d38 : ∀ M' ow' i s, SrP ow ow' ms gs M M' → CvS ow' ga gm M' ms gs mb gb → i < ms.length → x = Int32.ofNat i → mR M' (ms.getD i 0) 17 = some s → DX10_searchOf_38 (h + 6) (some (ms.getD i 0)) M' Q := by
    intro M' ow' i s hP hC' hi ex e17
    obtain ⟨m, root, γ, g0, gw, Z0, P, zp, Ψ1, Ψ2, R, zn, fn, y0, q0, hl, lc, rc, cc, pb, ib, b1, b2, ya, na, pz, n1, ps, hp, hM, hz, hq, hs⟩ := (hC'.2.2.2.2.2.2.2.1 i hi).2
    rcases hs.2.2 with e | ⟨s', f1, f2, f3, f4⟩
    · rw [e17] at e; exact absurd e (by simp)
    · rw [e17] at f1
      cases f1
      unfold DX10_searchOf_38 DX10_searchOf_56
      refine ⟨_, rfl, hM.1.1.1, s, e17, f2, fun e => ?_, fun e => KB M' ow' i hP hC' hi ex ?_⟩
      · rw [e17]
        rcases f4 with f4 | ⟨-, a, Y, G, f5, f6, ⟨f7, f8, f9⟩, -⟩
        · rw [f4.1] at e; exact absurd e (by decide)
        · exact K1 M' ow' i s a Y G hP hC' hi ex f5 f6 f7 f8 f9
      · rcases f4 with f4 | ⟨f4, -⟩
        · exact f4.2
        · exact absurd f4 e
  refine KX10_searchOf (h := h + 6) ?_
  unfold DX10_searchOf_0
  refine ⟨ok0 hC.1, S_modAt (h := h + 2) hC (fun ne _ => ⟨none, rfl, fun _ => K0 ne, fun b e => absurd e (by simp)⟩) (fun i hi ex _ => ⟨some _, rfl, fun e => absurd e (by simp), fun b e => ?_⟩)⟩
  cases e
  have hn := (hC.2.2.2.2.2.2.2.1 i hi).1
  refine ⟨(hC.2.2.2.2.2.2.2.1 i hi).2.on, fun e17 q8 M7 eq8 e7 => ?_, fun s e17 => d38 M ow i s SrP.rf hC hi ex e17⟩
  obtain ⟨ow', how'⟩ : ∃ ow' : Nat → Nat, ow' = fun a => if a < mN M then ow a else ms.getD i 0 := ⟨_, rfl⟩
  have hag : ∀ a, a < mN M → ow' a = ow a := fun a ha => by rw [how']; exact if_pos ha
  have hnew : ∀ a, mN M ≤ a → ow' a = ms.getD i 0 := fun a ha => by rw [how']; exact if_neg (by omega)
  have hC' := hC.owN hag
  clear how'
  have d38 := fun M' s => d38 M' ow' i s
  have hm := (hC'.2.2.2.2.2.2.2.1 i hi).2
  generalize hn0 : ms.getD i 0 = n0 at hm hn hnew e17 d38
  obtain ⟨m, root, γ, g0, gw, Z0, P, zp, Ψ1, Ψ2, R, zn, fn, y0, q0, hl, lc, rc, cc, pb, ib, b1, b2, ya, na, pz, n1, ps, ⟨hW, hT, hR, h16, hX, hif, hva, hpz⟩, hM, hz, ⟨z1, z2, z3, z4⟩, hs⟩ := id hm
  have n25 := hz.1
  have on0 : ok M n0 3 := hM.1.1.1
  have cs := hM.2.2.2.2.2.1
  have oxx : ok M (n0 + 8) 2 := cs.1.1.1
  have oy : ok M ya 21 := cs.1.2.1.2.1
  have on : ok M na 21 := cs.1.2.2.1.2.1
  have f7 : fr (fun _ => False) M M7 := by rw [e7]; exact fr_nwO
  have o7 : ok M7 q8 7 := by rw [eq8, e7]; exact ⟨Nat.lt_succ_self _, va_up_self _ _ _⟩
  have n7 : mN M7 = mN M + 1 := by rw [e7]; rfl
  have s7 : mS M7 = mS M + 13 := by rw [e7]; rfl
  have r7 : ∀ {a q : Nat}, ok M a q → sameRow M M7 a := fun o => f7.2 _ o.1 (fun z => z)
  have lenM : ∀ {M1 : Mem} {a q : Nat}, mE M M1 → ok M a q → mL M1 a = mL M a := fun e o => (e.2.2 _ o.1).2
  -- the module once it has its search
  have toM10 : ∀ M9 M10, fr (fun c => c = q8) M7 M9 → M10 = wR M9 n0 17 (some q8) → fr (fun a => a = n0) M M10 ∧ MoM M10 n0 (ga n0).1 (ga n0).2.1 Ψ2 hl lc rc cc pb ib b1 b2 ya na pz ps ∧ mR M10 n0 17 = some q8 := by
    intro M9 M10 f9 e10
    have f79 : fr (fun a => a = n0) M M9 := (f7.more (fun a _ z => z.elim)).tr f9 (fun a ha z => by omega)
    have f10 : fr (fun a => a = n0) M M10 := f79.tr (M2 := M10) (by rw [e10]; exact fr_wR (S := fun a => a = n0) rfl) (fun _ _ z => z)
    have r9 : sameRow M M9 n0 := (r7 on0).tr (f9.2 n0 (by rw [n7]; have := on0.1; omega) (by have := on0.1; omega))
    have rx := f10.2 (n0 + 8) oxx.1 (by omega)
    have rs := f10.2 (n0 + 22) hM.1.2.1.1.1.1 (by omega)
    refine ⟨f10, ?_, by rw [e10, mR_wR, if_pos ⟨rfl, rfl⟩]⟩
    refine hM.mu (ow := fun _ => n0) (S := noP) hz (fun _ _ _ => rfl) (fun a z => z.elim) (fun a z => z.elim) (by omega) ⟨f10.more (fun a _ z => Or.inl z), ⟨by rw [e10]; exact r9.1, fun f hf => by rw [e10, mR_wR, if_neg (fun z => hf z.2), r9.2.2.1]⟩, ⟨rx.1, fun f _ _ => by rw [rx.2.2.1], by rw [rx.2.2.1]; exact cs.1.2.1.1, by rw [rx.2.2.1]; exact cs.1.2.2.1.1⟩, ⟨fun f _ _ => by rw [rs.1], rs.2.2.1⟩, ⟨ok_E oy f10.1, ok_E on f10.1, by rw [lenM f10.1 oy]; exact cs.1.2.1.2.2, by rw [lenM f10.1 on]; exact cs.1.2.2.1.2.2.1, by rw [lenM f10.1 oy, lenM f10.1 on]; exact cs.1.2.2.1.2.2.2⟩, Or.inl ⟨rfl, rfl⟩⟩
  -- the whole behind it
  have fin : ∀ M13 ya' na', fr (fun a => a = n0 ∨ a = n0 + 8 ∨ a = ya ∨ a = na) M M13 → MoM M13 n0 (ga n0).1 (ga n0).2.1 Ψ2 hl lc rc cc pb ib b1 b2 ya' na' pz ps → mR M13 n0 17 = some q8 → (ow' ya' = n0 ∧ ow' na' = n0) → SeT ow' M13 n0 (ga n0).1 (ga n0).2.1 R Ψ2 P pz root ya' na' (ga n0).2.2 → mN M13 + lnN M13 n0 ≤ mN M + (lnN M n0 + 9) → mS M13 + lnS M13 n0 ≤ mS M + (lnS M n0 + 3373) → DX10_searchOf_38 (h + 6) (some n0) M13 Q := by
    intro M13 ya' na' f13 Mo13 e17' oww S13 hN hS
    have X13 : CmX ow' M13 n0 (ga n0).1 (ga n0).2.1 (ga n0).2.2 := ⟨m, root, γ, g0, gw, Z0, P, zp, Ψ1, Ψ2, R, zn, fn, y0, q0, hl, lc, rc, cc, pb, ib, b1, b2, ya', na', pz, n1, ps, ⟨hW, hT, hR, h16, hX, hif, hva, hpz⟩, Mo13, hz, ⟨Nat.le_trans z1 f13.1.1, z2, oww.1, oww.2⟩, S13⟩
    have dn : ∀ {r : Nat}, r = n0 ∨ r = n0 + 8 ∨ r = ya ∨ r = na → ow' r = n0 ∧ mK M r ≠ 0 := fun {r} zz => by
      rcases zz with e | e | e | e <;> rw [e]
      · exact ⟨z2 n0 (Nat.le_refl _) (by omega), by rw [on0.2]; decide⟩
      · exact ⟨z2 _ (by omega) (by omega), by rw [oxx.2]; decide⟩
      · exact ⟨z3, by rw [oy.2]; decide⟩
      · exact ⟨z4, by rw [on.2]; decide⟩
    have gsn : ∀ q, q < gs.length → gs.getD q 0 ≠ n0 := fun q hq e => by
      obtain ⟨_, _, _, _, _, _, _, _, _, _, hvq, _⟩ := hC.gv hq
      have o := hvq.1.1
      rw [e] at o
      exact absurd (o.2.symm.trans on0.2) (by decide)
    refine d38 M13 q8 ⟨hag, f13.more (fun a _ zz => ge132 hC' hn (dn zz).1), ⟨n0, fun q hq ne => ?_, ?_, ?_, Or.inl ⟨i, hi, hn0⟩⟩, fun q hq => ?_⟩ (hC'.own (Wp := fun v => v = n0) (by omega) f13 (fun a zz => dn zz) (fun v zz => by rw [zz]; exact hn) (fun q hq zz => by rw [zz]; exact X13) (fun q q2 hq hq2 _ zz => absurd zz (gsn q hq))) hi ex e17'
    · obtain ⟨a1, a2, a3⟩ := ln_fr (hC'.2.2.2.2.2.2.2.1 q hq).2 f13 (fun a zz e => ne (e.symm.trans (dn zz).1))
      exact ⟨a1, a2, by rw [a3]⟩
    · unfold srN
      rw [e17', e17, if_pos rfl, if_neg (by simp)]
      exact hN
    · unfold srS
      rw [e17', e17, if_pos rfl, if_neg (by simp)]
      exact hS
    · obtain ⟨_, _, _, _, _, _, _, _, _, _, hvq, _, hoq, _⟩ := hC'.gv hq
      rw [(f13.2 _ hvq.1.1.1 (fun zz => gsn q hq (hoq.symm.trans (dn zz).1))).1]
  have lt := hW.2.2.2.2.2.2.2.2.1
  obtain ⟨a1, a2⟩ := ln_at (n0 := n0) (na := na) cs.1.1 cs.1.2.1.1 rfl lt
  have rn7 := r7 on0
  have rx7 := r7 oxx
  have obc : ok M (n0 + 16) 21 := cs.1.2.2.2.2.2.2.2.2.1
  have bc7 : beM M7 (n0 + 16) = asS (ga n0).2.1 := by
    have rb := r7 obc
    refine shM_cg 16 (fun s hs => ?_)
    show decide (¬ mAI M7 (n0 + 16) s = 0) = decide (¬ Int32.ofNat ((ga n0).2.1.2.1.2.2.2.1 s) = 0)
    rw [rb.2.2.2.1, cs.2.2.1 s hs]
  have rP7 : ∀ c, c = 4 ∨ c = 17 ∨ c = 18 ∨ c = 19 → ok M (n0 + c) 21 := fun c hc => by
    rcases hc with e | e | e | e
    · rw [e]; exact hM.1.2.2.2.1
    · rw [e]; exact hM.2.2.2.2.2.2.1.2.1.2.1
    · rw [e]; exact hM.2.2.2.2.2.2.1.2.2.1.2.1
    · rw [e]; exact hM.2.2.2.2.2.2.1.2.2.2.1.2.1
  have mp : ∀ M10, fr (fun a => a = n0) M M10 → MoP M10 n0 (ga n0).1 P pz root := fun M10 f10 => hs.1.k (fun c hc => (f10.2 (n0 + c) (rP7 c hc).1 (by omega)).2.2.2.1) (by rw [(f10.2 (n0 + 8) oxx.1 (by omega)).1])
  refine S_sinx (h := h + 4) o7 (ok_E on0 f7.1) (by rw [rn7.1]; exact hM.1.1.2.2.2.2) (by rw [rn7.1]; exact hM.2.2.2.2.2.2.2.2.2.2.2.2.1) hM.1.2.2.2.2.2.1 (by omega) (by rw [rn7.2.2.1]; exact hM.2.2.2.2.1) (ok_E oxx f7.1) (by rw [rx7.2.2.1]; exact cs.1.2.2.2.2.2.2.2.1) (ok_E obc f7.1) (by rw [lenM f7.1 obc]; exact cs.1.2.2.2.2.2.2.2.2.2.1) (fun M9 gt5 f9 o9 b9 n9 s9 _ => ⟨rfl, fun M10 e10 => ?_⟩) (fun M9 a le5 f9 O9 Z9 b9 b94 n9 s9 _ => ⟨rfl, fun M10 e10 => ?_⟩)
  · obtain ⟨f10, Mo10, r17⟩ := toM10 M9 M10 f9 e10
    have o10 : ok M10 q8 7 := by rw [e10]; exact o9
    have b10 : mI M10 q8 2 = 1 := by rw [e10]; exact b9
    refine ⟨q8, r17, o10, S_expB (h := h + 5) o10 b10 (fun M13 k13 b13 _ => ⟨rfl, ?_⟩)⟩
    have f13 : fr (fun a => a = n0 ∨ a = n0 + 8 ∨ a = ya ∨ a = na) M M13 := (f10.more (fun a _ z => Or.inl z)).tr k13.fr (fun a ha z => z.elim (fun y => by omega) (fun y => y.elim))
    have bg : mN M10 < mBig := by rw [e10]; show mN M9 < mBig; omega
    have Mo13 := Mo10.out hz bg k13.fr (fun r zz => zz.elim (fun y => by omega) (fun y => y.elim)) (fun r zz => zz.elim (fun y => by rw [y, o10.2]; decide) (fun y => y.elim))
    have nM : mN M13 = mN M + 9 := by rw [k13.1.1, e10]; show mN M9 = _; omega
    have sM : mS M13 ≤ mS M + 3373 := by rw [k13.1.2.1, e10]; show mS M9 ≤ _; omega
    obtain ⟨c1, c2⟩ := ln_at (n0 := n0) (na := na) Mo13.2.2.2.2.2.1.1.1 Mo13.2.2.2.2.2.1.1.2.1.1 rfl lt
    have ll : mL M13 ya = mL M ya := lenM f13.1 oy
    refine fin M13 ya na f13 Mo13 (by rw [k13.2.1.2.1]; exact r17) ⟨z3, z4⟩ ⟨(mp M10 f10).k (fun c hc => k13.2.2.2.2 _ (fun z => z)) (by rw [k13.2.2.1 (n0 + 8) (by have := oxx.1; omega)]), hs.2.1, Or.inr ⟨q8, by rw [k13.2.1.2.1]; exact r17, k13.ok o10, hnew _ (by omega), Or.inl ⟨b13, Or.inl gt5⟩⟩⟩ ?_ ?_
    · rw [c2, a2, ll]; omega
    · rw [c1, a1, ll]; omega
  · obtain ⟨f10, Mo10, r17⟩ := toM10 M9 M10 f9 e10
    have qn : q8 ≠ n0 := by have := on0.1; omega
    have f910 : fr (fun c => c = n0) M9 M10 := by rw [e10]; exact fr_wR rfl
    have O10 : ScO M10 q8 n0 _ a := O9.fr f910 qn
    have b10 : mI M10 q8 2 = 0 := by rw [e10]; exact b9
    have aN : ∀ {r : Nat}, r = q8 ∨ rwF a r → mN M ≤ r := fun {r} zz => by
      rcases zz with zz | ⟨f, f1, f2, zz⟩
      · omega
      · have := (Z9 f f1 f2).1; omega
    have a10 : mAI M10 = mAI M9 := by rw [e10]; rfl
    have zr : ∀ f, 5 ≤ f → f ≤ 12 → ∀ k, mAI M10 (a f) k = 0 := fun f f1 f2 k => by rw [a10]; exact (Z9 f f1 f2).2 k
    have n10 : mN M10 = mN M + 9 := by rw [e10]; show mN M9 = _; omega
    refine ⟨q8, r17, O10.1.1, S_expx (h := h) (ask := asS (ga n0).2.1) (o := omk (ga n0).1.2.1) hW hT hR h16 hs.2.1.1 hs.2.1.2.1 hz Mo10 (mp M10 f10) O10 zr rfl (fun r zz => ?_) (by omega) b10 (by rw [e10]; exact b94.trans bc7) Mo10.2.2.2.2.2.2.2.2.2.1 (fun M13 n' ya' na' f13 Mo13 P13 O13 C13 h1 b13 N13 _ => ⟨rfl, ?_⟩)⟩
    · have := aN zz
      have h1 := oy.1
      have h2 := on.1
      exact ⟨by omega, by omega, by omega⟩
    have F13 : fr (fun a => a = n0 ∨ a = n0 + 8 ∨ a = ya ∨ a = na) M M13 := (f10.more (fun a _ z => Or.inl z)).tr f13 (fun c hc zz => by
      rcases zz with zz | zz | zz | zz
      · exact Or.inr (Or.inl zz)
      · exact Or.inr (Or.inr (Or.inl zz))
      · exact Or.inr (Or.inr (Or.inr zz))
      · have := aN zz; omega)
    have rn13 := f13.2 n0 (ok_E on0 f10.1).1 (fun zz => by
      rcases zz with zz | zz | zz | zz
      · omega
      · rw [zz] at on0; exact absurd (on0.2.symm.trans oy.2) (by decide)
      · rw [zz] at on0; exact absurd (on0.2.symm.trans on.2) (by decide)
      · have := aN zz; have := on0.1; omega)
    have e17' : mR M13 n0 17 = some q8 := by rw [rn13.2.2.1]; exact r17
    have oww : ow' ya' = n0 ∧ ow' na' = n0 := by
      rcases N13 with ⟨e, e', -⟩ | ⟨e, e', -⟩
      · rw [e, e']; exact ⟨z3, z4⟩
      · exact ⟨hnew _ (by omega), hnew _ (by omega)⟩
    have apart : ∀ f, 5 ≤ f → f ≤ 12 → a f ≠ ya' ∧ a f ≠ na' := fun f f1 f2 => by
      have q1 := aN (r := a f) (Or.inr ⟨f, f1, f2, rfl⟩)
      have q2 := (O10.2.1 f f1 f2).2.1.1
      have h1 := oy.1
      have h2 := on.1
      rcases N13 with ⟨e, e', -⟩ | ⟨e, e', -⟩ <;> omega
    have S13 : SeT ow' M13 n0 (ga n0).1 (ga n0).2.1 R Ψ2 P pz root ya' na' (ga n0).2.2 := by
      refine ⟨P13, hs.2.1, Or.inr ⟨q8, e17', O13.1.1, hnew _ (by omega), ?_⟩⟩
      rw [hs.2.1.2.2]
      rcases b13 with ⟨b13, Y, G, eY, fnx, ti, cg, gf⟩ | ⟨b13, fnx⟩
      · subst eY
        exact Or.inr ⟨b13, a, Y, G, O13, C13, ⟨⟨le5, fnx, gf⟩, ti, cg⟩, fun f f1 f2 => ⟨hnew _ (aN (Or.inr ⟨f, f1, f2, rfl⟩)), apart f f1 f2⟩⟩
      · exact Or.inl ⟨b13, Or.inr fnx⟩
    obtain ⟨c1, c2⟩ := ln_at (n0 := n0) (na := na') Mo13.2.2.2.2.2.1.1.1 Mo13.2.2.2.2.2.1.1.2.1.1 rfl lt
    have s10 : mS M10 ≤ mS M + 3373 := by rw [e10]; show mS M9 ≤ _; omega
    have ll10 : mL M10 ya = mL M ya := lenM f10.1 oy
    have room : mN M13 + lnN M13 n0 ≤ mN M + (lnN M n0 + 9) ∧ mS M13 + lnS M13 n0 ≤ mS M + (lnS M n0 + 3373) := by
      rw [a1, a2, c1, c2]
      rcases N13 with ⟨e, e', e3, e4⟩ | ⟨e, e', e3, e4, e5, e6⟩
      · rw [e, lenM F13.1 oy]
        constructor <;> omega
      · have nl : ¬ mL M13 ya' < Ψ2.1.length := by omega
        rw [ll10] at e5
        rw [if_neg nl, if_neg nl, if_pos e5, if_pos e5]
        constructor <;> omega
    exact fin M13 ya' na' F13 Mo13 e17' oww S13 room.1 room.2
end
end
section
/-! the class's search, move, classOf, way, never, always -/
section
variable {ow : Nat → Nat} {ga : Nat → Td × PS × CoT} {gm : Nat → Nat} {M M' : Mem} {ms gs : List Nat} {mb gb h n0 : Nat} {Q : Option Value → Mem → Prop} {x y z w : Int32}
theorem G_search (hC : CvS ow ga gm M ms gs mb gb) (hb : mN M + 20 < mBig) (K0 : (∀ i, i < ms.length → x ≠ Int32.ofNat i) → Q (some (.int (-1))) M) (K : ∀ M' ow' i S (r : Int32), SrP ow ow' ms gs M M' → CvS ow' ga gm M' ms gs mb gb → i < ms.length → x = Int32.ofNat i → StQ (ga (ms.getD i 0)) S → AsO S r → Q (some (.int r)) M') : E (h + 8) mdX10_search [.ref 0, .int x] M Q := by
  refine KX10_search (h := h + 7) ?_
  unfold DX10_search_0 DX10_search_29
  refine ⟨ok0 hC.1, S_modAt (h := h + 3) hC (fun ne _ => ⟨none, rfl, fun _ => K0 ne, fun b e => absurd e (by simp)⟩) (fun i hi ex _ => ⟨some _, rfl, fun e => absurd e (by simp), fun b e => ?_⟩)⟩
  exact G_srOf (h := h) hC hb (fun ne _ => absurd ex (ne i hi)) (fun M5 ow' i hP hC' hi ex hB _ => ⟨none, rfl, fun _ => K M5 ow' i none _ hP hC' hi ex hB rfl, fun b e => absurd e (by simp)⟩) (fun M5 ow' i s a Y G hP hC' hi ex hO hS hQ hT hG _ => ⟨some s, rfl, fun e => absurd e (by simp), fun b e => by cases e; exact ⟨hO.1.1, K M5 ow' i (some (Y, G)) _ hP hC' hi ex hQ hT.1⟩⟩)
theorem G_move (hC : CvS ow ga gm M ms gs mb gb) (hb : mN M + 20 < mBig) (K0 : (∀ i, i < ms.length → x ≠ Int32.ofNat i) → Q (some (.int (-9))) M) (K : ∀ M' ow' i S (r : Int32), SrP ow ow' ms gs M M' → CvS ow' ga gm M' ms gs mb gb → i < ms.length → x = Int32.ofNat i → StQ (ga (ms.getD i 0)) S → AmO (tQ (ga (ms.getD i 0))) y z w S r → Q (some (.int r)) M') : E (h + 8) mdX10_move [.ref 0, .int x, .int y, .int z, .int w] M Q := by
  refine KX10_move (h := h + 7) ?_
  unfold DX10_move_0 DX10_move_34 DX10_move_84
  refine ⟨ok0 hC.1, G_srOf (h := h) hC hb (fun ne _ => ⟨none, rfl, fun _ => K0 ne, fun b e => absurd e (by simp)⟩) (fun M5 ow' i hP hC' hi ex hB _ => ⟨none, rfl, fun _ => K M5 ow' i none _ hP hC' hi ex hB rfl, fun b e => absurd e (by simp)⟩) (fun M5 ow' i s a Y G hP hC' hi ex hO hS hQ hT hG _ => ⟨some s, rfl, fun e => absurd e (by simp), fun b e => ?_⟩)⟩
  cases e
  have n48 := hS.1.2
  have KK : ∀ r, AnM Y (tQ (ga (ms.getD i 0))) y z w r → Q (some (.int r)) M5 := fun r hr => K M5 ow' i (some (Y, G)) r hP hC' hi ex hQ hr
  obtain ⟨t, et⟩ : ∃ t, t = tQ (ga (ms.getD i 0)) := ⟨_, rfl⟩
  rw [← et] at hO hT KK
  obtain ⟨p1, p2⟩ := pw_le hO.1.2.2.2
  refine ⟨hO.1.1, S_hasSx (h := h + 6) hO hT n48 (fun q hq eq _ => ⟨1, rfl, fun z => absurd z (by decide), fun _ => ⟨fun zl => KK _ (Or.inr ⟨fun q' v hq' hv e => ?_, rfl⟩), fun z0 => ⟨fun z1 => ?_, fun z1 => KK _ (Or.inr ⟨fun q' v hq' hv e => ?_, rfl⟩)⟩⟩⟩) (fun nq _ => ⟨0, rfl, fun _ => KK _ (Or.inr ⟨fun q' v hq' hv e => absurd e.1 (nq q' hq'), rfl⟩), fun z => absurd rfl z⟩)⟩
  · rw [e.2] at zl; exact nn32 (by omega) zl
  · obtain ⟨v, ev, hv⟩ := nn_of z0
    rw [hO.1.2.2.1, ev] at z1
    have vt := (ltn32 hv (by omega)).mp z1
    obtain ⟨i1, i2, i3⟩ := ix_mv (s := q) (v := v) hO.1.2.2.2 (by omega) vt
    have l1 : (Int32.ofNat (q * 2 ^ t + v)).toNatClampNeg = q * 2 ^ t + v := lt32 (by omega)
    obtain ⟨y1, y2⟩ := hT.2.2 q v (by omega) vt
    rw [hO.1.2.2.1, eq, ev, i1, l1]
    refine ⟨fun w0 => ⟨fun w1 => KK _ (Or.inl ⟨q, v, ⟨hq, vt⟩, ⟨eq, ev⟩, Or.inr (Or.inr ⟨w0, w1, rfl⟩)⟩), fun w1 => ⟨a 10, (hO.2.1 10 (by decide) (by decide)).1, (hO.2.1 10 (by decide) (by decide)).2.1, by rw [hO.lm (Or.inr rfl)]; exact vp_of i2 (by omega), ?_⟩⟩, fun w0 => ⟨a 9, (hO.2.1 9 (by decide) (by decide)).1, (hO.2.1 9 (by decide) (by decide)).2.1, by rw [hO.lm (Or.inl rfl)]; exact vp_of i2 (by omega), ?_⟩⟩
    · rw [y2]; exact KK _ (Or.inl ⟨q, v, ⟨hq, vt⟩, ⟨eq, ev⟩, Or.inr (Or.inl ⟨w1, rfl⟩)⟩)
    · rw [y1]; exact KK _ (Or.inl ⟨q, v, ⟨hq, vt⟩, ⟨eq, ev⟩, Or.inl ⟨w0, rfl⟩⟩)
  · rw [hO.1.2.2.1, e.2] at z1
    exact z1 ((ltn32 (by omega) (by omega)).mpr hv)
theorem G_classOf (hC : CvS ow ga gm M ms gs mb gb) (hb : mN M + 20 < mBig) (K0 : (∀ i, i < ms.length → x ≠ Int32.ofNat i) → Q (some (.int (-9))) M) (K : ∀ M' ow' i S (r : Int32), SrP ow ow' ms gs M M' → CvS ow' ga gm M' ms gs mb gb → i < ms.length → x = Int32.ofNat i → StQ (ga (ms.getD i 0)) S → AcO y S r → Q (some (.int r)) M') : E (h + 8) mdX10_classOf [.ref 0, .int x, .int y] M Q := by
  refine KX10_classOf (h := h + 7) ?_
  unfold DX10_classOf_0 DX10_classOf_18
  refine ⟨ok0 hC.1, G_srOf (h := h) hC hb (fun ne _ => ⟨none, rfl, fun _ => K0 ne, fun b e => absurd e (by simp)⟩) (fun M5 ow' i hP hC' hi ex hB _ => ⟨none, rfl, fun _ => K M5 ow' i none _ hP hC' hi ex hB rfl, fun b e => absurd e (by simp)⟩) (fun M5 ow' i s a Y G hP hC' hi ex hO hS hQ hT hG _ => ⟨some s, rfl, fun e => absurd e (by simp), fun b e => ?_⟩)⟩
  cases e
  have n48 := hS.1.2
  have KK : ∀ r, AnC Y.1.length G y r → Q (some (.int r)) M5 := fun r hr => K M5 ow' i (some (Y, G)) r hP hC' hi ex hQ hr
  refine ⟨hO.1.1, S_hasSx (h := h + 6) hO hT n48 (fun q hq eq _ => ⟨1, rfl, fun _ => ⟨a 11, (hO.2.1 11 (by decide) (by decide)).1, (hO.2.1 11 (by decide) (by decide)).2.1, by rw [hO.l48 (by decide) (by decide) (by decide) (by decide), eq]; exact vp_of (by omega) (by decide), ?_⟩, fun z => absurd z (by decide)⟩) (fun nq _ => ⟨0, rfl, fun z => absurd rfl z, fun _ => KK _ (Or.inr ⟨nq, rfl⟩)⟩)⟩
  rw [eq, lt32 (show q < 2147483648 by omega), (hG q hq).1]
  exact KK _ (Or.inl ⟨q, hq, eq, rfl⟩)
theorem G_way (hC : CvS ow ga gm M ms gs mb gb) (hb : mN M + 20 < mBig) (K0 : (∀ i, i < ms.length → x ≠ Int32.ofNat i) → Q (some (.int (-9))) M) (K : ∀ M' ow' i S (r : Int32), SrP ow ow' ms gs M M' → CvS ow' ga gm M' ms gs mb gb → i < ms.length → x = Int32.ofNat i → StQ (ga (ms.getD i 0)) S → AwO y z S r → Q (some (.int r)) M') : E (h + 8) mdX10_way [.ref 0, .int x, .int y, .int z] M Q := by
  refine KX10_way (h := h + 7) ?_
  unfold DX10_way_0 DX10_way_21 DX10_way_50 DX10_way_67
  refine ⟨ok0 hC.1, G_srOf (h := h) hC hb (fun ne _ => ⟨none, rfl, fun _ => K0 ne, fun b e => absurd e (by simp)⟩) (fun M5 ow' i hP hC' hi ex hB _ => ⟨none, rfl, fun _ => K M5 ow' i none _ hP hC' hi ex hB rfl, fun b e => absurd e (by simp)⟩) (fun M5 ow' i s a Y G hP hC' hi ex hO hS hQ hT hG _ => ⟨some s, rfl, fun e => absurd e (by simp), fun b e => ?_⟩)⟩
  cases e
  have n48 := hS.1.2
  have hY := hQ.2.1.ok
  have KK : ∀ r, AnW Y y z r → Q (some (.int r)) M5 := fun r hr => K M5 ow' i (some (Y, G)) r hP hC' hi ex hQ hr
  refine ⟨hO.1.1, S_hasSx (h := h + 6) hO hT n48 (fun q hq eq _ => ⟨1, rfl, fun _ => ?_, fun z => absurd z (by decide)⟩) (fun nq _ => ⟨0, rfl, fun z => absurd rfl z, fun _ => KK _ (Or.inr ⟨nq, rfl⟩)⟩)⟩
  obtain ⟨k, k1, k2⟩ := DpX.ex hY q hq
  have k48 : k < 48 := by omega
  rw [eq]
  refine S_stsx (h := h + 6) hO hT hY hq k2 k48 (fun _ => ⟨_, rfl, fun ne => ⟨fun ng => KK _ (Or.inl ⟨q, k, hq, eq, k2, k48, Or.inr (Or.inr ⟨ne, fun j hj e => ?_, rfl⟩)⟩), fun ng => ⟨fun lt => ?_, fun nl => KK _ (Or.inl ⟨q, k, hq, eq, k2, k48, Or.inr (Or.inr ⟨ne, fun j hj e => nl ?_, rfl⟩)⟩)⟩⟩, fun e1 => KK _ (Or.inl ⟨q, k, hq, eq, k2, k48, Or.inl ⟨e1, rfl⟩⟩)⟩)
  · rw [e] at ng; exact nn32 (by omega) ng
  · obtain ⟨j, ej, hj⟩ := nn_of ng
    rw [ej] at lt
    have jk := (ltn32 hj (by omega)).mp lt
    obtain ⟨d, rfl⟩ : ∃ d, k = j + 1 + d := ⟨k - 1 - j, by omega⟩
    have ed : Int32.ofNat (j + 1 + d) - 1 - z = Int32.ofNat d := by
      rw [ej, show j + 1 + d = d + j + 1 by omega, ← succ32, Int32.add_sub_cancel, ← add32, Int32.add_sub_cancel]
    rw [ed]
    refine S_stox (h := h + 6) (k := j + 1) hO hT hY hq k2 (by omega) (fun _ => ⟨_, rfl, KK _ (Or.inl ⟨q, j + 1 + d, hq, eq, k2, k48, Or.inr (Or.inl ⟨ne, j, by omega, ej, ?_⟩)⟩)⟩)
    rw [show j + 1 + d - 1 - j = d by omega]
  · rw [e]
    exact (ltn32 (by omega) (by omega)).mpr hj
/-- judge writes two numbers of cell 0 -/
theorem G_judge (hC : CvS ow ga gm M ms gs mb gb) (hb : mN M < mBig) (o : Option (Nat × Nat)) (ho : ∀ s v, o = some (s, v) → s < 48 ∧ v < 32) (K1 : ∀ s v M', o = some (s, v) → CvS ow ga gm M' ms gs mb gb → NuF (fun c => c = 0) M M' → (∀ f, f ≠ 7 → f ≠ 8 → mI M' 0 f = mI M 0 f) → mI M' 0 7 = Int32.ofNat s → mI M' 0 8 = Int32.ofNat v → Q (some (.int 0)) M') (K0 : o = none → Q (some (.int 1)) M) : E (h + 1) mdX10_judge [.ref 0, .int (fsV o)] M Q := by
  refine KX10_judge ?_
  unfold DX10_judge_0
  rcases o with _ | ⟨s, v⟩
  · exact ⟨fun z => absurd rfl z, fun _ => K0 rfl⟩
  · obtain ⟨s48, v32⟩ := ho s v rfl
    have ne : ¬ fsV (some (s, v)) = -1 := dvn ⟨s, s48⟩ ⟨v, v32⟩
    have dv := dv32 ⟨s, s48⟩ ⟨v, v32⟩
    refine ⟨fun _ => ⟨by decide, ok0 hC.1, fun M2 e2 => ⟨by decide, fun M3 e3 => ?_⟩⟩, fun z => absurd z ne⟩
    have k3 : NuF (fun c => c = 0) M M3 := by rw [e3, e2]; exact (NuF.w (S := fun c => c = 0) rfl).tr (NuF.w (S := fun c => c = 0) rfl)
    refine K1 s v M3 rfl (hC.out hb k3.fre (k3.fix hC.1) (fun a z => by rw [z, (ok0 hC.1).2]; decide)) k3 (fun f f7 f8 => ?_) ?_ ?_
    · rw [e3, mI_wI, if_neg (fun z => f8 z.2), e2, mI_wI, if_neg (fun z => f7 z.2)]
    · rw [e3, mI_wI, if_neg (fun z => absurd z.2 (by decide)), e2, mI_wI, if_pos ⟨rfl, rfl⟩]
      exact dv.1
    · rw [e3, mI_wI, if_pos ⟨rfl, rfl⟩]
      exact dv.2
/-- what a call that judges leaves -/
def JuP (ow ow' : Nat → Nat) (ms gs : List Nat) (M M' : Mem) : Prop := ∃ M1, SrP ow ow' ms gs M M1 ∧ NuF (fun c => c = 0) M1 M' ∧ ∀ f, f ≠ 7 → f ≠ 8 → mI M' 0 f = mI M1 0 f
theorem RmU.bd {S : Nat} (k : RmU ms M M') (hl : ∀ c, lnN M c + srN M c ≤ 11) : mN M' ≤ mN M + 11 := by
  obtain ⟨c, -, h1, -⟩ := k
  have := hl c
  omega
theorem ln_le (M : Mem) (c : Nat) : lnN M c + srN M c ≤ 11 := by
  have h1 : lnN M c ≤ 2 := by
    unfold lnN
    cases mR M (c + 8) 2 with
    | none => exact Nat.zero_le _
    | some ya =>
      show (if _ then 2 else 0) ≤ 2
      by_cases q : mL M ya < (mI M (c + 8) 4).toNatClampNeg
      · rw [if_pos q]; exact Nat.le_refl _
      · rw [if_neg q]; exact Nat.zero_le _
  have h2 : srN M c ≤ 9 := by
    unfold srN
    by_cases q : mR M c 17 = none
    · rw [if_pos q]; exact Nat.le_refl _
    · rw [if_neg q]; exact Nat.zero_le _
  omega
theorem SrP.bg {ow' : Nat → Nat} (k : SrP ow ow' ms gs M M') (hb : mN M + 20 < mBig) : mN M' < mBig := by
  have := k.2.2.1.bd (S := 0) (ln_le M)
  omega
theorem SrP.i0 {ow' : Nat → Nat} (k : SrP ow ow' ms gs M M') (F : Fix M) : mI M' 0 = mI M 0 := (k.2.1.2 0 (by have := F.1; omega) (by omega)).1
theorem G_never (hC : CvS ow ga gm M ms gs mb gb) (hb : mN M + 20 < mBig) (K0 : (∀ i, i < ms.length → x ≠ Int32.ofNat i) → Q (some (.int (-9))) M) (K : ∀ M' ow' i S (r : Int32), JuP ow ow' ms gs M M' → CvS ow' ga gm M' ms gs mb gb → i < ms.length → x = Int32.ofNat i → StQ (ga (ms.getD i 0)) S → AnN (tQ (ga (ms.getD i 0))) (ga (ms.getD i 0)).1.1.length y (mI M 0 7) (mI M 0 8) (mI M' 0 7) (mI M' 0 8) S r → Q (some (.int r)) M') : E (h + 8) mdX10_never [.ref 0, .int x, .int y] M Q := by
  refine KX10_never (h := h + 7) ?_
  unfold DX10_never_0 DX10_never_21
  refine ⟨ok0 hC.1, G_srOf (h := h) hC hb (fun ne _ => ⟨none, rfl, fun _ => K0 ne, fun b e => absurd e (by simp)⟩) (fun M5 ow' i hP hC' hi ex hB _ => ⟨none, rfl, fun _ => K M5 ow' i none _ ⟨M5, hP, NuF.rf, fun _ _ _ => rfl⟩ hC' hi ex hB ⟨rfl, by rw [hP.i0 hC.1], by rw [hP.i0 hC.1]⟩, fun b e => absurd e (by simp)⟩) (fun M5 ow' i s a Y G hP hC' hi ex hO hS hQ hT hG _ => ⟨some s, rfl, fun e => absurd e (by simp), fun b e => ?_⟩)⟩
  cases e
  have n48 := hS.1.2
  have e0 := hP.i0 hC.1
  have hY := hQ.2.1.ok
  obtain ⟨p1, p2⟩ := pw_le hQ.1
  have hm := (hC'.2.2.2.2.2.2.2.1 i hi).2
  obtain ⟨I, pb, ps, ⟨e9, h9⟩, -⟩ := hm.fl
  have KK : ∀ r, AnN (tQ (ga (ms.getD i 0))) (ga (ms.getD i 0)).1.1.length y (mI M 0 7) (mI M 0 8) (mI M5 0 7) (mI M5 0 8) (some (Y, G)) r → Q (some (.int r)) M5 := fun r hr => K M5 ow' i (some (Y, G)) r ⟨M5, hP, NuF.rf, fun _ _ _ => rfl⟩ hC' hi ex hQ hr
  refine ⟨hO.1.1, _, hO.1.2.1, hm.on, S_hasSg (h := h + 6) hm.on e9 h9 (fun q hq eq _ => ⟨1, rfl, fun _ => ?_, fun z => absurd z (by decide)⟩) (fun nq _ => ⟨0, rfl, fun z => absurd rfl z, fun _ => KK _ (Or.inr ⟨nq, rfl, by rw [e0], by rw [e0]⟩)⟩)⟩
  refine S_fsx (h := h + 6) (p := q) (q := none) hO hT hY (by omega) (fun b e => by cases e) (by rw [eq]) rfl (fun o ho _ => ⟨_, rfl, G_judge (h := h + 6) hC' (hP.bg hb) o (fun s v e => ?_) (fun s v M12 e hC12 k12 f12 m7 m8 _ => ⟨0, rfl, K M12 ow' i (some (Y, G)) _ ⟨M5, hP, k12, f12⟩ hC12 hi ex hQ (Or.inl ⟨q, hq, eq, Or.inl ⟨s, v, by rw [← e]; exact ho, rfl, m7, m8⟩⟩)⟩) (fun e _ => ⟨1, rfl, KK _ (Or.inl ⟨q, hq, eq, Or.inr ⟨by rw [← e]; exact ho, rfl, by rw [e0], by rw [e0]⟩⟩)⟩)⟩)
  rw [e] at ho
  have := ho.1
  omega
theorem G_always (hC : CvS ow ga gm M ms gs mb gb) (hb : mN M + 20 < mBig) (K0 : (∀ i, i < ms.length → x ≠ Int32.ofNat i) → Q (some (.int (-9))) M) (K : ∀ M' ow' i S (r : Int32), JuP ow ow' ms gs M M' → CvS ow' ga gm M' ms gs mb gb → i < ms.length → x = Int32.ofNat i → StQ (ga (ms.getD i 0)) S → AnA (tQ (ga (ms.getD i 0))) (ga (ms.getD i 0)).1.1.length y z (mI M 0 7) (mI M 0 8) (mI M' 0 7) (mI M' 0 8) S r → Q (some (.int r)) M') : E (h + 8) mdX10_always [.ref 0, .int x, .int y, .int z] M Q := by
  refine KX10_always (h := h + 7) ?_
  unfold DX10_always_0 DX10_always_36
  refine ⟨ok0 hC.1, G_srOf (h := h) hC hb (fun ne _ => ⟨none, rfl, fun _ => K0 ne, fun b e => absurd e (by simp)⟩) (fun M5 ow' i hP hC' hi ex hB _ => ⟨none, rfl, fun _ => K M5 ow' i none _ ⟨M5, hP, NuF.rf, fun _ _ _ => rfl⟩ hC' hi ex hB ⟨rfl, by rw [hP.i0 hC.1], by rw [hP.i0 hC.1]⟩, fun b e => absurd e (by simp)⟩) (fun M5 ow' i s a Y G hP hC' hi ex hO hS hQ hT hG _ => ⟨some s, rfl, fun e => absurd e (by simp), fun b e => ?_⟩)⟩
  cases e
  have n48 := hS.1.2
  have e0 := hP.i0 hC.1
  have hY := hQ.2.1.ok
  obtain ⟨p1, p2⟩ := pw_le hQ.1
  have hm := (hC'.2.2.2.2.2.2.2.1 i hi).2
  obtain ⟨I, pb, ps, ⟨e9, h9⟩, -⟩ := hm.fl
  have KK : ∀ r, AnA (tQ (ga (ms.getD i 0))) (ga (ms.getD i 0)).1.1.length y z (mI M 0 7) (mI M 0 8) (mI M5 0 7) (mI M5 0 8) (some (Y, G)) r → Q (some (.int r)) M5 := fun r hr => K M5 ow' i (some (Y, G)) r ⟨M5, hP, NuF.rf, fun _ _ _ => rfl⟩ hC' hi ex hQ hr
  refine ⟨hO.1.1, _, hO.1.2.1, hm.on, S_hasSg (h := h + 6) hm.on e9 h9 (fun q hq eq _ => ⟨1, rfl, fun z => absurd z (by decide), fun _ => ⟨_, hO.1.2.1, hm.on, S_hasSg (h := h + 6) hm.on e9 h9 (fun q' hq' eq' _ => ⟨1, rfl, fun _ => ?_, fun z => absurd z (by decide)⟩) (fun nq _ => ⟨0, rfl, fun z => absurd rfl z, fun _ => KK _ (Or.inr ⟨fun a b _ hb e => nq b hb e.2, rfl, by rw [e0], by rw [e0]⟩)⟩)⟩⟩) (fun nq _ => ⟨0, rfl, fun _ => KK _ (Or.inr ⟨fun a b ha _ e => nq a ha e.1, rfl, by rw [e0], by rw [e0]⟩), fun z => absurd rfl z⟩)⟩
  refine S_fsx (h := h + 6) (p := q) (q := some q') hO hT hY (by omega) (fun b e => by cases e; omega) (by rw [eq]) (by rw [eq']; rfl) (fun o ho _ => ⟨_, rfl, G_judge (h := h + 6) hC' (hP.bg hb) o (fun s v e => ?_) (fun s v M12 e hC12 k12 f12 m7 m8 _ => ⟨0, rfl, K M12 ow' i (some (Y, G)) _ ⟨M5, hP, k12, f12⟩ hC12 hi ex hQ (Or.inl ⟨q, q', ⟨hq, hq'⟩, ⟨eq, eq'⟩, Or.inl ⟨s, v, by rw [← e]; exact ho, rfl, m7, m8⟩⟩)⟩) (fun e _ => ⟨1, rfl, KK _ (Or.inl ⟨q, q', ⟨hq, hq'⟩, ⟨eq, eq'⟩, Or.inr ⟨by rw [← e]; exact ho, rfl, by rw [e0], by rw [e0]⟩⟩)⟩)⟩)
  rw [e] at ho
  have := ho.1
  omega
end
end
section
/-! walks of the governor's constructor and of Integer.bitCount -/
theorem ok_nw3 {M : Mem} {a ci n : Nat} (h : ok M a ci) : ok (nw3 M n) a ci := ok_E h mE_nw3
theorem xt_ldcw {h : Nat} {d : MD} {pc : Nat} {lv : List (Nat × Value)} {st : List Value} {M : Mem} {Q : Option Value → Mem → Prop} {index : Nat} {v : Int32} (hd : decode d.2.1 pc = .ok (.ldc_w index, 3)) (hm : Cond.constant d.1.cls index v ∈ TB) (k : T h d (pc + 3) lv (.int v :: st) M Q) : T h d pc lv (st) M Q :=
  k.go (fun p l e R s m args below meth c H locs cells slots Q ad ls hx hb hl0 hw ht kk => lv_ldcw hx hb hw (ht _ hm) hd (kk ls hl0))
theorem ctJ6_265 {d : MD} (hc : d.1.cls = RJ6) : Cond.constant d.1.cls 265 (1431655765) ∈ TB := by rw [hc]; exact tbL tbk_6 16 (by decide +kernel) rfl
theorem ctJ6_266 {d : MD} (hc : d.1.cls = RJ6) : Cond.constant d.1.cls 266 (858993459) ∈ TB := by rw [hc]; exact tbL tbk_6 17 (by decide +kernel) rfl
theorem ctJ6_267 {d : MD} (hc : d.1.cls = RJ6) : Cond.constant d.1.cls 267 (252645135) ∈ TB := by rw [hc]; exact tbL tbk_6 18 (by decide +kernel) rfl
theorem cgX2_20 {d : MD} (hc : d.1.cls = RX2) : Cond.classLink d.1.cls 20 "[[I" ∈ TB := by rw [hc]; exact tbL tbk_6 39 (by decide +kernel) rfl
def DX2_init_73 (h : Nat) (x0 : Nat) (x1 : Nat) (x3 : Int32) (M : Mem) (Q : Option Value → Mem → Prop) : Prop :=
  ok M x1 3 ∧ ((mI M x1 12) ≤ x3 → Q none M) ∧
  (¬ ((mI M x1 12) ≤ x3) → ok M x0 4 ∧ ∃ b3 : Nat, mR M x0 2 = some b3 ∧ ∃ b4 : Nat, mR M x1 5 = some b4 ∧ ok M b4 21 ∧ vp_in x3 (mL M b4) ∧ ok M b3 21 ∧ vp_in (20 + x3) (mL M b3) ∧ ∀ M7 : Mem, M7 = wAI M b3 (20 + x3 : Int32).toNatClampNeg (mAI M b4 (x3 : Int32).toNatClampNeg) →
  T (h + 1) mdX2_init 73 [(0, .ref x0), (1, .ref x1), (3, .int (x3 + 1))] [] M7 Q)
set_option maxRecDepth 20000 in
set_option maxHeartbeats 2000000 in
theorem VX2_init_73 {h : Nat} {x0 : Nat} {x1 : Nat} {x3 : Int32} {M : Mem} {Q : Option Value → Mem → Prop} (H : DX2_init_73 h x0 x1 x3 M Q) : T (h + 1) mdX2_init 73 [(0, .ref x0), (1, .ref x1), (3, .int x3)] [] M Q := by
  unfold DX2_init_73 at H
  refine xt_iload_n (j := 2) dX2_init_73 rfl rfl ?_
  refine xt_aload_n (j := 1) dX2_init_74 rfl rfl ?_
  obtain ⟨ho1, H⟩ := H
  refine xt_getI dX2_init_75 (flX2_55 rfl) ft_3_12 ho1.1 ho1.2 ?_
  refine xt_icmp_ge (tgt := 102) dX2_init_78 (by decide) (fun hc => ?_) (fun hc => ?_)
  · have H := H.1 hc
    exact xt_return dX2_init_102 rfl H
  · have H := H.2 hc
    refine xt_aload_n (j := 0) dX2_init_81 rfl rfl ?_
    obtain ⟨ho2, H⟩ := H
    obtain ⟨b3, hb, H⟩ := H
    refine xt_getR dX2_init_82 (flX2_13 rfl) ft_4_2 ho2.1 ho2.2 hb ?_
    refine xt_bipush (v := 20) dX2_init_85 (by decide) ?_
    refine xt_iload_n (j := 2) dX2_init_87 rfl rfl ?_
    refine xt_iadd dX2_init_88 ?_
    refine xt_aload_n (j := 1) dX2_init_89 rfl rfl ?_
    obtain ⟨b4, hb, H⟩ := H
    refine xt_getR dX2_init_90 (flX2_58 rfl) ft_3_5 ho1.1 ho1.2 hb ?_
    refine xt_iload_n (j := 2) dX2_init_93 rfl rfl ?_
    obtain ⟨ho5, H⟩ := H
    obtain ⟨hi, H⟩ := H
    refine xt_iald dX2_init_94 ho5.1 ho5.2 hi ?_
    obtain ⟨ho6, H⟩ := H
    obtain ⟨hi, H⟩ := H
    obtain ⟨M7, eM7⟩ : ∃ z, z = wAI M b3 (20 + x3 : Int32).toNatClampNeg (mAI M b4 (x3 : Int32).toNatClampNeg) := ⟨_, rfl⟩
    have H := H _ eM7
    refine xt_iast dX2_init_95 ho6.1 ho6.2 hi ?_
    have ho1 : ok M7 x1 3 := by rw [eM7]; exact ho1
    have ho2 : ok M7 x0 4 := by rw [eM7]; exact ho2
    rw [← eM7]
    refine xt_iinc (j := 2) (v := x3 + 1) (lv' := [(3, .int (x3 + 1)), (0, .ref x0), (1, .ref x1)]) dX2_init_96 rfl (by rfl) (by decide) rfl ?_
    refine xt_goto (tgt := 73) dX2_init_99 (by decide) ?_
    exact xt_sub (lv' := [(0, .ref x0), (1, .ref x1), (3, .int (x3 + 1))]) [1, 2, 0] rfl H
def DX2_init_0 (h : Nat) (x0 : Nat) (x1 : Nat) (x2 : Int32) (M : Mem) (Q : Option Value → Mem → Prop) : Prop :=
  ¬ (26 : Int32) < 0 ∧ ((26 : Int32).toNatClampNeg ≤ 100000000) ∧ ∀ (q2 : Nat) (M1 : Mem), q2 = mN M → M1 = nwA M 21 ((26 : Int32).toNatClampNeg) →
  ok M1 x0 4 ∧ ∀ M4 : Mem, M4 = wR M1 x0 2 (some q2) →
  ¬ (26 : Int32) < 0 ∧ ((26 : Int32).toNatClampNeg ≤ 100000000) ∧ ∀ (q6 : Nat) (M5 : Mem), q6 = mN M4 → M5 = nwA M4 21 ((26 : Int32).toNatClampNeg) →
  ∀ M7 : Mem, M7 = wR M5 x0 3 (some q6) →
  ¬ (26 : Int32) < 0 ∧ ((26 : Int32).toNatClampNeg ≤ 1000) ∧ ∀ (q9 : Nat) (M8 : Mem), q9 = mN M7 → M8 = nw3 M7 ((26 : Int32).toNatClampNeg) →
  ∀ M10 : Mem, M10 = wR M8 x0 4 (some q9) →
  ¬ (4 : Int32) < 0 ∧ ((4 : Int32).toNatClampNeg ≤ 100000000) ∧ ∀ (q12 : Nat) (M11 : Mem), q12 = mN M10 → M11 = nwA M10 21 ((4 : Int32).toNatClampNeg) →
  ∀ M13 : Mem, M13 = wR M11 x0 7 (some q12) →
  ∀ M14 : Mem, M14 = wI M13 x0 11 (-1) →
  ∀ M15 : Mem, M15 = wI M14 x0 13 (-1) →
  ∀ M16 : Mem, M16 = wR M15 x0 0 (some x1) →
  ∀ M17 : Mem, M17 = wI M16 x0 1 x2 →
  ok M17 x1 3 ∧ ∃ b19 : Nat, mR M17 x1 6 = some b19 ∧ ok M17 b19 1 ∧ E h mdJx4a65c_size_8abf5 [.ref b19] M17 (fun r M21 => mE M17 M21 → ∃ r22 : Int32, r = some (.int r22) ∧ ¬ (r22 : Int32) < 0 ∧ ((r22 : Int32).toNatClampNeg ≤ 100000000) ∧ ∀ (q24 : Nat) (M23 : Mem), q24 = mN M21 → M23 = nwA M21 21 ((r22 : Int32).toNatClampNeg) →
  ∀ M25 : Mem, M25 = wR M23 x0 8 (some q24) →
  T (h + 1) mdX2_init 73 [(0, .ref x0), (1, .ref x1), (3, .int 0)] [] M25 Q)
set_option maxRecDepth 20000 in
set_option maxHeartbeats 2000000 in
theorem VX2_init_0 {h : Nat} {x0 : Nat} {x1 : Nat} {x2 : Int32} {M : Mem} {Q : Option Value → Mem → Prop} (H : DX2_init_0 h x0 x1 x2 M Q) : T (h + 1) mdX2_init 0 [(0, .ref x0), (1, .ref x1), (2, .int x2)] [] M Q := by
  unfold DX2_init_0 at H
  refine xt_aload_n (j := 0) dX2_init_0 rfl rfl ?_
  refine xt_objInit dX2_init_1 (oiX2_7 rfl) (by decide) (Nat.succ_le_succ (Nat.zero_le _)) ?_
  refine xt_aload_n (j := 0) dX2_init_4 rfl rfl ?_
  refine xt_bipush (v := 26) dX2_init_5 (by decide) ?_
  obtain ⟨hn, hy, H⟩ := H
  obtain ⟨M1, eM1⟩ : ∃ z, z = nwA M 21 ((26 : Int32).toNatClampNeg) := ⟨_, rfl⟩
  obtain ⟨q2, eq2⟩ : ∃ z, z = mN M := ⟨_, rfl⟩
  have H := H _ _ eq2 eM1
  refine xt_newI dX2_init_7 ac_I hn rfl hy ?_
  rw [← eM1, ← eq2]
  obtain ⟨ho3, H⟩ := H
  obtain ⟨M4, eM4⟩ : ∃ z, z = wR M1 x0 2 (some q2) := ⟨_, rfl⟩
  have H := H _ eM4
  refine xt_putR dX2_init_9 (flX2_13 rfl) ft_4_2 rfl ho3.1 ho3.2 ?_
  have ho3 : ok M4 x0 4 := by rw [eM4]; exact ho3
  rw [← eM4]
  refine xt_aload_n (j := 0) dX2_init_12 rfl rfl ?_
  refine xt_bipush (v := 26) dX2_init_13 (by decide) ?_
  obtain ⟨hn, hy, H⟩ := H
  obtain ⟨M5, eM5⟩ : ∃ z, z = nwA M4 21 ((26 : Int32).toNatClampNeg) := ⟨_, rfl⟩
  obtain ⟨q6, eq6⟩ : ∃ z, z = mN M4 := ⟨_, rfl⟩
  have H := H _ _ eq6 eM5
  refine xt_newI dX2_init_15 ac_I hn rfl hy ?_
  have ho3 : ok M5 x0 4 := by rw [eM5]; exact ok_nwA ho3
  rw [← eM5, ← eq6]
  obtain ⟨M7, eM7⟩ : ∃ z, z = wR M5 x0 3 (some q6) := ⟨_, rfl⟩
  have H := H _ eM7
  refine xt_putR dX2_init_17 (flX2_17 rfl) ft_4_3 rfl ho3.1 ho3.2 ?_
  have ho3 : ok M7 x0 4 := by rw [eM7]; exact ho3
  rw [← eM7]
  refine xt_aload_n (j := 0) dX2_init_20 rfl rfl ?_
  refine xt_iconst (v := 3) dX2_init_21 (by decide) ?_
  refine xt_bipush (v := 26) dX2_init_22 (by decide) ?_
  obtain ⟨hn, hy, H⟩ := H
  obtain ⟨M8, eM8⟩ : ∃ z, z = nw3 M7 ((26 : Int32).toNatClampNeg) := ⟨_, rfl⟩
  obtain ⟨q9, eq9⟩ : ∃ z, z = mN M7 := ⟨_, rfl⟩
  have H := H _ _ eq9 eM8
  refine xt_mul2 dX2_init_24 (cgX2_20 rfl) ac_I hn rfl hy ?_
  have ho3 : ok M8 x0 4 := by rw [eM8]; exact ok_nw3 ho3
  rw [← eM8, ← eq9]
  obtain ⟨M10, eM10⟩ : ∃ z, z = wR M8 x0 4 (some q9) := ⟨_, rfl⟩
  have H := H _ eM10
  refine xt_putR dX2_init_28 (flX2_22 rfl) ft_4_4 rfl ho3.1 ho3.2 ?_
  have ho3 : ok M10 x0 4 := by rw [eM10]; exact ho3
  rw [← eM10]
  refine xt_aload_n (j := 0) dX2_init_31 rfl rfl ?_
  refine xt_iconst (v := 4) dX2_init_32 (by decide) ?_
  obtain ⟨hn, hy, H⟩ := H
  obtain ⟨M11, eM11⟩ : ∃ z, z = nwA M10 21 ((4 : Int32).toNatClampNeg) := ⟨_, rfl⟩
  obtain ⟨q12, eq12⟩ : ∃ z, z = mN M10 := ⟨_, rfl⟩
  have H := H _ _ eq12 eM11
  refine xt_newI dX2_init_33 ac_I hn rfl hy ?_
  have ho3 : ok M11 x0 4 := by rw [eM11]; exact ok_nwA ho3
  rw [← eM11, ← eq12]
  obtain ⟨M13, eM13⟩ : ∃ z, z = wR M11 x0 7 (some q12) := ⟨_, rfl⟩
  have H := H _ eM13
  refine xt_putR dX2_init_35 (flX2_25 rfl) ft_4_7 rfl ho3.1 ho3.2 ?_
  have ho3 : ok M13 x0 4 := by rw [eM13]; exact ho3
  rw [← eM13]
  refine xt_aload_n (j := 0) dX2_init_38 rfl rfl ?_
  refine xt_iconst (v := -1) dX2_init_39 (by decide) ?_
  obtain ⟨M14, eM14⟩ : ∃ z, z = wI M13 x0 11 (-1) := ⟨_, rfl⟩
  have H := H _ eM14
  refine xt_putI dX2_init_40 (flX2_28 rfl) ty_4_11 rfl ho3.1 ho3.2 ?_
  have ho3 : ok M14 x0 4 := by rw [eM14]; exact ho3
  rw [← eM14]
  refine xt_aload_n (j := 0) dX2_init_43 rfl rfl ?_
  refine xt_iconst (v := -1) dX2_init_44 (by decide) ?_
  obtain ⟨M15, eM15⟩ : ∃ z, z = wI M14 x0 13 (-1) := ⟨_, rfl⟩
  have H := H _ eM15
  refine xt_putI dX2_init_45 (flX2_32 rfl) ty_4_13 rfl ho3.1 ho3.2 ?_
  have ho3 : ok M15 x0 4 := by rw [eM15]; exact ho3
  rw [← eM15]
  refine xt_aload_n (j := 0) dX2_init_48 rfl rfl ?_
  refine xt_aload_n (j := 1) dX2_init_49 rfl rfl ?_
  obtain ⟨M16, eM16⟩ : ∃ z, z = wR M15 x0 0 (some x1) := ⟨_, rfl⟩
  have H := H _ eM16
  refine xt_putR dX2_init_50 (flX2_35 rfl) ft_4_0 rfl ho3.1 ho3.2 ?_
  have ho3 : ok M16 x0 4 := by rw [eM16]; exact ho3
  rw [← eM16]
  refine xt_aload_n (j := 0) dX2_init_53 rfl rfl ?_
  refine xt_iload_n (j := 2) dX2_init_54 rfl rfl ?_
  obtain ⟨M17, eM17⟩ : ∃ z, z = wI M16 x0 1 x2 := ⟨_, rfl⟩
  have H := H _ eM17
  refine xt_putI dX2_init_55 (flX2_39 rfl) ty_4_1 rfl ho3.1 ho3.2 ?_
  have ho3 : ok M17 x0 4 := by rw [eM17]; exact ho3
  rw [← eM17]
  refine xt_aload_n (j := 0) dX2_init_58 rfl rfl ?_
  refine xt_aload_n (j := 1) dX2_init_59 rfl rfl ?_
  obtain ⟨ho18, H⟩ := H
  obtain ⟨b19, hb, H⟩ := H
  refine xt_getR dX2_init_60 (flX2_42 rfl) ft_3_6 ho18.1 ho18.2 hb ?_
  obtain ⟨ho20, H⟩ := H
  refine xt_callV (h2 := h) (as := []) (st := [.ref x0]) dX2_init_63 (mlX2_46 rfl) rfl ho20.1 ⟨by rw [ho20.2]; rfl, by rw [ho20.2]; decide⟩ (by first | decide | (simp [Value.category]; done)) (Nat.le_refl _) H (fun r M21 HH hE => ?_)
  obtain ⟨r22, hr, H⟩ := HH hE
  subst hr
  have ho3 := ok_E ho3 hE
  have ho18 := ok_E ho18 hE
  show T _ _ _ _ [.int r22, .ref x0] _ _
  obtain ⟨hn, hy, H⟩ := H
  obtain ⟨M23, eM23⟩ : ∃ z, z = nwA M21 21 ((r22 : Int32).toNatClampNeg) := ⟨_, rfl⟩
  obtain ⟨q24, eq24⟩ : ∃ z, z = mN M21 := ⟨_, rfl⟩
  have H := H _ _ eq24 eM23
  refine xt_newI dX2_init_66 ac_I hn rfl hy ?_
  have ho3 : ok M23 x0 4 := by rw [eM23]; exact ok_nwA ho3
  have ho18 : ok M23 x1 3 := by rw [eM23]; exact ok_nwA ho18
  rw [← eM23, ← eq24]
  obtain ⟨M25, eM25⟩ : ∃ z, z = wR M23 x0 8 (some q24) := ⟨_, rfl⟩
  have H := H _ eM25
  refine xt_putR dX2_init_68 (flX2_52 rfl) ft_4_8 rfl ho3.1 ho3.2 ?_
  have ho3 : ok M25 x0 4 := by rw [eM25]; exact ho3
  have ho18 : ok M25 x1 3 := by rw [eM25]; exact ho18
  rw [← eM25]
  refine xt_iconst (v := 0) dX2_init_71 (by decide) ?_
  refine xt_istore_n (lv' := [(3, .int 0), (0, .ref x0), (1, .ref x1), (2, .int x2)]) dX2_init_72 rfl (by decide) rfl ?_
  exact xt_sub (lv' := [(0, .ref x0), (1, .ref x1), (3, .int 0)]) [1, 2, 0] rfl H
theorem KX2_init {h : Nat} {x0 : Nat} {x1 : Nat} {x2 : Int32} {M : Mem} {Q : Option Value → Mem → Prop} (H : DX2_init_0 h x0 x1 x2 M Q) : E (h + 1) mdX2_init [.ref x0, .ref x1, .int x2] M Q := E.of (by decide) (Nat.le_of_ble_eq_true rfl) (fun _ _ _ => trivial) (VX2_init_0 H)
def DJ6_bitCount_0f7a4_0 (h : Nat) (x0 : Int32) (M : Mem) (Q : Option Value → Mem → Prop) : Prop :=
  Q (some (.int ((((((((x0 - ((((x0 : Int32).toUInt32 >>> ((1 : Int32).toUInt32 &&& Int32.toUInt32 31)).toInt32) &&& 1431655765)) &&& 858993459) + ((((x0 - ((((x0 : Int32).toUInt32 >>> ((1 : Int32).toUInt32 &&& Int32.toUInt32 31)).toInt32) &&& 1431655765) : Int32).toUInt32 >>> ((2 : Int32).toUInt32 &&& Int32.toUInt32 31)).toInt32) &&& 858993459)) + (((((x0 - ((((x0 : Int32).toUInt32 >>> ((1 : Int32).toUInt32 &&& Int32.toUInt32 31)).toInt32) &&& 1431655765)) &&& 858993459) + ((((x0 - ((((x0 : Int32).toUInt32 >>> ((1 : Int32).toUInt32 &&& Int32.toUInt32 31)).toInt32) &&& 1431655765) : Int32).toUInt32 >>> ((2 : Int32).toUInt32 &&& Int32.toUInt32 31)).toInt32) &&& 858993459) : Int32).toUInt32 >>> ((4 : Int32).toUInt32 &&& Int32.toUInt32 31)).toInt32)) &&& 252645135) + (((((((x0 - ((((x0 : Int32).toUInt32 >>> ((1 : Int32).toUInt32 &&& Int32.toUInt32 31)).toInt32) &&& 1431655765)) &&& 858993459) + ((((x0 - ((((x0 : Int32).toUInt32 >>> ((1 : Int32).toUInt32 &&& Int32.toUInt32 31)).toInt32) &&& 1431655765) : Int32).toUInt32 >>> ((2 : Int32).toUInt32 &&& Int32.toUInt32 31)).toInt32) &&& 858993459)) + (((((x0 - ((((x0 : Int32).toUInt32 >>> ((1 : Int32).toUInt32 &&& Int32.toUInt32 31)).toInt32) &&& 1431655765)) &&& 858993459) + ((((x0 - ((((x0 : Int32).toUInt32 >>> ((1 : Int32).toUInt32 &&& Int32.toUInt32 31)).toInt32) &&& 1431655765) : Int32).toUInt32 >>> ((2 : Int32).toUInt32 &&& Int32.toUInt32 31)).toInt32) &&& 858993459) : Int32).toUInt32 >>> ((4 : Int32).toUInt32 &&& Int32.toUInt32 31)).toInt32)) &&& 252645135 : Int32).toUInt32 >>> ((8 : Int32).toUInt32 &&& Int32.toUInt32 31)).toInt32)) + ((((((((x0 - ((((x0 : Int32).toUInt32 >>> ((1 : Int32).toUInt32 &&& Int32.toUInt32 31)).toInt32) &&& 1431655765)) &&& 858993459) + ((((x0 - ((((x0 : Int32).toUInt32 >>> ((1 : Int32).toUInt32 &&& Int32.toUInt32 31)).toInt32) &&& 1431655765) : Int32).toUInt32 >>> ((2 : Int32).toUInt32 &&& Int32.toUInt32 31)).toInt32) &&& 858993459)) + (((((x0 - ((((x0 : Int32).toUInt32 >>> ((1 : Int32).toUInt32 &&& Int32.toUInt32 31)).toInt32) &&& 1431655765)) &&& 858993459) + ((((x0 - ((((x0 : Int32).toUInt32 >>> ((1 : Int32).toUInt32 &&& Int32.toUInt32 31)).toInt32) &&& 1431655765) : Int32).toUInt32 >>> ((2 : Int32).toUInt32 &&& Int32.toUInt32 31)).toInt32) &&& 858993459) : Int32).toUInt32 >>> ((4 : Int32).toUInt32 &&& Int32.toUInt32 31)).toInt32)) &&& 252645135) + (((((((x0 - ((((x0 : Int32).toUInt32 >>> ((1 : Int32).toUInt32 &&& Int32.toUInt32 31)).toInt32) &&& 1431655765)) &&& 858993459) + ((((x0 - ((((x0 : Int32).toUInt32 >>> ((1 : Int32).toUInt32 &&& Int32.toUInt32 31)).toInt32) &&& 1431655765) : Int32).toUInt32 >>> ((2 : Int32).toUInt32 &&& Int32.toUInt32 31)).toInt32) &&& 858993459)) + (((((x0 - ((((x0 : Int32).toUInt32 >>> ((1 : Int32).toUInt32 &&& Int32.toUInt32 31)).toInt32) &&& 1431655765)) &&& 858993459) + ((((x0 - ((((x0 : Int32).toUInt32 >>> ((1 : Int32).toUInt32 &&& Int32.toUInt32 31)).toInt32) &&& 1431655765) : Int32).toUInt32 >>> ((2 : Int32).toUInt32 &&& Int32.toUInt32 31)).toInt32) &&& 858993459) : Int32).toUInt32 >>> ((4 : Int32).toUInt32 &&& Int32.toUInt32 31)).toInt32)) &&& 252645135 : Int32).toUInt32 >>> ((8 : Int32).toUInt32 &&& Int32.toUInt32 31)).toInt32) : Int32).toUInt32 >>> ((16 : Int32).toUInt32 &&& Int32.toUInt32 31)).toInt32)) &&& 63))) M
set_option maxRecDepth 20000 in
set_option maxHeartbeats 2000000 in
theorem VJ6_bitCount_0f7a4_0 {h : Nat} {x0 : Int32} {M : Mem} {Q : Option Value → Mem → Prop} (H : DJ6_bitCount_0f7a4_0 h x0 M Q) : T (h + 1) mdJ6_bitCount_0f7a4 0 [(0, .int x0)] [] M Q := by
  unfold DJ6_bitCount_0f7a4_0 at H
  refine xt_iload_n (j := 0) dJ6_bitCount_0f7a4_0 rfl rfl ?_
  refine xt_iload_n (j := 0) dJ6_bitCount_0f7a4_1 rfl rfl ?_
  refine xt_iconst (v := 1) dJ6_bitCount_0f7a4_2 (by decide) ?_
  refine xt_iushr dJ6_bitCount_0f7a4_3 ?_
  refine xt_ldcw (v := 1431655765) dJ6_bitCount_0f7a4_4 (ctJ6_265 rfl) ?_
  refine xt_iand dJ6_bitCount_0f7a4_7 ?_
  refine xt_isub dJ6_bitCount_0f7a4_8 ?_
  refine xt_istore_n (lv' := [(0, .int (x0 - ((((x0 : Int32).toUInt32 >>> ((1 : Int32).toUInt32 &&& Int32.toUInt32 31)).toInt32) &&& 1431655765)))]) dJ6_bitCount_0f7a4_9 rfl (by decide) rfl ?_
  refine xt_iload_n (j := 0) dJ6_bitCount_0f7a4_10 rfl rfl ?_
  refine xt_ldcw (v := 858993459) dJ6_bitCount_0f7a4_11 (ctJ6_266 rfl) ?_
  refine xt_iand dJ6_bitCount_0f7a4_14 ?_
  refine xt_iload_n (j := 0) dJ6_bitCount_0f7a4_15 rfl rfl ?_
  refine xt_iconst (v := 2) dJ6_bitCount_0f7a4_16 (by decide) ?_
  refine xt_iushr dJ6_bitCount_0f7a4_17 ?_
  refine xt_ldcw (v := 858993459) dJ6_bitCount_0f7a4_18 (ctJ6_266 rfl) ?_
  refine xt_iand dJ6_bitCount_0f7a4_21 ?_
  refine xt_iadd dJ6_bitCount_0f7a4_22 ?_
  refine xt_istore_n (lv' := [(0, .int (((x0 - ((((x0 : Int32).toUInt32 >>> ((1 : Int32).toUInt32 &&& Int32.toUInt32 31)).toInt32) &&& 1431655765)) &&& 858993459) + ((((x0 - ((((x0 : Int32).toUInt32 >>> ((1 : Int32).toUInt32 &&& Int32.toUInt32 31)).toInt32) &&& 1431655765) : Int32).toUInt32 >>> ((2 : Int32).toUInt32 &&& Int32.toUInt32 31)).toInt32) &&& 858993459)))]) dJ6_bitCount_0f7a4_23 rfl (by decide) rfl ?_
  refine xt_iload_n (j := 0) dJ6_bitCount_0f7a4_24 rfl rfl ?_
  refine xt_iload_n (j := 0) dJ6_bitCount_0f7a4_25 rfl rfl ?_
  refine xt_iconst (v := 4) dJ6_bitCount_0f7a4_26 (by decide) ?_
  refine xt_iushr dJ6_bitCount_0f7a4_27 ?_
  refine xt_iadd dJ6_bitCount_0f7a4_28 ?_
  refine xt_ldcw (v := 252645135) dJ6_bitCount_0f7a4_29 (ctJ6_267 rfl) ?_
  refine xt_iand dJ6_bitCount_0f7a4_32 ?_
  refine xt_istore_n (lv' := [(0, .int (((((x0 - ((((x0 : Int32).toUInt32 >>> ((1 : Int32).toUInt32 &&& Int32.toUInt32 31)).toInt32) &&& 1431655765)) &&& 858993459) + ((((x0 - ((((x0 : Int32).toUInt32 >>> ((1 : Int32).toUInt32 &&& Int32.toUInt32 31)).toInt32) &&& 1431655765) : Int32).toUInt32 >>> ((2 : Int32).toUInt32 &&& Int32.toUInt32 31)).toInt32) &&& 858993459)) + (((((x0 - ((((x0 : Int32).toUInt32 >>> ((1 : Int32).toUInt32 &&& Int32.toUInt32 31)).toInt32) &&& 1431655765)) &&& 858993459) + ((((x0 - ((((x0 : Int32).toUInt32 >>> ((1 : Int32).toUInt32 &&& Int32.toUInt32 31)).toInt32) &&& 1431655765) : Int32).toUInt32 >>> ((2 : Int32).toUInt32 &&& Int32.toUInt32 31)).toInt32) &&& 858993459) : Int32).toUInt32 >>> ((4 : Int32).toUInt32 &&& Int32.toUInt32 31)).toInt32)) &&& 252645135))]) dJ6_bitCount_0f7a4_33 rfl (by decide) rfl ?_
  refine xt_iload_n (j := 0) dJ6_bitCount_0f7a4_34 rfl rfl ?_
  refine xt_iload_n (j := 0) dJ6_bitCount_0f7a4_35 rfl rfl ?_
  refine xt_bipush (v := 8) dJ6_bitCount_0f7a4_36 (by decide) ?_
  refine xt_iushr dJ6_bitCount_0f7a4_38 ?_
  refine xt_iadd dJ6_bitCount_0f7a4_39 ?_
  refine xt_istore_n (lv' := [(0, .int ((((((x0 - ((((x0 : Int32).toUInt32 >>> ((1 : Int32).toUInt32 &&& Int32.toUInt32 31)).toInt32) &&& 1431655765)) &&& 858993459) + ((((x0 - ((((x0 : Int32).toUInt32 >>> ((1 : Int32).toUInt32 &&& Int32.toUInt32 31)).toInt32) &&& 1431655765) : Int32).toUInt32 >>> ((2 : Int32).toUInt32 &&& Int32.toUInt32 31)).toInt32) &&& 858993459)) + (((((x0 - ((((x0 : Int32).toUInt32 >>> ((1 : Int32).toUInt32 &&& Int32.toUInt32 31)).toInt32) &&& 1431655765)) &&& 858993459) + ((((x0 - ((((x0 : Int32).toUInt32 >>> ((1 : Int32).toUInt32 &&& Int32.toUInt32 31)).toInt32) &&& 1431655765) : Int32).toUInt32 >>> ((2 : Int32).toUInt32 &&& Int32.toUInt32 31)).toInt32) &&& 858993459) : Int32).toUInt32 >>> ((4 : Int32).toUInt32 &&& Int32.toUInt32 31)).toInt32)) &&& 252645135) + (((((((x0 - ((((x0 : Int32).toUInt32 >>> ((1 : Int32).toUInt32 &&& Int32.toUInt32 31)).toInt32) &&& 1431655765)) &&& 858993459) + ((((x0 - ((((x0 : Int32).toUInt32 >>> ((1 : Int32).toUInt32 &&& Int32.toUInt32 31)).toInt32) &&& 1431655765) : Int32).toUInt32 >>> ((2 : Int32).toUInt32 &&& Int32.toUInt32 31)).toInt32) &&& 858993459)) + (((((x0 - ((((x0 : Int32).toUInt32 >>> ((1 : Int32).toUInt32 &&& Int32.toUInt32 31)).toInt32) &&& 1431655765)) &&& 858993459) + ((((x0 - ((((x0 : Int32).toUInt32 >>> ((1 : Int32).toUInt32 &&& Int32.toUInt32 31)).toInt32) &&& 1431655765) : Int32).toUInt32 >>> ((2 : Int32).toUInt32 &&& Int32.toUInt32 31)).toInt32) &&& 858993459) : Int32).toUInt32 >>> ((4 : Int32).toUInt32 &&& Int32.toUInt32 31)).toInt32)) &&& 252645135 : Int32).toUInt32 >>> ((8 : Int32).toUInt32 &&& Int32.toUInt32 31)).toInt32)))]) dJ6_bitCount_0f7a4_40 rfl (by decide) rfl ?_
  refine xt_iload_n (j := 0) dJ6_bitCount_0f7a4_41 rfl rfl ?_
  refine xt_iload_n (j := 0) dJ6_bitCount_0f7a4_42 rfl rfl ?_
  refine xt_bipush (v := 16) dJ6_bitCount_0f7a4_43 (by decide) ?_
  refine xt_iushr dJ6_bitCount_0f7a4_45 ?_
  refine xt_iadd dJ6_bitCount_0f7a4_46 ?_
  refine xt_istore_n (lv' := [(0, .int (((((((x0 - ((((x0 : Int32).toUInt32 >>> ((1 : Int32).toUInt32 &&& Int32.toUInt32 31)).toInt32) &&& 1431655765)) &&& 858993459) + ((((x0 - ((((x0 : Int32).toUInt32 >>> ((1 : Int32).toUInt32 &&& Int32.toUInt32 31)).toInt32) &&& 1431655765) : Int32).toUInt32 >>> ((2 : Int32).toUInt32 &&& Int32.toUInt32 31)).toInt32) &&& 858993459)) + (((((x0 - ((((x0 : Int32).toUInt32 >>> ((1 : Int32).toUInt32 &&& Int32.toUInt32 31)).toInt32) &&& 1431655765)) &&& 858993459) + ((((x0 - ((((x0 : Int32).toUInt32 >>> ((1 : Int32).toUInt32 &&& Int32.toUInt32 31)).toInt32) &&& 1431655765) : Int32).toUInt32 >>> ((2 : Int32).toUInt32 &&& Int32.toUInt32 31)).toInt32) &&& 858993459) : Int32).toUInt32 >>> ((4 : Int32).toUInt32 &&& Int32.toUInt32 31)).toInt32)) &&& 252645135) + (((((((x0 - ((((x0 : Int32).toUInt32 >>> ((1 : Int32).toUInt32 &&& Int32.toUInt32 31)).toInt32) &&& 1431655765)) &&& 858993459) + ((((x0 - ((((x0 : Int32).toUInt32 >>> ((1 : Int32).toUInt32 &&& Int32.toUInt32 31)).toInt32) &&& 1431655765) : Int32).toUInt32 >>> ((2 : Int32).toUInt32 &&& Int32.toUInt32 31)).toInt32) &&& 858993459)) + (((((x0 - ((((x0 : Int32).toUInt32 >>> ((1 : Int32).toUInt32 &&& Int32.toUInt32 31)).toInt32) &&& 1431655765)) &&& 858993459) + ((((x0 - ((((x0 : Int32).toUInt32 >>> ((1 : Int32).toUInt32 &&& Int32.toUInt32 31)).toInt32) &&& 1431655765) : Int32).toUInt32 >>> ((2 : Int32).toUInt32 &&& Int32.toUInt32 31)).toInt32) &&& 858993459) : Int32).toUInt32 >>> ((4 : Int32).toUInt32 &&& Int32.toUInt32 31)).toInt32)) &&& 252645135 : Int32).toUInt32 >>> ((8 : Int32).toUInt32 &&& Int32.toUInt32 31)).toInt32)) + ((((((((x0 - ((((x0 : Int32).toUInt32 >>> ((1 : Int32).toUInt32 &&& Int32.toUInt32 31)).toInt32) &&& 1431655765)) &&& 858993459) + ((((x0 - ((((x0 : Int32).toUInt32 >>> ((1 : Int32).toUInt32 &&& Int32.toUInt32 31)).toInt32) &&& 1431655765) : Int32).toUInt32 >>> ((2 : Int32).toUInt32 &&& Int32.toUInt32 31)).toInt32) &&& 858993459)) + (((((x0 - ((((x0 : Int32).toUInt32 >>> ((1 : Int32).toUInt32 &&& Int32.toUInt32 31)).toInt32) &&& 1431655765)) &&& 858993459) + ((((x0 - ((((x0 : Int32).toUInt32 >>> ((1 : Int32).toUInt32 &&& Int32.toUInt32 31)).toInt32) &&& 1431655765) : Int32).toUInt32 >>> ((2 : Int32).toUInt32 &&& Int32.toUInt32 31)).toInt32) &&& 858993459) : Int32).toUInt32 >>> ((4 : Int32).toUInt32 &&& Int32.toUInt32 31)).toInt32)) &&& 252645135) + (((((((x0 - ((((x0 : Int32).toUInt32 >>> ((1 : Int32).toUInt32 &&& Int32.toUInt32 31)).toInt32) &&& 1431655765)) &&& 858993459) + ((((x0 - ((((x0 : Int32).toUInt32 >>> ((1 : Int32).toUInt32 &&& Int32.toUInt32 31)).toInt32) &&& 1431655765) : Int32).toUInt32 >>> ((2 : Int32).toUInt32 &&& Int32.toUInt32 31)).toInt32) &&& 858993459)) + (((((x0 - ((((x0 : Int32).toUInt32 >>> ((1 : Int32).toUInt32 &&& Int32.toUInt32 31)).toInt32) &&& 1431655765)) &&& 858993459) + ((((x0 - ((((x0 : Int32).toUInt32 >>> ((1 : Int32).toUInt32 &&& Int32.toUInt32 31)).toInt32) &&& 1431655765) : Int32).toUInt32 >>> ((2 : Int32).toUInt32 &&& Int32.toUInt32 31)).toInt32) &&& 858993459) : Int32).toUInt32 >>> ((4 : Int32).toUInt32 &&& Int32.toUInt32 31)).toInt32)) &&& 252645135 : Int32).toUInt32 >>> ((8 : Int32).toUInt32 &&& Int32.toUInt32 31)).toInt32) : Int32).toUInt32 >>> ((16 : Int32).toUInt32 &&& Int32.toUInt32 31)).toInt32)))]) dJ6_bitCount_0f7a4_47 rfl (by decide) rfl ?_
  refine xt_iload_n (j := 0) dJ6_bitCount_0f7a4_48 rfl rfl ?_
  refine xt_bipush (v := 63) dJ6_bitCount_0f7a4_49 (by decide) ?_
  refine xt_iand dJ6_bitCount_0f7a4_51 ?_
  exact xt_ireturn dJ6_bitCount_0f7a4_52 rfl H
theorem KJ6_bitCount_0f7a4 {h : Nat} {x0 : Int32} {M : Mem} {Q : Option Value → Mem → Prop} (H : DJ6_bitCount_0f7a4_0 h x0 M Q) : E (h + 1) mdJ6_bitCount_0f7a4 [.int x0] M Q := E.of (by decide) (Nat.le_of_ble_eq_true rfl) (fun _ _ _ => trivial) (VJ6_bitCount_0f7a4_0 H)
end
section
/-! the governor's constructor, governor() of the class -/
section
variable {M M1 M2 : Mem} {g f q w : Nat}
/-- a row is made and kept in field f of g -/
def StR (g f n w kd : Nat) (M M2 : Mem) : Prop := (mN M2 = mN M + n ∧ mS M2 = mS M + w) ∧ fr (fun c => c = g) M M2 ∧ mI M2 = mI M ∧ mR M2 g f = some (mN M) ∧ (∀ f', f' ≠ f → mR M2 g f' = mR M g f') ∧ ok M2 (mN M) kd
theorem st_row (e1 : M1 = nwA M 21 w) (eq : q = mN M) (e2 : M2 = wR M1 g f (some q)) (hg : g < mN M) : StR g f 1 w 21 M M2 ∧ mL M2 (mN M) = w ∧ ∀ k, mAI M2 (mN M) k = 0 := by
  have f1 : fr (fun c => c = g) M M1 := by rw [e1]; exact fr_nwA
  have f2 : fr (fun c => c = g) M1 M2 := by rw [e2]; exact fr_wR rfl
  have k1 : mK M1 (mN M) = 21 := by rw [e1]; exact va_up_self _ _ _
  have l1 : mL M1 (mN M) = w := by rw [e1]; exact va_up_self _ _ _
  have z1 : mAI M1 (mN M) = fun _ => 0 := by rw [e1]; exact va_up_self _ _ _
  refine ⟨⟨⟨by rw [e2, e1]; rfl, by rw [e2, e1]; rfl⟩, f1.tr f2 (fun _ _ z => z), by rw [e2, e1]; rfl, by rw [e2, mR_wR, if_pos ⟨rfl, rfl⟩, eq], fun f' hf => ?_, ⟨by rw [e2, e1]; exact Nat.lt_succ_self _, by rw [e2]; exact k1⟩⟩, by rw [e2]; exact l1, fun k => by rw [e2]; show mAI M1 (mN M) k = 0; rw [z1]⟩
  rw [e2, mR_wR, if_neg (fun z => hf z.2), e1]
  exact congrFun (show mR M g = mR M g from rfl) f'
theorem st_grd (e1 : M1 = nw3 M 26) (eq : q = mN M) (e2 : M2 = wR M1 g f (some q)) (hg : g < mN M) : StR g f 4 81 25 M M2 ∧ mL M2 (mN M) = 3 ∧ ∀ i, i < 3 → mAR M2 (mN M) i = some (mN M + 1 + i) ∧ ok M2 (mN M + 1 + i) 21 ∧ mL M2 (mN M + 1 + i) = 26 ∧ ∀ k, mAI M2 (mN M + 1 + i) k = 0 := by
  have f1 : fr (fun c => c = g) M M1 := by
    rw [e1]
    refine ⟨mE_nw3, fun b hb _ => ?_⟩
    obtain ⟨-, -, a3, a4, a5, a6, a7, a8⟩ := nw3_old (k := 26) hb
    exact ⟨a6, a7, a8, a3, a4, a5⟩
  have f2 : fr (fun c => c = g) M1 M2 := by rw [e2]; exact fr_wR rfl
  obtain ⟨t1, t2, t3⟩ := nw3_top (M := M) (k := 26)
  refine ⟨⟨⟨by rw [e2, e1]; rfl, by rw [e2, e1]; rfl⟩, f1.tr f2 (fun _ _ z => z), by rw [e2, e1]; rfl, by rw [e2, mR_wR, if_pos ⟨rfl, rfl⟩, eq], fun f' hf => ?_, ⟨by rw [e2, e1]; show mN M < mN M + 4; omega, by rw [e2, e1]; exact t1⟩⟩, by rw [e2, e1]; exact t2, fun i hi => ?_⟩
  · rw [e2, mR_wR, if_neg (fun z => hf z.2), e1]
    exact congrFun (show mR M g = mR M g from rfl) f'
  · obtain ⟨r1, r2, r3⟩ := nw3_row (M := M) (k := 26) hi
    refine ⟨?_, ⟨by rw [e2, e1]; show mN M + 1 + i < mN M + 4; omega, by rw [e2, e1]; exact r1⟩, by rw [e2, e1]; exact r2, fun k => ?_⟩
    · rw [e2, e1]; show mAR (nw3 M 26) (mN M) i = _; rw [t3]
    · rw [e2, e1]; show mAI (nw3 M 26) (mN M + 1 + i) k = 0; rw [r3]
end
section
variable {M : Mem} {g c nP V pb be h : Nat} {ps : List Nat} {Q : Option Value → Mem → Prop} {x : Int32}
theorem S_gini (og : ok M g 4) (oc : ok M c 3) (z5 : mI M g 5 = 0) (e6 : mR M c 6 = some (c + 7)) (hA : ALp M (c + 7) pb 5 ps) (hl : ps.length = nP) (h40 : nP ≤ 40) (e12 : mI M c 12 = Int32.ofNat V) (hV : V ≤ 6) (e5 : mR M c 5 = some be) (ob : ok M be 21) (lb : mL M be = 6) (hbe : ∀ k, k < V → InG (mAI M be k).toInt64) (K : ∀ M' nw nx kp gn wr ks, fr (fun a => a = g) M M' → GvS M' g c nw nx kp gn wr nP ks → GvR M' g nw nx gn ks → (∀ r, grR nw nx wr gn ks r ∨ r = kp → mN M ≤ r) → (mN M' = mN M + 8 ∧ mS M' = mS M + 137 + nP) → mI M' g 5 = 0 → Q none M') : E (h + 2) mdX2_init [.ref g, .ref c, .int x] M Q := by
  have t26 : (26 : Int32).toNatClampNeg = 26 := by decide
  have t4 : (4 : Int32).toNatClampNeg = 4 := by decide
  have cg : c ≠ g := fun e => by rw [e] at oc; exact absurd (oc.2.symm.trans og.2) (by decide)
  have gN := og.1
  refine KX2_init (h := h + 1) ?_
  unfold DX2_init_0
  rw [t26, t4]
  refine ⟨by decide, by decide, fun q2 M1 eq2 e1 => ⟨by rw [e1]; exact ok_nwA og, fun M4 e4 => ⟨by decide, by decide, fun q6 M5 eq6 e5' M7 e7 => ⟨by decide, by decide, fun q9 M8 eq9 e8 M10 e10 => ⟨by decide, by decide, fun q12 M11 eq12 e11 M13 e13 M14 e14 M15 e15 M16 e16 M17 e17 => ?_⟩⟩⟩⟩⟩
  obtain ⟨⟨⟨n4, s4⟩, f4, i4, r4, rr4, o4⟩, l4, z4⟩ := st_row e1 eq2 e4 gN
  obtain ⟨⟨⟨n7, s7⟩, f7, i7, r7, rr7, o7⟩, l7, z7⟩ := st_row e5' eq6 e7 (by omega)
  obtain ⟨⟨⟨n10, s10⟩, f10, i10, r10, rr10, o10⟩, l10, z10⟩ := st_grd e8 eq9 e10 (by omega)
  obtain ⟨⟨⟨n13, s13⟩, f13, i13, r13, rr13, o13⟩, l13, z13⟩ := st_row e11 eq12 e13 (by omega)
  -- its own fields
  have f17 : fr (fun a => a = g) M13 M17 := by
    rw [e17, e16, e15, e14]
    exact (((fr_wI (S := fun a => a = g) rfl).tr (fr_wI (S := fun a => a = g) rfl) (fun _ _ z => z)).tr (fr_wR (S := fun a => a = g) rfl) (fun _ _ z => z)).tr (fr_wI (S := fun a => a = g) rfl) (fun _ _ z => z)
  have n17 : mN M17 = mN M13 ∧ mS M17 = mS M13 := by rw [e17, e16, e15, e14]; exact ⟨rfl, rfl⟩
  have r17 : ∀ f, f ≠ 0 → mR M17 g f = mR M13 g f := fun f hf => by
    rw [e17]
    show mR M16 g f = _
    rw [e16, mR_wR, if_neg (fun z => hf z.2), e15, e14]
    rfl
  have r170 : mR M17 g 0 = some c := by
    rw [e17]
    show mR M16 g 0 = _
    rw [e16, mR_wR, if_pos ⟨rfl, rfl⟩]
  have i17 : mI M17 g 5 = 0 := by
    rw [e17, mI_wI, if_neg (fun z => absurd z.2 (by decide)), e16]
    show mI M15 g 5 = 0
    rw [e15, mI_wI, if_neg (fun z => absurd z.2 (by decide)), e14, mI_wI, if_neg (fun z => absurd z.2 (by decide)), i13, i10, i7, i4]
    exact z5
  have F17 : fr (fun a => a = g) M M17 := (((f4.tr f7 (fun _ _ z => z)).tr f10 (fun _ _ z => z)).tr f13 (fun _ _ z => z)).tr f17 (fun _ _ z => z)
  have A17 : ALp M17 (c + 7) pb 5 ps := alp_fr3 hA F17 (fun z => by
    have := hA.1.2
    rw [z, og.2] at this
    exact absurd this (by decide)) (fun o z => by
    have := o.2
    rw [z, og.2] at this
    exact absurd this (by decide))
  have rc17 := F17.2 c oc.1 cg
  refine ⟨ok_E oc F17.1, c + 7, by rw [rc17.2.2.1]; exact e6, A17.1, S_alSize (h := h) A17 (fun _ => ⟨_, rfl, ?_⟩)⟩
  have lp : (Int32.ofNat ps.length).toNatClampNeg = nP := by rw [hl]; exact lt32 (by omega)
  rw [lp]
  refine ⟨by rw [hl]; exact nn32 (by omega), by omega, fun q24 M23 eq24 e23 M25 e25 => ?_⟩
  obtain ⟨⟨⟨n25, s25⟩, f25, i25, r25, rr25, o25⟩, l25, z25⟩ := st_row e23 eq24 e25 (by have := F17.1.1; omega)
  have F25 := F17.tr f25 (fun _ _ z => z)
  -- rows at the end
  have E7 : mE M4 M25 := ((f7.1.tr f10.1).tr f13.1).tr (f17.1.tr f25.1)
  have E10 : mE M7 M25 := (f10.1.tr f13.1).tr (f17.1.tr f25.1)
  have E13 : mE M10 M25 := f13.1.tr (f17.1.tr f25.1)
  have E17 : mE M13 M25 := f17.1.tr f25.1
  have g7 : fr (fun a => a = g) M4 M25 := (((f7.tr f10 (fun _ _ z => z)).tr f13 (fun _ _ z => z)).tr f17 (fun _ _ z => z)).tr f25 (fun _ _ z => z)
  have g10 : fr (fun a => a = g) M7 M25 := ((f10.tr f13 (fun _ _ z => z)).tr f17 (fun _ _ z => z)).tr f25 (fun _ _ z => z)
  have g13 : fr (fun a => a = g) M10 M25 := (f13.tr f17 (fun _ _ z => z)).tr f25 (fun _ _ z => z)
  have g17 : fr (fun a => a = g) M13 M25 := f17.tr f25 (fun _ _ z => z)
  have hS : GvS M25 g c (mN M) (mN M4) (mN M7) (mN M10) (mN M17) nP (fun i => mN M7 + 1 + i) := by
    refine ⟨⟨ok_E og F25.1, by rw [rr25 0 (by decide)]; exact r170, ?_, ?_, ?_, ?_, r25⟩, ⟨⟨ok_E o4 E7, by rw [(E7.2.2 _ o4.1).2]; exact l4⟩, ⟨ok_E o7 E10, by rw [(E10.2.2 _ o7.1).2]; exact l7⟩, ⟨ok_E o13 E17, by rw [(E17.2.2 _ o13.1).2]; exact l13⟩, ⟨o25, l25⟩⟩, ⟨ok_E o10 E13, by rw [(E13.2.2 _ o10.1).2]; exact l10, fun i hi => ?_⟩, ?_⟩
    · rw [rr25 2 (by decide), r17 2 (by decide), rr13 2 (by decide), rr10 2 (by decide), rr7 2 (by decide)]; exact r4
    · rw [rr25 3 (by decide), r17 3 (by decide), rr13 3 (by decide), rr10 3 (by decide)]; exact r7
    · rw [rr25 4 (by decide), r17 4 (by decide), rr13 4 (by decide)]; exact r10
    · rw [rr25 7 (by decide), r17 7 (by decide)]; exact r13
    · obtain ⟨a1, a2, a3, a4⟩ := z10 i hi
      exact ⟨by rw [(g13.2 _ o10.1 (by omega)).2.2.2.2.2]; exact a1, ok_E a2 E13, by rw [(E13.2.2 _ a2.1).2]; exact a3⟩
    · refine ⟨by omega, by omega, by omega, by omega, by omega, by omega, fun i hi => ⟨?_, ?_, ?_, ?_⟩⟩ <;> (show mN M7 + 1 + i ≠ _) <;> omega
  have g0 : InG (0 : Int32).toInt64 := by unfold InG; decide
  have hRr : GvR M25 g (mN M) (mN M4) (mN M10) (fun i => mN M7 + 1 + i) := by
    refine ⟨fun j _ _ => ?_, fun j _ _ => ?_, fun i hi j _ _ => ?_, fun j _ => ?_, 0, by decide, ?_⟩
    · rw [(g7.2 _ o4.1 (by omega)).2.2.2.1, z4]; exact g0
    · rw [(g10.2 _ o7.1 (by omega)).2.2.2.1, z7]; exact g0
    · obtain ⟨a1, a2, a3, a4⟩ := z10 i hi
      show InG (mAI M25 (mN M7 + 1 + i) j).toInt64
      rw [(g13.2 _ a2.1 (by omega)).2.2.2.1, a4]; exact g0
    · rw [(g17.2 _ o13.1 (by omega)).2.2.2.1, z13]; exact g0
    · rw [i25]; exact i17
  have lo : ∀ r, grR (mN M) (mN M4) (mN M17) (mN M10) (fun i => mN M7 + 1 + i) r ∨ r = mN M7 → mN M ≤ r := fun r hr => by
    rcases hr with (y | y | y | y | ⟨i, hi, y⟩) | y
    · omega
    · omega
    · omega
    · omega
    · have y : r = mN M7 + 1 + i := y
      omega
    · omega
  have rc25 := F25.2 c oc.1 cg
  have rb : be ≠ g := fun e => by rw [e] at ob; exact absurd (ob.2.symm.trans og.2) (by decide)
  have rb25 := F25.2 be ob.1 rb
  -- variables begin
  have main : ∀ d v Mi, v + d = V → GmF g noP (fun r => r = mN M) M25 Mi → RoG Mi (mN M) → T (h + 2) mdX2_init 73 [(0, .ref g), (1, .ref c), (3, .int (Int32.ofNat v))] [] Mi Q := by
    intro d
    induction d with
    | zero =>
      intro v Mi hv ki ri
      have ev : v = V := hv
      subst ev
      refine VX2_init_73 (h := h + 1) ?_
      unfold DX2_init_73
      rw [ki.2.2.1 c cg, rc25.1, e12]
      refine ⟨ki.ok (ok_E oc F25.1), fun _ => ?_, fun z => absurd Int32.le_rfl z⟩
      obtain ⟨-, b2, b3, b4, q, b5, b6⟩ := hRr
      have row : ∀ r, r ≠ mN M → mAI Mi r = mAI M25 r := fun r hr => ki.2.2.2.2 r hr
      refine K Mi (mN M) (mN M4) (mN M7) (mN M10) (mN M17) (fun i => mN M7 + 1 + i) (F25.tr ki.fr (fun a ha z => z.elim id (fun y => by omega))) (hS.gm ki) ⟨ri, b2.k (row _ (by omega)), fun i hi => (b3 i hi).k (row _ (by show mN M7 + 1 + i ≠ _; omega)), by rw [row (mN M10) (by omega)]; exact b4, q, b5, by rw [ki.2.2.2.1 5 (fun z => z)]; exact b6⟩ lo ⟨by rw [ki.1.1]; omega, by rw [ki.1.2.1]; omega⟩ (by rw [ki.2.2.2.1 5 (fun z => z), i25]; exact i17)
    | succ d ih =>
      intro v Mi hv ki ri
      have lv : (Int32.ofNat v).toNatClampNeg = v := lt32 (by omega)
      have e20 : (20 : Int32) + Int32.ofNat v = Int32.ofNat (20 + v) := by rw [Int32.ofNat_add]; rfl
      have l20 : (Int32.ofNat (20 + v)).toNatClampNeg = 20 + v := lt32 (by omega)
      refine VX2_init_73 (h := h + 1) ?_
      unfold DX2_init_73
      rw [ki.2.2.1 c cg, rc25.1, e12, e20, lv, l20, succ32]
      refine ⟨ki.ok (ok_E oc F25.1), fun z => absurd ((le32 (by omega) (by omega)).mp z) (by omega), fun _ => ⟨ki.ok hS.1.1, mN M, by rw [ki.2.1.2.1]; exact hS.1.2.2.1, be, by rw [ki.2.1.2.1, rc25.2.2.1]; exact e5, ki.ok (ok_E ob F25.1), ?_, ki.ok hS.2.1.1.1, ?_, fun M7' e7' => ?_⟩⟩
      · rw [ki.1.2.2.2, (F25.1.2.2 _ ob.1).2, lb]; exact vp_of (by omega) (by decide)
      · rw [ki.1.2.2.2, hS.2.1.1.2]; exact vp_of (by omega) (by decide)
      · have bN := ob.1
        rw [ki.2.2.2.2 be (by omega), rb25.2.2.2.1] at e7'
        exact ih (v + 1) M7' (by omega) (ki.tr (GmF.a rfl e7')) (ri.up (fun _ => hbe v (by omega)) e7')
  exact main V 0 M25 (by omega) GmF.rf hRr.1
end
end
