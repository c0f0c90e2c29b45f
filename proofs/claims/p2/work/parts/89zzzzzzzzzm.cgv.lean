/-! the class's calls on governors -/
section
variable {ow : Nat → Nat} {ga : Nat → Td × PS} {gm : Nat → Nat} {M M' : Mem} {ms gs : List Nat} {mb gb h n0 : Nat} {S Wp : Nat → Prop} {Q : Option Value → Mem → Prop} {x y z w : Int32} {τ : Td} {σ : PS}
theorem CvS.fix (hC : CvS ow ga gm M ms gs mb gb) (k : fr S M M') (hS : ∀ a, S a → 132 ≤ a) : Fix M' := by
  have F := hC.1
  have r : ∀ a, a < 132 → sameRow M M' a := fun a ha => k.2 a (by have := F.1; omega) (fun z => by have := hS a z; omega)
  exact F.of_fr (S := S) k.1 (fun e he => by rw [(r e.1 (tRS_lt e he)).2.2.1]) (r 19 (by decide)).2.2.2.2.1
/-- a call that touches only cells of the owners Wp -/
theorem CvS.own (hC : CvS ow ga gm M ms gs mb gb) (hb : mN M < mBig) (k : fr S M M') (hS : ∀ a, S a → Wp (ow a) ∧ mK M a ≠ 0) (hW : ∀ v, Wp v → 132 ≤ v) (hm : ∀ i, i < ms.length → Wp (ms.getD i 0) → CmX ow M' (ms.getD i 0) (ga (ms.getD i 0)).1 (ga (ms.getD i 0)).2) (hg : ∀ i j, i < gs.length → j < ms.length → gm (gs.getD i 0) = ms.getD j 0 → Wp (gs.getD i 0) → GoX ow M' (gs.getD i 0) (ms.getD j 0) (npS (ga (ms.getD j 0)).2)) : CvS ow ga gm M' ms gs mb gb := by
  obtain ⟨-, ⟨a1, a2⟩, ⟨b1, b2⟩, ⟨c1, c2⟩, d, e1, e2, f, g⟩ := id hC
  have h132 : ∀ a, S a → 132 ≤ a := fun a z => by
    rcases Nat.lt_or_ge a 132 with y | y
    · have := hW _ (hS a z).1
      rw [d a y] at this
      omega
    · exact y
  have n2 : ∀ {r : Nat}, r < 132 → ¬ S r := fun hr z => by have := h132 _ z; omega
  have nl : ∀ {r : Nat}, (r = mBig + 5 ∨ (132 ≤ r ∧ r < mN M ∧ (ow r = 2 ∨ ow r = 3))) → ok M r 24 → ¬ S r := fun {r} h1 h2 z => by
    have := hW _ (hS r z).1
    rcases h1 with h1 | ⟨-, -, h1 | h1⟩
    · have := h2.1; omega
    · omega
    · omega
  refine ⟨hC.fix k h132, ⟨alp_fr3 a1 k (n2 (by decide)) (nl (c1.imp id (fun z => ⟨z.1, z.2.1, Or.inl z.2.2⟩))), a2⟩, ⟨alp_fr3 b1 k (n2 (by decide)) (nl (c2.imp id (fun z => ⟨z.1, z.2.1, Or.inr z.2.2⟩))), b2⟩, ⟨c1.imp id (fun z => ⟨z.1, Nat.lt_of_lt_of_le z.2.1 k.1.1, z.2.2⟩), c2.imp id (fun z => ⟨z.1, Nat.lt_of_lt_of_le z.2.1 k.1.1, z.2.2⟩)⟩, d, e1, e2, fun i hi => ⟨(f i hi).1, ?_⟩, fun i hi => ?_⟩
  · by_cases q : Wp (ms.getD i 0)
    · exact hm i hi q
    · exact (f i hi).2.out hb k (fun a z e => q (by rw [← e]; exact (hS a z).1)) (fun a z => (hS a z).2)
  · obtain ⟨h1, j, h2, h3, h4⟩ := g i hi
    refine ⟨h1, j, h2, h3, ?_⟩
    by_cases q : Wp (gs.getD i 0)
    · exact hg i j hi h2 h3 q
    · exact h4.out k (fun a z e => q (by rw [← e]; exact (hS a z).1))
/-- what governors' calls ask of a module -/
theorem CmX.fl (hX : CmX ow M n0 τ σ) : ∃ I pb ps, (mI M n0 9 = Int32.ofNat τ.1.length ∧ τ.1.length ≤ 16) ∧ (mI M n0 10 = Int32.ofNat I ∧ I ≤ 4) ∧ (mI M n0 12 = Int32.ofNat τ.2.2.2.1.length ∧ τ.2.2.2.1.length ≤ 6) ∧ (mI M n0 13 = Int32.ofNat (trS σ).2.1 ∧ (trS σ).2.1 ≤ 24) ∧ mR M n0 6 = some (n0 + 7) ∧ ALp M (n0 + 7) pb 5 ps ∧ ps.length = npS σ ∧ npS σ ≤ 40 := by
  obtain ⟨m, root, γ, g0, gw, Z0, P, zp, Ψ1, Ψ2, R, zn, fn, y0, q0, hl, lc, rc, cc, pb, ib, b1, b2, ya, na, pz, n1, ps, hp, hM, hz, -⟩ := hX
  obtain ⟨hP, ⟨p1, p2, p3, p4⟩, -, -, -, -, -, -, ⟨g1, -, g3, g4, -⟩⟩ := hM
  exact ⟨_, pb, ps, ⟨g1, hp.2.2.2.1⟩, ⟨hP.1.2.2.2.2, hP.2.2.2.2.2.1⟩, ⟨g3, hp.2.2.2.2.2.2.1⟩, ⟨g4, hp.2.2.2.2.2.2.2.1⟩, p1, p2, p3, p4⟩
theorem S_hasSg {S : Nat} (on : ok M n0 3) (e9 : mI M n0 9 = Int32.ofNat S) (hS : S ≤ 16) (K1 : ∀ i, i < S → x = Int32.ofNat i → Q (some (.int 1)) M) (K0 : (∀ i, i < S → x ≠ Int32.ofNat i) → Q (some (.int 0)) M) : E (h + 1) mdX1_hasSignal [.ref n0, .int x] M Q := by
  refine KX1_hasSignal ?_
  unfold DX1_hasSignal_0 DX1_hasSignal_16 DX1_hasSignal_17
  rw [e9]
  refine ⟨fun z => ⟨Or.inl rfl, K0 (fun i hi e => ?_)⟩, fun z => ⟨on, fun y => ⟨Or.inl rfl, K0 (fun i hi e => ?_)⟩, fun y => ⟨Or.inr rfl, ?_⟩⟩⟩
  · rw [e] at z; exact nn32 (by omega) z
  · rw [e] at y; have := (le32 (by omega) (by omega)).mp y; omega
  · obtain ⟨i, e, hi⟩ := nn_of z
    rw [e] at y
    refine K1 i ?_ e
    rcases Nat.lt_or_ge i S with q | q
    · exact q
    · exact absurd ((le32 (by omega) hi).mpr q) y
theorem S_hasPt {pb : Nat} {ps : List Nat} (on : ok M n0 3) (e6 : mR M n0 6 = some (n0 + 7)) (hA : ALp M (n0 + 7) pb 5 ps) (hl : ps.length ≤ 40) (K1 : ∀ i, i < ps.length → x = Int32.ofNat i → Q (some (.int 1)) M) (K0 : (∀ i, i < ps.length → x ≠ Int32.ofNat i) → Q (some (.int 0)) M) : E (h + 2) mdX1_hasPart [.ref n0, .int x] M Q := by
  refine KX1_hasPart (h := h + 1) ?_
  unfold DX1_hasPart_0 DX1_hasPart_19 DX1_hasPart_20
  refine ⟨fun z => ⟨Or.inl rfl, K0 (fun i hi e => ?_)⟩, fun z => ⟨on, n0 + 7, e6, hA.1, S_alSize (h := h) hA (fun _ => ⟨_, rfl, fun y => ⟨Or.inl rfl, K0 (fun i hi e => ?_)⟩, fun y => ⟨Or.inr rfl, ?_⟩⟩)⟩⟩
  · rw [e] at z; exact nn32 (by omega) z
  · rw [e] at y; have := (le32 (by omega) (by omega)).mp y; omega
  · obtain ⟨i, e, hi⟩ := nn_of z
    rw [e] at y
    refine K1 i ?_ e
    rcases Nat.lt_or_ge i ps.length with q | q
    · exact q
    · exact absurd ((le32 (by omega) hi).mpr q) y
/-- a governor and its module -/
theorem CvS.gv (hC : CvS ow ga gm M ms gs mb gb) {i : Nat} (hi : i < gs.length) : ∃ j nw nx kp gn wr ks, j < ms.length ∧ gm (gs.getD i 0) = ms.getD j 0 ∧ 132 ≤ gs.getD i 0 ∧ GvS M (gs.getD i 0) (ms.getD j 0) nw nx kp gn wr (npS (ga (ms.getD j 0)).2) ks ∧ GvR M (gs.getD i 0) nw nx gn ks ∧ ow (gs.getD i 0) = gs.getD i 0 ∧ (∀ r, grR nw nx wr gn ks r ∨ r = kp → ow r = gs.getD i 0) ∧ CmX ow M (ms.getD j 0) (ga (ms.getD j 0)).1 (ga (ms.getD j 0)).2 := by
  obtain ⟨h1, j, h2, h3, nw, nx, kp, gn, wr, ks, h4, h5, h6, h7⟩ := hC.2.2.2.2.2.2.2.2 i hi
  exact ⟨j, nw, nx, kp, gn, wr, ks, h2, h3, h1, h4, h5, h6, h7, (hC.2.2.2.2.2.2.2.1 j h2).2⟩
theorem G_present (hC : CvS ow ga gm M ms gs mb gb) (K : ∀ r : Int32, Q (some (.int r)) M) : E (h + 5) mdX10_present [.ref 0, .int x, .int y] M Q := by
  refine KX10_present (h := h + 4) ?_
  unfold DX10_present_0 DX10_present_21
  refine ⟨ok0 hC.1, S_govAt (h := h) hC (fun _ _ => ⟨none, rfl, fun _ => K _, fun b e => absurd e (by simp)⟩) (fun i hi _ _ => ⟨some _, rfl, fun e => absurd e (by simp), fun b e => ?_⟩)⟩
  cases e
  obtain ⟨j, nw, nx, kp, gn, wr, ks, hj, -, -, hv, hr, -, -, hm⟩ := hC.gv hi
  obtain ⟨I, pb, ps, ⟨e9, h9⟩, -⟩ := hm.fl
  exact ⟨hv.1.1, _, hv.1.2.1, hm.on, S_hasSg (h := h + 3) hm.on e9 h9 (fun _ _ _ _ => ⟨1, rfl, fun _ => K _, fun z => absurd z (by decide)⟩) (fun _ _ => ⟨0, rfl, fun z => absurd rfl z, fun _ => K _⟩)⟩
theorem G_value (hC : CvS ow ga gm M ms gs mb gb) (K : ∀ r : Int32, Q (some (.int r)) M) : E (h + 5) mdX10_value [.ref 0, .int x, .int y] M Q := by
  refine KX10_value (h := h + 4) ?_
  unfold DX10_value_0 DX10_value_21
  refine ⟨ok0 hC.1, S_govAt (h := h) hC (fun _ _ => ⟨none, rfl, fun _ => K _, fun b e => absurd e (by simp)⟩) (fun i hi _ _ => ⟨some _, rfl, fun e => absurd e (by simp), fun b e => ?_⟩)⟩
  cases e
  obtain ⟨j, nw, nx, kp, gn, wr, ks, hj, -, -, hv, hr, -, -, hm⟩ := hC.gv hi
  obtain ⟨I, pb, ps, ⟨e9, h9⟩, -⟩ := hm.fl
  refine ⟨hv.1.1, _, hv.1.2.1, hm.on, S_hasSg (h := h + 3) hm.on e9 h9 (fun q hq eq _ => ⟨1, rfl, fun _ => ⟨nw, hv.1.2.2.1, hv.2.1.1.1, ?_, K _⟩, fun z => absurd z (by decide)⟩) (fun _ _ => ⟨0, rfl, fun z => absurd rfl z, fun _ => K _⟩)⟩
  rw [eq, hv.2.1.1.2, show (4 : Int32) + Int32.ofNat q = Int32.ofNat (4 + q) from by rw [Int32.ofNat_add]; rfl]
  exact vp_of (by omega) (by decide)
theorem G_variable (hC : CvS ow ga gm M ms gs mb gb) (K : ∀ r : Int32, Q (some (.int r)) M) : E (h + 5) mdX10_variable [.ref 0, .int x, .int y] M Q := by
  refine KX10_variable (h := h + 4) ?_
  unfold DX10_variable_0 DX10_variable_25
  refine ⟨ok0 hC.1, S_govAt (h := h) hC (fun _ _ => ⟨none, rfl, fun _ => K _, fun b e => absurd e (by simp)⟩) (fun i hi _ _ => ⟨some _, rfl, fun e => absurd e (by simp), fun b e => ?_⟩)⟩
  cases e
  obtain ⟨j, nw, nx, kp, gn, wr, ks, hj, -, -, hv, hr, -, -, hm⟩ := hC.gv hi
  obtain ⟨I, pb, ps, -, -, ⟨e12, h12⟩, -⟩ := hm.fl
  refine ⟨fun _ => K _, fun z => ⟨hv.1.1, _, hv.1.2.1, hm.on, fun q => ⟨nw, hv.1.2.2.1, hv.2.1.1.1, ?_, K _⟩, fun _ => K _⟩⟩
  obtain ⟨v, ev, hv2⟩ := nn_of z
  rw [e12, ev] at q
  have := (ltn32 hv2 (by omega)).mp q
  rw [ev, hv.2.1.1.2, show (20 : Int32) + Int32.ofNat v = Int32.ofNat (20 + v) from by rw [Int32.ofNat_add]; rfl]
  exact vp_of (by omega) (by decide)
theorem G_paused (hC : CvS ow ga gm M ms gs mb gb) (K : ∀ r : Int32, Q (some (.int r)) M) : E (h + 5) mdX10_paused [.ref 0, .int x, .int y] M Q := by
  refine KX10_paused (h := h + 4) ?_
  unfold DX10_paused_0 DX10_paused_25
  refine ⟨ok0 hC.1, S_govAt (h := h) hC (fun _ _ => ⟨none, rfl, fun _ => K _, fun b e => absurd e (by simp)⟩) (fun i hi _ _ => ⟨some _, rfl, fun e => absurd e (by simp), fun b e => ?_⟩)⟩
  cases e
  obtain ⟨j, nw, nx, kp, gn, wr, ks, hj, -, -, hv, hr, -, -, hm⟩ := hC.gv hi
  exact ⟨fun _ => K _, fun z => ⟨hv.1.1, _, hv.1.2.1, hm.on, fun q => ⟨nw, hv.1.2.2.1, hv.2.1.1.1, by rw [hv.2.1.1.2]; exact vp_of (n := 0) (by decide) (by decide), K _⟩, fun _ => K _⟩⟩
theorem G_wire (hC : CvS ow ga gm M ms gs mb gb) (K : ∀ r : Int32, Q (some (.int r)) M) : E (h + 5) mdX10_wire [.ref 0, .int x, .int y, .int z] M Q := by
  refine KX10_wire (h := h + 4) ?_
  unfold DX10_wire_0 DX10_wire_24 DX10_wire_35
  refine ⟨ok0 hC.1, S_govAt (h := h) hC (fun _ _ => ⟨none, rfl, fun _ => K _, fun b e => absurd e (by simp)⟩) (fun i hi _ _ => ⟨some _, rfl, fun e => absurd e (by simp), fun b e => ?_⟩)⟩
  cases e
  obtain ⟨j, nw, nx, kp, gn, wr, ks, hj, -, -, hv, hr, -, -, hm⟩ := hC.gv hi
  obtain ⟨I, pb, ps, -, -, -, -, e6, hA, hl, h40⟩ := hm.fl
  refine ⟨hv.1.1, _, hv.1.2.1, hm.on, S_hasPt (h := h + 2) hm.on e6 hA (by omega) (fun q hq eq _ => ⟨1, rfl, fun _ => ⟨fun _ => K _, fun _ => ⟨fun _ => ?_, fun _ => K _⟩⟩, fun z => absurd z (by decide)⟩) (fun _ _ => ⟨0, rfl, fun z => absurd rfl z, fun _ => K _⟩)⟩
  rw [eq]
  exact S_wire (h := h + 3) hv (by omega) h40 (fun r _ => ⟨r, rfl, K _⟩)
theorem G_same (hC : CvS ow ga gm M ms gs mb gb) (K : ∀ r : Int32, Q (some (.int r)) M) : E (h + 5) mdX10_same [.ref 0, .int x, .int y] M Q := by
  refine KX10_same (h := h + 4) ?_
  unfold DX10_same_0 DX10_same_22 DX10_same_53
  have two : ∀ o3 : Option Nat, (o3 = none ∨ ∃ i, i < gs.length ∧ o3 = some (gs.getD i 0)) → E (h + 4) mdX10_governorAt [.ref 0, .int y] M (fun r M4 => mE M M4 → ∃ o5 : Option Nat, r = some (va_rf o5) ∧ (o3 = none → Q (some (.int (-1))) M4) ∧ (∀ b6, o3 = some b6 → (o5 = none → Q (some (.int (-1))) M4) ∧ (∀ b7, o5 = some b7 → ok M4 b6 4 ∧ ok M4 b7 4 ∧ ((mI M4 b6 1) = (mI M4 b7 1) → E (h + 4) mdX2_likeOther [.ref b6, .ref b7] M4 (fun r M10 => mE M4 M10 → ∃ r11 : Int32, r = some (.int r11) ∧ (r11 = 0 → Q (some (.int 0)) M10) ∧ (¬ (r11 = 0) → Q (some (.int 1)) M10))) ∧ (¬ ((mI M4 b6 1) = (mI M4 b7 1)) → Q (some (.int (-2))) M4)))) := by
    intro o3 ho
    refine S_govAt (h := h) hC (fun _ _ => ⟨none, rfl, fun _ => K _, fun b6 _ => ⟨fun _ => K _, fun b e => absurd e (by simp)⟩⟩) (fun i hi _ _ => ⟨some _, rfl, fun _ => K _, fun b6 e6 => ⟨fun _ => K _, fun b e => ?_⟩⟩)
    cases e
    rcases ho with ho | ⟨q, hq, ho⟩
    · rw [ho] at e6; exact absurd e6 (by simp)
    · rw [ho] at e6
      cases e6
      obtain ⟨j, nw, nx, kp, gn, wr, ks, hj, -, -, hv, hr, -⟩ := hC.gv hi
      obtain ⟨j2, nw2, nx2, kp2, gn2, wr2, ks2, hj2, -, -, hv2, hr2, -⟩ := hC.gv hq
      exact ⟨hv2.1.1, hv.1.1, fun _ => S_like (h := h + 3) hv2 hv (fun r _ _ => ⟨r, rfl, fun _ => K _, fun _ => K _⟩), fun _ => K _⟩
  exact ⟨ok0 hC.1, S_govAt (h := h) hC (fun _ _ => ⟨none, rfl, two none (Or.inl rfl)⟩) (fun i hi _ _ => ⟨some _, rfl, two _ (Or.inr ⟨i, hi, rfl⟩)⟩)⟩
/-- governor i alone has changed -/
theorem CvS.gm1 (hC : CvS ow ga gm M ms gs mb gb) (hb : mN M < mBig) {i : Nat} (hi : i < gs.length) {fs R : Nat → Prop} (k : GmF (gs.getD i 0) fs R M M') (hR : ∀ r, R r → ow r = gs.getD i 0 ∧ mK M r ≠ 0) (hG : ∀ j, j < ms.length → gm (gs.getD i 0) = ms.getD j 0 → GoX ow M' (gs.getD i 0) (ms.getD j 0) (npS (ga (ms.getD j 0)).2)) : CvS ow ga gm M' ms gs mb gb := by
  obtain ⟨j, nw, nx, kp, gn, wr, ks, hj, e1, e2, hv, hr, ho, -, -⟩ := hC.gv hi
  refine hC.own (Wp := fun v => v = gs.getD i 0) hb k.fr (fun a z => ?_) (fun v z => by rw [z]; exact e2) (fun q hq z => ?_) (fun q q2 hq hq2 e z => ?_)
  · rcases z with z | z
    · rw [z]; exact ⟨ho, by rw [hv.1.1.2]; decide⟩
    · exact hR a z
  · exfalso
    have := (hC.2.2.2.2.2.2.2.1 q hq).2.on
    rw [z, ] at this
    exact absurd (this.2.symm.trans hv.1.1.2) (by decide)
  · have : q = i := hC.2.2.2.2.2.2.1 q i hq hi z
    subst this
    exact hG q2 hq2 e
theorem G_give (hC : CvS ow ga gm M ms gs mb gb) (hb : mN M < mBig) (K : ∀ M' (r : Int32), CvS ow ga gm M' ms gs mb gb → fr (fun a => ∃ i, i < gs.length ∧ ow a = gs.getD i 0) M M' → (mN M' = mN M ∧ mS M' = mS M) → (∀ q, q < gs.length → mI M' (gs.getD q 0) 5 = mI M (gs.getD q 0) 5) → Q (some (.int r)) M') : E (h + 5) mdX10_give [.ref 0, .int x, .int y, .int z, .int w] M Q := by
  have K0 : ∀ r, Q (some (.int r)) M := fun r => K M r hC fr.rf ⟨rfl, rfl⟩ (fun _ _ => rfl)
  refine KX10_give (h := h + 4) ?_
  unfold DX10_give_0 DX10_give_28 DX10_give_44
  refine ⟨ok0 hC.1, S_govAt (h := h) hC (fun _ _ => ⟨none, rfl, fun _ => K0 _, fun b e => absurd e (by simp)⟩) (fun i hi _ _ => ⟨some _, rfl, fun e => absurd e (by simp), fun b e => ?_⟩)⟩
  cases e
  obtain ⟨j, nw, nx, kp, gn, wr, ks, hj, ej, e2, hv, hr, ho, hrow, hm⟩ := hC.gv hi
  obtain ⟨I, pb, ps, -, ⟨e10, h10⟩, -⟩ := hm.fl
  refine ⟨fun _ => K0 _, fun q0 => ⟨hv.1.1, _, hv.1.2.1, hm.on, fun q1 => ⟨fun _ => K0 _, fun q2 => ⟨fun q3 => S_hasE (h := h + 3) hv (fun r9 _ _ => ⟨r9, rfl, fun _ => ?_, fun _ => K0 _⟩), fun _ => K0 _⟩⟩, fun _ => K0 _⟩⟩
  obtain ⟨v, ev, hv2⟩ := nn_of q0
  rw [e10, ev] at q1
  have v4 := (ltn32 hv2 (by omega)).mp q1
  rw [ev]
  refine S_take (h := h + 3) hv hr (by omega) ?_ (fun M10 k10 R10 _ => ⟨rfl, K M10 _ (hC.gm1 hb hi k10 (fun r er => ⟨hrow r (Or.inl (Or.inr (Or.inr (Or.inr (Or.inl er))))), by rw [er, hv.2.1.2.2.1.1.2]; decide⟩) (fun j2 hj2 e => ?_)) (k10.fr.more (fun a _ z => ?_)) ⟨k10.1.1, k10.1.2.1⟩ (fun q hq => ?_)⟩)
  · refine InG.o ?_ ?_
    · rw [Int32.toInt_toInt64]
      have := Int32.not_lt.mp q2
      rw [Int32.le_iff_toInt_le] at this
      exact this
    · rw [Int32.toInt_toInt64]
      rw [Int32.le_iff_toInt_le] at q3
      exact q3
  · have : j2 = j := hC.2.2.2.2.2.1 j2 j hj2 hj (e.symm.trans ej)
    subst this
    exact ⟨nw, nx, kp, gn, wr, ks, hv.gm k10, R10, ho, hrow⟩
  · rcases z with z | z
    · exact ⟨i, hi, by rw [z]; exact ho⟩
    · exact ⟨i, hi, hrow a (Or.inl (Or.inr (Or.inr (Or.inr (Or.inl z)))))⟩
  · by_cases z : gs.getD q 0 = gs.getD i 0
    · rw [z, k10.2.2.2.1 5 (by decide)]
    · rw [k10.2.2.1 _ z]
end
