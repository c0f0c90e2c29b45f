/-! the class's keep, back, beat -/
section
variable {ow : Nat → Nat} {ga : Nat → Td × PS} {gm : Nat → Nat} {M M' : Mem} {ms gs : List Nat} {mb gb h n0 : Nat} {Q : Option Value → Mem → Prop} {x : Int32}
theorem ge132 (hC : CvS ow ga gm M ms gs mb gb) {a v : Nat} (hv : 132 ≤ v) (e : ow a = v) : 132 ≤ a := by
  rcases Nat.lt_or_ge a 132 with y | y
  · rw [hC.2.2.2.2.1 a y] at e; omega
  · exact y
theorem G_keep (hC : CvS ow ga gm M ms gs mb gb) (hb : mN M < mBig) (K0 : (∀ i, i < gs.length → x ≠ Int32.ofNat i) → Q (some (.int (-1))) M) (K3 : ∀ i, i < gs.length → x = Int32.ofNat i → mI M (gs.getD i 0) 5 = Int32.ofNat 3 → Q (some (.int (-3))) M) (K : ∀ i q M', i < gs.length → x = Int32.ofNat i → q < 3 → mI M (gs.getD i 0) 5 = Int32.ofNat q → CvS ow ga gm M' ms gs mb gb → fr (fun a => ∃ i, i < gs.length ∧ ow a = gs.getD i 0) M M' → (mN M' = mN M ∧ mS M' = mS M) → mI M' (gs.getD i 0) 5 = Int32.ofNat (q + 1) → (∀ j, j < gs.length → j ≠ i → mI M' (gs.getD j 0) 5 = mI M (gs.getD j 0) 5) → Q (some (.int (Int32.ofNat (q + 1)))) M') : E (h + 5) mdX10_keep [.ref 0, .int x] M Q := by
  refine KX10_keep (h := h + 4) ?_
  unfold DX10_keep_0
  refine ⟨ok0 hC.1, S_govAt (h := h) hC (fun ne _ => ⟨none, rfl, fun _ => K0 ne, fun b e => absurd e (by simp)⟩) (fun i hi ex _ => ⟨some _, rfl, fun e => absurd e (by simp), fun b e => ?_⟩)⟩
  cases e
  obtain ⟨j, nw, nx, kp, gn, wr, ks, hj, ej, e2, hv, hr, ho, hrow, hm⟩ := hC.gv hi
  obtain ⟨q, q3, eq⟩ := hr.2.2.2.2
  refine ⟨hv.1.1, fun z => ?_, fun z => K3 i hi ex ?_⟩
  · rw [eq] at z
    have lt : q < 3 := (ltn32 (a := q) (b := 3) (by omega) (by decide)).mp z
    refine S_store (h := h + 3) hv hr eq lt (fun M6 k6 R6 e6 _ => ⟨rfl, ?_⟩)
    rw [e6]
    refine K i q M6 hi ex lt eq (hC.gm1 hb hi k6 (fun r er => ⟨hrow r (Or.inl (Or.inr (Or.inr (Or.inr (Or.inr ⟨q, lt, er⟩))))), by rw [er, (hv.2.2.1.2.2 q lt).2.1.2]; decide⟩) (fun j2 hj2 e => ?_)) (k6.fr.more (fun a _ z => ?_)) ⟨k6.1.1, k6.1.2.1⟩ e6 (fun j2 hj2 ne => ?_)
    · have : j2 = j := hC.2.2.2.2.2.1 j2 j hj2 hj (e.symm.trans ej)
      subst this
      exact ⟨nw, nx, kp, gn, wr, ks, hv.gm k6, R6, ho, hrow⟩
    · rcases z with z | z
      · exact ⟨i, hi, by rw [z]; exact ho⟩
      · exact ⟨i, hi, hrow a (Or.inl (Or.inr (Or.inr (Or.inr (Or.inr ⟨q, lt, z⟩)))))⟩
    · rw [k6.2.2.1 _ (fun z => ne (hC.2.2.2.2.2.2.1 j2 i hj2 hi z))]
  · rw [eq] at z ⊢
    have : ¬ q < 3 := fun y => z ((ltn32 (a := q) (b := 3) (by omega) (by decide)).mpr y)
    rw [show q = 3 by omega]
theorem G_back (hC : CvS ow ga gm M ms gs mb gb) (hb : mN M < mBig) (K0 : (∀ i, i < gs.length → x ≠ Int32.ofNat i) → Q (some (.int (-1))) M) (K3 : ∀ i, i < gs.length → x = Int32.ofNat i → mI M (gs.getD i 0) 5 = Int32.ofNat 0 → Q (some (.int (-2))) M) (K : ∀ i q M', i < gs.length → x = Int32.ofNat i → q < 3 → mI M (gs.getD i 0) 5 = Int32.ofNat (q + 1) → CvS ow ga gm M' ms gs mb gb → fr (fun a => ∃ i, i < gs.length ∧ ow a = gs.getD i 0) M M' → (mN M' = mN M ∧ mS M' = mS M) → mI M' (gs.getD i 0) 5 = Int32.ofNat q → (∀ j, j < gs.length → j ≠ i → mI M' (gs.getD j 0) 5 = mI M (gs.getD j 0) 5) → Q (some (.int (Int32.ofNat q))) M') : E (h + 5) mdX10_back [.ref 0, .int x] M Q := by
  refine KX10_back (h := h + 4) ?_
  unfold DX10_back_0
  refine ⟨ok0 hC.1, S_govAt (h := h) hC (fun ne _ => ⟨none, rfl, fun _ => K0 ne, fun b e => absurd e (by simp)⟩) (fun i hi ex _ => ⟨some _, rfl, fun e => absurd e (by simp), fun b e => ?_⟩)⟩
  cases e
  obtain ⟨j, nw, nx, kp, gn, wr, ks, hj, ej, e2, hv, hr, ho, hrow, hm⟩ := hC.gv hi
  obtain ⟨q, q3, eq⟩ := hr.2.2.2.2
  obtain ⟨I, pb, ps, -, -, -, -, -, -, hl, h40⟩ := hm.fl
  refine ⟨hv.1.1, fun z => ?_, fun z => K3 i hi ex z⟩
  rw [eq] at z
  obtain ⟨q, rfl⟩ : ∃ q', q = q' + 1 := by
    cases q with
    | zero => exact absurd rfl z
    | succ q => exact ⟨q, rfl⟩
  refine S_rest (h := h + 2) hv hr h40 eq (by omega) (fun M6 k6 R6 e6 _ => ⟨rfl, ?_⟩)
  rw [e6]
  have rw4 : ∀ r, (r = nw ∨ r = wr) → grR nw nx wr gn ks r := fun r er => er.elim (fun y => Or.inl y) (fun y => Or.inr (Or.inr (Or.inl y)))
  refine K i q M6 hi ex (by omega) eq (hC.gm1 hb hi k6 (fun r er => ⟨hrow r (Or.inl (rw4 r er)), ?_⟩) (fun j2 hj2 e => ?_)) (k6.fr.more (fun a _ z => ?_)) ⟨k6.1.1, k6.1.2.1⟩ e6 (fun j2 hj2 ne => ?_)
  · rcases er with er | er
    · rw [er, hv.2.1.1.1.2]; decide
    · rw [er, hv.2.1.2.2.2.1.2]; decide
  · have : j2 = j := hC.2.2.2.2.2.1 j2 j hj2 hj (e.symm.trans ej)
    subst this
    exact ⟨nw, nx, kp, gn, wr, ks, hv.gm k6, R6, ho, hrow⟩
  · rcases z with z | z
    · exact ⟨i, hi, by rw [z]; exact ho⟩
    · exact ⟨i, hi, hrow a (Or.inl (rw4 a z))⟩
  · rw [k6.2.2.1 _ (fun z => ne (hC.2.2.2.2.2.2.1 j2 i hj2 hi z))]
/-- how much room the lanes of module n0 still want -/
def lnS (M : Mem) (n0 : Nat) : Nat := match mR M (n0 + 8) 2 with
  | some ya => if mL M ya < (mI M (n0 + 8) 4).toNatClampNeg then 2 * (mI M (n0 + 8) 4).toNatClampNeg else 0
  | none => 0
def lnN (M : Mem) (n0 : Nat) : Nat := match mR M (n0 + 8) 2 with
  | some ya => if mL M ya < (mI M (n0 + 8) 4).toNatClampNeg then 2 else 0
  | none => 0
theorem CvS.owN {ow' : Nat → Nat} (hC : CvS ow ga gm M ms gs mb gb) (ho : ∀ a, a < mN M → ow' a = ow a) : CvS ow' ga gm M ms gs mb gb := by
  obtain ⟨F, a, b, ⟨c1, c2⟩, d, e1, e2, f, g⟩ := hC
  refine ⟨F, a, b, ⟨c1.imp id (fun z => ⟨z.1, z.2.1, by rw [ho _ z.2.1]; exact z.2.2⟩), c2.imp id (fun z => ⟨z.1, z.2.1, by rw [ho _ z.2.1]; exact z.2.2⟩)⟩, fun a ha => by rw [ho a (by have := F.1; omega)]; exact d a ha, e1, e2, fun i hi => ⟨(f i hi).1, (f i hi).2.own ho⟩, fun i hi => ?_⟩
  obtain ⟨h1, j, h2, h3, h4⟩ := g i hi
  exact ⟨h1, j, h2, h3, h4.own ho⟩
theorem ln_at {ya na len lc rc : Nat} {N : Nt} (hc : CirP M (n0 + 8) lc rc N) (h2 : mR M (n0 + 8) 2 = some ya) (hl : N.length = len) (hlt : len < 100000) : lnS M n0 = (if mL M ya < len then 2 * len else 0) ∧ lnN M n0 = if mL M ya < len then 2 else 0 := by
  have e : (mI M (n0 + 8) 4).toNatClampNeg = len := by rw [hc.2.2.2.2.2.1, hl]; exact lt32 (by omega)
  unfold lnS lnN
  rw [h2, e]
  exact ⟨rfl, rfl⟩
theorem ln_fr {S : Nat → Prop} {τ : Td} {σ : PS} (hX : CmX ow M n0 τ σ) (k : fr S M M') (hS : ∀ a, S a → ow a ≠ n0) : lnS M' n0 = lnS M n0 ∧ lnN M' n0 = lnN M n0 ∧ mR M' n0 = mR M n0 := by
  obtain ⟨m, root, γ, g0, gw, Z0, P, zp, Ψ1, Ψ2, R, zn, fn, y0, q0, hl, lc, rc, cc, pb, ib, b1, b2, ya, na, pz, n1, ps, hp, hM, hz, ⟨z1, z2, z3, z4⟩, hs⟩ := hX
  have n25 := hz.1
  have oxx : ok M (n0 + 8) 2 := hM.2.2.2.2.2.1.1.1.1
  have oy : ok M ya 21 := hM.2.2.2.2.2.1.1.2.1.2.1
  have r8 := k.2 (n0 + 8) oxx.1 (fun z => hS _ z (z2 _ (by omega) (by omega)))
  have r0 := k.2 n0 hM.1.1.1.1 (fun z => hS _ z (z2 _ (by omega) (by omega)))
  have e2 := hM.2.2.2.2.2.1.1.2.1.1
  refine ⟨?_, ?_, r0.2.2.1⟩
  · unfold lnS
    rw [r8.2.2.1, r8.1, e2]
    show (if mL M' ya < _ then _ else 0) = if mL M ya < _ then _ else 0
    rw [(k.1.2.2 ya oy.1).2]
  · unfold lnN
    rw [r8.2.2.1, r8.1, e2]
    show (if mL M' ya < _ then 2 else 0) = if mL M ya < _ then 2 else 0
    rw [(k.1.2.2 ya oy.1).2]
set_option maxHeartbeats 1000000 in
theorem G_beat (hC : CvS ow ga gm M ms gs mb gb) (hb : mN M + 4 < mBig) (K0 : ∀ r : Int32, Q (some (.int r)) M) (K : ∀ M' ow' c (r : Int32), (∃ j, j < ms.length ∧ c = ms.getD j 0) → (∀ a, a < mN M → ow' a = ow a) → CvS ow' ga gm M' ms gs mb gb → fr (fun a => 132 ≤ a) M M' → (mN M' + lnN M' c ≤ mN M + lnN M c ∧ mS M' + lnS M' c ≤ mS M + lnS M c) → (∀ j, j < ms.length → ms.getD j 0 ≠ c → lnS M' (ms.getD j 0) = lnS M (ms.getD j 0) ∧ lnN M' (ms.getD j 0) = lnN M (ms.getD j 0)) → (∀ j, j < ms.length → mR M' (ms.getD j 0) 17 = mR M (ms.getD j 0) 17) → (∀ q, q < gs.length → mI M' (gs.getD q 0) 5 = mI M (gs.getD q 0) 5) → Q (some (.int r)) M') : E (h + 9) mdX10_beat [.ref 0, .int x] M Q := by
  refine KX10_beat (h := h + 8) ?_
  unfold DX10_beat_0
  refine ⟨ok0 hC.1, S_govAt (h := h + 4) hC (fun ne _ => ⟨none, rfl, fun _ => K0 _, fun b e => absurd e (by simp)⟩) (fun i hi ex _ => ⟨some _, rfl, fun e => absurd e (by simp), fun b e => ?_⟩)⟩
  cases e
  obtain ⟨j0, -, -, -, -, -, -, hj0, ej0, -⟩ := hC.gv hi
  obtain ⟨ow', how'⟩ : ∃ ow' : Nat → Nat, ow' = fun a => if a < mN M then ow a else ms.getD j0 0 := ⟨_, rfl⟩
  have hag : ∀ a, a < mN M → ow' a = ow a := fun a ha => by rw [how']; exact if_pos ha
  have hnew : ∀ a, mN M ≤ a → ow' a = ms.getD j0 0 := fun a ha => by rw [how']; exact if_neg (by omega)
  have hC0 := hC
  replace hC := hC.owN hag
  have K := fun M' c r => K M' ow' c r
  clear how'
  obtain ⟨j, nw, nx, kp, gn, wr, ks, hj, ej, e2, hv, hr, ho, hrow, hm⟩ := hC.gv hi
  rw [show ms.getD j0 0 = ms.getD j 0 from ej0.symm.trans ej] at hnew
  have hn := (hC.2.2.2.2.2.2.2.1 j hj).1
  generalize hn0 : ms.getD j 0 = n0 at hv hm hn hnew ej
  generalize hgg : gs.getD i 0 = g at hv hr ho hrow e2 ej
  obtain ⟨m, root, γ, g0, gw, Z0, P, zp, Ψ1, Ψ2, R, zn, fn, y0, q0, hl, lc, rc, cc, pb, ib, b1, b2, ya, na, pz, n1, ps, ⟨hW, hT, hR, h16, hX, hif, hva, hpz⟩, hM, hz, ⟨z1, z2, z3, z4⟩, hs⟩ := id hm
  refine ⟨hv.1.1, S_hasE (h := h + 7) hv (fun r7 _ _ => ⟨r7, rfl, fun _ => ?_, fun _ => K0 _⟩)⟩
  have n25 := hz.1
  have cs := hM.2.2.2.2.2.1
  have oy : ok M ya 21 := cs.1.2.1.2.1
  have on : ok M na 21 := cs.1.2.2.1.2.1
  have gne : g ≠ n0 := fun e => by
    have := hM.1.1.1
    rw [← e] at this
    exact absurd (this.2.symm.trans hv.1.1.2) (by decide)
  -- rows of the governor and of the module are apart
  have owm : ∀ {r q : Nat}, ok M r q → inZ n0 n1 r → ow' r = n0 := fun {r q} o hi2 => by
    rcases hi2 with y | y
    · exact z2 r y.1 y.2
    · have := o.1; omega
  have i25 : ∀ c, c < 25 → inZ n0 n1 (n0 + c) := fun c hc => Or.inl ⟨by omega, by omega⟩
  have ce := hM.2.2.2.2.2.2.1
  have mrow : ∀ r, mrR cc (n0 + 4) lc rc (n0 + 20) (n0 + 17) (n0 + 18) (n0 + 19) r → ow' r = n0 := fun r hr2 => by
    unfold mrR at hr2
    rcases hr2 with e | e | e | e | e | e | e | e <;> rw [e]
    · exact owm hM.1.2.1.1.2.2.1 hz.2.2.2.1
    · exact owm hM.1.2.2.2.1 (i25 4 (by decide))
    · exact owm cs.1.1.2.2.1 hz.2.1
    · exact owm cs.1.1.2.2.2.2.1 hz.2.2.1
    · exact owm cs.2.2.2.1.2.1 (i25 20 (by decide))
    · exact owm ce.2.1.2.1 (i25 17 (by decide))
    · exact owm ce.2.2.1.2.1 (i25 18 (by decide))
    · exact owm ce.2.2.2.1.2.1 (i25 19 (by decide))
  have dj : DjR (grR nw nx wr gn ks) (mrR cc (n0 + 4) lc rc (n0 + 20) (n0 + 17) (n0 + 18) (n0 + 19)) ya na := by
    refine ⟨fun r hr2 => ⟨fun e => ?_, fun e => ?_, fun e => ?_⟩, hM.2.2.2.2.2.2.2.1⟩
    · have := hrow r (Or.inl hr2); rw [e, z3] at this; exact gne this.symm
    · have := hrow r (Or.inl hr2); rw [e, z4] at this; exact gne this.symm
    · have := hrow r (Or.inl hr2); rw [mrow r e] at this; exact gne this.symm
  have hB : BtS M g n0 nw nx kp gn wr ks (n0 + 22) cc (n0 + 24) (n0 + 3) (n0 + 4) (inL (ga n0).1.2.1).length (coS (ga n0).2) (ga n0).2.2.2.1 (n0 + 7) pb ps (ga n0).1.1.length (ga n0).1.2.1 (ifS (ga n0).2) Ψ2.1.length := by
    refine ⟨?_, hM.1, ⟨hM.2.1.1, hM.2.1.2.1, by have := hM.2.1; omega⟩, fun q hq => (hM.2.2.1 q hq).1, hM.2.2.2.1⟩
    rw [hM.2.1.2.2.1]
    exact hv
  refine S_react (h := h) hW hT hR h16 hX (by omega) hB hM.2.2.2.2.1 cs ce hr dj (fun M8 ya' na' nw' nx' r9 rf hv8 hr8 _ => ⟨r9, rfl, ?_⟩)
  obtain ⟨f8, ⟨x1, x2, x3, x4, x5⟩, ⟨s1, s2, s3, s4⟩, k5, nn, ⟨o1, l1, l2, o2, l3, l4⟩, sw⟩ := rf
  have e8 := f8.1
  -- owners of new cells
  have dn : ∀ {r : Nat}, r = g ∨ r = n0 + 22 ∨ r = n0 + 24 ∨ r = n0 + 8 ∨ r = ya ∨ r = na ∨ r = nw ∨ r = nx ∨ r = wr → (ow' r = g ∨ ow' r = n0) ∧ mK M r ≠ 0 := fun {r} zz => by
    have osm : ok M (n0 + 22) 8 := hM.1.2.1.1.1
    have ost : ok M (n0 + 24) 23 := hM.1.2.1.2.1.2.1
    have oxx : ok M (n0 + 8) 2 := cs.1.1.1
    rcases zz with e | e | e | e | e | e | e | e | e <;> rw [e]
    · exact ⟨Or.inl ho, by rw [hv.1.1.2]; decide⟩
    · exact ⟨Or.inr (owm osm (i25 22 (by decide))), by rw [osm.2]; decide⟩
    · exact ⟨Or.inr (owm ost (i25 24 (by decide))), by rw [ost.2]; decide⟩
    · exact ⟨Or.inr (owm oxx (i25 8 (by decide))), by rw [oxx.2]; decide⟩
    · exact ⟨Or.inr z3, by rw [oy.2]; decide⟩
    · exact ⟨Or.inr z4, by rw [on.2]; decide⟩
    · exact ⟨Or.inl (hrow nw (Or.inl (Or.inl rfl))), by rw [hv.2.1.1.1.2]; decide⟩
    · exact ⟨Or.inl (hrow nx (Or.inl (Or.inr (Or.inl rfl)))), by rw [hv.2.1.2.1.1.2]; decide⟩
    · exact ⟨Or.inl (hrow wr (Or.inl (Or.inr (Or.inr (Or.inl rfl))))), by rw [hv.2.1.2.2.2.1.2]; decide⟩
  have ogr : ∀ {r q : Nat}, ok M r q → q ≠ 4 → q ≠ 8 → q ≠ 23 → q ≠ 2 → q ≠ 21 → ¬ (r = g ∨ r = n0 + 22 ∨ r = n0 + 24 ∨ r = n0 + 8 ∨ r = ya ∨ r = na ∨ r = nw ∨ r = nx ∨ r = wr) := fun {r q} o h4 h8 h23 h2 h21 zz => by
    have e := o.2
    rcases zz with y | y | y | y | y | y | y | y | y <;> rw [y] at e
    · exact h4 (e.symm.trans hv.1.1.2)
    · exact h8 (e.symm.trans hM.1.2.1.1.1.2)
    · exact h23 (e.symm.trans hM.1.2.1.2.1.2.1.2)
    · exact h2 (e.symm.trans cs.1.1.1.2)
    · exact h21 (e.symm.trans oy.2)
    · exact h21 (e.symm.trans on.2)
    · exact h21 (e.symm.trans hv.2.1.1.1.2)
    · exact h21 (e.symm.trans hv.2.1.2.1.1.2)
    · exact h21 (e.symm.trans hv.2.1.2.2.2.1.2)
  have on0 : ok M n0 3 := hM.1.1.1
  have rn0 := f8.2 n0 on0.1 (ogr on0 (by decide) (by decide) (by decide) (by decide) (by decide))
  have yl : (ya' = ya ∧ na' = na) ∨ (mN M ≤ ya' ∧ mN M ≤ na' ∧ ya' ≠ na') := by
    rcases nn with ⟨e, e', -⟩ | ⟨e, e', -⟩
    · exact Or.inl ⟨e, e'⟩
    · exact Or.inr ⟨by omega, by omega, by omega⟩
  have M8' : MoM M8 n0 (ga n0).1 (ga n0).2 Ψ2 hl lc rc cc pb ib b1 b2 ya' na' pz ps := by
    refine hM.mu (S := fun a => a = g ∨ a = nw ∨ a = nx ∨ a = wr) hz z2 (fun a zz e => ?_) (fun a zz => ?_) (by omega) ⟨f8.more (fun a _ zz => ?_), ⟨rn0.1, fun f _ => by rw [rn0.2.2.1]⟩, ⟨x1, x3, x4, x5⟩, ⟨s1, s2⟩, ⟨o1, o2, l2, l4, fun _ => l3⟩, yl⟩
    · rcases zz with y | y | y | y <;> rw [y] at e
      · exact gne (ho.symm.trans e)
      · exact gne ((hrow nw (Or.inl (Or.inl rfl))).symm.trans e)
      · exact gne ((hrow nx (Or.inl (Or.inr (Or.inl rfl)))).symm.trans e)
      · exact gne ((hrow wr (Or.inl (Or.inr (Or.inr (Or.inl rfl))))).symm.trans e)
    · rcases zz with y | y | y | y
      · exact (dn (Or.inl y)).2
      · exact (dn (Or.inr (Or.inr (Or.inr (Or.inr (Or.inr (Or.inr (Or.inl y)))))))).2
      · exact (dn (Or.inr (Or.inr (Or.inr (Or.inr (Or.inr (Or.inr (Or.inr (Or.inl y))))))))).2
      · exact (dn (Or.inr (Or.inr (Or.inr (Or.inr (Or.inr (Or.inr (Or.inr (Or.inr y))))))))).2
    · rcases zz with y | y | y | y | y | y | y | y | y
      · exact Or.inr (Or.inr (Or.inr (Or.inr (Or.inr (Or.inr (Or.inl y))))))
      · exact Or.inr (Or.inl y)
      · exact Or.inr (Or.inr (Or.inl y))
      · exact Or.inr (Or.inr (Or.inr (Or.inl y)))
      · exact Or.inr (Or.inr (Or.inr (Or.inr (Or.inl y))))
      · exact Or.inr (Or.inr (Or.inr (Or.inr (Or.inr (Or.inl y)))))
      · exact Or.inr (Or.inr (Or.inr (Or.inr (Or.inr (Or.inr (Or.inr (Or.inl y)))))))
      · exact Or.inr (Or.inr (Or.inr (Or.inr (Or.inr (Or.inr (Or.inr (Or.inr (Or.inl y))))))))
      · exact Or.inr (Or.inr (Or.inr (Or.inr (Or.inr (Or.inr (Or.inr (Or.inr (Or.inr y))))))))
  have oww : ow' ya' = n0 ∧ ow' na' = n0 := by
    rcases nn with ⟨e, e', -⟩ | ⟨e, e', -⟩
    · rw [e, e']; exact ⟨z3, z4⟩
    · exact ⟨hnew _ (by omega), hnew _ (by omega)⟩
  have X8 : CmX ow' M8 n0 (ga n0).1 (ga n0).2 := by
    refine ⟨m, root, γ, g0, gw, Z0, P, zp, Ψ1, Ψ2, R, zn, fn, y0, q0, hl, lc, rc, cc, pb, ib, b1, b2, ya', na', pz, n1, ps, ⟨hW, hT, hR, h16, hX, hif, hva, hpz⟩, M8', hz, ⟨Nat.le_trans z1 e8.1, z2, oww.1, oww.2⟩, hs.fr f8 on0.1 (by rw [rn0.2.2.1]) (fun q _ o7 _ => ogr o7 (by decide) (by decide) (by decide) (by decide) (by decide)) (fun r o21 er ny nn2 zz => ?_) (fun r o21 h1 h2 => ?_)⟩
    · have e := o21.2
      rcases zz with y | y | y | y | y | y | y | y | y
      · rw [y, hv.1.1.2] at e; exact absurd e (by decide)
      · rw [y, hM.1.2.1.1.1.2] at e; exact absurd e (by decide)
      · rw [y, hM.1.2.1.2.1.2.1.2] at e; exact absurd e (by decide)
      · rw [y, cs.1.1.1.2] at e; exact absurd e (by decide)
      · exact ny y
      · exact nn2 y
      · rw [y, hrow nw (Or.inl (Or.inl rfl))] at er; exact gne er
      · rw [y, hrow nx (Or.inl (Or.inr (Or.inl rfl)))] at er; exact gne er
      · rw [y, hrow wr (Or.inl (Or.inr (Or.inr (Or.inl rfl))))] at er; exact gne er
    · rcases yl with ⟨e, e'⟩ | ⟨e, e', -⟩
      · rw [e, e']; exact ⟨h1, h2⟩
      · have := o21.1; omega
  have G8 : GoX ow' M8 g n0 (npS (ga n0).2) := by
    refine ⟨nw', nx', kp, gn, wr, ks, ?_, hr8, ho, fun r hr2 => ?_⟩
    · rw [← hM.2.1.2.2.1]; exact hv8
    · rcases sw with ⟨e, e'⟩ | ⟨e, e'⟩
      · rw [e, e'] at hr2; exact hrow r hr2
      · rw [e, e'] at hr2
        refine hrow r ?_
        rcases hr2 with (y | y | y) | y
        · exact Or.inl (Or.inr (Or.inl y))
        · exact Or.inl (Or.inl y)
        · exact Or.inl (Or.inr (Or.inr y))
        · exact Or.inr y
  have kn : ∀ {c : Nat}, c ≠ g → c ≠ n0 → ∀ a, (a = g ∨ a = n0 + 22 ∨ a = n0 + 24 ∨ a = n0 + 8 ∨ a = ya ∨ a = na ∨ a = nw ∨ a = nx ∨ a = wr) → ow' a ≠ c := fun {c} h1 h2 a zz e => by
    rcases (dn zz).1 with y | y
    · exact h1 (e.symm.trans y)
    · exact h2 (e.symm.trans y)
  have msg : ∀ q, q < ms.length → ms.getD q 0 ≠ g := fun q hq e => by
    have := (hC.2.2.2.2.2.2.2.1 q hq).2.on
    rw [e] at this
    exact absurd (this.2.symm.trans hv.1.1.2) (by decide)
  have gsn : ∀ q, q < gs.length → gs.getD q 0 ≠ n0 := fun q hq e => by
    obtain ⟨_, _, _, _, _, _, _, _, _, _, hvq, _⟩ := hC.gv hq
    have o := hvq.1.1
    rw [e] at o
    exact absurd (o.2.symm.trans on0.2) (by decide)
  refine K M8 n0 r9 ⟨j, hj, hn0.symm⟩ hag (hC.own (Wp := fun v => v = g ∨ v = n0) (by omega) f8 (fun a zz => dn zz) (fun v zz => zz.elim (fun y => by rw [y]; exact e2) (fun y => by rw [y]; exact hn)) (fun q hq zz => ?_) (fun q q2 hq hq2 eq2 zz => ?_)) (f8.more (fun a _ zz => ?_)) ?_ (fun q hq ne => ?_) (fun q hq => ?_) (fun q hq => ?_)
  · rcases zz with y | y
    · exact absurd y (msg q hq)
    · rw [y]; exact X8
  · rcases zz with y | y
    · rw [y] at eq2 ⊢
      rw [← eq2, ej]
      exact G8
    · exact absurd y (gsn q hq)
  · rcases (dn zz).1 with y | y
    · exact ge132 hC e2 y
    · exact ge132 hC hn y
  · have lt := hW.2.2.2.2.2.2.2.2.1
    obtain ⟨a1, a2⟩ := ln_at (n0 := n0) (na := na) cs.1.1 cs.1.2.1.1 rfl lt
    obtain ⟨c1, c2⟩ := ln_at (n0 := n0) (na := na) M8'.2.2.2.2.2.1.1.1 M8'.2.2.2.2.2.1.1.2.1.1 rfl lt
    have nlt8 : ¬ mL M8 ya' < Ψ2.1.length := by omega
    rw [if_neg nlt8] at c1 c2
    rw [a1, a2, c1, c2]
    rcases nn with ⟨-, -, e3, e4⟩ | ⟨-, -, e3, e4, e5⟩
    · rw [e3, e4]; exact ⟨Nat.le_add_right _ _, Nat.le_add_right _ _⟩
    · rw [e3, e4, if_pos e5, if_pos e5]; exact ⟨Nat.le_refl _, Nat.le_refl _⟩
  · obtain ⟨a1, a2, -⟩ := ln_fr (hC.2.2.2.2.2.2.2.1 q hq).2 f8 (kn (msg q hq) ne)
    exact ⟨a1, a2⟩
  · by_cases ne : ms.getD q 0 = n0
    · rw [ne, rn0.2.2.1]
    · obtain ⟨-, -, a3⟩ := ln_fr (hC.2.2.2.2.2.2.2.1 q hq).2 f8 (kn (msg q hq) ne)
      rw [a3]
  · by_cases ne : gs.getD q 0 = g
    · rw [ne]; exact k5
    · obtain ⟨_, _, _, _, _, _, _, _, _, _, hvq, _, hoq, _⟩ := hC.gv hq
      have hvq := hvq.1.1
      rw [(f8.2 _ hvq.1 (fun zz => kn ne (gsn q hq) _ zz hoq)).1]
end
