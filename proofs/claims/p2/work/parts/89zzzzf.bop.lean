/-! the reference builds nodes, with their lists of children -/
/-- of the nodes from s0 on no trap has a part -/
def trN (m s0 : Nat) (S : RBs) : Prop := ∀ z, 700 * m + s0 ≤ z → z < 700 * m + S.1 → S.2 80 z = 10 → S.2 81 z = -1
/-- what an operation leaves that makes node y and gives those of H a parent -/
def NRx (m : Nat) (A : Nat → Nat → Int32) (pn : Nat → Int32) (M : Mem) (S : RBs) (G : Nat → List Nat) (M' : Mem) (S' : RBs) (G' : Nat → List Nat) (y : Nat) (H : Nat → Prop) (q ea ca : Nat) : Prop := BuM m A pn S' M' ∧ RGb m M M' ∧ RgB m S' G' ∧ FrB m S G S' G' H ∧ (700 * m + S.1 ≤ y ∧ y < 700 * m + S'.1 ∧ S'.2 86 y = -1) ∧ (S'.1 ≤ S.1 + q ∧ rtC m S' + ca ≤ rtC m S + ea ∧ trN m S.1 S')
/-- a node that has no parent yet -/
def frN (m : Nat) (S : RBs) (c : Nat) : Prop := (700 * m ≤ c ∧ c < 700 * m + S.1) ∧ S.2 86 c = -1
section
variable {m : Nat} {A : Nat → Nat → Int32} {pn : Nat → Int32} {S S1 S2 S' : RBs} {G G1 G2 G' : Nat → List Nat} {M M1 M2 M' : Mem} {h : Nat} {Q : Option Value → Mem → Prop} {so pt : Int32} {c d p y y1 y2 q q1 q2 ea ca ea1 ca1 ea2 ca2 : Nat} {H H1 H2 : Nat → Prop}
theorem trN.tr (f : FrB m S1 G1 S2 G2 H) (h1 : trN m S.1 S1) (h2 : trN m S1.1 S2) : trN m S.1 S2 := fun z z1 z2 z3 => by
  by_cases e : z < 700 * m + S1.1
  · have v := (f.2.1 z (by omega) e).1
    have v80 : S2.2 80 z = S1.2 80 z := congrArg (fun w => w.1) v
    have v81 : S2.2 81 z = S1.2 81 z := congrArg (fun w => w.2.1) v
    rw [v81]
    rw [v80] at z3
    exact h1 z z1 e z3
  · exact h2 z (by omega) z2 z3
theorem NRx.tr (h : NRx m A pn M S G M1 S1 G1 y1 H1 q1 ea1 ca1) (k : NRx m A pn M1 S1 G1 M2 S2 G2 y2 H2 q2 ea2 ca2) (h1 : ∀ z, 700 * m ≤ z → z < 700 * m + S.1 → H1 z → H z) (h2 : ∀ z, 700 * m ≤ z → z < 700 * m + S.1 → H2 z → H z) : NRx m A pn M S G M2 S2 G2 y2 H (q1 + q2) (ea1 + ea2) (ca1 + ca2) := by
  obtain ⟨a1, a2, a3, a4, ⟨a5, a6, a7⟩, a8⟩ := h
  obtain ⟨b1, b2, b3, b4, ⟨b5, b6, b7⟩, b8⟩ := k
  have := a4.1
  exact ⟨b1, a2.tr b2, b3, (a4.more h1).tr b4 h2, ⟨by omega, b6, b7⟩, by have := a8.1; have := b8.1; omega, by have := a8.2.1; have := b8.2.1; omega, a8.2.2.tr b4 b8.2.2⟩
theorem NRx.fr (h : NRx m A pn M S G M' S' G' y H q ea ca) (hc : frN m S c) (nh : ¬ H c) : frN m S' c := by
  have q := h.2.2.2.1.2.1 c hc.1.1 hc.1.2
  have := h.2.2.2.1.1
  exact ⟨⟨hc.1.1, by have := hc.1.2; omega⟩, (q.2 nh).trans hc.2⟩
theorem NRx.own (h : NRx m A pn M S G M' S' G' y H q ea ca) : frN m S' y := ⟨⟨by have := h.2.2.2.2.1.1; omega, h.2.2.2.2.1.2.1⟩, h.2.2.2.2.1.2.2⟩
theorem NRx.vw (h : NRx m A pn M S G M' S' G' y H q ea ca) : ∀ z, 700 * m ≤ z → z < 700 * m + S.1 → vwR S' G' z = vwR S G z := fun z h1 h2 => (h.2.2.2.1.2.1 z h1 h2).1
theorem NRx.rp {W : Wo} {zn fn g g' p p' x : Nat} {cx : List (Option Nat)} (h : NRx m A pn M S G M' S' G' y H q ea ca) (hr : RpN W m zn fn (vwR S G) (700 * m + S.1) g cx c x p p') (hg : g ≤ g') : RpN W m zn fn (vwR S' G') (700 * m + S'.1) g' cx c x p p' := RpN.st h.vw (by have := h.2.2.2.1.1; omega) _ _ _ _ _ _ _ hg hr
theorem NRx.mo (h : NRx m A pn M S G M' S' G' y H q ea ca) (hq : q ≤ q1) : NRx m A pn M S G M' S' G' y H q1 ea ca := ⟨h.1, h.2.1, h.2.2.1, h.2.2.2.1, h.2.2.2.2.1, by have := h.2.2.2.2.2.1; omega, h.2.2.2.2.2.2⟩
theorem NRx.nm (h : NRx m A pn M S G M' S' G' y H q ea1 ca1) (hq : ea1 + ca2 ≤ ea2 + ca1) : NRx m A pn M S G M' S' G' y H q ea2 ca2 := ⟨h.1, h.2.1, h.2.2.1, h.2.2.2.1, h.2.2.2.2.1, h.2.2.2.2.2.1, by have := h.2.2.2.2.2.2.1; omega, h.2.2.2.2.2.2.2⟩
theorem B_nd (hB : BuM m A pn S M) (hR : RgB m S G) (hf : S.1 < 700) (K : ∀ M' S' G' y, NRx m A pn M S G M' S' G' y noN 1 1 0 → vwR S' G' y = (so, pt, []) → Q (some (.int (Int32.ofNat y))) M') (hx : so = 10 → pt = -1 := by first | exact fun z => absurd z (by decide) | exact fun _ => rfl) : E (h + 1) mdX11_node [.ref 29, .int so, .int pt] M Q := by
  obtain ⟨r1, r2, r3, r4⟩ := hR.new (so := so) (pt := pt) (H := noN) hf
  refine B_node hB hf (fun M' s g => K M' _ _ _ ⟨s, g, r1, r2, ⟨Nat.le_refl _, by show _ < 700 * m + (S.1 + 1); omega, r4⟩, Nat.le_refl _, by rw [rtC_new]; exact Nat.le_refl _, fun z z1 z2 z3 => ?_⟩ r3)
  have z2 : z < 700 * m + (S.1 + 1) := z2
  have ez : z = 700 * m + S.1 := by omega
  have e80 : (nBf m so pt S).2 80 (700 * m + S.1) = so := congrArg (fun w => w.1) r3
  have e81 : (nBf m so pt S).2 81 (700 * m + S.1) = pt := congrArg (fun w => w.2.1) r3
  rw [ez, e80] at z3
  rw [ez, e81]
  exact hx z3
/-- a child comes to a new node -/
theorem B_ad {M0 : Mem} {S0 : RBs} {G0 : Nat → List Nat} {ds : List Nat} (h0 : NRx m A pn M0 S0 G0 M S G p H q ea ca) (hp : vwR S G p = (so, pt, ds)) (hc : frN m S c) (hcp : c ≠ p) (K : ∀ M' S' G', NRx m A pn M0 S0 G0 M' S' G' p (fun z => H z ∨ z = c) q ea (ca + 1) → vwR S' G' p = (so, pt, ds ++ [c]) → (∀ z, frN m S z → z ≠ c → frN m S' z) → S'.1 = S.1 → (∀ z, z ≠ p → vwR S' G' z = vwR S G z) → Q none M') : E (h + 1) mdX11_adopt [.ref 29, .int (Int32.ofNat p), .int (Int32.ofNat c)] M Q := by
  obtain ⟨a1, a2, a3, a4, ⟨a5, a6, a7⟩, a8⟩ := id h0
  have h4 := a1.2.1
  have h7 := a3.1.2
  have hpr : 700 * m ≤ p ∧ p < 700 * m + S.1 := ⟨by omega, a6⟩
  obtain ⟨r1, r2, r3, r4⟩ := a3.ad hpr hc.1 hc.2 a7 hcp
  obtain ⟨⟨l1, l2, l3, l4, l5⟩, nd, ch⟩ := a3.2.1 p hpr.1 hpr.2
  have g1 : (G p) = ds := by
    have := congrArg (fun z => z.2.2) hp
    exact this
  have v1 : ∀ z, z ≠ p → vwR (S.1, aBf p c S.2) (va_up G p (G p ++ [c])) z = vwR S G z := fun z hz => by
    show (aBf p c S.2 80 z, aBf p c S.2 81 z, va_up G p (G p ++ [c]) z) = (S.2 80 z, S.2 81 z, G z)
    rw [r2 80 z (Or.inl rfl), r2 81 z (Or.inr rfl), va_up_ne _ _ hz]
  refine B_adopt a1 ⟨hpr.1, by omega⟩ ⟨hc.1.1, by have := hc.1.2; omega⟩ (fun z => ?_) (fun M' s g => K M' _ _ ⟨s, a2.tr g, r1, ⟨a4.1, fun z z1 z2 => ⟨?_, fun n => ?_⟩, fun hz z z1 z2 => by
    show aBf p c S.2 87 z = 0
    rw [(aBf_is l1 l2 (fun d hd => by have := (ch d hd).2; omega)).1 87 z (by decide) (by decide) (by decide) (by decide) (by decide)]
    exact a4.2.2 hz z z1 z2⟩, ⟨a5, a6, ?_⟩, a8.1, by have := a8.2.1; omega, fun z z1 z2 z3 => by
    have z3 : aBf p c S.2 80 z = 10 := z3
    show aBf p c S.2 81 z = -1
    rw [r2 80 z (Or.inl rfl)] at z3
    rw [r2 81 z (Or.inr rfl)]
    exact a8.2.2 z z1 z2 z3⟩ ?_ (fun z hz hne => ⟨hz.1, (r3 z hne).trans hz.2⟩) rfl v1)
  · have hn : G p ≠ [] := fun e => z (by rw [l1, e]; rfl)
    have := ch _ (gl_mem hn)
    exact ⟨(G p).getLastD 0, ⟨this.1, by omega⟩, by rw [l2]; unfold laI; rw [if_neg hn]⟩
  · rw [v1 z (by omega)]
    exact (a4.2.1 z z1 z2).1
  · have := (a4.2.1 z z1 z2).2 (fun w => n (Or.inl w))
    rw [← this]
    exact r3 z (fun w => n (Or.inr w))
  · exact (r3 p (fun z => hcp z.symm)).trans a7
  · show (aBf p c S.2 80 p, aBf p c S.2 81 p, va_up G p (G p ++ [c]) p) = _
    rw [r2 80 p (Or.inl rfl), r2 81 p (Or.inr rfl), va_up_self, g1]
    have e1 : S.2 80 p = so := congrArg (fun z => z.1) hp
    have e2 : S.2 81 p = pt := congrArg (fun z => z.2.1) hp
    rw [e1, e2]
theorem B_ov1 (hB : BuM m A pn S M) (hR : RgB m S G) (hf : S.1 < 700) (hc : frN m S c) (K : ∀ M' S' G' y, NRx m A pn M S G M' S' G' y (fun z => z = c) 1 1 1 → vwR S' G' y = (so, pt, [c]) → Q (some (.int (Int32.ofNat y))) M') (hx : so = 10 → pt = -1 := by first | exact fun z => absurd z (by decide) | exact fun _ => rfl) : E (h + 2) mdX11_over [.ref 29, .int so, .int pt, .int (Int32.ofNat c), .int (-1)] M Q := by
  refine KX11_over ?_
  unfold DX11_over_0 DX11_over_29
  refine ⟨ok29 hB.1, B_nd (hx := hx) hB hR hf (fun M1 S1 G1 y n1 v1 _ => ⟨_, rfl, B_ad n1 v1 (n1.fr hc (fun z => z)) (by have := n1.2.2.2.2.1.1; have := hc.1.2; omega) (fun M2 S2 G2 n2 v2 _ _ _ _ => ⟨rfl, fun _ => K M2 S2 G2 y ?_ v2, fun z => absurd rfl z⟩)⟩)⟩
  exact ⟨n2.1, n2.2.1, n2.2.2.1, n2.2.2.2.1.more (fun z _ _ w => by rcases w with w | w; exact w.elim; exact w), n2.2.2.2.2⟩
theorem B_ov2 (hB : BuM m A pn S M) (hR : RgB m S G) (hf : S.1 < 700) (hc : frN m S c) (hd : frN m S d) (hne : c ≠ d) (K : ∀ M' S' G' y, NRx m A pn M S G M' S' G' y (fun z => z = c ∨ z = d) 1 1 2 → vwR S' G' y = (so, pt, [c, d]) → Q (some (.int (Int32.ofNat y))) M') (hx : so = 10 → pt = -1 := by first | exact fun z => absurd z (by decide) | exact fun _ => rfl) : E (h + 2) mdX11_over [.ref 29, .int so, .int pt, .int (Int32.ofNat c), .int (Int32.ofNat d)] M Q := by
  have h4 := hB.2.1
  have h7 := hR.1.2
  refine KX11_over ?_
  unfold DX11_over_0 DX11_over_29
  refine ⟨ok29 hB.1, B_nd (hx := hx) hB hR hf (fun M1 S1 G1 y n1 v1 _ => ⟨_, rfl, B_ad n1 v1 (n1.fr hc (fun z => z)) (by have := n1.2.2.2.2.1.1; have := hc.1.2; omega) (fun M2 S2 G2 n2 v2 f2 e2 w2 _ => ⟨rfl, fun z => absurd z (nm32 (by have := hd.1.2; omega)), fun _ => B_ad n2 v2 (f2 d (n1.fr hd (fun z => z)) (fun z => hne z.symm)) (by have := n1.2.2.2.2.1.1; have := hd.1.2; omega) (fun M3 S3 G3 n3 v3 _ _ _ _ => ⟨rfl, K M3 S3 G3 y ?_ v3⟩)⟩)⟩)⟩
  exact ⟨n3.1, n3.2.1, n3.2.2.1, n3.2.2.2.1.more (fun z _ _ w => by
    rcases w with (w | w) | w
    · exact w.elim
    · exact Or.inl w
    · exact Or.inr w), n3.2.2.2.2⟩
end
