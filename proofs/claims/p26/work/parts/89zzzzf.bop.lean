section
/-! the reference builds nodes, with their lists of children -/
/-- of the nodes from s0 on no trap has a part -/
def trN (m s0 : Nat) (S : RBs) : Prop := ∀ z, 700 * m + s0 ≤ z → z < 700 * m + S.1 → S.2 80 z = 10 → S.2 81 z = -1
/-- what an operation leaves that makes node y and gives those of H a parent -/
def NRx (m : Nat) (A : Nat → Nat → Int32) (pn : Nat → Int32) (M : Mem) (S : RBs) (G : Nat → List Nat) (M' : Mem) (S' : RBs) (G' : Nat → List Nat) (y : Nat) (H : Nat → Prop) (q ea ca : Nat) : Prop := BuM m A pn S' M' ∧ RGb m M M' ∧ RgB m S' G' ∧ FrB m S G S' G' H ∧ (700 * m + S.1 ≤ y ∧ y < 700 * m + S'.1 ∧ S'.2 86 y = -1) ∧ (S'.1 ≤ S.1 + q ∧ rtC m S' + ca ≤ rtC m S + ea ∧ trN m S.1 S')
/-- a node that has no parent yet -/
def frN (m : Nat) (S : RBs) (c : Nat) : Prop := (700 * m ≤ c ∧ c < 700 * m + S.1) ∧ S.2 86 c = -1
section
variable {m : Nat} {A : Nat → Nat → Int32} {pn : Nat → Int32} {S S1 S2 S' : RBs} {G G1 G2 G' : Nat → List Nat} {M M1 M2 M' : Mem} {h : Nat} {Q : Option Value → Mem → Prop} {so pt : Int32} {c d p y y1 y2 q q1 q2 ea ca ea1 ca1 ea2 ca2 : Nat} {H H1 H2 : Nat → Prop}
theorem trN.tr (f : FrB m S1 G1 S2 G2 H) (h1 : trN m S.1 S1) (h2 : trN m S1.1 S2) : trN m S.1 S2 := fun z z1 z2 z3 => by
  by_cases e : z < 700 * m + S1.1
  · have v := (f.2.1 z (by omega) e).1
    have v80 : S2.2 80 z = S1.2 80 z := congrArg (fun w => w.1) v
    have v81 : S2.2 81 z = S1.2 81 z := congrArg (fun w => w.2.1) v
    rw [v81]
    rw [v80] at z3
    exact h1 z z1 e z3
  · exact h2 z (by omega) z2 z3
theorem NRx.tr (h : NRx m A pn M S G M1 S1 G1 y1 H1 q1 ea1 ca1) (k : NRx m A pn M1 S1 G1 M2 S2 G2 y2 H2 q2 ea2 ca2) (h1 : ∀ z, 700 * m ≤ z → z < 700 * m + S.1 → H1 z → H z) (h2 : ∀ z, 700 * m ≤ z → z < 700 * m + S.1 → H2 z → H z) : NRx m A pn M S G M2 S2 G2 y2 H (q1 + q2) (ea1 + ea2) (ca1 + ca2) := by
  obtain ⟨a1, a2, a3, a4, ⟨a5, a6, a7⟩, a8⟩ := h
  obtain ⟨b1, b2, b3, b4, ⟨b5, b6, b7⟩, b8⟩ := k
  have := a4.1
  exact ⟨b1, a2.tr b2, b3, (a4.more h1).tr b4 h2, ⟨by omega, b6, b7⟩, by have := a8.1; have := b8.1; omega, by have := a8.2.1; have := b8.2.1; omega, a8.2.2.tr b4 b8.2.2⟩
theorem NRx.fr (h : NRx m A pn M S G M' S' G' y H q ea ca) (hc : frN m S c) (nh : ¬ H c) : frN m S' c := by
  have q := h.2.2.2.1.2.1 c hc.1.1 hc.1.2
  have := h.2.2.2.1.1
  exact ⟨⟨hc.1.1, by have := hc.1.2; omega⟩, (q.2 nh).trans hc.2⟩
theorem NRx.own (h : NRx m A pn M S G M' S' G' y H q ea ca) : frN m S' y := ⟨⟨by have := h.2.2.2.2.1.1; omega, h.2.2.2.2.1.2.1⟩, h.2.2.2.2.1.2.2⟩
theorem NRx.vw (h : NRx m A pn M S G M' S' G' y H q ea ca) : ∀ z, 700 * m ≤ z → z < 700 * m + S.1 → vwR S' G' z = vwR S G z := fun z h1 h2 => (h.2.2.2.1.2.1 z h1 h2).1
theorem NRx.rp {W : Wo} {zn fn g g' p p' x : Nat} {cx : List (Option Nat)} (h : NRx m A pn M S G M' S' G' y H q ea ca) (hr : RpN W m zn fn (vwR S G) (700 * m + S.1) g cx c x p p') (hg : g ≤ g') : RpN W m zn fn (vwR S' G') (700 * m + S'.1) g' cx c x p p' := RpN.st h.vw (by have := h.2.2.2.1.1; omega) _ _ _ _ _ _ _ hg hr
theorem NRx.mo (h : NRx m A pn M S G M' S' G' y H q ea ca) (hq : q ≤ q1) : NRx m A pn M S G M' S' G' y H q1 ea ca := ⟨h.1, h.2.1, h.2.2.1, h.2.2.2.1, h.2.2.2.2.1, by have := h.2.2.2.2.2.1; omega, h.2.2.2.2.2.2⟩
theorem NRx.nm (h : NRx m A pn M S G M' S' G' y H q ea1 ca1) (hq : ea1 + ca2 ≤ ea2 + ca1) : NRx m A pn M S G M' S' G' y H q ea2 ca2 := ⟨h.1, h.2.1, h.2.2.1, h.2.2.2.1, h.2.2.2.2.1, h.2.2.2.2.2.1, by have := h.2.2.2.2.2.2.1; omega, h.2.2.2.2.2.2.2⟩
theorem B_nd (hB : BuM m A pn S M) (hR : RgB m S G) (hf : S.1 < 700) (K : ∀ M' S' G' y, NRx m A pn M S G M' S' G' y noN 1 1 0 → vwR S' G' y = (so, pt, []) → Q (some (.int (Int32.ofNat y))) M') (hx : so = 10 → pt = -1 := by first | exact fun z => absurd z (by decide) | exact fun _ => rfl) : E (h + 1) mdX11_node [.ref 29, .int so, .int pt] M Q := by
  obtain ⟨r1, r2, r3, r4⟩ := hR.new (so := so) (pt := pt) (H := noN) hf
  refine B_node hB hf (fun M' s g => K M' _ _ _ ⟨s, g, r1, r2, ⟨Nat.le_refl _, by show _ < 700 * m + (S.1 + 1); omega, r4⟩, Nat.le_refl _, by rw [rtC_new]; exact Nat.le_refl _, fun z z1 z2 z3 => ?_⟩ r3)
  have z2 : z < 700 * m + (S.1 + 1) := z2
  have ez : z = 700 * m + S.1 := by omega
  have e80 : (nBf m so pt S).2 80 (700 * m + S.1) = so := congrArg (fun w => w.1) r3
  have e81 : (nBf m so pt S).2 81 (700 * m + S.1) = pt := congrArg (fun w => w.2.1) r3
  rw [ez, e80] at z3
  rw [ez, e81]
  exact hx z3
/-- a child comes to a new node -/
theorem B_ad {M0 : Mem} {S0 : RBs} {G0 : Nat → List Nat} {ds : List Nat} (h0 : NRx m A pn M0 S0 G0 M S G p H q ea ca) (hp : vwR S G p = (so, pt, ds)) (hc : frN m S c) (hcp : c ≠ p) (K : ∀ M' S' G', NRx m A pn M0 S0 G0 M' S' G' p (fun z => H z ∨ z = c) q ea (ca + 1) → vwR S' G' p = (so, pt, ds ++ [c]) → (∀ z, frN m S z → z ≠ c → frN m S' z) → S'.1 = S.1 → (∀ z, z ≠ p → vwR S' G' z = vwR S G z) → Q none M') : E (h + 1) mdX11_adopt [.ref 29, .int (Int32.ofNat p), .int (Int32.ofNat c)] M Q := by
  obtain ⟨a1, a2, a3, a4, ⟨a5, a6, a7⟩, a8⟩ := id h0
  have h4 := a1.2.1
  have h7 := a3.1.2
  have hpr : 700 * m ≤ p ∧ p < 700 * m + S.1 := ⟨by omega, a6⟩
  obtain ⟨r1, r2, r3, r4⟩ := a3.ad hpr hc.1 hc.2 a7 hcp
  obtain ⟨⟨l1, l2, l3, l4, l5⟩, nd, ch⟩ := a3.2.1 p hpr.1 hpr.2
  have g1 : (G p) = ds := by
    have := congrArg (fun z => z.2.2) hp
    exact this
  have v1 : ∀ z, z ≠ p → vwR (S.1, aBf p c S.2) (va_up G p (G p ++ [c])) z = vwR S G z := fun z hz => by
    show (aBf p c S.2 80 z, aBf p c S.2 81 z, va_up G p (G p ++ [c]) z) = (S.2 80 z, S.2 81 z, G z)
    rw [r2 80 z (Or.inl rfl), r2 81 z (Or.inr rfl), va_up_ne _ _ hz]
  refine B_adopt a1 ⟨hpr.1, by omega⟩ ⟨hc.1.1, by have := hc.1.2; omega⟩ (fun z => ?_) (fun M' s g => K M' _ _ ⟨s, a2.tr g, r1, ⟨a4.1, fun z z1 z2 => ⟨?_, fun n => ?_⟩, fun hz z z1 z2 => by
    show aBf p c S.2 87 z = 0
    rw [(aBf_is l1 l2 (fun d hd => by have := (ch d hd).2; omega)).1 87 z (by decide) (by decide) (by decide) (by decide) (by decide)]
    exact a4.2.2 hz z z1 z2⟩, ⟨a5, a6, ?_⟩, a8.1, by have := a8.2.1; omega, fun z z1 z2 z3 => by
    have z3 : aBf p c S.2 80 z = 10 := z3
    show aBf p c S.2 81 z = -1
    rw [r2 80 z (Or.inl rfl)] at z3
    rw [r2 81 z (Or.inr rfl)]
    exact a8.2.2 z z1 z2 z3⟩ ?_ (fun z hz hne => ⟨hz.1, (r3 z hne).trans hz.2⟩) rfl v1)
  · have hn : G p ≠ [] := fun e => z (by rw [l1, e]; rfl)
    have := ch _ (gl_mem hn)
    exact ⟨(G p).getLastD 0, ⟨this.1, by omega⟩, by rw [l2]; unfold laI; rw [if_neg hn]⟩
  · rw [v1 z (by omega)]
    exact (a4.2.1 z z1 z2).1
  · have := (a4.2.1 z z1 z2).2 (fun w => n (Or.inl w))
    rw [← this]
    exact r3 z (fun w => n (Or.inr w))
  · exact (r3 p (fun z => hcp z.symm)).trans a7
  · show (aBf p c S.2 80 p, aBf p c S.2 81 p, va_up G p (G p ++ [c]) p) = _
    rw [r2 80 p (Or.inl rfl), r2 81 p (Or.inr rfl), va_up_self, g1]
    have e1 : S.2 80 p = so := congrArg (fun z => z.1) hp
    have e2 : S.2 81 p = pt := congrArg (fun z => z.2.1) hp
    rw [e1, e2]
theorem B_ov1 (hB : BuM m A pn S M) (hR : RgB m S G) (hf : S.1 < 700) (hc : frN m S c) (K : ∀ M' S' G' y, NRx m A pn M S G M' S' G' y (fun z => z = c) 1 1 1 → vwR S' G' y = (so, pt, [c]) → Q (some (.int (Int32.ofNat y))) M') (hx : so = 10 → pt = -1 := by first | exact fun z => absurd z (by decide) | exact fun _ => rfl) : E (h + 2) mdX11_over [.ref 29, .int so, .int pt, .int (Int32.ofNat c), .int (-1)] M Q := by
  refine KX11_over ?_
  unfold DX11_over_0 DX11_over_29
  refine ⟨ok29 hB.1, B_nd (hx := hx) hB hR hf (fun M1 S1 G1 y n1 v1 _ => ⟨_, rfl, B_ad n1 v1 (n1.fr hc (fun z => z)) (by have := n1.2.2.2.2.1.1; have := hc.1.2; omega) (fun M2 S2 G2 n2 v2 _ _ _ _ => ⟨rfl, fun _ => K M2 S2 G2 y ?_ v2, fun z => absurd rfl z⟩)⟩)⟩
  exact ⟨n2.1, n2.2.1, n2.2.2.1, n2.2.2.2.1.more (fun z _ _ w => by rcases w with w | w; exact w.elim; exact w), n2.2.2.2.2⟩
theorem B_ov2 (hB : BuM m A pn S M) (hR : RgB m S G) (hf : S.1 < 700) (hc : frN m S c) (hd : frN m S d) (hne : c ≠ d) (K : ∀ M' S' G' y, NRx m A pn M S G M' S' G' y (fun z => z = c ∨ z = d) 1 1 2 → vwR S' G' y = (so, pt, [c, d]) → Q (some (.int (Int32.ofNat y))) M') (hx : so = 10 → pt = -1 := by first | exact fun z => absurd z (by decide) | exact fun _ => rfl) : E (h + 2) mdX11_over [.ref 29, .int so, .int pt, .int (Int32.ofNat c), .int (Int32.ofNat d)] M Q := by
  have h4 := hB.2.1
  have h7 := hR.1.2
  refine KX11_over ?_
  unfold DX11_over_0 DX11_over_29
  refine ⟨ok29 hB.1, B_nd (hx := hx) hB hR hf (fun M1 S1 G1 y n1 v1 _ => ⟨_, rfl, B_ad n1 v1 (n1.fr hc (fun z => z)) (by have := n1.2.2.2.2.1.1; have := hc.1.2; omega) (fun M2 S2 G2 n2 v2 f2 e2 w2 _ => ⟨rfl, fun z => absurd z (nm32 (by have := hd.1.2; omega)), fun _ => B_ad n2 v2 (f2 d (n1.fr hd (fun z => z)) (fun z => hne z.symm)) (by have := n1.2.2.2.2.1.1; have := hd.1.2; omega) (fun M3 S3 G3 n3 v3 _ _ _ _ => ⟨rfl, K M3 S3 G3 y ?_ v3⟩)⟩)⟩)⟩
  exact ⟨n3.1, n3.2.1, n3.2.2.1, n3.2.2.2.1.more (fun z _ _ w => by
    rcases w with (w | w) | w
    · exact w.elim
    · exact Or.inl w
    · exact Or.inr w), n3.2.2.2.2⟩
end
end
section
/-! the reference builds: watch, awaiting, halting, aborting, everying -/
section
variable {m : Nat} {A : Nat → Nat → Int32} {pn : Nat → Int32} {S : RBs} {G : Nat → List Nat} {M : Mem} {h : Nat} {Q : Option Value → Mem → Prop} {W : Wo} {zn fn lo hw p p2 x xb j g d : Nat} {l : Int32} {im : Bool} {cx : List (Option Nat)} {Z : List (Nat × Nat)}
theorem bI_0 : bI im = 0 ↔ im = false := by cases im <;> decide
theorem CdW.ch (hj : j < 40) (hc : CdW W m zn (40 * m + j) l) : ChW W m zn fn 4 (Int32.ofNat (40 * m + j)) l x := Or.inl ⟨rfl, j, hj, rfl, hc⟩
theorem B_watch (hB : BuM m A pn S M) (hR : RgB m S G) (hf : S.1 + 5 ≤ 700) (hj : j < 40) (hw1 : waS (woV W) lo hw x l im p) (hc : CdW W m zn (40 * m + j) l) (K : ∀ M' S' G' y, NRx m A pn M S G M' S' G' y noN 5 1 0 → (∀ cx, cx ≠ [] → RpN W m zn fn (vwR S' G') (700 * m + S'.1) 4 cx y x p (p + 1)) → Q (some (.int (Int32.ofNat y))) M') : E (h + 3) mdX11_watch [.ref 29, .int (Int32.ofNat (40 * m + j)), .int (bI im)] M Q := by
  obtain ⟨sq, pa, ch, ex, no, w1, w2, w3, w4, w5, w6⟩ := hw1
  refine KX11_watch ?_
  unfold DX11_watch_0
  refine ⟨ok29 hB.1, B_nd hB hR (by omega) (fun M1 S1 G1 y1 n1 v1 _ => ⟨_, rfl, ?_⟩)⟩
  have s1 := n1.2.2.2.2.2
  refine B_nd n1.1 n1.2.2.1 (by omega) (fun M2 S2 G2 y2 n2 v2 _ => ⟨_, rfl, ?_⟩)
  have s2 := n2.2.2.2.2.2
  refine B_ov1 n2.1 n2.2.2.1 (by omega) n2.own (fun M3 S3 G3 y3 n3 v3 _ => ⟨_, rfl, ?_⟩)
  have s3 := n3.2.2.2.2.2
  have f1 : frN m S3 y1 := n3.fr (n2.fr n1.own (fun z => z)) (fun z => by
    have z : y1 = y2 := z
    have := n2.2.2.2.2.1.1
    have := n1.2.2.2.2.1.2.1
    omega)
  have ne : y1 ≠ y3 := fun z => by
    have := n3.2.2.2.2.1.1
    have := n2.2.2.2.1.1
    have := n1.2.2.2.2.1.2.1
    omega
  have r1 : ∀ cx, RpN W m zn fn (vwR S3 G3) (700 * m + S3.1) 2 cx y1 pa p (p + 1) := fun cx => n3.rp (n2.rp (g' := 1) (N_pa (g := 0) ⟨n1.own.1.1, n1.own.1.2⟩ w3 v1) (by omega)) (by omega)
  have r3 : ∀ cx q, cx ≠ [] → RpN W m zn fn (vwR S3 G3) (700 * m + S3.1) 2 cx y3 ch q q := fun cx q hn => N_ch1 ⟨n3.own.1.1, n3.own.1.2⟩ w4 (CdW.ch hj hc) v3 (n3.rp (g' := 1) (N_ex0 (g := 0) ⟨n2.own.1.1, n2.own.1.2⟩ w5 hn v2) (by omega)) w6
  have b1 := n1.2.2.2.2.1
  have b2 := n2.2.2.2.2.1
  have b3 := n3.2.2.2.2.1
  have k2 : NRx m A pn M S G M2 S2 G2 y2 noN 2 2 0 := n1.tr n2 (H := noN) (fun _ _ _ z => z) (fun _ _ _ z => z)
  have k3 : NRx m A pn M S G M3 S3 G3 y3 noN 3 3 1 := k2.tr n3 (H := noN) (fun _ _ _ z => z) (fun z _ z2 w => by
    have w : z = y2 := w
    have := n1.2.2.2.1.1
    omega)
  have fin : ∀ c d, frN m S3 c → frN m S3 d → c ≠ d → 700 * m + S.1 ≤ c → 700 * m + S.1 ≤ d → (∀ cx, cx ≠ [] → RpLs (RpN W m zn fn (vwR S3 G3) (700 * m + S3.1) 2 cx) [c, d] (if im = true then [ch, pa] else [pa, ch]) p (p + 1)) → DX11_watch_50 (h + 2) 29 7 (-1) 29 6 (-1) (Int32.ofNat c) (Int32.ofNat d) M3 Q := by
    intro c d fc fd hne hc1 hd1 hl
    unfold DX11_watch_50
    refine ⟨ok29 n3.1.1, B_ov2 n3.1 n3.2.2.1 (by omega) fc fd hne (fun M4 S4 G4 y4 n4 v4 _ => ⟨_, rfl, ok29 n4.1.1, ?_⟩)⟩
    have s4 := n4.2.2.2.2.2
    refine B_ov1 n4.1 n4.2.2.1 (by omega) n4.own (fun M5 S5 G5 y5 n5 v5 _ => ⟨_, rfl, K M5 S5 G5 y5 ?_ (fun cx hn => ?_)⟩)
    · have k4 : NRx m A pn M S G M4 S4 G4 y4 noN 4 4 3 := k3.tr n4 (H := noN) (fun _ _ _ z => z) (fun z _ z2 w => by
        have w : z = c ∨ z = d := w
        omega)
      exact (k4.tr n5 (H := noN) (fun _ _ _ z => z) (fun z _ z2 w => by
        have w : z = y4 := w
        have := k4.2.2.2.2.1.1
        omega)).nm (by decide)
    · refine N_lo ⟨n5.own.1.1, n5.own.1.2⟩ w1 v5 (n5.rp (g := 3) ?_ (Nat.le_refl _))
      exact N_seq ⟨n4.own.1.1, n4.own.1.2⟩ w2 v4 (by show 2 ≤ 2; omega) (RpLs.imp (fun _ _ _ _ k => n4.rp k (Nat.le_refl _)) _ _ _ _ (hl cx hn))
  have b13 : 700 * m + S.1 ≤ y3 := k3.2.2.2.2.1.1
  unfold DX11_watch_40
  cases im with
  | false =>
    refine ⟨fun _ => ⟨fun _ => fin y1 y3 f1 n3.own ne b1.1 b13 (fun cx hn => ⟨p + 1, r1 cx, p + 1, r3 cx _ hn, rfl⟩), fun z => absurd rfl z⟩, fun z => absurd rfl z⟩
  | true =>
    refine ⟨fun z => absurd z (by decide), fun _ => ⟨fun z => absurd z (by decide), fun _ => fin y3 y1 n3.own f1 (fun z => ne z.symm) b13 b1.1 (fun cx hn => ⟨p, r3 cx _ hn, p + 1, r1 cx, rfl⟩)⟩⟩
theorem B_await (hB : BuM m A pn S M) (hR : RgB m S G) (hf : S.1 + 6 ≤ 700) (hj : j < 40) (hw1 : awS (woV W) lo hw x l im p) (hc : CdW W m zn (40 * m + j) l) (K : ∀ M' S' G' y, NRx m A pn M S G M' S' G' y noN 6 1 0 → (∀ cx, RpN W m zn fn (vwR S' G') (700 * m + S'.1) 5 cx y x p (p + 1)) → Q (some (.int (Int32.ofNat y))) M') : E (h + 4) mdX11_awaiting [.ref 29, .int (Int32.ofNat (40 * m + j)), .int (bI im)] M Q := by
  obtain ⟨y0, w1, w2⟩ := hw1
  refine KX11_awaiting ?_
  unfold DX11_awaiting_0
  refine ⟨ok29 hB.1, B_watch (fn := fn) hB hR (by omega) hj w2 hc (fun M1 S1 G1 y1 n1 v1 _ => ⟨_, rfl, ?_⟩)⟩
  have s1 := n1.2.2.2.2.2
  refine B_ov1 (h := h + 1) n1.1 n1.2.2.1 (by omega) n1.own (fun M2 S2 G2 y2 n2 v2 _ => ⟨_, rfl, K M2 S2 G2 y2 ((n1.tr n2 (fun _ _ _ z => z) (fun z _ z2 w => ?_)).nm (by decide)) (fun cx => ?_)⟩)
  · have w : z = y1 := w
    have := n1.2.2.2.2.1.1
    omega
  · exact N_tr0 ⟨n2.own.1.1, n2.own.1.2⟩ w1 v2 (n2.rp (v1 _ (by simp)) (Nat.le_refl _))
theorem B_halt (hB : BuM m A pn S M) (hR : RgB m S G) (hf : S.1 + 2 ≤ 700) (hw1 : haS (woV W) lo hw x p) (K : ∀ M' S' G' y, NRx m A pn M S G M' S' G' y noN 2 1 0 → (∀ cx, RpN W m zn fn (vwR S' G') (700 * m + S'.1) 2 cx y x p (p + 1)) → Q (some (.int (Int32.ofNat y))) M') : E (h + 3) mdX11_halting [.ref 29] M Q := by
  obtain ⟨y0, w1, w2⟩ := hw1
  refine KX11_halting ?_
  unfold DX11_halting_0
  refine ⟨ok29 hB.1, B_nd hB hR (by omega) (fun M1 S1 G1 y1 n1 v1 _ => ⟨_, rfl, ?_⟩)⟩
  have s1 := n1.2.2.2.2.2
  refine B_ov1 n1.1 n1.2.2.1 (by omega) n1.own (fun M2 S2 G2 y2 n2 v2 _ => ⟨_, rfl, K M2 S2 G2 y2 ((n1.tr n2 (fun _ _ _ z => z) (fun z _ z2 w => ?_)).nm (by decide)) (fun cx => ?_)⟩)
  · have w : z = y1 := w
    have := n1.2.2.2.2.1.1
    omega
  · exact N_lo ⟨n2.own.1.1, n2.own.1.2⟩ w1 v2 (n2.rp (N_pa (g := 0) ⟨n1.own.1.1, n1.own.1.2⟩ w2 v1) (Nat.le_refl _))
/-- aborting, behind the part that is held -/
theorem B_ab17 {M0 : Mem} {S0 : RBs} {G0 : Nat → List Nat} {q ea ca : Nat} {x3 x4 : Int32} {H : Nat → Prop} (n0 : NRx m A pn M0 S0 G0 M S G d H q ea ca ∨ (M0 = M ∧ S0 = S ∧ G0 = G ∧ H = (fun z => z = d) ∧ (q = 0 ∧ ea = 0 ∧ ca = 0) ∧ BuM m A pn S M ∧ RgB m S G)) (hd : frN m S d) (hf : S.1 + 9 ≤ 700) (hj : j < 40) (hw1 : wkS (woV W) lo hw x xb l im p2) (hc : CdW W m zn (40 * m + j) l) (hfl : (x3 = 0 ∧ im = false) ∨ (x3 ≠ 0 ∧ x4 = bI im)) (hg : 3 ≤ g) (hb : RpN W m zn fn (vwR S G) (700 * m + S.1) g (none :: cx) d xb p p2) (hz : ∀ e ∈ Z, DsN W m (vwR S G) (700 * m + S.1) d xb e.1 e.2) (K : ∀ M' S' G' y, NRx m A pn M0 S0 G0 M' S' G' y H (q + 9) (ea + 1) (ca + 1) → RpN W m zn fn (vwR S' G') (700 * m + S'.1) (g + 3) cx y x p (p2 + 1) → (∀ e ∈ Z, DsN W m (vwR S' G') (700 * m + S'.1) y x e.1 e.2) → Q (some (.int (Int32.ofNat y))) M') : DX11_aborting_17 (h + 3) 29 (Int32.ofNat (40 * m + j)) x3 x4 (Int32.ofNat d) M Q := by
  obtain ⟨par, sq, wa, ex, w1, w2, w3, w4, w5⟩ := hw1
  have hB : BuM m A pn S M := by rcases n0 with z | z; exact z.1; exact z.2.2.2.2.2.1
  have hR : RgB m S G := by rcases n0 with z | z; exact z.2.2.1; exact z.2.2.2.2.2.2
  unfold DX11_aborting_17
  refine ⟨ok29 hB.1, B_nd (h := h + 2) hB hR (by omega) (fun M1 S1 G1 y1 n1 v1 _ => ⟨_, rfl, ?_⟩)⟩
  have s1 := n1.2.2.2.2.2
  have b1 := n1.2.2.2.2.1
  have hne : d ≠ y1 := fun z => by have := hd.1.2; omega
  refine B_ov2 (h := h + 1) n1.1 n1.2.2.1 (by omega) (n1.fr hd (fun z => z)) n1.own hne (fun M2 S2 G2 y2 n2 v2 _ => ⟨_, rfl, ?_⟩)
  have s2 := n2.2.2.2.2.2
  have b2 := n2.2.2.2.2.1
  have k2 : NRx m A pn M S G M2 S2 G2 y2 (fun z => z = d) 2 2 2 := n1.tr n2 (fun _ _ _ z => z.elim) (fun z _ z2 w => by
    have w : z = d ∨ z = y1 := w
    rcases w with w | w
    · exact w
    · omega)
  have r2 : RpN W m zn fn (vwR S2 G2) (700 * m + S2.1) (g + 1) (none :: cx) y2 sq p p2 := N_seq ⟨n2.own.1.1, n2.own.1.2⟩ w3 v2 (by show 2 ≤ 2; omega) ⟨p2, k2.rp hb (Nat.le_refl _), p2, n2.rp (N_ex0 (g := 0) ⟨n1.own.1.1, n1.own.1.2⟩ w4 (by simp) v1) (by omega), rfl⟩
  have fin : ∀ x9 : Int32, x9 = bI im → DX11_aborting_62 (h + 3) 29 10 (-1) 29 9 (-1) (Int32.ofNat y2) 29 (Int32.ofNat (40 * m + j)) x9 M2 Q := by
    intro x9 e9
    subst e9
    unfold DX11_aborting_62
    refine ⟨ok29 n2.1.1, B_watch (fn := fn) n2.1 n2.2.2.1 (by omega) hj w5 hc (fun M3 S3 G3 y3 n3 v3 _ => ⟨_, rfl, ok29 n3.1.1, ?_⟩)⟩
    have s3 := n3.2.2.2.2.2
    have b3 := n3.2.2.2.2.1
    refine B_ov2 (h := h + 1) n3.1 n3.2.2.1 (by omega) (n3.fr n2.own (fun z => z)) n3.own (by omega) (fun M4 S4 G4 y4 n4 v4 _ => ⟨_, rfl, ok29 n4.1.1, ?_⟩)
    have s4 := n4.2.2.2.2.2
    have b4 := n4.2.2.2.2.1
    refine B_ov1 (h := h + 1) n4.1 n4.2.2.1 (by omega) n4.own (fun M5 S5 G5 y5 n5 v5 _ => ⟨_, rfl, K M5 S5 G5 y5 ?_ ?_ (fun e he => (DsN.ch n5.own.1 w1 v5 (Or.inl (by decide)) (d := y4) (c := par) (by simp)).tr (n5.2.2.2.1.dsn ((DsN.ch n4.own.1 w2 v4 (Or.inl (by decide)) (d := y2) (c := sq) (by simp)).tr (n4.2.2.2.1.dsn (n3.2.2.2.1.dsn ((DsN.ch n2.own.1 w3 v2 (Or.inr (fun z => Nat.noConfusion (Nat.succ.inj z))) (d := d) (c := xb) (by simp)).tr (k2.2.2.2.1.dsn (hz e he))))))))⟩)
    · have k3 : NRx m A pn M S G M3 S3 G3 y3 (fun z => z = d) 7 3 2 := k2.tr n3 (fun _ _ _ z => z) (fun _ _ _ z => z.elim)
      have k4 : NRx m A pn M S G M4 S4 G4 y4 (fun z => z = d) 8 4 4 := k3.tr n4 (fun _ _ _ z => z) (fun z _ z2 w => by
        have w : z = y2 ∨ z = y3 := w
        have := k2.2.2.2.2.1.1
        have := k3.2.2.2.2.1.1
        omega)
      have k5' : NRx m A pn M S G M5 S5 G5 y5 (fun z => z = d) 9 5 5 := k4.tr n5 (fun _ _ _ z => z) (fun z _ z2 w => by
        have w : z = y4 := w
        have := k4.2.2.2.2.1.1
        omega)
      have k5 : NRx m A pn M S G M5 S5 G5 y5 (fun z => z = d) 9 1 1 := k5'.nm (by decide)
      rcases n0 with z | ⟨e1, e2, e3, e4, ⟨e5, e6, e7⟩, -⟩
      · refine z.tr k5 (fun _ _ _ z => z) (fun y _ y2 w => ?_)
        have w : y = d := w
        have := z.2.2.2.2.1.1
        omega
      · subst e1; subst e2; subst e3; subst e4; subst e5; subst e6; subst e7
        exact k5.mo (by omega)
    · refine N_tr0 ⟨n5.own.1.1, n5.own.1.2⟩ w1 v5 (n5.rp (g := g + 2) ?_ (Nat.le_refl _))
      exact N_al ⟨n4.own.1.1, n4.own.1.2⟩ w2 v4 (by show 1 ≤ 2; omega) ⟨p2, n4.rp (n3.rp (g' := g + 1) r2 (Nat.le_refl _)) (Nat.le_refl _), p2 + 1, n4.rp (v3 _ (by simp)) (by omega), rfl⟩
  unfold DX11_aborting_61
  rcases hfl with ⟨e1, e2⟩ | ⟨e1, e2⟩
  · exact ⟨fun _ => fin 0 (by rw [e2]; rfl), fun z => absurd e1 z⟩
  · refine ⟨fun z => absurd z e1, fun _ => ⟨fun z => fin 0 (by rw [← e2, z]), fun z => fin 1 ?_⟩⟩
    rw [e2] at z
    cases im with
    | false => exact absurd rfl z
    | true => rfl
theorem B_weak (hB : BuM m A pn S M) (hR : RgB m S G) (hd : frN m S d) (hf : S.1 + 9 ≤ 700) (hj : j < 40) (hw1 : wkS (woV W) lo hw x xb l im p2) (hc : CdW W m zn (40 * m + j) l) (hg : 3 ≤ g) (hb : RpN W m zn fn (vwR S G) (700 * m + S.1) g (none :: cx) d xb p p2) (hz : ∀ e ∈ Z, DsN W m (vwR S G) (700 * m + S.1) d xb e.1 e.2) (K : ∀ M' S' G' y, NRx m A pn M S G M' S' G' y (fun z => z = d) 9 1 1 → RpN W m zn fn (vwR S' G') (700 * m + S'.1) (g + 3) cx y x p (p2 + 1) → (∀ e ∈ Z, DsN W m (vwR S' G') (700 * m + S'.1) y x e.1 e.2) → Q (some (.int (Int32.ofNat y))) M') : E (h + 4) mdX11_aborting [.ref 29, .int (Int32.ofNat (40 * m + j)), .int (Int32.ofNat d), .int 1, .int (bI im)] M Q := by
  refine KX11_aborting ?_
  unfold DX11_aborting_0
  exact ⟨fun z => absurd z (by decide), fun _ => B_ab17 (Or.inr ⟨rfl, rfl, rfl, rfl, ⟨rfl, rfl, rfl⟩, hB, hR⟩) hd hf hj hw1 hc (Or.inr ⟨by decide, rfl⟩) hg hb hz (fun M' S' G' y n r z => K M' S' G' y (n.mo (by omega)) r z)⟩
theorem B_abort (hB : BuM m A pn S M) (hR : RgB m S G) (hd : frN m S d) (hf : S.1 + 10 ≤ 700) (hj : j < 40) (hw1 : abS (woV W) lo hw x xb l p2) (hc : CdW W m zn (40 * m + j) l) (hg : 3 ≤ g) (hb : RpN W m zn fn (vwR S G) (700 * m + S.1) g (none :: cx) d xb p p2) (hz : ∀ e ∈ Z, DsN W m (vwR S G) (700 * m + S.1) d xb e.1 e.2) (K : ∀ M' S' G' y, NRx m A pn M S G M' S' G' y (fun z => z = d) 10 1 1 → RpN W m zn fn (vwR S' G') (700 * m + S'.1) (g + 4) cx y x p (p2 + 1) → (∀ e ∈ Z, DsN W m (vwR S' G') (700 * m + S'.1) y x e.1 e.2) → Q (some (.int (Int32.ofNat y))) M') : E (h + 4) mdX11_aborting [.ref 29, .int (Int32.ofNat (40 * m + j)), .int (Int32.ofNat d), .int 0, .int 0] M Q := by
  obtain ⟨y0, w1, w2⟩ := hw1
  refine KX11_aborting ?_
  unfold DX11_aborting_0
  refine ⟨fun _ => ⟨ok29 hB.1, B_ov1 (h := h + 1) hB hR (by omega) hd (fun M1 S1 G1 y1 n1 v1 _ => ⟨_, rfl, ?_⟩)⟩, fun z => absurd rfl z⟩
  have s1 := n1.2.2.2.2.2
  have r1 : RpN W m zn fn (vwR S1 G1) (700 * m + S1.1) (g + 1) (none :: cx) y1 y0 p p2 := N_su ⟨n1.own.1.1, n1.own.1.2⟩ w1 hj hc v1 (n1.rp hb (Nat.le_refl _))
  exact B_ab17 (Or.inl n1) n1.own (by omega) hj w2 hc (Or.inl ⟨rfl, rfl⟩) (by omega) r1 (fun e he => (DsN.ch n1.own.1 w1 v1 (Or.inl (by decide)) (d := d) (c := xb) (by simp)).tr (n1.2.2.2.1.dsn (hz e he))) (fun M' S' G' y n r z => K M' S' G' y (n.nm (by decide)) r z)
theorem B_every (hB : BuM m A pn S M) (hR : RgB m S G) (hd : frN m S d) (hf : S.1 + 21 ≤ 700) (hj : j < 40) {xa p1 : Nat} (ha : awS (woV W) lo hw xa l im p) (he : evS (woV W) lo hw x xb xa l p2 (p2 + 1)) (hc : CdW W m zn (40 * m + j) l) (h61 : A 61 (40 * m + j) = bI im) (hg : 4 ≤ g) (hp : p1 = p + 1) (hb : RpN W m zn fn (vwR S G) (700 * m + S.1) g (none :: cx) d xb p1 p2) (hz : ∀ e ∈ Z, DsN W m (vwR S G) (700 * m + S.1) d xb e.1 e.2) (K : ∀ M' S' G' y, NRx m A pn M S G M' S' G' y (fun z => z = d) 21 1 1 → RpN W m zn fn (vwR S' G') (700 * m + S'.1) (g + 7) cx y x p (p2 + 2) → (∀ e ∈ Z, DsN W m (vwR S' G') (700 * m + S'.1) y x e.1 e.2) → Q (some (.int (Int32.ofNat y))) M') : E (h + 5) mdX11_everying [.ref 29, .int (Int32.ofNat (40 * m + j)), .int (Int32.ofNat d)] M Q := by
  obtain ⟨lp, ab, sq, hl, w1, w2, w3, w4, w5⟩ := he
  have h4 := hB.2.1
  have l40 := lt40 h4 hj
  refine KX11_everying ?_
  unfold DX11_everying_0
  rw [l40]
  have e61 : mAI M 61 (40 * m + j) = bI im := by rw [hB.2.2.2.2.2.1 61 (by decide) (by decide) (by decide)]; exact h61
  refine ⟨ok29 hB.1, 61, rf29_41 hB.1, ok61 hB.1, ix40 h4 hj (ln61 hB.1), ?_⟩
  rw [e61]
  refine B_await (fn := fn) hB hR (by omega) hj ha hc (fun M1 S1 G1 y1 n1 v1 _ => ⟨_, rfl, ?_⟩)
  have s1 := n1.2.2.2.2.2
  have b1 := n1.2.2.2.2.1
  refine B_halt (h := h + 1) (zn := zn) (fn := fn) n1.1 n1.2.2.1 (by omega) w5 (fun M2 S2 G2 y2 n2 v2 _ => ⟨_, rfl, ?_⟩)
  have s2 := n2.2.2.2.2.2
  have b2 := n2.2.2.2.2.1
  have hd2 : frN m S2 d := n2.fr (n1.fr hd (fun z => z)) (fun z => z)
  have k2 : NRx m A pn M S G M2 S2 G2 y2 noN 8 2 0 := n1.tr n2 (fun _ _ _ z => z) (fun _ _ _ z => z)
  have hd3 := hd.1.2
  have kb2 := k2.2.2.2.2.1
  refine B_ov2 (h := h + 2) n2.1 n2.2.2.1 (by omega) hd2 n2.own (by omega) (fun M3 S3 G3 y3 n3 v3 _ => ⟨_, rfl, ?_⟩)
  have s3 := n3.2.2.2.2.2
  have b3 := n3.2.2.2.2.1
  have k3 : NRx m A pn M S G M3 S3 G3 y3 (fun z => z = d) 9 3 2 := k2.tr n3 (fun _ _ _ z => z.elim) (fun z _ z2 w => by
    have w : z = d ∨ z = y2 := w
    rcases w with w | w
    · exact w
    · omega)
  have r3 : RpN W m zn fn (vwR S3 G3) (700 * m + S3.1) (g + 1) (none :: cx) y3 sq p1 (p2 + 1) := N_seq ⟨n3.own.1.1, n3.own.1.2⟩ w4 v3 (by show 2 ≤ 2; omega) ⟨p2, k3.rp hb (Nat.le_refl _), p2 + 1, n3.rp (v2 _) (by omega), rfl⟩
  refine B_abort (fn := fn) n3.1 n3.2.2.1 n3.own (by omega) hj w3 hc (by omega) r3 (fun e he => (DsN.ch n3.own.1 w4 v3 (Or.inr (fun z => Nat.noConfusion (Nat.succ.inj z))) (d := d) (c := xb) (by simp)).tr (k3.2.2.2.1.dsn (hz e he))) (fun M4 S4 G4 y4 n4 r4 z4 _ => ⟨_, rfl, ?_⟩)
  have s4 := n4.2.2.2.2.2
  have b4 := n4.2.2.2.2.1
  refine B_ov1 (h := h + 2) n4.1 n4.2.2.1 (by omega) n4.own (fun M5 S5 G5 y5 n5 v5 _ => ⟨_, rfl, ?_⟩)
  have s5 := n5.2.2.2.2.2
  have b5 := n5.2.2.2.2.1
  have r5 : RpN W m zn fn (vwR S5 G5) (700 * m + S5.1) (g + 6) cx y5 lp p1 (p2 + 2) := N_lo ⟨n5.own.1.1, n5.own.1.2⟩ w2 v5 (n5.rp r4 (Nat.le_refl _))
  have l1 : S.1 ≤ S1.1 := n1.2.2.2.1.1
  have l2 : S1.1 ≤ S2.1 := n2.2.2.2.1.1
  have l3 : S2.1 ≤ S3.1 := n3.2.2.2.1.1
  have l4' : S3.1 ≤ S4.1 := n4.2.2.2.1.1
  have f1 : frN m S5 y1 := n5.fr (n4.fr (n3.fr (n2.fr n1.own (fun z => z)) (fun w => by
    have w : y1 = d ∨ y1 = y2 := w
    omega)) (fun w => by
    have w : y1 = y3 := w
    omega)) (fun w => by
    have w : y1 = y4 := w
    omega)
  refine B_ov2 (h := h + 2) n5.1 n5.2.2.1 (by omega) f1 n5.own (by omega) (fun M6 S6 G6 y6 n6 v6 _ => ⟨_, rfl, K M6 S6 G6 y6 ?_ ?_ (fun e he => (DsN.ch n6.own.1 w1 v6 (Or.inr (fun z => Nat.noConfusion (Nat.succ.inj z))) (d := y5) (c := lp) (by simp)).tr (n6.2.2.2.1.dsn ((DsN.ch n5.own.1 w2 v5 (Or.inl (by decide)) (d := y4) (c := ab) (by simp)).tr (n5.2.2.2.1.dsn (z4 e he)))))⟩)
  · have k4 : NRx m A pn M S G M4 S4 G4 y4 (fun z => z = d) 19 4 3 := k3.tr n4 (fun _ _ _ z => z) (fun z _ z2 w => by
      have w : z = y3 := w
      have := k3.2.2.2.2.1.1
      omega)
    have k5 : NRx m A pn M S G M5 S5 G5 y5 (fun z => z = d) 20 5 4 := k4.tr n5 (fun _ _ _ z => z) (fun z _ z2 w => by
      have w : z = y4 := w
      have := k4.2.2.2.2.1.1
      omega)
    exact (k5.tr n6 (fun _ _ _ z => z) (fun z _ z2 w => by
      have w : z = y1 ∨ z = y5 := w
      have := k5.2.2.2.2.1.1
      omega)).nm (by decide)
  · refine N_seq ⟨n6.own.1.1, n6.own.1.2⟩ w1 v6 (by show 2 ≤ 2; omega) ⟨p + 1, ?_, p2 + 2, ?_, rfl⟩
    · exact n6.rp (n5.rp (n4.rp (n3.rp (n2.rp (g' := 5) (v1 cx) (Nat.le_refl _)) (Nat.le_refl _)) (Nat.le_refl _)) (Nat.le_refl _)) (by omega)
    · rw [← hp]
      exact n6.rp r5 (Nat.le_refl _)
end
end
section
/-! the reference builds: the node of a row -/
/-- the nodes of these parts -/
def PnL (pn : Nat → Int32) : List Nat → List Nat → Prop
  | [], [] => True
  | P :: Ps, d :: ds => pn P = Int32.ofNat d ∧ PnL pn Ps ds
  | [], _ :: _ => False
  | _ :: _, [] => False
/-- as NRx, but node y may be an old one -/
def BxO (m : Nat) (A : Nat → Nat → Int32) (pn : Nat → Int32) (M : Mem) (S : RBs) (G : Nat → List Nat) (M' : Mem) (S' : RBs) (G' : Nat → List Nat) (y : Nat) (H : Nat → Prop) (q ea ca : Nat) : Prop := BuM m A pn S' M' ∧ RGb m M M' ∧ RgB m S' G' ∧ FrB m S G S' G' H ∧ frN m S' y ∧ (S'.1 ≤ S.1 + q ∧ rtC m S' + ca ≤ rtC m S + ea ∧ trN m S.1 S')
section
variable {m : Nat} {A : Nat → Nat → Int32} {pn : Nat → Int32} {S S' : RBs} {G G' : Nat → List Nat} {M M' : Mem} {h : Nat} {Q : Option Value → Mem → Prop} {W : Wo} {zn fn lo hw p p' x y j g c d q n ea ca : Nat} {cx : List (Option Nat)} {H : Nat → Prop}
theorem NRx.bx (h : NRx m A pn M S G M' S' G' y H q ea ca) : BxO m A pn M S G M' S' G' y H q ea ca := ⟨h.1, h.2.1, h.2.2.1, h.2.2.2.1, h.own, h.2.2.2.2.2⟩
theorem BxO.fr (h : BxO m A pn M S G M' S' G' y H q ea ca) (hc : frN m S c) (nh : ¬ H c) : frN m S' c := by
  have q := h.2.2.2.1.2.1 c hc.1.1 hc.1.2
  have := h.2.2.2.1.1
  exact ⟨⟨hc.1.1, by have := hc.1.2; omega⟩, (q.2 nh).trans hc.2⟩
theorem BxO.rp {g' : Nat} (h : BxO m A pn M S G M' S' G' y H q ea ca) (hr : RpN W m zn fn (vwR S G) (700 * m + S.1) g cx c x p p') (hg : g ≤ g') : RpN W m zn fn (vwR S' G') (700 * m + S'.1) g' cx c x p p' := RpN.st (fun z h1 h2 => (h.2.2.2.1.2.1 z h1 h2).1) (by have := h.2.2.2.1.1; omega) _ _ _ _ _ _ _ hg hr
theorem row_loop {M0 : Mem} {S0 : RBs} {G0 : Nat → List Nat} (h4 : m < 4) : ∀ (ts : List Nat) (P : Nat) (es : List Nat) (d : Nat) (M : Mem) (S : RBs) (G : Nat → List Nat) (ds : List Nat) (H : Nat → Prop) (ca : Nat), NRx m A pn M0 S0 G0 M S G n H q ea ca → vwR S G n = (6, -1, ds) → ChA A P ts → (∀ z ∈ P :: ts, z < 160) → PnL pn (P :: ts) (d :: es) → (∀ e ∈ d :: es, frN m S e ∧ e ≠ n) → (d :: es).Nodup → (∀ M' S' G', NRx m A pn M0 S0 G0 M' S' G' n (fun z => H z ∨ z ∈ d :: es) q ea (ca + (es.length + 1)) → vwR S' G' n = (6, -1, ds ++ d :: es) → S'.1 = S.1 → (∀ z, z ≠ n → vwR S' G' z = vwR S G z) → Q (some (.int (Int32.ofNat n))) M') → T (h + 2) mdX11_rowNode 32 [(0, .ref 29), (2, .int (Int32.ofNat P)), (3, .int (Int32.ofNat n))] [] M Q := by
  intro ts
  induction ts with
  | nil =>
    intro P es d M S G ds H ca n0 v0 hch hP hpn hfr hnd K
    have hes : es = [] := by
      cases es with
      | nil => rfl
      | cons e es => exact hpn.2.elim
    subst hes
    have hB := n0.1
    have F := hB.1
    have lP : (Int32.ofNat P).toNatClampNeg = P := lt32 (by have := hP P List.mem_cons_self; omega)
    have vP : ∀ {k : Nat}, k = 160 → vp_in (Int32.ofNat P) k := fun e => by rw [e]; exact vp_of (hP P List.mem_cons_self) (by decide)
    refine VX11_rowNode_32 ?_
    unfold DX11_rowNode_32
    refine ⟨fun z => absurd z (nm32 (by have := hP P List.mem_cons_self; omega)), fun _ => ⟨ok29 F, 90, rf29_72 F, ok90 F, vP (ln90 F), ?_⟩⟩
    rw [lP, hB.2.2.2.2.2.2, hpn.1]
    obtain ⟨f1, f2⟩ := hfr d List.mem_cons_self
    refine B_ad n0 v0 f1 f2 (fun M1 S1 G1 n1 v1 fr1 e1 w1 _ => ⟨rfl, 70, rf29_50 n1.1.1, ok70 n1.1.1, vP (ln70 n1.1.1), ?_⟩)
    have e70 : mAI M1 70 P = -1 := by rw [n1.1.2.2.2.2.2.1 70 (by decide) (by decide) (by decide)]; exact hch
    rw [e70]
    refine VX11_rowNode_32 ?_
    unfold DX11_rowNode_32
    refine ⟨fun _ => K M1 S1 G1 ?_ v1 e1 w1, fun z => absurd rfl z⟩
    exact ⟨n1.1, n1.2.1, n1.2.2.1, n1.2.2.2.1.more (fun z _ _ w => by
      rcases w with w | w
      · exact Or.inl w
      · exact Or.inr (by rw [w]; exact List.mem_cons_self)), n1.2.2.2.2⟩
  | cons P2 ts ih =>
    intro P es d M S G ds H ca n0 v0 hch hP hpn hfr hnd K
    cases es with
    | nil => exact hpn.2.elim
    | cons d2 es =>
      have hB := n0.1
      have F := hB.1
      have lP : (Int32.ofNat P).toNatClampNeg = P := lt32 (by have := hP P List.mem_cons_self; omega)
      have vP : ∀ {k : Nat}, k = 160 → vp_in (Int32.ofNat P) k := fun e => by rw [e]; exact vp_of (hP P List.mem_cons_self) (by decide)
      refine VX11_rowNode_32 ?_
      unfold DX11_rowNode_32
      refine ⟨fun z => absurd z (nm32 (by have := hP P List.mem_cons_self; omega)), fun _ => ⟨ok29 F, 90, rf29_72 F, ok90 F, vP (ln90 F), ?_⟩⟩
      rw [lP, hB.2.2.2.2.2.2, hpn.1]
      obtain ⟨f1, f2⟩ := hfr d List.mem_cons_self
      refine B_ad n0 v0 f1 f2 (fun M1 S1 G1 n1 v1 fr1 e1 w1 _ => ⟨rfl, 70, rf29_50 n1.1.1, ok70 n1.1.1, vP (ln70 n1.1.1), ?_⟩)
      have e70 : mAI M1 70 P = Int32.ofNat P2 := by rw [n1.1.2.2.2.2.2.1 70 (by decide) (by decide) (by decide)]; exact hch.1
      rw [e70]
      have nd := List.nodup_cons.mp hnd
      refine ih P2 es d2 M1 S1 G1 (ds ++ [d]) _ _ n1 v1 hch.2 (fun z hz => hP z (List.mem_cons_of_mem _ hz)) hpn.2 (fun e he => ?_) nd.2 (fun M2 S2 G2 n2 v2 e2 w2 => K M2 S2 G2 ?_ ?_ (e2.trans e1) (fun z hz => (w2 z hz).trans (w1 z hz)))
      · have q := hfr e (List.mem_cons_of_mem _ he)
        exact ⟨fr1 e q.1 (fun z => nd.1 (by rw [← z]; exact he)), q.2⟩
      · refine NRx.nm (ea1 := ea) (ca1 := ca + 1 + (es.length + 1)) ⟨n2.1, n2.2.1, n2.2.2.1, n2.2.2.2.1.more (fun z _ _ w => ?_), n2.2.2.2.2⟩ (by show ea + (ca + (es.length + 1 + 1)) ≤ _; omega)
        rcases w with (w | w) | w
        · exact Or.inl w
        · exact Or.inr (by rw [w]; exact List.mem_cons_self)
        · exact Or.inr (List.mem_cons_of_mem _ w)
      · rw [v2, List.append_assoc]; rfl
/-- a row that is ready: its parts have nodes that no one has adopted, all from s0 on -/
def RowR (W : Wo) (m zn fn lo hw : Nat) (A : Nat → Nat → Int32) (pn : Nat → Int32) (S : RBs) (G : Nat → List Nat) (s0 r : Nat) (cx : List (Option Nat)) (y p p' : Nat) (ds : List Nat) : Prop := ∃ a t xs g, RwA A r a t ∧ (∀ z ∈ a :: t, z < 160) ∧ PnL pn (a :: t) ds ∧ (∀ d ∈ ds, frN m S d ∧ 700 * m + s0 ≤ d) ∧ ds.Nodup ∧ ndS (woV W) lo hw y 5 0 xs ∧ RpLs (RpN W m zn fn (vwR S G) (700 * m + S.1) g cx) ds xs p p'
theorem B_row {s0 r : Nat} {ds : List Nat} (hB : BuM m A pn S M) (hR : RgB m S G) (hf : S.1 + 1 ≤ 700) (hr : r < 100) (hw1 : RowR W m zn fn lo hw A pn S G s0 r cx x p p' ds) (hs : s0 ≤ S.1) (K : ∀ M' S' G' y g, BxO m A pn M S G M' S' G' y (fun z => z ∈ ds ∧ z ≠ y) 1 1 ds.length → (700 * m + s0 ≤ y ∧ (y ∈ ds ∨ 700 * m + S.1 ≤ y)) → RpN W m zn fn (vwR S' G') (700 * m + S'.1) g cx y x p p' → (∀ e ∈ ds.zip (chV W x), DsN W m (vwR S' G') (700 * m + S'.1) y x e.1 e.2) → Q (some (.int (Int32.ofNat y))) M') : E (h + 2) mdX11_rowNode [.ref 29, .int (Int32.ofNat r)] M Q := by
  obtain ⟨a, t, xs, g, ⟨w1, w2, w3⟩, w4, w5, w6, w7, w8, w9⟩ := hw1
  obtain ⟨F, h4, b2, b3, b4, b5, b6⟩ := id hB
  have lr : (Int32.ofNat r).toNatClampNeg = r := lt32 (by omega)
  have ha := w4 a List.mem_cons_self
  have la : (Int32.ofNat a).toNatClampNeg = a := lt32 (by omega)
  have va : ∀ {k : Nat}, k = 160 → vp_in (Int32.ofNat a) k := fun e => by rw [e]; exact vp_of ha (by decide)
  have e73 : mAI M 73 r = Int32.ofNat a := by rw [b5 73 (by decide) (by decide) (by decide)]; exact w1
  have e70 : mAI M 70 a = A 70 a := by rw [b5 70 (by decide) (by decide) (by decide)]
  refine KX11_rowNode ?_
  unfold DX11_rowNode_0
  rw [lr]
  refine ⟨ok29 F, 73, rf29_54 F, ok73 F, by rw [ln73 F]; exact vp_of hr (by decide), 70, rf29_50 F, ok70 F, by rw [e73]; exact va (ln70 F), ?_⟩
  rw [e73, la, e70]
  cases t with
  | nil =>
    have w3 : A 70 a = -1 := w3
    refine ⟨fun z => absurd w3 z, fun _ => ⟨90, rf29_72 F, ok90 F, va (ln90 F), ?_⟩⟩
    cases ds with
    | nil => exact w5.elim
    | cons d ds =>
      cases ds with
      | cons e es => exact w5.2.elim
      | nil =>
        rw [b6, w5.1]
        obtain ⟨f1, f2⟩ := w6 d List.mem_cons_self
        cases xs with
        | nil => exact w9.elim
        | cons x1 xs =>
          obtain ⟨pm, r1, r2⟩ := w9
          cases xs with
          | cons _ _ => exact r2.elim
          | nil =>
            have r2 : p' = pm := r2
            subst r2
            exact K M S G d (g + 1) ⟨hB, RG.rf, hR, FrB.rf, f1, Nat.le_succ _, Nat.le_refl _, fun z z1 z2 _ => absurd z1 (by omega)⟩ ⟨f2, Or.inl List.mem_cons_self⟩ (N_se1 w8 r1) (fun e he => by
              have ec : chV W x = [x1] := w8.2.2.2
              rw [ec] at he
              have he : e = (d, x1) := List.mem_singleton.mp he
              rw [he]
              exact DsN.o1 f1.1 w8)
  | cons a2 t =>
    have w3 : A 70 a = Int32.ofNat a2 ∧ ChA A a2 t := w3
    have ne : A 70 a ≠ -1 := by rw [w3.1]; exact nm32 (by have := w4 a2 (by simp); omega)
    refine ⟨fun _ => B_nd hB hR (by omega) (fun M1 S1 G1 n n1 v1 _ => ⟨_, rfl, ?_⟩), fun z => absurd z ne⟩
    have nb := n1.2.2.2.2.1
    cases ds with
    | nil => exact w5.elim
    | cons d ds =>
      refine row_loop (h := h) h4 (a2 :: t) a ds d M1 S1 G1 [] noN 0 n1 v1 w3 w4 w5 (fun e he => ?_) w7 (fun M2 S2 G2 n2 v2 e2 k2 => K M2 S2 G2 n (g + 1) ?_ ⟨by omega, Or.inr nb.1⟩ ?_ (fun e he => by
        have ec : chV W x = xs := w8.2.2.2
        rw [ec] at he
        refine DsN.ch n2.own.1 w8 v2 (Or.inr ?_) he
        have ll := RpLs.ln _ _ _ _ w9
        cases ds with
        | nil => exact w5.2.elim
        | cons e es => rw [← ll]; simp))
      · obtain ⟨f1, f2⟩ := w6 e he
        exact ⟨n1.fr f1 (fun z => z), by have := f1.1.2; omega⟩
      · refine ⟨n2.1, n2.2.1, n2.2.2.1, n2.2.2.2.1.more (fun z _ z2 w => ?_), n2.own, n2.2.2.2.2.2.1, by have := n2.2.2.2.2.2.2.1; show _ + (ds.length + 1) ≤ _; omega, n2.2.2.2.2.2.2.2⟩
        rcases w with w | w
        · exact w.elim
        · exact ⟨w, by omega⟩
      · refine N_seq ⟨n2.own.1.1, n2.own.1.2⟩ w8 v2 ?_ (RpLs.imp (fun _ _ _ _ k => n2.rp k (Nat.le_refl _)) _ _ _ _ w9)
        cases ds with
        | nil => exact w5.2.elim
        | cons e es => show 2 ≤ (e :: es).length + 1; simp
end
end
section
/-! the reference builds: parts without rows -/
theorem so_in {k : Int32} (h : soK k ≠ 99) : k = 37 ∨ k = 38 ∨ k = 39 ∨ k = 40 ∨ k = 41 ∨ k = 42 ∨ k = 44 ∨ k = 47 ∨ k = 49 ∨ k = 50 ∨ k = 52 ∨ k = 53 ∨ k = 55 ∨ k = 57 ∨ k = 58 ∨ k = 2 ∨ k = 17 := by
  by_cases h0 : k = 37
  · exact Or.inl h0
  by_cases h1 : k = 38
  · exact Or.inr (Or.inl h1)
  by_cases h2 : k = 39
  · exact Or.inr (Or.inr (Or.inl h2))
  by_cases h3 : k = 40
  · exact Or.inr (Or.inr (Or.inr (Or.inl h3)))
  by_cases h4 : k = 41
  · exact Or.inr (Or.inr (Or.inr (Or.inr (Or.inl h4))))
  by_cases h5 : k = 42
  · exact Or.inr (Or.inr (Or.inr (Or.inr (Or.inr (Or.inl h5)))))
  by_cases h6 : k = 44
  · exact Or.inr (Or.inr (Or.inr (Or.inr (Or.inr (Or.inr (Or.inl h6))))))
  by_cases h7 : k = 47
  · exact Or.inr (Or.inr (Or.inr (Or.inr (Or.inr (Or.inr (Or.inr (Or.inl h7)))))))
  by_cases h8 : k = 49
  · exact Or.inr (Or.inr (Or.inr (Or.inr (Or.inr (Or.inr (Or.inr (Or.inr (Or.inl h8))))))))
  by_cases h9 : k = 50
  · exact Or.inr (Or.inr (Or.inr (Or.inr (Or.inr (Or.inr (Or.inr (Or.inr (Or.inr (Or.inl h9)))))))))
  by_cases h10 : k = 52
  · exact Or.inr (Or.inr (Or.inr (Or.inr (Or.inr (Or.inr (Or.inr (Or.inr (Or.inr (Or.inr (Or.inl h10))))))))))
  by_cases h11 : k = 53
  · exact Or.inr (Or.inr (Or.inr (Or.inr (Or.inr (Or.inr (Or.inr (Or.inr (Or.inr (Or.inr (Or.inr (Or.inl h11)))))))))))
  by_cases h12 : k = 55
  · exact Or.inr (Or.inr (Or.inr (Or.inr (Or.inr (Or.inr (Or.inr (Or.inr (Or.inr (Or.inr (Or.inr (Or.inr (Or.inl h12))))))))))))
  by_cases h13 : k = 57
  · exact Or.inr (Or.inr (Or.inr (Or.inr (Or.inr (Or.inr (Or.inr (Or.inr (Or.inr (Or.inr (Or.inr (Or.inr (Or.inr (Or.inl h13)))))))))))))
  by_cases h14 : k = 58
  · exact Or.inr (Or.inr (Or.inr (Or.inr (Or.inr (Or.inr (Or.inr (Or.inr (Or.inr (Or.inr (Or.inr (Or.inr (Or.inr (Or.inr (Or.inl h14))))))))))))))
  by_cases h15 : k = 2
  · exact Or.inr (Or.inr (Or.inr (Or.inr (Or.inr (Or.inr (Or.inr (Or.inr (Or.inr (Or.inr (Or.inr (Or.inr (Or.inr (Or.inr (Or.inr (Or.inl h15)))))))))))))))
  by_cases h16 : k = 17
  · exact Or.inr (Or.inr (Or.inr (Or.inr (Or.inr (Or.inr (Or.inr (Or.inr (Or.inr (Or.inr (Or.inr (Or.inr (Or.inr (Or.inr (Or.inr (Or.inr (h16))))))))))))))))
  exact absurd (by unfold soK; rw [if_neg h0, if_neg h1, if_neg h2, if_neg h3, if_neg h4, if_neg h5, if_neg h6, if_neg h7, if_neg h8, if_neg h9, if_neg h10, if_neg h11, if_neg h12, if_neg h13, if_neg h14, if_neg h15, if_neg h16]) h
/-- the traps around, from within: named ones by their part -/
def cxK : List KE → List (Option Nat)
  | [] => []
  | e :: K => match e.2.2.2 with
    | none => cxK K
    | some c => (if c = 0 then none else some e.1) :: cxK K
theorem cxK_n {e : KE} {K : List KE} (h : e.2.2.2 = none) : cxK (e :: K) = cxK K := by simp only [cxK, h]
theorem cxK_s {e : KE} {K : List KE} {c : Int64} (h : e.2.2.2 = some c) : cxK (e :: K) = (if c = 0 then none else some e.1) :: cxK K := by simp only [cxK, h]
theorem trX_cx : ∀ (K : List KE) (v x : Nat), trX K v x → (cxK K)[v]? = some (some x)
  | [], _, _, h => h.elim
  | e :: K, v, x, h => by
    unfold trX at h
    cases he : e.2.2.2 with
    | none =>
      rw [he] at h
      rw [cxK_n he]
      exact trX_cx K v x h
    | some c =>
      rw [he] at h
      rw [cxK_s he]
      rcases h with ⟨h1, h2, h3⟩ | ⟨w, h1, h2⟩
      · rw [h1, if_neg h3, h2]; rfl
      · rw [h1]
        show (cxK K)[w]? = _
        exact trX_cx K w x h2
section
variable {m : Nat} {A : Nat → Nat → Int32} {pn : Nat → Int32} {S S1 S2 : RBs} {G G1 G2 : Nat → List Nat} {M M1 M2 : Mem} {h : Nat} {Q : Option Value → Mem → Prop} {W : Wo} {zn fn lo hw p p' pb x y j g d q1 q2 s0 ea ca ea1 ca1 ea2 ca2 : Nat} {cx : List (Option Nat)} {H H1 H2 : Nat → Prop} {k : Int32} {K : List KE}
theorem BxO.nr (h : BxO m A pn M S G M1 S1 G1 d H1 q1 ea1 ca1) (n : NRx m A pn M1 S1 G1 M2 S2 G2 y H2 q2 ea2 ca2) (h1 : ∀ z, 700 * m ≤ z → z < 700 * m + S.1 → H1 z → H z) (h2 : ∀ z, 700 * m ≤ z → z < 700 * m + S.1 → H2 z → H z) : NRx m A pn M S G M2 S2 G2 y H (q1 + q2) (ea1 + ea2) (ca1 + ca2) := by
  obtain ⟨a1, a2, a3, a4, a5, a6⟩ := h
  obtain ⟨b1, b2, b3, b4, ⟨b5, b6, b7⟩, b8⟩ := n
  have := a4.1
  exact ⟨b1, a2.tr b2, b3, (a4.more h1).tr b4 h2, ⟨by omega, b6, b7⟩, by have := a6.1; have := b8.1; omega, by have := a6.2.1; have := b8.2.1; omega, a6.2.2.tr b4 b8.2.2⟩
/-- as NRx, but y itself may be the trap of part P -/
def NRy (m : Nat) (A : Nat → Nat → Int32) (pn : Nat → Int32) (M : Mem) (S : RBs) (G : Nat → List Nat) (M' : Mem) (S' : RBs) (G' : Nat → List Nat) (y : Nat) (H : Nat → Prop) (q ea ca P : Nat) : Prop := BuM m A pn S' M' ∧ RGb m M M' ∧ RgB m S' G' ∧ FrB m S G S' G' H ∧ (700 * m + S.1 ≤ y ∧ y < 700 * m + S'.1 ∧ S'.2 86 y = -1) ∧ (S'.1 ≤ S.1 + q ∧ rtC m S' + ca ≤ rtC m S + ea) ∧ ∀ z, 700 * m + S.1 ≤ z → z < 700 * m + S'.1 → S'.2 80 z = 10 → S'.2 81 z = -1 ∨ (z = y ∧ S'.2 81 z = Int32.ofNat P)
theorem NRx.ny {P : Nat} (h : NRx m A pn M S G M1 S1 G1 y H q1 ea ca) : NRy m A pn M S G M1 S1 G1 y H q1 ea ca P := ⟨h.1, h.2.1, h.2.2.1, h.2.2.2.1, h.2.2.2.2.1, ⟨h.2.2.2.2.2.1, h.2.2.2.2.2.2.1⟩, fun z z1 z2 z3 => Or.inl (h.2.2.2.2.2.2.2 z z1 z2 z3)⟩
theorem NRy.own {P : Nat} (h : NRy m A pn M S G M1 S1 G1 y H q1 ea ca P) : frN m S1 y := ⟨⟨by have := h.2.2.2.2.1.1; omega, h.2.2.2.2.1.2.1⟩, h.2.2.2.2.1.2.2⟩
theorem NRy.rp {P g g' p p' x c : Nat} (h : NRy m A pn M S G M1 S1 G1 y H q1 ea ca P) (hr : RpN W m zn fn (vwR S G) (700 * m + S.1) g cx c x p p') (hg : g ≤ g') : RpN W m zn fn (vwR S1 G1) (700 * m + S1.1) g' cx c x p p' := RpN.st (fun z h1 h2 => (h.2.2.2.1.2.1 z h1 h2).1) (by have := h.2.2.2.1.1; omega) _ _ _ _ _ _ _ hg hr
/-- what making a part's node must lead to -/
def KpN (W : Wo) (m zn fn : Nat) (A : Nat → Nat → Int32) (pn : Nat → Int32) (M : Mem) (S : RBs) (G : Nat → List Nat) (s0 : Nat) (cx : List (Option Nat)) (x p p' q nc P : Nat) (Q : Option Value → Mem → Prop) : Prop := ∀ M' S' G' y g, NRy m A pn M S G M' S' G' y (fun z => 700 * m + s0 ≤ z) q 1 nc P → RpN W m zn fn (vwR S' G') (700 * m + S'.1) g cx y x p p' → Q (some (.int (Int32.ofNat y))) M'
def KpZ (W : Wo) (m zn fn : Nat) (A : Nat → Nat → Int32) (pn : Nat → Int32) (M : Mem) (S : RBs) (G : Nat → List Nat) (s0 : Nat) (cx : List (Option Nat)) (x p p' q nc P : Nat) (Z : List (Nat × Nat)) (Q : Option Value → Mem → Prop) : Prop := ∀ M' S' G' y g, NRy m A pn M S G M' S' G' y (fun z => 700 * m + s0 ≤ z) q 1 nc P → RpN W m zn fn (vwR S' G') (700 * m + S'.1) g cx y x p p' → (∀ e ∈ Z, DsN W m (vwR S' G') (700 * m + S'.1) y x e.1 e.2) → Q (some (.int (Int32.ofNat y))) M'
theorem KpZ.kn (C : KpZ W m zn fn A pn M S G s0 cx x p p' q1 ca j [] Q) : KpN W m zn fn A pn M S G s0 cx x p p' q1 ca j Q := fun M' S' G' y g n r => C M' S' G' y g n r (fun e he => absurd he (List.not_mem_nil))
theorem NRx.hs {M0 M' : Mem} {S0 S' : RBs} {G0 G' : Nat → List Nat} {q : Nat} (h : NRx m A pn M0 S0 G0 M' S' G' y noN q ea ca) : NRx m A pn M0 S0 G0 M' S' G' y (fun z => 700 * m + s0 ≤ z) q ea ca := ⟨h.1, h.2.1, h.2.2.1, h.2.2.2.1.more (fun _ _ _ z => z.elim), h.2.2.2.2⟩
theorem B_lf (hA : woA W = A) (hB : BuM m A pn S M) (hR : RgB m S G) (hf : S.1 + (2 + 11 * paK k) ≤ 700) (hj : j < 40) (e58 : A 58 (40 * m + j) = Int32.ofNat (soK k)) (hk : soK k ≠ 99) (ho : opnK k = false) (e69 : A 69 (40 * m + j) = -1) (hs : PkS W m zn fn lo hw k K j p p x []) (C : KpN W m zn fn A pn M S G s0 (cxK K) x p (p + paK k) (2 + 11 * paK k) 0 (40 * m + j) Q) : E (h + 6) mdX11_nodeOf [.ref 29, .int (Int32.ofNat (40 * m + j))] M Q := by
  obtain ⟨F, h4, b2, b3, b4, b5, b6⟩ := id hB
  have l40 := lt40 h4 hj
  have v40 : ∀ {M : Mem} {c : Nat}, mL M c = 160 → vp_in (Int32.ofNat (40 * m + j)) (mL M c) := fun e => ix40 h4 hj e
  have m69 : mAI M 69 (40 * m + j) = -1 := by rw [b5 69 (by decide) (by decide) (by decide)]; exact e69
  have m58 : mAI M 58 (40 * m + j) = Int32.ofNat (soK k) := by rw [b5 58 (by decide) (by decide) (by decide)]; exact e58
  refine KX11_nodeOf ?_
  unfold DX11_nodeOf_0
  rw [l40]
  refine ⟨ok29 F, 69, rf29_49 F, ok69 F, v40 (ln69 F), ?_⟩
  rw [m69]
  refine ⟨fun z => absurd rfl z, fun _ => ?_⟩
  unfold DX11_nodeOf_24
  rw [l40]
  refine ⟨ok29 F, 58, rf29_38 F, ok58 F, v40 (ln58 F), ?_⟩
  rw [m58]
  unfold PkS at hs
  rcases so_in hk with e | e | e | e | e | e | e | e | e | e | e | e | e | e | e | e | e
  · subst e
    rw [if_neg (by decide), if_neg (by decide), if_neg (by decide), if_neg (by decide), if_neg (by decide), if_neg (by decide), if_neg (by decide), if_neg (by decide), if_neg (by decide), if_neg (by decide), if_neg (by decide), if_neg (by decide), if_neg (by decide), if_neg (by decide), if_neg (by decide)] at hs
    have e1 : Int32.ofNat (soK 37) = 0 := by decide
    rw [e1]
    refine ⟨fun z => absurd z (by decide), fun z => absurd z (by decide), fun z => absurd z (by decide), fun z => absurd z (by decide), fun z => absurd z (by decide), fun z => absurd z (by decide), fun z => absurd z (by decide), fun z => absurd z (by decide), fun z => absurd z (by decide), fun z => absurd z (by decide), fun z => absurd z (by decide), fun z => absurd z (by decide), fun z => absurd z (by decide), fun z => absurd z (by decide), fun z => absurd z (by decide), fun z => absurd z (by decide), fun _ => B_nd (h := h + 4) hB hR (by omega) (fun M1 S1 G1 y1 n1 v1 _ => ⟨_, rfl, C M1 S1 G1 y1 1 (NRx.ny (n1.hs.mo (by decide))) (N_no ⟨n1.own.1.1, n1.own.1.2⟩ hs.1 v1)⟩)⟩
  · subst e
    rw [if_pos rfl] at hs
    have e1 : Int32.ofNat (soK 38) = 1 := by decide
    rw [e1]
    refine ⟨fun _ => B_nd (h := h + 4) hB hR (by omega) (fun M1 S1 G1 y1 n1 v1 _ => ⟨_, rfl, C M1 S1 G1 y1 1 (NRx.ny (n1.hs.mo (by decide))) (N_pa ⟨n1.own.1.1, n1.own.1.2⟩ hs.1 v1)⟩), fun z => absurd z (by decide), fun z => absurd z (by decide), fun z => absurd z (by decide), fun z => absurd z (by decide), fun z => absurd z (by decide), fun z => absurd z (by decide), fun z => absurd z (by decide), fun z => absurd z (by decide), fun z => absurd z (by decide), fun z => absurd z (by decide), fun z => absurd z (by decide), fun z => absurd z (by decide), fun z => absurd z (by decide), fun z => absurd z (by decide), fun z => absurd z (by decide), fun z => absurd z (by decide)⟩
  · subst e
    rw [if_neg (by decide), if_pos rfl] at hs
    have e1 : Int32.ofNat (soK 39) = 2 := by decide
    rw [e1]
    refine ⟨fun z => absurd z (by decide), fun _ => B_halt (h := h + 2) (zn := zn) (fn := fn) hB hR (by have pk : paK 39 = 1 := (by decide); omega) hs.1 (fun M1 S1 G1 y1 n1 v1 _ => ⟨_, rfl, C M1 S1 G1 y1 2 (NRx.ny (n1.hs.mo (by decide))) (v1 _)⟩), fun z => absurd z (by decide), fun z => absurd z (by decide), fun z => absurd z (by decide), fun z => absurd z (by decide), fun z => absurd z (by decide), fun z => absurd z (by decide), fun z => absurd z (by decide), fun z => absurd z (by decide), fun z => absurd z (by decide), fun z => absurd z (by decide), fun z => absurd z (by decide), fun z => absurd z (by decide), fun z => absurd z (by decide), fun z => absurd z (by decide), fun z => absurd z (by decide)⟩
  · subst e
    rw [if_neg (by decide), if_neg (by decide), if_pos rfl] at hs
    have e1 : Int32.ofNat (soK 40) = 3 := by decide
    rw [e1]
    obtain ⟨⟨w, w1, w2⟩, -⟩ := hs
    refine ⟨fun z => absurd z (by decide), fun z => absurd z (by decide), fun _ => B_nd (h := h + 4) hB hR (by omega) (fun M1 S1 G1 y1 n1 v1 _ => ⟨_, rfl, C M1 S1 G1 y1 1 (NRx.ny (n1.hs.mo (by decide))) (N_em ⟨n1.own.1.1, n1.own.1.2⟩ w2 hj w1 v1)⟩), fun z => absurd z (by decide), fun z => absurd z (by decide), fun z => absurd z (by decide), fun z => absurd z (by decide), fun z => absurd z (by decide), fun z => absurd z (by decide), fun z => absurd z (by decide), fun z => absurd z (by decide), fun z => absurd z (by decide), fun z => absurd z (by decide), fun z => absurd z (by decide), fun z => absurd z (by decide), fun z => absurd z (by decide), fun z => absurd z (by decide)⟩
  · subst e
    rw [if_neg (by decide), if_neg (by decide), if_neg (by decide), if_pos rfl] at hs
    have e1 : Int32.ofNat (soK 41) = 4 := by decide
    rw [e1]
    obtain ⟨⟨w, w1, sq, em, pa, w2, w3, w4, w5⟩, -⟩ := hs
    have pk : paK 41 = 1 := by decide
    refine ⟨fun z => absurd z (by decide), fun z => absurd z (by decide), fun z => absurd z (by decide), fun _ => B_nd (h := h + 4) hB hR (by omega) (fun M1 S1 G1 y1 n1 v1 _ => ⟨_, rfl, ?_⟩), fun z => absurd z (by decide), fun z => absurd z (by decide), fun z => absurd z (by decide), fun z => absurd z (by decide), fun z => absurd z (by decide), fun z => absurd z (by decide), fun z => absurd z (by decide), fun z => absurd z (by decide), fun z => absurd z (by decide), fun z => absurd z (by decide), fun z => absurd z (by decide), fun z => absurd z (by decide), fun z => absurd z (by decide)⟩
    have s1 := n1.2.2.2.2.2
    have b1 := n1.2.2.2.2.1
    refine B_nd (h := h + 4) n1.1 n1.2.2.1 (by omega) (fun M2 S2 G2 y2 n2 v2 _ => ⟨_, rfl, ?_⟩)
    have s2 := n2.2.2.2.2.2
    have b2' := n2.2.2.2.2.1
    refine B_ov2 (h := h + 3) n2.1 n2.2.2.1 (by omega) (n2.fr n1.own (fun z => z)) n2.own (by omega) (fun M3 S3 G3 y3 n3 v3 _ => ⟨_, rfl, ?_⟩)
    have s3 := n3.2.2.2.2.2
    have b3' := n3.2.2.2.2.1
    refine B_ov1 (h := h + 3) n3.1 n3.2.2.1 (by omega) n3.own (fun M4 S4 G4 y4 n4 v4 _ => ⟨_, rfl, C M4 S4 G4 y4 3 ?_ ?_⟩)
    · have k2 : NRx m A pn M S G M2 S2 G2 y2 noN 2 2 0 := n1.tr n2 (fun _ _ _ z => z) (fun _ _ _ z => z)
      have k3 : NRx m A pn M S G M3 S3 G3 y3 noN 3 3 2 := k2.tr n3 (fun _ _ _ z => z) (fun z _ z2 w => by
        have w : z = y1 ∨ z = y2 := w
        have := k2.2.2.2.2.1.1
        omega)
      have k4 : NRx m A pn M S G M4 S4 G4 y4 noN 4 4 3 := k3.tr n4 (fun _ _ _ z => z) (fun z _ z2 w => by
        have w : z = y3 := w
        have := k3.2.2.2.2.1.1
        omega)
      exact NRx.ny ((k4.hs.mo (by decide)).nm (by decide))
    · refine N_lo ⟨n4.own.1.1, n4.own.1.2⟩ w2 v4 (n4.rp (g := 2) (N_seq (g := 1) ⟨n3.own.1.1, n3.own.1.2⟩ w3 v3 (by show 2 ≤ 2; omega) ⟨p, ?_, p + 1, ?_, rfl⟩) (Nat.le_refl _))
      · exact n3.rp (n2.rp (g' := 1) (N_em (g := 0) ⟨n1.own.1.1, n1.own.1.2⟩ w4 hj (by rw [hA]; rw [hA] at w1; exact w1) v1) (Nat.le_refl _)) (Nat.le_refl _)
      · exact n3.rp (N_pa (g := 0) ⟨n2.own.1.1, n2.own.1.2⟩ w5 v2) (Nat.le_refl _)
  · rw [e] at ho; exact absurd ho (by decide)
  · rw [e] at ho; exact absurd ho (by decide)
  · subst e
    rw [if_neg (by decide), if_neg (by decide), if_neg (by decide), if_neg (by decide), if_pos rfl] at hs
    have e1 : Int32.ofNat (soK 47) = 7 := by decide
    rw [e1]
    obtain ⟨⟨l, im, w1, w2, w3⟩, -⟩ := hs
    have pk : paK 47 = 1 := by decide
    have m61 : mAI M 61 (40 * m + j) = bI im := by rw [b5 61 (by decide) (by decide) (by decide), ← hA]; exact w2
    refine ⟨fun z => absurd z (by decide), fun z => absurd z (by decide), fun z => absurd z (by decide), fun z => absurd z (by decide), fun z => absurd z (by decide), fun z => absurd z (by decide), fun _ => ⟨61, rf29_41 F, ok61 F, v40 (ln61 F), ?_⟩, fun z => absurd z (by decide), fun z => absurd z (by decide), fun z => absurd z (by decide), fun z => absurd z (by decide), fun z => absurd z (by decide), fun z => absurd z (by decide), fun z => absurd z (by decide), fun z => absurd z (by decide), fun z => absurd z (by decide), fun z => absurd z (by decide)⟩
    rw [m61]
    exact B_await (h := h + 1) (fn := fn) hB hR (by omega) hj w3 w1 (fun M1 S1 G1 y1 n1 v1 _ => ⟨_, rfl, C M1 S1 G1 y1 5 (NRx.ny (n1.hs.mo (by decide))) (v1 _)⟩)
  · rw [e] at ho; exact absurd ho (by decide)
  · rw [e] at ho; exact absurd ho (by decide)
  · rw [e] at ho; exact absurd ho (by decide)
  · rw [e] at ho; exact absurd ho (by decide)
  · rw [e] at ho; exact absurd ho (by decide)
  · subst e
    rw [if_neg (by decide), if_neg (by decide), if_neg (by decide), if_neg (by decide), if_neg (by decide), if_pos rfl] at hs
    have e1 : Int32.ofNat (soK 57) = 13 := by decide
    rw [e1]
    obtain ⟨⟨w, e2, w0, w1, w2, w3⟩, -⟩ := hs
    refine ⟨fun z => absurd z (by decide), fun z => absurd z (by decide), fun z => absurd z (by decide), fun z => absurd z (by decide), fun z => absurd z (by decide), fun z => absurd z (by decide), fun z => absurd z (by decide), fun z => absurd z (by decide), fun z => absurd z (by decide), fun z => absurd z (by decide), fun z => absurd z (by decide), fun z => absurd z (by decide), fun _ => B_nd (h := h + 4) hB hR (by omega) (fun M1 S1 G1 y1 n1 v1 _ => ⟨_, rfl, C M1 S1 G1 y1 1 (NRx.ny (n1.hs.mo (by decide))) (N_ex w0 ⟨n1.own.1.1, n1.own.1.2⟩ w3 hj w1 (trX_cx K w e2 w2) v1)⟩), fun z => absurd z (by decide), fun z => absurd z (by decide), fun z => absurd z (by decide), fun z => absurd z (by decide)⟩
  · rw [e] at ho; exact absurd ho (by decide)
  · subst e
    rw [if_neg (by decide), if_neg (by decide), if_neg (by decide), if_neg (by decide), if_neg (by decide), if_neg (by decide), if_neg (by decide), if_neg (by decide), if_neg (by decide), if_neg (by decide), if_neg (by decide), if_neg (by decide), if_neg (by decide), if_neg (by decide), if_neg (by decide)] at hs
    have e1 : Int32.ofNat (soK 2) = 15 := by decide
    rw [e1]
    refine ⟨fun z => absurd z (by decide), fun z => absurd z (by decide), fun z => absurd z (by decide), fun z => absurd z (by decide), fun z => absurd z (by decide), fun z => absurd z (by decide), fun z => absurd z (by decide), fun z => absurd z (by decide), fun z => absurd z (by decide), fun z => absurd z (by decide), fun z => absurd z (by decide), fun z => absurd z (by decide), fun z => absurd z (by decide), fun z => absurd z (by decide), fun _ => B_nd (h := h + 4) hB hR (by omega) (fun M1 S1 G1 y1 n1 v1 _ => ⟨_, rfl, C M1 S1 G1 y1 1 (NRx.ny (n1.hs.mo (by decide))) (N_no ⟨n1.own.1.1, n1.own.1.2⟩ hs.1 v1)⟩), fun z => absurd z (by decide), fun z => absurd z (by decide)⟩
  · rw [e] at ho; exact absurd ho (by decide)
end
end
section
/-! the reference builds: parts with one row -/
section
variable {m : Nat} {A : Nat → Nat → Int32} {pn : Nat → Int32} {S S1 S2 : RBs} {G G1 G2 : Nat → List Nat} {M M1 M2 : Mem} {h : Nat} {Q : Option Value → Mem → Prop} {W : Wo} {zn fn lo hw p p' pb pr x y j g d q1 q2 s0 r ea1 ca1 ea2 ca2 : Nat} {cx : List (Option Nat)} {H H1 H2 : Nat → Prop} {k : Int32} {K : List KE} {ds : List Nat}
theorem RpN.mo {u : Vwr} {hi g' : Nat} (hr : RpN W m zn fn u hi g cx d x p p') (hg : g ≤ g') : RpN W m zn fn u hi g' cx d x p p' := RpN.st (fun _ _ _ => rfl) (Nat.le_refl _) _ _ _ _ _ _ _ hg hr
theorem RowR.ge (hw1 : RowR W m zn fn lo hw A pn S G s0 r cx y p p' ds) : ∀ z ∈ ds, 700 * m + s0 ≤ z := by
  obtain ⟨a, t, xs, g, -, -, -, w, -⟩ := hw1
  exact fun z hz => (w z hz).2
/-- the first row's node, then the rest -/
theorem B_hd (hB : BuM m A pn S M) (hR : RgB m S G) (hf : S.1 + 1 ≤ 700) (hj : j < 40) (hr : r < 100) (e69 : A 69 (40 * m + j) = Int32.ofNat r) (hw1 : RowR W m zn fn lo hw A pn S G s0 r cx y pr pb ds) (hs : s0 ≤ S.1) (C : ∀ M1 S1 G1 d g, BxO m A pn M S G M1 S1 G1 d (fun z => z ∈ ds ∧ z ≠ d) 1 1 ds.length → (700 * m + s0 ≤ d ∧ (d ∈ ds ∨ 700 * m + S.1 ≤ d)) → RpN W m zn fn (vwR S1 G1) (700 * m + S1.1) g cx d y pr pb → (∀ e ∈ ds.zip (chV W y), DsN W m (vwR S1 G1) (700 * m + S1.1) d y e.1 e.2) → DX11_nodeOf_24 (h + 5) 29 (Int32.ofNat (40 * m + j)) (Int32.ofNat d) M1 Q) : E (h + 6) mdX11_nodeOf [.ref 29, .int (Int32.ofNat (40 * m + j))] M Q := by
  obtain ⟨F, h4, b2, b3, b4, b5, b6⟩ := id hB
  have l40 := lt40 h4 hj
  have m69 : mAI M 69 (40 * m + j) = Int32.ofNat r := by rw [b5 69 (by decide) (by decide) (by decide)]; exact e69
  refine KX11_nodeOf ?_
  unfold DX11_nodeOf_0
  rw [l40]
  refine ⟨ok29 F, 69, rf29_49 F, ok69 F, ix40 h4 hj (ln69 F), ?_⟩
  rw [m69]
  refine ⟨fun _ => ⟨69, rf29_49 F, ok69 F, ix40 h4 hj (ln69 F), ?_⟩, fun z => absurd z (nm32 (by omega))⟩
  rw [m69]
  exact B_row (h := h + 3) hB hR hf hr hw1 hs (fun M1 S1 G1 d g b1 c1 r1 z1 _ => ⟨_, rfl, C M1 S1 G1 d g b1 c1 r1 z1⟩)
/-- row and operation together -/
theorem row_op (hw1 : RowR W m zn fn lo hw A pn S G s0 r cx y pr pb ds) (b1 : BxO m A pn M S G M1 S1 G1 d (fun z => z ∈ ds ∧ z ≠ d) q1 ea1 ca1) (hd : 700 * m + s0 ≤ d) (n2 : NRx m A pn M1 S1 G1 M2 S2 G2 x H q2 ea2 ca2) (hH : ∀ z, z < 700 * m + S.1 → H z → 700 * m + s0 ≤ z) : NRx m A pn M S G M2 S2 G2 x (fun z => 700 * m + s0 ≤ z) (q1 + q2) (ea1 + ea2) (ca1 + ca2) := b1.nr n2 (fun z _ _ w => hw1.ge z w.1) (fun z _ z2 w => hH z z2 w)
/-- a trap with a name -/
theorem B_ov1n {P c : Nat} (hB : BuM m A pn S M) (hR : RgB m S G) (hf : S.1 < 700) (hc : frN m S c) (C : ∀ M' S' G' y, NRy m A pn M S G M' S' G' y (fun z => z = c) 1 1 1 P → vwR S' G' y = (10, Int32.ofNat P, [c]) → Q (some (.int (Int32.ofNat y))) M') : E (h + 2) mdX11_over [.ref 29, .int 10, .int (Int32.ofNat P), .int (Int32.ofNat c), .int (-1)] M Q := by
  refine KX11_over ?_
  unfold DX11_over_0 DX11_over_29
  obtain ⟨r1, r2, r3, r4⟩ := hR.new (so := 10) (pt := Int32.ofNat P) (H := noN) hf
  refine ⟨ok29 hB.1, B_node hB hf (fun M1 s1 g1 _ => ⟨_, rfl, ?_⟩)⟩
  have h4 := hB.2.1
  have hcf : frN m (nBf m 10 (Int32.ofNat P) S) c := ⟨⟨hc.1.1, by have := hc.1.2; show c < 700 * m + (S.1 + 1); omega⟩, ((r2.2.1 c hc.1.1 hc.1.2).2 (fun z => z)).trans hc.2⟩
  have hpr : 700 * m ≤ 700 * m + S.1 ∧ 700 * m + S.1 < 700 * m + (nBf m 10 (Int32.ofNat P) S).1 := ⟨by omega, by show _ < 700 * m + (S.1 + 1); omega⟩
  have hne : c ≠ 700 * m + S.1 := by have := hc.1.2; omega
  obtain ⟨q1, q2, q3, q4⟩ := r1.ad hpr hcf.1 hcf.2 r4 hne
  obtain ⟨⟨l1, l2, -⟩, -, -⟩ := r1.2.1 _ hpr.1 hpr.2
  have e82 : (nBf m 10 (Int32.ofNat P) S).2 82 (700 * m + S.1) = -1 := by rw [l1, va_up_self]; rfl
  refine B_adopt s1 ⟨hpr.1, by omega⟩ ⟨hc.1.1, by have := hc.1.2; omega⟩ (fun z => absurd e82 z) (fun M2 s2 g2 _ => ⟨rfl, fun _ => C M2 _ _ _ ⟨s2, g1.tr g2, q1, ⟨Nat.le_succ _, fun z z1 z2 => ⟨?_, fun n => ?_⟩, fun hz z z1 z2 => by
    show aBf (700 * m + S.1) c (nBf m 10 (Int32.ofNat P) S).2 87 z = 0
    rw [(aBf_is (l := []) (by rw [l1, va_up_self]) (by rw [l2, va_up_self]) (fun d hd => absurd hd (List.not_mem_nil))).1 87 z (by decide) (by decide) (by decide) (by decide) (by decide)]
    exact r2.2.2 hz z z1 z2⟩, ⟨Nat.le_refl _, hpr.2, (q3 _ (fun z => hne z.symm)).trans r4⟩, ⟨Nat.le_refl _, ?_⟩, fun z z1 z2 z3 => Or.inr ?_⟩ ?_, fun z => absurd rfl z⟩)
  · rw [← (r2.2.1 z z1 z2).1]
    show (aBf (700 * m + S.1) c _ 80 z, aBf (700 * m + S.1) c _ 81 z, va_up _ (700 * m + S.1) _ z) = _
    rw [q2 80 z (Or.inl rfl), q2 81 z (Or.inr rfl), va_up_ne _ _ (by omega)]
    rfl
  · rw [← (r2.2.1 z z1 z2).2 (fun w => w)]
    exact q3 z n
  · have := rtC_new (m := m) (so := 10) (pt := Int32.ofNat P) (S := S)
    omega
  · have z2 : z < 700 * m + (S.1 + 1) := z2
    have ez : z = 700 * m + S.1 := by omega
    refine ⟨ez, ?_⟩
    show aBf (700 * m + S.1) c _ 81 z = _
    rw [q2 81 z (Or.inr rfl), ez]
    exact congrArg (fun w => w.2.1) r3
  · show (aBf (700 * m + S.1) c _ 80 _, aBf (700 * m + S.1) c _ 81 _, va_up _ (700 * m + S.1) _ _) = _
    rw [q2 80 _ (Or.inl rfl), q2 81 _ (Or.inr rfl), va_up_self, va_up_self]
    have e80 : (nBf m 10 (Int32.ofNat P) S).2 80 (700 * m + S.1) = 10 := congrArg (fun w => w.1) r3
    have e81 : (nBf m 10 (Int32.ofNat P) S).2 81 (700 * m + S.1) = Int32.ofNat P := congrArg (fun w => w.2.1) r3
    rw [e80, e81]
    rfl
theorem row_opn {P q nc : Nat} (hw1 : RowR W m zn fn lo hw A pn S G s0 r cx y pr pb ds) (b1 : BxO m A pn M S G M1 S1 G1 d (fun z => z ∈ ds ∧ z ≠ d) q1 ea1 ca1) (hd : 700 * m + s0 ≤ d) (n2 : NRy m A pn M1 S1 G1 M2 S2 G2 x H q2 ea2 ca2 P) (hH : ∀ z, z < 700 * m + S.1 → H z → 700 * m + s0 ≤ z) (hq : q1 + q2 ≤ q) (he : ea1 + ea2 + nc ≤ 1 + (ca1 + ca2)) : NRy m A pn M S G M2 S2 G2 x (fun z => 700 * m + s0 ≤ z) q 1 nc P := by
  obtain ⟨a1, a2, a3, a4, a5, a6⟩ := b1
  obtain ⟨c1, c2, c3, c4, ⟨c5, c6, c7⟩, c8, c9⟩ := n2
  have l := a4.1
  refine ⟨c1, a2.tr c2, c3, (a4.more (fun z _ _ w => hw1.ge z w.1)).tr c4 (fun z _ z2 w => hH z z2 w), ⟨by omega, c6, c7⟩, ⟨by have := a6.1; have := c8.1; omega, by have := a6.2.1; have := c8.2; omega⟩, fun z z1 z2 z3 => ?_⟩
  by_cases e : z < 700 * m + S1.1
  · have v := (c4.2.1 z (by omega) e).1
    have v80 : S2.2 80 z = S1.2 80 z := congrArg (fun w => w.1) v
    have v81 : S2.2 81 z = S1.2 81 z := congrArg (fun w => w.2.1) v
    rw [v80] at z3
    rw [v81]
    exact Or.inl (a6.2.2 z z1 e z3)
  · exact c9 z (by omega) z2 z3
/-- the context within a part of kind k -/
theorem cx_k {t : Option Int64} (ht : tpK k t) : cxK ((40 * m + j, r, 1, t) :: K) = if k = 55 then some (40 * m + j) :: cxK K else if k = 49 ∨ k = 50 ∨ k = 53 then none :: cxK K else cxK K := by
  unfold tpK at ht
  by_cases k55 : k = 55
  · rw [if_pos k55] at ht ⊢
    obtain ⟨c, e, hc⟩ := ht
    rw [cxK_s (c := c) e, if_neg hc]
  rw [if_neg k55] at ht ⊢
  by_cases k4 : k = 49 ∨ k = 50 ∨ k = 53
  · rw [if_pos k4] at ht ⊢
    rw [cxK_s (c := 0) ht, if_pos rfl]
  · rw [if_neg k4] at ht ⊢
    exact cxK_n ht
theorem B_one {t : Option Int64} (hA : woA W = A) (hB : BuM m A pn S M) (hR : RgB m S G) (hf : S.1 + (3 + 11 * paK k) ≤ 700) (hj : j < 40) (hr : r < 100) (e58 : A 58 (40 * m + j) = Int32.ofNat (soK k)) (hk : k = 42 ∨ k = 49 ∨ k = 50 ∨ k = 52 ∨ k = 53 ∨ k = 55) (ht : tpK k t) (e69 : A 69 (40 * m + j) = Int32.ofNat r) (hw1 : RowR W m zn fn lo hw A pn S G s0 r (cxK ((40 * m + j, r, 1, t) :: K)) y (p + hpK k) pb ds) (hs0 : s0 ≤ S.1) (hs : PkS W m zn fn lo hw k K j p pb x [y]) (C : KpZ W m zn fn A pn M S G s0 (cxK K) x p (pb + (paK k - hpK k)) (3 + 11 * paK k) ds.length (40 * m + j) (ds.zip (chV W y)) Q) : E (h + 6) mdX11_nodeOf [.ref 29, .int (Int32.ofNat (40 * m + j))] M Q := by
  refine B_hd hB hR (by omega) hj hr e69 hw1 hs0 (fun M1 S1 G1 d g b1 c1 r1 z1 => ?_)
  obtain ⟨F, h4, b2, b3, b4, b5, b6⟩ := id b1.1
  have l40 := lt40 h4 hj
  have v40 : ∀ {M : Mem} {c : Nat}, mL M c = 160 → vp_in (Int32.ofNat (40 * m + j)) (mL M c) := fun e => ix40 h4 hj e
  have m58 : mAI M1 58 (40 * m + j) = Int32.ofNat (soK k) := by rw [b5 58 (by decide) (by decide) (by decide)]; exact e58
  have s1 := b1.2.2.2.2.2
  have hd := b1.2.2.2.2.1
  rw [cx_k ht] at r1
  unfold DX11_nodeOf_24
  rw [l40]
  refine ⟨ok29 F, 58, rf29_38 F, ok58 F, v40 (ln58 F), ?_⟩
  rw [m58]
  unfold PkS at hs
  rcases hk with e | e | e | e | e | e
  · subst e
    rw [if_neg (by decide), if_neg (by decide), if_neg (by decide), if_neg (by decide), if_neg (by decide), if_neg (by decide), if_pos rfl] at hs
    have e1 : Int32.ofNat (soK 42) = 5 := by decide
    rw [e1]
    rw [if_neg (by decide), if_neg (by decide)] at r1
    obtain ⟨y', ey, w1⟩ := hs
    cases ey
    refine ⟨fun z => absurd z (by decide), fun z => absurd z (by decide), fun z => absurd z (by decide), fun z => absurd z (by decide), fun _ => B_ov1 (h := h + 3) b1.1 b1.2.2.1 (by omega) hd (fun M2 S2 G2 y2 n2 v2 _ => ⟨_, rfl, C M2 S2 G2 y2 (g + 1) (NRx.ny (((row_op hw1 b1 c1.1 n2 (fun z _ w => by rw [show z = d from w]; exact c1.1)).mo (by decide)).nm (by omega))) (N_lo ⟨n2.own.1.1, n2.own.1.2⟩ w1 v2 (n2.rp r1 (Nat.le_refl _))) (fun e he => (DsN.ch n2.own.1 w1 v2 (Or.inl (by decide)) (d := d) (c := y) (by simp)).tr (n2.2.2.2.1.dsn (z1 e he)))⟩), fun z => absurd z (by decide), fun z => absurd z (by decide), fun z => absurd z (by decide), fun z => absurd z (by decide), fun z => absurd z (by decide), fun z => absurd z (by decide), fun z => absurd z (by decide), fun z => absurd z (by decide), fun z => absurd z (by decide), fun z => absurd z (by decide), fun z => absurd z (by decide), fun z => absurd z (by decide)⟩
  · subst e
    rw [if_neg (by decide), if_neg (by decide), if_neg (by decide), if_neg (by decide), if_neg (by decide), if_neg (by decide), if_neg (by decide), if_neg (by decide), if_neg (by decide), if_pos rfl] at hs
    have e1 : Int32.ofNat (soK 49) = 8 := by decide
    rw [e1]
    rw [if_neg (by decide), if_pos (by decide)] at r1
    obtain ⟨y', l, im, ey, w0, w2, w1⟩ := hs
    cases ey
    have pk : paK 49 = 1 := by decide
    have e61 : A 61 (40 * m + j) = bI im := by rw [← hA]; exact w2
    have two : ∀ x1, abS (woV W) lo hw x1 y l pb → (∀ M2 S2 G2 y2, NRx m A pn M1 S1 G1 M2 S2 G2 y2 (fun z => z = d) 10 1 1 → RpN W m zn fn (vwR S2 G2) (700 * m + S2.1) (g + 4 + 4) (cxK K) y2 x1 p (pb + 1) → (∀ e ∈ ds.zip (chV W y), DsN W m (vwR S2 G2) (700 * m + S2.1) y2 x1 e.1 e.2) → (bI im = 0 → DX11_nodeOf_271 (h + 5) (Int32.ofNat y2) M2 Q) ∧ (¬ (bI im = 0) → E (h + 5) mdX11_node [.ref 29, .int 0, .int (-1)] M2 (fun r M38 => mE M2 M38 → ∃ r39 : Int32, r = some (.int r39) ∧ E (h + 5) mdX11_over [.ref 29, .int 4, .int (Int32.ofNat (40 * m + j)), .int r39, .int (Int32.ofNat y2)] M38 (fun r M40 => mE M38 M40 → ∃ r41 : Int32, r = some (.int r41) ∧ DX11_nodeOf_271 (h + 5) r41 M40 Q)))) → E (h + 5) mdX11_aborting [.ref 29, .int (Int32.ofNat (40 * m + j)), .int (Int32.ofNat d), .int 0, .int 0] M1 (fun r M34 => mE M1 M34 → ∃ r35 : Int32, r = some (.int r35) ∧ ∃ b36 : Nat, mR M34 29 41 = some b36 ∧ ok M34 b36 22 ∧ vp_in (Int32.ofNat (40 * m + j)) (mL M34 b36) ∧ ((mAI M34 b36 (40 * m + j)) = 0 → DX11_nodeOf_271 (h + 5) r35 M34 Q) ∧ (¬ ((mAI M34 b36 (40 * m + j)) = 0) → E (h + 5) mdX11_node [.ref 29, .int 0, .int (-1)] M34 (fun r M38 => mE M34 M38 → ∃ r39 : Int32, r = some (.int r39) ∧ E (h + 5) mdX11_over [.ref 29, .int 4, .int (Int32.ofNat (40 * m + j)), .int r39, .int r35] M38 (fun r M40 => mE M38 M40 → ∃ r41 : Int32, r = some (.int r41) ∧ DX11_nodeOf_271 (h + 5) r41 M40 Q)))) := by
      intro x1 wx kx
      refine B_abort (h := h + 1) b1.1 b1.2.2.1 hd (by omega) hj wx w0 (g := g + 4) (by omega) (r1.mo (by omega)) z1 (fun M2 S2 G2 y2 n2 r2 z2 _ => ⟨_, rfl, 61, rf29_41 n2.1.1, ok61 n2.1.1, v40 (ln61 n2.1.1), ?_⟩)
      have e2 : mAI M2 61 (40 * m + j) = bI im := by rw [n2.1.2.2.2.2.2.1 61 (by decide) (by decide) (by decide)]; exact e61
      rw [e2]
      exact kx M2 S2 G2 y2 n2 r2 z2
    refine ⟨fun z => absurd z (by decide), fun z => absurd z (by decide), fun z => absurd z (by decide), fun z => absurd z (by decide), fun z => absurd z (by decide), fun z => absurd z (by decide), fun z => absurd z (by decide), fun _ => ?_, fun z => absurd z (by decide), fun z => absurd z (by decide), fun z => absurd z (by decide), fun z => absurd z (by decide), fun z => absurd z (by decide), fun z => absurd z (by decide), fun z => absurd z (by decide), fun z => absurd z (by decide), fun z => absurd z (by decide)⟩
    cases im with
    | false =>
      rw [aiS_f] at w1
      refine two x w1 (fun M2 S2 G2 y2 n2 r2 z2 => ⟨fun _ => ?_, fun z => absurd rfl z⟩)
      unfold DX11_nodeOf_271
      exact C M2 S2 G2 y2 _ (NRx.ny (((row_op hw1 b1 c1.1 n2 (fun z _ w => by rw [show z = d from w]; exact c1.1)).mo (by decide)).nm (by omega))) r2 z2
    | true =>
      rw [aiS_t] at w1
      obtain ⟨no, x1, u1, u2, u3⟩ := w1
      refine two x1 u3 (fun M2 S2 G2 y2 n2 r2 z2 => ⟨fun z => absurd z (by decide), fun _ => ?_⟩)
      have s2 := n2.2.2.2.2.2
      have c2 := n2.2.2.2.2.1
      refine B_nd (h := h + 4) n2.1 n2.2.2.1 (by omega) (fun M3 S3 G3 y3 n3 v3 _ => ⟨_, rfl, ?_⟩)
      have s3 := n3.2.2.2.2.2
      have c3 := n3.2.2.2.2.1
      refine B_ov2 (h := h + 3) n3.1 n3.2.2.1 (by omega) n3.own (n3.fr n2.own (fun z => z)) (by omega) (fun M4 S4 G4 y4 n4 v4 _ => ⟨_, rfl, ?_⟩)
      unfold DX11_nodeOf_271
      refine C M4 S4 G4 y4 (g + 4 + 4 + 1) ?_ ?_ (fun e he => (DsN.ch n4.own.1 u1 v4 (Or.inl (by decide)) (d := y2) (c := x1) (by simp)).tr (n4.2.2.2.1.dsn (n3.2.2.2.1.dsn (z2 e he))))
      · have k2 := row_op hw1 b1 c1.1 n2 (fun z _ w => by rw [show z = d from w]; exact c1.1)
        have l1 : S.1 ≤ S1.1 := b1.2.2.2.1.1
        have l2 : S1.1 ≤ S2.1 := n2.2.2.2.1.1
        have k3 : NRx m A pn M S G M3 S3 G3 y3 (fun z => 700 * m + s0 ≤ z) 12 3 (ds.length + 1) := k2.tr n3 (fun _ _ _ z => z) (fun _ _ _ z => z.elim)
        have k4 : NRx m A pn M S G M4 S4 G4 y4 (fun z => 700 * m + s0 ≤ z) 13 4 (ds.length + 3) := k3.tr n4 (fun _ _ _ z => z) (fun z _ z2 w => by
          have w : z = y3 ∨ z = y2 := w
          omega)
        exact NRx.ny ((k4.mo (by decide)).nm (by omega))
      · exact N_ch2 ⟨n4.own.1.1, n4.own.1.2⟩ u1 (CdW.ch hj w0) v4 (n4.rp (g' := g + 4 + 4) (N_no (g := 0) ⟨n3.own.1.1, n3.own.1.2⟩ u2 v3) (by omega)) (n4.rp (n3.rp (g' := g + 4 + 4) r2 (Nat.le_refl _)) (Nat.le_refl _))
  · subst e
    rw [if_neg (by decide), if_neg (by decide), if_neg (by decide), if_neg (by decide), if_neg (by decide), if_neg (by decide), if_neg (by decide), if_neg (by decide), if_neg (by decide), if_neg (by decide), if_pos rfl] at hs
    have e1 : Int32.ofNat (soK 50) = 9 := by decide
    rw [e1]
    rw [if_neg (by decide), if_pos (by decide)] at r1
    obtain ⟨y', l, im, ey, w0, w2, w1⟩ := hs
    cases ey
    have pk : paK 50 = 1 := by decide
    have m61 : mAI M1 61 (40 * m + j) = bI im := by rw [b5 61 (by decide) (by decide) (by decide), ← hA]; exact w2
    refine ⟨fun z => absurd z (by decide), fun z => absurd z (by decide), fun z => absurd z (by decide), fun z => absurd z (by decide), fun z => absurd z (by decide), fun z => absurd z (by decide), fun z => absurd z (by decide), fun z => absurd z (by decide), fun _ => ⟨61, rf29_41 F, ok61 F, v40 (ln61 F), ?_⟩, fun z => absurd z (by decide), fun z => absurd z (by decide), fun z => absurd z (by decide), fun z => absurd z (by decide), fun z => absurd z (by decide), fun z => absurd z (by decide), fun z => absurd z (by decide), fun z => absurd z (by decide)⟩
    rw [m61]
    exact B_weak (h := h + 1) b1.1 b1.2.2.1 hd (by omega) hj w1 w0 (g := g + 4) (by omega) (r1.mo (by omega)) z1 (fun M2 S2 G2 y2 n2 r2 z2 _ => ⟨_, rfl, C M2 S2 G2 y2 _ (NRx.ny (((row_op hw1 b1 c1.1 n2 (fun z _ w => by rw [show z = d from w]; exact c1.1)).mo (by decide)).nm (by omega))) r2 z2⟩)
  · subst e
    rw [if_neg (by decide), if_neg (by decide), if_neg (by decide), if_neg (by decide), if_neg (by decide), if_neg (by decide), if_neg (by decide), if_neg (by decide), if_neg (by decide), if_neg (by decide), if_neg (by decide), if_pos rfl] at hs
    have e1 : Int32.ofNat (soK 52) = 10 := by decide
    rw [e1]
    rw [if_neg (by decide), if_neg (by decide)] at r1
    obtain ⟨y', l, ey, w0, w1⟩ := hs
    cases ey
    refine ⟨fun z => absurd z (by decide), fun z => absurd z (by decide), fun z => absurd z (by decide), fun z => absurd z (by decide), fun z => absurd z (by decide), fun z => absurd z (by decide), fun z => absurd z (by decide), fun z => absurd z (by decide), fun z => absurd z (by decide), fun _ => B_ov1 (h := h + 3) b1.1 b1.2.2.1 (by omega) hd (fun M2 S2 G2 y2 n2 v2 _ => ⟨_, rfl, C M2 S2 G2 y2 (g + 1) (NRx.ny (((row_op hw1 b1 c1.1 n2 (fun z _ w => by rw [show z = d from w]; exact c1.1)).mo (by decide)).nm (by omega))) (N_su ⟨n2.own.1.1, n2.own.1.2⟩ w1 hj w0 v2 (n2.rp r1 (Nat.le_refl _))) (fun e he => (DsN.ch n2.own.1 w1 v2 (Or.inl (by decide)) (d := d) (c := y) (by simp)).tr (n2.2.2.2.1.dsn (z1 e he)))⟩), fun z => absurd z (by decide), fun z => absurd z (by decide), fun z => absurd z (by decide), fun z => absurd z (by decide), fun z => absurd z (by decide), fun z => absurd z (by decide), fun z => absurd z (by decide)⟩
  · subst e
    rw [if_neg (by decide), if_neg (by decide), if_neg (by decide), if_neg (by decide), if_neg (by decide), if_neg (by decide), if_neg (by decide), if_neg (by decide), if_neg (by decide), if_neg (by decide), if_neg (by decide), if_neg (by decide), if_pos rfl] at hs
    have e1 : Int32.ofNat (soK 53) = 11 := by decide
    rw [e1]
    rw [if_neg (by decide), if_pos (by decide)] at r1
    obtain ⟨y', l, im, aw, ey, w0, w2, w3, w1⟩ := hs
    cases ey
    have pk : paK 53 = 3 := by decide
    refine ⟨fun z => absurd z (by decide), fun z => absurd z (by decide), fun z => absurd z (by decide), fun z => absurd z (by decide), fun z => absurd z (by decide), fun z => absurd z (by decide), fun z => absurd z (by decide), fun z => absurd z (by decide), fun z => absurd z (by decide), fun z => absurd z (by decide), fun _ => B_every (h := h) b1.1 b1.2.2.1 hd (by omega) hj w3 w1 w0 (by rw [← hA]; exact w2) (g := g + 4) (by omega) rfl (r1.mo (by omega)) z1 (fun M2 S2 G2 y2 n2 r2 z2 _ => ⟨_, rfl, C M2 S2 G2 y2 _ (NRx.ny (((row_op hw1 b1 c1.1 n2 (fun z _ w => by rw [show z = d from w]; exact c1.1)).mo (by decide)).nm (by omega))) r2 z2⟩), fun z => absurd z (by decide), fun z => absurd z (by decide), fun z => absurd z (by decide), fun z => absurd z (by decide), fun z => absurd z (by decide), fun z => absurd z (by decide)⟩
  · subst e
    rw [if_neg (by decide), if_neg (by decide), if_neg (by decide), if_neg (by decide), if_neg (by decide), if_neg (by decide), if_neg (by decide), if_neg (by decide), if_neg (by decide), if_neg (by decide), if_neg (by decide), if_neg (by decide), if_neg (by decide), if_pos rfl] at hs
    have e1 : Int32.ofNat (soK 55) = 12 := by decide
    rw [e1]
    rw [if_pos rfl] at r1
    obtain ⟨y', ey, w1⟩ := hs
    cases ey
    refine ⟨fun z => absurd z (by decide), fun z => absurd z (by decide), fun z => absurd z (by decide), fun z => absurd z (by decide), fun z => absurd z (by decide), fun z => absurd z (by decide), fun z => absurd z (by decide), fun z => absurd z (by decide), fun z => absurd z (by decide), fun z => absurd z (by decide), fun z => absurd z (by decide), fun _ => B_ov1n (h := h + 3) b1.1 b1.2.2.1 (by omega) hd (fun M2 S2 G2 y2 n2 v2 _ => ⟨_, rfl, C M2 S2 G2 y2 (g + 1) (row_opn hw1 b1 c1.1 n2 (fun z _ w => by rw [show z = d from w]; exact c1.1) (by decide) (by omega)) (N_tr ⟨n2.own.1.1, n2.own.1.2⟩ w1 hj v2 (n2.rp r1 (Nat.le_refl _))) (fun e he => (DsN.ch n2.own.1 w1 v2 (Or.inl (by decide)) (d := d) (c := y) (by simp)).tr (n2.2.2.2.1.dsn (z1 e he)))⟩), fun z => absurd z (by decide), fun z => absurd z (by decide), fun z => absurd z (by decide), fun z => absurd z (by decide), fun z => absurd z (by decide)⟩
end
end
section
/-! the reference builds: choices and branches -/
section
variable {m : Nat} {A : Nat → Nat → Int32} {pn : Nat → Int32} {S S1 S2 : RBs} {G G1 G2 : Nat → List Nat} {M M1 M2 : Mem} {h : Nat} {Q : Option Value → Mem → Prop} {W : Wo} {zn fn lo hw p p' pb pm pr x y j g d e q q1 q2 s0 r ea1 ca1 ea2 ca2 : Nat} {cx : List (Option Nat)} {H H1 H2 : Nat → Prop} {k : Int32} {K : List KE} {ds ys : List Nat}
theorem RowR.st (hw1 : RowR W m zn fn lo hw A pn S G s0 r cx y p p' ds) (f : FrB m S G S1 G1 H) (nf : ∀ d ∈ ds, ¬ H d) : RowR W m zn fn lo hw A pn S1 G1 s0 r cx y p p' ds := by
  obtain ⟨a, t, xs, g, w1, w2, w3, w4, w5, w6, w7⟩ := hw1
  have l := f.1
  refine ⟨a, t, xs, g, w1, w2, w3, fun d hd => ?_, w5, w6, RpLs.imp (fun _ _ _ _ k => RpN.st (fun z h1 h2 => (f.2.1 z h1 h2).1) (by omega) _ _ _ _ _ _ _ (Nat.le_refl _) k) _ _ _ _ w7⟩
  obtain ⟨v1, v2⟩ := w4 d hd
  have q := f.2.1 d v1.1.1 v1.1.2
  exact ⟨⟨⟨v1.1.1, by have := v1.1.2; omega⟩, (q.2 (nf d hd)).trans v1.2⟩, v2⟩
theorem RowR.lt (hw1 : RowR W m zn fn lo hw A pn S G s0 r cx y p p' ds) : ∀ z ∈ ds, z < 700 * m + S.1 := by
  obtain ⟨a, t, xs, g, -, -, -, w, -⟩ := hw1
  exact fun z hz => (w z hz).1.1.2
theorem BxO.tr (h : BxO m A pn M S G M1 S1 G1 d H1 q1 ea1 ca1) (n : BxO m A pn M1 S1 G1 M2 S2 G2 y H2 q2 ea2 ca2) (h1 : ∀ z, 700 * m ≤ z → z < 700 * m + S.1 → H1 z → H z) (h2 : ∀ z, 700 * m ≤ z → z < 700 * m + S.1 → H2 z → H z) : BxO m A pn M S G M2 S2 G2 y H (q1 + q2) (ea1 + ea2) (ca1 + ca2) := by
  obtain ⟨a1, a2, a3, a4, a5, a6⟩ := h
  obtain ⟨b1, b2, b3, b4, b5, b8⟩ := n
  have := a4.1
  exact ⟨b1, a2.tr b2, b3, (a4.more h1).tr b4 h2, b5, by have := a6.1; have := b8.1; omega, by have := a6.2.1; have := b8.2.1; omega, a6.2.2.tr b4 b8.2.2⟩
theorem pk_ch (hk : k = 44 ∨ k = 58) (hj : j < 40) (hs : PkS W m zn fn lo hw k K j p pb x ys) (h5 : k = 58 → woA W 58 (40 * m + j) = 14 ∧ woP W j 1 = Int32.ofNat x) : ∃ y z l, ChW W m zn fn (if k = 44 then 4 else 5) (Int32.ofNat (40 * m + j)) l x ∧ ndS (woV W) lo hw x 4 l [y, z] ∧ (ys = [y, z] ∨ ys = [y] ∧ lfS (woV W) lo hw z 0 0) := by
  unfold PkS at hs
  rcases hk with e | e
  · subst e
    rw [if_neg (by decide), if_neg (by decide), if_neg (by decide), if_neg (by decide), if_neg (by decide), if_neg (by decide), if_neg (by decide), if_pos rfl] at hs
    obtain ⟨y, z, l, w1, w2, w3⟩ := hs
    exact ⟨y, z, l, by rw [if_pos rfl]; exact CdW.ch hj w1, w2, w3⟩
  · subst e
    rw [if_neg (by decide), if_neg (by decide), if_neg (by decide), if_neg (by decide), if_neg (by decide), if_neg (by decide), if_neg (by decide), if_neg (by decide), if_pos rfl] at hs
    obtain ⟨y, z, f, w1, w2, w3, w4⟩ := hs
    exact ⟨y, z, _, by rw [if_neg (by decide)]; exact Or.inr ⟨rfl, j, f, hj, rfl, w1, w2, rfl, h5 rfl⟩, w3, w4⟩
theorem B_cho {Z : List (Nat × Nat)} {cc nc : Nat} (hcc : 2 ≤ cc) (hB : BuM m A pn S M) (hR : RgB m S G) (hf : S.1 + cc ≤ 700) (hj : j < 40) (hr : r < 100) (e58 : A 58 (40 * m + j) = Int32.ofNat (soK k)) (hk : k = 44 ∨ k = 58) (e69 : A 69 (40 * m + j) = Int32.ofNat r) (hw1 : RowR W m zn fn lo hw A pn S G s0 r (cxK K) y p pm ds) (hs0 : s0 ≤ S.1) (hs : PkS W m zn fn lo hw k K j p pb x ys) (h5 : k = 58 → woA W 58 (40 * m + j) = 14 ∧ woP W j 1 = Int32.ofNat x) (h2 : (A 75 r = -1 ∧ ys = [y] ∧ pm = pb ∧ nc = ds.length ∧ Z = ds.zip (chV W y)) ∨ ∃ rm z ds2, (3 ≤ cc ∧ nc = ds.length + ds2.length ∧ Z = ds.zip (chV W y) ++ ds2.zip (chV W z)) ∧ A 75 r = Int32.ofNat rm ∧ rm < 100 ∧ ys = [y, z] ∧ RowR W m zn fn lo hw A pn S G s0 rm (cxK K) z pm pb ds2 ∧ ∀ w ∈ ds, w ∉ ds2) (C : KpZ W m zn fn A pn M S G s0 (cxK K) x p pb cc nc (40 * m + j) Z Q) : E (h + 6) mdX11_nodeOf [.ref 29, .int (Int32.ofNat (40 * m + j))] M Q := by
  obtain ⟨y', z', l, c1, c2, c3⟩ := pk_ch hk hj hs h5
  refine B_hd hB hR (by omega) hj hr e69 hw1 hs0 (fun M1 S1 G1 d g b1 d1 r1 z1 => ?_)
  obtain ⟨F, h4, b2, b3, b4, b5, b6⟩ := id b1.1
  have l40 := lt40 h4 hj
  have v40 : ∀ {M : Mem} {c : Nat}, mL M c = 160 → vp_in (Int32.ofNat (40 * m + j)) (mL M c) := fun e => ix40 h4 hj e
  have lr : (Int32.ofNat r).toNatClampNeg = r := lt32 (by omega)
  have m58 : mAI M1 58 (40 * m + j) = Int32.ofNat (soK k) := by rw [b5 58 (by decide) (by decide) (by decide)]; exact e58
  have m69 : mAI M1 69 (40 * m + j) = Int32.ofNat r := by rw [b5 69 (by decide) (by decide) (by decide)]; exact e69
  have m75 : mAI M1 75 r = A 75 r := by rw [b5 75 (by decide) (by decide) (by decide)]
  have s1 := b1.2.2.2.2.2
  have hd := b1.2.2.2.2.1
  have vr : vp_in (Int32.ofNat r) (mL M1 75) := by rw [ln75 F]; exact vp_of hr (by decide)
  -- the node of the choice itself
  have n199 : ∀ (M2 : Mem) (x3 : Int32), Fix M2 → mAI M2 58 (40 * m + j) = Int32.ofNat (soK k) → E (h + 5) mdX11_over [.ref 29, .int (if k = 44 then 4 else 5), .int (Int32.ofNat (40 * m + j)), .int (Int32.ofNat d), .int x3] M2 (fun r M2' => mE M2 M2' → ∃ r3 : Int32, r = some (.int r3) ∧ Q (some (.int r3)) M2') → DX11_nodeOf_199 (h + 5) 29 (Int32.ofNat (40 * m + j)) (Int32.ofNat d) x3 M2 Q := by
    intro M2 x3 F2 e2 ho
    unfold DX11_nodeOf_199 DX11_nodeOf_217
    rw [l40]
    refine ⟨ok29 F2, 58, rf29_38 F2, ok58 F2, v40 (ln58 F2), ?_⟩
    rw [e2]
    rcases hk with e | e
    · subst e
      rw [if_pos rfl] at ho
      exact ⟨fun _ => ⟨ok29 F2, ho⟩, fun z => absurd z (by decide)⟩
    · subst e
      rw [if_neg (by decide)] at ho
      exact ⟨fun z => absurd (by decide) z, fun _ => ⟨ok29 F2, ho⟩⟩
  have main : (¬ A 75 r = -1 → E (h + 5) mdX11_rowNode [.ref 29, .int (A 75 r)] M1 (fun r2 M28 => mE M1 M28 → ∃ r29 : Int32, r2 = some (.int r29) ∧ DX11_nodeOf_199 (h + 5) 29 (Int32.ofNat (40 * m + j)) (Int32.ofNat d) r29 M28 Q)) ∧ (A 75 r = -1 → DX11_nodeOf_199 (h + 5) 29 (Int32.ofNat (40 * m + j)) (Int32.ofNat d) (-1) M1 Q) := by
    rcases h2 with ⟨e75, ey, ep, enc, eZ⟩ | ⟨rm, z, ds2, ⟨hc3, enc, eZ⟩, e75, hrm, ey, hw2, hdj⟩
    · refine ⟨fun z => absurd e75 z, fun _ => n199 M1 (-1) F m58 ?_⟩
      rcases c3 with c3 | ⟨c3, c4⟩
      · rw [ey] at c3; cases c3
      rw [ey] at c3
      cases c3
      subst ep
      exact B_ov1 (h := h + 3) (hx := fun w => absurd w (by rcases hk with e | e <;> rw [e] <;> decide)) b1.1 b1.2.2.1 (by omega) hd (fun M2 S2 G2 y2 n2 v2 _ => ⟨_, rfl, C M2 S2 G2 y2 (g + 1) (NRx.ny (((row_op hw1 b1 d1.1 n2 (fun z _ w => by rw [show z = d from w]; exact d1.1)).mo (by omega)).nm (by omega))) (N_ch1 ⟨n2.own.1.1, n2.own.1.2⟩ c2 c1 v2 (n2.rp r1 (Nat.le_refl _)) c4) (fun e he => (DsN.ch n2.own.1 c2 v2 (Or.inl (by decide)) (d := d) (by simp)).tr (n2.2.2.2.1.dsn (z1 e (by rw [eZ] at he; exact he))))⟩)
    · rw [e75]
      refine ⟨fun _ => ?_, fun z => absurd z (nm32 (by omega))⟩
      have c3 : ys = [y', z'] := by
        rcases c3 with c3 | ⟨c3, c4⟩
        · exact c3
        · rw [ey] at c3; cases c3
      rw [ey] at c3
      cases c3
      have lt2 := hw2.lt
      have hw3 := hw2.st b1.2.2.2.1 (fun w hw hz => hdj w hz.1 hw)
      have hle : s0 ≤ S1.1 := Nat.le_trans hs0 b1.2.2.2.1.1
      have hle1 : S.1 ≤ S1.1 := b1.2.2.2.1.1
      have nd2 : d ∉ ds2 := fun hz => by
        rcases d1.2 with w | w
        · exact hdj d w hz
        · have := lt2 d hz; omega
      refine B_row (h := h + 3) b1.1 b1.2.2.1 (by omega) hrm hw3 hle (fun M2 S2 G2 e g2 b2 e1 r2 z2 _ => ⟨_, rfl, n199 M2 _ b2.1.1 (by rw [b2.1.2.2.2.2.2.1 58 (by decide) (by decide) (by decide)]; exact e58) ?_⟩)
      have s2 := b2.2.2.2.2.2
      have hd2 : frN m S2 d := b2.fr hd (fun hz => nd2 hz.1)
      have ne : d ≠ e := fun hz => by
        rcases e1.2 with w | w
        · exact nd2 (by rw [hz]; exact w)
        · have := hd.1.2; omega
      refine B_ov2 (h := h + 3) (hx := fun w => absurd w (by rcases hk with e | e <;> rw [e] <;> decide)) b2.1 b2.2.2.1 (by omega) hd2 b2.2.2.2.2.1 ne (fun M3 S3 G3 y3 n3 v3 _ => ⟨_, rfl, C M3 S3 G3 y3 (max g g2 + 1) ?_ ?_ (fun t ht => by
        rw [eZ] at ht
        rcases List.mem_append.mp ht with ht | ht
        · exact (DsN.ch n3.own.1 c2 v3 (Or.inl (by decide)) (d := d) (by simp)).tr (n3.2.2.2.1.dsn (b2.2.2.2.1.dsn (z1 t ht)))
        · exact (DsN.ch n3.own.1 c2 v3 (Or.inl (by decide)) (d := e) (by simp)).tr (n3.2.2.2.1.dsn (z2 t ht)))⟩)
      · have b12 : BxO m A pn M S G M2 S2 G2 e (fun z => 700 * m + s0 ≤ z) 2 2 (ds.length + ds2.length) := b1.tr b2 (fun z _ _ w => hw1.ge z w.1) (fun z _ _ w => hw2.ge z w.1)
        refine NRx.ny (((b12.nr n3 (fun _ _ _ z => z) (fun z _ _ w => ?_)).mo (by omega)).nm (by omega))
        have w : z = d ∨ z = e := w
        rcases w with w | w
        · rw [w]; exact d1.1
        · rw [w]; exact e1.1
      · exact N_ch2 ⟨n3.own.1.1, n3.own.1.2⟩ c2 c1 v3 (n3.rp (b2.rp (g' := max g g2) r1 (by omega)) (Nat.le_refl _)) (n3.rp r2 (by omega))
  unfold DX11_nodeOf_24
  rw [l40]
  refine ⟨ok29 F, 58, rf29_38 F, ok58 F, v40 (ln58 F), ?_⟩
  rw [m58]
  rcases hk with e | e
  · subst e
    have e1 : Int32.ofNat (soK 44) = 6 := by decide
    rw [e1]
    refine ⟨fun z => absurd z (by decide), fun z => absurd z (by decide), fun z => absurd z (by decide), fun z => absurd z (by decide), fun z => absurd z (by decide), fun _ => ⟨75, rf29_56 F, 69, rf29_49 F, ok69 F, v40 (ln69 F), ok75 F, by rw [m69]; exact vr, ?_⟩, fun z => absurd z (by decide), fun z => absurd z (by decide), fun z => absurd z (by decide), fun z => absurd z (by decide), fun z => absurd z (by decide), fun z => absurd z (by decide), fun z => absurd z (by decide), fun z => absurd z (by decide), fun z => absurd z (by decide), fun z => absurd z (by decide), fun z => absurd z (by decide)⟩
    rw [m69, lr, m75]
    refine ⟨fun hz => ⟨75, rf29_56 F, 69, rf29_49 F, ok69 F, v40 (ln69 F), ok75 F, by rw [m69]; exact vr, ?_⟩, main.2⟩
    rw [m69, lr, m75]
    exact main.1 hz
  · subst e
    have e1 : Int32.ofNat (soK 58) = 14 := by decide
    rw [e1]
    refine ⟨fun z => absurd z (by decide), fun z => absurd z (by decide), fun z => absurd z (by decide), fun z => absurd z (by decide), fun z => absurd z (by decide), fun z => absurd z (by decide), fun z => absurd z (by decide), fun z => absurd z (by decide), fun z => absurd z (by decide), fun z => absurd z (by decide), fun z => absurd z (by decide), fun z => absurd z (by decide), fun z => absurd z (by decide), fun _ => ⟨75, rf29_56 F, 69, rf29_49 F, ok69 F, v40 (ln69 F), ok75 F, by rw [m69]; exact vr, ?_⟩, fun z => absurd z (by decide), fun z => absurd z (by decide), fun z => absurd z (by decide)⟩
    rw [m69, lr, m75]
    refine ⟨fun hz => ⟨75, rf29_56 F, 69, rf29_49 F, ok69 F, v40 (ln69 F), ok75 F, by rw [m69]; exact vr, ?_⟩, main.2⟩
    rw [m69, lr, m75]
    exact main.1 hz
end
end
section
/-! the reference builds: branches -/
section
variable {m : Nat} {A : Nat → Nat → Int32} {pn : Nat → Int32} {S S1 S2 : RBs} {G G1 G2 : Nat → List Nat} {M M1 M2 : Mem} {h : Nat} {Q : Option Value → Mem → Prop} {W : Wo} {zn fn lo hw p p' pb pm pr x y j g d e q q1 q2 s0 r n ea ca ea1 ca1 : Nat} {cx : List (Option Nat)} {H H1 H2 : Nat → Prop} {k : Int32} {K : List KE} {ds ys : List Nat}
/-- a row that is ready, in a view that stays -/
def RowQ (W : Wo) (m zn fn lo hw : Nat) (A : Nat → Nat → Int32) (pn : Nat → Int32) (u0 : Vwr) (hi0 s0 r : Nat) (cx : List (Option Nat)) (y p p' : Nat) (ds : List Nat) : Prop := ∃ a t xs g, RwA A r a t ∧ (∀ z ∈ a :: t, z < 160) ∧ PnL pn (a :: t) ds ∧ (∀ d ∈ ds, (700 * m ≤ d ∧ d < hi0) ∧ 700 * m + s0 ≤ d) ∧ ds.Nodup ∧ ndS (woV W) lo hw y 5 0 xs ∧ RpLs (RpN W m zn fn u0 hi0 g cx) ds xs p p'
theorem RowR.rq (hw1 : RowR W m zn fn lo hw A pn S G s0 r cx y p p' ds) : RowQ W m zn fn lo hw A pn (vwR S G) (700 * m + S.1) s0 r cx y p p' ds ∧ ∀ d ∈ ds, frN m S d := by
  obtain ⟨a, t, xs, g, w1, w2, w3, w4, w5, w6, w7⟩ := hw1
  exact ⟨⟨a, t, xs, g, w1, w2, w3, fun d hd => ⟨(w4 d hd).1.1, (w4 d hd).2⟩, w5, w6, w7⟩, fun d hd => (w4 d hd).1⟩
theorem RowQ.fin {u0 u' : Vwr} {hi0 hi' : Nat} (hq : RowQ W m zn fn lo hw A pn u0 hi0 s0 r cx y p p' ds) (hu : ∀ z, 700 * m ≤ z → z < hi0 → u' z = u0 z) (hh : hi0 ≤ hi') (he : ds = [e] ∨ (u' e = (6, -1, ds) ∧ (700 * m ≤ e ∧ e < hi') ∧ 2 ≤ ds.length)) : ∃ g, RpN W m zn fn u' hi' g cx e y p p' := by
  obtain ⟨a, t, xs, g, w1, w2, w3, w4, w5, w6, w7⟩ := hq
  have w8 : RpLs (RpN W m zn fn u' hi' g cx) ds xs p p' := RpLs.imp (fun _ _ _ _ k => RpN.st hu hh _ _ _ _ _ _ _ (Nat.le_refl _) k) _ _ _ _ w7
  rcases he with he | ⟨e1, e2, e3⟩
  · rw [he] at w8
    cases xs with
    | nil => exact w8.elim
    | cons x1 xs =>
      obtain ⟨pm, r1, r2⟩ := w8
      cases xs with
      | cons _ _ => exact r2.elim
      | nil =>
        have r2 : p' = pm := r2
        subst r2
        exact ⟨g + 1, N_se1 w6 r1⟩
  · exact ⟨g + 1, N_seq e2 w6 e1 e3 w8⟩
theorem RowQ.dz {u0 u' : Vwr} {hi0 hi' : Nat} (hq : RowQ W m zn fn lo hw A pn u0 hi0 s0 r cx y p p' ds) (hh : hi0 ≤ hi') (he : ds = [e] ∨ (u' e = (6, -1, ds) ∧ (700 * m ≤ e ∧ e < hi') ∧ 2 ≤ ds.length)) : ds.length = (chV W y).length ∧ ∀ t ∈ ds.zip (chV W y), DsN W m u' hi' e y t.1 t.2 := by
  obtain ⟨a, t, xs, g, w1, w2, w3, w4, w5, w6, w7⟩ := hq
  have ll := RpLs.ln _ _ _ _ w7
  have ec : chV W y = xs := w6.2.2.2
  rw [ec]
  refine ⟨ll, fun t ht => ?_⟩
  rcases he with he | ⟨e1, e2, e3⟩
  · subst he
    cases xs with
    | nil => cases ll
    | cons x1 xs =>
      cases xs with
      | cons _ _ => exact absurd ll (by simp)
      | nil =>
        have ht : t = (e, x1) := List.mem_singleton.mp ht
        rw [ht]
        have := (w4 e List.mem_cons_self).1
        exact DsN.o1 ⟨this.1, by omega⟩ w6
  · exact DsN.ch e2 w6 e1 (Or.inr (by omega)) ht
theorem B_row2 {u0 : Vwr} {hi0 : Nat} (hB : BuM m A pn S M) (hR : RgB m S G) (hf : S.1 + 1 ≤ 700) (hr : r < 100) (hq : RowQ W m zn fn lo hw A pn u0 hi0 s0 r cx x p p' ds) (hfr : ∀ d ∈ ds, frN m S d) (K : ∀ M' S' G' y, BxO m A pn M S G M' S' G' y (fun z => z ∈ ds ∧ z ≠ y) 1 1 ds.length → (y ∈ ds ∨ 700 * m + S.1 ≤ y) → (ds = [y] ∨ (vwR S' G' y = (6, -1, ds) ∧ 2 ≤ ds.length)) → Q (some (.int (Int32.ofNat y))) M') : E (h + 2) mdX11_rowNode [.ref 29, .int (Int32.ofNat r)] M Q := by
  obtain ⟨a, t, xs, g, ⟨w1, w2, w3⟩, w4, w5, w6, w7, w8, w9⟩ := hq
  obtain ⟨F, h4, b2, b3, b4, b5, b6⟩ := id hB
  have lr : (Int32.ofNat r).toNatClampNeg = r := lt32 (by omega)
  have ha := w4 a List.mem_cons_self
  have la : (Int32.ofNat a).toNatClampNeg = a := lt32 (by omega)
  have va : ∀ {k : Nat}, k = 160 → vp_in (Int32.ofNat a) k := fun e => by rw [e]; exact vp_of ha (by decide)
  have e73 : mAI M 73 r = Int32.ofNat a := by rw [b5 73 (by decide) (by decide) (by decide)]; exact w1
  have e70 : mAI M 70 a = A 70 a := by rw [b5 70 (by decide) (by decide) (by decide)]
  refine KX11_rowNode ?_
  unfold DX11_rowNode_0
  rw [lr]
  refine ⟨ok29 F, 73, rf29_54 F, ok73 F, by rw [ln73 F]; exact vp_of hr (by decide), 70, rf29_50 F, ok70 F, by rw [e73]; exact va (ln70 F), ?_⟩
  rw [e73, la, e70]
  cases t with
  | nil =>
    have w3 : A 70 a = -1 := w3
    refine ⟨fun z => absurd w3 z, fun _ => ⟨90, rf29_72 F, ok90 F, va (ln90 F), ?_⟩⟩
    cases ds with
    | nil => exact w5.elim
    | cons d ds =>
      cases ds with
      | cons e es => exact w5.2.elim
      | nil =>
        rw [b6, w5.1]
        exact K M S G d ⟨hB, RG.rf, hR, FrB.rf, hfr d List.mem_cons_self, Nat.le_succ _, Nat.le_refl _, fun z z1 z2 _ => absurd z1 (by omega)⟩ (Or.inl List.mem_cons_self) (Or.inl rfl)
  | cons a2 t =>
    have w3 : A 70 a = Int32.ofNat a2 ∧ ChA A a2 t := w3
    have ne : A 70 a ≠ -1 := by rw [w3.1]; exact nm32 (by have := w4 a2 (by simp); omega)
    refine ⟨fun _ => B_nd hB hR (by omega) (fun M1 S1 G1 n n1 v1 _ => ⟨_, rfl, ?_⟩), fun z => absurd z ne⟩
    have nb := n1.2.2.2.2.1
    cases ds with
    | nil => exact w5.elim
    | cons d ds =>
      refine row_loop (h := h) h4 (a2 :: t) a ds d M1 S1 G1 [] noN 0 n1 v1 w3 w4 w5 (fun e he => ?_) w7 (fun M2 S2 G2 n2 v2 e2 k2 => K M2 S2 G2 n ?_ (Or.inr nb.1) (Or.inr ⟨v2, ?_⟩))
      · have f1 := hfr e he
        exact ⟨n1.fr f1 (fun z => z), by have := f1.1.2; omega⟩
      · refine ⟨n2.1, n2.2.1, n2.2.2.1, n2.2.2.2.1.more (fun z _ z2 w => ?_), n2.own, n2.2.2.2.2.2.1, by have := n2.2.2.2.2.2.2.1; show _ + (ds.length + 1) ≤ _; omega, n2.2.2.2.2.2.2.2⟩
        rcases w with w | w
        · exact w.elim
        · exact ⟨w, by omega⟩
      · cases ds with
        | nil => exact w5.2.elim
        | cons e es => show 2 ≤ (e :: es).length + 1; simp
def nxI (T : List (Nat × Nat)) : Int32 := match T with
  | [] => -1
  | e :: _ => Int32.ofNat e.1
/-- rows that are ready, one behind another -/
def RqL (W : Wo) (m zn fn lo hw : Nat) (A : Nat → Nat → Int32) (pn : Nat → Int32) (u0 : Vwr) (hi0 s0 : Nat) (cx : List (Option Nat)) : List (Nat × Nat) → Nat → Nat → List Nat → Prop
  | [], p, p', dd => p' = p ∧ dd = []
  | (r, y) :: T, p, p', dd => ∃ pm ds d2, r < 100 ∧ RowQ W m zn fn lo hw A pn u0 hi0 s0 r cx y p pm ds ∧ A 75 r = nxI T ∧ dd = ds ++ d2 ∧ (∀ z ∈ ds, z ∉ d2) ∧ RqL W m zn fn lo hw A pn u0 hi0 s0 cx T pm p' d2
theorem RpLs.snoc {R : Nat → Nat → Nat → Nat → Prop} {e x p2 : Nat} : ∀ (es xs : List Nat) (p0 p : Nat), RpLs R es xs p0 p → R e x p p2 → RpLs R (es ++ [e]) (xs ++ [x]) p0 p2
  | [], [], p0, p, k, r => by
    have k : p = p0 := k
    subst k
    exact ⟨p2, r, rfl⟩
  | d :: ds, c :: cs, p0, p, k, r => by
    obtain ⟨pm, k1, k2⟩ := k
    exact ⟨pm, k1, RpLs.snoc ds cs pm p k2 r⟩
  | [], _ :: _, _, _, k, _ => k.elim
  | _ :: _, [], _, _, k, _ => k.elim
def DoneP (W : Wo) (m zn fn : Nat) (S : RBs) (G : Nat → List Nat) (n : Nat) (cx : List (Option Nat)) (es xs : List Nat) (p0 p : Nat) : Prop := ∀ (u' : Vwr) (hi' : Nat), (∀ z, 700 * m ≤ z → z < 700 * m + S.1 → z ≠ n → u' z = vwR S G z) → 700 * m + S.1 ≤ hi' → ∃ g, RpLs (RpN W m zn fn u' hi' g cx) es xs p0 p
def DoneZ (W : Wo) (m : Nat) (S : RBs) (G : Nat → List Nat) (n : Nat) (Z : List (Nat × Nat)) (es xs : List Nat) : Prop := ∀ (u' : Vwr) (hi' : Nat), (∀ z, 700 * m ≤ z → z < 700 * m + S.1 → z ≠ n → u' z = vwR S G z) → 700 * m + S.1 ≤ hi' → ∀ e ∈ Z, ∃ f ∈ es.zip xs, DsN W m u' hi' f.1 f.2 e.1 e.2
theorem NRx.bx2 {M0 : Mem} {S0 : RBs} {G0 : Nat → List Nat} (h0 : NRx m A pn M0 S0 G0 M S G n H q ea ca) (b : BxO m A pn M S G M1 S1 G1 d H1 q1 ea1 ca1) (nn : ¬ H1 n) (hH : ∀ z, 700 * m ≤ z → z < 700 * m + S0.1 → H1 z → H z) : NRx m A pn M0 S0 G0 M1 S1 G1 n H (q + q1) (ea + ea1) (ca + ca1) := by
  obtain ⟨a1, a2, a3, a4, ⟨a5, a6, a7⟩, a8⟩ := id h0
  obtain ⟨b1, b2, b3, b4, b5, b8⟩ := id b
  have f := b.fr h0.own nn
  have := b4.1
  exact ⟨b1, a2.tr b2, b3, a4.tr b4 hH, ⟨a5, f.1.2, f.2⟩, by have := a8.1; have := b8.1; omega, by have := a8.2.1; have := b8.2.1; omega, a8.2.2.tr b4 b8.2.2⟩
theorem all_loop {Mb : Mem} {Sb : RBs} {Gb : Nat → List Nat} {p0 : Nat} (h4 : m < 4) : ∀ (T1 : List (Nat × Nat)) (p p' : Nat) (dd : List Nat) (M : Mem) (S : RBs) (G : Nat → List Nat) (es xs : List Nat) (q ca : Nat) (Z : List (Nat × Nat)), NRx m A pn Mb Sb Gb M S G n (fun z => 700 * m + s0 ≤ z) q ea ca → vwR S G n = (9, -1, es) → RqL W m zn fn lo hw A pn (vwR Sb Gb) (700 * m + Sb.1) s0 cx T1 p p' dd → (∀ z ∈ dd, frN m S z) → S.1 + T1.length ≤ 700 → DoneP W m zn fn S G n cx es xs p0 p → DoneZ W m S G n Z es xs → (∀ M' S' G' es', NRx m A pn Mb Sb Gb M' S' G' n (fun z => 700 * m + s0 ≤ z) (q + T1.length) ea (ca + dd.length) → vwR S' G' n = (9, -1, es') → DoneP W m zn fn S' G' n cx es' (xs ++ T1.map Prod.snd) p0 p' → DoneZ W m S' G' n (Z ++ dd.zip (T1.flatMap fun e => chV W e.2)) es' (xs ++ T1.map Prod.snd) → es.length ≤ es'.length → Q (some (.int (Int32.ofNat n))) M') → T (h + 4) mdX11_nodeOf 343 [(0, .ref 29), (3, .int (Int32.ofNat n)), (4, .int (nxI T1))] [] M Q := by
  intro T1
  induction T1 with
  | nil =>
    intro p p' dd M S G es xs q ca Z n0 v0 hq hfr hf hD hDz K
    obtain ⟨e1, e2⟩ := hq
    subst e1; subst e2
    refine VX11_nodeOf_343 ?_
    unfold DX11_nodeOf_343
    exact ⟨fun _ => K M S G es n0 v0 (by rw [List.map_nil, List.append_nil]; exact hD) (by rw [List.map_nil, List.append_nil, List.flatMap_nil, List.zip_nil_right, List.append_nil]; exact hDz) (Nat.le_refl _), fun z => absurd rfl z⟩
  | cons ry T1 ih =>
    intro p p' dd M S G es xs q ca Z n0 v0 hq hfr hf hD hDz K
    obtain ⟨r, y⟩ := ry
    obtain ⟨pm, ds, d2, hr, q1, q2, q3, q4, q5⟩ := hq
    subst q3
    have hf : S.1 + (T1.length + 1) ≤ 700 := hf
    have nb := n0.2.2.2.2.1
    have lb : Sb.1 ≤ S.1 := n0.2.2.2.1.1
    have inb : ∀ z ∈ ds, 700 * m ≤ z ∧ z < 700 * m + Sb.1 ∧ 700 * m + s0 ≤ z := by
      obtain ⟨a, t, xs, g, -, -, -, w, -⟩ := id q1
      exact fun z hz => ⟨(w z hz).1.1, (w z hz).1.2, (w z hz).2⟩
    refine VX11_nodeOf_343 ?_
    unfold DX11_nodeOf_343
    have lr : (Int32.ofNat r).toNatClampNeg = r := lt32 (by omega)
    refine ⟨fun z => absurd z (nm32 (by omega)), fun _ => ⟨ok29 n0.1.1, ?_⟩⟩
    show E (h + 3) mdX11_rowNode [.ref 29, .int (Int32.ofNat r)] M _
    refine B_row2 (h := h + 1) n0.1 n0.2.2.1 (by omega) hr q1 (fun d hd => hfr d (List.mem_append_left _ hd)) (fun M1 S1 G1 e b1 e1 e2 _ => ⟨_, rfl, ?_⟩)
    have s1 := b1.2.2.2.2.2
    have l1 : S.1 ≤ S1.1 := b1.2.2.2.1.1
    have fe := b1.2.2.2.2.1
    have n1 : NRx m A pn Mb Sb Gb M1 S1 G1 n (fun z => 700 * m + s0 ≤ z) (q + 1) (ea + 1) (ca + ds.length) := n0.bx2 b1 (fun hz => by have := (inb n hz.1).2.1; omega) (fun z _ _ hz => (inb z hz.1).2.2)
    have ne : e ≠ n := fun hz => by
      rcases e1 with w | w
      · have := (inb e w).2.1; omega
      · omega
    have v1 : vwR S1 G1 n = (9, -1, es) := by rw [(b1.2.2.2.1.2.1 n (by omega) nb.2.1).1]; exact v0
    refine B_ad (h := h + 2) n1 v1 fe ne (fun M2 S2 G2 n2 v2 f2 c2 w2 _ => ⟨rfl, 75, rf29_56 n2.1.1, ok75 n2.1.1, by show vp_in (Int32.ofNat r) _; rw [ln75 n2.1.1]; exact vp_of hr (by decide), ?_⟩)
    have e75 : mAI M2 75 r = nxI T1 := by rw [n2.1.2.2.2.2.2.1 75 (by decide) (by decide) (by decide)]; exact q2
    have lrr : (nxI ((r, y) :: T1)).toNatClampNeg = r := lr
    rw [lrr, e75]
    have n2' : NRx m A pn Mb Sb Gb M2 S2 G2 n (fun z => 700 * m + s0 ≤ z) (q + 1) ea (ca + ds.length) := NRx.nm (ea1 := ea + 1) (ca1 := ca + ds.length + 1) ⟨n2.1, n2.2.1, n2.2.2.1, n2.2.2.2.1.more (fun z _ z2 w => by
      rcases w with w | w
      · exact w
      · rcases e1 with e1 | e1
        · rw [w]; exact (inb e e1).2.2
        · omega), n2.2.2.2.2⟩ (by omega)
    have vw2 := n2'.vw
    have hee : ∀ (u' : Vwr) (hi' : Nat), (∀ z, 700 * m ≤ z → z < 700 * m + S2.1 → z ≠ n → u' z = vwR S2 G2 z) → 700 * m + S2.1 ≤ hi' → ds = [e] ∨ (u' e = (6, -1, ds) ∧ (700 * m ≤ e ∧ e < hi') ∧ 2 ≤ ds.length) := fun u' hi' hu hh => by
      rcases e2 with e2 | ⟨e2, e3⟩
      · exact Or.inl e2
      · exact Or.inr ⟨((hu e fe.1.1 (by have := fe.1.2; omega) ne).trans (w2 e ne)).trans e2, ⟨fe.1.1, by have := fe.1.2; omega⟩, e3⟩
    have lq : ds.length = (chV W y).length := (q1.dz (e := e) (u' := vwR S2 G2) (hi' := 700 * m + S2.1) (by omega) (hee _ _ (fun _ _ _ _ => rfl) (Nat.le_refl _))).1
    have lx : es.length = xs.length := by
      obtain ⟨g1, r1⟩ := hD (vwR S G) (700 * m + S.1) (fun _ _ _ _ => rfl) (Nat.le_refl _)
      exact RpLs.ln _ _ _ _ r1
    refine ih pm p' d2 M2 S2 G2 (es ++ [e]) (xs ++ [y]) (q + 1) (ca + ds.length) (Z ++ ds.zip (chV W y)) n2' v2 q5 (fun z hz => ?_) (by omega) ?_ (fun u' hi' hu hh t ht => ?_) (fun M3 S3 G3 es3 n3 v3 D3 Z3 l3 => K M3 S3 G3 es3 ?_ v3 ?_ ?_ ?_)
    · have fz := hfr z (List.mem_append_right _ hz)
      have fz1 := b1.fr fz (fun w => q4 z w.1 hz)
      refine f2 z fz1 (fun w => ?_)
      rcases e1 with e1 | e1
      · exact q4 e e1 (by rw [← w]; exact hz)
      · have := fz.1.2; omega
    · intro u' hi' hu hh
      have hu1 : ∀ z, 700 * m ≤ z → z < 700 * m + S1.1 → z ≠ n → u' z = vwR S1 G1 z := fun z z1 z2 z3 => (hu z z1 (by omega) z3).trans (w2 z z3)
      obtain ⟨g1, r1⟩ := hD u' hi' (fun z z1 z2 z3 => (hu1 z z1 (by omega) z3).trans (b1.2.2.2.1.2.1 z z1 z2).1) (by omega)
      have he : ds = [e] ∨ (u' e = (6, -1, ds) ∧ (700 * m ≤ e ∧ e < hi') ∧ 2 ≤ ds.length) := by
        rcases e2 with e2 | ⟨e2, e3⟩
        · exact Or.inl e2
        · exact Or.inr ⟨(hu1 e fe.1.1 fe.1.2 ne).trans e2, ⟨fe.1.1, by have := fe.1.2; omega⟩, e3⟩
      obtain ⟨g2, r2⟩ := q1.fin (e := e) (u' := u') (hi' := hi') (fun z z1 z2 => (hu z z1 (by omega) (by omega)).trans (vw2 z z1 z2)) (by omega) he
      exact ⟨max g1 g2, RpLs.snoc _ _ _ _ (RpLs.imp (fun _ _ _ _ k => k.mo (by omega)) _ _ _ _ r1) (r2.mo (by omega))⟩
    · rw [List.zip_append lx]
      rcases List.mem_append.mp ht with ht | ht
      · obtain ⟨f, f1, f2⟩ := hDz u' hi' (fun z z1 z2 z3 => ((hu z z1 (by omega) z3).trans (w2 z z3)).trans (b1.2.2.2.1.2.1 z z1 z2).1) (by omega) t ht
        exact ⟨f, List.mem_append_left _ f1, f2⟩
      · exact ⟨(e, y), List.mem_append_right _ (List.mem_singleton.mpr rfl), (q1.dz (by omega) (hee u' hi' hu hh)).2 t ht⟩
    · have : q + 1 + T1.length = q + (T1.length + 1) := by omega
      rw [this] at n3
      exact n3.nm (by rw [List.length_append]; omega)
    · rw [List.append_assoc] at D3
      exact D3
    · rw [List.append_assoc, List.append_assoc, ← List.zip_append lq] at Z3
      exact Z3
    · rw [List.length_append] at l3
      have l3 : es.length + 1 ≤ es3.length := l3
      omega
theorem B_all {T1 : List (Nat × Nat)} {d2 : List Nat} (hB : BuM m A pn S M) (hR : RgB m S G) (hf : S.1 + (3 + T1.length) ≤ 700) (hj : j < 40) (hr : r < 100) (e58 : A 58 (40 * m + j) = 16) (e69 : A 69 (40 * m + j) = Int32.ofNat r) (e75 : A 75 r = nxI T1) (hw1 : RowR W m zn fn lo hw A pn S G s0 r cx y p pm ds) (hq : RqL W m zn fn lo hw A pn (vwR S G) (700 * m + S.1) s0 cx T1 pm pb d2) (hfr : ∀ z ∈ d2, frN m S z) (hdj : ∀ z ∈ ds, z ∉ d2) (hs0 : s0 ≤ S.1) (hx : ndS (woV W) lo hw x 8 0 (y :: T1.map Prod.snd)) (C : KpZ W m zn fn A pn M S G s0 cx x p pb (3 + T1.length) (ds.length + d2.length) (40 * m + j) (ds.zip (chV W y) ++ d2.zip (T1.flatMap fun e => chV W e.2)) Q) : E (h + 6) mdX11_nodeOf [.ref 29, .int (Int32.ofNat (40 * m + j))] M Q := by
  refine B_hd hB hR (by omega) hj hr e69 hw1 hs0 (fun M1 S1 G1 d g b1 d1 r1 z1 => ?_)
  obtain ⟨F, h4, b2, b3, b4, b5, b6⟩ := id b1.1
  have l40 := lt40 h4 hj
  have v40 : ∀ {M : Mem} {c : Nat}, mL M c = 160 → vp_in (Int32.ofNat (40 * m + j)) (mL M c) := fun e => ix40 h4 hj e
  have m58 : mAI M1 58 (40 * m + j) = 16 := by rw [b5 58 (by decide) (by decide) (by decide)]; exact e58
  have s1 := b1.2.2.2.2.2
  have l1 : S.1 ≤ S1.1 := b1.2.2.2.1.1
  have hd := b1.2.2.2.2.1
  unfold DX11_nodeOf_24
  rw [l40]
  refine ⟨ok29 F, 58, rf29_38 F, ok58 F, v40 (ln58 F), ?_⟩
  rw [m58]
  refine ⟨fun z => absurd z (by decide), fun z => absurd z (by decide), fun z => absurd z (by decide), fun z => absurd z (by decide), fun z => absurd z (by decide), fun z => absurd z (by decide), fun z => absurd z (by decide), fun z => absurd z (by decide), fun z => absurd z (by decide), fun z => absurd z (by decide), fun z => absurd z (by decide), fun z => absurd z (by decide), fun z => absurd z (by decide), fun z => absurd z (by decide), fun z => absurd z (by decide), fun _ => ?_, fun z => absurd z (by decide)⟩
  refine B_ov1 (h := h + 3) b1.1 b1.2.2.1 (by omega) hd (fun M2 S2 G2 n n2 v2 _ => ⟨_, rfl, ?_⟩)
  have nb := n2.2.2.2.2.1
  have s2 := n2.2.2.2.2.2
  have F2 := n2.1.1
  have lr : (Int32.ofNat r).toNatClampNeg = r := lt32 (by omega)
  have m69 : mAI M2 69 (40 * m + j) = Int32.ofNat r := by rw [n2.1.2.2.2.2.2.1 69 (by decide) (by decide) (by decide)]; exact e69
  have m75 : mAI M2 75 r = nxI T1 := by rw [n2.1.2.2.2.2.2.1 75 (by decide) (by decide) (by decide)]; exact e75
  refine ⟨75, rf29_56 F2, 69, rf29_49 F2, ok69 F2, v40 (ln69 F2), ok75 F2, by rw [m69, ln75 F2]; exact vp_of hr (by decide), ?_⟩
  rw [m69, lr, m75]
  have k2 : NRx m A pn M S G M2 S2 G2 n (fun z => 700 * m + s0 ≤ z) 2 1 ds.length := (row_op hw1 b1 d1.1 n2 (fun z _ w => by rw [show z = d from w]; exact d1.1)).nm (by omega)
  refine all_loop (h := h + 2) (p0 := p) h4 T1 pm pb d2 M2 S2 G2 [d] [y] 2 ds.length (ds.zip (chV W y)) k2 v2 hq (fun z hz => ?_) (by omega) ?_ (fun u' hi' hu hh t ht => ⟨(d, y), List.mem_singleton.mpr rfl, DsN.st (fun z q1 q2 => (hu z q1 (by omega) (by omega)).trans (n2.vw z q1 q2)) (by omega) (z1 t ht)⟩) (fun M3 S3 G3 es n3 v3 D3 Z3 l3 => ?_)
  · have fz := hfr z hz
    refine n2.fr (b1.fr fz (fun w => hdj z w.1 hz)) (fun w => ?_)
    have w : z = d := w
    rcases d1.2 with e1 | e1
    · exact hdj d e1 (by rw [← w]; exact hz)
    · have := fz.1.2; omega
  · intro u' hi' hu hh
    refine ⟨g, pm, RpN.st (fun z z1 z2 => (hu z z1 (by omega) (by omega)).trans (n2.vw z z1 z2)) (by omega) _ _ _ _ _ _ _ (Nat.le_refl _) r1, rfl⟩
  · obtain ⟨g3, r3⟩ := D3 (vwR S3 G3) (700 * m + S3.1) (fun _ _ _ _ => rfl) (Nat.le_refl _)
    exact C M3 S3 G3 n (g3 + 1) (NRx.ny (n3.mo (by omega))) (N_al ⟨n3.own.1.1, n3.own.1.2⟩ hx v3 l3 r3) (fun t ht => by
      obtain ⟨f, f1, f2⟩ := Z3 (vwR S3 G3) (700 * m + S3.1) (fun _ _ _ _ => rfl) (Nat.le_refl _) t ht
      exact (DsN.ch n3.own.1 hx v3 (Or.inl (by decide)) f1).tr f2)
end
end
section
/-! the reference builds all parts -/
/-- the loop over the parts, before part j of module m -/
def bLp (h m : Nat) (x1 : Int32) (j : Nat) (M : Mem) (Q : Option Value → Mem → Prop) : Prop := T (h + 7) mdX11_build 20 [(0, .ref 29), (1, .int x1), (2, .int (Int32.ofNat (40 * m + j) + (-1)))] [] M Q
/-- traps with a part, of the nodes from s0 on: the part's node is the trap -/
def trM (m : Nat) (pn : Nat → Int32) (s0 : Nat) (S : RBs) (j j' : Nat) : Prop := ∀ z, 700 * m + s0 ≤ z → z < 700 * m + S.1 → S.2 80 z = 10 → S.2 81 z = -1 ∨ ∃ P, (40 * m + j ≤ P ∧ P < 40 * m + j') ∧ S.2 81 z = Int32.ofNat P ∧ pn P = Int32.ofNat z
/-- what the parts j .. j' have been built to -/
def BuO (m : Nat) (A : Nat → Nat → Int32) (M : Mem) (S : RBs) (G : Nat → List Nat) (pn : Nat → Int32) (M' : Mem) (S' : RBs) (G' : Nat → List Nat) (pn' : Nat → Int32) (j j' q nc : Nat) : Prop := BuM m A pn' S' M' ∧ RGb m M M' ∧ RgB m S' G' ∧ FrB m S G S' G' noN ∧ (S'.1 ≤ S.1 + q ∧ rtC m S' ≤ rtC m S + nc ∧ trM m pn' S.1 S' j j') ∧ ∀ P, P < 40 * m + j ∨ 40 * m + j' ≤ P → pn' P = pn P
/-- parts with their nodes, ready to be adopted -/
def PtY (W : Wo) (m zn fn : Nat) (pn : Nat → Int32) (S : RBs) (G : Nat → List Nat) (s0 : Nat) (cx : List (Option Nat)) (L : List (Nat × Nat)) (p p' : Nat) (ds : List Nat) : Prop := PnL pn (L.map fun e => 40 * m + e.1) ds ∧ (∀ d ∈ ds, frN m S d ∧ 700 * m + s0 ≤ d) ∧ ds.Nodup ∧ ∃ g, RpLs (RpN W m zn fn (vwR S G) (700 * m + S.1) g cx) ds (L.map Prod.snd) p p'
section
variable {m : Nat} {A : Nat → Nat → Int32} {pn pn1 pn2 : Nat → Int32} {S S1 S2 : RBs} {G G1 G2 : Nat → List Nat} {M M1 M2 : Mem} {h : Nat} {Q : Option Value → Mem → Prop} {W : Wo} {zn fn lo hw p p' pb pm pr x y j j' jm g d e q q1 q2 s0 s1 r nc nc1 nc2 : Nat} {cx : List (Option Nat)} {H : Nat → Prop} {k x1 : Int32} {K : List KE} {ds ys : List Nat} {L : List (Nat × Nat)}
/-- each part between j and j' has its nodes below a pair of Z -/
def PdZ (W : Wo) (m : Nat) (pn : Nat → Int32) (S : RBs) (G : Nat → List Nat) (Z : List (Nat × Nat)) (j j' : Nat) : Prop := ∀ i, j ≤ i → i < j' → ∃ e ∈ Z, ∃ yi xi, (pn (40 * m + i) = Int32.ofNat yi ∧ woP W i 1 = Int32.ofNat xi) ∧ (700 * m ≤ yi ∧ yi < 700 * m + S.1) ∧ DsN W m (vwR S G) (700 * m + S.1) e.1 e.2 yi xi
theorem dec1 {a : Nat} : Int32.ofNat (a + 1) + (-1) = Int32.ofNat a := by
  rw [Int32.ofNat_add, Int32.add_assoc]
  have : Int32.ofNat 1 + (-1) = 0 := by decide
  rw [this, Int32.add_zero]
theorem BuO.rf (hB : BuM m A pn S M) (hR : RgB m S G) : BuO m A M S G pn M S G pn j j' q nc := ⟨hB, RG.rf, hR, FrB.rf, ⟨Nat.le_add_right _ _, Nat.le_add_right _ _, fun z z1 z2 _ => absurd z1 (by omega)⟩, fun _ _ => rfl⟩
theorem BuO.tr (h1 : BuO m A M S G pn M1 S1 G1 pn1 jm j' q1 nc1) (h2 : BuO m A M1 S1 G1 pn1 M2 S2 G2 pn2 j jm q2 nc2) (ha : j ≤ jm) (hb : jm ≤ j') : BuO m A M S G pn M2 S2 G2 pn2 j j' (q1 + q2) (nc1 + nc2) := by
  obtain ⟨a1, a2, a3, a4, a5, a6⟩ := h1
  obtain ⟨b1, b2, b3, b4, b5, b6⟩ := h2
  refine ⟨b1, a2.tr b2, b3, a4.tr b4 (fun _ _ _ z => z), ⟨by have := a5.1; have := b5.1; omega, by have := a5.2.1; have := b5.2.1; omega, fun z z1 z2 z3 => ?_⟩, fun P hP => (b6 P (by omega)).trans (a6 P (by omega))⟩
  by_cases e : z < 700 * m + S1.1
  · have v := (b4.2.1 z (by omega) e).1
    have v80 : S2.2 80 z = S1.2 80 z := congrArg (fun w => w.1) v
    have v81 : S2.2 81 z = S1.2 81 z := congrArg (fun w => w.2.1) v
    rw [v80] at z3
    rw [v81]
    rcases a5.2.2 z z1 e z3 with w | ⟨P, w1, w2, w3⟩
    · exact Or.inl w
    · exact Or.inr ⟨P, by omega, w2, (b6 P (by omega)).trans w3⟩
  · rcases b5.2.2 z (by omega) z2 z3 with w | ⟨P, w1, w2, w3⟩
    · exact Or.inl w
    · exact Or.inr ⟨P, by omega, w2, w3⟩
theorem frN.fb (hf : frN m S d) (k : FrB m S G S1 G1 H) (nh : ¬ H d) : frN m S1 d := by
  have q := k.2.1 d hf.1.1 hf.1.2
  have := k.1
  exact ⟨⟨hf.1.1, by have := hf.1.2; omega⟩, (q.2 nh).trans hf.2⟩
theorem PnL.cg : ∀ (Ps ds : List Nat), (∀ P ∈ Ps, pn1 P = pn P) → PnL pn Ps ds → PnL pn1 Ps ds
  | [], [], _, h => h
  | P :: Ps, d :: ds, e, h => ⟨(e P List.mem_cons_self).trans h.1, PnL.cg Ps ds (fun z hz => e z (List.mem_cons_of_mem _ hz)) h.2⟩
  | [], _ :: _, _, h => h
  | _ :: _, [], _, h => h
theorem PtY.st (hp : PtY W m zn fn pn S G s0 cx L p p' ds) (f : FrB m S G S1 G1 noN) (hpn : ∀ e ∈ L, pn1 (40 * m + e.1) = pn (40 * m + e.1)) (hs : s1 ≤ s0) : PtY W m zn fn pn1 S1 G1 s1 cx L p p' ds := by
  obtain ⟨w1, w2, w3, g, w4⟩ := hp
  have l := f.1
  refine ⟨PnL.cg _ _ (fun P hP => ?_) w1, fun d hd => ⟨(w2 d hd).1.fb f (fun z => z), by have := (w2 d hd).2; omega⟩, w3, g, RpLs.imp (fun _ _ _ _ k => RpN.st (fun z h1 h2 => (f.2.1 z h1 h2).1) (by omega) _ _ _ _ _ _ _ (Nat.le_refl _) k) _ _ _ _ w4⟩
  obtain ⟨e, he, rfl⟩ := List.mem_map.mp hP
  exact hpn e he
/-- one part before others -/
theorem PtY.cons {ds1 : List Nat} (h1 : PtY W m zn fn pn S G s1 cx [(j, x)] p pm ds1) (h2 : PtY W m zn fn pn S G s0 cx L pm p' ds) (hs : s0 ≤ s1) (hlt : ∀ d ∈ ds, d < 700 * m + s1) : ∃ d, ds1 = [d] ∧ PtY W m zn fn pn S G s0 cx ((j, x) :: L) p p' (d :: ds) := by
  obtain ⟨a1, a2, a3, g1, a4⟩ := h1
  obtain ⟨w1, w2, w3, g2, w4⟩ := h2
  cases ds1 with
  | nil => exact a1.elim
  | cons d es =>
    have hes : es = [] := by
      cases es with
      | nil => rfl
      | cons _ _ => exact a1.2.elim
    subst hes
    have hd := a2 d List.mem_cons_self
    obtain ⟨pz, r1, r2⟩ := a4
    have r2 : pm = pz := r2
    subst r2
    refine ⟨d, rfl, ⟨a1.1, w1⟩, fun z hz => ?_, List.nodup_cons.mpr ⟨fun hz => ?_, w3⟩, max g1 g2, pm, r1.mo (by omega), RpLs.imp (fun _ _ _ _ k => k.mo (by omega)) _ _ _ _ w4⟩
    · rcases List.mem_cons.mp hz with e | e
      · rw [e]; exact ⟨hd.1, by have := hd.2; omega⟩
      · exact w2 z e
    · have := hlt d hz
      have := hd.2
      omega
theorem PtY.row (hp : PtY W m zn fn pn S G s0 cx ((j, x) :: L) p p' ds) (hA : woA W = A) (hj : ∀ e ∈ (j, x) :: L, 40 * m + e.1 < 160) (hr : RwA (woA W) r (40 * m + j) (L.map fun e => 40 * m + e.1)) (hy : ndS (woV W) lo hw y 5 0 (x :: L.map Prod.snd)) : RowR W m zn fn lo hw A pn S G s0 r cx y p p' ds := by
  obtain ⟨w1, w2, w3, g, w4⟩ := hp
  rw [hA] at hr
  refine ⟨40 * m + j, L.map (fun (e : Nat × Nat) => 40 * m + e.1), x :: L.map Prod.snd, g, hr, fun z hz => ?_, w1, w2, w3, hy, w4⟩
  have hz : z ∈ ((j, x) :: L).map fun e => 40 * m + e.1 := hz
  obtain ⟨e, he, rfl⟩ := List.mem_map.mp hz
  exact hj e he
theorem RowR.less (hw1 : RowR W m zn fn lo hw A pn S G s1 r cx y p p' ds) (hs : s0 ≤ s1) : RowR W m zn fn lo hw A pn S G s0 r cx y p p' ds := by
  obtain ⟨a, t, xs, g, w1, w2, w3, w4, w5, w6, w7⟩ := hw1
  exact ⟨a, t, xs, g, w1, w2, w3, fun d hd => ⟨(w4 d hd).1, by have := (w4 d hd).2; omega⟩, w5, w6, w7⟩
theorem RowR.pnx (hw1 : RowR W m zn fn lo hw A pn S G s0 r cx y p p' ds) (f : FrB m S G S1 G1 noN) (hpn : ∀ a t, RwA A r a t → ∀ z ∈ a :: t, pn1 z = pn z) : RowR W m zn fn lo hw A pn1 S1 G1 s0 r cx y p p' ds := by
  obtain ⟨a, t, xs, g, w1, w2, w3, w4, w5, w6, w7⟩ := hw1.st f (fun _ _ z => z)
  exact ⟨a, t, xs, g, w1, w2, PnL.cg _ _ (hpn a t w1) w3, w4, w5, w6, w7⟩
/-- one turn of the loop: part j is built -/
theorem PdZ.st {Z : List (Nat × Nat)} (h : PdZ W m pn S G Z j j') (f : FrB m S G S1 G1 H) (hpn : ∀ P, 40 * m + j ≤ P → P < 40 * m + j' → pn1 P = pn P) : PdZ W m pn1 S1 G1 Z j j' := fun i h1 h2 => by
  obtain ⟨e, he, yi, xi, ⟨a1, a2⟩, a3, a4⟩ := h i h1 h2
  exact ⟨e, he, yi, xi, ⟨by rw [hpn _ (by omega) (by omega)]; exact a1, a2⟩, ⟨a3.1, by have := f.1; omega⟩, f.dsn a4⟩
theorem PdZ.ap {Z Z2 : List (Nat × Nat)} (h : PdZ W m pn S G Z j jm) (k : PdZ W m pn S G Z2 jm j') : PdZ W m pn S G (Z ++ Z2) j j' := fun i h1 h2 => by
  by_cases q : i < jm
  · obtain ⟨e, he, w⟩ := h i h1 q
    exact ⟨e, List.mem_append_left _ he, w⟩
  · obtain ⟨e, he, w⟩ := k i (by omega) h2
    exact ⟨e, List.mem_append_right _ he, w⟩
theorem PdZ.up {Z : List (Nat × Nat)} (h : PdZ W m pn S G Z (j + 1) j') (hd : ∀ e ∈ Z, DsN W m (vwR S G) (700 * m + S.1) y x e.1 e.2) (hp : pn (40 * m + j) = Int32.ofNat y) (hx : woP W j 1 = Int32.ofNat x) (hy : 700 * m ≤ y ∧ y < 700 * m + S.1) : PdZ W m pn S G [(y, x)] j j' := fun i h1 h2 => by
  by_cases q : i = j
  · subst q
    exact ⟨(y, x), List.mem_singleton.mpr rfl, y, x, ⟨hp, hx⟩, hy, DsN.rf⟩
  · obtain ⟨e, he, yi, xi, a1, a3, a4⟩ := h i (by omega) h2
    exact ⟨(y, x), List.mem_singleton.mpr rfl, yi, xi, a1, a3, (hd e he).tr a4⟩
theorem b_step {Z : List (Nat × Nat)} (hB : BuM m A pn S M) (hj : j < 40) (hs0 : s0 ≤ S.1) (hn : ∀ Q' : Option Value → Mem → Prop, KpZ W m zn fn A pn M S G s0 cx x p p' q nc (40 * m + j) Z Q' → E (h + 6) mdX11_nodeOf [.ref 29, .int (Int32.ofNat (40 * m + j))] M Q') (C : ∀ M' S' G' y pn', BuM m A pn' S' M' → RGb m M M' → RgB m S' G' → FrB m S G S' G' (fun z => 700 * m + s0 ≤ z) → (S'.1 ≤ S.1 + q ∧ rtC m S' + nc ≤ rtC m S + 1) → (∀ z, 700 * m + S.1 ≤ z → z < 700 * m + S'.1 → S'.2 80 z = 10 → S'.2 81 z = -1 ∨ (S'.2 81 z = Int32.ofNat (40 * m + j) ∧ pn' (40 * m + j) = Int32.ofNat z)) → (∀ P, P ≠ 40 * m + j → pn' P = pn P) → PtY W m zn fn pn' S' G' s0 cx [(j, x)] p p' [y] → (∀ e ∈ Z, DsN W m (vwR S' G') (700 * m + S'.1) y x e.1 e.2) → bLp h m x1 j M' Q) : bLp h m x1 (j + 1) M Q := by
  obtain ⟨F, h4, b2, b3, b4, b5, b6⟩ := id hB
  have l40 := lt40 h4 hj
  unfold bLp
  rw [← Nat.add_assoc, dec1]
  refine VX11_build_20 ?_
  unfold DX11_build_20
  rw [b2]
  have ge : ¬ (Int32.ofNat (40 * m + j) < 40 * Int32.ofNat m) := by
    have : (40 : Int32) * Int32.ofNat m = Int32.ofNat (40 * m) := by rw [Int32.ofNat_mul]; rfl
    rw [this, ltn32 (by omega) (by omega)]
    omega
  refine ⟨ok29 F, fun z => absurd z ge, fun _ => ⟨90, rf29_72 F, hn _ (fun M1 S1 G1 y g n1 r1 z1 _ => ⟨_, rfl, ok90 n1.1.1, ix40 h4 hj (ln90 n1.1.1), fun M2 e2 => ?_⟩)⟩⟩
  rw [l40] at e2
  have g2 : RGb m M1 M2 := by rw [e2]; exact RG.ai (by decide) (by rw [show szA 90 = 40 by decide]; omega)
  have eA : mAI M2 = up2 (mAI M1) 90 (40 * m + j) (Int32.ofNat y) := by rw [e2]; rfl
  have nb := n1.2.2.2.2.1
  refine C M2 S1 G1 y (va_up pn (40 * m + j) (Int32.ofNat y)) ⟨g2.fix n1.1.1 (by decide), h4, by rw [g2.fI (by decide)]; exact n1.1.2.2.1, ?_, fun c c1 c2 => ?_, fun c c1 c2 c3 => ?_, ?_⟩ (n1.2.1.tr g2) n1.2.2.1 n1.2.2.2.1 n1.2.2.2.2.2.1 (fun z z1 z2 z3 => (n1.2.2.2.2.2.2 z z1 z2 z3).imp id (fun w => ⟨w.2, by rw [va_up_self, w.1]⟩)) (fun P hP => va_up_ne _ _ hP) ⟨⟨va_up_self _ _ _, trivial⟩, fun d hd => ?_, by simp, g, p', r1, rfl⟩ z1
  · rw [eA, up2_row (by decide)]; exact n1.1.2.2.2.1
  · rw [eA, up2_row (by omega)]; exact n1.1.2.2.2.2.1 c c1 c2
  · rw [eA, up2_row (by omega)]; exact n1.1.2.2.2.2.2.1 c c1 c2 c3
  · funext P
    rw [eA]
    by_cases e : P = 40 * m + j
    · rw [e, va_up_self]; exact up2_eq
    · rw [va_up_ne _ _ e, up2_ne (fun z => e z.2), n1.1.2.2.2.2.2.2]
  · rw [List.mem_singleton] at hd
    rw [hd]
    exact ⟨⟨⟨by omega, nb.2.1⟩, nb.2.2⟩, by omega⟩
end
end
