/-! the reference builds: watch, awaiting, halting, aborting, everying -/
section
variable {m : Nat} {A : Nat → Nat → Int32} {pn : Nat → Int32} {S : RBs} {G : Nat → List Nat} {M : Mem} {h : Nat} {Q : Option Value → Mem → Prop} {W : Wo} {zn fn lo hw p p2 x xb j g d : Nat} {l : Int32} {im : Bool} {cx : List (Option Nat)} {Z : List (Nat × Nat)}
theorem bI_0 : bI im = 0 ↔ im = false := by cases im <;> decide
theorem CdW.ch (hj : j < 40) (hc : CdW W m zn (40 * m + j) l) : ChW W m zn fn 4 (Int32.ofNat (40 * m + j)) l := Or.inl ⟨rfl, j, hj, rfl, hc⟩
theorem B_watch (hB : BuM m A pn S M) (hR : RgB m S G) (hf : S.1 + 5 ≤ 700) (hj : j < 40) (hw1 : waS (woV W) lo hw x l im p) (hc : CdW W m zn (40 * m + j) l) (K : ∀ M' S' G' y, NRx m A pn M S G M' S' G' y noN 5 1 0 → (∀ cx, cx ≠ [] → RpN W m zn fn (vwR S' G') (700 * m + S'.1) 4 cx y x p (p + 1)) → Q (some (.int (Int32.ofNat y))) M') : E (h + 3) mdX11_watch [.ref 29, .int (Int32.ofNat (40 * m + j)), .int (bI im)] M Q := by
  obtain ⟨sq, pa, ch, ex, no, w1, w2, w3, w4, w5, w6⟩ := hw1
  refine KX11_watch ?_
  unfold DX11_watch_0
  refine ⟨ok29 hB.1, B_nd hB hR (by omega) (fun M1 S1 G1 y1 n1 v1 _ => ⟨_, rfl, ?_⟩)⟩
  have s1 := n1.2.2.2.2.2
  refine B_nd n1.1 n1.2.2.1 (by omega) (fun M2 S2 G2 y2 n2 v2 _ => ⟨_, rfl, ?_⟩)
  have s2 := n2.2.2.2.2.2
  refine B_ov1 n2.1 n2.2.2.1 (by omega) n2.own (fun M3 S3 G3 y3 n3 v3 _ => ⟨_, rfl, ?_⟩)
  have s3 := n3.2.2.2.2.2
  have f1 : frN m S3 y1 := n3.fr (n2.fr n1.own (fun z => z)) (fun z => by
    have z : y1 = y2 := z
    have := n2.2.2.2.2.1.1
    have := n1.2.2.2.2.1.2.1
    omega)
  have ne : y1 ≠ y3 := fun z => by
    have := n3.2.2.2.2.1.1
    have := n2.2.2.2.1.1
    have := n1.2.2.2.2.1.2.1
    omega
  have r1 : ∀ cx, RpN W m zn fn (vwR S3 G3) (700 * m + S3.1) 2 cx y1 pa p (p + 1) := fun cx => n3.rp (n2.rp (g' := 1) (N_pa (g := 0) ⟨n1.own.1.1, n1.own.1.2⟩ w3 v1) (by omega)) (by omega)
  have r3 : ∀ cx q, cx ≠ [] → RpN W m zn fn (vwR S3 G3) (700 * m + S3.1) 2 cx y3 ch q q := fun cx q hn => N_ch1 ⟨n3.own.1.1, n3.own.1.2⟩ w4 (CdW.ch hj hc) v3 (n3.rp (g' := 1) (N_ex0 (g := 0) ⟨n2.own.1.1, n2.own.1.2⟩ w5 hn v2) (by omega)) w6
  have b1 := n1.2.2.2.2.1
  have b2 := n2.2.2.2.2.1
  have b3 := n3.2.2.2.2.1
  have k2 : NRx m A pn M S G M2 S2 G2 y2 noN 2 2 0 := n1.tr n2 (H := noN) (fun _ _ _ z => z) (fun _ _ _ z => z)
  have k3 : NRx m A pn M S G M3 S3 G3 y3 noN 3 3 1 := k2.tr n3 (H := noN) (fun _ _ _ z => z) (fun z _ z2 w => by
    have w : z = y2 := w
    have := n1.2.2.2.1.1
    omega)
  have fin : ∀ c d, frN m S3 c → frN m S3 d → c ≠ d → 700 * m + S.1 ≤ c → 700 * m + S.1 ≤ d → (∀ cx, cx ≠ [] → RpLs (RpN W m zn fn (vwR S3 G3) (700 * m + S3.1) 2 cx) [c, d] (if im = true then [ch, pa] else [pa, ch]) p (p + 1)) → DX11_watch_50 (h + 2) 29 7 (-1) 29 6 (-1) (Int32.ofNat c) (Int32.ofNat d) M3 Q := by
    intro c d fc fd hne hc1 hd1 hl
    unfold DX11_watch_50
    refine ⟨ok29 n3.1.1, B_ov2 n3.1 n3.2.2.1 (by omega) fc fd hne (fun M4 S4 G4 y4 n4 v4 _ => ⟨_, rfl, ok29 n4.1.1, ?_⟩)⟩
    have s4 := n4.2.2.2.2.2
    refine B_ov1 n4.1 n4.2.2.1 (by omega) n4.own (fun M5 S5 G5 y5 n5 v5 _ => ⟨_, rfl, K M5 S5 G5 y5 ?_ (fun cx hn => ?_)⟩)
    · have k4 : NRx m A pn M S G M4 S4 G4 y4 noN 4 4 3 := k3.tr n4 (H := noN) (fun _ _ _ z => z) (fun z _ z2 w => by
        have w : z = c ∨ z = d := w
        omega)
      exact (k4.tr n5 (H := noN) (fun _ _ _ z => z) (fun z _ z2 w => by
        have w : z = y4 := w
        have := k4.2.2.2.2.1.1
        omega)).nm (by decide)
    · refine N_lo ⟨n5.own.1.1, n5.own.1.2⟩ w1 v5 (n5.rp (g := 3) ?_ (Nat.le_refl _))
      exact N_seq ⟨n4.own.1.1, n4.own.1.2⟩ w2 v4 (by show 2 ≤ 2; omega) (RpLs.imp (fun _ _ _ _ k => n4.rp k (Nat.le_refl _)) _ _ _ _ (hl cx hn))
  have b13 : 700 * m + S.1 ≤ y3 := k3.2.2.2.2.1.1
  unfold DX11_watch_40
  cases im with
  | false =>
    refine ⟨fun _ => ⟨fun _ => fin y1 y3 f1 n3.own ne b1.1 b13 (fun cx hn => ⟨p + 1, r1 cx, p + 1, r3 cx _ hn, rfl⟩), fun z => absurd rfl z⟩, fun z => absurd rfl z⟩
  | true =>
    refine ⟨fun z => absurd z (by decide), fun _ => ⟨fun z => absurd z (by decide), fun _ => fin y3 y1 n3.own f1 (fun z => ne z.symm) b13 b1.1 (fun cx hn => ⟨p, r3 cx _ hn, p + 1, r1 cx, rfl⟩)⟩⟩
theorem B_await (hB : BuM m A pn S M) (hR : RgB m S G) (hf : S.1 + 6 ≤ 700) (hj : j < 40) (hw1 : awS (woV W) lo hw x l im p) (hc : CdW W m zn (40 * m + j) l) (K : ∀ M' S' G' y, NRx m A pn M S G M' S' G' y noN 6 1 0 → (∀ cx, RpN W m zn fn (vwR S' G') (700 * m + S'.1) 5 cx y x p (p + 1)) → Q (some (.int (Int32.ofNat y))) M') : E (h + 4) mdX11_awaiting [.ref 29, .int (Int32.ofNat (40 * m + j)), .int (bI im)] M Q := by
  obtain ⟨y0, w1, w2⟩ := hw1
  refine KX11_awaiting ?_
  unfold DX11_awaiting_0
  refine ⟨ok29 hB.1, B_watch (fn := fn) hB hR (by omega) hj w2 hc (fun M1 S1 G1 y1 n1 v1 _ => ⟨_, rfl, ?_⟩)⟩
  have s1 := n1.2.2.2.2.2
  refine B_ov1 (h := h + 1) n1.1 n1.2.2.1 (by omega) n1.own (fun M2 S2 G2 y2 n2 v2 _ => ⟨_, rfl, K M2 S2 G2 y2 ((n1.tr n2 (fun _ _ _ z => z) (fun z _ z2 w => ?_)).nm (by decide)) (fun cx => ?_)⟩)
  · have w : z = y1 := w
    have := n1.2.2.2.2.1.1
    omega
  · exact N_tr0 ⟨n2.own.1.1, n2.own.1.2⟩ w1 v2 (n2.rp (v1 _ (by simp)) (Nat.le_refl _))
theorem B_halt (hB : BuM m A pn S M) (hR : RgB m S G) (hf : S.1 + 2 ≤ 700) (hw1 : haS (woV W) lo hw x p) (K : ∀ M' S' G' y, NRx m A pn M S G M' S' G' y noN 2 1 0 → (∀ cx, RpN W m zn fn (vwR S' G') (700 * m + S'.1) 2 cx y x p (p + 1)) → Q (some (.int (Int32.ofNat y))) M') : E (h + 3) mdX11_halting [.ref 29] M Q := by
  obtain ⟨y0, w1, w2⟩ := hw1
  refine KX11_halting ?_
  unfold DX11_halting_0
  refine ⟨ok29 hB.1, B_nd hB hR (by omega) (fun M1 S1 G1 y1 n1 v1 _ => ⟨_, rfl, ?_⟩)⟩
  have s1 := n1.2.2.2.2.2
  refine B_ov1 n1.1 n1.2.2.1 (by omega) n1.own (fun M2 S2 G2 y2 n2 v2 _ => ⟨_, rfl, K M2 S2 G2 y2 ((n1.tr n2 (fun _ _ _ z => z) (fun z _ z2 w => ?_)).nm (by decide)) (fun cx => ?_)⟩)
  · have w : z = y1 := w
    have := n1.2.2.2.2.1.1
    omega
  · exact N_lo ⟨n2.own.1.1, n2.own.1.2⟩ w1 v2 (n2.rp (N_pa (g := 0) ⟨n1.own.1.1, n1.own.1.2⟩ w2 v1) (Nat.le_refl _))
/-- aborting, behind the part that is held -/
theorem B_ab17 {M0 : Mem} {S0 : RBs} {G0 : Nat → List Nat} {q ea ca : Nat} {x3 x4 : Int32} {H : Nat → Prop} (n0 : NRx m A pn M0 S0 G0 M S G d H q ea ca ∨ (M0 = M ∧ S0 = S ∧ G0 = G ∧ H = (fun z => z = d) ∧ (q = 0 ∧ ea = 0 ∧ ca = 0) ∧ BuM m A pn S M ∧ RgB m S G)) (hd : frN m S d) (hf : S.1 + 9 ≤ 700) (hj : j < 40) (hw1 : wkS (woV W) lo hw x xb l im p2) (hc : CdW W m zn (40 * m + j) l) (hfl : (x3 = 0 ∧ im = false) ∨ (x3 ≠ 0 ∧ x4 = bI im)) (hg : 3 ≤ g) (hb : RpN W m zn fn (vwR S G) (700 * m + S.1) g (none :: cx) d xb p p2) (hz : ∀ e ∈ Z, DsN W m (vwR S G) (700 * m + S.1) d xb e.1 e.2) (K : ∀ M' S' G' y, NRx m A pn M0 S0 G0 M' S' G' y H (q + 9) (ea + 1) (ca + 1) → RpN W m zn fn (vwR S' G') (700 * m + S'.1) (g + 3) cx y x p (p2 + 1) → (∀ e ∈ Z, DsN W m (vwR S' G') (700 * m + S'.1) y x e.1 e.2) → Q (some (.int (Int32.ofNat y))) M') : DX11_aborting_17 (h + 3) 29 (Int32.ofNat (40 * m + j)) x3 x4 (Int32.ofNat d) M Q := by
  obtain ⟨par, sq, wa, ex, w1, w2, w3, w4, w5⟩ := hw1
  have hB : BuM m A pn S M := by rcases n0 with z | z; exact z.1; exact z.2.2.2.2.2.1
  have hR : RgB m S G := by rcases n0 with z | z; exact z.2.2.1; exact z.2.2.2.2.2.2
  unfold DX11_aborting_17
  refine ⟨ok29 hB.1, B_nd (h := h + 2) hB hR (by omega) (fun M1 S1 G1 y1 n1 v1 _ => ⟨_, rfl, ?_⟩)⟩
  have s1 := n1.2.2.2.2.2
  have b1 := n1.2.2.2.2.1
  have hne : d ≠ y1 := fun z => by have := hd.1.2; omega
  refine B_ov2 (h := h + 1) n1.1 n1.2.2.1 (by omega) (n1.fr hd (fun z => z)) n1.own hne (fun M2 S2 G2 y2 n2 v2 _ => ⟨_, rfl, ?_⟩)
  have s2 := n2.2.2.2.2.2
  have b2 := n2.2.2.2.2.1
  have k2 : NRx m A pn M S G M2 S2 G2 y2 (fun z => z = d) 2 2 2 := n1.tr n2 (fun _ _ _ z => z.elim) (fun z _ z2 w => by
    have w : z = d ∨ z = y1 := w
    rcases w with w | w
    · exact w
    · omega)
  have r2 : RpN W m zn fn (vwR S2 G2) (700 * m + S2.1) (g + 1) (none :: cx) y2 sq p p2 := N_seq ⟨n2.own.1.1, n2.own.1.2⟩ w3 v2 (by show 2 ≤ 2; omega) ⟨p2, k2.rp hb (Nat.le_refl _), p2, n2.rp (N_ex0 (g := 0) ⟨n1.own.1.1, n1.own.1.2⟩ w4 (by simp) v1) (by omega), rfl⟩
  have fin : ∀ x9 : Int32, x9 = bI im → DX11_aborting_62 (h + 3) 29 10 (-1) 29 9 (-1) (Int32.ofNat y2) 29 (Int32.ofNat (40 * m + j)) x9 M2 Q := by
    intro x9 e9
    subst e9
    unfold DX11_aborting_62
    refine ⟨ok29 n2.1.1, B_watch (fn := fn) n2.1 n2.2.2.1 (by omega) hj w5 hc (fun M3 S3 G3 y3 n3 v3 _ => ⟨_, rfl, ok29 n3.1.1, ?_⟩)⟩
    have s3 := n3.2.2.2.2.2
    have b3 := n3.2.2.2.2.1
    refine B_ov2 (h := h + 1) n3.1 n3.2.2.1 (by omega) (n3.fr n2.own (fun z => z)) n3.own (by omega) (fun M4 S4 G4 y4 n4 v4 _ => ⟨_, rfl, ok29 n4.1.1, ?_⟩)
    have s4 := n4.2.2.2.2.2
    have b4 := n4.2.2.2.2.1
    refine B_ov1 (h := h + 1) n4.1 n4.2.2.1 (by omega) n4.own (fun M5 S5 G5 y5 n5 v5 _ => ⟨_, rfl, K M5 S5 G5 y5 ?_ ?_ (fun e he => (DsN.ch n5.own.1 w1 v5 (Or.inl (by decide)) (d := y4) (c := par) (by simp)).tr (n5.2.2.2.1.dsn ((DsN.ch n4.own.1 w2 v4 (Or.inl (by decide)) (d := y2) (c := sq) (by simp)).tr (n4.2.2.2.1.dsn (n3.2.2.2.1.dsn ((DsN.ch n2.own.1 w3 v2 (Or.inr (fun z => Nat.noConfusion (Nat.succ.inj z))) (d := d) (c := xb) (by simp)).tr (k2.2.2.2.1.dsn (hz e he))))))))⟩)
    · have k3 : NRx m A pn M S G M3 S3 G3 y3 (fun z => z = d) 7 3 2 := k2.tr n3 (fun _ _ _ z => z) (fun _ _ _ z => z.elim)
      have k4 : NRx m A pn M S G M4 S4 G4 y4 (fun z => z = d) 8 4 4 := k3.tr n4 (fun _ _ _ z => z) (fun z _ z2 w => by
        have w : z = y2 ∨ z = y3 := w
        have := k2.2.2.2.2.1.1
        have := k3.2.2.2.2.1.1
        omega)
      have k5' : NRx m A pn M S G M5 S5 G5 y5 (fun z => z = d) 9 5 5 := k4.tr n5 (fun _ _ _ z => z) (fun z _ z2 w => by
        have w : z = y4 := w
        have := k4.2.2.2.2.1.1
        omega)
      have k5 : NRx m A pn M S G M5 S5 G5 y5 (fun z => z = d) 9 1 1 := k5'.nm (by decide)
      rcases n0 with z | ⟨e1, e2, e3, e4, ⟨e5, e6, e7⟩, -⟩
      · refine z.tr k5 (fun _ _ _ z => z) (fun y _ y2 w => ?_)
        have w : y = d := w
        have := z.2.2.2.2.1.1
        omega
      · subst e1; subst e2; subst e3; subst e4; subst e5; subst e6; subst e7
        exact k5.mo (by omega)
    · refine N_tr0 ⟨n5.own.1.1, n5.own.1.2⟩ w1 v5 (n5.rp (g := g + 2) ?_ (Nat.le_refl _))
      exact N_al ⟨n4.own.1.1, n4.own.1.2⟩ w2 v4 (by show 1 ≤ 2; omega) ⟨p2, n4.rp (n3.rp (g' := g + 1) r2 (Nat.le_refl _)) (Nat.le_refl _), p2 + 1, n4.rp (v3 _ (by simp)) (by omega), rfl⟩
  unfold DX11_aborting_61
  rcases hfl with ⟨e1, e2⟩ | ⟨e1, e2⟩
  · exact ⟨fun _ => fin 0 (by rw [e2]; rfl), fun z => absurd e1 z⟩
  · refine ⟨fun z => absurd z e1, fun _ => ⟨fun z => fin 0 (by rw [← e2, z]), fun z => fin 1 ?_⟩⟩
    rw [e2] at z
    cases im with
    | false => exact absurd rfl z
    | true => rfl
theorem B_weak (hB : BuM m A pn S M) (hR : RgB m S G) (hd : frN m S d) (hf : S.1 + 9 ≤ 700) (hj : j < 40) (hw1 : wkS (woV W) lo hw x xb l im p2) (hc : CdW W m zn (40 * m + j) l) (hg : 3 ≤ g) (hb : RpN W m zn fn (vwR S G) (700 * m + S.1) g (none :: cx) d xb p p2) (hz : ∀ e ∈ Z, DsN W m (vwR S G) (700 * m + S.1) d xb e.1 e.2) (K : ∀ M' S' G' y, NRx m A pn M S G M' S' G' y (fun z => z = d) 9 1 1 → RpN W m zn fn (vwR S' G') (700 * m + S'.1) (g + 3) cx y x p (p2 + 1) → (∀ e ∈ Z, DsN W m (vwR S' G') (700 * m + S'.1) y x e.1 e.2) → Q (some (.int (Int32.ofNat y))) M') : E (h + 4) mdX11_aborting [.ref 29, .int (Int32.ofNat (40 * m + j)), .int (Int32.ofNat d), .int 1, .int (bI im)] M Q := by
  refine KX11_aborting ?_
  unfold DX11_aborting_0
  exact ⟨fun z => absurd z (by decide), fun _ => B_ab17 (Or.inr ⟨rfl, rfl, rfl, rfl, ⟨rfl, rfl, rfl⟩, hB, hR⟩) hd hf hj hw1 hc (Or.inr ⟨by decide, rfl⟩) hg hb hz (fun M' S' G' y n r z => K M' S' G' y (n.mo (by omega)) r z)⟩
theorem B_abort (hB : BuM m A pn S M) (hR : RgB m S G) (hd : frN m S d) (hf : S.1 + 10 ≤ 700) (hj : j < 40) (hw1 : abS (woV W) lo hw x xb l p2) (hc : CdW W m zn (40 * m + j) l) (hg : 3 ≤ g) (hb : RpN W m zn fn (vwR S G) (700 * m + S.1) g (none :: cx) d xb p p2) (hz : ∀ e ∈ Z, DsN W m (vwR S G) (700 * m + S.1) d xb e.1 e.2) (K : ∀ M' S' G' y, NRx m A pn M S G M' S' G' y (fun z => z = d) 10 1 1 → RpN W m zn fn (vwR S' G') (700 * m + S'.1) (g + 4) cx y x p (p2 + 1) → (∀ e ∈ Z, DsN W m (vwR S' G') (700 * m + S'.1) y x e.1 e.2) → Q (some (.int (Int32.ofNat y))) M') : E (h + 4) mdX11_aborting [.ref 29, .int (Int32.ofNat (40 * m + j)), .int (Int32.ofNat d), .int 0, .int 0] M Q := by
  obtain ⟨y0, w1, w2⟩ := hw1
  refine KX11_aborting ?_
  unfold DX11_aborting_0
  refine ⟨fun _ => ⟨ok29 hB.1, B_ov1 (h := h + 1) hB hR (by omega) hd (fun M1 S1 G1 y1 n1 v1 _ => ⟨_, rfl, ?_⟩)⟩, fun z => absurd rfl z⟩
  have s1 := n1.2.2.2.2.2
  have r1 : RpN W m zn fn (vwR S1 G1) (700 * m + S1.1) (g + 1) (none :: cx) y1 y0 p p2 := N_su ⟨n1.own.1.1, n1.own.1.2⟩ w1 hj hc v1 (n1.rp hb (Nat.le_refl _))
  exact B_ab17 (Or.inl n1) n1.own (by omega) hj w2 hc (Or.inl ⟨rfl, rfl⟩) (by omega) r1 (fun e he => (DsN.ch n1.own.1 w1 v1 (Or.inl (by decide)) (d := d) (c := xb) (by simp)).tr (n1.2.2.2.1.dsn (hz e he))) (fun M' S' G' y n r z => K M' S' G' y (n.nm (by decide)) r z)
theorem B_every (hB : BuM m A pn S M) (hR : RgB m S G) (hd : frN m S d) (hf : S.1 + 21 ≤ 700) (hj : j < 40) {xa p1 : Nat} (ha : awS (woV W) lo hw xa l im p) (he : evS (woV W) lo hw x xb xa l p2 (p2 + 1)) (hc : CdW W m zn (40 * m + j) l) (h61 : A 61 (40 * m + j) = bI im) (hg : 4 ≤ g) (hp : p1 = p + 1) (hb : RpN W m zn fn (vwR S G) (700 * m + S.1) g (none :: cx) d xb p1 p2) (hz : ∀ e ∈ Z, DsN W m (vwR S G) (700 * m + S.1) d xb e.1 e.2) (K : ∀ M' S' G' y, NRx m A pn M S G M' S' G' y (fun z => z = d) 21 1 1 → RpN W m zn fn (vwR S' G') (700 * m + S'.1) (g + 7) cx y x p (p2 + 2) → (∀ e ∈ Z, DsN W m (vwR S' G') (700 * m + S'.1) y x e.1 e.2) → Q (some (.int (Int32.ofNat y))) M') : E (h + 5) mdX11_everying [.ref 29, .int (Int32.ofNat (40 * m + j)), .int (Int32.ofNat d)] M Q := by
  obtain ⟨lp, ab, sq, hl, w1, w2, w3, w4, w5⟩ := he
  have h4 := hB.2.1
  have l40 := lt40 h4 hj
  refine KX11_everying ?_
  unfold DX11_everying_0
  rw [l40]
  have e61 : mAI M 61 (40 * m + j) = bI im := by rw [hB.2.2.2.2.2.1 61 (by decide) (by decide) (by decide)]; exact h61
  refine ⟨ok29 hB.1, 61, rf29_41 hB.1, ok61 hB.1, ix40 h4 hj (ln61 hB.1), ?_⟩
  rw [e61]
  refine B_await (fn := fn) hB hR (by omega) hj ha hc (fun M1 S1 G1 y1 n1 v1 _ => ⟨_, rfl, ?_⟩)
  have s1 := n1.2.2.2.2.2
  have b1 := n1.2.2.2.2.1
  refine B_halt (h := h + 1) (zn := zn) (fn := fn) n1.1 n1.2.2.1 (by omega) w5 (fun M2 S2 G2 y2 n2 v2 _ => ⟨_, rfl, ?_⟩)
  have s2 := n2.2.2.2.2.2
  have b2 := n2.2.2.2.2.1
  have hd2 : frN m S2 d := n2.fr (n1.fr hd (fun z => z)) (fun z => z)
  have k2 : NRx m A pn M S G M2 S2 G2 y2 noN 8 2 0 := n1.tr n2 (fun _ _ _ z => z) (fun _ _ _ z => z)
  have hd3 := hd.1.2
  have kb2 := k2.2.2.2.2.1
  refine B_ov2 (h := h + 2) n2.1 n2.2.2.1 (by omega) hd2 n2.own (by omega) (fun M3 S3 G3 y3 n3 v3 _ => ⟨_, rfl, ?_⟩)
  have s3 := n3.2.2.2.2.2
  have b3 := n3.2.2.2.2.1
  have k3 : NRx m A pn M S G M3 S3 G3 y3 (fun z => z = d) 9 3 2 := k2.tr n3 (fun _ _ _ z => z.elim) (fun z _ z2 w => by
    have w : z = d ∨ z = y2 := w
    rcases w with w | w
    · exact w
    · omega)
  have r3 : RpN W m zn fn (vwR S3 G3) (700 * m + S3.1) (g + 1) (none :: cx) y3 sq p1 (p2 + 1) := N_seq ⟨n3.own.1.1, n3.own.1.2⟩ w4 v3 (by show 2 ≤ 2; omega) ⟨p2, k3.rp hb (Nat.le_refl _), p2 + 1, n3.rp (v2 _) (by omega), rfl⟩
  refine B_abort (fn := fn) n3.1 n3.2.2.1 n3.own (by omega) hj w3 hc (by omega) r3 (fun e he => (DsN.ch n3.own.1 w4 v3 (Or.inr (fun z => Nat.noConfusion (Nat.succ.inj z))) (d := d) (c := xb) (by simp)).tr (k3.2.2.2.1.dsn (hz e he))) (fun M4 S4 G4 y4 n4 r4 z4 _ => ⟨_, rfl, ?_⟩)
  have s4 := n4.2.2.2.2.2
  have b4 := n4.2.2.2.2.1
  refine B_ov1 (h := h + 2) n4.1 n4.2.2.1 (by omega) n4.own (fun M5 S5 G5 y5 n5 v5 _ => ⟨_, rfl, ?_⟩)
  have s5 := n5.2.2.2.2.2
  have b5 := n5.2.2.2.2.1
  have r5 : RpN W m zn fn (vwR S5 G5) (700 * m + S5.1) (g + 6) cx y5 lp p1 (p2 + 2) := N_lo ⟨n5.own.1.1, n5.own.1.2⟩ w2 v5 (n5.rp r4 (Nat.le_refl _))
  have l1 : S.1 ≤ S1.1 := n1.2.2.2.1.1
  have l2 : S1.1 ≤ S2.1 := n2.2.2.2.1.1
  have l3 : S2.1 ≤ S3.1 := n3.2.2.2.1.1
  have l4' : S3.1 ≤ S4.1 := n4.2.2.2.1.1
  have f1 : frN m S5 y1 := n5.fr (n4.fr (n3.fr (n2.fr n1.own (fun z => z)) (fun w => by
    have w : y1 = d ∨ y1 = y2 := w
    omega)) (fun w => by
    have w : y1 = y3 := w
    omega)) (fun w => by
    have w : y1 = y4 := w
    omega)
  refine B_ov2 (h := h + 2) n5.1 n5.2.2.1 (by omega) f1 n5.own (by omega) (fun M6 S6 G6 y6 n6 v6 _ => ⟨_, rfl, K M6 S6 G6 y6 ?_ ?_ (fun e he => (DsN.ch n6.own.1 w1 v6 (Or.inr (fun z => Nat.noConfusion (Nat.succ.inj z))) (d := y5) (c := lp) (by simp)).tr (n6.2.2.2.1.dsn ((DsN.ch n5.own.1 w2 v5 (Or.inl (by decide)) (d := y4) (c := ab) (by simp)).tr (n5.2.2.2.1.dsn (z4 e he)))))⟩)
  · have k4 : NRx m A pn M S G M4 S4 G4 y4 (fun z => z = d) 19 4 3 := k3.tr n4 (fun _ _ _ z => z) (fun z _ z2 w => by
      have w : z = y3 := w
      have := k3.2.2.2.2.1.1
      omega)
    have k5 : NRx m A pn M S G M5 S5 G5 y5 (fun z => z = d) 20 5 4 := k4.tr n5 (fun _ _ _ z => z) (fun z _ z2 w => by
      have w : z = y4 := w
      have := k4.2.2.2.2.1.1
      omega)
    exact (k5.tr n6 (fun _ _ _ z => z) (fun z _ z2 w => by
      have w : z = y1 ∨ z = y5 := w
      have := k5.2.2.2.2.1.1
      omega)).nm (by decide)
  · refine N_seq ⟨n6.own.1.1, n6.own.1.2⟩ w1 v6 (by show 2 ≤ 2; omega) ⟨p + 1, ?_, p2 + 2, ?_, rfl⟩
    · exact n6.rp (n5.rp (n4.rp (n3.rp (n2.rp (g' := 5) (v1 cx) (Nat.le_refl _)) (Nat.le_refl _)) (Nat.le_refl _)) (Nat.le_refl _)) (by omega)
    · rw [← hp]
      exact n6.rp r5 (Nat.le_refl _)
end
