/-! the reference builds all parts -/
/-- the loop over the parts, before part j of module m -/
def bLp (h m : Nat) (x1 : Int32) (j : Nat) (M : Mem) (Q : Option Value → Mem → Prop) : Prop := T (h + 7) mdX11_build 20 [(0, .ref 29), (1, .int x1), (2, .int (Int32.ofNat (40 * m + j) + (-1)))] [] M Q
/-- traps with a part, of the nodes from s0 on: the part's node is the trap -/
def trM (m : Nat) (pn : Nat → Int32) (s0 : Nat) (S : RBs) (j j' : Nat) : Prop := ∀ z, 700 * m + s0 ≤ z → z < 700 * m + S.1 → S.2 80 z = 10 → S.2 81 z = -1 ∨ ∃ P, (40 * m + j ≤ P ∧ P < 40 * m + j') ∧ S.2 81 z = Int32.ofNat P ∧ pn P = Int32.ofNat z
/-- what the parts j .. j' have been built to -/
def BuO (m : Nat) (A : Nat → Nat → Int32) (M : Mem) (S : RBs) (G : Nat → List Nat) (pn : Nat → Int32) (M' : Mem) (S' : RBs) (G' : Nat → List Nat) (pn' : Nat → Int32) (j j' q nc : Nat) : Prop := BuM m A pn' S' M' ∧ RGb m M M' ∧ RgB m S' G' ∧ FrB m S G S' G' noN ∧ (S'.1 ≤ S.1 + q ∧ rtC m S' ≤ rtC m S + nc ∧ trM m pn' S.1 S' j j') ∧ ∀ P, P < 40 * m + j ∨ 40 * m + j' ≤ P → pn' P = pn P
/-- parts with their nodes, ready to be adopted -/
def PtY (W : Wo) (m zn fn : Nat) (pn : Nat → Int32) (S : RBs) (G : Nat → List Nat) (s0 : Nat) (cx : List (Option Nat)) (L : List (Nat × Nat)) (p p' : Nat) (ds : List Nat) : Prop := PnL pn (L.map fun e => 40 * m + e.1) ds ∧ (∀ d ∈ ds, frN m S d ∧ 700 * m + s0 ≤ d) ∧ ds.Nodup ∧ ∃ g, RpLs (RpN W m zn fn (vwR S G) (700 * m + S.1) g cx) ds (L.map Prod.snd) p p'
section
variable {m : Nat} {A : Nat → Nat → Int32} {pn pn1 pn2 : Nat → Int32} {S S1 S2 : RBs} {G G1 G2 : Nat → List Nat} {M M1 M2 : Mem} {h : Nat} {Q : Option Value → Mem → Prop} {W : Wo} {zn fn lo hw p p' pb pm pr x y j j' jm g d e q q1 q2 s0 s1 r nc nc1 nc2 : Nat} {cx : List (Option Nat)} {H : Nat → Prop} {k x1 : Int32} {K : List KE} {ds ys : List Nat} {L : List (Nat × Nat)}
/-- each part between j and j' has its nodes below a pair of Z -/
def PdZ (W : Wo) (m : Nat) (pn : Nat → Int32) (S : RBs) (G : Nat → List Nat) (Z : List (Nat × Nat)) (j j' : Nat) : Prop := ∀ i, j ≤ i → i < j' → ∃ e ∈ Z, ∃ yi xi, (pn (40 * m + i) = Int32.ofNat yi ∧ woP W i 1 = Int32.ofNat xi) ∧ (700 * m ≤ yi ∧ yi < 700 * m + S.1) ∧ DsN W m (vwR S G) (700 * m + S.1) e.1 e.2 yi xi
theorem dec1 {a : Nat} : Int32.ofNat (a + 1) + (-1) = Int32.ofNat a := by
  rw [Int32.ofNat_add, Int32.add_assoc]
  have : Int32.ofNat 1 + (-1) = 0 := by decide
  rw [this, Int32.add_zero]
theorem BuO.rf (hB : BuM m A pn S M) (hR : RgB m S G) : BuO m A M S G pn M S G pn j j' q nc := ⟨hB, RG.rf, hR, FrB.rf, ⟨Nat.le_add_right _ _, Nat.le_add_right _ _, fun z z1 z2 _ => absurd z1 (by omega)⟩, fun _ _ => rfl⟩
theorem BuO.tr (h1 : BuO m A M S G pn M1 S1 G1 pn1 jm j' q1 nc1) (h2 : BuO m A M1 S1 G1 pn1 M2 S2 G2 pn2 j jm q2 nc2) (ha : j ≤ jm) (hb : jm ≤ j') : BuO m A M S G pn M2 S2 G2 pn2 j j' (q1 + q2) (nc1 + nc2) := by
  obtain ⟨a1, a2, a3, a4, a5, a6⟩ := h1
  obtain ⟨b1, b2, b3, b4, b5, b6⟩ := h2
  refine ⟨b1, a2.tr b2, b3, a4.tr b4 (fun _ _ _ z => z), ⟨by have := a5.1; have := b5.1; omega, by have := a5.2.1; have := b5.2.1; omega, fun z z1 z2 z3 => ?_⟩, fun P hP => (b6 P (by omega)).trans (a6 P (by omega))⟩
  by_cases e : z < 700 * m + S1.1
  · have v := (b4.2.1 z (by omega) e).1
    have v80 : S2.2 80 z = S1.2 80 z := congrArg (fun w => w.1) v
    have v81 : S2.2 81 z = S1.2 81 z := congrArg (fun w => w.2.1) v
    rw [v80] at z3
    rw [v81]
    rcases a5.2.2 z z1 e z3 with w | ⟨P, w1, w2, w3⟩
    · exact Or.inl w
    · exact Or.inr ⟨P, by omega, w2, (b6 P (by omega)).trans w3⟩
  · rcases b5.2.2 z (by omega) z2 z3 with w | ⟨P, w1, w2, w3⟩
    · exact Or.inl w
    · exact Or.inr ⟨P, by omega, w2, w3⟩
theorem frN.fb (hf : frN m S d) (k : FrB m S G S1 G1 H) (nh : ¬ H d) : frN m S1 d := by
  have q := k.2.1 d hf.1.1 hf.1.2
  have := k.1
  exact ⟨⟨hf.1.1, by have := hf.1.2; omega⟩, (q.2 nh).trans hf.2⟩
theorem PnL.cg : ∀ (Ps ds : List Nat), (∀ P ∈ Ps, pn1 P = pn P) → PnL pn Ps ds → PnL pn1 Ps ds
  | [], [], _, h => h
  | P :: Ps, d :: ds, e, h => ⟨(e P List.mem_cons_self).trans h.1, PnL.cg Ps ds (fun z hz => e z (List.mem_cons_of_mem _ hz)) h.2⟩
  | [], _ :: _, _, h => h
  | _ :: _, [], _, h => h
theorem PtY.st (hp : PtY W m zn fn pn S G s0 cx L p p' ds) (f : FrB m S G S1 G1 noN) (hpn : ∀ e ∈ L, pn1 (40 * m + e.1) = pn (40 * m + e.1)) (hs : s1 ≤ s0) : PtY W m zn fn pn1 S1 G1 s1 cx L p p' ds := by
  obtain ⟨w1, w2, w3, g, w4⟩ := hp
  have l := f.1
  refine ⟨PnL.cg _ _ (fun P hP => ?_) w1, fun d hd => ⟨(w2 d hd).1.fb f (fun z => z), by have := (w2 d hd).2; omega⟩, w3, g, RpLs.imp (fun _ _ _ _ k => RpN.st (fun z h1 h2 => (f.2.1 z h1 h2).1) (by omega) _ _ _ _ _ _ _ (Nat.le_refl _) k) _ _ _ _ w4⟩
  obtain ⟨e, he, rfl⟩ := List.mem_map.mp hP
  exact hpn e he
/-- one part before others -/
theorem PtY.cons {ds1 : List Nat} (h1 : PtY W m zn fn pn S G s1 cx [(j, x)] p pm ds1) (h2 : PtY W m zn fn pn S G s0 cx L pm p' ds) (hs : s0 ≤ s1) (hlt : ∀ d ∈ ds, d < 700 * m + s1) : ∃ d, ds1 = [d] ∧ PtY W m zn fn pn S G s0 cx ((j, x) :: L) p p' (d :: ds) := by
  obtain ⟨a1, a2, a3, g1, a4⟩ := h1
  obtain ⟨w1, w2, w3, g2, w4⟩ := h2
  cases ds1 with
  | nil => exact a1.elim
  | cons d es =>
    have hes : es = [] := by
      cases es with
      | nil => rfl
      | cons _ _ => exact a1.2.elim
    subst hes
    have hd := a2 d List.mem_cons_self
    obtain ⟨pz, r1, r2⟩ := a4
    have r2 : pm = pz := r2
    subst r2
    refine ⟨d, rfl, ⟨a1.1, w1⟩, fun z hz => ?_, List.nodup_cons.mpr ⟨fun hz => ?_, w3⟩, max g1 g2, pm, r1.mo (by omega), RpLs.imp (fun _ _ _ _ k => k.mo (by omega)) _ _ _ _ w4⟩
    · rcases List.mem_cons.mp hz with e | e
      · rw [e]; exact ⟨hd.1, by have := hd.2; omega⟩
      · exact w2 z e
    · have := hlt d hz
      have := hd.2
      omega
theorem PtY.row (hp : PtY W m zn fn pn S G s0 cx ((j, x) :: L) p p' ds) (hA : woA W = A) (hj : ∀ e ∈ (j, x) :: L, 40 * m + e.1 < 160) (hr : RwA (woA W) r (40 * m + j) (L.map fun e => 40 * m + e.1)) (hy : ndS (woV W) lo hw y 5 0 (x :: L.map Prod.snd)) : RowR W m zn fn lo hw A pn S G s0 r cx y p p' ds := by
  obtain ⟨w1, w2, w3, g, w4⟩ := hp
  rw [hA] at hr
  refine ⟨40 * m + j, L.map (fun (e : Nat × Nat) => 40 * m + e.1), x :: L.map Prod.snd, g, hr, fun z hz => ?_, w1, w2, w3, hy, w4⟩
  have hz : z ∈ ((j, x) :: L).map fun e => 40 * m + e.1 := hz
  obtain ⟨e, he, rfl⟩ := List.mem_map.mp hz
  exact hj e he
theorem RowR.less (hw1 : RowR W m zn fn lo hw A pn S G s1 r cx y p p' ds) (hs : s0 ≤ s1) : RowR W m zn fn lo hw A pn S G s0 r cx y p p' ds := by
  obtain ⟨a, t, xs, g, w1, w2, w3, w4, w5, w6, w7⟩ := hw1
  exact ⟨a, t, xs, g, w1, w2, w3, fun d hd => ⟨(w4 d hd).1, by have := (w4 d hd).2; omega⟩, w5, w6, w7⟩
theorem RowR.pnx (hw1 : RowR W m zn fn lo hw A pn S G s0 r cx y p p' ds) (f : FrB m S G S1 G1 noN) (hpn : ∀ a t, RwA A r a t → ∀ z ∈ a :: t, pn1 z = pn z) : RowR W m zn fn lo hw A pn1 S1 G1 s0 r cx y p p' ds := by
  obtain ⟨a, t, xs, g, w1, w2, w3, w4, w5, w6, w7⟩ := hw1.st f (fun _ _ z => z)
  exact ⟨a, t, xs, g, w1, w2, PnL.cg _ _ (hpn a t w1) w3, w4, w5, w6, w7⟩
/-- one turn of the loop: part j is built -/
theorem PdZ.st {Z : List (Nat × Nat)} (h : PdZ W m pn S G Z j j') (f : FrB m S G S1 G1 H) (hpn : ∀ P, 40 * m + j ≤ P → P < 40 * m + j' → pn1 P = pn P) : PdZ W m pn1 S1 G1 Z j j' := fun i h1 h2 => by
  obtain ⟨e, he, yi, xi, ⟨a1, a2⟩, a3, a4⟩ := h i h1 h2
  exact ⟨e, he, yi, xi, ⟨by rw [hpn _ (by omega) (by omega)]; exact a1, a2⟩, ⟨a3.1, by have := f.1; omega⟩, f.dsn a4⟩
theorem PdZ.ap {Z Z2 : List (Nat × Nat)} (h : PdZ W m pn S G Z j jm) (k : PdZ W m pn S G Z2 jm j') : PdZ W m pn S G (Z ++ Z2) j j' := fun i h1 h2 => by
  by_cases q : i < jm
  · obtain ⟨e, he, w⟩ := h i h1 q
    exact ⟨e, List.mem_append_left _ he, w⟩
  · obtain ⟨e, he, w⟩ := k i (by omega) h2
    exact ⟨e, List.mem_append_right _ he, w⟩
theorem PdZ.up {Z : List (Nat × Nat)} (h : PdZ W m pn S G Z (j + 1) j') (hd : ∀ e ∈ Z, DsN W m (vwR S G) (700 * m + S.1) y x e.1 e.2) (hp : pn (40 * m + j) = Int32.ofNat y) (hx : woP W j 1 = Int32.ofNat x) (hy : 700 * m ≤ y ∧ y < 700 * m + S.1) : PdZ W m pn S G [(y, x)] j j' := fun i h1 h2 => by
  by_cases q : i = j
  · subst q
    exact ⟨(y, x), List.mem_singleton.mpr rfl, y, x, ⟨hp, hx⟩, hy, DsN.rf⟩
  · obtain ⟨e, he, yi, xi, a1, a3, a4⟩ := h i (by omega) h2
    exact ⟨(y, x), List.mem_singleton.mpr rfl, yi, xi, a1, a3, (hd e he).tr a4⟩
theorem b_step {Z : List (Nat × Nat)} (hB : BuM m A pn S M) (hj : j < 40) (hs0 : s0 ≤ S.1) (hn : ∀ Q' : Option Value → Mem → Prop, KpZ W m zn fn A pn M S G s0 cx x p p' q nc (40 * m + j) Z Q' → E (h + 6) mdX11_nodeOf [.ref 29, .int (Int32.ofNat (40 * m + j))] M Q') (C : ∀ M' S' G' y pn', BuM m A pn' S' M' → RGb m M M' → RgB m S' G' → FrB m S G S' G' (fun z => 700 * m + s0 ≤ z) → (S'.1 ≤ S.1 + q ∧ rtC m S' + nc ≤ rtC m S + 1) → (∀ z, 700 * m + S.1 ≤ z → z < 700 * m + S'.1 → S'.2 80 z = 10 → S'.2 81 z = -1 ∨ (S'.2 81 z = Int32.ofNat (40 * m + j) ∧ pn' (40 * m + j) = Int32.ofNat z)) → (∀ P, P ≠ 40 * m + j → pn' P = pn P) → PtY W m zn fn pn' S' G' s0 cx [(j, x)] p p' [y] → (∀ e ∈ Z, DsN W m (vwR S' G') (700 * m + S'.1) y x e.1 e.2) → bLp h m x1 j M' Q) : bLp h m x1 (j + 1) M Q := by
  obtain ⟨F, h4, b2, b3, b4, b5, b6⟩ := id hB
  have l40 := lt40 h4 hj
  unfold bLp
  rw [← Nat.add_assoc, dec1]
  refine VX11_build_20 ?_
  unfold DX11_build_20
  rw [b2]
  have ge : ¬ (Int32.ofNat (40 * m + j) < 40 * Int32.ofNat m) := by
    have : (40 : Int32) * Int32.ofNat m = Int32.ofNat (40 * m) := by rw [Int32.ofNat_mul]; rfl
    rw [this, ltn32 (by omega) (by omega)]
    omega
  refine ⟨ok29 F, fun z => absurd z ge, fun _ => ⟨90, rf29_72 F, hn _ (fun M1 S1 G1 y g n1 r1 z1 _ => ⟨_, rfl, ok90 n1.1.1, ix40 h4 hj (ln90 n1.1.1), fun M2 e2 => ?_⟩)⟩⟩
  rw [l40] at e2
  have g2 : RGb m M1 M2 := by rw [e2]; exact RG.ai (by decide) (by rw [show szA 90 = 40 by decide]; omega)
  have eA : mAI M2 = up2 (mAI M1) 90 (40 * m + j) (Int32.ofNat y) := by rw [e2]; rfl
  have nb := n1.2.2.2.2.1
  refine C M2 S1 G1 y (va_up pn (40 * m + j) (Int32.ofNat y)) ⟨g2.fix n1.1.1 (by decide), h4, by rw [g2.fI (by decide)]; exact n1.1.2.2.1, ?_, fun c c1 c2 => ?_, fun c c1 c2 c3 => ?_, ?_⟩ (n1.2.1.tr g2) n1.2.2.1 n1.2.2.2.1 n1.2.2.2.2.2.1 (fun z z1 z2 z3 => (n1.2.2.2.2.2.2 z z1 z2 z3).imp id (fun w => ⟨w.2, by rw [va_up_self, w.1]⟩)) (fun P hP => va_up_ne _ _ hP) ⟨⟨va_up_self _ _ _, trivial⟩, fun d hd => ?_, by simp, g, p', r1, rfl⟩ z1
  · rw [eA, up2_row (by decide)]; exact n1.1.2.2.2.1
  · rw [eA, up2_row (by omega)]; exact n1.1.2.2.2.2.1 c c1 c2
  · rw [eA, up2_row (by omega)]; exact n1.1.2.2.2.2.2.1 c c1 c2 c3
  · funext P
    rw [eA]
    by_cases e : P = 40 * m + j
    · rw [e, va_up_self]; exact up2_eq
    · rw [va_up_ne _ _ e, up2_ne (fun z => e z.2), n1.1.2.2.2.2.2.2]
  · rw [List.mem_singleton] at hd
    rw [hd]
    exact ⟨⟨⟨by omega, nb.2.1⟩, nb.2.2⟩, by omega⟩
end
