/-! the reference builds: parts with one row -/
section
variable {m : Nat} {A : Nat → Nat → Int32} {pn : Nat → Int32} {S S1 S2 : RBs} {G G1 G2 : Nat → List Nat} {M M1 M2 : Mem} {h : Nat} {Q : Option Value → Mem → Prop} {W : Wo} {zn fn lo hw p p' pb pr x y j g d q1 q2 s0 r ea1 ca1 ea2 ca2 : Nat} {cx : List (Option Nat)} {H H1 H2 : Nat → Prop} {k : Int32} {K : List KE} {ds : List Nat}
theorem RpN.mo {u : Vwr} {hi g' : Nat} (hr : RpN W m zn fn u hi g cx d x p p') (hg : g ≤ g') : RpN W m zn fn u hi g' cx d x p p' := RpN.st (fun _ _ _ => rfl) (Nat.le_refl _) _ _ _ _ _ _ _ hg hr
theorem RowR.ge (hw1 : RowR W m zn fn lo hw A pn S G s0 r cx y p p' ds) : ∀ z ∈ ds, 700 * m + s0 ≤ z := by
  obtain ⟨a, t, xs, g, -, -, -, w, -⟩ := hw1
  exact fun z hz => (w z hz).2
/-- the first row's node, then the rest -/
theorem B_hd (hB : BuM m A pn S M) (hR : RgB m S G) (hf : S.1 + 1 ≤ 700) (hj : j < 40) (hr : r < 100) (e69 : A 69 (40 * m + j) = Int32.ofNat r) (hw1 : RowR W m zn fn lo hw A pn S G s0 r cx y pr pb ds) (hs : s0 ≤ S.1) (C : ∀ M1 S1 G1 d g, BxO m A pn M S G M1 S1 G1 d (fun z => z ∈ ds ∧ z ≠ d) 1 1 ds.length → (700 * m + s0 ≤ d ∧ (d ∈ ds ∨ 700 * m + S.1 ≤ d)) → RpN W m zn fn (vwR S1 G1) (700 * m + S1.1) g cx d y pr pb → (∀ e ∈ ds.zip (chV W y), DsN W m (vwR S1 G1) (700 * m + S1.1) d y e.1 e.2) → DX11_nodeOf_24 (h + 5) 29 (Int32.ofNat (40 * m + j)) (Int32.ofNat d) M1 Q) : E (h + 6) mdX11_nodeOf [.ref 29, .int (Int32.ofNat (40 * m + j))] M Q := by
  obtain ⟨F, h4, b2, b3, b4, b5, b6⟩ := id hB
  have l40 := lt40 h4 hj
  have m69 : mAI M 69 (40 * m + j) = Int32.ofNat r := by rw [b5 69 (by decide) (by decide) (by decide)]; exact e69
  refine KX11_nodeOf ?_
  unfold DX11_nodeOf_0
  rw [l40]
  refine ⟨ok29 F, 69, rf29_49 F, ok69 F, ix40 h4 hj (ln69 F), ?_⟩
  rw [m69]
  refine ⟨fun _ => ⟨69, rf29_49 F, ok69 F, ix40 h4 hj (ln69 F), ?_⟩, fun z => absurd z (nm32 (by omega))⟩
  rw [m69]
  exact B_row (h := h + 3) hB hR hf hr hw1 hs (fun M1 S1 G1 d g b1 c1 r1 z1 _ => ⟨_, rfl, C M1 S1 G1 d g b1 c1 r1 z1⟩)
/-- row and operation together -/
theorem row_op (hw1 : RowR W m zn fn lo hw A pn S G s0 r cx y pr pb ds) (b1 : BxO m A pn M S G M1 S1 G1 d (fun z => z ∈ ds ∧ z ≠ d) q1 ea1 ca1) (hd : 700 * m + s0 ≤ d) (n2 : NRx m A pn M1 S1 G1 M2 S2 G2 x H q2 ea2 ca2) (hH : ∀ z, z < 700 * m + S.1 → H z → 700 * m + s0 ≤ z) : NRx m A pn M S G M2 S2 G2 x (fun z => 700 * m + s0 ≤ z) (q1 + q2) (ea1 + ea2) (ca1 + ca2) := b1.nr n2 (fun z _ _ w => hw1.ge z w.1) (fun z _ z2 w => hH z z2 w)
/-- a trap with a name -/
theorem B_ov1n {P c : Nat} (hB : BuM m A pn S M) (hR : RgB m S G) (hf : S.1 < 700) (hc : frN m S c) (C : ∀ M' S' G' y, NRy m A pn M S G M' S' G' y (fun z => z = c) 1 1 1 P → vwR S' G' y = (10, Int32.ofNat P, [c]) → Q (some (.int (Int32.ofNat y))) M') : E (h + 2) mdX11_over [.ref 29, .int 10, .int (Int32.ofNat P), .int (Int32.ofNat c), .int (-1)] M Q := by
  refine KX11_over ?_
  unfold DX11_over_0 DX11_over_29
  obtain ⟨r1, r2, r3, r4⟩ := hR.new (so := 10) (pt := Int32.ofNat P) (H := noN) hf
  refine ⟨ok29 hB.1, B_node hB hf (fun M1 s1 g1 _ => ⟨_, rfl, ?_⟩)⟩
  have h4 := hB.2.1
  have hcf : frN m (nBf m 10 (Int32.ofNat P) S) c := ⟨⟨hc.1.1, by have := hc.1.2; show c < 700 * m + (S.1 + 1); omega⟩, ((r2.2.1 c hc.1.1 hc.1.2).2 (fun z => z)).trans hc.2⟩
  have hpr : 700 * m ≤ 700 * m + S.1 ∧ 700 * m + S.1 < 700 * m + (nBf m 10 (Int32.ofNat P) S).1 := ⟨by omega, by show _ < 700 * m + (S.1 + 1); omega⟩
  have hne : c ≠ 700 * m + S.1 := by have := hc.1.2; omega
  obtain ⟨q1, q2, q3, q4⟩ := r1.ad hpr hcf.1 hcf.2 r4 hne
  obtain ⟨⟨l1, l2, -⟩, -, -⟩ := r1.2.1 _ hpr.1 hpr.2
  have e82 : (nBf m 10 (Int32.ofNat P) S).2 82 (700 * m + S.1) = -1 := by rw [l1, va_up_self]; rfl
  refine B_adopt s1 ⟨hpr.1, by omega⟩ ⟨hc.1.1, by have := hc.1.2; omega⟩ (fun z => absurd e82 z) (fun M2 s2 g2 _ => ⟨rfl, fun _ => C M2 _ _ _ ⟨s2, g1.tr g2, q1, ⟨Nat.le_succ _, fun z z1 z2 => ⟨?_, fun n => ?_⟩, fun hz z z1 z2 => by
    show aBf (700 * m + S.1) c (nBf m 10 (Int32.ofNat P) S).2 87 z = 0
    rw [(aBf_is (l := []) (by rw [l1, va_up_self]) (by rw [l2, va_up_self]) (fun d hd => absurd hd (List.not_mem_nil))).1 87 z (by decide) (by decide) (by decide) (by decide) (by decide)]
    exact r2.2.2 hz z z1 z2⟩, ⟨Nat.le_refl _, hpr.2, (q3 _ (fun z => hne z.symm)).trans r4⟩, ⟨Nat.le_refl _, ?_⟩, fun z z1 z2 z3 => Or.inr ?_⟩ ?_, fun z => absurd rfl z⟩)
  · rw [← (r2.2.1 z z1 z2).1]
    show (aBf (700 * m + S.1) c _ 80 z, aBf (700 * m + S.1) c _ 81 z, va_up _ (700 * m + S.1) _ z) = _
    rw [q2 80 z (Or.inl rfl), q2 81 z (Or.inr rfl), va_up_ne _ _ (by omega)]
    rfl
  · rw [← (r2.2.1 z z1 z2).2 (fun w => w)]
    exact q3 z n
  · have := rtC_new (m := m) (so := 10) (pt := Int32.ofNat P) (S := S)
    omega
  · have z2 : z < 700 * m + (S.1 + 1) := z2
    have ez : z = 700 * m + S.1 := by omega
    refine ⟨ez, ?_⟩
    show aBf (700 * m + S.1) c _ 81 z = _
    rw [q2 81 z (Or.inr rfl), ez]
    exact congrArg (fun w => w.2.1) r3
  · show (aBf (700 * m + S.1) c _ 80 _, aBf (700 * m + S.1) c _ 81 _, va_up _ (700 * m + S.1) _ _) = _
    rw [q2 80 _ (Or.inl rfl), q2 81 _ (Or.inr rfl), va_up_self, va_up_self]
    have e80 : (nBf m 10 (Int32.ofNat P) S).2 80 (700 * m + S.1) = 10 := congrArg (fun w => w.1) r3
    have e81 : (nBf m 10 (Int32.ofNat P) S).2 81 (700 * m + S.1) = Int32.ofNat P := congrArg (fun w => w.2.1) r3
    rw [e80, e81]
    rfl
theorem row_opn {P q nc : Nat} (hw1 : RowR W m zn fn lo hw A pn S G s0 r cx y pr pb ds) (b1 : BxO m A pn M S G M1 S1 G1 d (fun z => z ∈ ds ∧ z ≠ d) q1 ea1 ca1) (hd : 700 * m + s0 ≤ d) (n2 : NRy m A pn M1 S1 G1 M2 S2 G2 x H q2 ea2 ca2 P) (hH : ∀ z, z < 700 * m + S.1 → H z → 700 * m + s0 ≤ z) (hq : q1 + q2 ≤ q) (he : ea1 + ea2 + nc ≤ 1 + (ca1 + ca2)) : NRy m A pn M S G M2 S2 G2 x (fun z => 700 * m + s0 ≤ z) q 1 nc P := by
  obtain ⟨a1, a2, a3, a4, a5, a6⟩ := b1
  obtain ⟨c1, c2, c3, c4, ⟨c5, c6, c7⟩, c8, c9⟩ := n2
  have l := a4.1
  refine ⟨c1, a2.tr c2, c3, (a4.more (fun z _ _ w => hw1.ge z w.1)).tr c4 (fun z _ z2 w => hH z z2 w), ⟨by omega, c6, c7⟩, ⟨by have := a6.1; have := c8.1; omega, by have := a6.2.1; have := c8.2; omega⟩, fun z z1 z2 z3 => ?_⟩
  by_cases e : z < 700 * m + S1.1
  · have v := (c4.2.1 z (by omega) e).1
    have v80 : S2.2 80 z = S1.2 80 z := congrArg (fun w => w.1) v
    have v81 : S2.2 81 z = S1.2 81 z := congrArg (fun w => w.2.1) v
    rw [v80] at z3
    rw [v81]
    exact Or.inl (a6.2.2 z z1 e z3)
  · exact c9 z (by omega) z2 z3
/-- the context within a part of kind k -/
theorem cx_k {t : Option Int64} (ht : tpK k t) : cxK ((40 * m + j, r, 1, t) :: K) = if k = 55 then some (40 * m + j) :: cxK K else if k = 49 ∨ k = 50 ∨ k = 53 then none :: cxK K else cxK K := by
  unfold tpK at ht
  by_cases k55 : k = 55
  · rw [if_pos k55] at ht ⊢
    obtain ⟨c, e, hc⟩ := ht
    rw [cxK_s (c := c) e, if_neg hc]
  rw [if_neg k55] at ht ⊢
  by_cases k4 : k = 49 ∨ k = 50 ∨ k = 53
  · rw [if_pos k4] at ht ⊢
    rw [cxK_s (c := 0) ht, if_pos rfl]
  · rw [if_neg k4] at ht ⊢
    exact cxK_n ht
theorem B_one {t : Option Int64} (hA : woA W = A) (hB : BuM m A pn S M) (hR : RgB m S G) (hf : S.1 + (3 + 11 * paK k) ≤ 700) (hj : j < 40) (hr : r < 100) (e58 : A 58 (40 * m + j) = Int32.ofNat (soK k)) (hk : k = 42 ∨ k = 49 ∨ k = 50 ∨ k = 52 ∨ k = 53 ∨ k = 55) (ht : tpK k t) (e69 : A 69 (40 * m + j) = Int32.ofNat r) (hw1 : RowR W m zn fn lo hw A pn S G s0 r (cxK ((40 * m + j, r, 1, t) :: K)) y (p + hpK k) pb ds) (hs0 : s0 ≤ S.1) (hs : PkS W m zn fn lo hw k K j p pb x [y]) (C : KpZ W m zn fn A pn M S G s0 (cxK K) x p (pb + (paK k - hpK k)) (3 + 11 * paK k) ds.length (40 * m + j) (ds.zip (chV W y)) Q) : E (h + 6) mdX11_nodeOf [.ref 29, .int (Int32.ofNat (40 * m + j))] M Q := by
  refine B_hd hB hR (by omega) hj hr e69 hw1 hs0 (fun M1 S1 G1 d g b1 c1 r1 z1 => ?_)
  obtain ⟨F, h4, b2, b3, b4, b5, b6⟩ := id b1.1
  have l40 := lt40 h4 hj
  have v40 : ∀ {M : Mem} {c : Nat}, mL M c = 160 → vp_in (Int32.ofNat (40 * m + j)) (mL M c) := fun e => ix40 h4 hj e
  have m58 : mAI M1 58 (40 * m + j) = Int32.ofNat (soK k) := by rw [b5 58 (by decide) (by decide) (by decide)]; exact e58
  have s1 := b1.2.2.2.2.2
  have hd := b1.2.2.2.2.1
  rw [cx_k ht] at r1
  unfold DX11_nodeOf_24
  rw [l40]
  refine ⟨ok29 F, 58, rf29_38 F, ok58 F, v40 (ln58 F), ?_⟩
  rw [m58]
  unfold PkS at hs
  rcases hk with e | e | e | e | e | e
  · subst e
    rw [if_neg (by decide), if_neg (by decide), if_neg (by decide), if_neg (by decide), if_neg (by decide), if_neg (by decide), if_pos rfl] at hs
    have e1 : Int32.ofNat (soK 42) = 5 := by decide
    rw [e1]
    rw [if_neg (by decide), if_neg (by decide)] at r1
    obtain ⟨y', ey, w1⟩ := hs
    cases ey
    refine ⟨fun z => absurd z (by decide), fun z => absurd z (by decide), fun z => absurd z (by decide), fun z => absurd z (by decide), fun _ => B_ov1 (h := h + 3) b1.1 b1.2.2.1 (by omega) hd (fun M2 S2 G2 y2 n2 v2 _ => ⟨_, rfl, C M2 S2 G2 y2 (g + 1) (NRx.ny (((row_op hw1 b1 c1.1 n2 (fun z _ w => by rw [show z = d from w]; exact c1.1)).mo (by decide)).nm (by omega))) (N_lo ⟨n2.own.1.1, n2.own.1.2⟩ w1 v2 (n2.rp r1 (Nat.le_refl _))) (fun e he => (DsN.ch n2.own.1 w1 v2 (Or.inl (by decide)) (d := d) (c := y) (by simp)).tr (n2.2.2.2.1.dsn (z1 e he)))⟩), fun z => absurd z (by decide), fun z => absurd z (by decide), fun z => absurd z (by decide), fun z => absurd z (by decide), fun z => absurd z (by decide), fun z => absurd z (by decide), fun z => absurd z (by decide), fun z => absurd z (by decide), fun z => absurd z (by decide), fun z => absurd z (by decide), fun z => absurd z (by decide), fun z => absurd z (by decide)⟩
  · subst e
    rw [if_neg (by decide), if_neg (by decide), if_neg (by decide), if_neg (by decide), if_neg (by decide), if_neg (by decide), if_neg (by decide), if_neg (by decide), if_neg (by decide), if_pos rfl] at hs
    have e1 : Int32.ofNat (soK 49) = 8 := by decide
    rw [e1]
    rw [if_neg (by decide), if_pos (by decide)] at r1
    obtain ⟨y', l, im, ey, w0, w2, w1⟩ := hs
    cases ey
    have pk : paK 49 = 1 := by decide
    have e61 : A 61 (40 * m + j) = bI im := by rw [← hA]; exact w2
    have two : ∀ x1, abS (woV W) lo hw x1 y l pb → (∀ M2 S2 G2 y2, NRx m A pn M1 S1 G1 M2 S2 G2 y2 (fun z => z = d) 10 1 1 → RpN W m zn fn (vwR S2 G2) (700 * m + S2.1) (g + 4 + 4) (cxK K) y2 x1 p (pb + 1) → (∀ e ∈ ds.zip (chV W y), DsN W m (vwR S2 G2) (700 * m + S2.1) y2 x1 e.1 e.2) → (bI im = 0 → DX11_nodeOf_271 (h + 5) (Int32.ofNat y2) M2 Q) ∧ (¬ (bI im = 0) → E (h + 5) mdX11_node [.ref 29, .int 0, .int (-1)] M2 (fun r M38 => mE M2 M38 → ∃ r39 : Int32, r = some (.int r39) ∧ E (h + 5) mdX11_over [.ref 29, .int 4, .int (Int32.ofNat (40 * m + j)), .int r39, .int (Int32.ofNat y2)] M38 (fun r M40 => mE M38 M40 → ∃ r41 : Int32, r = some (.int r41) ∧ DX11_nodeOf_271 (h + 5) r41 M40 Q)))) → E (h + 5) mdX11_aborting [.ref 29, .int (Int32.ofNat (40 * m + j)), .int (Int32.ofNat d), .int 0, .int 0] M1 (fun r M34 => mE M1 M34 → ∃ r35 : Int32, r = some (.int r35) ∧ ∃ b36 : Nat, mR M34 29 41 = some b36 ∧ ok M34 b36 22 ∧ vp_in (Int32.ofNat (40 * m + j)) (mL M34 b36) ∧ ((mAI M34 b36 (40 * m + j)) = 0 → DX11_nodeOf_271 (h + 5) r35 M34 Q) ∧ (¬ ((mAI M34 b36 (40 * m + j)) = 0) → E (h + 5) mdX11_node [.ref 29, .int 0, .int (-1)] M34 (fun r M38 => mE M34 M38 → ∃ r39 : Int32, r = some (.int r39) ∧ E (h + 5) mdX11_over [.ref 29, .int 4, .int (Int32.ofNat (40 * m + j)), .int r39, .int r35] M38 (fun r M40 => mE M38 M40 → ∃ r41 : Int32, r = some (.int r41) ∧ DX11_nodeOf_271 (h + 5) r41 M40 Q)))) := by
      intro x1 wx kx
      refine B_abort (h := h + 1) b1.1 b1.2.2.1 hd (by omega) hj wx w0 (g := g + 4) (by omega) (r1.mo (by omega)) z1 (fun M2 S2 G2 y2 n2 r2 z2 _ => ⟨_, rfl, 61, rf29_41 n2.1.1, ok61 n2.1.1, v40 (ln61 n2.1.1), ?_⟩)
      have e2 : mAI M2 61 (40 * m + j) = bI im := by rw [n2.1.2.2.2.2.2.1 61 (by decide) (by decide) (by decide)]; exact e61
      rw [e2]
      exact kx M2 S2 G2 y2 n2 r2 z2
    refine ⟨fun z => absurd z (by decide), fun z => absurd z (by decide), fun z => absurd z (by decide), fun z => absurd z (by decide), fun z => absurd z (by decide), fun z => absurd z (by decide), fun z => absurd z (by decide), fun _ => ?_, fun z => absurd z (by decide), fun z => absurd z (by decide), fun z => absurd z (by decide), fun z => absurd z (by decide), fun z => absurd z (by decide), fun z => absurd z (by decide), fun z => absurd z (by decide), fun z => absurd z (by decide), fun z => absurd z (by decide)⟩
    cases im with
    | false =>
      rw [aiS_f] at w1
      refine two x w1 (fun M2 S2 G2 y2 n2 r2 z2 => ⟨fun _ => ?_, fun z => absurd rfl z⟩)
      unfold DX11_nodeOf_271
      exact C M2 S2 G2 y2 _ (NRx.ny (((row_op hw1 b1 c1.1 n2 (fun z _ w => by rw [show z = d from w]; exact c1.1)).mo (by decide)).nm (by omega))) r2 z2
    | true =>
      rw [aiS_t] at w1
      obtain ⟨no, x1, u1, u2, u3⟩ := w1
      refine two x1 u3 (fun M2 S2 G2 y2 n2 r2 z2 => ⟨fun z => absurd z (by decide), fun _ => ?_⟩)
      have s2 := n2.2.2.2.2.2
      have c2 := n2.2.2.2.2.1
      refine B_nd (h := h + 4) n2.1 n2.2.2.1 (by omega) (fun M3 S3 G3 y3 n3 v3 _ => ⟨_, rfl, ?_⟩)
      have s3 := n3.2.2.2.2.2
      have c3 := n3.2.2.2.2.1
      refine B_ov2 (h := h + 3) n3.1 n3.2.2.1 (by omega) n3.own (n3.fr n2.own (fun z => z)) (by omega) (fun M4 S4 G4 y4 n4 v4 _ => ⟨_, rfl, ?_⟩)
      unfold DX11_nodeOf_271
      refine C M4 S4 G4 y4 (g + 4 + 4 + 1) ?_ ?_ (fun e he => (DsN.ch n4.own.1 u1 v4 (Or.inl (by decide)) (d := y2) (c := x1) (by simp)).tr (n4.2.2.2.1.dsn (n3.2.2.2.1.dsn (z2 e he))))
      · have k2 := row_op hw1 b1 c1.1 n2 (fun z _ w => by rw [show z = d from w]; exact c1.1)
        have l1 : S.1 ≤ S1.1 := b1.2.2.2.1.1
        have l2 : S1.1 ≤ S2.1 := n2.2.2.2.1.1
        have k3 : NRx m A pn M S G M3 S3 G3 y3 (fun z => 700 * m + s0 ≤ z) 12 3 (ds.length + 1) := k2.tr n3 (fun _ _ _ z => z) (fun _ _ _ z => z.elim)
        have k4 : NRx m A pn M S G M4 S4 G4 y4 (fun z => 700 * m + s0 ≤ z) 13 4 (ds.length + 3) := k3.tr n4 (fun _ _ _ z => z) (fun z _ z2 w => by
          have w : z = y3 ∨ z = y2 := w
          omega)
        exact NRx.ny ((k4.mo (by decide)).nm (by omega))
      · exact N_ch2 ⟨n4.own.1.1, n4.own.1.2⟩ u1 (CdW.ch hj w0) v4 (n4.rp (g' := g + 4 + 4) (N_no (g := 0) ⟨n3.own.1.1, n3.own.1.2⟩ u2 v3) (by omega)) (n4.rp (n3.rp (g' := g + 4 + 4) r2 (Nat.le_refl _)) (Nat.le_refl _))
  · subst e
    rw [if_neg (by decide), if_neg (by decide), if_neg (by decide), if_neg (by decide), if_neg (by decide), if_neg (by decide), if_neg (by decide), if_neg (by decide), if_neg (by decide), if_neg (by decide), if_pos rfl] at hs
    have e1 : Int32.ofNat (soK 50) = 9 := by decide
    rw [e1]
    rw [if_neg (by decide), if_pos (by decide)] at r1
    obtain ⟨y', l, im, ey, w0, w2, w1⟩ := hs
    cases ey
    have pk : paK 50 = 1 := by decide
    have m61 : mAI M1 61 (40 * m + j) = bI im := by rw [b5 61 (by decide) (by decide) (by decide), ← hA]; exact w2
    refine ⟨fun z => absurd z (by decide), fun z => absurd z (by decide), fun z => absurd z (by decide), fun z => absurd z (by decide), fun z => absurd z (by decide), fun z => absurd z (by decide), fun z => absurd z (by decide), fun z => absurd z (by decide), fun _ => ⟨61, rf29_41 F, ok61 F, v40 (ln61 F), ?_⟩, fun z => absurd z (by decide), fun z => absurd z (by decide), fun z => absurd z (by decide), fun z => absurd z (by decide), fun z => absurd z (by decide), fun z => absurd z (by decide), fun z => absurd z (by decide), fun z => absurd z (by decide)⟩
    rw [m61]
    exact B_weak (h := h + 1) b1.1 b1.2.2.1 hd (by omega) hj w1 w0 (g := g + 4) (by omega) (r1.mo (by omega)) z1 (fun M2 S2 G2 y2 n2 r2 z2 _ => ⟨_, rfl, C M2 S2 G2 y2 _ (NRx.ny (((row_op hw1 b1 c1.1 n2 (fun z _ w => by rw [show z = d from w]; exact c1.1)).mo (by decide)).nm (by omega))) r2 z2⟩)
  · subst e
    rw [if_neg (by decide), if_neg (by decide), if_neg (by decide), if_neg (by decide), if_neg (by decide), if_neg (by decide), if_neg (by decide), if_neg (by decide), if_neg (by decide), if_neg (by decide), if_neg (by decide), if_pos rfl] at hs
    have e1 : Int32.ofNat (soK 52) = 10 := by decide
    rw [e1]
    rw [if_neg (by decide), if_neg (by decide)] at r1
    obtain ⟨y', l, ey, w0, w1⟩ := hs
    cases ey
    refine ⟨fun z => absurd z (by decide), fun z => absurd z (by decide), fun z => absurd z (by decide), fun z => absurd z (by decide), fun z => absurd z (by decide), fun z => absurd z (by decide), fun z => absurd z (by decide), fun z => absurd z (by decide), fun z => absurd z (by decide), fun _ => B_ov1 (h := h + 3) b1.1 b1.2.2.1 (by omega) hd (fun M2 S2 G2 y2 n2 v2 _ => ⟨_, rfl, C M2 S2 G2 y2 (g + 1) (NRx.ny (((row_op hw1 b1 c1.1 n2 (fun z _ w => by rw [show z = d from w]; exact c1.1)).mo (by decide)).nm (by omega))) (N_su ⟨n2.own.1.1, n2.own.1.2⟩ w1 hj w0 v2 (n2.rp r1 (Nat.le_refl _))) (fun e he => (DsN.ch n2.own.1 w1 v2 (Or.inl (by decide)) (d := d) (c := y) (by simp)).tr (n2.2.2.2.1.dsn (z1 e he)))⟩), fun z => absurd z (by decide), fun z => absurd z (by decide), fun z => absurd z (by decide), fun z => absurd z (by decide), fun z => absurd z (by decide), fun z => absurd z (by decide), fun z => absurd z (by decide)⟩
  · subst e
    rw [if_neg (by decide), if_neg (by decide), if_neg (by decide), if_neg (by decide), if_neg (by decide), if_neg (by decide), if_neg (by decide), if_neg (by decide), if_neg (by decide), if_neg (by decide), if_neg (by decide), if_neg (by decide), if_pos rfl] at hs
    have e1 : Int32.ofNat (soK 53) = 11 := by decide
    rw [e1]
    rw [if_neg (by decide), if_pos (by decide)] at r1
    obtain ⟨y', l, im, aw, ey, w0, w2, w3, w1⟩ := hs
    cases ey
    have pk : paK 53 = 3 := by decide
    refine ⟨fun z => absurd z (by decide), fun z => absurd z (by decide), fun z => absurd z (by decide), fun z => absurd z (by decide), fun z => absurd z (by decide), fun z => absurd z (by decide), fun z => absurd z (by decide), fun z => absurd z (by decide), fun z => absurd z (by decide), fun z => absurd z (by decide), fun _ => B_every (h := h) b1.1 b1.2.2.1 hd (by omega) hj w3 w1 w0 (by rw [← hA]; exact w2) (g := g + 4) (by omega) rfl (r1.mo (by omega)) z1 (fun M2 S2 G2 y2 n2 r2 z2 _ => ⟨_, rfl, C M2 S2 G2 y2 _ (NRx.ny (((row_op hw1 b1 c1.1 n2 (fun z _ w => by rw [show z = d from w]; exact c1.1)).mo (by decide)).nm (by omega))) r2 z2⟩), fun z => absurd z (by decide), fun z => absurd z (by decide), fun z => absurd z (by decide), fun z => absurd z (by decide), fun z => absurd z (by decide), fun z => absurd z (by decide)⟩
  · subst e
    rw [if_neg (by decide), if_neg (by decide), if_neg (by decide), if_neg (by decide), if_neg (by decide), if_neg (by decide), if_neg (by decide), if_neg (by decide), if_neg (by decide), if_neg (by decide), if_neg (by decide), if_neg (by decide), if_neg (by decide), if_pos rfl] at hs
    have e1 : Int32.ofNat (soK 55) = 12 := by decide
    rw [e1]
    rw [if_pos rfl] at r1
    obtain ⟨y', ey, w1⟩ := hs
    cases ey
    refine ⟨fun z => absurd z (by decide), fun z => absurd z (by decide), fun z => absurd z (by decide), fun z => absurd z (by decide), fun z => absurd z (by decide), fun z => absurd z (by decide), fun z => absurd z (by decide), fun z => absurd z (by decide), fun z => absurd z (by decide), fun z => absurd z (by decide), fun z => absurd z (by decide), fun _ => B_ov1n (h := h + 3) b1.1 b1.2.2.1 (by omega) hd (fun M2 S2 G2 y2 n2 v2 _ => ⟨_, rfl, C M2 S2 G2 y2 (g + 1) (row_opn hw1 b1 c1.1 n2 (fun z _ w => by rw [show z = d from w]; exact c1.1) (by decide) (by omega)) (N_tr ⟨n2.own.1.1, n2.own.1.2⟩ w1 hj v2 (n2.rp r1 (Nat.le_refl _))) (fun e he => (DsN.ch n2.own.1 w1 v2 (Or.inl (by decide)) (d := d) (c := y) (by simp)).tr (n2.2.2.2.1.dsn (z1 e he)))⟩), fun z => absurd z (by decide), fun z => absurd z (by decide), fun z => absurd z (by decide), fun z => absurd z (by decide), fun z => absurd z (by decide)⟩
end
