/-! the reference builds: choices and branches -/
section
variable {m : Nat} {A : Nat → Nat → Int32} {pn : Nat → Int32} {S S1 S2 : RBs} {G G1 G2 : Nat → List Nat} {M M1 M2 : Mem} {h : Nat} {Q : Option Value → Mem → Prop} {W : Wo} {zn fn lo hw p p' pb pm pr x y j g d e q q1 q2 s0 r ea1 ca1 ea2 ca2 : Nat} {cx : List (Option Nat)} {H H1 H2 : Nat → Prop} {k : Int32} {K : List KE} {ds ys : List Nat}
theorem RowR.st (hw1 : RowR W m zn fn lo hw A pn S G s0 r cx y p p' ds) (f : FrB m S G S1 G1 H) (nf : ∀ d ∈ ds, ¬ H d) : RowR W m zn fn lo hw A pn S1 G1 s0 r cx y p p' ds := by
  obtain ⟨a, t, xs, g, w1, w2, w3, w4, w5, w6, w7⟩ := hw1
  have l := f.1
  refine ⟨a, t, xs, g, w1, w2, w3, fun d hd => ?_, w5, w6, RpLs.imp (fun _ _ _ _ k => RpN.st (fun z h1 h2 => (f.2.1 z h1 h2).1) (by omega) _ _ _ _ _ _ _ (Nat.le_refl _) k) _ _ _ _ w7⟩
  obtain ⟨v1, v2⟩ := w4 d hd
  have q := f.2.1 d v1.1.1 v1.1.2
  exact ⟨⟨⟨v1.1.1, by have := v1.1.2; omega⟩, (q.2 (nf d hd)).trans v1.2⟩, v2⟩
theorem RowR.lt (hw1 : RowR W m zn fn lo hw A pn S G s0 r cx y p p' ds) : ∀ z ∈ ds, z < 700 * m + S.1 := by
  obtain ⟨a, t, xs, g, -, -, -, w, -⟩ := hw1
  exact fun z hz => (w z hz).1.1.2
theorem BxO.tr (h : BxO m A pn M S G M1 S1 G1 d H1 q1 ea1 ca1) (n : BxO m A pn M1 S1 G1 M2 S2 G2 y H2 q2 ea2 ca2) (h1 : ∀ z, 700 * m ≤ z → z < 700 * m + S.1 → H1 z → H z) (h2 : ∀ z, 700 * m ≤ z → z < 700 * m + S.1 → H2 z → H z) : BxO m A pn M S G M2 S2 G2 y H (q1 + q2) (ea1 + ea2) (ca1 + ca2) := by
  obtain ⟨a1, a2, a3, a4, a5, a6⟩ := h
  obtain ⟨b1, b2, b3, b4, b5, b8⟩ := n
  have := a4.1
  exact ⟨b1, a2.tr b2, b3, (a4.more h1).tr b4 h2, b5, by have := a6.1; have := b8.1; omega, by have := a6.2.1; have := b8.2.1; omega, a6.2.2.tr b4 b8.2.2⟩
theorem pk_ch (hk : k = 44 ∨ k = 58) (hj : j < 40) (hs : PkS W m zn fn lo hw k K j p pb x ys) : ∃ y z l, ChW W m zn fn (if k = 44 then 4 else 5) (Int32.ofNat (40 * m + j)) l ∧ ndS (woV W) lo hw x 4 l [y, z] ∧ (ys = [y, z] ∨ ys = [y] ∧ lfS (woV W) lo hw z 0 0) := by
  unfold PkS at hs
  rcases hk with e | e
  · subst e
    rw [if_neg (by decide), if_neg (by decide), if_neg (by decide), if_neg (by decide), if_neg (by decide), if_neg (by decide), if_neg (by decide), if_pos rfl] at hs
    obtain ⟨y, z, l, w1, w2, w3⟩ := hs
    exact ⟨y, z, l, by rw [if_pos rfl]; exact CdW.ch hj w1, w2, w3⟩
  · subst e
    rw [if_neg (by decide), if_neg (by decide), if_neg (by decide), if_neg (by decide), if_neg (by decide), if_neg (by decide), if_neg (by decide), if_neg (by decide), if_pos rfl] at hs
    obtain ⟨y, z, f, w1, w2, w3, w4⟩ := hs
    exact ⟨y, z, _, by rw [if_neg (by decide)]; exact Or.inr ⟨rfl, j, f, hj, rfl, w1, w2, rfl⟩, w3, w4⟩
theorem B_cho {Z : List (Nat × Nat)} {cc nc : Nat} (hcc : 2 ≤ cc) (hB : BuM m A pn S M) (hR : RgB m S G) (hf : S.1 + cc ≤ 700) (hj : j < 40) (hr : r < 100) (e58 : A 58 (40 * m + j) = Int32.ofNat (soK k)) (hk : k = 44 ∨ k = 58) (e69 : A 69 (40 * m + j) = Int32.ofNat r) (hw1 : RowR W m zn fn lo hw A pn S G s0 r (cxK K) y p pm ds) (hs0 : s0 ≤ S.1) (hs : PkS W m zn fn lo hw k K j p pb x ys) (h2 : (A 75 r = -1 ∧ ys = [y] ∧ pm = pb ∧ nc = ds.length ∧ Z = ds.zip (chV W y)) ∨ ∃ rm z ds2, (3 ≤ cc ∧ nc = ds.length + ds2.length ∧ Z = ds.zip (chV W y) ++ ds2.zip (chV W z)) ∧ A 75 r = Int32.ofNat rm ∧ rm < 100 ∧ ys = [y, z] ∧ RowR W m zn fn lo hw A pn S G s0 rm (cxK K) z pm pb ds2 ∧ ∀ w ∈ ds, w ∉ ds2) (C : KpZ W m zn fn A pn M S G s0 (cxK K) x p pb cc nc (40 * m + j) Z Q) : E (h + 6) mdX11_nodeOf [.ref 29, .int (Int32.ofNat (40 * m + j))] M Q := by
  obtain ⟨y', z', l, c1, c2, c3⟩ := pk_ch hk hj hs
  refine B_hd hB hR (by omega) hj hr e69 hw1 hs0 (fun M1 S1 G1 d g b1 d1 r1 z1 => ?_)
  obtain ⟨F, h4, b2, b3, b4, b5, b6⟩ := id b1.1
  have l40 := lt40 h4 hj
  have v40 : ∀ {M : Mem} {c : Nat}, mL M c = 160 → vp_in (Int32.ofNat (40 * m + j)) (mL M c) := fun e => ix40 h4 hj e
  have lr : (Int32.ofNat r).toNatClampNeg = r := lt32 (by omega)
  have m58 : mAI M1 58 (40 * m + j) = Int32.ofNat (soK k) := by rw [b5 58 (by decide) (by decide) (by decide)]; exact e58
  have m69 : mAI M1 69 (40 * m + j) = Int32.ofNat r := by rw [b5 69 (by decide) (by decide) (by decide)]; exact e69
  have m75 : mAI M1 75 r = A 75 r := by rw [b5 75 (by decide) (by decide) (by decide)]
  have s1 := b1.2.2.2.2.2
  have hd := b1.2.2.2.2.1
  have vr : vp_in (Int32.ofNat r) (mL M1 75) := by rw [ln75 F]; exact vp_of hr (by decide)
  -- the node of the choice itself
  have n199 : ∀ (M2 : Mem) (x3 : Int32), Fix M2 → mAI M2 58 (40 * m + j) = Int32.ofNat (soK k) → E (h + 5) mdX11_over [.ref 29, .int (if k = 44 then 4 else 5), .int (Int32.ofNat (40 * m + j)), .int (Int32.ofNat d), .int x3] M2 (fun r M2' => mE M2 M2' → ∃ r3 : Int32, r = some (.int r3) ∧ Q (some (.int r3)) M2') → DX11_nodeOf_199 (h + 5) 29 (Int32.ofNat (40 * m + j)) (Int32.ofNat d) x3 M2 Q := by
    intro M2 x3 F2 e2 ho
    unfold DX11_nodeOf_199 DX11_nodeOf_217
    rw [l40]
    refine ⟨ok29 F2, 58, rf29_38 F2, ok58 F2, v40 (ln58 F2), ?_⟩
    rw [e2]
    rcases hk with e | e
    · subst e
      rw [if_pos rfl] at ho
      exact ⟨fun _ => ⟨ok29 F2, ho⟩, fun z => absurd z (by decide)⟩
    · subst e
      rw [if_neg (by decide)] at ho
      exact ⟨fun z => absurd (by decide) z, fun _ => ⟨ok29 F2, ho⟩⟩
  have main : (¬ A 75 r = -1 → E (h + 5) mdX11_rowNode [.ref 29, .int (A 75 r)] M1 (fun r2 M28 => mE M1 M28 → ∃ r29 : Int32, r2 = some (.int r29) ∧ DX11_nodeOf_199 (h + 5) 29 (Int32.ofNat (40 * m + j)) (Int32.ofNat d) r29 M28 Q)) ∧ (A 75 r = -1 → DX11_nodeOf_199 (h + 5) 29 (Int32.ofNat (40 * m + j)) (Int32.ofNat d) (-1) M1 Q) := by
    rcases h2 with ⟨e75, ey, ep, enc, eZ⟩ | ⟨rm, z, ds2, ⟨hc3, enc, eZ⟩, e75, hrm, ey, hw2, hdj⟩
    · refine ⟨fun z => absurd e75 z, fun _ => n199 M1 (-1) F m58 ?_⟩
      rcases c3 with c3 | ⟨c3, c4⟩
      · rw [ey] at c3; cases c3
      rw [ey] at c3
      cases c3
      subst ep
      exact B_ov1 (h := h + 3) (hx := fun w => absurd w (by rcases hk with e | e <;> rw [e] <;> decide)) b1.1 b1.2.2.1 (by omega) hd (fun M2 S2 G2 y2 n2 v2 _ => ⟨_, rfl, C M2 S2 G2 y2 (g + 1) (NRx.ny (((row_op hw1 b1 d1.1 n2 (fun z _ w => by rw [show z = d from w]; exact d1.1)).mo (by omega)).nm (by omega))) (N_ch1 ⟨n2.own.1.1, n2.own.1.2⟩ c2 c1 v2 (n2.rp r1 (Nat.le_refl _)) c4) (fun e he => (DsN.ch n2.own.1 c2 v2 (Or.inl (by decide)) (d := d) (by simp)).tr (n2.2.2.2.1.dsn (z1 e (by rw [eZ] at he; exact he))))⟩)
    · rw [e75]
      refine ⟨fun _ => ?_, fun z => absurd z (nm32 (by omega))⟩
      have c3 : ys = [y', z'] := by
        rcases c3 with c3 | ⟨c3, c4⟩
        · exact c3
        · rw [ey] at c3; cases c3
      rw [ey] at c3
      cases c3
      have lt2 := hw2.lt
      have hw3 := hw2.st b1.2.2.2.1 (fun w hw hz => hdj w hz.1 hw)
      have hle : s0 ≤ S1.1 := Nat.le_trans hs0 b1.2.2.2.1.1
      have hle1 : S.1 ≤ S1.1 := b1.2.2.2.1.1
      have nd2 : d ∉ ds2 := fun hz => by
        rcases d1.2 with w | w
        · exact hdj d w hz
        · have := lt2 d hz; omega
      refine B_row (h := h + 3) b1.1 b1.2.2.1 (by omega) hrm hw3 hle (fun M2 S2 G2 e g2 b2 e1 r2 z2 _ => ⟨_, rfl, n199 M2 _ b2.1.1 (by rw [b2.1.2.2.2.2.2.1 58 (by decide) (by decide) (by decide)]; exact e58) ?_⟩)
      have s2 := b2.2.2.2.2.2
      have hd2 : frN m S2 d := b2.fr hd (fun hz => nd2 hz.1)
      have ne : d ≠ e := fun hz => by
        rcases e1.2 with w | w
        · exact nd2 (by rw [hz]; exact w)
        · have := hd.1.2; omega
      refine B_ov2 (h := h + 3) (hx := fun w => absurd w (by rcases hk with e | e <;> rw [e] <;> decide)) b2.1 b2.2.2.1 (by omega) hd2 b2.2.2.2.2.1 ne (fun M3 S3 G3 y3 n3 v3 _ => ⟨_, rfl, C M3 S3 G3 y3 (max g g2 + 1) ?_ ?_ (fun t ht => by
        rw [eZ] at ht
        rcases List.mem_append.mp ht with ht | ht
        · exact (DsN.ch n3.own.1 c2 v3 (Or.inl (by decide)) (d := d) (by simp)).tr (n3.2.2.2.1.dsn (b2.2.2.2.1.dsn (z1 t ht)))
        · exact (DsN.ch n3.own.1 c2 v3 (Or.inl (by decide)) (d := e) (by simp)).tr (n3.2.2.2.1.dsn (z2 t ht)))⟩)
      · have b12 : BxO m A pn M S G M2 S2 G2 e (fun z => 700 * m + s0 ≤ z) 2 2 (ds.length + ds2.length) := b1.tr b2 (fun z _ _ w => hw1.ge z w.1) (fun z _ _ w => hw2.ge z w.1)
        refine NRx.ny (((b12.nr n3 (fun _ _ _ z => z) (fun z _ _ w => ?_)).mo (by omega)).nm (by omega))
        have w : z = d ∨ z = e := w
        rcases w with w | w
        · rw [w]; exact d1.1
        · rw [w]; exact e1.1
      · exact N_ch2 ⟨n3.own.1.1, n3.own.1.2⟩ c2 c1 v3 (n3.rp (b2.rp (g' := max g g2) r1 (by omega)) (Nat.le_refl _)) (n3.rp r2 (by omega))
  unfold DX11_nodeOf_24
  rw [l40]
  refine ⟨ok29 F, 58, rf29_38 F, ok58 F, v40 (ln58 F), ?_⟩
  rw [m58]
  rcases hk with e | e
  · subst e
    have e1 : Int32.ofNat (soK 44) = 6 := by decide
    rw [e1]
    refine ⟨fun z => absurd z (by decide), fun z => absurd z (by decide), fun z => absurd z (by decide), fun z => absurd z (by decide), fun z => absurd z (by decide), fun _ => ⟨75, rf29_56 F, 69, rf29_49 F, ok69 F, v40 (ln69 F), ok75 F, by rw [m69]; exact vr, ?_⟩, fun z => absurd z (by decide), fun z => absurd z (by decide), fun z => absurd z (by decide), fun z => absurd z (by decide), fun z => absurd z (by decide), fun z => absurd z (by decide), fun z => absurd z (by decide), fun z => absurd z (by decide), fun z => absurd z (by decide), fun z => absurd z (by decide), fun z => absurd z (by decide)⟩
    rw [m69, lr, m75]
    refine ⟨fun hz => ⟨75, rf29_56 F, 69, rf29_49 F, ok69 F, v40 (ln69 F), ok75 F, by rw [m69]; exact vr, ?_⟩, main.2⟩
    rw [m69, lr, m75]
    exact main.1 hz
  · subst e
    have e1 : Int32.ofNat (soK 58) = 14 := by decide
    rw [e1]
    refine ⟨fun z => absurd z (by decide), fun z => absurd z (by decide), fun z => absurd z (by decide), fun z => absurd z (by decide), fun z => absurd z (by decide), fun z => absurd z (by decide), fun z => absurd z (by decide), fun z => absurd z (by decide), fun z => absurd z (by decide), fun z => absurd z (by decide), fun z => absurd z (by decide), fun z => absurd z (by decide), fun z => absurd z (by decide), fun _ => ⟨75, rf29_56 F, 69, rf29_49 F, ok69 F, v40 (ln69 F), ok75 F, by rw [m69]; exact vr, ?_⟩, fun z => absurd z (by decide), fun z => absurd z (by decide), fun z => absurd z (by decide)⟩
    rw [m69, lr, m75]
    refine ⟨fun hz => ⟨75, rf29_56 F, 69, rf29_49 F, ok69 F, v40 (ln69 F), ok75 F, by rw [m69]; exact vr, ?_⟩, main.2⟩
    rw [m69, lr, m75]
    exact main.1 hz
end
