/-! the reference builds: parts without rows -/
theorem so_in {k : Int32} (h : soK k ≠ 99) : k = 37 ∨ k = 38 ∨ k = 39 ∨ k = 40 ∨ k = 41 ∨ k = 42 ∨ k = 44 ∨ k = 47 ∨ k = 49 ∨ k = 50 ∨ k = 52 ∨ k = 53 ∨ k = 55 ∨ k = 57 ∨ k = 58 ∨ k = 2 ∨ k = 17 := by
  by_cases h0 : k = 37
  · exact Or.inl h0
  by_cases h1 : k = 38
  · exact Or.inr (Or.inl h1)
  by_cases h2 : k = 39
  · exact Or.inr (Or.inr (Or.inl h2))
  by_cases h3 : k = 40
  · exact Or.inr (Or.inr (Or.inr (Or.inl h3)))
  by_cases h4 : k = 41
  · exact Or.inr (Or.inr (Or.inr (Or.inr (Or.inl h4))))
  by_cases h5 : k = 42
  · exact Or.inr (Or.inr (Or.inr (Or.inr (Or.inr (Or.inl h5)))))
  by_cases h6 : k = 44
  · exact Or.inr (Or.inr (Or.inr (Or.inr (Or.inr (Or.inr (Or.inl h6))))))
  by_cases h7 : k = 47
  · exact Or.inr (Or.inr (Or.inr (Or.inr (Or.inr (Or.inr (Or.inr (Or.inl h7)))))))
  by_cases h8 : k = 49
  · exact Or.inr (Or.inr (Or.inr (Or.inr (Or.inr (Or.inr (Or.inr (Or.inr (Or.inl h8))))))))
  by_cases h9 : k = 50
  · exact Or.inr (Or.inr (Or.inr (Or.inr (Or.inr (Or.inr (Or.inr (Or.inr (Or.inr (Or.inl h9)))))))))
  by_cases h10 : k = 52
  · exact Or.inr (Or.inr (Or.inr (Or.inr (Or.inr (Or.inr (Or.inr (Or.inr (Or.inr (Or.inr (Or.inl h10))))))))))
  by_cases h11 : k = 53
  · exact Or.inr (Or.inr (Or.inr (Or.inr (Or.inr (Or.inr (Or.inr (Or.inr (Or.inr (Or.inr (Or.inr (Or.inl h11)))))))))))
  by_cases h12 : k = 55
  · exact Or.inr (Or.inr (Or.inr (Or.inr (Or.inr (Or.inr (Or.inr (Or.inr (Or.inr (Or.inr (Or.inr (Or.inr (Or.inl h12))))))))))))
  by_cases h13 : k = 57
  · exact Or.inr (Or.inr (Or.inr (Or.inr (Or.inr (Or.inr (Or.inr (Or.inr (Or.inr (Or.inr (Or.inr (Or.inr (Or.inr (Or.inl h13)))))))))))))
  by_cases h14 : k = 58
  · exact Or.inr (Or.inr (Or.inr (Or.inr (Or.inr (Or.inr (Or.inr (Or.inr (Or.inr (Or.inr (Or.inr (Or.inr (Or.inr (Or.inr (Or.inl h14))))))))))))))
  by_cases h15 : k = 2
  · exact Or.inr (Or.inr (Or.inr (Or.inr (Or.inr (Or.inr (Or.inr (Or.inr (Or.inr (Or.inr (Or.inr (Or.inr (Or.inr (Or.inr (Or.inr (Or.inl h15)))))))))))))))
  by_cases h16 : k = 17
  · exact Or.inr (Or.inr (Or.inr (Or.inr (Or.inr (Or.inr (Or.inr (Or.inr (Or.inr (Or.inr (Or.inr (Or.inr (Or.inr (Or.inr (Or.inr (Or.inr (h16))))))))))))))))
  exact absurd (by unfold soK; rw [if_neg h0, if_neg h1, if_neg h2, if_neg h3, if_neg h4, if_neg h5, if_neg h6, if_neg h7, if_neg h8, if_neg h9, if_neg h10, if_neg h11, if_neg h12, if_neg h13, if_neg h14, if_neg h15, if_neg h16]) h
/-- the traps around, from within: named ones by their part -/
def cxK : List KE → List (Option Nat)
  | [] => []
  | e :: K => match e.2.2.2 with
    | none => cxK K
    | some c => (if c = 0 then none else some e.1) :: cxK K
theorem cxK_n {e : KE} {K : List KE} (h : e.2.2.2 = none) : cxK (e :: K) = cxK K := by simp only [cxK, h]
theorem cxK_s {e : KE} {K : List KE} {c : Int64} (h : e.2.2.2 = some c) : cxK (e :: K) = (if c = 0 then none else some e.1) :: cxK K := by simp only [cxK, h]
theorem trX_cx : ∀ (K : List KE) (v x : Nat), trX K v x → (cxK K)[v]? = some (some x)
  | [], _, _, h => h.elim
  | e :: K, v, x, h => by
    unfold trX at h
    cases he : e.2.2.2 with
    | none =>
      rw [he] at h
      rw [cxK_n he]
      exact trX_cx K v x h
    | some c =>
      rw [he] at h
      rw [cxK_s he]
      rcases h with ⟨h1, h2, h3⟩ | ⟨w, h1, h2⟩
      · rw [h1, if_neg h3, h2]; rfl
      · rw [h1]
        show (cxK K)[w]? = _
        exact trX_cx K w x h2
section
variable {m : Nat} {A : Nat → Nat → Int32} {pn : Nat → Int32} {S S1 S2 : RBs} {G G1 G2 : Nat → List Nat} {M M1 M2 : Mem} {h : Nat} {Q : Option Value → Mem → Prop} {W : Wo} {zn fn lo hw p p' pb x y j g d q1 q2 s0 ea ca ea1 ca1 ea2 ca2 : Nat} {cx : List (Option Nat)} {H H1 H2 : Nat → Prop} {k : Int32} {K : List KE}
theorem BxO.nr (h : BxO m A pn M S G M1 S1 G1 d H1 q1 ea1 ca1) (n : NRx m A pn M1 S1 G1 M2 S2 G2 y H2 q2 ea2 ca2) (h1 : ∀ z, 700 * m ≤ z → z < 700 * m + S.1 → H1 z → H z) (h2 : ∀ z, 700 * m ≤ z → z < 700 * m + S.1 → H2 z → H z) : NRx m A pn M S G M2 S2 G2 y H (q1 + q2) (ea1 + ea2) (ca1 + ca2) := by
  obtain ⟨a1, a2, a3, a4, a5, a6⟩ := h
  obtain ⟨b1, b2, b3, b4, ⟨b5, b6, b7⟩, b8⟩ := n
  have := a4.1
  exact ⟨b1, a2.tr b2, b3, (a4.more h1).tr b4 h2, ⟨by omega, b6, b7⟩, by have := a6.1; have := b8.1; omega, by have := a6.2.1; have := b8.2.1; omega, a6.2.2.tr b4 b8.2.2⟩
/-- as NRx, but y itself may be the trap of part P -/
def NRy (m : Nat) (A : Nat → Nat → Int32) (pn : Nat → Int32) (M : Mem) (S : RBs) (G : Nat → List Nat) (M' : Mem) (S' : RBs) (G' : Nat → List Nat) (y : Nat) (H : Nat → Prop) (q ea ca P : Nat) : Prop := BuM m A pn S' M' ∧ RGb m M M' ∧ RgB m S' G' ∧ FrB m S G S' G' H ∧ (700 * m + S.1 ≤ y ∧ y < 700 * m + S'.1 ∧ S'.2 86 y = -1) ∧ (S'.1 ≤ S.1 + q ∧ rtC m S' + ca ≤ rtC m S + ea) ∧ ∀ z, 700 * m + S.1 ≤ z → z < 700 * m + S'.1 → S'.2 80 z = 10 → S'.2 81 z = -1 ∨ (z = y ∧ S'.2 81 z = Int32.ofNat P)
theorem NRx.ny {P : Nat} (h : NRx m A pn M S G M1 S1 G1 y H q1 ea ca) : NRy m A pn M S G M1 S1 G1 y H q1 ea ca P := ⟨h.1, h.2.1, h.2.2.1, h.2.2.2.1, h.2.2.2.2.1, ⟨h.2.2.2.2.2.1, h.2.2.2.2.2.2.1⟩, fun z z1 z2 z3 => Or.inl (h.2.2.2.2.2.2.2 z z1 z2 z3)⟩
theorem NRy.own {P : Nat} (h : NRy m A pn M S G M1 S1 G1 y H q1 ea ca P) : frN m S1 y := ⟨⟨by have := h.2.2.2.2.1.1; omega, h.2.2.2.2.1.2.1⟩, h.2.2.2.2.1.2.2⟩
theorem NRy.rp {P g g' p p' x c : Nat} (h : NRy m A pn M S G M1 S1 G1 y H q1 ea ca P) (hr : RpN W m zn fn (vwR S G) (700 * m + S.1) g cx c x p p') (hg : g ≤ g') : RpN W m zn fn (vwR S1 G1) (700 * m + S1.1) g' cx c x p p' := RpN.st (fun z h1 h2 => (h.2.2.2.1.2.1 z h1 h2).1) (by have := h.2.2.2.1.1; omega) _ _ _ _ _ _ _ hg hr
/-- what making a part's node must lead to -/
def KpN (W : Wo) (m zn fn : Nat) (A : Nat → Nat → Int32) (pn : Nat → Int32) (M : Mem) (S : RBs) (G : Nat → List Nat) (s0 : Nat) (cx : List (Option Nat)) (x p p' q nc P : Nat) (Q : Option Value → Mem → Prop) : Prop := ∀ M' S' G' y g, NRy m A pn M S G M' S' G' y (fun z => 700 * m + s0 ≤ z) q 1 nc P → RpN W m zn fn (vwR S' G') (700 * m + S'.1) g cx y x p p' → Q (some (.int (Int32.ofNat y))) M'
def KpZ (W : Wo) (m zn fn : Nat) (A : Nat → Nat → Int32) (pn : Nat → Int32) (M : Mem) (S : RBs) (G : Nat → List Nat) (s0 : Nat) (cx : List (Option Nat)) (x p p' q nc P : Nat) (Z : List (Nat × Nat)) (Q : Option Value → Mem → Prop) : Prop := ∀ M' S' G' y g, NRy m A pn M S G M' S' G' y (fun z => 700 * m + s0 ≤ z) q 1 nc P → RpN W m zn fn (vwR S' G') (700 * m + S'.1) g cx y x p p' → (∀ e ∈ Z, DsN W m (vwR S' G') (700 * m + S'.1) y x e.1 e.2) → Q (some (.int (Int32.ofNat y))) M'
theorem KpZ.kn (C : KpZ W m zn fn A pn M S G s0 cx x p p' q1 ca j [] Q) : KpN W m zn fn A pn M S G s0 cx x p p' q1 ca j Q := fun M' S' G' y g n r => C M' S' G' y g n r (fun e he => absurd he (List.not_mem_nil))
theorem NRx.hs {M0 M' : Mem} {S0 S' : RBs} {G0 G' : Nat → List Nat} {q : Nat} (h : NRx m A pn M0 S0 G0 M' S' G' y noN q ea ca) : NRx m A pn M0 S0 G0 M' S' G' y (fun z => 700 * m + s0 ≤ z) q ea ca := ⟨h.1, h.2.1, h.2.2.1, h.2.2.2.1.more (fun _ _ _ z => z.elim), h.2.2.2.2⟩
theorem B_lf (hA : woA W = A) (hB : BuM m A pn S M) (hR : RgB m S G) (hf : S.1 + (2 + 11 * paK k) ≤ 700) (hj : j < 40) (e58 : A 58 (40 * m + j) = Int32.ofNat (soK k)) (hk : soK k ≠ 99) (ho : opnK k = false) (e69 : A 69 (40 * m + j) = -1) (hs : PkS W m zn fn lo hw k K j p p x []) (C : KpN W m zn fn A pn M S G s0 (cxK K) x p (p + paK k) (2 + 11 * paK k) 0 (40 * m + j) Q) : E (h + 6) mdX11_nodeOf [.ref 29, .int (Int32.ofNat (40 * m + j))] M Q := by
  obtain ⟨F, h4, b2, b3, b4, b5, b6⟩ := id hB
  have l40 := lt40 h4 hj
  have v40 : ∀ {M : Mem} {c : Nat}, mL M c = 160 → vp_in (Int32.ofNat (40 * m + j)) (mL M c) := fun e => ix40 h4 hj e
  have m69 : mAI M 69 (40 * m + j) = -1 := by rw [b5 69 (by decide) (by decide) (by decide)]; exact e69
  have m58 : mAI M 58 (40 * m + j) = Int32.ofNat (soK k) := by rw [b5 58 (by decide) (by decide) (by decide)]; exact e58
  refine KX11_nodeOf ?_
  unfold DX11_nodeOf_0
  rw [l40]
  refine ⟨ok29 F, 69, rf29_49 F, ok69 F, v40 (ln69 F), ?_⟩
  rw [m69]
  refine ⟨fun z => absurd rfl z, fun _ => ?_⟩
  unfold DX11_nodeOf_24
  rw [l40]
  refine ⟨ok29 F, 58, rf29_38 F, ok58 F, v40 (ln58 F), ?_⟩
  rw [m58]
  unfold PkS at hs
  rcases so_in hk with e | e | e | e | e | e | e | e | e | e | e | e | e | e | e | e | e
  · subst e
    rw [if_neg (by decide), if_neg (by decide), if_neg (by decide), if_neg (by decide), if_neg (by decide), if_neg (by decide), if_neg (by decide), if_neg (by decide), if_neg (by decide), if_neg (by decide), if_neg (by decide), if_neg (by decide), if_neg (by decide), if_neg (by decide), if_neg (by decide)] at hs
    have e1 : Int32.ofNat (soK 37) = 0 := by decide
    rw [e1]
    refine ⟨fun z => absurd z (by decide), fun z => absurd z (by decide), fun z => absurd z (by decide), fun z => absurd z (by decide), fun z => absurd z (by decide), fun z => absurd z (by decide), fun z => absurd z (by decide), fun z => absurd z (by decide), fun z => absurd z (by decide), fun z => absurd z (by decide), fun z => absurd z (by decide), fun z => absurd z (by decide), fun z => absurd z (by decide), fun z => absurd z (by decide), fun z => absurd z (by decide), fun z => absurd z (by decide), fun _ => B_nd (h := h + 4) hB hR (by omega) (fun M1 S1 G1 y1 n1 v1 _ => ⟨_, rfl, C M1 S1 G1 y1 1 (NRx.ny (n1.hs.mo (by decide))) (N_no ⟨n1.own.1.1, n1.own.1.2⟩ hs.1 v1)⟩)⟩
  · subst e
    rw [if_pos rfl] at hs
    have e1 : Int32.ofNat (soK 38) = 1 := by decide
    rw [e1]
    refine ⟨fun _ => B_nd (h := h + 4) hB hR (by omega) (fun M1 S1 G1 y1 n1 v1 _ => ⟨_, rfl, C M1 S1 G1 y1 1 (NRx.ny (n1.hs.mo (by decide))) (N_pa ⟨n1.own.1.1, n1.own.1.2⟩ hs.1 v1)⟩), fun z => absurd z (by decide), fun z => absurd z (by decide), fun z => absurd z (by decide), fun z => absurd z (by decide), fun z => absurd z (by decide), fun z => absurd z (by decide), fun z => absurd z (by decide), fun z => absurd z (by decide), fun z => absurd z (by decide), fun z => absurd z (by decide), fun z => absurd z (by decide), fun z => absurd z (by decide), fun z => absurd z (by decide), fun z => absurd z (by decide), fun z => absurd z (by decide), fun z => absurd z (by decide)⟩
  · subst e
    rw [if_neg (by decide), if_pos rfl] at hs
    have e1 : Int32.ofNat (soK 39) = 2 := by decide
    rw [e1]
    refine ⟨fun z => absurd z (by decide), fun _ => B_halt (h := h + 2) (zn := zn) (fn := fn) hB hR (by have pk : paK 39 = 1 := (by decide); omega) hs.1 (fun M1 S1 G1 y1 n1 v1 _ => ⟨_, rfl, C M1 S1 G1 y1 2 (NRx.ny (n1.hs.mo (by decide))) (v1 _)⟩), fun z => absurd z (by decide), fun z => absurd z (by decide), fun z => absurd z (by decide), fun z => absurd z (by decide), fun z => absurd z (by decide), fun z => absurd z (by decide), fun z => absurd z (by decide), fun z => absurd z (by decide), fun z => absurd z (by decide), fun z => absurd z (by decide), fun z => absurd z (by decide), fun z => absurd z (by decide), fun z => absurd z (by decide), fun z => absurd z (by decide), fun z => absurd z (by decide)⟩
  · subst e
    rw [if_neg (by decide), if_neg (by decide), if_pos rfl] at hs
    have e1 : Int32.ofNat (soK 40) = 3 := by decide
    rw [e1]
    obtain ⟨⟨w, w1, w2⟩, -⟩ := hs
    refine ⟨fun z => absurd z (by decide), fun z => absurd z (by decide), fun _ => B_nd (h := h + 4) hB hR (by omega) (fun M1 S1 G1 y1 n1 v1 _ => ⟨_, rfl, C M1 S1 G1 y1 1 (NRx.ny (n1.hs.mo (by decide))) (N_em ⟨n1.own.1.1, n1.own.1.2⟩ w2 hj w1 v1)⟩), fun z => absurd z (by decide), fun z => absurd z (by decide), fun z => absurd z (by decide), fun z => absurd z (by decide), fun z => absurd z (by decide), fun z => absurd z (by decide), fun z => absurd z (by decide), fun z => absurd z (by decide), fun z => absurd z (by decide), fun z => absurd z (by decide), fun z => absurd z (by decide), fun z => absurd z (by decide), fun z => absurd z (by decide), fun z => absurd z (by decide)⟩
  · subst e
    rw [if_neg (by decide), if_neg (by decide), if_neg (by decide), if_pos rfl] at hs
    have e1 : Int32.ofNat (soK 41) = 4 := by decide
    rw [e1]
    obtain ⟨⟨w, w1, sq, em, pa, w2, w3, w4, w5⟩, -⟩ := hs
    have pk : paK 41 = 1 := by decide
    refine ⟨fun z => absurd z (by decide), fun z => absurd z (by decide), fun z => absurd z (by decide), fun _ => B_nd (h := h + 4) hB hR (by omega) (fun M1 S1 G1 y1 n1 v1 _ => ⟨_, rfl, ?_⟩), fun z => absurd z (by decide), fun z => absurd z (by decide), fun z => absurd z (by decide), fun z => absurd z (by decide), fun z => absurd z (by decide), fun z => absurd z (by decide), fun z => absurd z (by decide), fun z => absurd z (by decide), fun z => absurd z (by decide), fun z => absurd z (by decide), fun z => absurd z (by decide), fun z => absurd z (by decide), fun z => absurd z (by decide)⟩
    have s1 := n1.2.2.2.2.2
    have b1 := n1.2.2.2.2.1
    refine B_nd (h := h + 4) n1.1 n1.2.2.1 (by omega) (fun M2 S2 G2 y2 n2 v2 _ => ⟨_, rfl, ?_⟩)
    have s2 := n2.2.2.2.2.2
    have b2' := n2.2.2.2.2.1
    refine B_ov2 (h := h + 3) n2.1 n2.2.2.1 (by omega) (n2.fr n1.own (fun z => z)) n2.own (by omega) (fun M3 S3 G3 y3 n3 v3 _ => ⟨_, rfl, ?_⟩)
    have s3 := n3.2.2.2.2.2
    have b3' := n3.2.2.2.2.1
    refine B_ov1 (h := h + 3) n3.1 n3.2.2.1 (by omega) n3.own (fun M4 S4 G4 y4 n4 v4 _ => ⟨_, rfl, C M4 S4 G4 y4 3 ?_ ?_⟩)
    · have k2 : NRx m A pn M S G M2 S2 G2 y2 noN 2 2 0 := n1.tr n2 (fun _ _ _ z => z) (fun _ _ _ z => z)
      have k3 : NRx m A pn M S G M3 S3 G3 y3 noN 3 3 2 := k2.tr n3 (fun _ _ _ z => z) (fun z _ z2 w => by
        have w : z = y1 ∨ z = y2 := w
        have := k2.2.2.2.2.1.1
        omega)
      have k4 : NRx m A pn M S G M4 S4 G4 y4 noN 4 4 3 := k3.tr n4 (fun _ _ _ z => z) (fun z _ z2 w => by
        have w : z = y3 := w
        have := k3.2.2.2.2.1.1
        omega)
      exact NRx.ny ((k4.hs.mo (by decide)).nm (by decide))
    · refine N_lo ⟨n4.own.1.1, n4.own.1.2⟩ w2 v4 (n4.rp (g := 2) (N_seq (g := 1) ⟨n3.own.1.1, n3.own.1.2⟩ w3 v3 (by show 2 ≤ 2; omega) ⟨p, ?_, p + 1, ?_, rfl⟩) (Nat.le_refl _))
      · exact n3.rp (n2.rp (g' := 1) (N_em (g := 0) ⟨n1.own.1.1, n1.own.1.2⟩ w4 hj (by rw [hA]; rw [hA] at w1; exact w1) v1) (Nat.le_refl _)) (Nat.le_refl _)
      · exact n3.rp (N_pa (g := 0) ⟨n2.own.1.1, n2.own.1.2⟩ w5 v2) (Nat.le_refl _)
  · rw [e] at ho; exact absurd ho (by decide)
  · rw [e] at ho; exact absurd ho (by decide)
  · subst e
    rw [if_neg (by decide), if_neg (by decide), if_neg (by decide), if_neg (by decide), if_pos rfl] at hs
    have e1 : Int32.ofNat (soK 47) = 7 := by decide
    rw [e1]
    obtain ⟨⟨l, im, w1, w2, w3⟩, -⟩ := hs
    have pk : paK 47 = 1 := by decide
    have m61 : mAI M 61 (40 * m + j) = bI im := by rw [b5 61 (by decide) (by decide) (by decide), ← hA]; exact w2
    refine ⟨fun z => absurd z (by decide), fun z => absurd z (by decide), fun z => absurd z (by decide), fun z => absurd z (by decide), fun z => absurd z (by decide), fun z => absurd z (by decide), fun _ => ⟨61, rf29_41 F, ok61 F, v40 (ln61 F), ?_⟩, fun z => absurd z (by decide), fun z => absurd z (by decide), fun z => absurd z (by decide), fun z => absurd z (by decide), fun z => absurd z (by decide), fun z => absurd z (by decide), fun z => absurd z (by decide), fun z => absurd z (by decide), fun z => absurd z (by decide), fun z => absurd z (by decide)⟩
    rw [m61]
    exact B_await (h := h + 1) (fn := fn) hB hR (by omega) hj w3 w1 (fun M1 S1 G1 y1 n1 v1 _ => ⟨_, rfl, C M1 S1 G1 y1 5 (NRx.ny (n1.hs.mo (by decide))) (v1 _)⟩)
  · rw [e] at ho; exact absurd ho (by decide)
  · rw [e] at ho; exact absurd ho (by decide)
  · rw [e] at ho; exact absurd ho (by decide)
  · rw [e] at ho; exact absurd ho (by decide)
  · rw [e] at ho; exact absurd ho (by decide)
  · subst e
    rw [if_neg (by decide), if_neg (by decide), if_neg (by decide), if_neg (by decide), if_neg (by decide), if_pos rfl] at hs
    have e1 : Int32.ofNat (soK 57) = 13 := by decide
    rw [e1]
    obtain ⟨⟨w, e2, w0, w1, w2, w3⟩, -⟩ := hs
    refine ⟨fun z => absurd z (by decide), fun z => absurd z (by decide), fun z => absurd z (by decide), fun z => absurd z (by decide), fun z => absurd z (by decide), fun z => absurd z (by decide), fun z => absurd z (by decide), fun z => absurd z (by decide), fun z => absurd z (by decide), fun z => absurd z (by decide), fun z => absurd z (by decide), fun z => absurd z (by decide), fun _ => B_nd (h := h + 4) hB hR (by omega) (fun M1 S1 G1 y1 n1 v1 _ => ⟨_, rfl, C M1 S1 G1 y1 1 (NRx.ny (n1.hs.mo (by decide))) (N_ex w0 ⟨n1.own.1.1, n1.own.1.2⟩ w3 hj w1 (trX_cx K w e2 w2) v1)⟩), fun z => absurd z (by decide), fun z => absurd z (by decide), fun z => absurd z (by decide), fun z => absurd z (by decide)⟩
  · rw [e] at ho; exact absurd ho (by decide)
  · subst e
    rw [if_neg (by decide), if_neg (by decide), if_neg (by decide), if_neg (by decide), if_neg (by decide), if_neg (by decide), if_neg (by decide), if_neg (by decide), if_neg (by decide), if_neg (by decide), if_neg (by decide), if_neg (by decide), if_neg (by decide), if_neg (by decide), if_neg (by decide)] at hs
    have e1 : Int32.ofNat (soK 2) = 15 := by decide
    rw [e1]
    refine ⟨fun z => absurd z (by decide), fun z => absurd z (by decide), fun z => absurd z (by decide), fun z => absurd z (by decide), fun z => absurd z (by decide), fun z => absurd z (by decide), fun z => absurd z (by decide), fun z => absurd z (by decide), fun z => absurd z (by decide), fun z => absurd z (by decide), fun z => absurd z (by decide), fun z => absurd z (by decide), fun z => absurd z (by decide), fun z => absurd z (by decide), fun _ => B_nd (h := h + 4) hB hR (by omega) (fun M1 S1 G1 y1 n1 v1 _ => ⟨_, rfl, C M1 S1 G1 y1 1 (NRx.ny (n1.hs.mo (by decide))) (N_no ⟨n1.own.1.1, n1.own.1.2⟩ hs.1 v1)⟩), fun z => absurd z (by decide), fun z => absurd z (by decide)⟩
  · rw [e] at ho; exact absurd ho (by decide)
end
