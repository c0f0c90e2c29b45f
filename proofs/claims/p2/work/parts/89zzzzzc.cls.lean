/-! the reference looks behind: branches that disturb each other -/
section
variable {W : Wo} {m zn fn lo hi : Nat}
theorem TT.pe {g : Nat} {K : List KE} {a2 a3 a4 : Nat} {c1 c2 : Int32} {fl : Bool} {j j' r r' p p' : Nat} {L : List (Nat × Nat)} (h : TT W m zn fn lo hi g 2 K a2 a3 a4 c1 c2 fl j j' r r' p p' L) : woA W 71 (40 * m + j) = Int32.ofNat (40 * m + j') := by
  cases g with
  | zero => unfold TT at h; exact h.elim
  | succ g =>
    unfold TT at h
    rw [if_neg (by decide), if_neg (by decide), if_pos rfl] at h
    obtain ⟨k, x, ys, pb, ff, -, ⟨-, -, -, e, -⟩, -⟩ := h
    exact e
theorem TT.e1 : ∀ (g : Nat) (K : List KE) (a2 a3 a4 : Nat) (c1 c2 : Int32) (fl : Bool) (j j' r r' p p' : Nat) (L : List (Nat × Nat)), TT W m zn fn lo hi g 1 K a2 a3 a4 c1 c2 fl j j' r r' p p' L → (L = [] ∧ j' = j) ∨ ∃ q, (∀ a, (L.map fun e => 40 * m + e.1).getLastD a = 40 * m + q) ∧ (j ≤ q ∧ q < j') ∧ woA W 71 (40 * m + q) = Int32.ofNat (40 * m + j') := by
  intro g
  induction g with
  | zero => intro K a2 a3 a4 c1 c2 fl j j' r r' p p' L h; unfold TT at h; exact h.elim
  | succ g ih =>
    intro K a2 a3 a4 c1 c2 fl j j' r r' p p' L h
    unfold TT at h
    rw [if_neg (by decide), if_pos rfl] at h
    rcases h with ⟨e1, e2, -⟩ | ⟨x, jm, rm, pm, T, e1, t2, t1⟩
    · exact Or.inl ⟨e1, e2⟩
    · have l2 := TT.le _ _ _ _ _ _ _ _ _ _ _ _ _ _ _ _ (by decide) t2
      have lt := l2.2.2.2 (by decide)
      have e := t2.pe
      right
      rw [e1]
      rcases ih _ _ _ _ _ _ _ _ _ _ _ _ _ _ t1 with ⟨z1, z2⟩ | ⟨q, q1, q2, q3⟩
      · rw [z1, z2]
        exact ⟨j, fun _ => rfl, ⟨Nat.le_refl _, lt⟩, e⟩
      · refine ⟨q, fun a => ?_, ⟨by omega, q2.2⟩, q3⟩
        rw [List.map_cons, List.getLastD_cons]
        exact q1 _
/-- the first and the last part of a row, and where the last one ends -/
theorem TT.rowe {g : Nat} {K : List KE} {a2 a3 a4 : Nat} {c1 c2 : Int32} {fl : Bool} {j j' r r' p p' : Nat} {L : List (Nat × Nat)} (h : TT W m zn fn lo hi g 0 K a2 a3 a4 c1 c2 fl j j' r r' p p' L) : ∃ q, woA W 73 (sqK K) = Int32.ofNat (40 * m + j) ∧ woA W 74 (sqK K) = Int32.ofNat (40 * m + q) ∧ (j ≤ q ∧ q < j') ∧ woA W 71 (40 * m + q) = Int32.ofNat (40 * m + j') := by
  cases g with
  | zero => unfold TT at h; exact h.elim
  | succ g =>
    unfold TT at h
    rw [if_pos rfl] at h
    obtain ⟨x, jm, rm, pm, T, y, -, t2, t1, -, ⟨w1, w2, -⟩⟩ := h
    have l2 := TT.le _ _ _ _ _ _ _ _ _ _ _ _ _ _ _ _ (by decide) t2
    have lt := l2.2.2.2 (by decide)
    have e := t2.pe
    rcases TT.e1 _ _ _ _ _ _ _ _ _ _ _ _ _ _ _ t1 with ⟨z1, z2⟩ | ⟨q, q1, q2, q3⟩
    · rw [z1] at w2
      rw [z2]
      exact ⟨j, w1, w2, ⟨Nat.le_refl _, lt⟩, e⟩
    · rw [q1] at w2
      exact ⟨q, w1, w2, ⟨by omega, q2.2⟩, q3⟩
/-- what is known of part i -/
def PrI (W : Wo) (m zn fn lo hi np i : Nat) : Prop := ∃ k K p pb x ys ff i2, PcS W m k i i2 x ∧ PkS W m zn fn lo hi k K i p pb x ys ∧ ltK W k i ys ff ∧ i2 ≤ np ∧ (k = 17 → ∃ g r r' T, (r < 100 ∧ r' ≤ 100) ∧ woA W 69 (40 * m + i) = Int32.ofNat r ∧ ys = T.map Prod.snd ∧ TT W m zn fn lo hi g 3 K i r 1 0 0 ff (i + 1) i2 (r + 1) r' p pb T)
theorem TT.prt {np : Nat} : ∀ (g md : Nat) (K : List KE) (a2 a3 a4 : Nat) (c1 c2 : Int32) (fl : Bool) (j j' r r' p p' : Nat) (L : List (Nat × Nat)), md ≤ 3 → TT W m zn fn lo hi g md K a2 a3 a4 c1 c2 fl j j' r r' p p' L → j' ≤ np → r' ≤ 100 → ∀ i, j ≤ i → i < j' → PrI W m zn fn lo hi np i := by
  intro g
  induction g with
  | zero => intro md K a2 a3 a4 c1 c2 fl j j' r r' p p' L _ h; unfold TT at h; exact h.elim
  | succ g ih =>
    intro md K a2 a3 a4 c1 c2 fl j j' r r' p p' L hm h hj hr i i1 i2
    unfold TT at h
    have le : ∀ {md : Nat} {K : List KE} {a2 a3 a4 : Nat} {c1 c2 : Int32} {fl : Bool} {j j' r r' p p' : Nat} {L : List (Nat × Nat)}, md ≤ 3 → TT W m zn fn lo hi g md K a2 a3 a4 c1 c2 fl j j' r r' p p' L → j ≤ j' ∧ r ≤ r' ∧ p ≤ p' ∧ (md ≠ 1 → j < j') := fun hm t => TT.le _ _ _ _ _ _ _ _ _ _ _ _ _ _ _ _ hm t
    by_cases m0 : md = 0
    · rw [if_pos m0] at h
      obtain ⟨x, jm, rm, pm, T, y, -, t2, t1, -, -⟩ := h
      have l2 := le (by decide) t2
      have l1 := le (by decide) t1
      by_cases e : i < jm
      · exact ih _ _ _ _ _ _ _ _ _ _ _ _ _ _ _ (by decide) t2 (by omega) (by omega) i i1 e
      · exact ih _ _ _ _ _ _ _ _ _ _ _ _ _ _ _ (by decide) t1 hj hr i (by omega) i2
    rw [if_neg m0] at h
    by_cases m1 : md = 1
    · rw [if_pos m1] at h
      rcases h with ⟨-, e2, -⟩ | ⟨x, jm, rm, pm, T, -, t2, t1⟩
      · omega
      have l2 := le (by decide) t2
      have l1 := le (by decide) t1
      by_cases e : i < jm
      · exact ih _ _ _ _ _ _ _ _ _ _ _ _ _ _ _ (by decide) t2 (by omega) (by omega) i i1 e
      · exact ih _ _ _ _ _ _ _ _ _ _ _ _ _ _ _ (by decide) t1 hj hr i (by omega) i2
    rw [if_neg m1] at h
    by_cases m2 : md = 2
    · rw [if_pos m2] at h
      obtain ⟨k, x, ys, pb, ff, -, pc, pk, lt, -, h⟩ := h
      by_cases e : i = j
      · subst e
        refine ⟨k, K, p, pb, x, ys, ff, j', pc, pk, lt, hj, fun k17 => ?_⟩
        rcases h with ⟨ko, -⟩ | ⟨-, e69, T, ey, t3⟩ | ⟨-, kn, -⟩
        · rw [k17] at ko; exact absurd ko (by decide)
        · have l3 := le (by decide) t3
          exact ⟨g, r, r', T, ⟨by omega, hr⟩, e69, ey, t3⟩
        · exact absurd k17 kn
      · rcases h with ⟨-, ej, -⟩ | ⟨-, -, T, -, t3⟩ | ⟨-, -, -, t, jm, rm, pm, y, -, t0, h⟩
        · omega
        · exact ih _ _ _ _ _ _ _ _ _ _ _ _ _ _ _ (by decide) t3 hj hr i (by omega) i2
        · have l0 := le (by decide) t0
          rcases h with ⟨-, ej, er, -⟩ | ⟨-, -, -, z, -, t0'⟩
          · exact ih _ _ _ _ _ _ _ _ _ _ _ _ _ _ _ (by decide) t0 (by omega) (by omega) i (by omega) (by omega)
          · have l0' := le (by decide) t0'
            by_cases e2 : i < jm
            · exact ih _ _ _ _ _ _ _ _ _ _ _ _ _ _ _ (by decide) t0 (by omega) (by omega) i (by omega) e2
            · exact ih _ _ _ _ _ _ _ _ _ _ _ _ _ _ _ (by decide) t0' hj hr i (by omega) i2
    rw [if_neg m2] at h
    obtain ⟨jm, rm, pm, y, t0, h⟩ := h
    have l0 := le (by decide) t0
    rcases h with ⟨-, ej, er, -⟩ | ⟨T, f2, -, -, -, t3⟩
    · exact ih _ _ _ _ _ _ _ _ _ _ _ _ _ _ _ (by decide) t0 (by omega) (by omega) i i1 (by omega)
    · have l3 := le (by decide) t3
      by_cases e : i < jm
      · exact ih _ _ _ _ _ _ _ _ _ _ _ _ _ _ _ (by decide) t0 (by omega) (by omega) i i1 e
      · exact ih _ _ _ _ _ _ _ _ _ _ _ _ _ _ _ (by decide) t3 hj hr i (by omega) i2
end
/-- the memory that is looked at -/
def LbM (m np : Nat) (A : Nat → Nat → Int32) (X : List Nd) (M : Mem) : Prop := Fix M ∧ m < 4 ∧ XR M m X ∧ X.length ≤ 810 ∧ (∀ c, 58 ≤ c → c ≤ 75 → c ≠ 72 → mAI M c = A c) ∧ (∀ k, k < np → SuI A X m 64 65 k ∧ SuI A X m 66 67 k) ∧ np ≤ 40
section
variable {m np : Nat} {A : Nat → Nat → Int32} {X : List Nd} {M : Mem} {h : Nat} {Q : Option Value → Mem → Prop} {W : Wo} {zn fn lo hi : Nat}
theorem C_in {c1 c2 s0 : Int32} {rr q jm : Nat} (hL : LbM m np A X M) (hr : rr < 100) (hq : q < 40) (hj : jm ≤ np) (e74 : A 74 rr = Int32.ofNat (40 * m + q)) (e71 : A 71 (40 * m + q) = Int32.ofNat (40 * m + jm)) : ∀ (d k : Nat) (g u : Int32), k + d = jm → (∀ s1 : Int32, s1 = (if s0 = 0 ∧ (g ||| orF (gvK A m) k jm) &&& (c1 ||| c2) = 0 ∧ (u ||| orF (uvK A X m) k jm) &&& c1 = 0 then 0 else 1) → T (h + 3) mdX11_clashes 15 [(0, .ref 29), (2, .int (c1 ||| (g ||| orF (gvK A m) k jm))), (3, .int (c2 ||| (u ||| orF (uvK A X m) k jm))), (4, .int s1), (5, .int (A 75 rr))] [] M Q) → T (h + 3) mdX11_clashes 36 [(0, .ref 29), (2, .int c1), (3, .int c2), (4, .int s0), (5, .int (Int32.ofNat rr)), (6, .int g), (7, .int u), (8, .int (Int32.ofNat (40 * m + k)))] [] M Q := by
  obtain ⟨F, h4, hX, hl, hA, hs, hn⟩ := hL
  have lr : (Int32.ofNat rr).toNatClampNeg = rr := lt32 (by omega)
  have lq : (Int32.ofNat (40 * m + q)).toNatClampNeg = 40 * m + q := lt40 h4 hq
  have vr : ∀ {k : Nat}, k = 100 → vp_in (Int32.ofNat rr) k := fun e => by rw [e]; exact vp_of hr (by decide)
  have m74 : mAI M 74 rr = Int32.ofNat (40 * m + q) := by rw [hA 74 (by decide) (by decide) (by decide)]; exact e74
  have m71 : mAI M 71 (40 * m + q) = Int32.ofNat (40 * m + jm) := by rw [hA 71 (by decide) (by decide) (by decide)]; exact e71
  have m75 : mAI M 75 rr = A 75 rr := by rw [hA 75 (by decide) (by decide) (by decide)]
  intro d
  induction d with
  | zero =>
    intro k g u hk K
    have ek : k = jm := by omega
    subst ek
    rw [orF_rf, orF_rf, Int32.or_zero, Int32.or_zero] at K
    refine VX11_clashes_36 ?_
    unfold DX11_clashes_36 DX11_clashes_121 DX11_clashes_126
    rw [lr]
    refine ⟨ok29 F, 71, rf29_51 F, 74, rf29_55 F, ok74 F, vr (ln74 F), ok71 F, by rw [m74]; exact ix40 h4 hq (ln71 F), ?_⟩
    rw [m74, lq, m71]
    have fin : ∀ s1 : Int32, s1 = (if s0 = 0 ∧ g &&& (c1 ||| c2) = 0 ∧ u &&& c1 = 0 then 0 else 1) → ok M 29 13 ∧ ∃ b2 : Nat, mR M 29 56 = some b2 ∧ ok M b2 21 ∧ vp_in (Int32.ofNat rr) (mL M b2) ∧ T (h + 2 + 1) mdX11_clashes 15 [(0, .ref 29), (2, .int (c1 ||| g)), (3, .int (c2 ||| u)), (4, .int s1), (5, .int (mAI M b2 rr))] [] M Q := fun s1 e => ⟨ok29 F, 75, rf29_56 F, ok75 F, vr (ln75 F), by rw [m75]; exact K s1 e⟩
    refine ⟨fun _ => ⟨fun z => fin 1 ?_, fun z => ⟨fun z2 => fin 1 ?_, fun z2 => ⟨fun z3 => fin 0 ?_, fun z3 => fin 1 ?_⟩⟩⟩, fun z => absurd Int32.le_rfl z⟩
    · rw [if_neg (fun w => z w.1)]
    · rw [if_neg (fun w => z2 w.2.1)]
    · rw [if_pos ⟨z, z2, z3⟩]
    · rw [if_neg (fun w => z3 w.2.2)]
  | succ d ih =>
    intro k g u hk K
    have hk40 : k < 40 := by omega
    have lk : (Int32.ofNat (40 * m + k)).toNatClampNeg = 40 * m + k := lt40 h4 hk40
    have e1 : orF (gvK A m) k jm = gvK A m k ||| orF (gvK A m) (k + 1) jm := by rw [orF_tr (f := gvK A m) (x := k) (y := k + 1) (z := jm) (by omega) (by omega), orF_one]
    have e2 : orF (uvK A X m) k jm = uvK A X m k ||| orF (uvK A X m) (k + 1) jm := by rw [orF_tr (f := uvK A X m) (x := k) (y := k + 1) (z := jm) (by omega) (by omega), orF_one]
    rw [e1, e2, ← Int32.or_assoc, ← Int32.or_assoc] at K
    have nxt := ih (k + 1) (g ||| gvK A m k) (u ||| uvK A X m k) (by omega) K
    have nle : ¬ Int32.ofNat (40 * m + jm) ≤ Int32.ofNat (40 * m + k) := fun z => by
      have := (le32 (by omega) (by omega)).mp z
      omega
    have m58 : mAI M 58 (40 * m + k) = A 58 (40 * m + k) := by rw [hA 58 (by decide) (by decide) (by decide)]
    have m60 : mAI M 60 (40 * m + k) = A 60 (40 * m + k) := by rw [hA 60 (by decide) (by decide) (by decide)]
    have st : Int32.ofNat (40 * m + k) + 1 = Int32.ofNat (40 * m + (k + 1)) := by rw [succ32]; rfl
    have go : ∀ s1 : Int32, g ||| s1 = g ||| gvK A m k → DX11_clashes_80 (h + 2) 29 c1 c2 s0 (Int32.ofNat rr) u (Int32.ofNat (40 * m + k)) g s1 M Q := fun s1 e => by
      unfold DX11_clashes_80
      refine ⟨ok29 F, U_of (h := h) F h4 hX hl hA hk40 (hs k (by omega)).1 (hs k (by omega)).2 (fun _ => ⟨_, rfl, ?_⟩)⟩
      rw [e, st]
      exact nxt
    refine VX11_clashes_36 ?_
    unfold DX11_clashes_36
    rw [lr]
    refine ⟨ok29 F, 71, rf29_51 F, 74, rf29_55 F, ok74 F, vr (ln74 F), ok71 F, by rw [m74]; exact ix40 h4 hq (ln71 F), ?_⟩
    rw [m74, lq, m71, lk]
    refine ⟨fun z => absurd z nle, fun _ => ⟨58, rf29_38 F, ok58 F, ix40 h4 hk40 (ln58 F), ?_⟩⟩
    rw [m58]
    refine ⟨fun z => go 0 ?_, fun z => ⟨60, rf29_40 F, ok60 F, ix40 h4 hk40 (ln60 F), ?_⟩⟩
    · unfold gvK; rw [if_neg z]
    · rw [m60]
      exact go _ (by unfold gvK; rw [if_pos z])
theorem C_out (hL : LbM m np A X M) (hA : woA W = A) (hG : woG W = orF (gvK A m)) (hU : woU W = orF (uvK A X m)) : ∀ (g : Nat) (K : List KE) (a2 a3 a4 : Nat) (c1 c2 : Int32) (fl : Bool) (j j' r r' p p' : Nat) (L : List (Nat × Nat)) (s0 : Int32), TT W m zn fn lo hi g 3 K a2 a3 a4 c1 c2 fl j j' r r' p p' L → a3 < r → r' ≤ 100 → j' ≤ np → Q (some (.int (if s0 = 0 ∧ fl = false then 0 else 1))) M → T (h + 3) mdX11_clashes 15 [(0, .ref 29), (2, .int c1), (3, .int c2), (4, .int s0), (5, .int (Int32.ofNat a3))] [] M Q := by
  obtain ⟨F, h4, hX, hl, hAA, hs, hn⟩ := id hL
  intro g
  induction g with
  | zero => intro K a2 a3 a4 c1 c2 fl j j' r r' p p' L s0 h; unfold TT at h; exact h.elim
  | succ g ih =>
    intro K a2 a3 a4 c1 c2 fl j j' r r' p p' L s0 h ha hr hj H
    have ler := (TT.le _ _ _ _ _ _ _ _ _ _ _ _ _ _ _ _ (by decide) h).2.1
    unfold TT at h
    rw [if_neg (by decide), if_neg (by decide), if_neg (by decide)] at h
    obtain ⟨jm, rm, pm, y, t0, h⟩ := h
    have l0 := TT.le _ _ _ _ _ _ _ _ _ _ _ _ _ _ _ _ (by decide) t0
    obtain ⟨q, w1, w2, w3, w4⟩ := t0.rowe
    have w1 : woA W 73 a3 = Int32.ofNat (40 * m + j) := w1
    have w2 : woA W 74 a3 = Int32.ofNat (40 * m + q) := w2
    rw [hA] at w1 w2 w4 h
    rw [hG, hU] at h
    have ha3 : a3 < 100 := by omega
    have la : (Int32.ofNat a3).toNatClampNeg = a3 := lt32 (by omega)
    have m73 : mAI M 73 a3 = Int32.ofNat (40 * m + j) := by rw [hAA 73 (by decide) (by decide) (by decide)]; exact w1
    have jmn : jm ≤ np := by
      rcases h with ⟨-, ej, -⟩ | ⟨T, f2, -, -, -, t3⟩
      · omega
      · have l3 := TT.le _ _ _ _ _ _ _ _ _ _ _ _ _ _ _ _ (by decide) t3
        omega
    refine VX11_clashes_15 ?_
    unfold DX11_clashes_15
    rw [la]
    refine ⟨fun z => absurd z (nm32 (by omega)), fun _ => ⟨ok29 F, 73, rf29_54 F, ok73 F, by rw [ln73 F]; exact vp_of ha3 (by decide), ?_⟩⟩
    rw [m73]
    refine C_in hL ha3 (by omega) jmn w2 w4 (jm - j) j 0 0 (by omega) (fun s1 e1 => ?_)
    rw [Int32.zero_or, Int32.zero_or] at e1 ⊢
    rcases h with ⟨-, ej, er, -, e75, ef⟩ | ⟨T, f2, -, e75, ef, t3⟩
    · rw [e75]
      refine VX11_clashes_15 ?_
      unfold DX11_clashes_15
      refine ⟨fun _ => ⟨?_, ?_⟩, fun z => absurd rfl z⟩
      · rw [e1]
        split
        · exact Or.inl rfl
        · exact Or.inr rfl
      · rw [e1]
        rw [ef] at H
        have : (if s0 = 0 ∧ (!decide (orF (gvK A m) j jm &&& (c1 ||| c2) = 0 ∧ orF (uvK A X m) j jm &&& c1 = 0)) = false then (0 : Int32) else 1) = (if s0 = 0 ∧ orF (gvK A m) j jm &&& (c1 ||| c2) = 0 ∧ orF (uvK A X m) j jm &&& c1 = 0 then 0 else 1) := by
          by_cases z : s0 = 0 ∧ orF (gvK A m) j jm &&& (c1 ||| c2) = 0 ∧ orF (uvK A X m) j jm &&& c1 = 0
          · rw [if_pos z, if_pos ⟨z.1, by rw [decide_eq_true z.2]; rfl⟩]
          · rw [if_neg z, if_neg (fun w => z ⟨w.1, of_decide_eq_true (by simpa using w.2)⟩)]
        rw [this] at H
        exact H
    · rw [e75]
      have l3 := TT.le _ _ _ _ _ _ _ _ _ _ _ _ _ _ _ _ (by decide) t3
      refine ih _ _ _ _ _ _ _ _ _ _ _ _ _ _ s1 t3 (by omega) hr hj ?_
      rw [ef] at H
      have : (if s0 = 0 ∧ (!decide (orF (gvK A m) j jm &&& (c1 ||| c2) = 0 ∧ orF (uvK A X m) j jm &&& c1 = 0) || f2) = false then (0 : Int32) else 1) = (if s1 = 0 ∧ f2 = false then 0 else 1) := by
        rw [e1]
        by_cases z : s0 = 0 ∧ orF (gvK A m) j jm &&& (c1 ||| c2) = 0 ∧ orF (uvK A X m) j jm &&& c1 = 0
        · rw [if_pos z, decide_eq_true z.2]
          cases f2 with
          | false => rw [if_pos ⟨z.1, rfl⟩, if_pos ⟨rfl, rfl⟩]
          | true => rw [if_neg (fun w => absurd w.2 (by decide)), if_neg (fun w => absurd w.2 (by decide))]
        · rw [if_neg z, if_neg (c := (1 : Int32) = 0 ∧ f2 = false) (fun w => absurd w.1 (by decide)), if_neg]
          intro w
          apply z
          refine ⟨w.1, ?_⟩
          cases f2 with
          | false => exact of_decide_eq_true (by simpa using w.2)
          | true => exact absurd w.2 (by simp)
      rw [this] at H
      exact H
end
