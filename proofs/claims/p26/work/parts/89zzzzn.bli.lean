section
/-! the reference builds all parts: by the tree of the reading -/
def csT (j j' r r' p p' : Nat) : Nat := 2 * (j' - j) + 11 * (p' - p) + (r' - r)
/-- a row that is ready, whatever becomes of other parts' nodes -/
def RowL (W : Wo) (m zn fn lo hw : Nat) (A : Nat → Nat → Int32) (pn : Nat → Int32) (S : RBs) (G : Nat → List Nat) (s0 r : Nat) (cx : List (Option Nat)) (y p p' : Nat) (ds : List Nat) (j j' : Nat) : Prop := ∀ pn1 : Nat → Int32, (∀ P, 40 * m + j ≤ P → P < 40 * m + j' → pn1 P = pn P) → RowR W m zn fn lo hw A pn1 S G s0 r cx y p p' ds
def RqLL (W : Wo) (m zn fn lo hw : Nat) (A : Nat → Nat → Int32) (pn : Nat → Int32) (u0 : Vwr) (hi0 s0 : Nat) (cx : List (Option Nat)) (T1 : List (Nat × Nat)) (p p' : Nat) (dd : List Nat) (j j' : Nat) : Prop := ∀ pn1 : Nat → Int32, (∀ P, 40 * m + j ≤ P → P < 40 * m + j' → pn1 P = pn P) → RqL W m zn fn lo hw A pn1 u0 hi0 s0 cx T1 p p' dd
section
variable {m : Nat} {A : Nat → Nat → Int32} {pn pn1 pn2 : Nat → Int32} {S S1 S2 : RBs} {G G1 G2 : Nat → List Nat} {M M1 M2 : Mem} {h : Nat} {Q : Option Value → Mem → Prop} {W : Wo} {zn fn lo hw p p' pb pm pr x y j j' jm g d e q q1 q2 s0 s1 r nc nc1 nc2 : Nat} {cx : List (Option Nat)} {H : Nat → Prop} {k x1 : Int32} {K : List KE} {ds ys dd : List Nat} {L T1 : List (Nat × Nat)}
theorem RowQ.st {u0 u1 : Vwr} {hi0 hi1 : Nat} (hq : RowQ W m zn fn lo hw A pn u0 hi0 s1 r cx y p p' ds) (hu : ∀ z, 700 * m ≤ z → z < hi0 → u1 z = u0 z) (hh : hi0 ≤ hi1) (hs : s0 ≤ s1) : RowQ W m zn fn lo hw A pn u1 hi1 s0 r cx y p p' ds := by
  obtain ⟨a, t, xs, g, w1, w2, w3, w4, w5, w6, w7⟩ := hq
  refine ⟨a, t, xs, g, w1, w2, w3, fun d hd => ?_, w5, w6, RpLs.imp (fun _ _ _ _ k => RpN.st hu hh _ _ _ _ _ _ _ (Nat.le_refl _) k) _ _ _ _ w7⟩
  have := w4 d hd
  exact ⟨⟨this.1.1, by omega⟩, by omega⟩
theorem RqL.st {u0 u1 : Vwr} {hi0 hi1 : Nat} (hu : ∀ z, 700 * m ≤ z → z < hi0 → u1 z = u0 z) (hh : hi0 ≤ hi1) (hs : s0 ≤ s1) : ∀ (T1 : List (Nat × Nat)) (p p' : Nat) (dd : List Nat), RqL W m zn fn lo hw A pn u0 hi0 s1 cx T1 p p' dd → RqL W m zn fn lo hw A pn u1 hi1 s0 cx T1 p p' dd
  | [], _, _, _, h => h
  | (r, y) :: T1, p, p', dd, h => by
    obtain ⟨pm, ds, d2, h1, h2, h3, h4, h5, h6⟩ := h
    exact ⟨pm, ds, d2, h1, h2.st hu hh hs, h3, h4, h5, RqL.st hu hh hs T1 pm p' d2 h6⟩
theorem RowL.st (hw1 : RowL W m zn fn lo hw A pn S G s1 r cx y p p' ds j j') (f : FrB m S G S1 G1 noN) (hpn : ∀ P, 40 * m + j ≤ P → P < 40 * m + j' → pn1 P = pn P) (hs : s0 ≤ s1) : RowL W m zn fn lo hw A pn1 S1 G1 s0 r cx y p p' ds j j' := fun pn2 h2 => ((hw1 pn2 (fun P q1 q2 => (h2 P q1 q2).trans (hpn P q1 q2))).st f (fun _ _ z => z)).less hs
theorem BuO.mo (h : BuO m A M S G pn M1 S1 G1 pn1 j j' q1 nc1) (hq : q1 ≤ q2 ∧ nc1 ≤ nc2) : BuO m A M S G pn M1 S1 G1 pn1 j j' q2 nc2 := ⟨h.1, h.2.1, h.2.2.1, h.2.2.2.1, ⟨by have := h.2.2.2.2.1.1; omega, by have := h.2.2.2.2.1.2.1; omega, h.2.2.2.2.1.2.2⟩, h.2.2.2.2.2⟩
/-- the three kinds of pieces, at fuel g -/
def BlS (W : Wo) (m zn fn lo hw : Nat) (A : Nat → Nat → Int32) (h : Nat) (x1 : Int32) (Q : Option Value → Mem → Prop) (g : Nat) : Prop :=
  (∀ (md : Nat) (K : List KE) (j j' r r' p p' : Nat) (L : List (Nat × Nat)) (M : Mem) (S : RBs) (G : Nat → List Nat) (pn : Nat → Int32), md = 1 ∨ md = 2 → TT W m zn fn lo hw g md K 0 0 0 0 0 false j j' r r' p p' L → j' ≤ 40 → r' ≤ 100 → BuM m A pn S M → RgB m S G → S.1 + csT j j' r r' p p' ≤ 700 → (∀ M' S' G' pn' ds, BuO m A M S G pn M' S' G' pn' j j' (csT j j' r r' p p') ds.length → PtY W m zn fn pn' S' G' S.1 (cxK K) L p p' ds → PdZ W m pn' S' G' (ds.zip (L.map Prod.snd)) j j' → bLp h m x1 j M' Q) → bLp h m x1 j' M Q)
  ∧ (∀ (K : List KE) (j j' r r' p p' y : Nat) (M : Mem) (S : RBs) (G : Nat → List Nat) (pn : Nat → Int32), TT W m zn fn lo hw g 0 K 0 0 0 0 0 false j j' r r' p p' [(0, y)] → j' ≤ 40 → r' ≤ 100 → BuM m A pn S M → RgB m S G → S.1 + csT j j' r r' p p' ≤ 700 → (∀ M' S' G' pn' ds, BuO m A M S G pn M' S' G' pn' j j' (csT j j' r r' p p') ds.length → RowL W m zn fn lo hw A pn' S' G' S.1 (sqK K) (cxK K) y p p' ds j j' → PdZ W m pn' S' G' (ds.zip (chV W y)) j j' → bLp h m x1 j M' Q) → bLp h m x1 j' M Q)
  ∧ ∀ (K : List KE) (a2 a3 a4 : Nat) (c1 c2 : Int32) (fl : Bool) (j j' r r' p p' : Nat) (L : List (Nat × Nat)) (M : Mem) (S : RBs) (G : Nat → List Nat) (pn : Nat → Int32), TT W m zn fn lo hw g 3 K a2 a3 a4 c1 c2 fl j j' r r' p p' L → j' ≤ 40 → r' ≤ 100 → BuM m A pn S M → RgB m S G → S.1 + csT j j' r r' p p' ≤ 700 → (∀ M' S' G' pn' y T1 pm ds d2, L = (a3, y) :: T1 → BuO m A M S G pn M' S' G' pn' j j' (csT j j' r r' p p') (ds.length + d2.length) → S'.1 + T1.length ≤ S.1 + csT j j' r r' p p' → RowL W m zn fn lo hw A pn' S' G' S.1 a3 (cxK K) y p pm ds j j' → RqLL W m zn fn lo hw A pn' (vwR S' G') (700 * m + S'.1) S.1 (cxK K) T1 pm p' d2 j j' → (∀ z ∈ d2, frN m S' z) → (∀ z ∈ ds, z ∉ d2) → A 75 a3 = nxI T1 → PdZ W m pn' S' G' (ds.zip (chV W y) ++ d2.zip (T1.flatMap fun e => chV W e.2)) j j' → bLp h m x1 j M' Q) → bLp h m x1 j' M Q
theorem bl_0 (hA : woA W = A) (h4 : m < 4) (ih : BlS W m zn fn lo hw A h x1 Q g) {r' : Nat} (ht : TT W m zn fn lo hw (g + 1) 0 K 0 0 0 0 0 false j j' r r' p p' [(0, y)]) (hj : j' ≤ 40) (hr : r' ≤ 100) (hB : BuM m A pn S M) (hR : RgB m S G) (hf : S.1 + csT j j' r r' p p' ≤ 700) (C : ∀ M' S' G' pn' ds, BuO m A M S G pn M' S' G' pn' j j' (csT j j' r r' p p') ds.length → RowL W m zn fn lo hw A pn' S' G' S.1 (sqK K) (cxK K) y p p' ds j j' → PdZ W m pn' S' G' (ds.zip (chV W y)) j j' → bLp h m x1 j M' Q) : bLp h m x1 j' M Q := by
  unfold TT at ht
  rw [if_pos rfl] at ht
  obtain ⟨x, jm, rm, pm, T, y', ey, t2, t1, nd, rw1⟩ := ht
  cases ey
  have l2 := TT.le _ _ _ _ _ _ _ _ _ _ _ _ _ _ _ _ (by decide) t2
  have l1 := TT.le _ _ _ _ _ _ _ _ _ _ _ _ _ _ _ _ (by decide) t1
  have mem := TT.mem _ _ _ _ _ _ _ _ _ _ _ _ _ _ _ t1
  unfold csT at hf
  refine ih.1 1 K jm j' rm r' pm p' T M S G pn (Or.inl rfl) t1 hj hr hB hR (by unfold csT; omega) (fun M1 S1 G1 pn1 ds1 o1 y1 z1 => ?_)
  have c1 := o1.2.2.2.2.1.1
  unfold csT at c1
  refine ih.1 2 K j jm r rm p pm [(j, x)] M1 S1 G1 pn1 (Or.inr rfl) t2 (by omega) (by omega) o1.1 o1.2.2.1 (by unfold csT; omega) (fun M2 S2 G2 pn2 ds2 o2 y2 z2 => ?_)
  have lt1 : ∀ d ∈ ds1, d < 700 * m + S1.1 := fun d hd => (y1.2.1 d hd).1.1.2
  have ls : S.1 ≤ S1.1 := o1.2.2.2.1.1
  have len1 : ds2.length = 1 := by
    cases ds2 with
    | nil => exact y2.1.elim
    | cons d es =>
      cases es with
      | nil => rfl
      | cons _ _ => exact y2.1.2.elim
  have ex : ∃ d, ds2 = [d] ∧ ∀ pn3 : Nat → Int32, (∀ P, 40 * m + j ≤ P → P < 40 * m + j' → pn3 P = pn2 P) → PtY W m zn fn pn3 S2 G2 S.1 (cxK K) ((j, x) :: T) p p' (d :: ds1) := by
    cases ds2 with
    | nil => exact y2.1.elim
    | cons d es =>
      have hes : es = [] := by
        cases es with
        | nil => rfl
        | cons _ _ => exact y2.1.2.elim
      subst hes
      refine ⟨d, rfl, fun pn3 h3 => ?_⟩
      have yb := y1.st (pn1 := pn3) (s1 := S.1) o2.2.2.2.1 (fun e he => by
        have := mem e he
        rw [h3 _ (by omega) (by omega)]
        exact o2.2.2.2.2.2 _ (by omega)) (Nat.le_refl _)
      have ya := y2.st (pn1 := pn3) (s1 := S1.1) FrB.rf (fun e he => by
        rw [List.mem_singleton] at he
        rw [he]
        exact h3 _ (by show _ ≤ 40 * m + j; omega) (by show 40 * m + j < _; omega)) (Nat.le_refl _)
      obtain ⟨d', -, hd'⟩ := PtY.cons ya yb ls lt1
      have e1 : pn3 (40 * m + j) = Int32.ofNat d := ya.1.1
      have e2 : pn3 (40 * m + j) = Int32.ofNat d' := hd'.1.1
      have f1 := (ya.2.1 d List.mem_cons_self).1.1.2
      have f2 := (hd'.2.1 d' List.mem_cons_self).1.1.2
      have h7 := o2.2.2.1.1.2
      have : d = d' := inj32 (by omega) (by omega) (e1.symm.trans e2)
      rw [this]
      exact hd'
  obtain ⟨d, ed, hd⟩ := ex
  have e1 := len1
  refine C M2 S2 G2 pn2 (d :: ds1) ((o1.tr o2 l2.1 l1.1).mo (by unfold csT; show _ ∧ _ ≤ ds1.length + 1; omega)) (fun pn3 h3 => (hd pn3 h3).row hA (fun e he => ?_) rw1 nd) (by
    have ec : chV W y = x :: T.map Prod.snd := nd.2.2.2
    rw [ec]
    subst ed
    exact z2.ap (z1.st o2.2.2.2.1 (fun P q1 q2 => o2.2.2.2.2.2 P (Or.inr q1))))
  rcases List.mem_cons.mp he with z | z
  · rw [z]; show 40 * m + j < 160; have := l2.2.2.2 (by decide); omega
  · have := mem e z; omega
theorem bl_1 (h4 : m < 4) (ih : BlS W m zn fn lo hw A h x1 Q g) {r' : Nat} (ht : TT W m zn fn lo hw (g + 1) 1 K 0 0 0 0 0 false j j' r r' p p' L) (hj : j' ≤ 40) (hr : r' ≤ 100) (hB : BuM m A pn S M) (hR : RgB m S G) (hf : S.1 + csT j j' r r' p p' ≤ 700) (C : ∀ M' S' G' pn' ds, BuO m A M S G pn M' S' G' pn' j j' (csT j j' r r' p p') ds.length → PtY W m zn fn pn' S' G' S.1 (cxK K) L p p' ds → PdZ W m pn' S' G' (ds.zip (L.map Prod.snd)) j j' → bLp h m x1 j M' Q) : bLp h m x1 j' M Q := by
  unfold TT at ht
  rw [if_neg (by decide), if_pos rfl] at ht
  rcases ht with ⟨e1, e2, e3, e4⟩ | ⟨x, jm, rm, pm, T, e1, t2, t1⟩
  · subst e1; subst e2; subst e4
    exact C M S G pn [] (BuO.rf hB hR) ⟨trivial, fun d hd => absurd hd (List.not_mem_nil), List.nodup_nil, 0, rfl⟩ (fun i h1 h2 => absurd h1 (by omega))
  subst e1
  have l2 := TT.le _ _ _ _ _ _ _ _ _ _ _ _ _ _ _ _ (by decide) t2
  have l1 := TT.le _ _ _ _ _ _ _ _ _ _ _ _ _ _ _ _ (by decide) t1
  have mem := TT.mem _ _ _ _ _ _ _ _ _ _ _ _ _ _ _ t1
  unfold csT at hf
  refine ih.1 1 K jm j' rm r' pm p' T M S G pn (Or.inl rfl) t1 hj hr hB hR (by unfold csT; omega) (fun M1 S1 G1 pn1 ds1 o1 y1 z1 => ?_)
  have c1 := o1.2.2.2.2.1.1
  unfold csT at c1
  refine ih.1 2 K j jm r rm p pm [(j, x)] M1 S1 G1 pn1 (Or.inr rfl) t2 (by omega) (by omega) o1.1 o1.2.2.1 (by unfold csT; omega) (fun M2 S2 G2 pn2 ds2 o2 y2 z2 => ?_)
  have lt1 : ∀ d ∈ ds1, d < 700 * m + S1.1 := fun d hd => (y1.2.1 d hd).1.1.2
  have ls : S.1 ≤ S1.1 := o1.2.2.2.1.1
  have yb := y1.st (pn1 := pn2) (s1 := S.1) o2.2.2.2.1 (fun e he => by
    have := mem e he
    exact o2.2.2.2.2.2 _ (by omega)) (Nat.le_refl _)
  obtain ⟨d, ed, hd⟩ := PtY.cons y2 yb ls lt1
  have len1 : ds2.length = 1 := by
    cases ds2 with
    | nil => exact y2.1.elim
    | cons d es =>
      cases es with
      | nil => rfl
      | cons _ _ => exact y2.1.2.elim
  exact C M2 S2 G2 pn2 (d :: ds1) ((o1.tr o2 l2.1 l1.1).mo (by unfold csT; show _ ∧ _ ≤ ds1.length + 1; omega)) hd (by
    subst ed
    exact z2.ap (z1.st o2.2.2.2.1 (fun P q1 q2 => o2.2.2.2.2.2 P (Or.inr q1))))
theorem bl_3 (hA : woA W = A) (ih : BlS W m zn fn lo hw A h x1 Q g) {r' a2 a3 a4 : Nat} {c1 c2 : Int32} {fl : Bool} (ht : TT W m zn fn lo hw (g + 1) 3 K a2 a3 a4 c1 c2 fl j j' r r' p p' L) (hj : j' ≤ 40) (hr : r' ≤ 100) (hB : BuM m A pn S M) (hR : RgB m S G) (hf : S.1 + csT j j' r r' p p' ≤ 700) (C : ∀ M' S' G' pn' y T1 pm ds d2, L = (a3, y) :: T1 → BuO m A M S G pn M' S' G' pn' j j' (csT j j' r r' p p') (ds.length + d2.length) → S'.1 + T1.length ≤ S.1 + csT j j' r r' p p' → RowL W m zn fn lo hw A pn' S' G' S.1 a3 (cxK K) y p pm ds j j' → RqLL W m zn fn lo hw A pn' (vwR S' G') (700 * m + S'.1) S.1 (cxK K) T1 pm p' d2 j j' → (∀ z ∈ d2, frN m S' z) → (∀ z ∈ ds, z ∉ d2) → A 75 a3 = nxI T1 → PdZ W m pn' S' G' (ds.zip (chV W y) ++ d2.zip (T1.flatMap fun e => chV W e.2)) j j' → bLp h m x1 j M' Q) : bLp h m x1 j' M Q := by
  unfold TT at ht
  rw [if_neg (by decide), if_neg (by decide), if_neg (by decide)] at ht
  obtain ⟨jm, rm, pm, y, t0, ht⟩ := ht
  have l0 := TT.le _ _ _ _ _ _ _ _ _ _ _ _ _ _ _ _ (by decide) t0
  have ecx : cxK ((40 * m + a2, a3, a4, none) :: K) = cxK K := cxK_n rfl
  rw [hA] at ht
  unfold csT at hf
  rcases ht with ⟨e1, e2, e3, e4, e5, -⟩ | ⟨T, f2, e1, e2, -, t3⟩
  · subst e1; subst e2; subst e3; subst e4
    refine ih.2.1 _ j j' r r' p p' y M S G pn t0 hj hr hB hR (by unfold csT; omega) (fun M1 S1 G1 pn1 ds o1 w1 z1 => ?_)
    rw [ecx] at w1
    exact C M1 S1 G1 pn1 y [] p' ds [] rfl o1 (by have := o1.2.2.2.2.1.1; show S1.1 + 0 ≤ _; omega) w1 (fun _ _ => ⟨rfl, rfl⟩) (fun z hz => absurd hz (List.not_mem_nil)) (fun z _ hz => absurd hz (List.not_mem_nil)) e5 (by rw [List.zip_nil_left, List.append_nil]; exact z1)
  · subst e1
    have l3 := TT.le _ _ _ _ _ _ _ _ _ _ _ _ _ _ _ _ (by decide) t3
    refine ih.2.2 K a2 rm (a4 + 1) _ _ f2 jm j' (rm + 1) r' pm p' T M S G pn t3 hj hr hB hR (by unfold csT; omega) (fun M1 S1 G1 pn1 y1 T2 pm1 ds1 d1 eT o1 c1 w1 q1 f1 n1 e75 z1 => ?_)
    subst eT
    have l75 : S.1 ≤ S1.1 := o1.2.2.2.1.1
    unfold csT at c1
    have c1' := o1.2.2.2.2.1.1
    unfold csT at c1'
    refine ih.2.1 _ j jm r rm p pm y M1 S1 G1 pn1 t0 (by omega) (by omega) o1.1 o1.2.2.1 (by unfold csT; omega) (fun M2 S2 G2 pn2 ds o2 w2 z2 => ?_)
    rw [ecx] at w2
    have w2 : RowL W m zn fn lo hw A pn2 S2 G2 S1.1 a3 (cxK K) y p pm ds j jm := w2
    have c2' := o2.2.2.2.2.1.1
    unfold csT at c2'
    have fb := o2.2.2.2.1
    have lb := fb.1
    have lt1 : ∀ z ∈ ds1 ++ d1, z < 700 * m + S1.1 := fun z hz => by
      rcases List.mem_append.mp hz with w | w
      · exact (w1 pn1 (fun _ _ _ => rfl)).lt z w
      · exact (f1 z w).1.2
    have hfr : ∀ z ∈ ds1 ++ d1, frN m S2 z := fun z hz => by
      rcases List.mem_append.mp hz with w | w
      · exact ((w1 pn1 (fun _ _ _ => rfl)).rq.2 z w).fb fb (fun z => z)
      · exact (f1 z w).fb fb (fun z => z)
    refine C M2 S2 G2 pn2 y ((rm, y1) :: T2) pm ds (ds1 ++ d1) rfl ((o1.tr o2 l0.1 l3.1).mo (by unfold csT; rw [List.length_append]; omega)) (by show S2.1 + (T2.length + 1) ≤ _; unfold csT; omega) (fun pn3 h3 => (w2 pn3 (fun P q1 q2 => h3 P q1 (by omega))).less l75) (fun pn3 h3 => ?_) hfr (fun z hz hz2 => ?_) (e2.trans rfl) (z2.ap ?_)
    · have hag : ∀ P, 40 * m + jm ≤ P → P < 40 * m + j' → pn3 P = pn1 P := fun P q1 q2 => (h3 P (by omega) q2).trans (o2.2.2.2.2.2 P (Or.inr q1))
      have vw : ∀ z, 700 * m ≤ z → z < 700 * m + S1.1 → vwR S2 G2 z = vwR S1 G1 z := fun z z1 z2 => (fb.2.1 z z1 z2).1
      exact ⟨pm1, ds1, d1, by have := l3.2.1; omega, ((w1 pn3 hag).rq.1).st vw (by omega) (Nat.le_refl _), e75, rfl, n1, RqL.st vw (by omega) (Nat.le_refl _) _ _ _ _ (q1 pn3 hag)⟩
    · have := (w2 pn2 (fun _ _ _ => rfl)).ge z hz
      have := lt1 z hz2
      omega
    · have ll : ds1.length = (chV W y1).length := by
        obtain ⟨a, t, xs, g, -, -, -, -, -, u1, u2⟩ := w1 pn1 (fun _ _ _ => rfl)
        have ec : chV W y1 = xs := u1.2.2.2
        rw [ec]
        exact RpLs.ln _ _ _ _ u2
      have z3 := z1.st o2.2.2.2.1 (fun P q1 q2 => o2.2.2.2.2.2 P (Or.inr q1))
      rw [← List.zip_append ll] at z3
      exact z3
end
end
section
/-! the reference builds all parts: the whole loop -/
section
variable {m : Nat} {A : Nat → Nat → Int32} {pn pn1 pn2 : Nat → Int32} {S S1 S2 : RBs} {G G1 G2 : Nat → List Nat} {M M1 M2 : Mem} {h : Nat} {Q : Option Value → Mem → Prop} {W : Wo} {zn fn lo hw p p' pb pm pr x y j j' jm g d e q q1 q2 s0 s1 r nc nc1 nc2 : Nat} {cx : List (Option Nat)} {H : Nat → Prop} {k x1 : Int32} {K : List KE} {ds ys dd : List Nat} {L T1 : List (Nat × Nat)}
theorem pk_lf (ho : opnK k = false) (hs : PkS W m zn fn lo hw k K j p pb x ys) : ys = [] := by
  have op : ∀ x : Int32, opnK x = true → k ≠ x := fun x hx z => by rw [z, hx] at ho; exact absurd ho (by decide)
  unfold PkS at hs
  by_cases k38 : k = 38
  · rw [if_pos k38] at hs; exact hs.2
  rw [if_neg k38] at hs
  by_cases k39 : k = 39
  · rw [if_pos k39] at hs; exact hs.2
  rw [if_neg k39] at hs
  by_cases k40 : k = 40
  · rw [if_pos k40] at hs; exact hs.2
  rw [if_neg k40] at hs
  by_cases k41 : k = 41
  · rw [if_pos k41] at hs; exact hs.2
  rw [if_neg k41] at hs
  by_cases k47 : k = 47
  · rw [if_pos k47] at hs; exact hs.2
  rw [if_neg k47] at hs
  by_cases k57 : k = 57
  · rw [if_pos k57] at hs; exact hs.2
  rw [if_neg k57, if_neg (op 42 (by decide)), if_neg (op 44 (by decide)), if_neg (op 58 (by decide)), if_neg (op 49 (by decide)), if_neg (op 50 (by decide)), if_neg (op 52 (by decide)), if_neg (op 53 (by decide)), if_neg (op 55 (by decide)), if_neg (op 17 (by decide))] at hs
  exact hs.2
theorem op_in (ho : opnK k = true) (h17 : k ≠ 17) : (k = 44 ∨ k = 58) ∨ (k = 42 ∨ k = 49 ∨ k = 50 ∨ k = 52 ∨ k = 53 ∨ k = 55) := by
  unfold opnK at ho
  simp only [Bool.or_eq_true, beq_iff_eq] at ho
  rcases ho with ((((((((z | z) | z) | z) | z) | z) | z) | z) | z)
  · exact Or.inr (Or.inl z)
  · exact Or.inl (Or.inl z)
  · exact Or.inr (Or.inr (Or.inl z))
  · exact Or.inr (Or.inr (Or.inr (Or.inl z)))
  · exact Or.inr (Or.inr (Or.inr (Or.inr (Or.inl z))))
  · exact Or.inr (Or.inr (Or.inr (Or.inr (Or.inr (Or.inl z)))))
  · exact Or.inr (Or.inr (Or.inr (Or.inr (Or.inr (Or.inr z)))))
  · exact Or.inl (Or.inr z)
  · exact absurd z h17
/-- rows are ready, the part itself is built -/
theorem b_fin {Z : List (Nat × Nat)} {r' : Nat} (hZ : PdZ W m pn1 S1 G1 Z (j + 1) j') (hX : woP W j 1 = Int32.ofNat x) (o1 : BuO m A M S G pn M1 S1 G1 pn1 (j + 1) j' q1 nc) (hj : j < 40) (hjj : j < j') (hn : ∀ Q' : Option Value → Mem → Prop, KpZ W m zn fn A pn1 M1 S1 G1 S.1 (cxK K) x p p' q2 nc (40 * m + j) Z Q' → E (h + 6) mdX11_nodeOf [.ref 29, .int (Int32.ofNat (40 * m + j))] M1 Q') (hc : S1.1 + q2 ≤ S.1 + csT j j' r r' p p') (C : ∀ M' S' G' pn' ds, BuO m A M S G pn M' S' G' pn' j j' (csT j j' r r' p p') ds.length → PtY W m zn fn pn' S' G' S.1 (cxK K) [(j, x)] p p' ds → PdZ W m pn' S' G' (ds.zip [x]) j j' → bLp h m x1 j M' Q) : bLp h m x1 (j + 1) M1 Q := by
  refine b_step o1.1 hj o1.2.2.2.1.1 hn (fun M2 S2 G2 y2 pn2 a1 a2 a3 a4 a5 aT a6 a7 a8 => C M2 S2 G2 pn2 [y2] ⟨a1, o1.2.1.tr a2, a3, o1.2.2.2.1.tr a4 (fun z _ z2 w => ?_), ⟨by omega, by show _ ≤ _ + 1; have := o1.2.2.2.2.1.2.1; omega, fun z z1 z2 z3 => ?_⟩, fun P hP => ?_⟩ a7 (PdZ.up (hZ.st a4 (fun P q1 q2 => a6 P (by omega))) a8 a7.1.1 hX (a7.2.1 y2 List.mem_cons_self).1.1))
  · have w : 700 * m + S.1 ≤ z := w
    exact absurd w (by omega)
  · by_cases e : z < 700 * m + S1.1
    · have v := (a4.2.1 z (by omega) e).1
      have v80 : S2.2 80 z = S1.2 80 z := congrArg (fun w => w.1) v
      have v81 : S2.2 81 z = S1.2 81 z := congrArg (fun w => w.2.1) v
      rw [v80] at z3
      rw [v81]
      rcases o1.2.2.2.2.1.2.2 z z1 e z3 with w | ⟨P, w1, w2, w3⟩
      · exact Or.inl w
      · exact Or.inr ⟨P, by omega, w2, (a6 P (by omega)).trans w3⟩
    · rcases aT z (by omega) z2 z3 with w | ⟨w1, w2⟩
      · exact Or.inl w
      · exact Or.inr ⟨40 * m + j, by omega, w1, w2⟩
  · rw [a6 P (by omega)]
    exact o1.2.2.2.2.2 P (by omega)
theorem bl_2 (hA : woA W = A) (h4 : m < 4) (ih : BlS W m zn fn lo hw A h x1 Q g) {r' : Nat} (ht : TT W m zn fn lo hw (g + 1) 2 K 0 0 0 0 0 false j j' r r' p p' L) (hj : j' ≤ 40) (hr : r' ≤ 100) (hB : BuM m A pn S M) (hR : RgB m S G) (hf : S.1 + csT j j' r r' p p' ≤ 700) (C : ∀ M' S' G' pn' ds, BuO m A M S G pn M' S' G' pn' j j' (csT j j' r r' p p') ds.length → PtY W m zn fn pn' S' G' S.1 (cxK K) L p p' ds → PdZ W m pn' S' G' (ds.zip (L.map Prod.snd)) j j' → bLp h m x1 j M' Q) : bLp h m x1 j' M Q := by
  have le := TT.le _ _ _ _ _ _ _ _ _ _ _ _ _ _ _ _ (by decide) ht
  have jlt := le.2.2.2 (by decide)
  unfold TT at ht
  rw [if_neg (by decide), if_neg (by decide), if_pos rfl] at ht
  obtain ⟨k, x, ys, pb, ff, eL, ⟨hk, e58, -, -, hX⟩, hs, -, ep, ht⟩ := ht
  subst eL
  rw [hA] at e58 ht
  have hj40 : j < 40 := by omega
  rcases ht with ⟨ko, ej, er, eb, e69⟩ | ⟨k17, e69, T, ey, t3⟩ | ⟨hop, k17, e69, t, jm, rm, pm, y, tp, t0, ht⟩
  · subst ej; subst er; subst eb
    have op : ∀ x : Int32, opnK x = true → k ≠ x := fun x hx z => by rw [z, hx] at ko; exact absurd ko (by decide)
    have hp0 : hpK k = 0 := if_neg (op 53 (by decide))
    rw [hp0] at ep
    subst ep
    have ey := pk_lf ko hs
    subst ey
    have ec : csT j (j + 1) r' r' pb (pb + (paK k - 0)) = 2 + 11 * paK k := by unfold csT; omega
    rw [ec] at hf
    refine b_fin (Z := []) (fun i h1 h2 => absurd h1 (by omega)) hX (r := r') (r' := r') (p' := pb + (paK k - 0)) (q2 := 2 + 11 * paK k) (BuO.rf (q := 0) (nc := 0) hB hR) hj40 jlt (fun Q' C' => B_lf hA hB hR hf hj40 e58 hk ko e69 hs C'.kn) (by rw [ec]; omega) C
  · have hp0 : hpK k = 0 := by rw [k17]; decide
    have pa0 : paK k = 0 := by rw [k17]; decide
    rw [hp0, pa0] at ep
    have ep : p' = pb := ep
    subst ep
    have l3 := TT.le _ _ _ _ _ _ _ _ _ _ _ _ _ _ _ _ (by decide) t3
    unfold csT at hf
    refine ih.2.2 K j r 1 0 0 ff (j + 1) j' (r + 1) r' p p' T M S G pn t3 hj hr hB hR (by unfold csT; omega) (fun M1 S1 G1 pn1 y T1 pm ds d2 eT o1 c1 w1 q1 f1 n1 e75 z1 => ?_)
    subst eT
    unfold csT at c1
    have c1' := o1.2.2.2.2.1.1
    unfold csT at c1'
    unfold PkS at hs
    rw [k17, if_neg (by decide), if_neg (by decide), if_neg (by decide), if_neg (by decide), if_neg (by decide), if_neg (by decide), if_neg (by decide), if_neg (by decide), if_neg (by decide), if_neg (by decide), if_neg (by decide), if_neg (by decide), if_neg (by decide), if_neg (by decide), if_pos rfl] at hs
    subst ey
    have e58' : A 58 (40 * m + j) = 16 := by rw [e58, k17]; decide
    exact b_fin z1 hX (r := r) (r' := r') (q2 := 3 + T1.length) o1 hj40 jlt (fun Q' C' => B_all o1.1 o1.2.2.1 (by omega) hj40 (by omega) e58' e69 e75 (w1 pn1 (fun _ _ _ => rfl)) (q1 pn1 (fun _ _ _ => rfl)) f1 n1 o1.2.2.2.1.1 hs C') (by unfold csT; omega) C
  · have l0 := TT.le _ _ _ _ _ _ _ _ _ _ _ _ _ _ _ _ (by decide) t0
    unfold csT at hf
    rcases ht with ⟨ey, ej, er, eb, e75⟩ | ⟨kc, e75, e75', z, ey, t0'⟩
    · subst ej; subst er; subst eb
      have hpp : hpK k ≤ paK k := by
        unfold hpK
        by_cases k53 : k = 53
        · rw [k53]; decide
        · rw [if_neg k53]; exact Nat.zero_le _
      refine ih.2.1 _ (j + 1) j' (r + 1) r' (p + hpK k) pb y M S G pn t0 hj hr hB hR (by unfold csT; omega) (fun M1 S1 G1 pn1 ds o1 w1 y1 => ?_)
      have c1' := o1.2.2.2.2.1.1
      unfold csT at c1'
      have w1 : RowR W m zn fn lo hw A pn1 S1 G1 S.1 r (cxK ((40 * m + j, r, 1, t) :: K)) y (p + hpK k) pb ds := w1 pn1 (fun _ _ _ => rfl)
      rcases op_in hop k17 with kc | kc
      · obtain ⟨z1, z2, z3, z4, z5⟩ := pa_ch kc
        rw [z1, z2] at ep
        have ep : p' = pb := ep
        subst ep
        rw [cx_k tp, if_neg (by rcases kc with e | e <;> rw [e] <;> decide), if_neg (by rcases kc with e | e <;> rw [e] <;> decide), z2] at w1
        exact b_fin y1 hX (r := r) (r' := r') (q2 := 3) o1 hj40 jlt (fun Q' C' => B_cho (by decide) o1.1 o1.2.2.1 (by omega) hj40 (by omega) e58 kc e69 w1 o1.2.2.2.1.1 hs (fun z => ⟨by rw [hA, e58, z]; decide, hX⟩) (Or.inl ⟨e75, ey, rfl, rfl, rfl⟩) C') (by unfold csT; omega) C
      · subst ep
        subst ey
        exact b_fin y1 hX (r := r) (r' := r') (q2 := 3 + 11 * paK k) o1 hj40 jlt (fun Q' C' => B_one hA o1.1 o1.2.2.1 (by omega) hj40 (by omega) e58 kc tp e69 w1 o1.2.2.2.1.1 hs C') (by unfold csT; omega) C
    · obtain ⟨z1, z2, z3, z4, z5⟩ := pa_ch kc
      rw [z1, z2] at ep
      have ep : p' = pb := ep
      subst ep
      have l0' := TT.le _ _ _ _ _ _ _ _ _ _ _ _ _ _ _ _ (by decide) t0'
      refine ih.2.1 _ jm j' (rm + 1) r' pm p' z M S G pn t0' hj hr hB hR (by unfold csT; omega) (fun M1 S1 G1 pn1 ds2 o1 w2 y2 => ?_)
      have c1' := o1.2.2.2.2.1.1
      unfold csT at c1'
      refine ih.2.1 _ (j + 1) jm (r + 1) rm (p + hpK k) pm y M1 S1 G1 pn1 t0 (by omega) (by omega) o1.1 o1.2.2.1 (by unfold csT; omega) (fun M2 S2 G2 pn2 ds o2 w1 y1 => ?_)
      have c2' := o2.2.2.2.2.1.1
      unfold csT at c2'
      have ls : S.1 ≤ S1.1 := o1.2.2.2.1.1
      have w1 : RowR W m zn fn lo hw A pn2 S2 G2 S1.1 r (cxK ((40 * m + j, r, 1, t) :: K)) y (p + hpK k) pm ds := w1 pn2 (fun _ _ _ => rfl)
      rw [cx_k tp, if_neg (by rcases kc with e | e <;> rw [e] <;> decide), if_neg (by rcases kc with e | e <;> rw [e] <;> decide), z2] at w1
      have lt2 : ∀ z ∈ ds2, z < 700 * m + S1.1 := (w2 pn1 (fun _ _ _ => rfl)).lt
      have w2 : RowR W m zn fn lo hw A pn2 S2 G2 S.1 rm (cxK ((40 * m + j, rm, 2, none) :: K)) z pm p' ds2 := w2.st o2.2.2.2.1 (fun P q1 q2 => o2.2.2.2.2.2 P (Or.inr q1)) (Nat.le_refl _) pn2 (fun _ _ _ => rfl)
      rw [cxK_n rfl] at w2
      have o12 := o1.tr o2 l0.1 l0'.1
      exact b_fin (y1.ap (y2.st o2.2.2.2.1 (fun P q1 q2 => o2.2.2.2.2.2 P (Or.inr q1)))) hX (r := r) (r' := r') (q2 := 4) o12 hj40 jlt (fun Q' C' => B_cho (by decide) o2.1 o2.2.2.1 (by omega) hj40 (by omega) e58 kc e69 (w1.less ls) o12.2.2.2.1.1 hs (fun z => ⟨by rw [hA, e58, z]; decide, hX⟩) (Or.inr ⟨rm, z, ds2, ⟨by decide, Nat.add_comm _ _, rfl⟩, e75, by omega, ey, w2, fun w hw hw2 => by
        have := w1.ge w hw
        have := lt2 w hw2
        omega⟩) C') (by unfold csT; omega) C
theorem bl_all (hA : woA W = A) (h4 : m < 4) : ∀ g, BlS W m zn fn lo hw A h x1 Q g := by
  intro g
  induction g with
  | zero => exact ⟨fun md K j j' r r' p p' L M S G pn _ ht => by unfold TT at ht; exact ht.elim, fun K j j' r r' p p' y M S G pn ht => by unfold TT at ht; exact ht.elim, fun K a2 a3 a4 c1 c2 fl j j' r r' p p' L M S G pn ht => by unfold TT at ht; exact ht.elim⟩
  | succ g ih =>
    refine ⟨fun md K j j' r r' p p' L M S G pn hm ht hj hr hB hR hf C => ?_, fun K j j' r r' p p' y M S G pn ht hj hr hB hR hf C => bl_0 hA h4 ih ht hj hr hB hR hf C, fun K a2 a3 a4 c1 c2 fl j j' r r' p p' L M S G pn ht hj hr hB hR hf C => bl_3 hA ih ht hj hr hB hR hf C⟩
    rcases hm with e | e
    · subst e; exact bl_1 h4 ih ht hj hr hB hR hf C
    · subst e; exact bl_2 hA h4 ih ht hj hr hB hR hf C
end
end
section
/-! nodes of the reference: those above a node -/
def ancN (P : Nat → Nat → Prop) : Nat → Nat → Nat → Prop
  | 0, z, y => z = y
  | k + 1, z, y => ∃ x, P z x ∧ ancN P k x y
def inS (P : Nat → Nat → Prop) (z y : Nat) : Prop := ∃ k, ancN P k z y
/-- x is z's parent -/
def prB (m : Nat) (S : RBs) (z x : Nat) : Prop := (700 * m ≤ z ∧ z < 700 * m + S.1) ∧ x < 100000 ∧ S.2 86 z = Int32.ofNat x
theorem prB_f {m z x x' : Nat} {S : RBs} (h : prB m S z x) (h' : prB m S z x') : x = x' := inj32 (by have := h.2.1; omega) (by have := h'.2.1; omega) (h.2.2.symm.trans h'.2.2)
section
variable {P : Nat → Nat → Prop} {z y c c1 c2 : Nat}
theorem anc_snoc : ∀ (k z c : Nat), ancN P k z c → P c y → ancN P (k + 1) z y
  | 0, z, c, h, e => by
    have h : z = c := h
    subst h
    exact ⟨y, e, rfl⟩
  | k + 1, z, c, h, e => by
    obtain ⟨x, h2, h3⟩ := h
    exact ⟨x, h2, anc_snoc k x c h3 e⟩
theorem anc_lin (hf : ∀ z x x', P z x → P z x' → x = x') : ∀ (k1 k2 z a b : Nat), ancN P k1 z a → ancN P k2 z b → k1 ≤ k2 → ancN P (k2 - k1) a b
  | 0, k2, z, a, b, h1, h2, _ => by
    have h1 : z = a := h1
    subst h1
    exact h2
  | k1 + 1, 0, _, _, _, _, _, h => absurd h (by omega)
  | k1 + 1, k2 + 1, z, a, b, ⟨x, p2, p3⟩, ⟨x', q2, q3⟩, h => by
    have e : x = x' := hf z x x' p2 q2
    subst e
    rw [Nat.add_sub_add_right]
    exact anc_lin hf k1 k2 x a b p3 q3 (by omega)
theorem inS.rf : inS P z z := ⟨0, rfl⟩
theorem inS.up (h : inS P z c) (e : P c y) : inS P z y := by
  obtain ⟨k, h⟩ := h
  exact ⟨k + 1, anc_snoc k z c h e⟩
/-- a node's rank grows upward -/
theorem anc_rho {ρ : Nat → Nat} (hr : ∀ z x, P z x → ρ z < ρ x) : ∀ (k z y : Nat), ancN P k z y → ρ z ≤ ρ y
  | 0, z, y, h => by
    have h : z = y := h
    rw [h]; exact Nat.le_refl _
  | k + 1, z, y, ⟨x, h2, h3⟩ => by
    have := hr z x h2
    have := anc_rho hr k x y h3
    omega
/-- siblings have nothing in common; a node lies not within its child -/
theorem sub_dj {ρ : Nat → Nat} (hf : ∀ z x x', P z x → P z x' → x = x') (hr : ∀ z x, P z x → ρ z < ρ x) (e1 : P c1 y) (e2 : P c2 y) (hne : c1 ≠ c2) (h1 : inS P z c1) (h2 : inS P z c2) : False := by
  obtain ⟨k1, h1⟩ := h1
  obtain ⟨k2, h2⟩ := h2
  have two : ∀ (a b ka kb : Nat), P a y → P b y → a ≠ b → ancN P ka z a → ancN P kb z b → ka ≤ kb → False := by
    intro a b ka kb ea eb ne ha hb hk
    have l := anc_lin hf ka kb z a b ha hb hk
    cases hd : kb - ka with
    | zero =>
      rw [hd] at l
      exact ne l
    | succ k =>
      rw [hd] at l
      obtain ⟨x, x2, x3⟩ := l
      have ex : x = y := hf a x y x2 ea
      subst ex
      have := anc_rho hr k x b x3
      have := hr b x eb
      omega
  by_cases hk : k1 ≤ k2
  · exact two c1 c2 k1 k2 e1 e2 hne h1 h2 hk
  · exact two c2 c1 k2 k1 e2 e1 (fun z => hne z.symm) h2 h1 (by omega)
theorem sub_no {ρ : Nat → Nat} (hr : ∀ z x, P z x → ρ z < ρ x) (e1 : P c y) : ¬ inS P y c := by
  rintro ⟨k, h⟩
  have := anc_rho hr k y c h
  have := hr c y e1
  omega
end
section
variable {m : Nat} {S S1 : RBs} {G : Nat → List Nat} {z y c c1 c2 : Nat}
theorem RgB.rho (h : RgB m S G) : ∃ ρ : Nat → Nat, ∀ z x, prB m S z x → ρ z < ρ x := by
  obtain ⟨⟨h4, h1⟩, h2, h3, h5, ρ, h6⟩ := h
  refine ⟨ρ, fun z x ⟨⟨z1, z2⟩, hx, e⟩ => ?_⟩
  rcases h5 z z1 z2 with w | ⟨x', w1, w2, w3⟩
  · exact absurd (w.symm.trans e).symm (nm32 hx)
  · have ex : x = x' := inj32 (by omega) (by omega) (e.symm.trans w2)
    subst ex
    exact h6 x w1.1 w1.2 z w3
/-- children and parents -/
theorem RgB.pr (h : RgB m S G) (hy : 700 * m ≤ y ∧ y < 700 * m + S.1) (hc : c ∈ G y) : prB m S c y := by
  obtain ⟨⟨h4, h1⟩, h2, -⟩ := h
  obtain ⟨l, -, ch⟩ := h2 y hy.1 hy.2
  exact ⟨ch c hc, by omega, l.2.2.2.1 c hc⟩
/-- with one root, all nodes lie below it -/
theorem cnt_le {p1 : Nat → Bool} : ∀ (n a b : Nat), a < b → b < n → p1 a = true → p1 b = true → 2 ≤ (List.range n).countP p1 := by
  intro n
  induction n with
  | zero => intro a b h1 h2; omega
  | succ n ih =>
    intro a b h1 h2 pa pb
    rw [List.range_succ, List.countP_append, List.countP_singleton]
    by_cases e : b = n
    · subst e
      rw [pb, if_pos rfl]
      have : 1 ≤ (List.range b).countP p1 := by
        rw [Nat.succ_le_iff, List.countP_pos_iff]
        exact ⟨a, List.mem_range.mpr h1, pa⟩
      omega
    · have := ih a b h1 (by omega) pa pb
      omega
theorem rtC_one (h : rtC m S ≤ 1) (h1 : (700 * m ≤ z ∧ z < 700 * m + S.1) ∧ S.2 86 z = -1) (h2 : (700 * m ≤ y ∧ y < 700 * m + S.1) ∧ S.2 86 y = -1) : z = y := by
  unfold rtC at h
  rcases Nat.lt_trichotomy z y with w | w | w
  · have := cnt_le (p1 := fun k => decide (S.2 86 (700 * m + k) = -1)) S.1 (z - 700 * m) (y - 700 * m) (by omega) (by omega) (by rw [show 700 * m + (z - 700 * m) = z by omega]; exact decide_eq_true h1.2) (by rw [show 700 * m + (y - 700 * m) = y by omega]; exact decide_eq_true h2.2)
    omega
  · exact w
  · have := cnt_le (p1 := fun k => decide (S.2 86 (700 * m + k) = -1)) S.1 (y - 700 * m) (z - 700 * m) (by omega) (by omega) (by rw [show 700 * m + (y - 700 * m) = y by omega]; exact decide_eq_true h2.2) (by rw [show 700 * m + (z - 700 * m) = z by omega]; exact decide_eq_true h1.2)
    omega
theorem bd_max (f : Nat → Nat) : ∀ n, ∃ R, ∀ k, k < n → f k ≤ R
  | 0 => ⟨0, fun k h => absurd h (Nat.not_lt_zero _)⟩
  | n + 1 => by
    obtain ⟨R, h⟩ := bd_max f n
    refine ⟨max R (f n), fun k hk => ?_⟩
    by_cases e : k = n
    · rw [e]; omega
    · have := h k (by omega); omega
theorem rch_all (hR : RgB m S G) (h1 : rtC m S ≤ 1) (hy : (700 * m ≤ y ∧ y < 700 * m + S.1) ∧ S.2 86 y = -1) : ∀ z, 700 * m ≤ z → z < 700 * m + S.1 → inS (prB m S) z y := by
  obtain ⟨⟨h4, h7⟩, h2, h3, h5, ρ, h6⟩ := id hR
  obtain ⟨R, hR2⟩ := bd_max ρ (700 * m + S.1)
  have main : ∀ d z, 700 * m ≤ z → z < 700 * m + S.1 → R - ρ z ≤ d → inS (prB m S) z y := by
    intro d
    induction d with
    | zero =>
      intro z z1 z2 hd
      rcases h5 z z1 z2 with w | ⟨x, w1, w2, w3⟩
      · rw [rtC_one h1 ⟨⟨z1, z2⟩, w⟩ hy]; exact inS.rf
      · have := h6 x w1.1 w1.2 z w3
        have := hR2 x w1.2
        omega
    | succ d ih =>
      intro z z1 z2 hd
      rcases h5 z z1 z2 with w | ⟨x, w1, w2, w3⟩
      · rw [rtC_one h1 ⟨⟨z1, z2⟩, w⟩ hy]; exact inS.rf
      · have := h6 x w1.1 w1.2 z w3
        have := hR2 x w1.2
        obtain ⟨k, hk⟩ := ih x w1.1 w1.2 (by omega)
        exact ⟨k + 1, x, ⟨⟨z1, z2⟩, by omega, w2⟩, hk⟩
  exact fun z z1 z2 => main _ z z1 z2 (Nat.le_refl _)
end
end
section
/-! the reference goes through its nodes: steps, codes of exits -/
/-- nodes S, steps so far, how many codes -/
def GoM (m : Nat) (A : Nat → Nat → Int32) (pn : Nat → Int32) (S : RBs) (sl : List Nat) (km : Nat) (M : Mem) : Prop := BuM m A pn S M ∧ (mAI M 94 m = Int32.ofNat sl.length ∧ ∀ i, i < sl.length → mAI M 93 (1400 * m + i) = Int32.ofNat (sl.getD i 0)) ∧ mAI M 92 m = Int32.ofNat km
section
variable {m : Nat} {A : Nat → Nat → Int32} {pn : Nat → Int32} {S : RBs} {G : Nat → List Nat} {M M' : Mem} {h : Nat} {Q : Option Value → Mem → Prop} {sl : List Nat} {km n : Nat}
theorem BuM.fr9 (hB : BuM m A pn S M) (g : RGb m M M') (h79 : mAI M' 79 = mAI M 79) (h80 : ∀ c, 80 ≤ c → c ≤ 90 → mAI M' c = mAI M c) : BuM m A pn S M' := by
  obtain ⟨F, b1, b2, b3, b4, b5, b6⟩ := hB
  refine ⟨g.fix F (by decide), b1, by rw [g.fI (by decide)]; exact b2, by rw [h79]; exact b3, fun c c1 c2 => by rw [h80 c c1 (by omega)]; exact b4 c c1 c2, fun c c1 c2 c3 => ?_, by rw [h80 90 (by decide) (by decide)]; exact b6⟩
  have hc : c ∉ csB := by
    intro hc
    have : c = 79 ∨ c = 80 ∨ c = 81 ∨ c = 82 ∨ c = 83 ∨ c = 84 ∨ c = 85 ∨ c = 86 ∨ c = 87 ∨ c = 88 ∨ c = 89 ∨ c = 90 ∨ c = 92 ∨ c = 93 ∨ c = 94 := by simpa [csB] using hc
    omega
  rw [g.fA hc]
  exact b5 c c1 c2 c3
theorem G_step {v : Bool} (hG : GoM m A pn S sl km M) (hn : n < 2800) (hl : sl.length < 1400) (K : ∀ M', GoM m A pn S (sl ++ [2 * n + v.toNat]) km M' → RGb m M M' → Q none M') : E (h + 1) mdX11_step [.ref 29, .int (Int32.ofNat n), .int (bI v)] M Q := by
  obtain ⟨hB, ⟨g1, g2⟩, g3⟩ := id hG
  obtain ⟨F, h4, b2, b3, b4, b5, b6⟩ := id hB
  have lm : (Int32.ofNat m).toNatClampNeg = m := lt32 (by omega)
  have ex : (1400 : Int32) * Int32.ofNat m + Int32.ofNat sl.length = Int32.ofNat (1400 * m + sl.length) := by rw [Int32.ofNat_add, Int32.ofNat_mul]; rfl
  have le : (Int32.ofNat (1400 * m + sl.length)).toNatClampNeg = 1400 * m + sl.length := lt32 (by omega)
  have v94 : ∀ {M : Mem}, Fix M → vp_in (Int32.ofNat m) (mL M 94) := fun F => by rw [ln94 F]; exact vp_of h4 (by decide)
  have fin : ∀ w : Int32, (2 : Int32) * Int32.ofNat n + w = Int32.ofNat (2 * n + v.toNat) → DX11_step_34 h 29 93 (Int32.ofNat (1400 * m + sl.length)) ((2 : Int32) * Int32.ofNat n) w M Q := by
    intro w ew
    unfold DX11_step_34
    rw [le, ew]
    refine ⟨ok93 F, by rw [ln93 F]; exact vp_of (by omega) (by decide), fun M2 e2 => ?_⟩
    have G2 : RGb m M M2 := by rw [e2]; exact RG.ai (by decide) (by rw [show szA 93 = 1400 by decide]; omega)
    have F2 : Fix M2 := G2.fix F (by decide)
    have eA : mAI M2 = up2 (mAI M) 93 (1400 * m + sl.length) (Int32.ofNat (2 * n + v.toNat)) := by rw [e2]; rfl
    have i19 : mI M2 29 19 = Int32.ofNat m := by rw [G2.fI (by decide)]; exact b2
    rw [i19, lm]
    have e94 : mAI M2 94 m = Int32.ofNat sl.length := by rw [eA, up2_ne (fun z => absurd z.1 (by decide))]; exact g1
    refine ⟨ok29 F2, 94, rf29_76 F2, ok94 F2, v94 F2, v94 F2, fun M6 e6 => ?_⟩
    rw [e94, succ32] at e6
    have G6 : RGb m M2 M6 := by rw [e6]; exact RG.ai (by decide) (by rw [show szA 94 = 1 by decide]; omega)
    have eA6 : mAI M6 = up2 (mAI M2) 94 m (Int32.ofNat (sl.length + 1)) := by rw [e6]; rfl
    have row : ∀ c, c ≠ 93 → c ≠ 94 → mAI M6 c = mAI M c := fun c c1 c2 => by rw [eA6, up2_row c2, eA, up2_row c1]
    refine K M6 ⟨hB.fr9 (G2.tr G6) (row 79 (by decide) (by decide)) (fun c c1 c2 => row c (by omega) (by omega)), ⟨?_, fun i hi => ?_⟩, by rw [row 92 (by decide) (by decide)]; exact g3⟩ (G2.tr G6)
    · rw [eA6, List.length_append]; exact up2_eq
    · rw [List.length_append] at hi
      have hi : i < sl.length + 1 := hi
      rw [eA6, up2_ne (fun z => absurd z.1 (by decide)), eA]
      by_cases e : i = sl.length
      · rw [e, gdB]; exact up2_eq
      · rw [up2_ne (fun z => by omega), gdA (by omega)]
        exact g2 i (by omega)
  refine KX11_step ?_
  unfold DX11_step_0
  rw [b2, lm]
  refine ⟨ok29 F, 93, rf29_75 F, 94, rf29_76 F, ok94 F, v94 F, ?_⟩
  rw [g1, ex]
  cases v with
  | false => exact ⟨fun _ => fin 0 (by rw [Int32.add_zero, Int32.ofNat_add, Int32.ofNat_mul]; simp), fun z => absurd rfl z⟩
  | true => exact ⟨fun z => absurd z (by decide), fun _ => fin 1 (by rw [Int32.ofNat_add, Int32.ofNat_mul]; rfl)⟩
/-- the traps that are met upward from n, n among them -/
def TrC (m : Nat) (S : RBs) (pn : Nat → Int32) : Nat → Nat → List (Option Nat) → Prop
  | 0, _, _ => False
  | k + 1, n, cx => (700 * m ≤ n ∧ n < 700 * m + S.1) ∧ if S.2 80 n = 10 then ∃ t cx', cx = t :: cx' ∧ ((t = none ∧ S.2 81 n = -1) ∨ ∃ e, e < 160 ∧ t = some e ∧ S.2 81 n = Int32.ofNat e ∧ pn e = Int32.ofNat n) ∧ (cx' = [] ∨ ∃ x, prB m S n x ∧ TrC m S pn k x cx') else (cx = [] ∨ ∃ x, prB m S n x ∧ TrC m S pn k x cx)
theorem TrC_get {ρ : Nat → Nat} (hr : ∀ z x, prB m S z x → ρ z < ρ x) : ∀ (k n : Nat) (cx : List (Option Nat)) (v e : Nat), TrC m S pn k n cx → cx[v]? = some (some e) → ∃ n', n' < 700 * m + S.1 ∧ pn e = Int32.ofNat n' ∧ ρ n ≤ ρ n' := by
  intro k
  induction k with
  | zero => intro n cx v e h; exact h.elim
  | succ k ih =>
    intro n cx v e h hv
    obtain ⟨hn, h⟩ := h
    by_cases h10 : S.2 80 n = 10
    · rw [if_pos h10] at h
      obtain ⟨t, cx', e1, e2, e3⟩ := h
      subst e1
      cases v with
      | zero =>
        have hv : some t = some (some e) := hv
        cases hv
        rcases e2 with ⟨z, -⟩ | ⟨e', -, z, -, z2⟩
        · cases z
        · cases z
          exact ⟨n, hn.2, z2, Nat.le_refl _⟩
      | succ v =>
        have hv : cx'[v]? = some (some e) := hv
        rcases e3 with z | ⟨x, z1, z2⟩
        · rw [z] at hv; cases hv
        · obtain ⟨n', q1, q2, q3⟩ := ih x cx' v e z2 hv
          have := hr n x z1
          exact ⟨n', q1, q2, by omega⟩
    · rw [if_neg h10] at h
      rcases h with z | ⟨x, z1, z2⟩
      · rw [z] at hv; cases hv
      · obtain ⟨n', q1, q2, q3⟩ := ih x cx v e z2 hv
        have := hr n x z1
        exact ⟨n', q1, q2, by omega⟩
/-- the target of an exit: the nearest trap, or the v-th, which is part e's -/
def exT1 (pn : Nat → Int32) (cx : List (Option Nat)) (v : Nat) (x4 : Int32) : Prop := (x4 = -1 ∧ v = 0 ∧ cx ≠ []) ∨ ∃ e, cx[v]? = some (some e) ∧ x4 = pn e ∧ pn e ≠ -1
theorem co_loop {ρ : Nat → Nat} (hr : ∀ z x, prB m S z x → ρ z < ρ x) (hB : BuM m A pn S M) (h7 : S.1 ≤ 700) : ∀ (k n : Nat) (cx : List (Option Nat)) (v cd : Nat) (x4 : Int32), TrC m S pn k n cx → exT1 pn cx v x4 → Q (some (.int (Int32.ofNat (cd + v)))) M → T (h + 1) mdX11_codeOf 41 [(0, .ref 29), (2, .int (Int32.ofNat cd)), (3, .int (Int32.ofNat n)), (4, .int x4)] [] M Q := by
  obtain ⟨F, h4, b2, b3, b4, b5, b6⟩ := id hB
  intro k
  induction k with
  | zero => intro n cx v cd x4 h; exact h.elim
  | succ k ih =>
    intro n cx v cd x4 ht hx H
    obtain ⟨hn, ht⟩ := ht
    have ln : (Int32.ofNat n).toNatClampNeg = n := lt32 (by omega)
    have vn : ∀ {k : Nat}, k = 2800 → vp_in (Int32.ofNat n) k := fun e => by rw [e]; exact vp_of (by omega) (by decide)
    have m80 : mAI M 80 n = S.2 80 n := by rw [b4 80 (by decide) (by decide)]
    -- upward
    have up : ∀ (x cd' v' : Nat) (cx' : List (Option Nat)) (s1 : Int32), prB m S n x → TrC m S pn k x cx' → exT1 pn cx' v' x4 → Int32.ofNat cd + s1 = Int32.ofNat cd' → cd' + v' = cd + v → DX11_codeOf_81 h 29 (Int32.ofNat n) x4 (Int32.ofNat cd) s1 M Q := by
      intro x cd' v' cx' s1 hp hc hx' e1 e2
      unfold DX11_codeOf_81
      rw [ln, e1]
      have m86 : mAI M 86 n = Int32.ofNat x := by rw [b4 86 (by decide) (by decide)]; exact hp.2.2
      refine ⟨ok29 F, 86, rf29_68 F, ok86 F, vn (ln86 F), ?_⟩
      rw [m86]
      exact ih x cx' v' cd' x4 hc hx' (by rw [e2]; exact H)
    refine VX11_codeOf_41 ?_
    unfold DX11_codeOf_41 DX11_codeOf_93
    rw [ln]
    refine ⟨ok29 F, 80, rf29_62 F, ok80 F, vn (ln80 F), ?_⟩
    rw [m80]
    by_cases h10 : S.2 80 n = 10
    · rw [if_pos h10] at ht
      obtain ⟨t, cx', e1, e2, e3⟩ := ht
      subst e1
      refine ⟨fun z => absurd h10 z, fun _ => ?_⟩
      rcases hx with ⟨q1, q2, q3⟩ | ⟨e, q1, q2, q3⟩
      · refine ⟨fun _ => ?_, fun z => absurd q1 z⟩
        rw [q2] at H
        exact H
      · refine ⟨fun z => absurd (q2.symm.trans z) q3, fun _ => ?_⟩
        cases v with
        | zero =>
          have hv : some t = some (some e) := q1
          cases hv
          rcases e2 with ⟨z, -⟩ | ⟨e', -, z, -, z2⟩
          · cases z
          · cases z
            refine ⟨fun _ => H, fun z => absurd ?_ z⟩
            rw [q2, z2]
        | succ v =>
          have hv : cx'[v]? = some (some e) := q1
          rcases e3 with z | ⟨x, z1, z2⟩
          · rw [z] at hv; cases hv
          · obtain ⟨n', p1, p2, p3⟩ := TrC_get hr k x cx' v e z2 hv
            have := hr n x z1
            refine ⟨fun w => ?_, fun _ => ?_⟩
            · rw [q2, p2] at w
              have en : n = n' := inj32 (by omega) (by omega) w
              rw [← en] at p3
              omega
            · unfold DX11_codeOf_64
              rw [ln]
              refine ⟨ok29 F, 80, rf29_62 F, ok80 F, vn (ln80 F), ?_⟩
              rw [m80]
              exact ⟨fun z => absurd h10 z, fun _ => up x (cd + 1) v cx' 1 z1 z2 (Or.inr ⟨e, hv, q2, q3⟩) succ32 (by omega)⟩
    · rw [if_neg h10] at ht
      refine ⟨fun _ => ?_, fun z => absurd z h10⟩
      have hne : cx ≠ [] := by
        rcases hx with ⟨-, -, q3⟩ | ⟨e, q1, -⟩
        · exact q3
        · intro z; rw [z] at q1; cases q1
      rcases ht with z | ⟨x, z1, z2⟩
      · exact absurd z hne
      · unfold DX11_codeOf_64
        rw [ln]
        refine ⟨ok29 F, 80, rf29_62 F, ok80 F, vn (ln80 F), ?_⟩
        rw [m80]
        exact ⟨fun _ => up x cd v cx 0 z1 z2 hx (Int32.add_zero _) rfl, fun z => absurd z h10⟩
end
end
section
/-! the reference: the codes of a node -/
section
variable {m : Nat} {A : Nat → Nat → Int32} {pn : Nat → Int32} {S : RBs} {G : Nat → List Nat} {M M' : Mem} {h : Nat} {Q : Option Value → Mem → Prop} {n : Nat}
theorem G_codeOf {ρ : Nat → Nat} {z x k v : Nat} {cx : List (Option Nat)} (hr : ∀ z x, prB m S z x → ρ z < ρ x) (hB : BuM m A pn S M) (h7 : S.1 ≤ 700) (hp : prB m S z x) (ht : TrC m S pn k x cx) (he : (S.2 81 z = -1 ∧ v = 0 ∧ cx ≠ []) ∨ ∃ j e, j < 40 ∧ e < 160 ∧ S.2 81 z = Int32.ofNat (40 * m + j) ∧ A 60 (40 * m + j) = Int32.ofNat e ∧ cx[v]? = some (some e)) (H : Q (some (.int (Int32.ofNat (2 + v)))) M) : E (h + 1) mdX11_codeOf [.ref 29, .int (Int32.ofNat z)] M Q := by
  obtain ⟨F, h4, b2, b3, b4, b5, b6⟩ := id hB
  obtain ⟨⟨z1, z2⟩, x1, x2⟩ := id hp
  have lz : (Int32.ofNat z).toNatClampNeg = z := lt32 (by omega)
  have vz : ∀ {k : Nat}, k = 2800 → vp_in (Int32.ofNat z) k := fun e => by rw [e]; exact vp_of (by omega) (by decide)
  have m86 : mAI M 86 z = Int32.ofNat x := by rw [b4 86 (by decide) (by decide)]; exact x2
  have m81 : mAI M 81 z = S.2 81 z := by rw [b4 81 (by decide) (by decide)]
  refine KX11_codeOf ?_
  unfold DX11_codeOf_0 DX11_codeOf_39
  rw [lz]
  refine ⟨ok29 F, 86, rf29_68 F, ok86 F, vz (ln86 F), 81, rf29_63 F, ok81 F, vz (ln81 F), ?_⟩
  rw [m81, m86]
  have two : (2 : Int32) = Int32.ofNat 2 := rfl
  rcases he with ⟨e1, e2, e3⟩ | ⟨j, e, e1, e2, e3, e4, e5⟩
  · refine ⟨fun w => absurd e1 w, fun _ => ?_⟩
    rw [two]
    exact co_loop hr hB h7 k x cx v 2 (-1) ht (Or.inl ⟨rfl, e2, e3⟩) H
  · rw [e3]
    refine ⟨fun _ => ?_, fun w => absurd w (nm32 (by omega))⟩
    have m60 : mAI M 60 (40 * m + j) = Int32.ofNat e := by rw [b5 60 (by decide) (by decide) (by decide)]; exact e4
    have l40 := lt40 h4 e1
    have lE : (Int32.ofNat e).toNatClampNeg = e := lt32 (by omega)
    have m81' : mAI M 81 z = Int32.ofNat (40 * m + j) := m81.trans e3
    refine ⟨90, rf29_72 F, 60, rf29_40 F, 81, rf29_63 F, ok81 F, vz (ln81 F), ok60 F, by rw [m81']; exact ix40 h4 e1 (ln60 F), ok90 F, by rw [m81', l40, m60, ln90 F]; exact vp_of e2 (by decide), ?_⟩
    rw [m81', l40, m60, lE, b6, two]
    obtain ⟨n', p1, p2, -⟩ := TrC_get hr k x cx v e ht e5
    exact co_loop hr hB h7 k x cx v 2 (pn e) ht (Or.inr ⟨e, e5, rfl, by rw [p2]; exact nm32 (by omega)⟩) H
def lwF (x : Int32) : Nat → Nat → Nat
  | 0, k => k
  | f + 1, k => if (x >>> (Int32.ofNat k &&& 31)) &&& 1 = 0 then lwF x f (k + 1) else k
def lwI (x : Int32) : Nat := lwF x 30 0
theorem lw_loop {x : Int32} : ∀ (f k : Nat), f + k = 30 → Q (some (.int (Int32.ofNat (lwF x f k)))) M → T (h + 1) mdX11_lowest 2 [(0, .int x), (1, .int (Int32.ofNat k))] [] M Q := by
  intro f
  induction f with
  | zero =>
    intro k hk H
    have : k = 30 := by omega
    subst this
    refine VX11_lowest_2 ?_
    unfold DX11_lowest_2 DX11_lowest_22
    exact ⟨fun _ => H, fun z => absurd (by decide) z⟩
  | succ f ih =>
    intro k hk H
    refine VX11_lowest_2 ?_
    unfold DX11_lowest_2 DX11_lowest_22
    have nle : ¬ ((30 : Int32) ≤ Int32.ofNat k) := by
      have e : (30 : Int32) = Int32.ofNat 30 := rfl
      rw [e, le32 (by decide) (by omega)]
      omega
    unfold lwF at H
    refine ⟨fun z => absurd z nle, fun _ => ⟨fun z => ?_, fun z => ?_⟩⟩
    · rw [if_neg z] at H; exact H
    · rw [if_pos z] at H
      rw [succ32]
      exact ih (k + 1) (by omega) H
theorem G_low {x : Int32} (H : Q (some (.int (Int32.ofNat (lwI x)))) M) : E (h + 1) mdX11_lowest [.int x] M Q := by
  refine KX11_lowest ?_
  unfold DX11_lowest_0
  exact lw_loop 30 0 rfl H
/-- those behind c -/
def NxC (B : Nat → Nat → Int32) : Nat → List Nat → Prop
  | c, [] => B 84 c = -1
  | c, d :: r => B 84 c = Int32.ofNat d ∧ NxC B d r
theorem nx_of {B : Nat → Nat → Int32} : ∀ (l : List Nat) (c : Nat), (∀ i, i + 1 < (c :: l).length → B 84 ((c :: l).getD i 0) = Int32.ofNat ((c :: l).getD (i + 1) 0)) → B 84 ((c :: l).getLastD 0) = -1 → NxC B c l
  | [], c, _, h2 => h2
  | d :: l, c, h1, h2 => ⟨h1 0 (by simp), nx_of l d (fun i hi => h1 (i + 1) (by simpa using hi)) (by rw [List.getLastD_cons, List.getLastD_cons] at h2; rw [List.getLastD_cons]; exact h2)⟩
theorem LkR.nx {B : Nat → Nat → Int32} {x c : Nat} {l : List Nat} (h : LkR B x (c :: l)) : NxC B c l := nx_of l c (fun i hi => (h.2.2.1 i hi).1) (h.2.2.2.2 (by simp)).1
def seF (a c : Int32) : Int32 := (a &&& (-2)) ||| (if a &&& 1 = 0 then 0 else c)
def pjF (a c : Int32) : Int32 := if a = 0 ∨ c = 0 then 0 else ((a ||| c) >>> (Int32.ofNat (if lwI a ≤ lwI c then lwI c else lwI a) &&& 31)) <<< (Int32.ofNat (if lwI a ≤ lwI c then lwI c else lwI a) &&& 31)
theorem cd_seq (hB : BuM m A pn S M) : ∀ (r : List Nat) (c : Nat) (a : Int32), NxC S.2 c r → (∀ z ∈ c :: r, z < 2800) → Q (some (.int ((c :: r).foldl (fun a c => seF a (S.2 89 c)) a))) M → T (h + 1) mdX11_codes 110 [(0, .ref 29), (2, .int a), (3, .int (Int32.ofNat c))] [] M Q := by
  obtain ⟨F, h4, b2, b3, b4, b5, b6⟩ := id hB
  intro r
  have step : ∀ (r : List Nat) (c : Nat) (a : Int32), c < 2800 → T (h + 1) mdX11_codes 110 [(0, .ref 29), (2, .int (seF a (S.2 89 c))), (3, .int (S.2 84 c))] [] M Q → T (h + 1) mdX11_codes 110 [(0, .ref 29), (2, .int a), (3, .int (Int32.ofNat c))] [] M Q := by
    intro r c a hc H
    have lc : (Int32.ofNat c).toNatClampNeg = c := lt32 (by omega)
    have vc : ∀ {k : Nat}, k = 2800 → vp_in (Int32.ofNat c) k := fun e => by rw [e]; exact vp_of hc (by decide)
    have m84 : mAI M 84 c = S.2 84 c := by rw [b4 84 (by decide) (by decide)]
    have m89 : mAI M 89 c = S.2 89 c := by rw [b4 89 (by decide) (by decide)]
    refine VX11_codes_110 ?_
    unfold DX11_codes_110 DX11_codes_135
    rw [lc]
    refine ⟨fun z => absurd z (nm32 (by omega)), fun _ => ⟨fun z => ⟨ok29 F, 84, rf29_66 F, ok84 F, vc (ln84 F), ?_⟩, fun z => ⟨ok29 F, 89, rf29_71 F, ok89 F, vc (ln89 F), ok29 F, 84, rf29_66 F, ok84 F, vc (ln84 F), ?_⟩⟩⟩
    · rw [m84]
      unfold seF at H
      rw [if_pos z] at H
      exact H
    · rw [m84, m89]
      unfold seF at H
      rw [if_neg z] at H
      exact H
  induction r with
  | nil =>
    intro c a hn hl H
    refine step [] c a (hl c List.mem_cons_self) ?_
    have hn : S.2 84 c = -1 := hn
    rw [hn]
    refine VX11_codes_110 ?_
    unfold DX11_codes_110
    exact ⟨fun _ => H, fun z => absurd rfl z⟩
  | cons d r ih =>
    intro c a hn hl H
    refine step (d :: r) c a (hl c List.mem_cons_self) ?_
    rw [hn.1]
    exact ih d _ hn.2 (fun z hz => hl z (List.mem_cons_of_mem _ hz)) H
theorem cd_all (hB : BuM m A pn S M) : ∀ (r : List Nat) (a x3 : Int32), (match r with | [] => x3 = -1 | c :: t => x3 = Int32.ofNat c ∧ NxC S.2 c t) → (∀ z ∈ r, z < 2800) → Q (some (.int (r.foldl (fun a c => pjF a (S.2 89 c)) a))) M → T (h + 2) mdX11_codes 180 [(0, .ref 29), (2, .int a), (3, .int x3)] [] M Q := by
  obtain ⟨F, h4, b2, b3, b4, b5, b6⟩ := id hB
  intro r
  induction r with
  | nil =>
    intro a x3 hn hl H
    have hn : x3 = -1 := hn
    subst hn
    refine VX11_codes_180 ?_
    unfold DX11_codes_180
    exact ⟨fun _ => H, fun z => absurd rfl z⟩
  | cons c t ih =>
    intro a x3 hn hl H
    obtain ⟨e3, hn⟩ := hn
    subst e3
    have hc := hl c List.mem_cons_self
    have lc : (Int32.ofNat c).toNatClampNeg = c := lt32 (by omega)
    have vc : ∀ {k : Nat}, k = 2800 → vp_in (Int32.ofNat c) k := fun e => by rw [e]; exact vp_of hc (by decide)
    have m84 : mAI M 84 c = S.2 84 c := by rw [b4 84 (by decide) (by decide)]
    have m89 : mAI M 89 c = S.2 89 c := by rw [b4 89 (by decide) (by decide)]
    have H : Q (some (.int (t.foldl (fun a c => pjF a (S.2 89 c)) (pjF a (S.2 89 c))))) M := H
    have next : ∀ w : Int32, w = pjF a (S.2 89 c) → DX11_codes_250 (h + 1) 29 (Int32.ofNat c) w M Q := by
      intro w ew
      unfold DX11_codes_250
      rw [lc]
      refine ⟨ok29 F, 84, rf29_66 F, ok84 F, vc (ln84 F), ?_⟩
      rw [m84, ew]
      refine ih (pjF a (S.2 89 c)) _ ?_ (fun z hz => hl z (List.mem_cons_of_mem _ hz)) H
      cases t with
      | nil => exact hn
      | cons d t => exact hn
    have d217 : ∀ l : Nat, l = (if lwI a ≤ lwI (S.2 89 c) then lwI (S.2 89 c) else lwI a) → DX11_codes_217 (h + 1) 29 a (Int32.ofNat c) (Int32.ofNat l) M Q := by
      intro l el
      unfold DX11_codes_217 DX11_codes_232
      rw [lc]
      refine ⟨fun z => next 0 (by unfold pjF; rw [if_pos (Or.inl z)]), fun z => ⟨ok29 F, 89, rf29_71 F, ok89 F, vc (ln89 F), ?_⟩⟩
      rw [m89]
      refine ⟨fun z2 => ⟨89, rf29_71 F, ok89 F, vc (ln89 F), ?_⟩, fun z2 => next 0 (by unfold pjF; rw [if_pos (Or.inr z2)])⟩
      rw [m89]
      refine next _ ?_
      unfold pjF
      rw [if_neg (by rintro (w | w); exact z w; exact z2 w), ← el]
    have lb : ∀ x : Int32, lwI x ≤ 30 := by
      intro x
      have g : ∀ f k, f + k = 30 → lwF x f k ≤ 30 := by
        intro f
        induction f with
        | zero => intro k hk; unfold lwF; omega
        | succ f ih2 =>
          intro k hk
          unfold lwF
          split
          · exact ih2 (k + 1) (by omega)
          · omega
      exact g 30 0 rfl
    refine VX11_codes_180 ?_
    unfold DX11_codes_180
    rw [lc]
    refine ⟨fun z => absurd z (nm32 (by omega)), fun _ => G_low (fun _ => ⟨_, rfl, ok29 F, 89, rf29_71 F, ok89 F, vc (ln89 F), ?_⟩)⟩
    rw [m89]
    refine G_low (fun _ => ⟨_, rfl, fun z => ⟨89, rf29_71 F, ok89 F, vc (ln89 F), ?_⟩, fun z => G_low (fun _ => ⟨_, rfl, d217 _ ?_⟩)⟩)
    · rw [m89]
      rw [le32 (by have := lb a; omega) (by have := lb (S.2 89 c); omega)] at z
      exact G_low (fun _ => ⟨_, rfl, d217 _ (by rw [if_pos z])⟩)
    · rw [le32 (by have := lb a; omega) (by have := lb (S.2 89 c); omega)] at z
      rw [if_neg z]
end
end
section
/-! the reference: the codes of a node, by sort -/
def trF (c : Int32) : Int32 := ((c &&& 3) ||| ((c >>> ((2 : Int32) &&& 31)) &&& 1)) ||| ((c >>> ((1 : Int32) &&& 31)) &&& (-4))
def rcS (so nu : Int32) (l : List Int32) : Int32 := if so = 2 then 2 else if so = 3 then (1 : Int32) <<< (nu &&& 31) else if so = 4 ∨ so = 5 then l.headD 0 ||| (match l.tail with | [] => 1 | b :: _ => b) else if so = 6 then l.foldl seF 1 else if so = 7 then l.headD 0 &&& (-2) else if so = 8 then l.headD 0 else if so = 9 then l.tail.foldl pjF (l.headD 0) else if so = 10 then trF (l.headD 0) else 1
section
variable {m : Nat} {A : Nat → Nat → Int32} {pn : Nat → Int32} {S : RBs} {G : Nat → List Nat} {M M' : Mem} {h : Nat} {Q : Option Value → Mem → Prop} {n : Nat}
theorem G_codes (hB : BuM m A pn S M) (hR : RgB m S G) (hn : 700 * m ≤ n ∧ n < 700 * m + S.1) (hl : S.2 80 n = 4 ∨ S.2 80 n = 5 ∨ S.2 80 n = 6 ∨ S.2 80 n = 7 ∨ S.2 80 n = 8 ∨ S.2 80 n = 9 ∨ S.2 80 n = 10 → G n ≠ []) (H : Q (some (.int (rcS (S.2 80 n) (S.2 88 n) ((G n).map (S.2 89))))) M) : E (h + 3) mdX11_codes [.ref 29, .int (Int32.ofNat n)] M Q := by
  obtain ⟨F, h4, b2, b3, b4, b5, b6⟩ := id hB
  obtain ⟨lk, nd, ch⟩ := hR.2.1 n hn.1 hn.2
  have h7 := hR.1.2
  have ln : (Int32.ofNat n).toNatClampNeg = n := lt32 (by omega)
  have vv : ∀ {k x : Nat}, x < 2800 → k = 2800 → vp_in (Int32.ofNat x) k := fun hx e => by rw [e]; exact vp_of hx (by decide)
  have hn2 : n < 2800 := by omega
  have m80 : mAI M 80 n = S.2 80 n := by rw [b4 80 (by decide) (by decide)]
  have m82 : mAI M 82 n = hdI (G n) := by rw [b4 82 (by decide) (by decide)]; exact lk.1
  have m84 : ∀ c, mAI M 84 c = S.2 84 c := fun c => by rw [b4 84 (by decide) (by decide)]
  have m88 : mAI M 88 n = S.2 88 n := by rw [b4 88 (by decide) (by decide)]
  have m89 : ∀ c, mAI M 89 c = S.2 89 c := fun c => by rw [b4 89 (by decide) (by decide)]
  have big : ∀ c ∈ G n, c < 2800 := fun c hc => by have := (ch c hc).2; omega
  refine KX11_codes ?_
  unfold DX11_codes_0 DX11_codes_106
  rw [ln]
  refine ⟨ok29 F, 82, rf29_64 F, ok82 F, vv hn2 (ln82 F), 80, rf29_62 F, ok80 F, vv hn2 (ln80 F), ?_⟩
  rw [m80, m82]
  generalize hG : G n = l at hl H lk nd ch big m82
  generalize hso : S.2 80 n = so at hl H m80
  have cons : so = 4 ∨ so = 5 ∨ so = 6 ∨ so = 7 ∨ so = 8 ∨ so = 9 ∨ so = 10 → ∃ c r, l = c :: r := fun z => by
    cases l with
    | nil => exact absurd rfl (hl z)
    | cons c r => exact ⟨c, r, rfl⟩
  have hd1 : ∀ c r, hdI (c :: r) = Int32.ofNat c := fun c r => by unfold hdI; rw [if_neg (by simp)]; rfl
  have lc : ∀ c, c < 2800 → (Int32.ofNat c).toNatClampNeg = c := fun c hc => lt32 (by omega)
  have pre : ∀ so : Int32, (so = 4 ∨ so = 5) → ∀ c r, l = c :: r → Q (some (.int (rcS so (S.2 88 n) (l.map (S.2 89))))) M → ∃ b8 : Nat, mR M 29 71 = some b8 ∧ ok M b8 21 ∧ vp_in (hdI l) (mL M b8) ∧ ∃ b10 : Nat, mR M 29 66 = some b10 ∧ ok M b10 21 ∧ vp_in (hdI l) (mL M b10) ∧ (¬ (mAI M b10 (hdI l).toNatClampNeg) = (-1) → ∃ b12 : Nat, mR M 29 71 = some b12 ∧ ∃ b13 : Nat, mR M 29 66 = some b13 ∧ ok M b13 21 ∧ vp_in (hdI l) (mL M b13) ∧ ok M b12 21 ∧ vp_in (mAI M b13 (hdI l).toNatClampNeg) (mL M b12) ∧ Q (some (.int ((mAI M b8 (hdI l).toNatClampNeg) ||| (mAI M b12 (mAI M b13 (hdI l).toNatClampNeg).toNatClampNeg)))) M) ∧ ((mAI M b10 (hdI l).toNatClampNeg) = (-1) → Q (some (.int ((mAI M b8 (hdI l).toNatClampNeg) ||| 1))) M) := by
    intro so hs c r e H
    subst e
    have hc := big c List.mem_cons_self
    rw [hd1, lc c hc]
    unfold rcS at H
    rw [if_neg (by rcases hs with z | z <;> rw [z] <;> decide), if_neg (by rcases hs with z | z <;> rw [z] <;> decide), if_pos hs] at H
    refine ⟨89, rf29_71 F, ok89 F, vv hc (ln89 F), 84, rf29_66 F, ok84 F, vv hc (ln84 F), ?_⟩
    rw [m84, m89]
    have nx := lk.nx
    cases r with
    | nil =>
      have nx : S.2 84 c = -1 := nx
      exact ⟨fun z => absurd nx z, fun _ => H⟩
    | cons d r =>
      have nx : S.2 84 c = Int32.ofNat d ∧ NxC S.2 d r := nx
      have hd := big d (by simp)
      rw [nx.1]
      refine ⟨fun _ => ⟨89, rf29_71 F, 84, rf29_66 F, ok84 F, vv hc (ln84 F), ok89 F, by rw [m84, nx.1]; exact vv hd (ln89 F), ?_⟩, fun z => absurd z (nm32 (by omega))⟩
      rw [m84, nx.1, lc d hd, m89]
      exact H
  refine ⟨fun e => ?_, fun e => ?_, fun e => ?_, fun e => ?_, fun e => ?_, fun e => ?_, fun e => ?_, fun e => ?_, fun e => ?_, fun e => ?_⟩
  · rw [e] at H; exact H
  · rw [e] at H
    refine ⟨88, rf29_70 F, ok88 F, vv hn2 (ln88 F), ?_⟩
    rw [m88]
    exact H
  · obtain ⟨c, r, el⟩ := cons (Or.inl e)
    rw [e] at H
    exact pre 4 (Or.inl rfl) c r el H
  · obtain ⟨c, r, el⟩ := cons (Or.inr (Or.inl e))
    rw [e] at H
    exact pre 5 (Or.inr rfl) c r el H
  · obtain ⟨c, r, el⟩ := cons (Or.inr (Or.inr (Or.inl e)))
    rw [e] at H
    subst el
    rw [hd1]
    refine cd_seq (h := h + 2) hB r c 1 lk.nx big ?_
    have H : Q (some (.int (((c :: r).map (S.2 89)).foldl seF 1))) M := H
    rw [List.foldl_map] at H
    exact H
  · obtain ⟨c, r, el⟩ := cons (Or.inr (Or.inr (Or.inr (Or.inl e))))
    rw [e] at H
    subst el
    have hc := big c List.mem_cons_self
    rw [hd1, lc c hc]
    refine ⟨89, rf29_71 F, ok89 F, vv hc (ln89 F), ?_⟩
    rw [m89]
    exact H
  · obtain ⟨c, r, el⟩ := cons (Or.inr (Or.inr (Or.inr (Or.inr (Or.inl e)))))
    rw [e] at H
    subst el
    have hc := big c List.mem_cons_self
    rw [hd1, lc c hc]
    refine ⟨89, rf29_71 F, ok89 F, vv hc (ln89 F), ?_⟩
    rw [m89]
    exact H
  · obtain ⟨c, r, el⟩ := cons (Or.inr (Or.inr (Or.inr (Or.inr (Or.inr (Or.inl e))))))
    rw [e] at H
    subst el
    have hc := big c List.mem_cons_self
    rw [hd1, lc c hc]
    refine ⟨89, rf29_71 F, ok89 F, vv hc (ln89 F), 84, rf29_66 F, ok84 F, vv hc (ln84 F), ?_⟩
    rw [m89, m84]
    have H : Q (some (.int ((r.map (S.2 89)).foldl pjF (S.2 89 c)))) M := H
    rw [List.foldl_map] at H
    refine cd_all (h := h + 1) hB r (S.2 89 c) _ ?_ (fun z hz => big z (List.mem_cons_of_mem _ hz)) H
    have nx := lk.nx
    cases r with
    | nil => exact nx
    | cons d r => exact nx
  · obtain ⟨c, r, el⟩ := cons (Or.inr (Or.inr (Or.inr (Or.inr (Or.inr (Or.inr e))))))
    rw [e] at H
    subst el
    have hc := big c List.mem_cons_self
    rw [hd1, lc c hc]
    refine ⟨89, rf29_71 F, ok89 F, vv hc (ln89 F), 89, rf29_71 F, ok89 F, vv hc (ln89 F), 89, rf29_71 F, ok89 F, vv hc (ln89 F), ?_⟩
    rw [m89]
    exact H
  · have ne : ∀ k : Int32, ¬ (k.toInt < 2 ∨ 10 < k.toInt) → so ≠ k := fun k hk z => hk (by rw [← z]; exact e)
    unfold rcS at H
    rw [if_neg (ne 2 (by decide)), if_neg (ne 3 (by decide)), if_neg (by rintro (z | z); exact ne 4 (by decide) z; exact ne 5 (by decide) z), if_neg (ne 6 (by decide)), if_neg (ne 7 (by decide)), if_neg (ne 8 (by decide)), if_neg (ne 9 (by decide)), if_neg (ne 10 (by decide))] at H
    exact H
end
end
section
/-! the reference goes through its nodes: a node is left -/
/-- the nodes S0 with masks, numbers, codes -/
def wS (S0 : RBs) (mk nu co : Nat → Int32) : RBs := (S0.1, fun c => if c = 87 then mk else if c = 88 then nu else if c = 89 then co else S0.2 c)
section
variable {m : Nat} {A : Nat → Nat → Int32} {pn : Nat → Int32} {S0 : RBs} {mk nu co : Nat → Int32} {G : Nat → List Nat} {M M' : Mem} {h : Nat} {Q : Option Value → Mem → Prop} {sl : List Nat} {km n : Nat} {v : Int32}
theorem wS_c {c : Nat} (h1 : c ≠ 87) (h2 : c ≠ 88) (h3 : c ≠ 89) : (wS S0 mk nu co).2 c = S0.2 c := by
  show (if c = 87 then mk else if c = 88 then nu else if c = 89 then co else S0.2 c) = _
  rw [if_neg h1, if_neg h2, if_neg h3]
theorem wS_87 : (wS S0 mk nu co).2 87 = mk := rfl
theorem wS_88 : (wS S0 mk nu co).2 88 = nu := rfl
theorem wS_89 : (wS S0 mk nu co).2 89 = co := rfl
theorem up_va {f : Nat → Nat → Int32} {c n : Nat} : up2 f c n v c = va_up (f c) n v := by
  funext j
  by_cases e : j = n
  · rw [e, va_up_self]; exact up2_eq
  · rw [va_up_ne _ _ e, up2_ne (fun z => e z.2)]
theorem wS_w87 : ((wS S0 mk nu co).1, up2 (wS S0 mk nu co).2 87 n v) = wS S0 (va_up mk n v) nu co := by
  refine Prod.ext rfl (funext fun c => ?_)
  by_cases e : c = 87
  · subst e
    show up2 (wS S0 mk nu co).2 87 n v 87 = (wS S0 (va_up mk n v) nu co).2 87
    rw [up_va, wS_87, wS_87]
  · show up2 (wS S0 mk nu co).2 87 n v c = (if c = 87 then _ else if c = 88 then nu else if c = 89 then co else S0.2 c)
    rw [up2_row e, if_neg e]
    show (if c = 87 then mk else if c = 88 then nu else if c = 89 then co else S0.2 c) = _
    rw [if_neg e]
theorem wS_w88 : ((wS S0 mk nu co).1, up2 (wS S0 mk nu co).2 88 n v) = wS S0 mk (va_up nu n v) co := by
  refine Prod.ext rfl (funext fun c => ?_)
  by_cases e : c = 88
  · subst e
    show up2 (wS S0 mk nu co).2 88 n v 88 = (wS S0 mk (va_up nu n v) co).2 88
    rw [up_va, wS_88, wS_88]
  · show up2 (wS S0 mk nu co).2 88 n v c = (if c = 87 then mk else if c = 88 then _ else if c = 89 then co else S0.2 c)
    rw [up2_row e]
    show (if c = 87 then mk else if c = 88 then nu else if c = 89 then co else S0.2 c) = _
    rw [if_neg e, if_neg e]
theorem wS_w89 : ((wS S0 mk nu co).1, up2 (wS S0 mk nu co).2 89 n v) = wS S0 mk nu (va_up co n v) := by
  refine Prod.ext rfl (funext fun c => ?_)
  by_cases e : c = 89
  · subst e
    show up2 (wS S0 mk nu co).2 89 n v 89 = (wS S0 mk nu (va_up co n v)).2 89
    rw [up_va, wS_89, wS_89]
  · show up2 (wS S0 mk nu co).2 89 n v c = (if c = 87 then mk else if c = 88 then nu else if c = 89 then _ else S0.2 c)
    rw [up2_row e]
    show (if c = 87 then mk else if c = 88 then nu else if c = 89 then co else S0.2 c) = _
    rw [if_neg e, if_neg e]
theorem wS_rg (hR : RgB m S0 G) : RgB m (wS S0 mk nu co) G := by
  obtain ⟨h1, h2, h3, h5, ρ, h6⟩ := hR
  have e : ∀ c, 80 ≤ c → c ≤ 86 → (wS S0 mk nu co).2 c = S0.2 c := fun c c1 c2 => wS_c (by omega) (by omega) (by omega)
  refine ⟨h1, fun x z1 z2 => ?_, fun x z1 z2 z3 => ?_, fun z z1 z2 => ?_, ρ, h6⟩
  · obtain ⟨a1, a2, a3⟩ := h2 x z1 z2
    exact ⟨a1.cg (by rw [e 82 (by decide) (by decide)]) (by rw [e 83 (by decide) (by decide)]) (fun _ _ => by rw [e 84 (by decide) (by decide)]) (fun _ _ => by rw [e 85 (by decide) (by decide)]) (fun _ _ => by rw [e 86 (by decide) (by decide)]), a2, a3⟩
  · rw [e 84 (by decide) (by decide), e 85 (by decide) (by decide)]
    rw [e 86 (by decide) (by decide)] at z3
    exact h3 x z1 z2 z3
  · rw [e 86 (by decide) (by decide)]
    exact h5 z z1 z2
/-- masks, numbers and codes so far, steps so far, how many codes -/
def GW (m : Nat) (A : Nat → Nat → Int32) (pn : Nat → Int32) (S0 : RBs) (mk nu co : Nat → Int32) (sl : List Nat) (km : Nat) (M : Mem) : Prop := GoM m A pn (wS S0 mk nu co) sl km M
theorem GoM.w {S : RBs} {c k : Nat} (hG : GoM m A pn S sl km M) (h1 : 80 ≤ c) (h2 : c ≤ 89) (hk : 700 * m ≤ k) : GoM m A pn (S.1, up2 S.2 c k v) sl km (wAI M c k v) ∧ RGb m M (wAI M c k v) := by
  obtain ⟨hB, ⟨g1, g2⟩, g3⟩ := hG
  obtain ⟨s1, r1⟩ := hB.w (c := c) (k := k) (v := v) (S1 := 0) h1 h2 hk
  have e : mAI (wAI M c k v) = up2 (mAI M) c k v := rfl
  refine ⟨⟨s1, ⟨by rw [e, up2_row (by omega)]; exact g1, fun i hi => by rw [e, up2_row (by omega)]; exact g2 i hi⟩, by rw [e, up2_row (by omega)]; exact g3⟩, r1⟩
theorem GW.w87 (hG : GW m A pn S0 mk nu co sl km M) (hn : 700 * m ≤ n) : GW m A pn S0 (va_up mk n v) nu co sl km (wAI M 87 n v) ∧ RGb m M (wAI M 87 n v) := by
  have q := GoM.w (v := v) hG (c := 87) (by decide) (by decide) hn
  rw [wS_w87] at q
  exact q
theorem GW.w88 (hG : GW m A pn S0 mk nu co sl km M) (hn : 700 * m ≤ n) : GW m A pn S0 mk (va_up nu n v) co sl km (wAI M 88 n v) ∧ RGb m M (wAI M 88 n v) := by
  have q := GoM.w (v := v) hG (c := 88) (by decide) (by decide) hn
  rw [wS_w88] at q
  exact q
theorem GW.w89 (hG : GW m A pn S0 mk nu co sl km M) (hn : 700 * m ≤ n) : GW m A pn S0 mk nu (va_up co n v) sl km (wAI M 89 n v) ∧ RGb m M (wAI M 89 n v) := by
  have q := GoM.w (v := v) hG (c := 89) (by decide) (by decide) hn
  rw [wS_w89] at q
  exact q
theorem GW.rd (hG : GW m A pn S0 mk nu co sl km M) : (∀ c, 80 ≤ c → c ≤ 86 → mAI M c = S0.2 c) ∧ mAI M 87 = mk ∧ mAI M 88 = nu ∧ mAI M 89 = co := by
  have b4 := hG.1.2.2.2.2.1
  exact ⟨fun c c1 c2 => by rw [b4 c c1 (by omega)]; exact wS_c (by omega) (by omega) (by omega), by rw [b4 87 (by decide) (by decide)]; exact wS_87, by rw [b4 88 (by decide) (by decide)]; exact wS_88, by rw [b4 89 (by decide) (by decide)]; exact wS_89⟩
/-- how it goes on behind node y: with its next, or its parent -/
def aftT (h : Nat) (S0 : RBs) (y : Nat) (x1 : Int32) (M : Mem) (Q : Option Value → Mem → Prop) : Prop := T (h + 4) mdX11_goThrough 34 [(0, .ref 29), (1, .int x1), (2, .int (if S0.2 84 y = -1 then S0.2 86 y else S0.2 84 y)), (3, .int (if S0.2 84 y = -1 then 0 else 1))] [] M Q
/-- the parent's masks with y's -/
def upM (m : Nat) (S0 : RBs) (mk : Nat → Int32) (y : Nat) : Nat → Int32 := if S0.2 86 y = -1 then mk else va_up mk (S0.2 86 y).toNatClampNeg (mk (S0.2 86 y).toNatClampNeg ||| mk y)
theorem L_leave {x1 : Int32} {y : Nat} (hG : GW m A pn S0 mk nu co sl km M) (hR : RgB m S0 G) (hy : 700 * m ≤ y ∧ y < 700 * m + S0.1) (hl : S0.2 80 y = 4 ∨ S0.2 80 y = 5 ∨ S0.2 80 y = 6 ∨ S0.2 80 y = 7 ∨ S0.2 80 y = 8 ∨ S0.2 80 y = 9 ∨ S0.2 80 y = 10 → G y ≠ []) (hs : sl.length < 1400) (K : ∀ M', GW m A pn S0 (upM m S0 mk y) nu (va_up co y (rcS (S0.2 80 y) (nu y) ((G y).map co))) (sl ++ [2 * y + 1]) km M' → RGb m M M' → aftT h S0 y x1 M' Q) : DX11_goThrough_172 (h + 3) 29 x1 (Int32.ofNat y) M Q := by
  have h4 := hG.1.2.1
  have h7 := hR.1.2
  have F := hG.1.1
  have ly : (Int32.ofNat y).toNatClampNeg = y := lt32 (by omega)
  have vv : ∀ {k x : Nat}, x < 2800 → k = 2800 → vp_in (Int32.ofNat x) k := fun hx e => by rw [e]; exact vp_of hx (by decide)
  have hy2 : y < 2800 := by omega
  have e80 : (wS S0 mk nu co).2 80 = S0.2 80 := wS_c (by decide) (by decide) (by decide)
  unfold DX11_goThrough_172
  rw [ly]
  refine ⟨ok29 F, 89, rf29_71 F, G_codes (h := h) hG.1 (wS_rg hR) hy (by rw [e80]; exact hl) (fun _ => ⟨_, rfl, ok89 F, vv hy2 (ln89 F), fun M6 e6 => ?_⟩)⟩
  rw [e80, wS_88, wS_89] at e6
  obtain ⟨g6, r6⟩ := hG.w89 (n := y) (v := rcS (S0.2 80 y) (nu y) ((G y).map co)) hy.1
  rw [← e6] at g6 r6
  refine G_step (v := true) g6 hy2 hs (fun M7 g7 r7 _ => ⟨rfl, ?_⟩)
  have g7 : GW m A pn S0 mk nu (va_up co y (rcS (S0.2 80 y) (nu y) ((G y).map co))) (sl ++ [2 * y + 1]) km M7 := g7
  have F7 := g7.1.1
  obtain ⟨rd1, rd2, -, -⟩ := g7.rd
  have m86 : mAI M7 86 y = S0.2 86 y := by rw [rd1 86 (by decide) (by decide)]
  refine ⟨86, rf29_68 F7, ok86 F7, vv hy2 (ln86 F7), ?_⟩
  rw [m86]
  -- where it goes on
  have go : ∀ (M8 : Mem), GW m A pn S0 (upM m S0 mk y) nu (va_up co y (rcS (S0.2 80 y) (nu y) ((G y).map co))) (sl ++ [2 * y + 1]) km M8 → RGb m M M8 → DX11_goThrough_219 (h + 3) 29 x1 (Int32.ofNat y) (S0.2 86 y) M8 Q := by
    intro M8 g8 r8
    have F8 := g8.1.1
    have m84 : mAI M8 84 y = S0.2 84 y := by rw [g8.rd.1 84 (by decide) (by decide)]
    have k8 := K M8 g8 r8
    unfold aftT at k8
    unfold DX11_goThrough_219 DX11_goThrough_234 DX11_goThrough_250
    rw [ly]
    refine ⟨ok29 F8, 84, rf29_66 F8, ok84 F8, vv hy2 (ln84 F8), ?_⟩
    rw [m84]
    refine ⟨fun z => ?_, fun z => ?_⟩
    · rw [if_pos z, if_pos z] at k8
      exact ⟨fun _ => k8, fun w => absurd rfl w⟩
    · rw [if_neg z, if_neg z] at k8
      refine ⟨fun w => absurd w (by decide), fun _ => ⟨ok29 F8, 84, rf29_66 F8, ok84 F8, vv hy2 (ln84 F8), ?_⟩⟩
      rw [m84]
      exact k8
  refine ⟨fun z => ?_, fun z => ?_⟩
  · refine go M7 ?_ (r6.tr r7)
    have : upM m S0 mk y = mk := if_pos z
    rw [this]
    exact g7
  · obtain ⟨u, u1, u2, -⟩ : ∃ u, (700 * m ≤ u ∧ u < 700 * m + S0.1) ∧ S0.2 86 y = Int32.ofNat u ∧ y ∈ G u := by
      rcases hR.2.2.2.1 y hy.1 hy.2 with w | w
      · exact absurd w z
      · exact w
    have lu : (Int32.ofNat u).toNatClampNeg = u := lt32 (by omega)
    have eu : upM m S0 mk y = va_up mk u (mk u ||| mk y) := by
      unfold upM
      rw [if_neg z, u2, lu]
    rw [u2, lu]
    refine ⟨87, rf29_69 F7, ok87 F7, vv (by omega) (ln87 F7), 87, rf29_69 F7, ok87 F7, vv hy2 (ln87 F7), vv (by omega) (ln87 F7), fun M14 e14 => ?_⟩
    rw [rd2] at e14
    obtain ⟨g14, r14⟩ := g7.w87 (n := u) (v := mk u ||| mk y) u1.1
    rw [← e14, ← eu] at g14
    rw [← e14] at r14
    have := go M14 g14 ((r6.tr r7).tr r14)
    rw [u2] at this
    exact this
end
end
section
/-! the reference goes through its nodes: a node is come to -/
section
variable {m : Nat} {A : Nat → Nat → Int32} {pn : Nat → Int32} {S0 : RBs} {mk nu co : Nat → Int32} {G : Nat → List Nat} {M M' : Mem} {h : Nat} {Q : Option Value → Mem → Prop} {sl : List Nat} {km n y : Nat} {x1 : Int32}
def goT (h : Nat) (x1 x2 x3 : Int32) (M : Mem) (Q : Option Value → Mem → Prop) : Prop := T (h + 4) mdX11_goThrough 34 [(0, .ref 29), (1, .int x1), (2, .int x2), (3, .int x3)] [] M Q
theorem GW.w92 {kn : Nat} (hG : GW m A pn S0 mk nu co sl km M) : GW m A pn S0 mk nu co sl kn (wAI M 92 m (Int32.ofNat kn)) ∧ RGb m M (wAI M 92 m (Int32.ofNat kn)) := by
  obtain ⟨hB, ⟨g1, g2⟩, g3⟩ := hG
  have e : mAI (wAI M 92 m (Int32.ofNat kn)) = up2 (mAI M) 92 m (Int32.ofNat kn) := rfl
  have G1 : RGb m M (wAI M 92 m (Int32.ofNat kn)) := RG.ai (by decide) (by rw [show szA 92 = 1 by decide]; omega)
  refine ⟨⟨hB.fr9 G1 (by rw [e, up2_row (by decide)]) (fun c c1 c2 => by rw [e, up2_row (by omega)]), ⟨by rw [e, up2_row (by decide)]; exact g1, fun i hi => by rw [e, up2_row (by decide)]; exact g2 i hi⟩, by rw [e]; exact up2_eq⟩, G1⟩
/-- back at a node -/
theorem L_back (hG : GW m A pn S0 mk nu co sl km M) (hy : y < 2800) (H : DX11_goThrough_172 (h + 3) 29 x1 (Int32.ofNat y) M Q) : goT h x1 (Int32.ofNat y) 0 M Q := by
  unfold goT
  refine VX11_goThrough_34 ?_
  unfold DX11_goThrough_34 DX11_goThrough_148
  exact ⟨fun z => absurd z (nm32 (by omega)), fun _ => ⟨fun _ => ⟨fun _ => H, fun z => absurd rfl z⟩, fun z => absurd rfl z⟩⟩
/-- the step inward, then by sort -/
theorem L_ent (hG : GW m A pn S0 mk nu co sl km M) (hR : RgB m S0 G) (hy : 700 * m ≤ y ∧ y < 700 * m + S0.1) (hs : sl.length < 1400) (H2 : S0.2 80 y ≠ 2 → ∀ M', GW m A pn S0 mk nu co (sl ++ [2 * y]) km M' → RGb m M M' → DX11_goThrough_78 (h + 3) 29 x1 (Int32.ofNat y) 1 M' Q) (H1 : S0.2 80 y = 2 → ∀ M', GW m A pn S0 (va_up mk y ((1 : Int32) <<< (x1 &&& 31))) (va_up nu y x1) co (sl ++ [2 * y]) km M' → RGb m M M' → DX11_goThrough_78 (h + 3) 29 (x1 + 1) (Int32.ofNat y) 1 M' Q) : goT h x1 (Int32.ofNat y) 1 M Q := by
  have h4 := hG.1.2.1
  have h7 := hR.1.2
  have hy2 : y < 2800 := by omega
  have ly : (Int32.ofNat y).toNatClampNeg = y := lt32 (by omega)
  have vv : ∀ {k x : Nat}, x < 2800 → k = 2800 → vp_in (Int32.ofNat x) k := fun hx e => by rw [e]; exact vp_of hx (by decide)
  unfold goT
  refine VX11_goThrough_34 ?_
  unfold DX11_goThrough_34
  rw [ly]
  refine ⟨fun z => absurd z (nm32 (by omega)), fun _ => ⟨fun z => absurd z (by decide), fun _ => ⟨ok29 hG.1.1, G_step (v := false) (h := h + 2) hG hy2 hs (fun M2 g2 r2 _ => ⟨rfl, ?_⟩)⟩⟩⟩
  have g2 : GW m A pn S0 mk nu co (sl ++ [2 * y]) km M2 := g2
  have F2 := g2.1.1
  have m80 : mAI M2 80 y = S0.2 80 y := by rw [g2.rd.1 80 (by decide) (by decide)]
  refine ⟨80, rf29_62 F2, ok80 F2, vv hy2 (ln80 F2), ?_⟩
  rw [m80]
  refine ⟨fun z => H2 z M2 g2 r2, fun z => ⟨88, rf29_70 F2, ok88 F2, vv hy2 (ln88 F2), fun M7 e7 => ?_⟩⟩
  obtain ⟨g7, r7⟩ := g2.w88 (n := y) (v := x1) hy.1
  rw [← e7] at g7 r7
  have F7 := g7.1.1
  refine ⟨87, rf29_69 F7, ok87 F7, vv hy2 (ln87 F7), fun M10 e10 => ?_⟩
  obtain ⟨g10, r10⟩ := g7.w87 (n := y) (v := (1 : Int32) <<< (x1 &&& 31)) hy.1
  rw [← e10] at g10 r10
  exact H1 z M10 g10 ((r2.tr r7).tr r10)
/-- behind the looks at pause and exit -/
theorem L_148 {M1 : Mem} (hG : GW m A pn S0 mk nu co sl km M1) (hR : RgB m S0 G) (hy : 700 * m ≤ y ∧ y < 700 * m + S0.1) (H0 : G y = [] → DX11_goThrough_172 (h + 3) 29 x1 (Int32.ofNat y) M1 Q) (H1 : ∀ c r, G y = c :: r → goT h x1 (Int32.ofNat c) 1 M1 Q) : DX11_goThrough_148 (h + 3) 29 x1 (Int32.ofNat y) 1 M1 Q := by
  have h4 := hG.1.2.1
  have h7 := hR.1.2
  have F := hG.1.1
  have hy2 : y < 2800 := by omega
  have ly : (Int32.ofNat y).toNatClampNeg = y := lt32 (by omega)
  have vv : ∀ {k x : Nat}, x < 2800 → k = 2800 → vp_in (Int32.ofNat x) k := fun hx e => by rw [e]; exact vp_of hx (by decide)
  obtain ⟨lk, nd, ch⟩ := hR.2.1 y hy.1 hy.2
  have m82 : mAI M1 82 y = hdI (G y) := by rw [hG.rd.1 82 (by decide) (by decide)]; exact lk.1
  unfold DX11_goThrough_148
  rw [ly]
  refine ⟨fun z => absurd z (by decide), fun _ => ⟨ok29 F, 82, rf29_64 F, ok82 F, vv hy2 (ln82 F), ?_⟩⟩
  rw [m82]
  cases hg : G y with
  | nil => exact ⟨fun _ => H0 hg, fun z => absurd rfl z⟩
  | cons c r =>
    have hd : hdI (c :: r) = Int32.ofNat c := by unfold hdI; rw [if_neg (by simp)]; rfl
    have hc := (ch c (by rw [hg]; exact List.mem_cons_self)).2
    rw [hd]
    refine ⟨fun z => absurd z (nm32 (by omega)), fun _ => ⟨82, rf29_64 F, ok82 F, vv hy2 (ln82 F), ?_⟩⟩
    rw [m82, hg, hd]
    exact H1 c r hg
/-- no exit -/
theorem L_78n {M1 : Mem} (hG : GW m A pn S0 mk nu co sl km M1) (hR : RgB m S0 G) (hy : 700 * m ≤ y ∧ y < 700 * m + S0.1) (h3 : S0.2 80 y ≠ 3) (H : DX11_goThrough_148 (h + 3) 29 x1 (Int32.ofNat y) 1 M1 Q) : DX11_goThrough_78 (h + 3) 29 x1 (Int32.ofNat y) 1 M1 Q := by
  have h4 := hG.1.2.1
  have h7 := hR.1.2
  have F := hG.1.1
  have hy2 : y < 2800 := by omega
  have ly : (Int32.ofNat y).toNatClampNeg = y := lt32 (by omega)
  have m80 : mAI M1 80 y = S0.2 80 y := by rw [hG.rd.1 80 (by decide) (by decide)]
  unfold DX11_goThrough_78
  rw [ly]
  refine ⟨ok29 F, 80, rf29_62 F, ok80 F, by rw [ln80 F]; exact vp_of hy2 (by decide), ?_⟩
  rw [m80]
  exact ⟨fun _ => H, fun z => absurd z h3⟩
theorem prB_w {z x : Nat} : prB m (wS S0 mk nu co) z x ↔ prB m S0 z x := by
  unfold prB
  rw [wS_c (c := 86) (by decide) (by decide) (by decide)]
  exact Iff.rfl
theorem TrC_w : ∀ (k n : Nat) (cx : List (Option Nat)), TrC m S0 pn k n cx → TrC m (wS S0 mk nu co) pn k n cx := by
  intro k
  induction k with
  | zero => intro n cx h; exact h
  | succ k ih =>
    intro n cx h
    obtain ⟨h1, h2⟩ := h
    refine ⟨h1, ?_⟩
    rw [wS_c (c := 80) (by decide) (by decide) (by decide), wS_c (c := 81) (by decide) (by decide) (by decide)]
    by_cases h10 : S0.2 80 n = 10
    · rw [if_pos h10] at h2 ⊢
      obtain ⟨t, cx', e1, e2, e3⟩ := h2
      refine ⟨t, cx', e1, e2, ?_⟩
      rcases e3 with e3 | ⟨x, q1, q2⟩
      · exact Or.inl e3
      · exact Or.inr ⟨x, prB_w.mpr q1, ih x cx' q2⟩
    · rw [if_neg h10] at h2 ⊢
      rcases h2 with e3 | ⟨x, q1, q2⟩
      · exact Or.inl e3
      · exact Or.inr ⟨x, prB_w.mpr q1, ih x cx q2⟩
/-- an exit: its code -/
theorem L_78x {M1 : Mem} {ρ : Nat → Nat} {x k v : Nat} {cx : List (Option Nat)} (hr : ∀ z x, prB m S0 z x → ρ z < ρ x) (hG : GW m A pn S0 mk nu co sl km M1) (hR : RgB m S0 G) (hy : 700 * m ≤ y ∧ y < 700 * m + S0.1) (h3 : S0.2 80 y = 3) (hp : prB m S0 y x) (ht : TrC m S0 pn k x cx) (he : (S0.2 81 y = -1 ∧ v = 0 ∧ cx ≠ []) ∨ ∃ j e, j < 40 ∧ e < 160 ∧ S0.2 81 y = Int32.ofNat (40 * m + j) ∧ A 60 (40 * m + j) = Int32.ofNat e ∧ cx[v]? = some (some e)) (hv : v < 1000) (hk : km < 10000) (H : ∀ M', GW m A pn S0 mk (va_up nu y (Int32.ofNat (2 + v))) co sl (max km (2 + v + 1)) M' → RGb m M1 M' → DX11_goThrough_148 (h + 3) 29 x1 (Int32.ofNat y) 1 M' Q) : DX11_goThrough_78 (h + 3) 29 x1 (Int32.ofNat y) 1 M1 Q := by
  have h4 := hG.1.2.1
  have h7 := hR.1.2
  have F := hG.1.1
  have hy2 : y < 2800 := by omega
  have ly : (Int32.ofNat y).toNatClampNeg = y := lt32 (by omega)
  have lm : (Int32.ofNat m).toNatClampNeg = m := lt32 (by omega)
  have vv : ∀ {k x : Nat}, x < 2800 → k = 2800 → vp_in (Int32.ofNat x) k := fun hx e => by rw [e]; exact vp_of hx (by decide)
  have m80 : mAI M1 80 y = S0.2 80 y := by rw [hG.rd.1 80 (by decide) (by decide)]
  unfold DX11_goThrough_78
  rw [ly]
  refine ⟨ok29 F, 80, rf29_62 F, ok80 F, vv hy2 (ln80 F), ?_⟩
  rw [m80]
  refine ⟨fun z => absurd h3 z, fun _ => ⟨88, rf29_70 F, G_codeOf (h := h + 2) (v := v) (fun z x q => hr z x (prB_w.mp q)) hG.1 h7 (prB_w.mpr hp) (TrC_w k x cx ht) (by rw [wS_c (c := 81) (by decide) (by decide) (by decide)]; exact he) (fun _ => ⟨_, rfl, ok88 F, vv hy2 (ln88 F), fun M8 e8 => ?_⟩)⟩⟩
  obtain ⟨g8, r8⟩ := hG.w88 (n := y) (v := Int32.ofNat (2 + v)) hy.1
  rw [← e8] at g8 r8
  have F8 := g8.1.1
  have i19 := g8.1.2.2.1
  have m88 : mAI M8 88 y = Int32.ofNat (2 + v) := by rw [g8.rd.2.2.1]; exact va_up_self _ _ _
  have m92 : mAI M8 92 m = Int32.ofNat km := g8.2.2
  have v92 : vp_in (Int32.ofNat m) (mL M8 92) := by rw [ln92 F8]; exact vp_of h4 (by decide)
  have last : ∀ w : Int32, w = Int32.ofNat (max km (2 + v + 1)) → DX11_goThrough_147 (h + 3) 29 x1 (Int32.ofNat y) 1 92 (mI M8 29 19) w M8 Q := by
    intro w ew
    unfold DX11_goThrough_147
    rw [i19, lm, ew]
    refine ⟨ok92 F8, v92, fun M2 e2 => ?_⟩
    obtain ⟨g2, r2⟩ := g8.w92 (kn := max km (2 + v + 1))
    rw [← e2] at g2 r2
    exact H M2 g2 (r8.tr r2)
  refine ⟨92, rf29_74 F8, 88, rf29_70 F8, ok88 F8, vv hy2 (ln88 F8), 92, rf29_74 F8, ok92 F8, by rw [i19]; exact v92, ?_⟩
  rw [m88, i19, lm, m92, succ32, le32 (by omega) (by omega)]
  have last' := last
  rw [i19] at last'
  refine ⟨fun z => ⟨92, rf29_74 F8, ok92 F8, v92, ?_⟩, fun z => ⟨88, rf29_70 F8, ok88 F8, vv hy2 (ln88 F8), ?_⟩⟩
  · rw [m92]
    exact last' _ (by rw [Nat.max_eq_left z])
  · rw [m88, succ32]
    exact last' _ (by rw [Nat.max_eq_right (by omega)])
end
end
section
/-! codes, bit by bit: what the reference makes of them is what the class makes -/
def cbI (v : Int32) : Prop := v.toBitVec.toNat < 1048576
theorem sh31 : ∀ k : Fin 32, ((Int32.ofNat k.val &&& 31).toBitVec.smod 32).toNat = k.val := by decide +kernel
theorem negTP : ∀ k : Fin 32, -(BitVec.twoPow 32 k.val) = BitVec.allOnes 32 <<< k.val := by decide +kernel
theorem ltTP : ∀ i j : Fin 20, (Int32.ofBitVec (BitVec.twoPow 32 i.val) < Int32.ofBitVec (BitVec.twoPow 32 j.val)) ↔ i.val < j.val := by decide +kernel
section
variable {v a c : Int32} {k i : Nat}
theorem cb_msb (h : cbI v) : v.toBitVec.msb = false := by
  rw [BitVec.msb_eq_false_iff_two_mul_lt]
  unfold cbI at h
  omega
theorem shr_b (hk : k < 32) (h : cbI v) : (v >>> (Int32.ofNat k &&& 31)).toBitVec = v.toBitVec >>> k := by
  rw [Int32.toBitVec_shiftRight, BitVec.sshiftRight_eq', sh31 ⟨k, hk⟩, BitVec.sshiftRight_eq_of_msb_false (cb_msb h)]
theorem shl_b (hk : k < 32) : (v <<< (Int32.ofNat k &&& 31)).toBitVec = v.toBitVec <<< k := by
  rw [Int32.toBitVec_shiftLeft, BitVec.shiftLeft_eq', sh31 ⟨k, hk⟩]
theorem cb_or (h1 : cbI a) (h2 : cbI c) : cbI (a ||| c) := by
  unfold cbI at *
  rw [Int32.toBitVec_or, BitVec.toNat_or]
  exact Nat.or_lt_two_pow (n := 20) h1 h2
theorem cb_and (h1 : cbI a) : cbI (a &&& c) := by
  unfold cbI at *
  rw [Int32.toBitVec_and, BitVec.toNat_and]
  exact Nat.lt_of_le_of_lt Nat.and_le_left h1
theorem bit_0 (hk : k < 32) (h : cbI v) : ((v >>> (Int32.ofNat k &&& 31)) &&& 1 = 0) ↔ v.toBitVec.getLsbD k = false := by
  have e1 : (v >>> (Int32.ofNat k &&& 31)) &&& 1 = 0 ↔ ((v >>> (Int32.ofNat k &&& 31)) &&& 1).toBitVec = (0 : Int32).toBitVec := ⟨fun e => by rw [e], fun e => Int32.toBitVec_inj.mp e⟩
  rw [e1, Int32.toBitVec_and, shr_b hk h]
  have e2 : (1 : Int32).toBitVec = 1#32 := rfl
  have e3 : (0 : Int32).toBitVec = 0#32 := rfl
  rw [e2, e3, BitVec.and_one_eq_setWidth_ofBool_getLsbD, BitVec.getLsbD_ushiftRight, Nat.add_zero]
  cases v.toBitVec.getLsbD k <;> decide
theorem lw_gen (h : cbI v) : ∀ (f k : Nat), f + k = 30 → (∀ j, j < k → v.toBitVec.getLsbD j = false) → (∀ j, j < lwF v f k → v.toBitVec.getLsbD j = false) ∧ (lwF v f k < 30 → v.toBitVec.getLsbD (lwF v f k) = true) ∧ lwF v f k ≤ 30 := by
  intro f
  induction f with
  | zero =>
    intro k hk hj
    unfold lwF
    exact ⟨hj, fun z => absurd z (by omega), by omega⟩
  | succ f ih =>
    intro k hk hj
    unfold lwF
    by_cases e : (v >>> (Int32.ofNat k &&& 31)) &&& 1 = 0
    · rw [if_pos e]
      refine ih (k + 1) (by omega) (fun j h1 => ?_)
      by_cases ej : j = k
      · rw [ej]; exact (bit_0 (by omega) h).mp e
      · exact hj j (by omega)
    · rw [if_neg e]
      refine ⟨hj, fun _ => ?_, by omega⟩
      cases hb : v.toBitVec.getLsbD k with
      | true => rfl
      | false => exact absurd ((bit_0 (by omega) h).mpr hb) e
theorem lw_is (h : cbI v) (hz : v ≠ 0) : lwI v < 20 ∧ v.toBitVec.getLsbD (lwI v) = true ∧ ∀ j, j < lwI v → v.toBitVec.getLsbD j = false := by
  obtain ⟨h1, h2, h3⟩ := lw_gen h 30 0 rfl (fun j hj => absurd hj (Nat.not_lt_zero _))
  have hb : ∀ j, 20 ≤ j → v.toBitVec.getLsbD j = false := fun j hj => by
    show v.toBitVec.toNat.testBit j = false
    refine Nat.testBit_lt_two_pow (Nat.lt_of_lt_of_le h ?_)
    exact Nat.pow_le_pow_right (n := 2) (by decide) hj
  have h4 : lwI v < 30 := by
    refine Nat.lt_of_not_le (fun z => hz ?_)
    refine Int32.toBitVec_inj.mp (BitVec.eq_of_getLsbD_eq (fun j hj => ?_))
    have e3 : (0 : Int32).toBitVec = 0#32 := rfl
    rw [e3, BitVec.getLsbD_zero]
    by_cases e : j < 20
    · exact h1 j (Nat.lt_of_lt_of_le (by omega) z)
    · exact hb j (by omega)
  have h5 := h2 h4
  refine ⟨Nat.lt_of_not_le (fun z => ?_), h5, h1⟩
  have := hb _ z
  have h5 : v.toBitVec.getLsbD (lwI v) = true := h5
  rw [this] at h5
  cases h5
theorem lob_is (hi : i < 32) (h1 : v.toBitVec.getLsbD i = true) (h2 : ∀ j, j < i → v.toBitVec.getLsbD j = false) : lob v = Int32.ofBitVec (BitVec.twoPow 32 i) := by
  refine Int32.toBitVec_inj.mp ?_
  unfold lob
  rw [Int32.toBitVec_and, Int32.toBitVec_neg]
  show v.toBitVec &&& -v.toBitVec = BitVec.twoPow 32 i
  refine BitVec.eq_of_getLsbD_eq (fun j hj => ?_)
  rw [BitVec.getLsbD_and, BitVec.getLsbD_neg, BitVec.getLsbD_twoPow]
  rcases Nat.lt_trichotomy j i with w | w | w
  · rw [h2 j w]
    have : decide (i = j) = false := decide_eq_false (by omega)
    rw [this]
    simp
  · subst w
    rw [h1]
    have e : decide (∃ l, l < j ∧ v.toBitVec.getLsbD l = true) = false := decide_eq_false (fun ⟨l, l1, l2⟩ => by rw [h2 l l1] at l2; cases l2)
    rw [e]
    simp [hi]
  · have e : decide (∃ l, l < j ∧ v.toBitVec.getLsbD l = true) = true := decide_eq_true ⟨i, w, h1⟩
    rw [e]
    have : decide (i = j) = false := decide_eq_false (by omega)
    rw [this]
    cases v.toBitVec.getLsbD j <;> simp [hj]
theorem pj_ao (ha : cbI a) (hc : cbI c) : pjF a c = aoT 8 a c False := by
  unfold pjF aoT
  rw [if_neg (show ¬ (8 : Int32) = 5 by decide), if_neg (show ¬ (8 : Int32) = 6 by decide), if_pos rfl, if_neg (fun z => z)]
  by_cases z : a = 0 ∨ c = 0
  · rw [if_pos z, if_pos z]
  rw [if_neg z, if_neg z]
  obtain ⟨a1, a2, a3⟩ := lw_is ha (fun e => z (Or.inl e))
  obtain ⟨c1, c2, c3⟩ := lw_is hc (fun e => z (Or.inr e))
  have la := lob_is (by omega) a2 a3
  have lc := lob_is (by omega) c2 c3
  generalize lwI a = i at a1 a2 a3 la
  generalize lwI c = j at c1 c2 c3 lc
  have key : ∀ k, k < 20 → (((a ||| c) >>> (Int32.ofNat k &&& 31)) <<< (Int32.ofNat k &&& 31)) = (a ||| c) &&& -(Int32.ofBitVec (BitVec.twoPow 32 k)) := by
    intro k hk
    refine Int32.toBitVec_inj.mp ?_
    rw [shl_b (by omega), shr_b (by omega) (cb_or ha hc), BitVec.shiftLeft_ushiftRight, Int32.toBitVec_and, Int32.toBitVec_neg]
    show _ = (a ||| c).toBitVec &&& -(BitVec.twoPow 32 k)
    rw [negTP ⟨k, by omega⟩]
  have lt := ltTP ⟨i, a1⟩ ⟨j, c1⟩
  have lt : (Int32.ofBitVec (BitVec.twoPow 32 i) < Int32.ofBitVec (BitVec.twoPow 32 j)) ↔ i < j := lt
  rw [la, lc]
  by_cases e : i < j
  · rw [if_pos (lt.mpr e), if_pos (by omega)]
    exact key j c1
  · rw [if_neg (fun w => e (lt.mp w))]
    by_cases e2 : i ≤ j
    · have : i = j := by omega
      rw [if_pos e2, this]
      exact key j c1
    · rw [if_neg e2]
      exact key i a1
theorem and_m2 (h : a &&& 1 = 0) : a &&& (-2) = a := by
  refine Int32.toBitVec_inj.mp (BitVec.eq_of_getLsbD_eq (fun j hj => ?_))
  rw [Int32.toBitVec_and, BitVec.getLsbD_and]
  have h0 : a.toBitVec.getLsbD 0 = false := by
    have e := congrArg Int32.toBitVec h
    rw [Int32.toBitVec_and] at e
    have e2 : (1 : Int32).toBitVec = 1#32 := rfl
    have e3 : (0 : Int32).toBitVec = 0#32 := rfl
    rw [e2, e3, BitVec.and_one_eq_setWidth_ofBool_getLsbD] at e
    cases hb : a.toBitVec.getLsbD 0 with
    | false => rfl
    | true => rw [hb] at e; exact absurd e (by decide)
  by_cases e : j = 0
  · rw [e, h0]; rfl
  · have m2 : ∀ k : Fin 32, k.val ≠ 0 → ((-2 : Int32).toBitVec).getLsbD k.val = true := by decide +kernel
    rw [m2 ⟨j, hj⟩ e, Bool.and_true]
theorem se_ao {p : Prop} [Decidable p] : seF a c = aoT 5 a c p := by
  unfold seF aoT
  rw [if_pos rfl]
  by_cases e : a &&& 1 = 0
  · rw [if_pos e, if_pos e, and_m2 e, Int32.or_zero]
  · rw [if_neg e, if_neg e]
theorem us2_b : (us2 a).toBitVec = a.toBitVec >>> 2 := rfl
theorem us1_b : (us1 a).toBitVec = a.toBitVec >>> 1 := rfl
theorem tr_ao {p : Prop} [Decidable p] (ha : cbI a) : trF a = aoT 9 c a p := by
  unfold trF aoT
  rw [if_neg (show ¬ (9 : Int32) = 5 by decide), if_neg (show ¬ (9 : Int32) = 6 by decide), if_neg (show ¬ (9 : Int32) = 8 by decide), if_pos rfl]
  have e2 : a >>> ((2 : Int32) &&& 31) = us2 a := Int32.toBitVec_inj.mp (by rw [us2_b]; exact shr_b (k := 2) (by decide) ha)
  have e1 : a >>> ((1 : Int32) &&& 31) = us1 a := Int32.toBitVec_inj.mp (by rw [us1_b]; exact shr_b (k := 1) (by decide) ha)
  rw [e2, e1]
theorem cb_se (ha : cbI a) (hc : cbI c) : cbI (seF a c) := by
  unfold seF
  refine cb_or (cb_and ha) ?_
  split
  · show (0 : Int32).toBitVec.toNat < 1048576; decide
  · exact hc
theorem cb_pj (ha : cbI a) (hc : cbI c) : cbI (pjF a c) := by
  rw [pj_ao ha hc]
  unfold aoT
  rw [if_neg (show ¬ (8 : Int32) = 5 by decide), if_neg (show ¬ (8 : Int32) = 6 by decide), if_pos rfl, if_neg (fun z => z)]
  split
  · show (0 : Int32).toBitVec.toNat < 1048576; decide
  · exact cb_and (cb_or ha hc)
theorem cb_shr (hk : k < 32) (h : cbI v) : cbI (v >>> (Int32.ofNat k &&& 31)) := by
  unfold cbI
  rw [shr_b hk h, BitVec.toNat_ushiftRight]
  exact Nat.lt_of_le_of_lt (Nat.shiftRight_le _ _) h
theorem cb_tr (ha : cbI a) : cbI (trF a) := by
  unfold trF
  exact cb_or (cb_or (cb_and ha) (cb_and (cb_shr (k := 2) (by decide) ha))) (cb_and (cb_shr (k := 1) (by decide) ha))
end
end
section
/-! the reference goes through its nodes: what it leaves in a subtree -/
/-- the class's tree: masks hm and codes by children, nodes 1 .. N -/
def ClE (W : Wo) (hm : Nat → Int32) (N : Nat) : Prop := ∀ x, 1 ≤ x → x < N → hm x = heG (heV (woV W x).1 (woV W x).2.2.1) ((woV W x).2.2.2.map hm) ∧ woC W x = aoG (woV W x).1 (leV (woV W x).1 (woV W x).2.2.1) ((woV W x).2.2.2.map (woC W)) ∧ ∀ c ∈ (woV W x).2.2.2, 1 ≤ c ∧ c < N
def Vok (W : Wo) (hm : Nat → Int32) (mk nu co : Nat → Int32) (km y x : Nat) : Prop := mk y = hm x ∧ co y = woC W x ∧ ((woV W x).1 = 1 ∨ (woV W x).1 = 3 → nu y = (woV W x).2.2.1) ∧ ((woV W x).1 = 3 → ∃ v, (woV W x).2.2.1 = Int32.ofNat (2 + v) ∧ 2 + v + 1 ≤ km) ∧ cbI (woC W x)
def ZipP (R : Nat → Nat → Prop) : List Nat → List Nat → Prop
  | d :: ds, c :: cs => R d c ∧ ZipP R ds cs
  | [], _ => True
  | _ :: _, [] => True
def VlN (W : Wo) (u : Vwr) (V : Nat → Nat → Prop) : Nat → Nat → Nat → Prop
  | 0, _, _ => False
  | g + 1, y, x => V y x ∧ (((woV W x).1 = 5 ∧ ∃ c, (woV W x).2.2.2 = [c] ∧ VlN W u V g y c) ∨ (¬ ((woV W x).1 = 5 ∧ (woV W x).2.2.2.length = 1) ∧ ZipP (VlN W u V g) (u y).2.2 (woV W x).2.2.2))
theorem zip_st {R R' : Nat → Nat → Prop} : ∀ (ds cs : List Nat), (∀ d c, d ∈ ds → R d c → R' d c) → ZipP R ds cs → ZipP R' ds cs
  | d :: ds, c :: cs, h, k => ⟨h d c List.mem_cons_self k.1, zip_st ds cs (fun d' c' hd => h d' c' (List.mem_cons_of_mem _ hd)) k.2⟩
  | [], _, _, _ => trivial
  | _ :: _, [], _, _ => trivial
theorem nodup_len : ∀ (N : Nat) (l : List Nat), l.Nodup → (∀ s ∈ l, s < N) → l.length ≤ N := by
  intro N
  induction N with
  | zero =>
    intro l _ h
    cases l with
    | nil => exact Nat.le_refl _
    | cons a r => exact absurd (h a List.mem_cons_self) (Nat.not_lt_zero _)
  | succ N ih =>
    intro l hn h
    have h1 := ih (l.erase N) (hn.erase N) (fun s hs => by
      have := h s (List.mem_of_mem_erase hs)
      have ne : s ≠ N := fun e => by
        rw [e] at hs
        exact hn.not_mem_erase hs
      omega)
    have := @List.length_erase _ _ _ N l
    split at this <;> omega
theorem nodup_iv {a n : Nat} {l : List Nat} (hn : l.Nodup) (h : ∀ s ∈ l, a ≤ s ∧ s < a + n) : l.length ≤ n := by
  have h1 := nodup_len n (l.map (fun s => s - a)) ?_ (fun s hs => ?_)
  · rw [List.length_map] at h1; exact h1
  · refine List.pairwise_map.mpr (List.Pairwise.imp_of_mem (fun {x y} hx hy hxy => ?_) hn)
    have := h x hx
    have := h y hy
    omega
  · obtain ⟨w, hw, rfl⟩ := List.mem_map.mp hs
    have := h w hw
    show w - a < n
    omega
section
variable {m : Nat} {A : Nat → Nat → Int32} {pn : Nat → Int32} {S0 : RBs} {G : Nat → List Nat} {W : Wo} {hm : Nat → Int32} {g y x : Nat} {V V' : Nat → Nat → Prop} {sl : List Nat}
theorem VlN.hd (h : VlN W (vwR S0 G) V g y x) : V y x := by
  cases g with
  | zero => exact h.elim
  | succ g => exact h.1
theorem VlN.st (hR : RgB m S0 G) : ∀ (g y x : Nat), 700 * m ≤ y ∧ y < 700 * m + S0.1 → (∀ z w, inS (prB m S0) z y → V z w → V' z w) → VlN W (vwR S0 G) V g y x → VlN W (vwR S0 G) V' g y x := by
  intro g
  induction g with
  | zero => intro y x _ _ h; exact h.elim
  | succ g ih =>
    intro y x hy hV h
    obtain ⟨h1, h2⟩ := h
    refine ⟨hV y x inS.rf h1, ?_⟩
    rcases h2 with ⟨a, c, b1, b2⟩ | ⟨a, b1⟩
    · exact Or.inl ⟨a, c, b1, ih y c hy hV b2⟩
    · refine Or.inr ⟨a, zip_st _ _ (fun d c hd k => ?_) b1⟩
      have hd : d ∈ G y := hd
      have pr := hR.pr hy hd
      exact ih d c pr.1 (fun z w hz k => hV z w (hz.up pr) k) k
theorem RgB.ch (hR : RgB m S0 G) {c : Nat} (hp : prB m S0 c y) : c ∈ G y := by
  obtain ⟨hc, h1, h2⟩ := hp
  have h4 := hR.1.1
  have h7 := hR.1.2
  rcases hR.2.2.2.1 c hc.1 hc.2 with w | ⟨x, w1, w2, w3⟩
  · exact absurd (w.symm.trans h2).symm (nm32 h1)
  · have : y = x := inj32 (by omega) (by omega) (h2.symm.trans w2)
    rw [this]; exact w3
theorem inS.ch (hR : RgB m S0 G) {z : Nat} (h : inS (prB m S0) z y) : z = y ∨ ∃ c, c ∈ G y ∧ inS (prB m S0) z c := by
  obtain ⟨k, h⟩ := h
  have gen : ∀ (k z : Nat), ancN (prB m S0) k z y → z = y ∨ ∃ c, prB m S0 c y ∧ inS (prB m S0) z c := by
    intro k
    induction k with
    | zero => intro z h; exact Or.inl h
    | succ k ih =>
      intro z h
      obtain ⟨x, h1, h2⟩ := h
      rcases ih x h2 with e | ⟨c, c1, c2⟩
      · exact Or.inr ⟨z, by rw [← e]; exact h1, inS.rf⟩
      · obtain ⟨k', c2⟩ := c2
        exact Or.inr ⟨c, c1, k' + 1, x, h1, c2⟩
  rcases gen k z h with e | ⟨c, c1, c2⟩
  · exact Or.inl e
  · exact Or.inr ⟨c, hR.ch c1, c2⟩
/-- what the walk of node y, which stands for x, has done -/
def PoW (W : Wo) (hm : Nat → Int32) (m : Nat) (S0 : RBs) (G : Nat → List Nat) (mk nu co : Nat → Int32) (sl : List Nat) (km : Nat) (mk' nu' co' : Nat → Int32) (sl' : List Nat) (km' g y x : Nat) : Prop := (∀ z, ¬ inS (prB m S0) z y → nu' z = nu z ∧ co' z = co z ∧ (¬ prB m S0 y z → mk' z = mk z)) ∧ (∀ u, prB m S0 y u → mk' u = mk u ||| hm x) ∧ VlN W (vwR S0 G) (Vok W hm mk' nu' co' km') g y x ∧ ((∃ t, sl' = sl ++ t ∧ ∀ s ∈ t, inS (prB m S0) (s / 2) y) ∧ sl'.Nodup ∧ (∀ s ∈ sl', 1400 * m ≤ s ∧ s < 1400 * m + 2 * S0.1) ∧ ∀ z, inS (prB m S0) z y → 2 * z ∈ sl' ∧ 2 * z + 1 ∈ sl') ∧ (km ≤ km' ∧ km' ≤ 20)
/-- what must hold of the steps before y is walked -/
def stI (m : Nat) (S0 : RBs) (sl : List Nat) (y : Nat) : Prop := sl.Nodup ∧ (∀ s ∈ sl, 1400 * m ≤ s ∧ s < 1400 * m + 2 * S0.1) ∧ ∀ s ∈ sl, ¬ inS (prB m S0) (s / 2) y
theorem stI.len (h : stI m S0 sl y) (hR : RgB m S0 G) (hy : 700 * m ≤ y ∧ y < 700 * m + S0.1) : sl.length < 1400 ∧ (sl ++ [2 * y]).length < 1400 ∧ (sl ++ [2 * y]).Nodup ∧ ∀ s ∈ sl ++ [2 * y], 1400 * m ≤ s ∧ s < 1400 * m + 2 * S0.1 := by
  obtain ⟨h1, h2, h3⟩ := h
  have h7 := hR.1.2
  have n1 : ∀ b, b < 2 → 2 * y + b ∉ sl := fun b hb hs => h3 _ hs (by rw [show (2 * y + b) / 2 = y by omega]; exact inS.rf)
  have nd1 : (sl ++ [2 * y]).Nodup := by
    rw [List.nodup_append]
    refine ⟨h1, by simp, fun a ha b hb => ?_⟩
    rw [List.mem_singleton] at hb
    intro e
    exact n1 0 (by decide) (by rw [← hb, ← e] at *; simpa using ha)
  have rg1 : ∀ s ∈ sl ++ [2 * y], 1400 * m ≤ s ∧ s < 1400 * m + 2 * S0.1 := fun s hs => by
    rcases List.mem_append.mp hs with w | w
    · exact h2 s w
    · rw [List.mem_singleton] at w
      omega
  have nd2 : (sl ++ [2 * y] ++ [2 * y + 1]).Nodup := by
    rw [List.nodup_append]
    refine ⟨nd1, by simp, fun a ha b hb => ?_⟩
    rw [List.mem_singleton] at hb
    intro e
    rcases List.mem_append.mp ha with w | w
    · exact n1 1 (by decide) (by rw [← hb, ← e]; exact w)
    · rw [List.mem_singleton] at w
      omega
  have l2 := nodup_iv (a := 1400 * m) (n := 2 * S0.1) nd2 (fun s hs => by
    rcases List.mem_append.mp hs with w | w
    · exact rg1 s w
    · rw [List.mem_singleton] at w
      omega)
  rw [List.length_append, List.length_append] at l2
  have l2 : sl.length + 1 + 1 ≤ 2 * S0.1 := l2
  refine ⟨by omega, ?_, nd1, rg1⟩
  rw [List.length_append]
  show sl.length + 1 < 1400
  omega
end
end
section
/-! the reference goes through its nodes: the end of a node, its children -/
section
variable {m : Nat} {A : Nat → Nat → Int32} {pn : Nat → Int32} {S0 : RBs} {G : Nat → List Nat} {W : Wo} {hm : Nat → Int32} {N zn fn g y x p p' : Nat} {mk nu co mk1 nu1 co1 : Nat → Int32} {sl sl1 : List Nat} {km km1 : Nat} {M M1 : Mem} {h : Nat} {Q : Option Value → Mem → Prop} {x1 : Int32} {ρ : Nat → Nat} {cx : List (Option Nat)}
theorem upM_eq {u : Nat} (hp : prB m S0 y u) : upM m S0 mk y u = mk u ||| mk y := by
  obtain ⟨-, h1, h2⟩ := hp
  unfold upM
  rw [if_neg (by rw [h2]; exact nm32 h1), h2, lt32 (by omega), va_up_self]
theorem upM_ne {z : Nat} (hR : RgB m S0 G) (hy : 700 * m ≤ y ∧ y < 700 * m + S0.1) (hp : ¬ prB m S0 y z) : upM m S0 mk y z = mk z := by
  have h4 := hR.1.1
  have h7 := hR.1.2
  unfold upM
  rcases hR.2.2.2.1 y hy.1 hy.2 with w | ⟨u, w1, w2, -⟩
  · rw [if_pos w]
  · rw [if_neg (by rw [w2]; exact nm32 (by omega)), w2, lt32 (by omega), va_up_ne _ _ (fun e => hp ⟨hy, by omega, by rw [e]; exact w2⟩)]
theorem w_fin (hR : RgB m S0 G) (hr : ∀ z x, prB m S0 z x → ρ z < ρ x) (hG : GW m A pn S0 mk1 nu1 co1 sl1 km1 M1) (hy : 700 * m ≤ y ∧ y < 700 * m + S0.1) (hl : S0.2 80 y = 4 ∨ S0.2 80 y = 5 ∨ S0.2 80 y = 6 ∨ S0.2 80 y = 7 ∨ S0.2 80 y = 8 ∨ S0.2 80 y = 9 ∨ S0.2 80 y = 10 → G y ≠ []) (a : ∀ z, ¬ inS (prB m S0) z y → nu1 z = nu z ∧ co1 z = co z ∧ mk1 z = mk z) (b : mk1 y = hm x) (c : ¬ ((woV W x).1 = 5 ∧ (woV W x).2.2.2.length = 1) ∧ ZipP (VlN W (vwR S0 G) (Vok W hm mk1 nu1 co1 km1) g) (G y) (woV W x).2.2.2) (d : (woV W x).1 = 1 ∨ (woV W x).1 = 3 → nu1 y = (woV W x).2.2.1) (d3 : (woV W x).1 = 3 → ∃ v, (woV W x).2.2.1 = Int32.ofNat (2 + v) ∧ 2 + v + 1 ≤ km1) (e : rcS (S0.2 80 y) (nu1 y) ((G y).map co1) = woC W x) (e2 : cbI (woC W x)) (f : ∃ t, sl1 = sl ++ t ∧ ∀ s ∈ t, inS (prB m S0) (s / 2) y) (f2 : sl1.Nodup) (f3 : ∀ s ∈ sl1, 1400 * m ≤ s ∧ s < 1400 * m + 2 * S0.1) (f4 : 2 * y ∈ sl1) (f5 : 2 * y + 1 ∉ sl1) (f6 : ∀ c ∈ G y, ∀ z, inS (prB m S0) z c → 2 * z ∈ sl1 ∧ 2 * z + 1 ∈ sl1) (k : km ≤ km1 ∧ km1 ≤ 20) (K : ∀ mk' nu' co' sl' km' M', PoW W hm m S0 G mk nu co sl km mk' nu' co' sl' km' (g + 1) y x → GW m A pn S0 mk' nu' co' sl' km' M' → RGb m M1 M' → aftT h S0 y x1 M' Q) : DX11_goThrough_172 (h + 3) 29 x1 (Int32.ofNat y) M1 Q := by
  have h7 := hR.1.2
  have irr : ¬ prB m S0 y y := fun w => Nat.lt_irrefl _ (hr y y w)
  have nd : (sl1 ++ [2 * y + 1]).Nodup := by
    rw [List.nodup_append]
    refine ⟨f2, by simp, fun a ha b hb => ?_⟩
    rw [List.mem_singleton] at hb
    intro w
    exact f5 (by rw [← hb, ← w]; exact ha)
  have rg : ∀ s ∈ sl1 ++ [2 * y + 1], 1400 * m ≤ s ∧ s < 1400 * m + 2 * S0.1 := fun s hs => by
    rcases List.mem_append.mp hs with w | w
    · exact f3 s w
    · rw [List.mem_singleton] at w
      omega
  have len := nodup_iv nd rg
  rw [List.length_append] at len
  have len : sl1.length + 1 ≤ 2 * S0.1 := len
  refine L_leave hG hR hy hl (by omega) (fun M' g' r' => ?_)
  rw [e] at g'
  refine K _ _ _ _ _ M' ⟨fun z hz => ?_, fun u hu => ?_, ⟨⟨?_, va_up_self _ _ _, d, d3, e2⟩, Or.inr ⟨c.1, zip_st _ _ (fun q w hq kq => ?_) c.2⟩⟩, ⟨?_, nd, rg, fun z hz => ?_⟩, k⟩ g' r'
  · obtain ⟨a1, a2, a3⟩ := a z hz
    refine ⟨a1, ?_, fun hp => (upM_ne hR hy hp).trans a3⟩
    rw [va_up_ne _ _ (fun w => hz (by rw [w]; exact inS.rf))]
    exact a2
  · rw [upM_eq hu, b, (a u (sub_no hr hu)).2.2]
  · rw [upM_ne hR hy irr]; exact b
  · have hq : q ∈ G y := hq
    have pr := hR.pr hy hq
    refine VlN.st hR g q w pr.1 (fun z v hz kv => ?_) kq
    obtain ⟨v1, v2, v3, v4, v5⟩ := kv
    have zy : z ≠ y := fun w => sub_no hr pr (by rw [w] at hz; exact hz)
    refine ⟨?_, ?_, v3, v4, v5⟩
    · rw [upM_ne hR hy (fun hp => ?_)]
      · exact v1
      · obtain ⟨kz, hz⟩ := hz
        have r1 := anc_rho hr kz z q hz
        have r2 := hr q y pr
        have r3 := hr y z hp
        omega
    · rw [va_up_ne _ _ zy]; exact v2
  · obtain ⟨t, t1, t2⟩ := f
    refine ⟨t ++ [2 * y + 1], by rw [t1, List.append_assoc], fun s hs => ?_⟩
    rcases List.mem_append.mp hs with w | w
    · exact t2 s w
    · rw [List.mem_singleton] at w
      rw [w, show (2 * y + 1) / 2 = y by omega]
      exact inS.rf
  · rcases hz.ch hR with w | ⟨q, q1, q2⟩
    · rw [w]
      exact ⟨List.mem_append_left _ f4, List.mem_append_right _ (List.mem_singleton.mpr rfl)⟩
    · obtain ⟨s1, s2⟩ := f6 q q1 z q2
      exact ⟨List.mem_append_left _ s1, List.mem_append_left _ s2⟩
/-- the walk, at fuel g -/
def GoH (W : Wo) (hm : Nat → Int32) (m N zn fn : Nat) (A : Nat → Nat → Int32) (pn : Nat → Int32) (S0 : RBs) (G : Nat → List Nat) (h : Nat) (Q : Option Value → Mem → Prop) (g : Nat) : Prop := ∀ (cx : List (Option Nat)) (y x p p' : Nat) (mk nu co : Nat → Int32) (sl : List Nat) (km : Nat) (M : Mem), RpN W m zn fn (vwR S0 G) (700 * m + S0.1) g cx y x p p' → 1 ≤ x ∧ x < N → GW m A pn S0 mk nu co sl km M → (cx = [] ∨ ∃ k u, prB m S0 y u ∧ TrC m S0 pn k u cx) → stI m S0 sl y → (∀ z, inS (prB m S0) z y → mk z = 0) → km ≤ 20 → (∀ mk' nu' co' sl' km' M', PoW W hm m S0 G mk nu co sl km mk' nu' co' sl' km' g y x → GW m A pn S0 mk' nu' co' sl' km' M' → RGb m M M' → aftT h S0 y (Int32.ofNat p') M' Q) → goT h (Int32.ofNat p) (Int32.ofNat y) 1 M Q
def kidT (h y : Nat) (ds : List Nat) (x1 : Int32) (M : Mem) (Q : Option Value → Mem → Prop) : Prop := match ds with
  | [] => goT h x1 (Int32.ofNat y) 0 M Q
  | d :: _ => goT h x1 (Int32.ofNat d) 1 M Q
/-- what the walk of children ds, which stand for cs, has done -/
def KdP (W : Wo) (hm : Nat → Int32) (m : Nat) (S0 : RBs) (G : Nat → List Nat) (y : Nat) (mk nu co : Nat → Int32) (sl : List Nat) (km : Nat) (mk' nu' co' : Nat → Int32) (sl' : List Nat) (km' g : Nat) (ds cs : List Nat) : Prop := (∀ z, (∀ d ∈ ds, ¬ inS (prB m S0) z d) → nu' z = nu z ∧ co' z = co z ∧ (z ≠ y → mk' z = mk z)) ∧ mk' y = (cs.map hm).foldl (fun a c => a ||| c) (mk y) ∧ ZipP (VlN W (vwR S0 G) (Vok W hm mk' nu' co' km') g) ds cs ∧ ds.map co' = cs.map (woC W) ∧ (∀ c ∈ cs, cbI (woC W c)) ∧ ((∃ t, sl' = sl ++ t ∧ ∀ s ∈ t, ∃ d, d ∈ ds ∧ inS (prB m S0) (s / 2) d) ∧ sl'.Nodup ∧ (∀ s ∈ sl', 1400 * m ≤ s ∧ s < 1400 * m + 2 * S0.1) ∧ ∀ d ∈ ds, ∀ z, inS (prB m S0) z d → 2 * z ∈ sl' ∧ 2 * z + 1 ∈ sl') ∧ (km ≤ km' ∧ km' ≤ 20)
theorem kids (hR : RgB m S0 G) (hr : ∀ z x, prB m S0 z x → ρ z < ρ x) (ih : GoH W hm m N zn fn A pn S0 G h Q g) (hy : 700 * m ≤ y ∧ y < 700 * m + S0.1) (htr : cx = [] ∨ ∃ k, TrC m S0 pn k y cx) : ∀ (ds cs : List Nat) (p p' : Nat) (mk nu co : Nat → Int32) (sl : List Nat) (km : Nat) (M : Mem), RpLs (RpN W m zn fn (vwR S0 G) (700 * m + S0.1) g cx) ds cs p p' → (∀ d ∈ ds, d ∈ G y) → ds.Nodup → (match ds with | [] => True | d :: r => NxC S0.2 d r) → (∀ c ∈ cs, 1 ≤ c ∧ c < N) → GW m A pn S0 mk nu co sl km M → sl.Nodup → (∀ s ∈ sl, 1400 * m ≤ s ∧ s < 1400 * m + 2 * S0.1) → (∀ d ∈ ds, ∀ s ∈ sl, ¬ inS (prB m S0) (s / 2) d) → (∀ d ∈ ds, ∀ z, inS (prB m S0) z d → mk z = 0) → km ≤ 20 → (∀ mk' nu' co' sl' km' M', KdP W hm m S0 G y mk nu co sl km mk' nu' co' sl' km' g ds cs → GW m A pn S0 mk' nu' co' sl' km' M' → RGb m M M' → goT h (Int32.ofNat p') (Int32.ofNat y) 0 M' Q) → kidT h y ds (Int32.ofNat p) M Q := by
  have hf : ∀ z x x', prB m S0 z x → prB m S0 z x' → x = x' := fun z x x' a b => prB_f a b
  intro ds
  induction ds with
  | nil =>
    intro cs p p' mk nu co sl km M hp _ _ _ _ hG s1 s2 _ _ hk K
    cases cs with
    | cons _ _ => exact hp.elim
    | nil =>
      have hp : p' = p := hp
      subst hp
      exact K mk nu co sl km M ⟨fun z _ => ⟨rfl, rfl, fun _ => rfl⟩, rfl, trivial, rfl, fun c hc => absurd hc (List.not_mem_nil), ⟨⟨[], (List.append_nil _).symm, fun s hs => absurd hs (List.not_mem_nil)⟩, s1, s2, fun d hd => absurd hd (List.not_mem_nil)⟩, Nat.le_refl _, hk⟩ hG RG.rf
  | cons d r ihr =>
    intro cs p p' mk nu co sl km M hp hds hnd hnx hcs hG s1 s2 s3 hz hk K
    cases cs with
    | nil => exact hp.elim
    | cons c cs =>
      obtain ⟨pm, hp1, hp2⟩ := hp
      have hd := hds d List.mem_cons_self
      have pr := hR.pr hy hd
      have nd := List.nodup_cons.mp hnd
      show goT h (Int32.ofNat p) (Int32.ofNat d) 1 M Q
      refine ih cx d c p pm mk nu co sl km M hp1 (hcs c List.mem_cons_self) hG ?_ ⟨s1, s2, s3 d List.mem_cons_self⟩ (hz d List.mem_cons_self) hk (fun mk1 nu1 co1 sl1 km1 M1 po g1 r1 => ?_)
      · rcases htr with w | ⟨k, w⟩
        · exact Or.inl w
        · exact Or.inr ⟨k, y, pr, w⟩
      obtain ⟨q1, q2, q3, ⟨⟨t, t1, t2⟩, q5, q6, q7⟩, q8⟩ := po
      have pz : ∀ z, prB m S0 d z → z = y := fun z hz => hf d z y hz pr
      -- nothing of a sibling or of y lies within d
      have dj : ∀ e, e ∈ r → ∀ z, inS (prB m S0) z e → ¬ inS (prB m S0) z d := fun e he z hz1 hz2 => sub_dj hf hr pr (hR.pr hy (hds e (List.mem_cons_of_mem _ he))) (fun w => nd.1 (by rw [w]; exact he)) hz2 hz1
      have ye : ∀ e, e ∈ r → ∀ z, inS (prB m S0) z e → z ≠ y := fun e he z hz1 w => sub_no hr (hR.pr hy (hds e (List.mem_cons_of_mem _ he))) (by rw [w] at hz1; exact hz1)
      have yd : ¬ inS (prB m S0) y d := sub_no hr pr
      have nxt : kidT h y r (Int32.ofNat pm) M1 Q := by
        refine ihr cs pm p' mk1 nu1 co1 sl1 km1 M1 hp2 (fun e he => hds e (List.mem_cons_of_mem _ he)) nd.2 ?_ (fun e he => hcs e (List.mem_cons_of_mem _ he)) g1 q5 q6 (fun e he s hs => ?_) (fun e he z hz1 => ?_) q8.2 (fun mk2 nu2 co2 sl2 km2 M2 kp g2 r2 => K mk2 nu2 co2 sl2 km2 M2 ?_ g2 (r1.tr r2))
        · cases r with
          | nil => trivial
          | cons e r => exact hnx.2
        · rw [t1] at hs
          rcases List.mem_append.mp hs with w | w
          · exact s3 e (List.mem_cons_of_mem _ he) s w
          · exact fun hz1 => dj e he _ hz1 (t2 s w)
        · rw [(q1 z (dj e he z hz1)).2.2 (fun hp => ye e he z hz1 (pz z hp))]
          exact hz e (List.mem_cons_of_mem _ he) z hz1
        · obtain ⟨k1, k2, k3, k4, k5, ⟨⟨t', u1, u2⟩, k7, k8, k9⟩, k10⟩ := kp
          have nr : ∀ z, inS (prB m S0) z d → ∀ e ∈ r, ¬ inS (prB m S0) z e := fun z hz1 e he hz2 => dj e he z hz2 hz1
          have dv := q3.hd
          refine ⟨fun z hz1 => ?_, ?_, ⟨?_, k3⟩, ?_, fun e he => ?_, ⟨⟨t ++ t', by rw [u1, t1, List.append_assoc], fun s hs => ?_⟩, k7, k8, fun e he z hz1 => ?_⟩, by omega⟩
          · obtain ⟨a1, a2, a3⟩ := k1 z (fun e he => hz1 e (List.mem_cons_of_mem _ he))
            obtain ⟨b1, b2, b3⟩ := q1 z (hz1 d List.mem_cons_self)
            exact ⟨a1.trans b1, a2.trans b2, fun zy => (a3 zy).trans (b3 (fun hp => zy (pz z hp)))⟩
          · rw [k2, q2 y pr]
            rfl
          · refine VlN.st hR g d c pr.1 (fun z w hz1 kv => ?_) q3
            obtain ⟨v1, v2, v3, v4, v5⟩ := kv
            obtain ⟨a1, a2, a3⟩ := k1 z (nr z hz1)
            have zy : z ≠ y := fun w => yd (by rw [w] at hz1; exact hz1)
            refine ⟨(a3 zy).trans v1, a2.trans v2, fun w => a1.trans (v3 w), fun w => ?_, v5⟩
            obtain ⟨v, w1, w2⟩ := v4 w
            exact ⟨v, w1, by omega⟩
          · have e1 : co2 d = woC W c := ((k1 d (nr d inS.rf)).2.1).trans dv.2.1
            rw [List.map_cons, List.map_cons, e1, k4]
          · rcases List.mem_cons.mp he with w | w
            · rw [w]; exact dv.2.2.2.2
            · exact k5 e w
          · rcases List.mem_append.mp hs with w | w
            · exact ⟨d, List.mem_cons_self, t2 s w⟩
            · obtain ⟨e, e1, e2⟩ := u2 s w
              exact ⟨e, List.mem_cons_of_mem _ e1, e2⟩
          · rcases List.mem_cons.mp he with w | w
            · rw [w] at hz1
              obtain ⟨a1, a2⟩ := q7 z hz1
              rw [u1]
              exact ⟨List.mem_append_left _ a1, List.mem_append_left _ a2⟩
            · exact k9 e w z hz1
      unfold aftT
      cases r with
      | nil =>
        have hnx : S0.2 84 d = -1 := hnx
        rw [if_pos hnx, if_pos hnx, pr.2.2]
        exact nxt
      | cons e r =>
        have hnx : S0.2 84 d = Int32.ofNat e ∧ NxC S0.2 e r := hnx
        have he := (hR.pr hy (hds e (by simp))).1
        have h4 := hR.1.1
        have h7 := hR.1.2
        have ne : S0.2 84 d ≠ -1 := by rw [hnx.1]; exact nm32 (by omega)
        rw [if_neg ne, if_neg ne, hnx.1]
        exact nxt
end
end
section
/-! the reference goes through its nodes: by kinds -/
theorem cb1 : ∀ k : Fin 20, cbI ((1 : Int32) <<< (Int32.ofNat k.val &&& 31)) := by
  intro k
  have h : ∀ k : Fin 20, ((1 : Int32) <<< (Int32.ofNat k.val &&& 31)).toBitVec.toNat < 1048576 := by decide +kernel
  exact h k
theorem pj_fold : ∀ (r : List Int32) (a : Int32), cbI a → (∀ c ∈ r, cbI c) → r.foldl pjF a = r.foldl (fun h c => aoT 8 h c False) a ∧ cbI (r.foldl pjF a)
  | [], a, h, _ => ⟨rfl, h⟩
  | c :: r, a, h, hr => by
    have hc := hr c List.mem_cons_self
    obtain ⟨q1, q2⟩ := pj_fold r (pjF a c) (cb_pj h hc) (fun z hz => hr z (List.mem_cons_of_mem _ hz))
    refine ⟨?_, q2⟩
    show r.foldl pjF (pjF a c) = r.foldl (fun h c => aoT 8 h c False) (aoT 8 a c False)
    rw [q1, pj_ao h hc]
theorem se_fold : ∀ (r : List Int32) (a : Int32), cbI a → (∀ c ∈ r, cbI c) → r.foldl seF a = r.foldl (fun h c => aoT 5 h c False) a ∧ cbI (r.foldl seF a)
  | [], a, h, _ => ⟨rfl, h⟩
  | c :: r, a, h, hr => by
    have hc := hr c List.mem_cons_self
    obtain ⟨q1, q2⟩ := se_fold r (seF a c) (cb_se h hc) (fun z hz => hr z (List.mem_cons_of_mem _ hz))
    refine ⟨?_, q2⟩
    show r.foldl seF (seF a c) = r.foldl (fun h c => aoT 5 h c False) (aoT 5 a c False)
    rw [q1, se_ao (p := False)]
section
variable {m : Nat} {A : Nat → Nat → Int32} {pn : Nat → Int32} {S0 : RBs} {G : Nat → List Nat} {W : Wo} {hm : Nat → Int32} {N zn fn g y x p p' : Nat} {mk nu co : Nat → Int32} {sl : List Nat} {km : Nat} {M : Mem} {h : Nat} {Q : Option Value → Mem → Prop} {ρ : Nat → Nat} {cx : List (Option Nat)}
theorem TrC_e : ∀ (k n : Nat) (cx : List (Option Nat)) (v e : Nat), TrC m S0 pn k n cx → cx[v]? = some (some e) → e < 160 := by
  intro k
  induction k with
  | zero => intro n cx v e h; exact h.elim
  | succ k ih =>
    intro n cx v e h hv
    obtain ⟨hn, h⟩ := h
    by_cases h10 : S0.2 80 n = 10
    · rw [if_pos h10] at h
      obtain ⟨t, cx', e1, e2, e3⟩ := h
      subst e1
      cases v with
      | zero =>
        have hv : some t = some (some e) := hv
        cases hv
        rcases e2 with ⟨z, -⟩ | ⟨e', z0, z, -⟩
        · cases z
        · cases z; exact z0
      | succ v =>
        have hv : cx'[v]? = some (some e) := hv
        rcases e3 with z | ⟨x, z1, z2⟩
        · rw [z] at hv; cases hv
        · exact ih x cx' v e z2 hv
    · rw [if_neg h10] at h
      rcases h with z | ⟨x, z1, z2⟩
      · rw [z] at hv; cases hv
      · exact ih x cx v e z2 hv
/-- a node without children, behind the looks at pause and exit -/
theorem w_leaf {mk1 nu1 : Nat → Int32} {km1 : Nat} {M1 : Mem} {x1 : Int32} (hR : RgB m S0 G) (hr : ∀ z x, prB m S0 z x → ρ z < ρ x) (hy : 700 * m ≤ y ∧ y < 700 * m + S0.1) (hg : G y = []) (hl : ¬ (S0.2 80 y = 4 ∨ S0.2 80 y = 5 ∨ S0.2 80 y = 6 ∨ S0.2 80 y = 7 ∨ S0.2 80 y = 8 ∨ S0.2 80 y = 9 ∨ S0.2 80 y = 10)) (hs : stI m S0 sl y) (hG : GW m A pn S0 mk1 nu1 co (sl ++ [2 * y]) km1 M1) (a : ∀ z, z ≠ y → nu1 z = nu z ∧ mk1 z = mk z) (b : mk1 y = hm x) (c : (woV W x).2.2.2 = []) (d : (woV W x).1 = 1 ∨ (woV W x).1 = 3 → nu1 y = (woV W x).2.2.1) (d3 : (woV W x).1 = 3 → ∃ v, (woV W x).2.2.1 = Int32.ofNat (2 + v) ∧ 2 + v + 1 ≤ km1) (e : rcS (S0.2 80 y) (nu1 y) [] = woC W x) (e2 : cbI (woC W x)) (k : km ≤ km1 ∧ km1 ≤ 20) (K : ∀ mk' nu' co' sl' km' M', PoW W hm m S0 G mk nu co sl km mk' nu' co' sl' km' (g + 1) y x → GW m A pn S0 mk' nu' co' sl' km' M' → RGb m M1 M' → aftT h S0 y x1 M' Q) : DX11_goThrough_148 (h + 3) 29 x1 (Int32.ofNat y) 1 M1 Q := by
  obtain ⟨-, -, n1, n2⟩ := hs.len hR hy
  refine L_148 hG hR hy (fun _ => ?_) (fun c r e => by rw [hg] at e; cases e)
  refine w_fin hR hr hG hy (fun z => absurd z hl) (fun z hz => ?_) b ⟨fun z => by rw [c] at z; exact absurd z.2 (by decide), ?_⟩ d d3 (by rw [hg]; exact e) e2 ⟨[2 * y], rfl, fun s w => ?_⟩ n1 n2 (List.mem_append_right _ (List.mem_singleton.mpr rfl)) (fun w => ?_) (fun q hq => by rw [hg] at hq; exact absurd hq (List.not_mem_nil)) k K
  · have zy : z ≠ y := fun w => hz (by rw [w]; exact inS.rf)
    exact ⟨(a z zy).1, rfl, (a z zy).2⟩
  · rw [hg]; trivial
  · rw [List.mem_singleton] at w
    rw [w, show 2 * y / 2 = y by omega]
    exact inS.rf
  · rcases List.mem_append.mp w with w | w
    · exact hs.2.2 _ w (by rw [show (2 * y + 1) / 2 = y by omega]; exact inS.rf)
    · rw [List.mem_singleton] at w
      omega
/-- a node with children -/
theorem w_node {cs : List Nat} {cx' : List (Option Nat)} {d : Nat} {r : List Nat} (hR : RgB m S0 G) (hr : ∀ z x, prB m S0 z x → ρ z < ρ x) (ih : GoH W hm m N zn fn A pn S0 G h Q g) (hy : 700 * m ≤ y ∧ y < 700 * m + S0.1) (h2 : S0.2 80 y ≠ 2) (h3 : S0.2 80 y ≠ 3) (hg : G y = d :: r) (hp : RpLs (RpN W m zn fn (vwR S0 G) (700 * m + S0.1) g cx') (G y) cs p p') (htr : cx' = [] ∨ ∃ k, TrC m S0 pn k y cx') (hcs : ∀ c ∈ cs, 1 ≤ c ∧ c < N) (hx1 : ¬ ((woV W x).1 = 5 ∧ (woV W x).2.2.2.length = 1)) (hx2 : (woV W x).1 ≠ 1 ∧ (woV W x).1 ≠ 3) (hz : ∀ R : Nat → Nat → Prop, ZipP R (G y) cs → ZipP R (G y) (woV W x).2.2.2) (hmx : hm x = (cs.map hm).foldl (fun a c => a ||| c) 0) (hco : ∀ w : Int32, (∀ c ∈ cs, cbI (woC W c)) → rcS (S0.2 80 y) w (cs.map (woC W)) = woC W x ∧ cbI (woC W x)) (hG : GW m A pn S0 mk nu co sl km M) (hs : stI m S0 sl y) (hm0 : ∀ z, inS (prB m S0) z y → mk z = 0) (hk : km ≤ 20) (K : ∀ mk' nu' co' sl' km' M', PoW W hm m S0 G mk nu co sl km mk' nu' co' sl' km' (g + 1) y x → GW m A pn S0 mk' nu' co' sl' km' M' → RGb m M M' → aftT h S0 y (Int32.ofNat p') M' Q) : goT h (Int32.ofNat p) (Int32.ofNat y) 1 M Q := by
  have h4 := hR.1.1
  have h7 := hR.1.2
  obtain ⟨l1, l2, n1, n2⟩ := hs.len hR hy
  obtain ⟨lk, nd, ch⟩ := hR.2.1 y hy.1 hy.2
  refine L_ent hG hR hy l1 (fun _ M1 g1 r1 => L_78n g1 hR hy h3 (L_148 g1 hR hy (fun e => by rw [hg] at e; cases e) (fun c t e => ?_))) (fun w => absurd w h2)
  have up : ∀ q, q ∈ G y → ∀ z, inS (prB m S0) z q → inS (prB m S0) z y := fun q hq z hz => hz.up (hR.pr hy hq)
  have kt : kidT h y (G y) (Int32.ofNat p) M1 Q := by
    refine kids hR hr ih hy htr (G y) cs p p' mk nu co (sl ++ [2 * y]) km M1 hp (fun _ hq => hq) nd ?_ hcs g1 n1 n2 (fun q hq s hs1 => ?_) (fun q hq z hz1 => hm0 z (up q hq z hz1)) hk (fun mk' nu' co' sl' km' M2 kp g2 r2 => ?_)
    · rw [hg] at lk ⊢
      exact lk.nx
    · rcases List.mem_append.mp hs1 with w | w
      · exact fun hz1 => hs.2.2 s w (up q hq _ hz1)
      · rw [List.mem_singleton] at w
        rw [w, show 2 * y / 2 = y by omega]
        exact sub_no hr (hR.pr hy hq)
    · obtain ⟨k1, k2, k3, k4, k5, ⟨⟨t', u1, u2⟩, k7, k8, k9⟩, k10⟩ := kp
      obtain ⟨c1, c2⟩ := hco (nu' y) k5
      refine L_back g2 (by omega) (w_fin (km := km) (nu := nu) (co := co) (mk := mk) (sl := sl) hR hr g2 hy (fun _ w => by rw [hg] at w; cases w) (fun z hz1 => ?_) ?_ ⟨hx1, hz _ k3⟩ (fun w => ?_) (fun w => absurd w hx2.2) (by rw [k4]; exact c1) c2 ⟨[2 * y] ++ t', by rw [u1, List.append_assoc], fun s hs1 => ?_⟩ k7 k8 (by rw [u1]; exact List.mem_append_left _ (List.mem_append_right _ (List.mem_singleton.mpr rfl))) (fun w => ?_) k9 k10 (fun mk3 nu3 co3 sl3 km3 M3 po g3 r3 => K mk3 nu3 co3 sl3 km3 M3 po g3 ((r1.tr r2).tr r3)))
      · obtain ⟨a1, a2, a3⟩ := k1 z (fun q hq w => hz1 (up q hq z w))
        exact ⟨a1, a2, a3 (fun w => hz1 (by rw [w]; exact inS.rf))⟩
      · rw [k2, hm0 y inS.rf, hmx]
      · rcases w with w | w
        · exact absurd w hx2.1
        · exact absurd w hx2.2
      · rcases List.mem_append.mp hs1 with w | w
        · rw [List.mem_singleton] at w
          rw [w, show 2 * y / 2 = y by omega]
          exact inS.rf
        · obtain ⟨q, q1, q2⟩ := u2 s w
          exact up q q1 _ q2
      · rw [u1] at w
        rcases List.mem_append.mp w with w | w
        · rcases List.mem_append.mp w with w | w
          · exact hs.2.2 _ w (by rw [show (2 * y + 1) / 2 = y by omega]; exact inS.rf)
          · rw [List.mem_singleton] at w
            omega
        · obtain ⟨q, q1, q2⟩ := u2 _ w
          rw [show (2 * y + 1) / 2 = y by omega] at q2
          exact sub_no hr (hR.pr hy q1) q2
  rw [e] at kt
  exact kt
end
end
