/-! the reference builds all parts: by the tree of the reading -/
def csT (j j' r r' p p' : Nat) : Nat := 2 * (j' - j) + 11 * (p' - p) + (r' - r)
/-- a row that is ready, whatever becomes of other parts' nodes -/
def RowL (W : Wo) (m zn fn lo hw : Nat) (A : Nat → Nat → Int32) (pn : Nat → Int32) (S : RBs) (G : Nat → List Nat) (s0 r : Nat) (cx : List (Option Nat)) (y p p' : Nat) (ds : List Nat) (j j' : Nat) : Prop := ∀ pn1 : Nat → Int32, (∀ P, 40 * m + j ≤ P → P < 40 * m + j' → pn1 P = pn P) → RowR W m zn fn lo hw A pn1 S G s0 r cx y p p' ds
def RqLL (W : Wo) (m zn fn lo hw : Nat) (A : Nat → Nat → Int32) (pn : Nat → Int32) (u0 : Vwr) (hi0 s0 : Nat) (cx : List (Option Nat)) (T1 : List (Nat × Nat)) (p p' : Nat) (dd : List Nat) (j j' : Nat) : Prop := ∀ pn1 : Nat → Int32, (∀ P, 40 * m + j ≤ P → P < 40 * m + j' → pn1 P = pn P) → RqL W m zn fn lo hw A pn1 u0 hi0 s0 cx T1 p p' dd
section
variable {m : Nat} {A : Nat → Nat → Int32} {pn pn1 pn2 : Nat → Int32} {S S1 S2 : RBs} {G G1 G2 : Nat → List Nat} {M M1 M2 : Mem} {h : Nat} {Q : Option Value → Mem → Prop} {W : Wo} {zn fn lo hw p p' pb pm pr x y j j' jm g d e q q1 q2 s0 s1 r nc nc1 nc2 : Nat} {cx : List (Option Nat)} {H : Nat → Prop} {k x1 : Int32} {K : List KE} {ds ys dd : List Nat} {L T1 : List (Nat × Nat)}
theorem RowQ.st {u0 u1 : Vwr} {hi0 hi1 : Nat} (hq : RowQ W m zn fn lo hw A pn u0 hi0 s1 r cx y p p' ds) (hu : ∀ z, 700 * m ≤ z → z < hi0 → u1 z = u0 z) (hh : hi0 ≤ hi1) (hs : s0 ≤ s1) : RowQ W m zn fn lo hw A pn u1 hi1 s0 r cx y p p' ds := by
  obtain ⟨a, t, xs, g, w1, w2, w3, w4, w5, w6, w7⟩ := hq
  refine ⟨a, t, xs, g, w1, w2, w3, fun d hd => ?_, w5, w6, RpLs.imp (fun _ _ _ _ k => RpN.st hu hh _ _ _ _ _ _ _ (Nat.le_refl _) k) _ _ _ _ w7⟩
  have := w4 d hd
  exact ⟨⟨this.1.1, by omega⟩, by omega⟩
theorem RqL.st {u0 u1 : Vwr} {hi0 hi1 : Nat} (hu : ∀ z, 700 * m ≤ z → z < hi0 → u1 z = u0 z) (hh : hi0 ≤ hi1) (hs : s0 ≤ s1) : ∀ (T1 : List (Nat × Nat)) (p p' : Nat) (dd : List Nat), RqL W m zn fn lo hw A pn u0 hi0 s1 cx T1 p p' dd → RqL W m zn fn lo hw A pn u1 hi1 s0 cx T1 p p' dd
  | [], _, _, _, h => h
  | (r, y) :: T1, p, p', dd, h => by
    obtain ⟨pm, ds, d2, h1, h2, h3, h4, h5, h6⟩ := h
    exact ⟨pm, ds, d2, h1, h2.st hu hh hs, h3, h4, h5, RqL.st hu hh hs T1 pm p' d2 h6⟩
theorem RowL.st (hw1 : RowL W m zn fn lo hw A pn S G s1 r cx y p p' ds j j') (f : FrB m S G S1 G1 noN) (hpn : ∀ P, 40 * m + j ≤ P → P < 40 * m + j' → pn1 P = pn P) (hs : s0 ≤ s1) : RowL W m zn fn lo hw A pn1 S1 G1 s0 r cx y p p' ds j j' := fun pn2 h2 => ((hw1 pn2 (fun P q1 q2 => (h2 P q1 q2).trans (hpn P q1 q2))).st f (fun _ _ z => z)).less hs
theorem BuO.mo (h : BuO m A M S G pn M1 S1 G1 pn1 j j' q1 nc1) (hq : q1 ≤ q2 ∧ nc1 ≤ nc2) : BuO m A M S G pn M1 S1 G1 pn1 j j' q2 nc2 := ⟨h.1, h.2.1, h.2.2.1, h.2.2.2.1, ⟨by have := h.2.2.2.2.1.1; omega, by have := h.2.2.2.2.1.2.1; omega, h.2.2.2.2.1.2.2⟩, h.2.2.2.2.2⟩
/-- the three kinds of pieces, at fuel g -/
def BlS (W : Wo) (m zn fn lo hw : Nat) (A : Nat → Nat → Int32) (h : Nat) (x1 : Int32) (Q : Option Value → Mem → Prop) (g : Nat) : Prop :=
  (∀ (md : Nat) (K : List KE) (j j' r r' p p' : Nat) (L : List (Nat × Nat)) (M : Mem) (S : RBs) (G : Nat → List Nat) (pn : Nat → Int32), md = 1 ∨ md = 2 → TT W m zn fn lo hw g md K 0 0 0 0 0 false j j' r r' p p' L → j' ≤ 40 → r' ≤ 100 → BuM m A pn S M → RgB m S G → S.1 + csT j j' r r' p p' ≤ 700 → (∀ M' S' G' pn' ds, BuO m A M S G pn M' S' G' pn' j j' (csT j j' r r' p p') ds.length → PtY W m zn fn pn' S' G' S.1 (cxK K) L p p' ds → PdZ W m pn' S' G' (ds.zip (L.map Prod.snd)) j j' → bLp h m x1 j M' Q) → bLp h m x1 j' M Q)
  ∧ (∀ (K : List KE) (j j' r r' p p' y : Nat) (M : Mem) (S : RBs) (G : Nat → List Nat) (pn : Nat → Int32), TT W m zn fn lo hw g 0 K 0 0 0 0 0 false j j' r r' p p' [(0, y)] → j' ≤ 40 → r' ≤ 100 → BuM m A pn S M → RgB m S G → S.1 + csT j j' r r' p p' ≤ 700 → (∀ M' S' G' pn' ds, BuO m A M S G pn M' S' G' pn' j j' (csT j j' r r' p p') ds.length → RowL W m zn fn lo hw A pn' S' G' S.1 (sqK K) (cxK K) y p p' ds j j' → PdZ W m pn' S' G' (ds.zip (chV W y)) j j' → bLp h m x1 j M' Q) → bLp h m x1 j' M Q)
  ∧ ∀ (K : List KE) (a2 a3 a4 : Nat) (c1 c2 : Int32) (fl : Bool) (j j' r r' p p' : Nat) (L : List (Nat × Nat)) (M : Mem) (S : RBs) (G : Nat → List Nat) (pn : Nat → Int32), TT W m zn fn lo hw g 3 K a2 a3 a4 c1 c2 fl j j' r r' p p' L → j' ≤ 40 → r' ≤ 100 → BuM m A pn S M → RgB m S G → S.1 + csT j j' r r' p p' ≤ 700 → (∀ M' S' G' pn' y T1 pm ds d2, L = (a3, y) :: T1 → BuO m A M S G pn M' S' G' pn' j j' (csT j j' r r' p p') (ds.length + d2.length) → S'.1 + T1.length ≤ S.1 + csT j j' r r' p p' → RowL W m zn fn lo hw A pn' S' G' S.1 a3 (cxK K) y p pm ds j j' → RqLL W m zn fn lo hw A pn' (vwR S' G') (700 * m + S'.1) S.1 (cxK K) T1 pm p' d2 j j' → (∀ z ∈ d2, frN m S' z) → (∀ z ∈ ds, z ∉ d2) → A 75 a3 = nxI T1 → PdZ W m pn' S' G' (ds.zip (chV W y) ++ d2.zip (T1.flatMap fun e => chV W e.2)) j j' → bLp h m x1 j M' Q) → bLp h m x1 j' M Q
theorem bl_0 (hA : woA W = A) (h4 : m < 4) (ih : BlS W m zn fn lo hw A h x1 Q g) {r' : Nat} (ht : TT W m zn fn lo hw (g + 1) 0 K 0 0 0 0 0 false j j' r r' p p' [(0, y)]) (hj : j' ≤ 40) (hr : r' ≤ 100) (hB : BuM m A pn S M) (hR : RgB m S G) (hf : S.1 + csT j j' r r' p p' ≤ 700) (C : ∀ M' S' G' pn' ds, BuO m A M S G pn M' S' G' pn' j j' (csT j j' r r' p p') ds.length → RowL W m zn fn lo hw A pn' S' G' S.1 (sqK K) (cxK K) y p p' ds j j' → PdZ W m pn' S' G' (ds.zip (chV W y)) j j' → bLp h m x1 j M' Q) : bLp h m x1 j' M Q := by
  unfold TT at ht
  rw [if_pos rfl] at ht
  obtain ⟨x, jm, rm, pm, T, y', ey, t2, t1, nd, rw1⟩ := ht
  cases ey
  have l2 := TT.le _ _ _ _ _ _ _ _ _ _ _ _ _ _ _ _ (by decide) t2
  have l1 := TT.le _ _ _ _ _ _ _ _ _ _ _ _ _ _ _ _ (by decide) t1
  have mem := TT.mem _ _ _ _ _ _ _ _ _ _ _ _ _ _ _ t1
  unfold csT at hf
  refine ih.1 1 K jm j' rm r' pm p' T M S G pn (Or.inl rfl) t1 hj hr hB hR (by unfold csT; omega) (fun M1 S1 G1 pn1 ds1 o1 y1 z1 => ?_)
  have c1 := o1.2.2.2.2.1.1
  unfold csT at c1
  refine ih.1 2 K j jm r rm p pm [(j, x)] M1 S1 G1 pn1 (Or.inr rfl) t2 (by omega) (by omega) o1.1 o1.2.2.1 (by unfold csT; omega) (fun M2 S2 G2 pn2 ds2 o2 y2 z2 => ?_)
  have lt1 : ∀ d ∈ ds1, d < 700 * m + S1.1 := fun d hd => (y1.2.1 d hd).1.1.2
  have ls : S.1 ≤ S1.1 := o1.2.2.2.1.1
  have len1 : ds2.length = 1 := by
    cases ds2 with
    | nil => exact y2.1.elim
    | cons d es =>
      cases es with
      | nil => rfl
      | cons _ _ => exact y2.1.2.elim
  have ex : ∃ d, ds2 = [d] ∧ ∀ pn3 : Nat → Int32, (∀ P, 40 * m + j ≤ P → P < 40 * m + j' → pn3 P = pn2 P) → PtY W m zn fn pn3 S2 G2 S.1 (cxK K) ((j, x) :: T) p p' (d :: ds1) := by
    cases ds2 with
    | nil => exact y2.1.elim
    | cons d es =>
      have hes : es = [] := by
        cases es with
        | nil => rfl
        | cons _ _ => exact y2.1.2.elim
      subst hes
      refine ⟨d, rfl, fun pn3 h3 => ?_⟩
      have yb := y1.st (pn1 := pn3) (s1 := S.1) o2.2.2.2.1 (fun e he => by
        have := mem e he
        rw [h3 _ (by omega) (by omega)]
        exact o2.2.2.2.2.2 _ (by omega)) (Nat.le_refl _)
      have ya := y2.st (pn1 := pn3) (s1 := S1.1) FrB.rf (fun e he => by
        rw [List.mem_singleton] at he
        rw [he]
        exact h3 _ (by show _ ≤ 40 * m + j; omega) (by show 40 * m + j < _; omega)) (Nat.le_refl _)
      obtain ⟨d', -, hd'⟩ := PtY.cons ya yb ls lt1
      have e1 : pn3 (40 * m + j) = Int32.ofNat d := ya.1.1
      have e2 : pn3 (40 * m + j) = Int32.ofNat d' := hd'.1.1
      have f1 := (ya.2.1 d List.mem_cons_self).1.1.2
      have f2 := (hd'.2.1 d' List.mem_cons_self).1.1.2
      have h7 := o2.2.2.1.1.2
      have : d = d' := inj32 (by omega) (by omega) (e1.symm.trans e2)
      rw [this]
      exact hd'
  obtain ⟨d, ed, hd⟩ := ex
  have e1 := len1
  refine C M2 S2 G2 pn2 (d :: ds1) ((o1.tr o2 l2.1 l1.1).mo (by unfold csT; show _ ∧ _ ≤ ds1.length + 1; omega)) (fun pn3 h3 => (hd pn3 h3).row hA (fun e he => ?_) rw1 nd) (by
    have ec : chV W y = x :: T.map Prod.snd := nd.2.2.2
    rw [ec]
    subst ed
    exact z2.ap (z1.st o2.2.2.2.1 (fun P q1 q2 => o2.2.2.2.2.2 P (Or.inr q1))))
  rcases List.mem_cons.mp he with z | z
  · rw [z]; show 40 * m + j < 160; have := l2.2.2.2 (by decide); omega
  · have := mem e z; omega
theorem bl_1 (h4 : m < 4) (ih : BlS W m zn fn lo hw A h x1 Q g) {r' : Nat} (ht : TT W m zn fn lo hw (g + 1) 1 K 0 0 0 0 0 false j j' r r' p p' L) (hj : j' ≤ 40) (hr : r' ≤ 100) (hB : BuM m A pn S M) (hR : RgB m S G) (hf : S.1 + csT j j' r r' p p' ≤ 700) (C : ∀ M' S' G' pn' ds, BuO m A M S G pn M' S' G' pn' j j' (csT j j' r r' p p') ds.length → PtY W m zn fn pn' S' G' S.1 (cxK K) L p p' ds → PdZ W m pn' S' G' (ds.zip (L.map Prod.snd)) j j' → bLp h m x1 j M' Q) : bLp h m x1 j' M Q := by
  unfold TT at ht
  rw [if_neg (by decide), if_pos rfl] at ht
  rcases ht with ⟨e1, e2, e3, e4⟩ | ⟨x, jm, rm, pm, T, e1, t2, t1⟩
  · subst e1; subst e2; subst e4
    exact C M S G pn [] (BuO.rf hB hR) ⟨trivial, fun d hd => absurd hd (List.not_mem_nil), List.nodup_nil, 0, rfl⟩ (fun i h1 h2 => absurd h1 (by omega))
  subst e1
  have l2 := TT.le _ _ _ _ _ _ _ _ _ _ _ _ _ _ _ _ (by decide) t2
  have l1 := TT.le _ _ _ _ _ _ _ _ _ _ _ _ _ _ _ _ (by decide) t1
  have mem := TT.mem _ _ _ _ _ _ _ _ _ _ _ _ _ _ _ t1
  unfold csT at hf
  refine ih.1 1 K jm j' rm r' pm p' T M S G pn (Or.inl rfl) t1 hj hr hB hR (by unfold csT; omega) (fun M1 S1 G1 pn1 ds1 o1 y1 z1 => ?_)
  have c1 := o1.2.2.2.2.1.1
  unfold csT at c1
  refine ih.1 2 K j jm r rm p pm [(j, x)] M1 S1 G1 pn1 (Or.inr rfl) t2 (by omega) (by omega) o1.1 o1.2.2.1 (by unfold csT; omega) (fun M2 S2 G2 pn2 ds2 o2 y2 z2 => ?_)
  have lt1 : ∀ d ∈ ds1, d < 700 * m + S1.1 := fun d hd => (y1.2.1 d hd).1.1.2
  have ls : S.1 ≤ S1.1 := o1.2.2.2.1.1
  have yb := y1.st (pn1 := pn2) (s1 := S.1) o2.2.2.2.1 (fun e he => by
    have := mem e he
    exact o2.2.2.2.2.2 _ (by omega)) (Nat.le_refl _)
  obtain ⟨d, ed, hd⟩ := PtY.cons y2 yb ls lt1
  have len1 : ds2.length = 1 := by
    cases ds2 with
    | nil => exact y2.1.elim
    | cons d es =>
      cases es with
      | nil => rfl
      | cons _ _ => exact y2.1.2.elim
  exact C M2 S2 G2 pn2 (d :: ds1) ((o1.tr o2 l2.1 l1.1).mo (by unfold csT; show _ ∧ _ ≤ ds1.length + 1; omega)) hd (by
    subst ed
    exact z2.ap (z1.st o2.2.2.2.1 (fun P q1 q2 => o2.2.2.2.2.2 P (Or.inr q1))))
theorem bl_3 (hA : woA W = A) (ih : BlS W m zn fn lo hw A h x1 Q g) {r' a2 a3 a4 : Nat} {c1 c2 : Int32} {fl : Bool} (ht : TT W m zn fn lo hw (g + 1) 3 K a2 a3 a4 c1 c2 fl j j' r r' p p' L) (hj : j' ≤ 40) (hr : r' ≤ 100) (hB : BuM m A pn S M) (hR : RgB m S G) (hf : S.1 + csT j j' r r' p p' ≤ 700) (C : ∀ M' S' G' pn' y T1 pm ds d2, L = (a3, y) :: T1 → BuO m A M S G pn M' S' G' pn' j j' (csT j j' r r' p p') (ds.length + d2.length) → S'.1 + T1.length ≤ S.1 + csT j j' r r' p p' → RowL W m zn fn lo hw A pn' S' G' S.1 a3 (cxK K) y p pm ds j j' → RqLL W m zn fn lo hw A pn' (vwR S' G') (700 * m + S'.1) S.1 (cxK K) T1 pm p' d2 j j' → (∀ z ∈ d2, frN m S' z) → (∀ z ∈ ds, z ∉ d2) → A 75 a3 = nxI T1 → PdZ W m pn' S' G' (ds.zip (chV W y) ++ d2.zip (T1.flatMap fun e => chV W e.2)) j j' → bLp h m x1 j M' Q) : bLp h m x1 j' M Q := by
  unfold TT at ht
  rw [if_neg (by decide), if_neg (by decide), if_neg (by decide)] at ht
  obtain ⟨jm, rm, pm, y, t0, ht⟩ := ht
  have l0 := TT.le _ _ _ _ _ _ _ _ _ _ _ _ _ _ _ _ (by decide) t0
  have ecx : cxK ((40 * m + a2, a3, a4, none) :: K) = cxK K := cxK_n rfl
  rw [hA] at ht
  unfold csT at hf
  rcases ht with ⟨e1, e2, e3, e4, e5, -⟩ | ⟨T, f2, e1, e2, -, t3⟩
  · subst e1; subst e2; subst e3; subst e4
    refine ih.2.1 _ j j' r r' p p' y M S G pn t0 hj hr hB hR (by unfold csT; omega) (fun M1 S1 G1 pn1 ds o1 w1 z1 => ?_)
    rw [ecx] at w1
    exact C M1 S1 G1 pn1 y [] p' ds [] rfl o1 (by have := o1.2.2.2.2.1.1; show S1.1 + 0 ≤ _; omega) w1 (fun _ _ => ⟨rfl, rfl⟩) (fun z hz => absurd hz (List.not_mem_nil)) (fun z _ hz => absurd hz (List.not_mem_nil)) e5 (by rw [List.zip_nil_left, List.append_nil]; exact z1)
  · subst e1
    have l3 := TT.le _ _ _ _ _ _ _ _ _ _ _ _ _ _ _ _ (by decide) t3
    refine ih.2.2 K a2 rm (a4 + 1) _ _ f2 jm j' (rm + 1) r' pm p' T M S G pn t3 hj hr hB hR (by unfold csT; omega) (fun M1 S1 G1 pn1 y1 T2 pm1 ds1 d1 eT o1 c1 w1 q1 f1 n1 e75 z1 => ?_)
    subst eT
    have l75 : S.1 ≤ S1.1 := o1.2.2.2.1.1
    unfold csT at c1
    have c1' := o1.2.2.2.2.1.1
    unfold csT at c1'
    refine ih.2.1 _ j jm r rm p pm y M1 S1 G1 pn1 t0 (by omega) (by omega) o1.1 o1.2.2.1 (by unfold csT; omega) (fun M2 S2 G2 pn2 ds o2 w2 z2 => ?_)
    rw [ecx] at w2
    have w2 : RowL W m zn fn lo hw A pn2 S2 G2 S1.1 a3 (cxK K) y p pm ds j jm := w2
    have c2' := o2.2.2.2.2.1.1
    unfold csT at c2'
    have fb := o2.2.2.2.1
    have lb := fb.1
    have lt1 : ∀ z ∈ ds1 ++ d1, z < 700 * m + S1.1 := fun z hz => by
      rcases List.mem_append.mp hz with w | w
      · exact (w1 pn1 (fun _ _ _ => rfl)).lt z w
      · exact (f1 z w).1.2
    have hfr : ∀ z ∈ ds1 ++ d1, frN m S2 z := fun z hz => by
      rcases List.mem_append.mp hz with w | w
      · exact ((w1 pn1 (fun _ _ _ => rfl)).rq.2 z w).fb fb (fun z => z)
      · exact (f1 z w).fb fb (fun z => z)
    refine C M2 S2 G2 pn2 y ((rm, y1) :: T2) pm ds (ds1 ++ d1) rfl ((o1.tr o2 l0.1 l3.1).mo (by unfold csT; rw [List.length_append]; omega)) (by show S2.1 + (T2.length + 1) ≤ _; unfold csT; omega) (fun pn3 h3 => (w2 pn3 (fun P q1 q2 => h3 P q1 (by omega))).less l75) (fun pn3 h3 => ?_) hfr (fun z hz hz2 => ?_) (e2.trans rfl) (z2.ap ?_)
    · have hag : ∀ P, 40 * m + jm ≤ P → P < 40 * m + j' → pn3 P = pn1 P := fun P q1 q2 => (h3 P (by omega) q2).trans (o2.2.2.2.2.2 P (Or.inr q1))
      have vw : ∀ z, 700 * m ≤ z → z < 700 * m + S1.1 → vwR S2 G2 z = vwR S1 G1 z := fun z z1 z2 => (fb.2.1 z z1 z2).1
      exact ⟨pm1, ds1, d1, by have := l3.2.1; omega, ((w1 pn3 hag).rq.1).st vw (by omega) (Nat.le_refl _), e75, rfl, n1, RqL.st vw (by omega) (Nat.le_refl _) _ _ _ _ (q1 pn3 hag)⟩
    · have := (w2 pn2 (fun _ _ _ => rfl)).ge z hz
      have := lt1 z hz2
      omega
    · have ll : ds1.length = (chV W y1).length := by
        obtain ⟨a, t, xs, g, -, -, -, -, -, u1, u2⟩ := w1 pn1 (fun _ _ _ => rfl)
        have ec : chV W y1 = xs := u1.2.2.2
        rw [ec]
        exact RpLs.ln _ _ _ _ u2
      have z3 := z1.st o2.2.2.2.1 (fun P q1 q2 => o2.2.2.2.2.2 P (Or.inr q1))
      rw [← List.zip_append ll] at z3
      exact z3
end
