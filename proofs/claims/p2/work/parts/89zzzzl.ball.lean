/-! the reference builds: branches -/
section
variable {m : Nat} {A : Nat → Nat → Int32} {pn : Nat → Int32} {S S1 S2 : RBs} {G G1 G2 : Nat → List Nat} {M M1 M2 : Mem} {h : Nat} {Q : Option Value → Mem → Prop} {W : Wo} {zn fn lo hw p p' pb pm pr x y j g d e q q1 q2 s0 r n ea ca ea1 ca1 : Nat} {cx : List (Option Nat)} {H H1 H2 : Nat → Prop} {k : Int32} {K : List KE} {ds ys : List Nat}
/-- a row that is ready, in a view that stays -/
def RowQ (W : Wo) (m zn fn lo hw : Nat) (A : Nat → Nat → Int32) (pn : Nat → Int32) (u0 : Vwr) (hi0 s0 r : Nat) (cx : List (Option Nat)) (y p p' : Nat) (ds : List Nat) : Prop := ∃ a t xs g, RwA A r a t ∧ (∀ z ∈ a :: t, z < 160) ∧ PnL pn (a :: t) ds ∧ (∀ d ∈ ds, (700 * m ≤ d ∧ d < hi0) ∧ 700 * m + s0 ≤ d) ∧ ds.Nodup ∧ ndS (woV W) lo hw y 5 0 xs ∧ RpLs (RpN W m zn fn u0 hi0 g cx) ds xs p p'
theorem RowR.rq (hw1 : RowR W m zn fn lo hw A pn S G s0 r cx y p p' ds) : RowQ W m zn fn lo hw A pn (vwR S G) (700 * m + S.1) s0 r cx y p p' ds ∧ ∀ d ∈ ds, frN m S d := by
  obtain ⟨a, t, xs, g, w1, w2, w3, w4, w5, w6, w7⟩ := hw1
  exact ⟨⟨a, t, xs, g, w1, w2, w3, fun d hd => ⟨(w4 d hd).1.1, (w4 d hd).2⟩, w5, w6, w7⟩, fun d hd => (w4 d hd).1⟩
theorem RowQ.fin {u0 u' : Vwr} {hi0 hi' : Nat} (hq : RowQ W m zn fn lo hw A pn u0 hi0 s0 r cx y p p' ds) (hu : ∀ z, 700 * m ≤ z → z < hi0 → u' z = u0 z) (hh : hi0 ≤ hi') (he : ds = [e] ∨ (u' e = (6, -1, ds) ∧ (700 * m ≤ e ∧ e < hi') ∧ 2 ≤ ds.length)) : ∃ g, RpN W m zn fn u' hi' g cx e y p p' := by
  obtain ⟨a, t, xs, g, w1, w2, w3, w4, w5, w6, w7⟩ := hq
  have w8 : RpLs (RpN W m zn fn u' hi' g cx) ds xs p p' := RpLs.imp (fun _ _ _ _ k => RpN.st hu hh _ _ _ _ _ _ _ (Nat.le_refl _) k) _ _ _ _ w7
  rcases he with he | ⟨e1, e2, e3⟩
  · rw [he] at w8
    cases xs with
    | nil => exact w8.elim
    | cons x1 xs =>
      obtain ⟨pm, r1, r2⟩ := w8
      cases xs with
      | cons _ _ => exact r2.elim
      | nil =>
        have r2 : p' = pm := r2
        subst r2
        exact ⟨g + 1, N_se1 w6 r1⟩
  · exact ⟨g + 1, N_seq e2 w6 e1 e3 w8⟩
theorem RowQ.dz {u0 u' : Vwr} {hi0 hi' : Nat} (hq : RowQ W m zn fn lo hw A pn u0 hi0 s0 r cx y p p' ds) (hh : hi0 ≤ hi') (he : ds = [e] ∨ (u' e = (6, -1, ds) ∧ (700 * m ≤ e ∧ e < hi') ∧ 2 ≤ ds.length)) : ds.length = (chV W y).length ∧ ∀ t ∈ ds.zip (chV W y), DsN W m u' hi' e y t.1 t.2 := by
  obtain ⟨a, t, xs, g, w1, w2, w3, w4, w5, w6, w7⟩ := hq
  have ll := RpLs.ln _ _ _ _ w7
  have ec : chV W y = xs := w6.2.2.2
  rw [ec]
  refine ⟨ll, fun t ht => ?_⟩
  rcases he with he | ⟨e1, e2, e3⟩
  · subst he
    cases xs with
    | nil => cases ll
    | cons x1 xs =>
      cases xs with
      | cons _ _ => exact absurd ll (by simp)
      | nil =>
        have ht : t = (e, x1) := List.mem_singleton.mp ht
        rw [ht]
        have := (w4 e List.mem_cons_self).1
        exact DsN.o1 ⟨this.1, by omega⟩ w6
  · exact DsN.ch e2 w6 e1 (Or.inr (by omega)) ht
theorem B_row2 {u0 : Vwr} {hi0 : Nat} (hB : BuM m A pn S M) (hR : RgB m S G) (hf : S.1 + 1 ≤ 700) (hr : r < 100) (hq : RowQ W m zn fn lo hw A pn u0 hi0 s0 r cx x p p' ds) (hfr : ∀ d ∈ ds, frN m S d) (K : ∀ M' S' G' y, BxO m A pn M S G M' S' G' y (fun z => z ∈ ds ∧ z ≠ y) 1 1 ds.length → (y ∈ ds ∨ 700 * m + S.1 ≤ y) → (ds = [y] ∨ (vwR S' G' y = (6, -1, ds) ∧ 2 ≤ ds.length)) → Q (some (.int (Int32.ofNat y))) M') : E (h + 2) mdX11_rowNode [.ref 29, .int (Int32.ofNat r)] M Q := by
  obtain ⟨a, t, xs, g, ⟨w1, w2, w3⟩, w4, w5, w6, w7, w8, w9⟩ := hq
  obtain ⟨F, h4, b2, b3, b4, b5, b6⟩ := id hB
  have lr : (Int32.ofNat r).toNatClampNeg = r := lt32 (by omega)
  have ha := w4 a List.mem_cons_self
  have la : (Int32.ofNat a).toNatClampNeg = a := lt32 (by omega)
  have va : ∀ {k : Nat}, k = 160 → vp_in (Int32.ofNat a) k := fun e => by rw [e]; exact vp_of ha (by decide)
  have e73 : mAI M 73 r = Int32.ofNat a := by rw [b5 73 (by decide) (by decide) (by decide)]; exact w1
  have e70 : mAI M 70 a = A 70 a := by rw [b5 70 (by decide) (by decide) (by decide)]
  refine KX11_rowNode ?_
  unfold DX11_rowNode_0
  rw [lr]
  refine ⟨ok29 F, 73, rf29_54 F, ok73 F, by rw [ln73 F]; exact vp_of hr (by decide), 70, rf29_50 F, ok70 F, by rw [e73]; exact va (ln70 F), ?_⟩
  rw [e73, la, e70]
  cases t with
  | nil =>
    have w3 : A 70 a = -1 := w3
    refine ⟨fun z => absurd w3 z, fun _ => ⟨90, rf29_72 F, ok90 F, va (ln90 F), ?_⟩⟩
    cases ds with
    | nil => exact w5.elim
    | cons d ds =>
      cases ds with
      | cons e es => exact w5.2.elim
      | nil =>
        rw [b6, w5.1]
        exact K M S G d ⟨hB, RG.rf, hR, FrB.rf, hfr d List.mem_cons_self, Nat.le_succ _, Nat.le_refl _, fun z z1 z2 _ => absurd z1 (by omega)⟩ (Or.inl List.mem_cons_self) (Or.inl rfl)
  | cons a2 t =>
    have w3 : A 70 a = Int32.ofNat a2 ∧ ChA A a2 t := w3
    have ne : A 70 a ≠ -1 := by rw [w3.1]; exact nm32 (by have := w4 a2 (by simp); omega)
    refine ⟨fun _ => B_nd hB hR (by omega) (fun M1 S1 G1 n n1 v1 _ => ⟨_, rfl, ?_⟩), fun z => absurd z ne⟩
    have nb := n1.2.2.2.2.1
    cases ds with
    | nil => exact w5.elim
    | cons d ds =>
      refine row_loop (h := h) h4 (a2 :: t) a ds d M1 S1 G1 [] noN 0 n1 v1 w3 w4 w5 (fun e he => ?_) w7 (fun M2 S2 G2 n2 v2 e2 k2 => K M2 S2 G2 n ?_ (Or.inr nb.1) (Or.inr ⟨v2, ?_⟩))
      · have f1 := hfr e he
        exact ⟨n1.fr f1 (fun z => z), by have := f1.1.2; omega⟩
      · refine ⟨n2.1, n2.2.1, n2.2.2.1, n2.2.2.2.1.more (fun z _ z2 w => ?_), n2.own, n2.2.2.2.2.2.1, by have := n2.2.2.2.2.2.2.1; show _ + (ds.length + 1) ≤ _; omega, n2.2.2.2.2.2.2.2⟩
        rcases w with w | w
        · exact w.elim
        · exact ⟨w, by omega⟩
      · cases ds with
        | nil => exact w5.2.elim
        | cons e es => show 2 ≤ (e :: es).length + 1; simp
def nxI (T : List (Nat × Nat)) : Int32 := match T with
  | [] => -1
  | e :: _ => Int32.ofNat e.1
/-- rows that are ready, one behind another -/
def RqL (W : Wo) (m zn fn lo hw : Nat) (A : Nat → Nat → Int32) (pn : Nat → Int32) (u0 : Vwr) (hi0 s0 : Nat) (cx : List (Option Nat)) : List (Nat × Nat) → Nat → Nat → List Nat → Prop
  | [], p, p', dd => p' = p ∧ dd = []
  | (r, y) :: T, p, p', dd => ∃ pm ds d2, r < 100 ∧ RowQ W m zn fn lo hw A pn u0 hi0 s0 r cx y p pm ds ∧ A 75 r = nxI T ∧ dd = ds ++ d2 ∧ (∀ z ∈ ds, z ∉ d2) ∧ RqL W m zn fn lo hw A pn u0 hi0 s0 cx T pm p' d2
theorem RpLs.snoc {R : Nat → Nat → Nat → Nat → Prop} {e x p2 : Nat} : ∀ (es xs : List Nat) (p0 p : Nat), RpLs R es xs p0 p → R e x p p2 → RpLs R (es ++ [e]) (xs ++ [x]) p0 p2
  | [], [], p0, p, k, r => by
    have k : p = p0 := k
    subst k
    exact ⟨p2, r, rfl⟩
  | d :: ds, c :: cs, p0, p, k, r => by
    obtain ⟨pm, k1, k2⟩ := k
    exact ⟨pm, k1, RpLs.snoc ds cs pm p k2 r⟩
  | [], _ :: _, _, _, k, _ => k.elim
  | _ :: _, [], _, _, k, _ => k.elim
def DoneP (W : Wo) (m zn fn : Nat) (S : RBs) (G : Nat → List Nat) (n : Nat) (cx : List (Option Nat)) (es xs : List Nat) (p0 p : Nat) : Prop := ∀ (u' : Vwr) (hi' : Nat), (∀ z, 700 * m ≤ z → z < 700 * m + S.1 → z ≠ n → u' z = vwR S G z) → 700 * m + S.1 ≤ hi' → ∃ g, RpLs (RpN W m zn fn u' hi' g cx) es xs p0 p
def DoneZ (W : Wo) (m : Nat) (S : RBs) (G : Nat → List Nat) (n : Nat) (Z : List (Nat × Nat)) (es xs : List Nat) : Prop := ∀ (u' : Vwr) (hi' : Nat), (∀ z, 700 * m ≤ z → z < 700 * m + S.1 → z ≠ n → u' z = vwR S G z) → 700 * m + S.1 ≤ hi' → ∀ e ∈ Z, ∃ f ∈ es.zip xs, DsN W m u' hi' f.1 f.2 e.1 e.2
theorem NRx.bx2 {M0 : Mem} {S0 : RBs} {G0 : Nat → List Nat} (h0 : NRx m A pn M0 S0 G0 M S G n H q ea ca) (b : BxO m A pn M S G M1 S1 G1 d H1 q1 ea1 ca1) (nn : ¬ H1 n) (hH : ∀ z, 700 * m ≤ z → z < 700 * m + S0.1 → H1 z → H z) : NRx m A pn M0 S0 G0 M1 S1 G1 n H (q + q1) (ea + ea1) (ca + ca1) := by
  obtain ⟨a1, a2, a3, a4, ⟨a5, a6, a7⟩, a8⟩ := id h0
  obtain ⟨b1, b2, b3, b4, b5, b8⟩ := id b
  have f := b.fr h0.own nn
  have := b4.1
  exact ⟨b1, a2.tr b2, b3, a4.tr b4 hH, ⟨a5, f.1.2, f.2⟩, by have := a8.1; have := b8.1; omega, by have := a8.2.1; have := b8.2.1; omega, a8.2.2.tr b4 b8.2.2⟩
theorem all_loop {Mb : Mem} {Sb : RBs} {Gb : Nat → List Nat} {p0 : Nat} (h4 : m < 4) : ∀ (T1 : List (Nat × Nat)) (p p' : Nat) (dd : List Nat) (M : Mem) (S : RBs) (G : Nat → List Nat) (es xs : List Nat) (q ca : Nat) (Z : List (Nat × Nat)), NRx m A pn Mb Sb Gb M S G n (fun z => 700 * m + s0 ≤ z) q ea ca → vwR S G n = (9, -1, es) → RqL W m zn fn lo hw A pn (vwR Sb Gb) (700 * m + Sb.1) s0 cx T1 p p' dd → (∀ z ∈ dd, frN m S z) → S.1 + T1.length ≤ 700 → DoneP W m zn fn S G n cx es xs p0 p → DoneZ W m S G n Z es xs → (∀ M' S' G' es', NRx m A pn Mb Sb Gb M' S' G' n (fun z => 700 * m + s0 ≤ z) (q + T1.length) ea (ca + dd.length) → vwR S' G' n = (9, -1, es') → DoneP W m zn fn S' G' n cx es' (xs ++ T1.map Prod.snd) p0 p' → DoneZ W m S' G' n (Z ++ dd.zip (T1.flatMap fun e => chV W e.2)) es' (xs ++ T1.map Prod.snd) → es.length ≤ es'.length → Q (some (.int (Int32.ofNat n))) M') → T (h + 4) mdX11_nodeOf 343 [(0, .ref 29), (3, .int (Int32.ofNat n)), (4, .int (nxI T1))] [] M Q := by
  intro T1
  induction T1 with
  | nil =>
    intro p p' dd M S G es xs q ca Z n0 v0 hq hfr hf hD hDz K
    obtain ⟨e1, e2⟩ := hq
    subst e1; subst e2
    refine VX11_nodeOf_343 ?_
    unfold DX11_nodeOf_343
    exact ⟨fun _ => K M S G es n0 v0 (by rw [List.map_nil, List.append_nil]; exact hD) (by rw [List.map_nil, List.append_nil, List.flatMap_nil, List.zip_nil_right, List.append_nil]; exact hDz) (Nat.le_refl _), fun z => absurd rfl z⟩
  | cons ry T1 ih =>
    intro p p' dd M S G es xs q ca Z n0 v0 hq hfr hf hD hDz K
    obtain ⟨r, y⟩ := ry
    obtain ⟨pm, ds, d2, hr, q1, q2, q3, q4, q5⟩ := hq
    subst q3
    have hf : S.1 + (T1.length + 1) ≤ 700 := hf
    have nb := n0.2.2.2.2.1
    have lb : Sb.1 ≤ S.1 := n0.2.2.2.1.1
    have inb : ∀ z ∈ ds, 700 * m ≤ z ∧ z < 700 * m + Sb.1 ∧ 700 * m + s0 ≤ z := by
      obtain ⟨a, t, xs, g, -, -, -, w, -⟩ := id q1
      exact fun z hz => ⟨(w z hz).1.1, (w z hz).1.2, (w z hz).2⟩
    refine VX11_nodeOf_343 ?_
    unfold DX11_nodeOf_343
    have lr : (Int32.ofNat r).toNatClampNeg = r := lt32 (by omega)
    refine ⟨fun z => absurd z (nm32 (by omega)), fun _ => ⟨ok29 n0.1.1, ?_⟩⟩
    show E (h + 3) mdX11_rowNode [.ref 29, .int (Int32.ofNat r)] M _
    refine B_row2 (h := h + 1) n0.1 n0.2.2.1 (by omega) hr q1 (fun d hd => hfr d (List.mem_append_left _ hd)) (fun M1 S1 G1 e b1 e1 e2 _ => ⟨_, rfl, ?_⟩)
    have s1 := b1.2.2.2.2.2
    have l1 : S.1 ≤ S1.1 := b1.2.2.2.1.1
    have fe := b1.2.2.2.2.1
    have n1 : NRx m A pn Mb Sb Gb M1 S1 G1 n (fun z => 700 * m + s0 ≤ z) (q + 1) (ea + 1) (ca + ds.length) := n0.bx2 b1 (fun hz => by have := (inb n hz.1).2.1; omega) (fun z _ _ hz => (inb z hz.1).2.2)
    have ne : e ≠ n := fun hz => by
      rcases e1 with w | w
      · have := (inb e w).2.1; omega
      · omega
    have v1 : vwR S1 G1 n = (9, -1, es) := by rw [(b1.2.2.2.1.2.1 n (by omega) nb.2.1).1]; exact v0
    refine B_ad (h := h + 2) n1 v1 fe ne (fun M2 S2 G2 n2 v2 f2 c2 w2 _ => ⟨rfl, 75, rf29_56 n2.1.1, ok75 n2.1.1, by show vp_in (Int32.ofNat r) _; rw [ln75 n2.1.1]; exact vp_of hr (by decide), ?_⟩)
    have e75 : mAI M2 75 r = nxI T1 := by rw [n2.1.2.2.2.2.2.1 75 (by decide) (by decide) (by decide)]; exact q2
    have lrr : (nxI ((r, y) :: T1)).toNatClampNeg = r := lr
    rw [lrr, e75]
    have n2' : NRx m A pn Mb Sb Gb M2 S2 G2 n (fun z => 700 * m + s0 ≤ z) (q + 1) ea (ca + ds.length) := NRx.nm (ea1 := ea + 1) (ca1 := ca + ds.length + 1) ⟨n2.1, n2.2.1, n2.2.2.1, n2.2.2.2.1.more (fun z _ z2 w => by
      rcases w with w | w
      · exact w
      · rcases e1 with e1 | e1
        · rw [w]; exact (inb e e1).2.2
        · omega), n2.2.2.2.2⟩ (by omega)
    have vw2 := n2'.vw
    have hee : ∀ (u' : Vwr) (hi' : Nat), (∀ z, 700 * m ≤ z → z < 700 * m + S2.1 → z ≠ n → u' z = vwR S2 G2 z) → 700 * m + S2.1 ≤ hi' → ds = [e] ∨ (u' e = (6, -1, ds) ∧ (700 * m ≤ e ∧ e < hi') ∧ 2 ≤ ds.length) := fun u' hi' hu hh => by
      rcases e2 with e2 | ⟨e2, e3⟩
      · exact Or.inl e2
      · exact Or.inr ⟨((hu e fe.1.1 (by have := fe.1.2; omega) ne).trans (w2 e ne)).trans e2, ⟨fe.1.1, by have := fe.1.2; omega⟩, e3⟩
    have lq : ds.length = (chV W y).length := (q1.dz (e := e) (u' := vwR S2 G2) (hi' := 700 * m + S2.1) (by omega) (hee _ _ (fun _ _ _ _ => rfl) (Nat.le_refl _))).1
    have lx : es.length = xs.length := by
      obtain ⟨g1, r1⟩ := hD (vwR S G) (700 * m + S.1) (fun _ _ _ _ => rfl) (Nat.le_refl _)
      exact RpLs.ln _ _ _ _ r1
    refine ih pm p' d2 M2 S2 G2 (es ++ [e]) (xs ++ [y]) (q + 1) (ca + ds.length) (Z ++ ds.zip (chV W y)) n2' v2 q5 (fun z hz => ?_) (by omega) ?_ (fun u' hi' hu hh t ht => ?_) (fun M3 S3 G3 es3 n3 v3 D3 Z3 l3 => K M3 S3 G3 es3 ?_ v3 ?_ ?_ ?_)
    · have fz := hfr z (List.mem_append_right _ hz)
      have fz1 := b1.fr fz (fun w => q4 z w.1 hz)
      refine f2 z fz1 (fun w => ?_)
      rcases e1 with e1 | e1
      · exact q4 e e1 (by rw [← w]; exact hz)
      · have := fz.1.2; omega
    · intro u' hi' hu hh
      have hu1 : ∀ z, 700 * m ≤ z → z < 700 * m + S1.1 → z ≠ n → u' z = vwR S1 G1 z := fun z z1 z2 z3 => (hu z z1 (by omega) z3).trans (w2 z z3)
      obtain ⟨g1, r1⟩ := hD u' hi' (fun z z1 z2 z3 => (hu1 z z1 (by omega) z3).trans (b1.2.2.2.1.2.1 z z1 z2).1) (by omega)
      have he : ds = [e] ∨ (u' e = (6, -1, ds) ∧ (700 * m ≤ e ∧ e < hi') ∧ 2 ≤ ds.length) := by
        rcases e2 with e2 | ⟨e2, e3⟩
        · exact Or.inl e2
        · exact Or.inr ⟨(hu1 e fe.1.1 fe.1.2 ne).trans e2, ⟨fe.1.1, by have := fe.1.2; omega⟩, e3⟩
      obtain ⟨g2, r2⟩ := q1.fin (e := e) (u' := u') (hi' := hi') (fun z z1 z2 => (hu z z1 (by omega) (by omega)).trans (vw2 z z1 z2)) (by omega) he
      exact ⟨max g1 g2, RpLs.snoc _ _ _ _ (RpLs.imp (fun _ _ _ _ k => k.mo (by omega)) _ _ _ _ r1) (r2.mo (by omega))⟩
    · rw [List.zip_append lx]
      rcases List.mem_append.mp ht with ht | ht
      · obtain ⟨f, f1, f2⟩ := hDz u' hi' (fun z z1 z2 z3 => ((hu z z1 (by omega) z3).trans (w2 z z3)).trans (b1.2.2.2.1.2.1 z z1 z2).1) (by omega) t ht
        exact ⟨f, List.mem_append_left _ f1, f2⟩
      · exact ⟨(e, y), List.mem_append_right _ (List.mem_singleton.mpr rfl), (q1.dz (by omega) (hee u' hi' hu hh)).2 t ht⟩
    · have : q + 1 + T1.length = q + (T1.length + 1) := by omega
      rw [this] at n3
      exact n3.nm (by rw [List.length_append]; omega)
    · rw [List.append_assoc] at D3
      exact D3
    · rw [List.append_assoc, List.append_assoc, ← List.zip_append lq] at Z3
      exact Z3
    · rw [List.length_append] at l3
      have l3 : es.length + 1 ≤ es3.length := l3
      omega
theorem B_all {T1 : List (Nat × Nat)} {d2 : List Nat} (hB : BuM m A pn S M) (hR : RgB m S G) (hf : S.1 + (3 + T1.length) ≤ 700) (hj : j < 40) (hr : r < 100) (e58 : A 58 (40 * m + j) = 16) (e69 : A 69 (40 * m + j) = Int32.ofNat r) (e75 : A 75 r = nxI T1) (hw1 : RowR W m zn fn lo hw A pn S G s0 r cx y p pm ds) (hq : RqL W m zn fn lo hw A pn (vwR S G) (700 * m + S.1) s0 cx T1 pm pb d2) (hfr : ∀ z ∈ d2, frN m S z) (hdj : ∀ z ∈ ds, z ∉ d2) (hs0 : s0 ≤ S.1) (hx : ndS (woV W) lo hw x 8 0 (y :: T1.map Prod.snd)) (C : KpZ W m zn fn A pn M S G s0 cx x p pb (3 + T1.length) (ds.length + d2.length) (40 * m + j) (ds.zip (chV W y) ++ d2.zip (T1.flatMap fun e => chV W e.2)) Q) : E (h + 6) mdX11_nodeOf [.ref 29, .int (Int32.ofNat (40 * m + j))] M Q := by
  refine B_hd hB hR (by omega) hj hr e69 hw1 hs0 (fun M1 S1 G1 d g b1 d1 r1 z1 => ?_)
  obtain ⟨F, h4, b2, b3, b4, b5, b6⟩ := id b1.1
  have l40 := lt40 h4 hj
  have v40 : ∀ {M : Mem} {c : Nat}, mL M c = 160 → vp_in (Int32.ofNat (40 * m + j)) (mL M c) := fun e => ix40 h4 hj e
  have m58 : mAI M1 58 (40 * m + j) = 16 := by rw [b5 58 (by decide) (by decide) (by decide)]; exact e58
  have s1 := b1.2.2.2.2.2
  have l1 : S.1 ≤ S1.1 := b1.2.2.2.1.1
  have hd := b1.2.2.2.2.1
  unfold DX11_nodeOf_24
  rw [l40]
  refine ⟨ok29 F, 58, rf29_38 F, ok58 F, v40 (ln58 F), ?_⟩
  rw [m58]
  refine ⟨fun z => absurd z (by decide), fun z => absurd z (by decide), fun z => absurd z (by decide), fun z => absurd z (by decide), fun z => absurd z (by decide), fun z => absurd z (by decide), fun z => absurd z (by decide), fun z => absurd z (by decide), fun z => absurd z (by decide), fun z => absurd z (by decide), fun z => absurd z (by decide), fun z => absurd z (by decide), fun z => absurd z (by decide), fun z => absurd z (by decide), fun z => absurd z (by decide), fun _ => ?_, fun z => absurd z (by decide)⟩
  refine B_ov1 (h := h + 3) b1.1 b1.2.2.1 (by omega) hd (fun M2 S2 G2 n n2 v2 _ => ⟨_, rfl, ?_⟩)
  have nb := n2.2.2.2.2.1
  have s2 := n2.2.2.2.2.2
  have F2 := n2.1.1
  have lr : (Int32.ofNat r).toNatClampNeg = r := lt32 (by omega)
  have m69 : mAI M2 69 (40 * m + j) = Int32.ofNat r := by rw [n2.1.2.2.2.2.2.1 69 (by decide) (by decide) (by decide)]; exact e69
  have m75 : mAI M2 75 r = nxI T1 := by rw [n2.1.2.2.2.2.2.1 75 (by decide) (by decide) (by decide)]; exact e75
  refine ⟨75, rf29_56 F2, 69, rf29_49 F2, ok69 F2, v40 (ln69 F2), ok75 F2, by rw [m69, ln75 F2]; exact vp_of hr (by decide), ?_⟩
  rw [m69, lr, m75]
  have k2 : NRx m A pn M S G M2 S2 G2 n (fun z => 700 * m + s0 ≤ z) 2 1 ds.length := (row_op hw1 b1 d1.1 n2 (fun z _ w => by rw [show z = d from w]; exact d1.1)).nm (by omega)
  refine all_loop (h := h + 2) (p0 := p) h4 T1 pm pb d2 M2 S2 G2 [d] [y] 2 ds.length (ds.zip (chV W y)) k2 v2 hq (fun z hz => ?_) (by omega) ?_ (fun u' hi' hu hh t ht => ⟨(d, y), List.mem_singleton.mpr rfl, DsN.st (fun z q1 q2 => (hu z q1 (by omega) (by omega)).trans (n2.vw z q1 q2)) (by omega) (z1 t ht)⟩) (fun M3 S3 G3 es n3 v3 D3 Z3 l3 => ?_)
  · have fz := hfr z hz
    refine n2.fr (b1.fr fz (fun w => hdj z w.1 hz)) (fun w => ?_)
    have w : z = d := w
    rcases d1.2 with e1 | e1
    · exact hdj d e1 (by rw [← w]; exact hz)
    · have := fz.1.2; omega
  · intro u' hi' hu hh
    refine ⟨g, pm, RpN.st (fun z z1 z2 => (hu z z1 (by omega) (by omega)).trans (n2.vw z z1 z2)) (by omega) _ _ _ _ _ _ _ (Nat.le_refl _) r1, rfl⟩
  · obtain ⟨g3, r3⟩ := D3 (vwR S3 G3) (700 * m + S3.1) (fun _ _ _ _ => rfl) (Nat.le_refl _)
    exact C M3 S3 G3 n (g3 + 1) (NRx.ny (n3.mo (by omega))) (N_al ⟨n3.own.1.1, n3.own.1.2⟩ hx v3 l3 r3) (fun t ht => by
      obtain ⟨f, f1, f2⟩ := Z3 (vwR S3 G3) (700 * m + S3.1) (fun _ _ _ _ => rfl) (Nat.le_refl _) t ht
      exact (DsN.ch n3.own.1 hx v3 (Or.inl (by decide)) f1).tr f2)
end
