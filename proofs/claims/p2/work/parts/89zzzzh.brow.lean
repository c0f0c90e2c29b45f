/-! the reference builds: the node of a row -/
/-- the nodes of these parts -/
def PnL (pn : Nat → Int32) : List Nat → List Nat → Prop
  | [], [] => True
  | P :: Ps, d :: ds => pn P = Int32.ofNat d ∧ PnL pn Ps ds
  | [], _ :: _ => False
  | _ :: _, [] => False
/-- as NRx, but node y may be an old one -/
def BxO (m : Nat) (A : Nat → Nat → Int32) (pn : Nat → Int32) (M : Mem) (S : RBs) (G : Nat → List Nat) (M' : Mem) (S' : RBs) (G' : Nat → List Nat) (y : Nat) (H : Nat → Prop) (q ea ca : Nat) : Prop := BuM m A pn S' M' ∧ RGb m M M' ∧ RgB m S' G' ∧ FrB m S G S' G' H ∧ frN m S' y ∧ (S'.1 ≤ S.1 + q ∧ rtC m S' + ca ≤ rtC m S + ea ∧ trN m S.1 S')
section
variable {m : Nat} {A : Nat → Nat → Int32} {pn : Nat → Int32} {S S' : RBs} {G G' : Nat → List Nat} {M M' : Mem} {h : Nat} {Q : Option Value → Mem → Prop} {W : Wo} {zn fn lo hw p p' x y j g c d q n ea ca : Nat} {cx : List (Option Nat)} {H : Nat → Prop}
theorem NRx.bx (h : NRx m A pn M S G M' S' G' y H q ea ca) : BxO m A pn M S G M' S' G' y H q ea ca := ⟨h.1, h.2.1, h.2.2.1, h.2.2.2.1, h.own, h.2.2.2.2.2⟩
theorem BxO.fr (h : BxO m A pn M S G M' S' G' y H q ea ca) (hc : frN m S c) (nh : ¬ H c) : frN m S' c := by
  have q := h.2.2.2.1.2.1 c hc.1.1 hc.1.2
  have := h.2.2.2.1.1
  exact ⟨⟨hc.1.1, by have := hc.1.2; omega⟩, (q.2 nh).trans hc.2⟩
theorem BxO.rp {g' : Nat} (h : BxO m A pn M S G M' S' G' y H q ea ca) (hr : RpN W m zn fn (vwR S G) (700 * m + S.1) g cx c x p p') (hg : g ≤ g') : RpN W m zn fn (vwR S' G') (700 * m + S'.1) g' cx c x p p' := RpN.st (fun z h1 h2 => (h.2.2.2.1.2.1 z h1 h2).1) (by have := h.2.2.2.1.1; omega) _ _ _ _ _ _ _ hg hr
theorem row_loop {M0 : Mem} {S0 : RBs} {G0 : Nat → List Nat} (h4 : m < 4) : ∀ (ts : List Nat) (P : Nat) (es : List Nat) (d : Nat) (M : Mem) (S : RBs) (G : Nat → List Nat) (ds : List Nat) (H : Nat → Prop) (ca : Nat), NRx m A pn M0 S0 G0 M S G n H q ea ca → vwR S G n = (6, -1, ds) → ChA A P ts → (∀ z ∈ P :: ts, z < 160) → PnL pn (P :: ts) (d :: es) → (∀ e ∈ d :: es, frN m S e ∧ e ≠ n) → (d :: es).Nodup → (∀ M' S' G', NRx m A pn M0 S0 G0 M' S' G' n (fun z => H z ∨ z ∈ d :: es) q ea (ca + (es.length + 1)) → vwR S' G' n = (6, -1, ds ++ d :: es) → S'.1 = S.1 → (∀ z, z ≠ n → vwR S' G' z = vwR S G z) → Q (some (.int (Int32.ofNat n))) M') → T (h + 2) mdX11_rowNode 32 [(0, .ref 29), (2, .int (Int32.ofNat P)), (3, .int (Int32.ofNat n))] [] M Q := by
  intro ts
  induction ts with
  | nil =>
    intro P es d M S G ds H ca n0 v0 hch hP hpn hfr hnd K
    have hes : es = [] := by
      cases es with
      | nil => rfl
      | cons e es => exact hpn.2.elim
    subst hes
    have hB := n0.1
    have F := hB.1
    have lP : (Int32.ofNat P).toNatClampNeg = P := lt32 (by have := hP P List.mem_cons_self; omega)
    have vP : ∀ {k : Nat}, k = 160 → vp_in (Int32.ofNat P) k := fun e => by rw [e]; exact vp_of (hP P List.mem_cons_self) (by decide)
    refine VX11_rowNode_32 ?_
    unfold DX11_rowNode_32
    refine ⟨fun z => absurd z (nm32 (by have := hP P List.mem_cons_self; omega)), fun _ => ⟨ok29 F, 90, rf29_72 F, ok90 F, vP (ln90 F), ?_⟩⟩
    rw [lP, hB.2.2.2.2.2.2, hpn.1]
    obtain ⟨f1, f2⟩ := hfr d List.mem_cons_self
    refine B_ad n0 v0 f1 f2 (fun M1 S1 G1 n1 v1 fr1 e1 w1 _ => ⟨rfl, 70, rf29_50 n1.1.1, ok70 n1.1.1, vP (ln70 n1.1.1), ?_⟩)
    have e70 : mAI M1 70 P = -1 := by rw [n1.1.2.2.2.2.2.1 70 (by decide) (by decide) (by decide)]; exact hch
    rw [e70]
    refine VX11_rowNode_32 ?_
    unfold DX11_rowNode_32
    refine ⟨fun _ => K M1 S1 G1 ?_ v1 e1 w1, fun z => absurd rfl z⟩
    exact ⟨n1.1, n1.2.1, n1.2.2.1, n1.2.2.2.1.more (fun z _ _ w => by
      rcases w with w | w
      · exact Or.inl w
      · exact Or.inr (by rw [w]; exact List.mem_cons_self)), n1.2.2.2.2⟩
  | cons P2 ts ih =>
    intro P es d M S G ds H ca n0 v0 hch hP hpn hfr hnd K
    cases es with
    | nil => exact hpn.2.elim
    | cons d2 es =>
      have hB := n0.1
      have F := hB.1
      have lP : (Int32.ofNat P).toNatClampNeg = P := lt32 (by have := hP P List.mem_cons_self; omega)
      have vP : ∀ {k : Nat}, k = 160 → vp_in (Int32.ofNat P) k := fun e => by rw [e]; exact vp_of (hP P List.mem_cons_self) (by decide)
      refine VX11_rowNode_32 ?_
      unfold DX11_rowNode_32
      refine ⟨fun z => absurd z (nm32 (by have := hP P List.mem_cons_self; omega)), fun _ => ⟨ok29 F, 90, rf29_72 F, ok90 F, vP (ln90 F), ?_⟩⟩
      rw [lP, hB.2.2.2.2.2.2, hpn.1]
      obtain ⟨f1, f2⟩ := hfr d List.mem_cons_self
      refine B_ad n0 v0 f1 f2 (fun M1 S1 G1 n1 v1 fr1 e1 w1 _ => ⟨rfl, 70, rf29_50 n1.1.1, ok70 n1.1.1, vP (ln70 n1.1.1), ?_⟩)
      have e70 : mAI M1 70 P = Int32.ofNat P2 := by rw [n1.1.2.2.2.2.2.1 70 (by decide) (by decide) (by decide)]; exact hch.1
      rw [e70]
      have nd := List.nodup_cons.mp hnd
      refine ih P2 es d2 M1 S1 G1 (ds ++ [d]) _ _ n1 v1 hch.2 (fun z hz => hP z (List.mem_cons_of_mem _ hz)) hpn.2 (fun e he => ?_) nd.2 (fun M2 S2 G2 n2 v2 e2 w2 => K M2 S2 G2 ?_ ?_ (e2.trans e1) (fun z hz => (w2 z hz).trans (w1 z hz)))
      · have q := hfr e (List.mem_cons_of_mem _ he)
        exact ⟨fr1 e q.1 (fun z => nd.1 (by rw [← z]; exact he)), q.2⟩
      · refine NRx.nm (ea1 := ea) (ca1 := ca + 1 + (es.length + 1)) ⟨n2.1, n2.2.1, n2.2.2.1, n2.2.2.2.1.more (fun z _ _ w => ?_), n2.2.2.2.2⟩ (by show ea + (ca + (es.length + 1 + 1)) ≤ _; omega)
        rcases w with (w | w) | w
        · exact Or.inl w
        · exact Or.inr (by rw [w]; exact List.mem_cons_self)
        · exact Or.inr (List.mem_cons_of_mem _ w)
      · rw [v2, List.append_assoc]; rfl
/-- a row that is ready: its parts have nodes that no one has adopted, all from s0 on -/
def RowR (W : Wo) (m zn fn lo hw : Nat) (A : Nat → Nat → Int32) (pn : Nat → Int32) (S : RBs) (G : Nat → List Nat) (s0 r : Nat) (cx : List (Option Nat)) (y p p' : Nat) (ds : List Nat) : Prop := ∃ a t xs g, RwA A r a t ∧ (∀ z ∈ a :: t, z < 160) ∧ PnL pn (a :: t) ds ∧ (∀ d ∈ ds, frN m S d ∧ 700 * m + s0 ≤ d) ∧ ds.Nodup ∧ ndS (woV W) lo hw y 5 0 xs ∧ RpLs (RpN W m zn fn (vwR S G) (700 * m + S.1) g cx) ds xs p p'
theorem B_row {s0 r : Nat} {ds : List Nat} (hB : BuM m A pn S M) (hR : RgB m S G) (hf : S.1 + 1 ≤ 700) (hr : r < 100) (hw1 : RowR W m zn fn lo hw A pn S G s0 r cx x p p' ds) (hs : s0 ≤ S.1) (K : ∀ M' S' G' y g, BxO m A pn M S G M' S' G' y (fun z => z ∈ ds ∧ z ≠ y) 1 1 ds.length → (700 * m + s0 ≤ y ∧ (y ∈ ds ∨ 700 * m + S.1 ≤ y)) → RpN W m zn fn (vwR S' G') (700 * m + S'.1) g cx y x p p' → (∀ e ∈ ds.zip (chV W x), DsN W m (vwR S' G') (700 * m + S'.1) y x e.1 e.2) → Q (some (.int (Int32.ofNat y))) M') : E (h + 2) mdX11_rowNode [.ref 29, .int (Int32.ofNat r)] M Q := by
  obtain ⟨a, t, xs, g, ⟨w1, w2, w3⟩, w4, w5, w6, w7, w8, w9⟩ := hw1
  obtain ⟨F, h4, b2, b3, b4, b5, b6⟩ := id hB
  have lr : (Int32.ofNat r).toNatClampNeg = r := lt32 (by omega)
  have ha := w4 a List.mem_cons_self
  have la : (Int32.ofNat a).toNatClampNeg = a := lt32 (by omega)
  have va : ∀ {k : Nat}, k = 160 → vp_in (Int32.ofNat a) k := fun e => by rw [e]; exact vp_of ha (by decide)
  have e73 : mAI M 73 r = Int32.ofNat a := by rw [b5 73 (by decide) (by decide) (by decide)]; exact w1
  have e70 : mAI M 70 a = A 70 a := by rw [b5 70 (by decide) (by decide) (by decide)]
  refine KX11_rowNode ?_
  unfold DX11_rowNode_0
  rw [lr]
  refine ⟨ok29 F, 73, rf29_54 F, ok73 F, by rw [ln73 F]; exact vp_of hr (by decide), 70, rf29_50 F, ok70 F, by rw [e73]; exact va (ln70 F), ?_⟩
  rw [e73, la, e70]
  cases t with
  | nil =>
    have w3 : A 70 a = -1 := w3
    refine ⟨fun z => absurd w3 z, fun _ => ⟨90, rf29_72 F, ok90 F, va (ln90 F), ?_⟩⟩
    cases ds with
    | nil => exact w5.elim
    | cons d ds =>
      cases ds with
      | cons e es => exact w5.2.elim
      | nil =>
        rw [b6, w5.1]
        obtain ⟨f1, f2⟩ := w6 d List.mem_cons_self
        cases xs with
        | nil => exact w9.elim
        | cons x1 xs =>
          obtain ⟨pm, r1, r2⟩ := w9
          cases xs with
          | cons _ _ => exact r2.elim
          | nil =>
            have r2 : p' = pm := r2
            subst r2
            exact K M S G d (g + 1) ⟨hB, RG.rf, hR, FrB.rf, f1, Nat.le_succ _, Nat.le_refl _, fun z z1 z2 _ => absurd z1 (by omega)⟩ ⟨f2, Or.inl List.mem_cons_self⟩ (N_se1 w8 r1) (fun e he => by
              have ec : chV W x = [x1] := w8.2.2.2
              rw [ec] at he
              have he : e = (d, x1) := List.mem_singleton.mp he
              rw [he]
              exact DsN.o1 f1.1 w8)
  | cons a2 t =>
    have w3 : A 70 a = Int32.ofNat a2 ∧ ChA A a2 t := w3
    have ne : A 70 a ≠ -1 := by rw [w3.1]; exact nm32 (by have := w4 a2 (by simp); omega)
    refine ⟨fun _ => B_nd hB hR (by omega) (fun M1 S1 G1 n n1 v1 _ => ⟨_, rfl, ?_⟩), fun z => absurd z ne⟩
    have nb := n1.2.2.2.2.1
    cases ds with
    | nil => exact w5.elim
    | cons d ds =>
      refine row_loop (h := h) h4 (a2 :: t) a ds d M1 S1 G1 [] noN 0 n1 v1 w3 w4 w5 (fun e he => ?_) w7 (fun M2 S2 G2 n2 v2 e2 k2 => K M2 S2 G2 n (g + 1) ?_ ⟨by omega, Or.inr nb.1⟩ ?_ (fun e he => by
        have ec : chV W x = xs := w8.2.2.2
        rw [ec] at he
        refine DsN.ch n2.own.1 w8 v2 (Or.inr ?_) he
        have ll := RpLs.ln _ _ _ _ w9
        cases ds with
        | nil => exact w5.2.elim
        | cons e es => rw [← ll]; simp))
      · obtain ⟨f1, f2⟩ := w6 e he
        exact ⟨n1.fr f1 (fun z => z), by have := f1.1.2; omega⟩
      · refine ⟨n2.1, n2.2.1, n2.2.2.1, n2.2.2.2.1.more (fun z _ z2 w => ?_), n2.own, n2.2.2.2.2.2.1, by have := n2.2.2.2.2.2.2.1; show _ + (ds.length + 1) ≤ _; omega, n2.2.2.2.2.2.2.2⟩
        rcases w with w | w
        · exact w.elim
        · exact ⟨w, by omega⟩
      · refine N_seq ⟨n2.own.1.1, n2.own.1.2⟩ w8 v2 ?_ (RpLs.imp (fun _ _ _ _ k => n2.rp k (Nat.le_refl _)) _ _ _ _ w9)
        cases ds with
        | nil => exact w5.2.elim
        | cons e es => show 2 ≤ (e :: es).length + 1; simp
end
