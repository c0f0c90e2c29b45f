/-! what parts give and use: the whole reading, by its pieces -/
section
variable {b : Nat → Int32} {n s m : Nat} {τ : Td}
theorem hd_17 {j i : Nat} {K : List KE} {σ : PS} {r : Nat × PS × Nat × Bool × Nat × Option Int64} (e : hdM b n m τ 17 j i K σ = .ok r) : giS r.2.1 = giS σ ∧ usS r.2.1 = usS σ := by
  unfold hdM at e
  rw [if_neg (by decide), if_neg (by decide), if_neg (by decide), if_neg (by decide), if_neg (by decide), if_neg (by decide), if_pos rfl] at e
  cases e
  exact ⟨rfl, rfl⟩
/-- the head of a part, as the first piece -/
theorem gq_hd (h4 : m < 4) (hv : HvT τ) {K : List KE} {i : Nat} {σ : PS} {h : Nat × PS × Nat × Bool × Nat × Option Int64} (hop : opnK (tK b n i) = true) (eh : hdM b n m τ (tK b n i) (npS σ) (i + 1) K (bgP m (tK b n i) (tP b n i) (sqK K) K.length (whK (tK b n i) (tC b n i) τ) σ) = .ok h) (hH : Hd m (npS σ) (bgP m (tK b n i) (tP b n i) (sqK K) K.length (whK (tK b n i) (tC b n i) τ) σ) h.2.1) (hX : h.2.1.2.2.1.length < 900) : GQ m σ h.2.1 (giS σ) (usS σ) ∧ npS h.2.1 = npS σ + 1 := by
  obtain ⟨n1, n2, -⟩ := bg_n (m := m) (σ := σ) (k := tK b n i) (pl := tP b n i) (q := sqK K) (d := K.length) (wh := whK (tK b n i) (tC b n i) τ)
  have en : npS h.2.1 = npS σ + 1 := by rw [← n1]; unfold npS; rw [hH.1]
  have k2 : tK b n i ≠ 2 := fun z => by rw [z] at hop; exact absurd hop (by decide)
  obtain ⟨g1, Y, g2⟩ := hd_u h4 hv eh hX bg_0.1 k2
  refine ⟨⟨⟨Y, g2⟩, fun _ => ?_⟩, en⟩
  rw [en]
  exact GR.one g1
theorem rp_X (hS : Sto b n s) (h4 : m < 4) (hv : HvT τ) : ∀ g, (∀ K i σ r, i ≤ s ∧ tK b n i ≠ 0 ∧ RpI m 0 K σ 0 0 → rp b n m τ g 0 K i σ 0 0 0 0 0 0 = .ok r → r.2.1.2.2.1.length < 900 → GQ m σ r.2.1 (giS σ) (usS σ)) ∧ (∀ K i σ a1 r, i ≤ s ∧ tK b n i ≠ 0 ∧ RpI m 1 K σ 0 0 → rp b n m τ g 1 K i σ a1 0 0 0 0 0 = .ok r → r.2.1.2.2.1.length < 900 → GQ m σ r.2.1 (giS σ) (usS σ)) ∧ (∀ K i σ r, i ≤ s ∧ tK b n i ≠ 0 ∧ RpI m 2 K σ 0 0 → rp b n m τ g 2 K i σ 0 0 0 0 0 0 = .ok r → r.2.1.2.2.1.length < 900 → GQ m σ r.2.1 (giS σ) (usS σ)) ∧ (∀ K i σ a1 a2 a3 a4 c1 c2 r, i ≤ s ∧ tK b n i ≠ 0 ∧ RpI m 3 K σ a2 a3 → rp b n m τ g 3 K i σ a1 a2 a3 a4 c1 c2 = .ok r → r.2.1.2.2.1.length < 900 → GQ m σ r.2.1 c1 c2) := by
  have le : ∀ {σ σ1 : PS} {g u : Int32}, GQ m σ σ1 g u → σ.2.2.1.length ≤ σ1.2.2.1.length := fun h => by
    obtain ⟨⟨Y, e⟩, -⟩ := h
    rw [e, List.length_append]; omega
  refine rp_ind hS (fun _ _ σ r => r.2.1.2.2.1.length < 900 → GQ m σ r.2.1 (giS σ) (usS σ)) (fun _ _ σ r => r.2.1.2.2.1.length < 900 → GQ m σ r.2.1 (giS σ) (usS σ)) (fun _ _ σ _ r => r.2.1.2.2.1.length < 900 → GQ m σ r.2.1 (giS σ) (usS σ)) (fun _ _ σ _ _ _ _ c1 c2 r => r.2.1.2.2.1.length < 900 → GQ m σ r.2.1 c1 c2) ?_ ?_ ?_ ?_ ?_ ?_ ?_ ?_ ?_ ?_
  · intro K i σ q r hR R2 p2 R1 p1 hX
    have g1 := p1 hX
    have g2 := p2 (by have := le g1; exact Nat.lt_of_le_of_lt this hX)
    have hn : npS σ ≤ npS q.2.1 := R2.2.1.1.1
    have g2 : GQ m σ (hgP q.2.1 (mkT (trS σ) 5).2 q.2.2) (giS σ) (usS σ) := g2
    exact g2.cat h4 g1 R1.2.1.1 (Nat.le_refl _) hn
  · intro K i σ a1 q r k13 hR R2 p2 R1 p1 hX
    have g1 := p1 hX
    have g2 := p2 (by have := le g1; exact Nat.lt_of_le_of_lt this hX)
    have hn : npS σ ≤ npS q.2.1 := R2.2.1.1.1
    have g2 : GQ m σ (hgP q.2.1 a1 q.2.2) (giS σ) (usS σ) := g2
    exact g2.cat h4 g1 R1.2.1.1 (Nat.le_refl _) hn
  · intro K i σ a1 k13 hR hX
    exact ⟨⟨[], (List.append_nil _).symm⟩, fun _ => GR.rf⟩
  · intro K i σ u eo ko el hH hR hX
    obtain ⟨n1, n2, -⟩ := bg_n (m := m) (σ := σ) (k := tK b n i) (pl := tP b n i) (q := sqK K) (d := K.length) (wh := whK (tK b n i) (tC b n i) τ)
    have en : npS u.2.1 = npS σ + 1 := by rw [← n1]; unfold npS; rw [hH.1.1]
    obtain ⟨g1, Y, g2⟩ := lf_u h4 hv el hX bg_0.1 (fun z => by rw [bg_0.2]; exact if_pos z)
    have g : GQ m σ u.2.1 (giS σ) (usS σ) := ⟨⟨Y, g2⟩, fun _ => by rw [en]; exact GR.one g1⟩
    exact g.step h4 GK.fi rfl rfl rfl (by omega)
  · intro K i σ h q eo k17 eh hH R3 p3 hR hX
    have g3 := p3 hX
    have l3 := le g3
    have hop : opnK (tK b n i) = true := by rw [k17]; decide
    obtain ⟨gh, en⟩ := gq_hd h4 hv hop eh hH (Nat.lt_of_le_of_lt l3 hX)
    rw [k17] at eh
    obtain ⟨e1, e2⟩ := hd_17 eh
    have e1 : giS h.2.1 = giS σ := e1
    have e2 : usS h.2.1 = usS σ := e2
    have gw := gh.step h4 (GK.rw (p := 40 * m + npS σ) (q0 := none)) rw_n.1 rfl rfl (by omega)
    have wn := rw_n (σ := h.2.1) (p := 40 * m + npS σ) (q0 := none)
    have gq : GQ m (rwP (40 * m + npS σ) none h.2.1) (guP q.2.1 (giS σ ||| giS q.2.1) (usS σ ||| usS q.2.1)) (giS (rwP (40 * m + npS σ) none h.2.1)) (usS (rwP (40 * m + npS σ) none h.2.1)) := by
      refine ⟨g3.1, fun hX2 => ?_⟩
      obtain ⟨b1, b2, b3⟩ := g3.2 hX
      refine ⟨?_, ?_, b3⟩
      · show giS σ ||| giS q.2.1 = giS h.2.1 ||| _
        rw [b1, e1, Int32.zero_or]; rfl
      · show usS σ ||| usS q.2.1 = usS h.2.1 ||| _
        rw [b2, e2, Int32.zero_or]; rfl
    have pv : Pv m (40 * m + npS (rwP (40 * m + npS σ) none h.2.1)) (rwP (40 * m + npS σ) none h.2.1) (guP q.2.1 (giS σ ||| giS q.2.1) (usS σ ||| usS q.2.1)) := R3.2.1.1.tr Pv.gu
    have gz := gw.cat h4 gq pv (Nat.le_refl _) (by rw [wn.1]; omega)
    have hn := pv.1
    exact gz.step h4 GK.fi rfl rfl rfl (by rw [wn.1] at hn; omega)
  · intro K i σ h q u eo hop k17 kc eh hH R0 p0 et hN hR hX
    have t := tl_g et
    have hX1 : q.2.1.2.2.1.length < 900 := by rw [← t.2.2.1]; exact hX
    have g0 := p0 hX1
    have l0 := le g0
    obtain ⟨gh, en⟩ := gq_hd h4 hv hop eh hH (Nat.lt_of_le_of_lt l0 hX1)
    have wn := rw_n (σ := h.2.1) (p := 40 * m + npS σ) (q0 := none)
    have gw := gh.step h4 (GK.rw (p := 40 * m + npS σ) (q0 := none)) wn.1 rfl rfl (by omega)
    have gq := gw.cat h4 g0 R0.2.1.1 (Nat.le_refl _) (by rw [wn.1]; omega)
    have hn := R0.2.1.1.1
    rw [wn.1] at hn
    have eu : npS u.2.1 = npS q.2.1 := by unfold npS; rw [hN.1.1]
    have gu := gq.step h4 (GK.tg t) eu t.1 t.2.1 (by omega)
    exact gu.step h4 GK.fi rfl rfl rfl (by omega)
  · intro K i σ h q t u eo hop kc eh hH R0 p0 k46 R4 p4 ec hN hR hX
    have tc : Tg t.2.1 u.2.1 := by
      unfold chM at ec
      obtain ⟨i2, -, ec⟩ := bind_ok ec
      cases ec
      exact Tg.rf.tree
    have hX2 : t.2.1.2.2.1.length < 900 := by rw [← tc.2.2.1]; exact hX
    have g4 := p4 hX2
    have hX1 : q.2.1.2.2.1.length < 900 := Nat.lt_of_le_of_lt (le g4) hX2
    have g0 := p0 hX1
    have l0 := le g0
    obtain ⟨gh, en⟩ := gq_hd h4 hv hop eh hH (Nat.lt_of_le_of_lt l0 hX1)
    have wn := rw_n (σ := h.2.1) (p := 40 * m + npS σ) (q0 := none)
    have gw := gh.step h4 (GK.rw (p := 40 * m + npS σ) (q0 := none)) wn.1 rfl rfl (by omega)
    have gq := gw.cat h4 g0 R0.2.1.1 (Nat.le_refl _) (by rw [wn.1]; omega)
    have hn := R0.2.1.1.1
    rw [wn.1] at hn
    have wm := rw_n (σ := q.2.1) (p := 40 * m + npS σ) (q0 := some (h.2.1.1.1 4))
    have gv := gq.step h4 (GK.rw (p := 40 * m + npS σ) (q0 := some (h.2.1.1.1 4))) wm.1 rfl rfl (by omega)
    have gt := gv.cat h4 g4 R4.2.1.1 (Nat.le_refl _) (by rw [wm.1]; omega)
    have hm := R4.2.1.1.1
    rw [wm.1] at hm
    have eu : npS u.2.1 = npS t.2.1 := by unfold npS; rw [hN.1.1]
    have gu := gt.step h4 (GK.tg tc) eu tc.1 tc.2.1 (by omega)
    exact gu.step h4 GK.fi rfl rfl rfl (by omega)
  · intro K i σ h q u eo hop kc eh hH R0 p0 k46 ec hN hR hX
    have tc : Tg q.2.1 u.2.1 := by
      unfold chM at ec
      obtain ⟨i2, -, ec⟩ := bind_ok ec
      cases ec
      exact Tg.rf.tree.tree
    have hX1 : q.2.1.2.2.1.length < 900 := by rw [← tc.2.2.1]; exact hX
    have g0 := p0 hX1
    have l0 := le g0
    obtain ⟨gh, en⟩ := gq_hd h4 hv hop eh hH (Nat.lt_of_le_of_lt l0 hX1)
    have wn := rw_n (σ := h.2.1) (p := 40 * m + npS σ) (q0 := none)
    have gw := gh.step h4 (GK.rw (p := 40 * m + npS σ) (q0 := none)) wn.1 rfl rfl (by omega)
    have gq := gw.cat h4 g0 R0.2.1.1 (Nat.le_refl _) (by rw [wn.1]; omega)
    have hn := R0.2.1.1.1
    rw [wn.1] at hn
    have eu : npS u.2.1 = npS q.2.1 := by unfold npS; rw [hN.1.1]; rfl
    have gu := gq.step h4 (GK.tg tc) eu tc.1 tc.2.1 (by omega)
    exact gu.step h4 GK.fi rfl rfl rfl (by omega)
  · intro K i σ a1 a2 a3 a4 c1 c2 q r hR R0 p0 k6 k8 R3 p3 hX
    have g3 := p3 hX
    have bx : (brP q.2.1 a2 a1 q.2.2 c1 c2).2.2 = q.2.1.2.2 ∧ giS (brP q.2.1 a2 a1 q.2.2 c1 c2) = c1 ||| giS q.2.1 ∧ usS (brP q.2.1 a2 a1 q.2.2 c1 c2) = c2 ||| usS q.2.1 := by
      unfold brP
      split
      · exact ⟨rfl, rfl, rfl⟩
      · exact ⟨rfl, rfl, rfl⟩
    have bn := (br_n (σ := q.2.1) (j := a2) (a := a1) (x := q.2.2) (g := c1) (u := c2)).1
    obtain ⟨bx, by1, by2⟩ := bx
    have l3 := le g3
    have wn := rw_n (σ := brP q.2.1 a2 a1 q.2.2 c1 c2) (p := 40 * m + a2) (q0 := some a3)
    have hX1 : q.2.1.2.2.1.length < 900 := by
      have : (rwP (40 * m + a2) (some a3) (brP q.2.1 a2 a1 q.2.2 c1 c2)).2.2.1.length = q.2.1.2.2.1.length := by rw [show (rwP (40 * m + a2) (some a3) (brP q.2.1 a2 a1 q.2.2 c1 c2)).2.2 = q.2.1.2.2 from bx]
      omega
    have g0 := p0 hX1
    have hn : npS σ ≤ npS q.2.1 := R0.2.1.1.1
    have en : npS (brP q.2.1 a2 a1 q.2.2 c1 c2) = npS q.2.1 := by unfold npS; rw [bn]
    have gb : GQ m σ (brP q.2.1 a2 a1 q.2.2 c1 c2) c1 c2 := by
      refine ⟨by rw [bx]; exact g0.1, fun _ => ?_⟩
      obtain ⟨b1, b2, b3⟩ := g0.2 hX1
      refine ⟨?_, ?_, ?_⟩
      · rw [by1, b1, en, bn]; show c1 ||| ((0 : Int32) ||| _) = _; rw [Int32.zero_or]; rfl
      · rw [by2, b2, en, bn, bx]; show c2 ||| ((0 : Int32) ||| _) = _; rw [Int32.zero_or]; rfl
      · rw [en, bn, bx]; exact b3
    have gw := gb.step h4 (GK.rw (p := 40 * m + a2) (q0 := some a3)) wn.1 rfl rfl (by omega)
    refine gw.cat h4 ?_ R3.2.1.1 (Nat.le_refl _) (by rw [wn.1]; omega)
    have e1 : giS (rwP (40 * m + a2) (some a3) (brP q.2.1 a2 a1 q.2.2 c1 c2)) = c1 ||| giS q.2.1 := by1
    have e2 : usS (rwP (40 * m + a2) (some a3) (brP q.2.1 a2 a1 q.2.2 c1 c2)) = c2 ||| usS q.2.1 := by2
    rw [e1, e2]
    exact g3
  · intro K i σ a1 a2 a3 a4 c1 c2 q hR R0 p0 k6 hX
    have bx : (brP q.2.1 a2 a1 q.2.2 c1 c2).2.2 = q.2.1.2.2 ∧ giS (brP q.2.1 a2 a1 q.2.2 c1 c2) = c1 ||| giS q.2.1 ∧ usS (brP q.2.1 a2 a1 q.2.2 c1 c2) = c2 ||| usS q.2.1 := by
      unfold brP
      split
      · exact ⟨rfl, rfl, rfl⟩
      · exact ⟨rfl, rfl, rfl⟩
    have bn := (br_n (σ := q.2.1) (j := a2) (a := a1) (x := q.2.2) (g := c1) (u := c2)).1
    obtain ⟨bx, by1, by2⟩ := bx
    have hX1 : q.2.1.2.2.1.length < 900 := by rw [← bx]; exact hX
    have g0 := p0 hX1
    have en : npS (brP q.2.1 a2 a1 q.2.2 c1 c2) = npS q.2.1 := by unfold npS; rw [bn]
    refine ⟨by show ∃ Y, (brP q.2.1 a2 a1 q.2.2 c1 c2).2.2.1 = _; rw [bx]; exact g0.1, fun _ => ?_⟩
    obtain ⟨b1, b2, b3⟩ := g0.2 hX1
    show GR m (npS σ) (npS (brP q.2.1 a2 a1 q.2.2 c1 c2)) (brP q.2.1 a2 a1 q.2.2 c1 c2) c1 c2
    refine ⟨?_, ?_, ?_⟩
    · rw [by1, b1, en, bn]; show c1 ||| ((0 : Int32) ||| _) = _; rw [Int32.zero_or]; rfl
    · rw [by2, b2, en, bn, bx]; show c2 ||| ((0 : Int32) ||| _) = _; rw [Int32.zero_or]; rfl
    · rw [en, bn, bx]; exact b3
end
