section
/-! what parts give and use: the whole reading -/
def GQ (m : Nat) (σ σ' : PS) (g u : Int32) : Prop := (∃ Y, σ'.2.2.1 = σ.2.2.1 ++ Y) ∧ (σ'.2.2.1.length < 900 → GR m (npS σ) (npS σ') σ' g u)
section
variable {b : Nat → Int32} {n s m : Nat} {τ : Td} {σ σ1 σ2 σ3 : PS} {g u : Int32} {B j j' : Nat}
theorem GK.pv (h : Pv m B σ σ1) (hB : 40 * m + j' ≤ B) (hY : ∃ Y, σ1.2.2.1 = σ.2.2.1 ++ Y) : GK m j j' σ σ1 := ⟨fun c k z1 z2 z3 z4 z5 => h.2.2.1 c z1 (by omega) (by omega) (40 * m + k) (by omega), hY⟩
theorem GK.rw {p : Nat} {q0 : Option Nat} : GK m j j' σ (rwP p q0 σ) := by
  refine ⟨fun c k z1 z2 z3 z4 z5 => ?_, [], (List.append_nil _).symm⟩
  cases q0 with
  | none =>
    show up2 (up2 (up2 (up2 σ.1.2.1 73 _ _) 74 _ _) 75 _ _) 69 _ _ c _ = _
    rw [up2_ne (fun z => by omega), up2_ne (fun z => by omega), up2_ne (fun z => by omega), up2_ne (fun z => by omega)]
  | some q =>
    show up2 (up2 (up2 (up2 σ.1.2.1 73 _ _) 74 _ _) 75 _ _) 75 _ _ c _ = _
    rw [up2_ne (fun z => by omega), up2_ne (fun z => by omega), up2_ne (fun z => by omega), up2_ne (fun z => by omega)]
theorem GK.tg (h : Tg σ σ1) : GK m j j' σ σ1 := ⟨fun c k z1 z2 z3 _ _ => h.2.2.2 c _ z3, [], by rw [List.append_nil]; exact h.2.2.1⟩
theorem GK.fi {x y : Nat} : GK m j j' σ (fiP m x y σ) := by
  refine ⟨fun c k z1 z2 z3 _ _ => ?_, [], (List.append_nil _).symm⟩
  show up2 σ.1.2.1 71 _ _ c _ = _
  exact up2_ne (fun z => by omega)
theorem GQ.step (h4 : m < 4) (h : GQ m σ σ1 g u) (kp : GK m (npS σ) (npS σ1) σ1 σ2) (en : npS σ2 = npS σ1) (e1 : giS σ2 = giS σ1) (e2 : usS σ2 = usS σ1) (hn : npS σ ≤ npS σ1) : GQ m σ σ2 g u := by
  obtain ⟨⟨Y, h1⟩, h2⟩ := h
  obtain ⟨Z, h3⟩ := id kp.2
  refine ⟨⟨Y ++ Z, by rw [h3, h1, List.append_assoc]⟩, fun hX => ?_⟩
  have l := kp.len
  rw [en]
  exact (h2 (by omega)).tl h4 (by omega) kp e1 e2 hn
theorem GQ.cat (h4 : m < 4) (h : GQ m σ σ1 g u) (k : GQ m σ1 σ2 (giS σ1) (usS σ1)) (pv : Pv m B σ1 σ2) (hB : 40 * m + npS σ1 ≤ B) (hn : npS σ ≤ npS σ1) : GQ m σ σ2 g u := by
  obtain ⟨⟨Y, h1⟩, h2⟩ := h
  obtain ⟨⟨Z, k1⟩, k2⟩ := k
  have kp : GK m (npS σ) (npS σ1) σ1 σ2 := GK.pv pv hB ⟨Z, k1⟩
  refine ⟨⟨Y ++ Z, by rw [k1, h1, List.append_assoc]⟩, fun hX => ?_⟩
  have l := kp.len
  exact (h2 (by omega)).tr h4 (by omega) kp (k2 hX) hn pv.1
theorem bg_0 {k : Int32} {pl q d : Nat} {wh : Int32} : Bg0 m (npS σ) k (bgP m k pl q d wh σ) ∧ (bgP m k pl q d wh σ).1.2.1 60 (40 * m + npS σ) = wh := by
  have e : (bgP m k pl q d wh σ).1.2.1 = up2 (lkA (40 * m + npS σ) q (b9K (40 * m + npS σ) (soK k) pl wh σ.1.2.1)) 74 q (Int32.ofNat (40 * m + npS σ)) := rfl
  have f : ∀ c, c ≤ 69 → (bgP m k pl q d wh σ).1.2.1 c (40 * m + npS σ) = b9K (40 * m + npS σ) (soK k) pl wh σ.1.2.1 c (40 * m + npS σ) := fun c hc => by
    rw [e, up2_ne (fun z => by omega), lk_ne (by omega) (fun z => by omega)]
  refine ⟨⟨?_, ?_, ?_⟩, ?_⟩
  · rw [f 58 (by decide)]; simp [b9K, up2]
  · rw [f 65 (by decide)]; simp [b9K, up2]
  · rw [f 67 (by decide)]; simp [b9K, up2]
  · rw [f 60 (by decide)]; simp [b9K, up2]
end
end
section
/-! what parts give and use: the whole reading, by its pieces -/
section
variable {b : Nat → Int32} {n s m : Nat} {τ : Td}
theorem hd_17 {j i : Nat} {K : List KE} {σ : PS} {r : Nat × PS × Nat × Bool × Nat × Option Int64} (e : hdM b n m τ 17 j i K σ = .ok r) : giS r.2.1 = giS σ ∧ usS r.2.1 = usS σ := by
  unfold hdM at e
  rw [if_neg (by decide), if_neg (by decide), if_neg (by decide), if_neg (by decide), if_neg (by decide), if_neg (by decide), if_pos rfl] at e
  cases e
  exact ⟨rfl, rfl⟩
/-- the head of a part, as the first piece -/
theorem gq_hd (h4 : m < 4) (hv : HvT τ) {K : List KE} {i : Nat} {σ : PS} {h : Nat × PS × Nat × Bool × Nat × Option Int64} (hop : opnK (tK b n i) = true) (eh : hdM b n m τ (tK b n i) (npS σ) (i + 1) K (bgP m (tK b n i) (tP b n i) (sqK K) K.length (whK (tK b n i) (tC b n i) τ) σ) = .ok h) (hH : Hd m (npS σ) (bgP m (tK b n i) (tP b n i) (sqK K) K.length (whK (tK b n i) (tC b n i) τ) σ) h.2.1) (hX : h.2.1.2.2.1.length < 900) : GQ m σ h.2.1 (giS σ) (usS σ) ∧ npS h.2.1 = npS σ + 1 := by
  obtain ⟨n1, n2, -⟩ := bg_n (m := m) (σ := σ) (k := tK b n i) (pl := tP b n i) (q := sqK K) (d := K.length) (wh := whK (tK b n i) (tC b n i) τ)
  have en : npS h.2.1 = npS σ + 1 := by rw [← n1]; unfold npS; rw [hH.1]
  have k2 : tK b n i ≠ 2 := fun z => by rw [z] at hop; exact absurd hop (by decide)
  obtain ⟨g1, Y, g2⟩ := hd_u h4 hv eh hX bg_0.1 k2
  refine ⟨⟨⟨Y, g2⟩, fun _ => ?_⟩, en⟩
  rw [en]
  exact GR.one g1
theorem rp_X (hS : Sto b n s) (h4 : m < 4) (hv : HvT τ) : ∀ g, (∀ K i σ r, i ≤ s ∧ tK b n i ≠ 0 ∧ RpI m 0 K σ 0 0 → rp b n m τ g 0 K i σ 0 0 0 0 0 0 = .ok r → r.2.1.2.2.1.length < 900 → GQ m σ r.2.1 (giS σ) (usS σ)) ∧ (∀ K i σ a1 r, i ≤ s ∧ tK b n i ≠ 0 ∧ RpI m 1 K σ 0 0 → rp b n m τ g 1 K i σ a1 0 0 0 0 0 = .ok r → r.2.1.2.2.1.length < 900 → GQ m σ r.2.1 (giS σ) (usS σ)) ∧ (∀ K i σ r, i ≤ s ∧ tK b n i ≠ 0 ∧ RpI m 2 K σ 0 0 → rp b n m τ g 2 K i σ 0 0 0 0 0 0 = .ok r → r.2.1.2.2.1.length < 900 → GQ m σ r.2.1 (giS σ) (usS σ)) ∧ (∀ K i σ a1 a2 a3 a4 c1 c2 r, i ≤ s ∧ tK b n i ≠ 0 ∧ RpI m 3 K σ a2 a3 → rp b n m τ g 3 K i σ a1 a2 a3 a4 c1 c2 = .ok r → r.2.1.2.2.1.length < 900 → GQ m σ r.2.1 c1 c2) := by
  have le : ∀ {σ σ1 : PS} {g u : Int32}, GQ m σ σ1 g u → σ.2.2.1.length ≤ σ1.2.2.1.length := fun h => by
    obtain ⟨⟨Y, e⟩, -⟩ := h
    rw [e, List.length_append]; omega
  refine rp_ind hS (fun _ _ σ r => r.2.1.2.2.1.length < 900 → GQ m σ r.2.1 (giS σ) (usS σ)) (fun _ _ σ r => r.2.1.2.2.1.length < 900 → GQ m σ r.2.1 (giS σ) (usS σ)) (fun _ _ σ _ r => r.2.1.2.2.1.length < 900 → GQ m σ r.2.1 (giS σ) (usS σ)) (fun _ _ σ _ _ _ _ c1 c2 r => r.2.1.2.2.1.length < 900 → GQ m σ r.2.1 c1 c2) ?_ ?_ ?_ ?_ ?_ ?_ ?_ ?_ ?_ ?_
  · intro K i σ q r hR R2 p2 R1 p1 hX
    have g1 := p1 hX
    have g2 := p2 (by have := le g1; exact Nat.lt_of_le_of_lt this hX)
    have hn : npS σ ≤ npS q.2.1 := R2.2.1.1.1
    have g2 : GQ m σ (hgP q.2.1 (mkT (trS σ) 5).2 q.2.2) (giS σ) (usS σ) := g2
    exact g2.cat h4 g1 R1.2.1.1 (Nat.le_refl _) hn
  · intro K i σ a1 q r k13 hR R2 p2 R1 p1 hX
    have g1 := p1 hX
    have g2 := p2 (by have := le g1; exact Nat.lt_of_le_of_lt this hX)
    have hn : npS σ ≤ npS q.2.1 := R2.2.1.1.1
    have g2 : GQ m σ (hgP q.2.1 a1 q.2.2) (giS σ) (usS σ) := g2
    exact g2.cat h4 g1 R1.2.1.1 (Nat.le_refl _) hn
  · intro K i σ a1 k13 hR hX
    exact ⟨⟨[], (List.append_nil _).symm⟩, fun _ => GR.rf⟩
  · intro K i σ u eo ko el hH hR hX
    obtain ⟨n1, n2, -⟩ := bg_n (m := m) (σ := σ) (k := tK b n i) (pl := tP b n i) (q := sqK K) (d := K.length) (wh := whK (tK b n i) (tC b n i) τ)
    have en : npS u.2.1 = npS σ + 1 := by rw [← n1]; unfold npS; rw [hH.1.1]
    obtain ⟨g1, Y, g2⟩ := lf_u h4 hv el hX bg_0.1 (fun z => by rw [bg_0.2]; exact if_pos z)
    have g : GQ m σ u.2.1 (giS σ) (usS σ) := ⟨⟨Y, g2⟩, fun _ => by rw [en]; exact GR.one g1⟩
    exact g.step h4 GK.fi rfl rfl rfl (by omega)
  · intro K i σ h q eo k17 eh hH R3 p3 hR hX
    have g3 := p3 hX
    have l3 := le g3
    have hop : opnK (tK b n i) = true := by rw [k17]; decide
    obtain ⟨gh, en⟩ := gq_hd h4 hv hop eh hH (Nat.lt_of_le_of_lt l3 hX)
    rw [k17] at eh
    obtain ⟨e1, e2⟩ := hd_17 eh
    have e1 : giS h.2.1 = giS σ := e1
    have e2 : usS h.2.1 = usS σ := e2
    have gw := gh.step h4 (GK.rw (p := 40 * m + npS σ) (q0 := none)) rw_n.1 rfl rfl (by omega)
    have wn := rw_n (σ := h.2.1) (p := 40 * m + npS σ) (q0 := none)
    have gq : GQ m (rwP (40 * m + npS σ) none h.2.1) (guP q.2.1 (giS σ ||| giS q.2.1) (usS σ ||| usS q.2.1)) (giS (rwP (40 * m + npS σ) none h.2.1)) (usS (rwP (40 * m + npS σ) none h.2.1)) := by
      refine ⟨g3.1, fun hX2 => ?_⟩
      obtain ⟨b1, b2, b3⟩ := g3.2 hX
      refine ⟨?_, ?_, b3⟩
      · show giS σ ||| giS q.2.1 = giS h.2.1 ||| _
        rw [b1, e1, Int32.zero_or]; rfl
      · show usS σ ||| usS q.2.1 = usS h.2.1 ||| _
        rw [b2, e2, Int32.zero_or]; rfl
    have pv : Pv m (40 * m + npS (rwP (40 * m + npS σ) none h.2.1)) (rwP (40 * m + npS σ) none h.2.1) (guP q.2.1 (giS σ ||| giS q.2.1) (usS σ ||| usS q.2.1)) := R3.2.1.1.tr Pv.gu
    have gz := gw.cat h4 gq pv (Nat.le_refl _) (by rw [wn.1]; omega)
    have hn := pv.1
    exact gz.step h4 GK.fi rfl rfl rfl (by rw [wn.1] at hn; omega)
  · intro K i σ h q u eo hop k17 kc eh hH R0 p0 et hN hR hX
    have t := tl_g et
    have hX1 : q.2.1.2.2.1.length < 900 := by rw [← t.2.2.1]; exact hX
    have g0 := p0 hX1
    have l0 := le g0
    obtain ⟨gh, en⟩ := gq_hd h4 hv hop eh hH (Nat.lt_of_le_of_lt l0 hX1)
    have wn := rw_n (σ := h.2.1) (p := 40 * m + npS σ) (q0 := none)
    have gw := gh.step h4 (GK.rw (p := 40 * m + npS σ) (q0 := none)) wn.1 rfl rfl (by omega)
    have gq := gw.cat h4 g0 R0.2.1.1 (Nat.le_refl _) (by rw [wn.1]; omega)
    have hn := R0.2.1.1.1
    rw [wn.1] at hn
    have eu : npS u.2.1 = npS q.2.1 := by unfold npS; rw [hN.1.1]
    have gu := gq.step h4 (GK.tg t) eu t.1 t.2.1 (by omega)
    exact gu.step h4 GK.fi rfl rfl rfl (by omega)
  · intro K i σ h q t u eo hop kc eh hH R0 p0 k46 R4 p4 ec hN hR hX
    have tc : Tg t.2.1 u.2.1 := by
      unfold chM at ec
      obtain ⟨i2, -, ec⟩ := bind_ok ec
      cases ec
      exact Tg.rf.tree
    have hX2 : t.2.1.2.2.1.length < 900 := by rw [← tc.2.2.1]; exact hX
    have g4 := p4 hX2
    have hX1 : q.2.1.2.2.1.length < 900 := Nat.lt_of_le_of_lt (le g4) hX2
    have g0 := p0 hX1
    have l0 := le g0
    obtain ⟨gh, en⟩ := gq_hd h4 hv hop eh hH (Nat.lt_of_le_of_lt l0 hX1)
    have wn := rw_n (σ := h.2.1) (p := 40 * m + npS σ) (q0 := none)
    have gw := gh.step h4 (GK.rw (p := 40 * m + npS σ) (q0 := none)) wn.1 rfl rfl (by omega)
    have gq := gw.cat h4 g0 R0.2.1.1 (Nat.le_refl _) (by rw [wn.1]; omega)
    have hn := R0.2.1.1.1
    rw [wn.1] at hn
    have wm := rw_n (σ := q.2.1) (p := 40 * m + npS σ) (q0 := some (h.2.1.1.1 4))
    have gv := gq.step h4 (GK.rw (p := 40 * m + npS σ) (q0 := some (h.2.1.1.1 4))) wm.1 rfl rfl (by omega)
    have gt := gv.cat h4 g4 R4.2.1.1 (Nat.le_refl _) (by rw [wm.1]; omega)
    have hm := R4.2.1.1.1
    rw [wm.1] at hm
    have eu : npS u.2.1 = npS t.2.1 := by unfold npS; rw [hN.1.1]
    have gu := gt.step h4 (GK.tg tc) eu tc.1 tc.2.1 (by omega)
    exact gu.step h4 GK.fi rfl rfl rfl (by omega)
  · intro K i σ h q u eo hop kc eh hH R0 p0 k46 ec hN hR hX
    have tc : Tg q.2.1 u.2.1 := by
      unfold chM at ec
      obtain ⟨i2, -, ec⟩ := bind_ok ec
      cases ec
      exact Tg.rf.tree.tree
    have hX1 : q.2.1.2.2.1.length < 900 := by rw [← tc.2.2.1]; exact hX
    have g0 := p0 hX1
    have l0 := le g0
    obtain ⟨gh, en⟩ := gq_hd h4 hv hop eh hH (Nat.lt_of_le_of_lt l0 hX1)
    have wn := rw_n (σ := h.2.1) (p := 40 * m + npS σ) (q0 := none)
    have gw := gh.step h4 (GK.rw (p := 40 * m + npS σ) (q0 := none)) wn.1 rfl rfl (by omega)
    have gq := gw.cat h4 g0 R0.2.1.1 (Nat.le_refl _) (by rw [wn.1]; omega)
    have hn := R0.2.1.1.1
    rw [wn.1] at hn
    have eu : npS u.2.1 = npS q.2.1 := by unfold npS; rw [hN.1.1]; rfl
    have gu := gq.step h4 (GK.tg tc) eu tc.1 tc.2.1 (by omega)
    exact gu.step h4 GK.fi rfl rfl rfl (by omega)
  · intro K i σ a1 a2 a3 a4 c1 c2 q r hR R0 p0 k6 k8 R3 p3 hX
    have g3 := p3 hX
    have bx : (brP q.2.1 a2 a1 q.2.2 c1 c2).2.2 = q.2.1.2.2 ∧ giS (brP q.2.1 a2 a1 q.2.2 c1 c2) = c1 ||| giS q.2.1 ∧ usS (brP q.2.1 a2 a1 q.2.2 c1 c2) = c2 ||| usS q.2.1 := by
      unfold brP
      split
      · exact ⟨rfl, rfl, rfl⟩
      · exact ⟨rfl, rfl, rfl⟩
    have bn := (br_n (σ := q.2.1) (j := a2) (a := a1) (x := q.2.2) (g := c1) (u := c2)).1
    obtain ⟨bx, by1, by2⟩ := bx
    have l3 := le g3
    have wn := rw_n (σ := brP q.2.1 a2 a1 q.2.2 c1 c2) (p := 40 * m + a2) (q0 := some a3)
    have hX1 : q.2.1.2.2.1.length < 900 := by
      have : (rwP (40 * m + a2) (some a3) (brP q.2.1 a2 a1 q.2.2 c1 c2)).2.2.1.length = q.2.1.2.2.1.length := by rw [show (rwP (40 * m + a2) (some a3) (brP q.2.1 a2 a1 q.2.2 c1 c2)).2.2 = q.2.1.2.2 from bx]
      omega
    have g0 := p0 hX1
    have hn : npS σ ≤ npS q.2.1 := R0.2.1.1.1
    have en : npS (brP q.2.1 a2 a1 q.2.2 c1 c2) = npS q.2.1 := by unfold npS; rw [bn]
    have gb : GQ m σ (brP q.2.1 a2 a1 q.2.2 c1 c2) c1 c2 := by
      refine ⟨by rw [bx]; exact g0.1, fun _ => ?_⟩
      obtain ⟨b1, b2, b3⟩ := g0.2 hX1
      refine ⟨?_, ?_, ?_⟩
      · rw [by1, b1, en, bn]; show c1 ||| ((0 : Int32) ||| _) = _; rw [Int32.zero_or]; rfl
      · rw [by2, b2, en, bn, bx]; show c2 ||| ((0 : Int32) ||| _) = _; rw [Int32.zero_or]; rfl
      · rw [en, bn, bx]; exact b3
    have gw := gb.step h4 (GK.rw (p := 40 * m + a2) (q0 := some a3)) wn.1 rfl rfl (by omega)
    refine gw.cat h4 ?_ R3.2.1.1 (Nat.le_refl _) (by rw [wn.1]; omega)
    have e1 : giS (rwP (40 * m + a2) (some a3) (brP q.2.1 a2 a1 q.2.2 c1 c2)) = c1 ||| giS q.2.1 := by1
    have e2 : usS (rwP (40 * m + a2) (some a3) (brP q.2.1 a2 a1 q.2.2 c1 c2)) = c2 ||| usS q.2.1 := by2
    rw [e1, e2]
    exact g3
  · intro K i σ a1 a2 a3 a4 c1 c2 q hR R0 p0 k6 hX
    have bx : (brP q.2.1 a2 a1 q.2.2 c1 c2).2.2 = q.2.1.2.2 ∧ giS (brP q.2.1 a2 a1 q.2.2 c1 c2) = c1 ||| giS q.2.1 ∧ usS (brP q.2.1 a2 a1 q.2.2 c1 c2) = c2 ||| usS q.2.1 := by
      unfold brP
      split
      · exact ⟨rfl, rfl, rfl⟩
      · exact ⟨rfl, rfl, rfl⟩
    have bn := (br_n (σ := q.2.1) (j := a2) (a := a1) (x := q.2.2) (g := c1) (u := c2)).1
    obtain ⟨bx, by1, by2⟩ := bx
    have hX1 : q.2.1.2.2.1.length < 900 := by rw [← bx]; exact hX
    have g0 := p0 hX1
    have en : npS (brP q.2.1 a2 a1 q.2.2 c1 c2) = npS q.2.1 := by unfold npS; rw [bn]
    refine ⟨by show ∃ Y, (brP q.2.1 a2 a1 q.2.2 c1 c2).2.2.1 = _; rw [bx]; exact g0.1, fun _ => ?_⟩
    obtain ⟨b1, b2, b3⟩ := g0.2 hX1
    show GR m (npS σ) (npS (brP q.2.1 a2 a1 q.2.2 c1 c2)) (brP q.2.1 a2 a1 q.2.2 c1 c2) c1 c2
    refine ⟨?_, ?_, ?_⟩
    · rw [by1, b1, en, bn]; show c1 ||| ((0 : Int32) ||| _) = _; rw [Int32.zero_or]; rfl
    · rw [by2, b2, en, bn, bx]; show c2 ||| ((0 : Int32) ||| _) = _; rw [Int32.zero_or]; rfl
    · rw [en, bn, bx]; exact b3
end
end
section
/-! a trap that is named is one of the open ones -/
theorem trW_X {c : Int64} (hc : c ≠ 0) : ∀ (K : List KE) (v e : Nat), trW K c = some (v, e) → trX K v e := by
  intro K
  induction K with
  | nil => intro v e h; unfold trW at h; cases h
  | cons k K ih =>
    intro v e h
    unfold trW at h
    unfold trX
    cases hk : k.2.2.2 with
    | none =>
      rw [hk] at h
      exact ih v e h
    | some x =>
      rw [hk] at h
      have h : (if x = c then some (0, k.1) else (trW K c).map fun r => (r.1 + 1, r.2)) = some (v, e) := h
      show (v = 0 ∧ e = k.1 ∧ x ≠ 0) ∨ ∃ u, v = u + 1 ∧ trX K u e
      by_cases hx : x = c
      · rw [if_pos hx] at h
        cases h
        exact Or.inl ⟨rfl, rfl, by rw [hx]; exact hc⟩
      · rw [if_neg hx] at h
        obtain ⟨q, h1, h2⟩ := Option.map_eq_some_iff.mp h
        cases h2
        exact Or.inr ⟨q.1, rfl, ih q.1 q.2 h1⟩
theorem trW_lt {c : Int64} : ∀ (K : List KE) (v e : Nat), trW K c = some (v, e) → v < K.length := by
  intro K
  induction K with
  | nil => intro v e h; unfold trW at h; cases h
  | cons k K ih =>
    intro v e h
    unfold trW at h
    cases hk : k.2.2.2 with
    | none =>
      rw [hk] at h
      exact Nat.lt_succ_of_lt (ih v e h)
    | some x =>
      rw [hk] at h
      have h : (if x = c then some (0, k.1) else (trW K c).map fun r => (r.1 + 1, r.2)) = some (v, e) := h
      by_cases hx : x = c
      · rw [if_pos hx] at h
        cases h
        exact Nat.succ_pos _
      · rw [if_neg hx] at h
        obtain ⟨q, h1, h2⟩ := Option.map_eq_some_iff.mp h
        cases h2
        exact Nat.succ_lt_succ (ih q.1 q.2 h1)
end
section
/-! codes of nodes stay -/
section
variable {Θ Θ1 : TrT} {G G1 : Nat → List Nat} {O H : Nat → Prop} {x m1 p1 lo hi : Nat}
theorem TE.c13 (h : TE Θ Θ1 G G1 O H) (h0 : 1 ≤ lo) (h1 : hi ≤ Θ.1) (hO : ∀ y, lo ≤ y → y < hi → ¬ O y) : ∀ y, lo ≤ y → y < hi → Θ1.2.2 13 y = Θ.2.2 13 y := fun y z1 z2 => ((h.2 y (by omega) (by omega)).2.1 (hO y z1 z2)).2.2
theorem NW.c13 (h : NW Θ Θ1 G G1 x H m1 p1) (h0 : 1 ≤ lo) (h1 : hi ≤ Θ.1) : ∀ y, lo ≤ y → y < hi → Θ1.2.2 13 y = Θ.2.2 13 y := h.2.1.c13 h0 h1 (fun _ _ _ z => z)
end
end
section
/-! conditions: each node refers to nodes of its own condition -/
def NdW (S f k : Nat) (d : Cd) : Prop := d.1 ≤ 4 ∧ (d.1 ≤ 1 → d.2.1 < S) ∧ (2 ≤ d.1 → f ≤ d.2.1 ∧ d.2.1 < k) ∧ (3 ≤ d.1 → f ≤ d.2.2 ∧ d.2.2 < k)
def WcR (S : Nat) (Y : List Cd) (f c : Nat) : Prop := ∀ k, f ≤ k → k ≤ c → NdW S f k (Y.getD k (0, 0, 0))
def WcF (S : Nat) (Y : List Cd) (f : Nat) : Prop := ∀ k, f ≤ k → k < Y.length → NdW S f k (Y.getD k (0, 0, 0))
theorem gdA {α : Type} {Y V : List α} {k : Nat} {d0 : α} (h : k < Y.length) : (Y ++ V).getD k d0 = Y.getD k d0 := by
  rw [List.getD_eq_getElem?_getD, List.getD_eq_getElem?_getD, List.getElem?_append_left h]
theorem gdB {α : Type} {Y V : List α} {d d0 : α} : (Y ++ d :: V).getD Y.length d0 = d := by
  rw [List.getD_eq_getElem?_getD, List.getElem?_append_right (Nat.le_refl _), Nat.sub_self]; rfl
theorem gdC {α : Type} {Y V : List α} {k : Nat} {d0 : α} : (Y ++ V).getD (Y.length + k) d0 = V.getD k d0 := by
  rw [List.getD_eq_getElem?_getD, List.getD_eq_getElem?_getD, List.getElem?_append_right (Nat.le_add_right _ _), Nat.add_sub_cancel_left]
theorem WcF.app {S f : Nat} {Y : List Cd} {d : Cd} (h : WcF S Y f) (w : NdW S f Y.length d) : WcF S (Y ++ [d]) f := by
  intro k h1 h2
  rw [List.length_append] at h2
  have h2 : k < Y.length + 1 := h2
  by_cases e : k = Y.length
  · rw [e, gdB]; exact w
  · rw [gdA (by omega)]; exact h k h1 (by omega)
theorem WcR.app {S f c : Nat} {Y V : List Cd} (h : WcR S Y f c) (hc : c < Y.length) : WcR S (Y ++ V) f c := by
  intro k h1 h2
  rw [gdA (by omega)]; exact h k h1 h2
section
variable {b : Nat → Int32} {n : Nat} {sN : List Int64}
theorem rc0_w {p j : Nat} {Y : List Cd} {r : Nat × List Cd} {f : Nat} (hp : p ≤ 1) (h : WcF sN.length Y f) (e : rc0 b n sN p j Y = .ok r) : WcF sN.length r.2 f ∧ (∃ V, r.2 = Y ++ V) ∧ Y.length < r.2.length := by
  unfold rc0 at e
  by_cases k2 : tK b n j = 2
  · rw [if_pos k2] at e
    cases ef : fd sN (tC b n j) with
    | none => rw [ef] at e; cases e
    | some k =>
      rw [ef] at e
      obtain ⟨j', -, e⟩ := bind_ok e
      cases e
      refine ⟨h.app ⟨by show p ≤ 4; omega, fun _ => (fd_some ef).1, fun z => absurd z (by show ¬ 2 ≤ p; omega), fun z => absurd z (by show ¬ 3 ≤ p; omega)⟩, ⟨[_], rfl⟩, ?_⟩
      show Y.length < (Y ++ [_]).length
      rw [List.length_append]; exact Nat.lt_succ_self _
  · rw [if_neg k2] at e; cases e
theorem rc_w : ∀ (g md i o : Nat) (Y : List Cd) (f : Nat) (r : Nat × List Cd), md ≤ 4 → f ≤ Y.length → (md = 2 ∨ md = 4 → f < Y.length) → WcF sN.length Y f → rc b n sN g md i o Y = .ok r → WcF sN.length r.2 f ∧ (∃ V, r.2 = Y ++ V) ∧ (md = 0 ∨ md = 1 ∨ md = 3 → Y.length < r.2.length) := by
  intro g
  induction g with
  | zero => intro md i o Y f r _ _ _ _ e; unfold rc at e; cases e
  | succ g ih =>
    intro md i o Y f r hm hf hl hW e
    unfold rc at e
    by_cases m0 : md = 0
    · rw [if_pos m0] at e
      by_cases k61 : tK b n i = 61
      · rw [if_pos k61] at e
        by_cases o15 : o = 15
        · rw [if_pos o15] at e; cases e
        rw [if_neg o15] at e
        obtain ⟨j, -, e⟩ := bind_ok e
        obtain ⟨q, eq, e⟩ := bind_ok e
        cases e
        obtain ⟨a1, ⟨V, a2⟩, a3⟩ := ih 0 j (o + 1) Y f q (by decide) hf (fun z => by omega) hW eq
        have a3 := a3 (Or.inl rfl)
        refine ⟨a1.app ⟨by show 2 ≤ 4; decide, fun z => absurd z (by show ¬ 2 ≤ 1; decide), fun _ => ⟨by show f ≤ q.2.length - 1; omega, by show q.2.length - 1 < q.2.length; omega⟩, fun z => absurd z (by show ¬ 3 ≤ 2; decide)⟩, ⟨V ++ [_], by show q.2 ++ _ = _; rw [a2, List.append_assoc]⟩, fun _ => ?_⟩
        show Y.length < (q.2 ++ [_]).length
        rw [List.length_append]; omega
      rw [if_neg k61] at e
      by_cases k15 : tK b n i = 15
      · rw [if_pos k15] at e
        by_cases o15 : o = 15
        · rw [if_pos o15] at e; cases e
        rw [if_neg o15] at e
        obtain ⟨j, -, e⟩ := bind_ok e
        obtain ⟨q, eq, e⟩ := bind_ok e
        have a := ih 3 j (o + 1) Y f q (by decide) hf (fun z => by omega) hW eq
        by_cases k16 : tK b n q.1 = 16
        · rw [if_pos k16] at e
          obtain ⟨j2, -, e⟩ := bind_ok e
          cases e
          exact ⟨a.1, a.2.1, fun _ => a.2.2 (Or.inr (Or.inr rfl))⟩
        · rw [if_neg k16] at e; cases e
      rw [if_neg k15] at e
      by_cases k62 : tK b n i = 62
      · rw [if_pos k62] at e
        obtain ⟨j, -, e⟩ := bind_ok e
        have a := rc0_w (by decide) hW e
        exact ⟨a.1, a.2.1, fun _ => a.2.2⟩
      · rw [if_neg k62] at e
        have a := rc0_w (by decide) hW e
        exact ⟨a.1, a.2.1, fun _ => a.2.2⟩
    rw [if_neg m0] at e
    have two : ∀ (m1 m2 : Nat), (m1 = 0 ∨ m1 = 1) → (m2 = 2 ∨ m2 = 4) → ((rc b n sN g m1 i o Y).bind fun r => rc b n sN g m2 r.1 o r.2) = .ok r → WcF sN.length r.2 f ∧ (∃ V, r.2 = Y ++ V) ∧ Y.length < r.2.length := by
      intro m1 m2 h1 h2 e
      obtain ⟨q, eq, e⟩ := bind_ok e
      obtain ⟨a1, ⟨V, a2⟩, a3⟩ := ih m1 i o Y f q (by omega) hf (fun z => by omega) hW eq
      have a3 := a3 (by omega)
      obtain ⟨c1, ⟨U, c2⟩, c3⟩ := ih m2 q.1 o q.2 f r (by omega) (by omega) (fun _ => by omega) a1 e
      refine ⟨c1, ⟨V ++ U, by rw [c2, a2, List.append_assoc]⟩, ?_⟩
      rw [c2, List.length_append]; omega
    have lp : ∀ (m1 m2 s : Nat), (m1 = 0 ∨ m1 = 1) → (m2 = 2 ∨ m2 = 4) → (s = 3 ∨ s = 4) → f < Y.length → ((adv' b n i).bind fun j => (rc b n sN g m1 j o Y).bind fun r => rc b n sN g m2 r.1 o (r.2 ++ [(s, Y.length - 1, r.2.length - 1)])) = .ok r → WcF sN.length r.2 f ∧ (∃ V, r.2 = Y ++ V) := by
      intro m1 m2 s h1 h2 h3 hl e
      obtain ⟨j, -, e⟩ := bind_ok e
      obtain ⟨q, eq, e⟩ := bind_ok e
      obtain ⟨a1, ⟨V, a2⟩, a3⟩ := ih m1 j o Y f q (by omega) hf (fun z => by omega) hW eq
      have a3 := a3 (by omega)
      have a4 : WcF sN.length (q.2 ++ [(s, Y.length - 1, q.2.length - 1)]) f := a1.app ⟨by show s ≤ 4; omega, fun z => absurd z (by show ¬ s ≤ 1; omega), fun _ => ⟨by show f ≤ Y.length - 1; omega, by show Y.length - 1 < q.2.length; omega⟩, fun _ => ⟨by show f ≤ q.2.length - 1; omega, by show q.2.length - 1 < q.2.length; omega⟩⟩
      have a5 : (q.2 ++ [(s, Y.length - 1, q.2.length - 1)]).length = q.2.length + 1 := List.length_append
      obtain ⟨c1, ⟨U, c2⟩, c3⟩ := ih m2 q.1 o (q.2 ++ [(s, Y.length - 1, q.2.length - 1)]) f r (by omega) (by omega) (fun _ => by omega) a4 e
      exact ⟨c1, ⟨V ++ ([(s, Y.length - 1, q.2.length - 1)] ++ U), by rw [c2, a2]; simp only [List.append_assoc]⟩⟩
    by_cases m1 : md = 1
    · rw [if_pos m1] at e
      have a := two 0 2 (Or.inl rfl) (Or.inl rfl) e
      exact ⟨a.1, a.2.1, fun _ => a.2.2⟩
    rw [if_neg m1] at e
    by_cases m2 : md = 2
    · rw [if_pos m2] at e
      by_cases k59 : tK b n i = 59
      · rw [if_pos k59] at e
        have a := lp 0 2 3 (Or.inl rfl) (Or.inl rfl) (Or.inl rfl) (hl (Or.inl m2)) e
        exact ⟨a.1, a.2, fun z => by omega⟩
      · rw [if_neg k59] at e
        cases e
        exact ⟨hW, ⟨[], (List.append_nil _).symm⟩, fun z => by omega⟩
    rw [if_neg m2] at e
    by_cases m3 : md = 3
    · rw [if_pos m3] at e
      have a := two 1 4 (Or.inr rfl) (Or.inr rfl) e
      exact ⟨a.1, a.2.1, fun _ => a.2.2⟩
    rw [if_neg m3] at e
    by_cases k60 : tK b n i = 60
    · rw [if_pos k60] at e
      have a := lp 1 4 4 (Or.inr rfl) (Or.inr rfl) (Or.inr rfl) (hl (Or.inr (by omega))) e
      exact ⟨a.1, a.2, fun z => by omega⟩
    · rw [if_neg k60] at e
      cases e
      exact ⟨hW, ⟨[], (List.append_nil _).symm⟩, fun z => by omega⟩
end
end
section
/-! three truths; nets and what their literals say -/
def v3A (a c : Nat) : Nat := if a = 0 ∨ c = 0 then 0 else if a = 1 ∧ c = 1 then 1 else 2
def v3O (a c : Nat) : Nat := if a = 1 ∨ c = 1 then 1 else if a = 0 ∧ c = 0 then 0 else 2
def v3N (a : Nat) : Nat := if a = 2 then 2 else 1 - a
def lvN (v : Nat → Nat) (l : Nat) : Nat := if l % 2 = 0 then v (l / 2) else v3N (v (l / 2))
/-- a valuation that goes with the nets; those that hold themselves are free -/
def cnC (N : Nt) (v : Nat → Nat) : Prop := v 0 = 0 ∧ (∀ n, v n ≤ 2) ∧ ∀ n, n < N.length → (N.getD n (0, 0)).1 ≠ 2 * n → v n = v3A (lvN v (N.getD n (0, 0)).1) (lvN v (N.getD n (0, 0)).2)
theorem v3N_le (a : Nat) : v3N a ≤ 2 := by unfold v3N; split <;> omega
theorem v3A_le (a c : Nat) : v3A a c ≤ 2 := by unfold v3A; split; omega; split <;> omega
theorem v3O_le (a c : Nat) : v3O a c ≤ 2 := by unfold v3O; split; omega; split <;> omega
theorem v3N_N {a : Nat} (h : a ≤ 2) : v3N (v3N a) = a := by
  have : a = 0 ∨ a = 1 ∨ a = 2 := by omega
  rcases this with e | e | e <;> subst e <;> rfl
theorem v3A_s {a : Nat} (h : a ≤ 2) : v3A a a = a := by
  have : a = 0 ∨ a = 1 ∨ a = 2 := by omega
  rcases this with e | e | e <;> subst e <;> rfl
theorem v3A_1 {a : Nat} (h : a ≤ 2) : v3A 1 a = a ∧ v3A a 1 = a := by
  have : a = 0 ∨ a = 1 ∨ a = 2 := by omega
  rcases this with e | e | e <;> subst e <;> exact ⟨rfl, rfl⟩
theorem v3A_0 {a : Nat} : v3A 0 a = 0 ∧ v3A a 0 = 0 := ⟨if_pos (Or.inl rfl), if_pos (Or.inr rfl)⟩
theorem v3_or {a c : Nat} (h : a ≤ 2) (k : c ≤ 2) : v3N (v3A (v3N a) (v3N c)) = v3O a c := by
  have : a = 0 ∨ a = 1 ∨ a = 2 := by omega
  have : c = 0 ∨ c = 1 ∨ c = 2 := by omega
  rcases ‹a = 0 ∨ a = 1 ∨ a = 2› with e | e | e <;> rcases this with z | z | z <;> subst e <;> subst z <;> rfl
section
variable {N : Nt} {v : Nat → Nat} {a c l : Nat}
theorem lv_le (h : ∀ n, v n ≤ 2) : lvN v l ≤ 2 := by
  unfold lvN
  split
  · exact h _
  · exact v3N_le _
theorem lv_0 (h : cnC N v) : lvN v 0 = 0 := by
  show (if 0 % 2 = 0 then v (0 / 2) else _) = 0
  rw [if_pos (by decide)]; exact h.1
theorem lv_1 (h : cnC N v) : lvN v 1 = 1 := by
  show (if 1 % 2 = 0 then v (1 / 2) else v3N (v (1 / 2))) = 1
  rw [if_neg (by decide)]
  have e : v (1 / 2) = 0 := h.1
  rw [e]; rfl
theorem lv_n (h : ∀ n, v n ≤ 2) : lvN v (nlt l) = v3N (lvN v l) := by
  unfold lvN nlt
  by_cases e : l % 2 = 0
  · rw [if_pos e, if_pos e, if_neg (by omega), show (l + 1) / 2 = l / 2 by omega]
  · rw [if_neg e, if_neg e, if_pos (by omega), show (l - 1) / 2 = l / 2 by omega, v3N_N (h _)]
theorem lv_2 {k : Nat} : lvN v (2 * k) = v k := by
  unfold lvN
  rw [if_pos (by omega), show 2 * k / 2 = k by omega]
theorem cnC.pre {t : Nt} (h : cnC (N ++ t) v) : cnC N v := by
  refine ⟨h.1, h.2.1, fun k hk ne => ?_⟩
  have q := h.2.2 k (by rw [List.length_append]; omega)
  rw [gdA hk] at q
  exact q ne
theorem an_pre : ∃ t, (anL N a c).1 = N ++ t ∧ t.length ≤ 1 := by
  unfold anL
  split
  · exact ⟨[], (List.append_nil _).symm, Nat.zero_le _⟩
  · split
    · exact ⟨[], (List.append_nil _).symm, Nat.zero_le _⟩
    · split
      · exact ⟨[], (List.append_nil _).symm, Nat.zero_le _⟩
      · exact ⟨[_], rfl, Nat.le_refl _⟩
theorem lv_an (ha : a < 2 * N.length) (h : cnC (anL N a c).1 v) : lvN v (anL N a c).2 = v3A (lvN v a) (lvN v c) := by
  unfold anL at h ⊢
  by_cases e1 : a = 0 ∨ c = 0
  · rw [if_pos e1] at h ⊢
    rcases e1 with e | e
    · rw [e, lv_0 h, v3A_0.1]
    · rw [e, lv_0 h, v3A_0.2]
  rw [if_neg e1] at h ⊢
  by_cases e2 : a = 1 ∨ a = c
  · rw [if_pos e2] at h ⊢
    rcases e2 with e | e
    · rw [e, lv_1 h, (v3A_1 (lv_le h.2.1)).1]
    · rw [e, v3A_s (lv_le h.2.1)]
  rw [if_neg e2] at h ⊢
  by_cases e3 : c = 1
  · rw [if_pos e3] at h ⊢
    rw [e3, lv_1 h, (v3A_1 (lv_le h.2.1)).2]
  rw [if_neg e3] at h ⊢
  have q := h.2.2 N.length (by show N.length < (N ++ [(a, c)]).length; rw [List.length_append]; exact Nat.lt_succ_self _)
  have e : (N ++ [(a, c)]).getD N.length (0, 0) = (a, c) := gdB
  have q : ((N ++ [(a, c)]).getD N.length (0, 0)).1 ≠ 2 * N.length → v N.length = _ := q
  rw [e] at q
  show lvN v (2 * N.length) = _
  rw [lv_2]
  exact q (by show a ≠ _; omega)
theorem lv_or (ha : a < 2 * N.length) (h : cnC (orL N a c).1 v) : lvN v (orL N a c).2 = v3O (lvN v a) (lvN v c) := by
  have h' : cnC (anL N (nlt a) (nlt c)).1 v := h
  show lvN v (nlt (anL N (nlt a) (nlt c)).2) = _
  rw [lv_n h.2.1, lv_an (nlt_lt ha) h', lv_n h.2.1, lv_n h.2.1, v3_or (lv_le h.2.1) (lv_le h.2.1)]
end
/-! conditions have values -/
def cvD (sv bv : Nat → Nat) (V : List Nat) (d : Cd) : Nat := if d.1 = 0 then sv d.2.1 else if d.1 = 1 then bv d.2.1 else if d.1 = 2 then v3N (V.getD d.2.1 0) else if d.1 = 3 then v3A (V.getD d.2.1 0) (V.getD d.2.2 0) else v3O (V.getD d.2.1 0) (V.getD d.2.2 0)
def cvL (sv bv : Nat → Nat) (Y : List Cd) : List Nat := Y.foldl (fun V d => V ++ [cvD sv bv V d]) []
section
variable {sv bv : Nat → Nat} {Y : List Cd} {d : Cd}
theorem cvL_app : cvL sv bv (Y ++ [d]) = cvL sv bv Y ++ [cvD sv bv (cvL sv bv Y) d] := List.foldl_append
theorem cvF_len : ∀ (Y : List Cd) (V : List Nat), (Y.foldl (fun V d => V ++ [cvD sv bv V d]) V).length = V.length + Y.length
  | [], V => rfl
  | d :: Y, V => by
    show (Y.foldl (fun V d => V ++ [cvD sv bv V d]) (V ++ [cvD sv bv V d])).length = V.length + (Y.length + 1)
    rw [cvF_len Y, List.length_append]
    show V.length + 1 + Y.length = _
    omega
theorem cvL_len : (cvL sv bv Y).length = Y.length := by
  unfold cvL
  rw [cvF_len]
  exact Nat.zero_add _
theorem cvL_pre : ∀ (V Y : List Cd), ∃ t, cvL sv bv (Y ++ V) = cvL sv bv Y ++ t
  | [], Y => ⟨[], by rw [List.append_nil, List.append_nil]⟩
  | d :: V, Y => by
    obtain ⟨t, e⟩ := cvL_pre V (Y ++ [d])
    rw [cvL_app, List.append_assoc, List.append_assoc] at e
    exact ⟨_, e⟩
end
/-- roles of nets: 0 an and, 1 the 0, 2 the first beat, 3 a signal, 4 a 'pre', 5 an if, 6 held pauses, 7 a loop's GO, 8 a trap's KILL -/
def RoK (N : Nt) (Ro : List (Nat × Nat)) : Prop := Ro.length = N.length ∧ ∀ n, n < N.length → ((Ro.getD n (0, 0)).1 = 0 → (N.getD n (0, 0)).1 < 2 * n ∧ (N.getD n (0, 0)).2 < 2 * n) ∧ ((Ro.getD n (0, 0)).1 ≠ 0 → N.getD n (0, 0) = (2 * n, 2 * n))
def rlC (Ro : List (Nat × Nat)) (l k x : Nat) : Prop := l % 2 = 0 ∧ l / 2 < Ro.length ∧ Ro.getD (l / 2) (0, 0) = (k, x)
def niC (S : Nat) (sg : Nat → Nat) (N : Nt) (bf : Nat → Nat) (Ro : List (Nat × Nat)) : Prop := RoK N Ro ∧ 1 ≤ N.length ∧ (∀ s, s < S → rlC Ro (sg s) 3 s) ∧ ∀ s, bf s ≠ 0 → rlC Ro (bf s) 4 s
def smC (S : Nat) (sg : Nat → Nat) (N : Nt) (bf : Nat → Nat) (Y : List Cd) (Z : List Nat) : Prop := ∀ v sv bv, cnC N v → (∀ s, s < S → lvN v (sg s) = sv s) → (∀ s, bf s ≠ 0 → lvN v (bf s) = bv s) → ∀ k, k < Y.length → lvN v (Z.getD k 0) = (cvL sv bv Y).getD k 0
def ciC (S : Nat) (sg : Nat → Nat) (N : Nt) (bf : Nat → Nat) (Y : List Cd) (Z : List Nat) (Ro : List (Nat × Nat)) : Prop := niC S sg N bf Ro ∧ Z.length = Y.length ∧ (∀ k, k < Z.length → Z.getD k 0 < 2 * N.length) ∧ smC S sg N bf Y Z
section
variable {S f : Nat} {sg : Nat → Nat} {N : Nt} {bf bf' : Nat → Nat} {Y : List Cd} {Z : List Nat} {Ro t : List (Nat × Nat)} {d : Cd}
theorem rlC.app {l k x : Nat} (h : rlC Ro l k x) : rlC (Ro ++ t) l k x := ⟨h.1, by rw [List.length_append]; have := h.2.1; omega, by rw [gdA h.2.1]; exact h.2.2⟩
theorem RoK.and {a c : Nat} (h : RoK N Ro) (ha : a < 2 * N.length) (hc : c < 2 * N.length) : RoK (N ++ [(a, c)]) (Ro ++ [(0, 0)]) := by
  refine ⟨by rw [List.length_append, List.length_append, h.1]; rfl, fun k hk => ?_⟩
  rw [List.length_append] at hk
  have hk : k < N.length + 1 := hk
  by_cases e : k = N.length
  · subst e
    rw [gdB]
    exact ⟨fun _ => ⟨ha, hc⟩, fun z => absurd (by rw [← h.1, gdB]) z⟩
  · have e1 : (N ++ [(a, c)]).getD k (0, 0) = N.getD k (0, 0) := gdA (by omega)
    have e2 : (Ro ++ [(0, 0)]).getD k (0, 0) = Ro.getD k (0, 0) := gdA (by rw [h.1]; omega)
    rw [e1, e2]
    exact h.2 k (by omega)
theorem RoK.fre {k x : Nat} (h : RoK N Ro) (hk : k ≠ 0) : RoK (N ++ [(2 * N.length, 2 * N.length)]) (Ro ++ [(k, x)]) := by
  refine ⟨by rw [List.length_append, List.length_append, h.1]; rfl, fun i hi => ?_⟩
  rw [List.length_append] at hi
  have hi : i < N.length + 1 := hi
  by_cases e : i = N.length
  · subst e
    rw [gdB]
    exact ⟨fun z => absurd z (by rw [← h.1, gdB]; exact hk), fun _ => rfl⟩
  · have e1 : (N ++ [(2 * N.length, 2 * N.length)]).getD i (0, 0) = N.getD i (0, 0) := gdA (by omega)
    have e2 : (Ro ++ [(k, x)]).getD i (0, 0) = Ro.getD i (0, 0) := gdA (by rw [h.1]; omega)
    rw [e1, e2]
    exact h.2 i (by omega)
theorem niC.and {a c : Nat} (h : niC S sg N bf Ro) (ha : a < 2 * N.length) (hc : c < 2 * N.length) : ∃ t, niC S sg (anL N a c).1 bf (Ro ++ t) ∧ (anL N a c).2 < 2 * (anL N a c).1.length := by
  unfold anL
  split
  · exact ⟨[], by rw [List.append_nil]; exact h, by show 0 < 2 * N.length; have := h.2.1; omega⟩
  · split
    · exact ⟨[], by rw [List.append_nil]; exact h, hc⟩
    · split
      · exact ⟨[], by rw [List.append_nil]; exact h, ha⟩
      · refine ⟨[(0, 0)], ⟨h.1.and ha hc, by rw [List.length_append]; have := h.2.1; omega, fun s hs => (h.2.2.1 s hs).app, fun s hs => (h.2.2.2 s hs).app⟩, ?_⟩
        show 2 * N.length < 2 * (N ++ [_]).length
        rw [List.length_append]
        show _ < 2 * (N.length + 1)
        omega
theorem smC.app {N' : Nt} {z : Nat} (h : smC S sg N bf Y Z) (hZ : Z.length = Y.length) (hN : ∃ t, N' = N ++ t) (hb : ∀ s, bf s ≠ 0 → bf' s = bf s) (hz : ∀ v sv bv, cnC N' v → (∀ s, s < S → lvN v (sg s) = sv s) → (∀ s, bf' s ≠ 0 → lvN v (bf' s) = bv s) → (∀ k, k < Y.length → lvN v (Z.getD k 0) = (cvL sv bv Y).getD k 0) → lvN v z = cvD sv bv (cvL sv bv Y) d) : smC S sg N' bf' (Y ++ [d]) (Z ++ [z]) := by
  intro v sv bv hv hs hb' k hk
  have hb2 : ∀ s, bf s ≠ 0 → lvN v (bf s) = bv s := fun s ne => by rw [← hb s ne]; exact hb' s (by rw [hb s ne]; exact ne)
  have hv1 : cnC N v := by
    obtain ⟨t, e⟩ := hN
    rw [e] at hv
    exact hv.pre
  have old := h v sv bv hv1 hs hb2
  rw [List.length_append] at hk
  have hk : k < Y.length + 1 := hk
  rw [cvL_app]
  by_cases e : k = Y.length
  · subst e
    rw [← hZ, gdB, hZ]
    have : (cvL sv bv Y ++ [cvD sv bv (cvL sv bv Y) d]).getD Y.length 0 = cvD sv bv (cvL sv bv Y) d := by
      have q : (cvL sv bv Y ++ [cvD sv bv (cvL sv bv Y) d]).getD (cvL sv bv Y).length 0 = cvD sv bv (cvL sv bv Y) d := gdB
      rw [cvL_len] at q
      exact q
    rw [this]
    exact hz v sv bv hv hs hb' old
  · rw [gdA (by omega), gdA (by rw [cvL_len]; omega)]
    exact old k (by omega)
end
end
section
/-! conditions in the middle: their literals say what their nodes say -/
section
variable {S f : Nat} {sg : Nat → Nat} {N : Nt} {bf : Nat → Nat} {Y : List Cd} {Z : List Nat} {Ro : List (Nat × Nat)} {d : Cd}
theorem rlC.lt {l k x : Nat} (h : rlC Ro l k x) (hR : RoK N Ro) : l < 2 * N.length := by
  have h1 := h.1
  have h2 := h.2.1
  rw [hR.1] at h2
  omega
theorem nd_ci (h : ciC S sg N bf Y Z Ro) (w : NdW S f Y.length d) : ∃ t z, (ndL sg (N, bf, Z) d).2.2 = Z ++ [z] ∧ ciC S sg (ndL sg (N, bf, Z) d).1 (ndL sg (N, bf, Z) d).2.1 (Y ++ [d]) (Z ++ [z]) (Ro ++ t) := by
  obtain ⟨hn, hZ, hz, hs⟩ := h
  obtain ⟨w0, w1, w2, w3⟩ := w
  have zl : ∀ {N' : Nt} {z : Nat}, N.length ≤ N'.length → z < 2 * N'.length → ∀ k, k < (Z ++ [z]).length → (Z ++ [z]).getD k 0 < 2 * N'.length := by
    intro N' z h1 h2 k hk
    rw [List.length_append] at hk
    have hk : k < Z.length + 1 := hk
    by_cases e : k = Z.length
    · rw [e, gdB]; exact h2
    · rw [gdA (by omega)]
      have := hz k (by omega)
      omega
  have len : ∀ z : Nat, (Z ++ [z]).length = (Y ++ [d]).length := fun z => by rw [List.length_append, List.length_append, hZ]; rfl
  have n1 := hn.2.1
  unfold ndL
  by_cases e0 : d.1 = 0
  · rw [if_pos e0]
    have q := hn.2.2.1 d.2.1 (w1 (by omega))
    refine ⟨[], sg d.2.1, rfl, by rw [List.append_nil]; exact hn, len _, zl (Nat.le_refl _) (q.lt hn.1), hs.app hZ ⟨[], (List.append_nil _).symm⟩ (fun _ _ => rfl) (fun v sv bv hv h1 h2 h3 => ?_)⟩
    rw [h1 _ (w1 (by omega))]
    unfold cvD
    rw [if_pos e0]
  rw [if_neg e0]
  by_cases e1 : d.1 = 1
  · rw [if_pos e1]
    have cv : ∀ (sv bv : Nat → Nat) (V : List Nat), cvD sv bv V d = bv d.2.1 := fun sv bv V => by unfold cvD; rw [if_neg e0, if_pos e1]
    by_cases hb : bf d.2.1 = 0
    · have eb : bfL N bf d.2.1 = ((frL N).1, upF bf d.2.1 (2 * N.length), 2 * N.length) := if_pos hb
      rw [eb]
      have e2 : upF bf d.2.1 (2 * N.length) d.2.1 = 2 * N.length := if_pos rfl
      have e3 : ∀ s, s ≠ d.2.1 → upF bf d.2.1 (2 * N.length) s = bf s := fun s hs => if_neg hs
      have ln : (frL N).1.length = N.length + 1 := List.length_append
      refine ⟨[(4, d.2.1)], 2 * N.length, rfl, ⟨hn.1.fre (by decide), by show 1 ≤ (frL N).1.length; omega, fun s hs => (hn.2.2.1 s hs).app, fun s hs => ?_⟩, len _, zl (by show N.length ≤ (frL N).1.length; omega) (by show 2 * N.length < 2 * (frL N).1.length; omega), hs.app hZ ⟨[_], rfl⟩ (fun s ne => e3 s (fun z => ne (by rw [z]; exact hb))) (fun v sv bv hv h1 h2 h3 => ?_)⟩
      · by_cases q : s = d.2.1
        · subst q
          show rlC _ (upF bf d.2.1 (2 * N.length) d.2.1) 4 d.2.1
          rw [e2]
          have hl := hn.1.1
          refine ⟨by omega, by rw [List.length_append]; show 2 * N.length / 2 < Ro.length + 1; omega, ?_⟩
          rw [show 2 * N.length / 2 = Ro.length by omega]
          exact gdB
        · have hs : upF bf d.2.1 (2 * N.length) s ≠ 0 := hs
          show rlC _ (upF bf d.2.1 (2 * N.length) s) 4 s
          rw [e3 s q] at hs ⊢
          exact (hn.2.2.2 s hs).app
      · rw [cv]
        have q := h2 d.2.1 (by show upF bf d.2.1 (2 * N.length) d.2.1 ≠ 0; rw [e2]; omega)
        have q : lvN v (upF bf d.2.1 (2 * N.length) d.2.1) = bv d.2.1 := q
        rw [e2] at q
        exact q
    · have eb : bfL N bf d.2.1 = (N, bf, bf d.2.1) := if_neg hb
      rw [eb]
      refine ⟨[], bf d.2.1, rfl, by rw [List.append_nil]; exact hn, len _, zl (Nat.le_refl _) ((hn.2.2.2 _ hb).lt hn.1), hs.app hZ ⟨[], (List.append_nil _).symm⟩ (fun _ _ => rfl) (fun v sv bv hv h1 h2 h3 => ?_)⟩
      rw [cv]
      exact h2 _ hb
  rw [if_neg e1]
  obtain ⟨r1, r2⟩ := w2 (by omega)
  have z1 := hz d.2.1 (by omega)
  by_cases e2 : d.1 = 2
  · rw [if_pos e2]
    refine ⟨[], nlt (Z.getD d.2.1 0), rfl, by rw [List.append_nil]; exact hn, len _, zl (Nat.le_refl _) (nlt_lt z1), hs.app hZ ⟨[], (List.append_nil _).symm⟩ (fun _ _ => rfl) (fun v sv bv hv h1 h2 h3 => ?_)⟩
    rw [lv_n hv.2.1, h3 _ r2]
    unfold cvD
    rw [if_neg e0, if_neg e1, if_pos e2]
  rw [if_neg e2]
  obtain ⟨r3, r4⟩ := w3 (by omega)
  have z2 := hz d.2.2 (by omega)
  by_cases e3 : d.1 = 3
  · rw [if_pos e3]
    obtain ⟨t, h1, h2⟩ := hn.and z1 z2
    obtain ⟨u, h3, h4⟩ := an_pre (N := N) (a := Z.getD d.2.1 0) (c := Z.getD d.2.2 0)
    refine ⟨t, (anL N (Z.getD d.2.1 0) (Z.getD d.2.2 0)).2, rfl, h1, len _, zl (by show N.length ≤ (anL N (Z.getD d.2.1 0) (Z.getD d.2.2 0)).1.length; rw [h3, List.length_append]; omega) h2, hs.app hZ ⟨u, h3⟩ (fun _ _ => rfl) (fun v sv bv hv g1 g2 g3 => ?_)⟩
    rw [lv_an z1 hv, g3 _ r2, g3 _ r4]
    unfold cvD
    rw [if_neg e0, if_neg e1, if_neg e2, if_pos e3]
  rw [if_neg e3]
  obtain ⟨t, h1, h2⟩ := hn.and (nlt_lt z1) (nlt_lt z2)
  obtain ⟨u, h3, h4⟩ := an_pre (N := N) (a := nlt (Z.getD d.2.1 0)) (c := nlt (Z.getD d.2.2 0))
  refine ⟨t, (orL N (Z.getD d.2.1 0) (Z.getD d.2.2 0)).2, rfl, h1, len _, zl (by show N.length ≤ (anL N (nlt (Z.getD d.2.1 0)) (nlt (Z.getD d.2.2 0))).1.length; rw [h3, List.length_append]; omega) (nlt_lt h2), hs.app hZ ⟨u, h3⟩ (fun _ _ => rfl) (fun v sv bv hv g1 g2 g3 => ?_)⟩
  rw [lv_or z1 hv, g3 _ r2, g3 _ r4]
  unfold cvD
  rw [if_neg e0, if_neg e1, if_neg e2, if_neg e3]
theorem cy_ci : ∀ (V : List Cd) (N : Nt) (bf : Nat → Nat) (Y : List Cd) (Z : List Nat) (Ro : List (Nat × Nat)), ciC S sg N bf Y Z Ro → (∀ k, k < V.length → NdW S f (Y.length + k) (V.getD k (0, 0, 0))) → ∃ t D, (cyL sg (N, bf, Z) V).2.2 = Z ++ D ∧ ciC S sg (cyL sg (N, bf, Z) V).1 (cyL sg (N, bf, Z) V).2.1 (Y ++ V) (Z ++ D) (Ro ++ t)
  | [], N, bf, Y, Z, Ro, h, _ => ⟨[], [], (List.append_nil _).symm, by rw [List.append_nil, List.append_nil, List.append_nil]; exact h⟩
  | d :: V, N, bf, Y, Z, Ro, h, w => by
    obtain ⟨t1, z, e1, c1⟩ := nd_ci (d := d) h (w 0 (Nat.zero_lt_succ _))
    have e : cyL sg (N, bf, Z) (d :: V) = cyL sg (ndL sg (N, bf, Z) d) V := rfl
    rw [e]
    generalize ndL sg (N, bf, Z) d = R at e1 c1
    obtain ⟨N1, bf1, Z1⟩ := R
    have e1 : Z1 = Z ++ [z] := e1
    subst e1
    obtain ⟨t2, D, e2, c2⟩ := cy_ci V N1 bf1 (Y ++ [d]) (Z ++ [z]) (Ro ++ t1) c1 (fun k hk => by
      have q := w (k + 1) (Nat.succ_lt_succ hk)
      rw [List.length_append]
      show NdW S f (Y.length + 1 + k) _
      rw [show Y.length + 1 + k = Y.length + (k + 1) by omega]
      exact q)
    refine ⟨t1 ++ t2, z :: D, ?_, ?_⟩
    · rw [e2, List.append_assoc]; rfl
    · rw [List.append_assoc, List.append_assoc, List.append_assoc] at c2
      exact c2
theorem nd_sh {R D : List Nat} (hR : R.length = f) (hZ : Z.length = f) (w : NdW S f (f + D.length) d) : ∃ N1 bf1 z, ndL sg (N, bf, R ++ D) d = (N1, bf1, R ++ (D ++ [z])) ∧ ndL sg (N, bf, Z ++ D) d = (N1, bf1, Z ++ (D ++ [z])) := by
  have g : ∀ k, f ≤ k → (R ++ D).getD k 0 = (Z ++ D).getD k 0 := by
    intro k hk
    have q1 : (R ++ D).getD (R.length + (k - f)) 0 = D.getD (k - f) 0 := gdC
    have q2 : (Z ++ D).getD (Z.length + (k - f)) 0 = D.getD (k - f) 0 := gdC
    rw [show R.length + (k - f) = k by omega] at q1
    rw [show Z.length + (k - f) = k by omega] at q2
    rw [q1, q2]
  obtain ⟨w0, w1, w2, w3⟩ := w
  unfold ndL
  by_cases e0 : d.1 = 0
  · rw [if_pos e0, if_pos e0]
    exact ⟨_, _, _, by rw [List.append_assoc], by rw [List.append_assoc]⟩
  rw [if_neg e0, if_neg e0]
  by_cases e1 : d.1 = 1
  · rw [if_pos e1, if_pos e1]
    exact ⟨_, _, _, by rw [List.append_assoc], by rw [List.append_assoc]⟩
  rw [if_neg e1, if_neg e1]
  have r1 := g _ (w2 (by omega)).1
  by_cases e2 : d.1 = 2
  · rw [if_pos e2, if_pos e2]
    refine ⟨_, _, _, by rw [List.append_assoc], ?_⟩
    rw [List.append_assoc]
    show (N, bf, Z ++ (D ++ [nlt ((Z ++ D).getD d.2.1 0)])) = (N, bf, Z ++ (D ++ [nlt ((R ++ D).getD d.2.1 0)]))
    rw [r1]
  rw [if_neg e2, if_neg e2]
  have r2 := g _ (w3 (by omega)).1
  by_cases e3 : d.1 = 3
  · rw [if_pos e3, if_pos e3]
    refine ⟨_, _, _, by rw [List.append_assoc], ?_⟩
    rw [List.append_assoc]
    show ((anL N ((Z ++ D).getD d.2.1 0) ((Z ++ D).getD d.2.2 0)).1, bf, Z ++ (D ++ [(anL N ((Z ++ D).getD d.2.1 0) ((Z ++ D).getD d.2.2 0)).2])) = ((anL N ((R ++ D).getD d.2.1 0) ((R ++ D).getD d.2.2 0)).1, bf, Z ++ (D ++ [(anL N ((R ++ D).getD d.2.1 0) ((R ++ D).getD d.2.2 0)).2]))
    rw [r1, r2]
  rw [if_neg e3, if_neg e3]
  refine ⟨_, _, _, by rw [List.append_assoc], ?_⟩
  rw [List.append_assoc]
  show ((orL N ((Z ++ D).getD d.2.1 0) ((Z ++ D).getD d.2.2 0)).1, bf, Z ++ (D ++ [(orL N ((Z ++ D).getD d.2.1 0) ((Z ++ D).getD d.2.2 0)).2])) = ((orL N ((R ++ D).getD d.2.1 0) ((R ++ D).getD d.2.2 0)).1, bf, Z ++ (D ++ [(orL N ((R ++ D).getD d.2.1 0) ((R ++ D).getD d.2.2 0)).2]))
  rw [r1, r2]
theorem cy_sh {R Z : List Nat} (hR : R.length = f) (hZ : Z.length = f) : ∀ (V : List Cd) (N : Nt) (bf : Nat → Nat) (D : List Nat), (∀ k, k < V.length → NdW S f (f + D.length + k) (V.getD k (0, 0, 0))) → ∃ N1 bf1 D1, cyL sg (N, bf, R ++ D) V = (N1, bf1, R ++ D1) ∧ cyL sg (N, bf, Z ++ D) V = (N1, bf1, Z ++ D1)
  | [], N, bf, D, _ => ⟨N, bf, D, rfl, rfl⟩
  | d :: V, N, bf, D, w => by
    obtain ⟨N1, bf1, z, e1, e2⟩ := nd_sh (d := d) (sg := sg) (N := N) (bf := bf) hR hZ (w 0 (Nat.zero_lt_succ _))
    have a1 : cyL sg (N, bf, R ++ D) (d :: V) = cyL sg (ndL sg (N, bf, R ++ D) d) V := rfl
    have a2 : cyL sg (N, bf, Z ++ D) (d :: V) = cyL sg (ndL sg (N, bf, Z ++ D) d) V := rfl
    rw [a1, a2, e1, e2]
    refine cy_sh hR hZ V N1 bf1 (D ++ [z]) (fun k hk => ?_)
    have q := w (k + 1) (Nat.succ_lt_succ hk)
    rw [List.length_append]
    show NdW S f (f + (D.length + 1) + k) _
    rw [show f + (D.length + 1) + k = f + D.length + (k + 1) by omega]
    exact q
end
/-- a reading's conditions: literals Z, roles of nets -/
def cdI (τ : Td) (σ : PS) (Z : List Nat) (Ro : List (Nat × Nat)) : Prop := ciC τ.1.length (sgT τ.1.length) σ.2.1.2.2.1 σ.2.1.2.2.2.1 σ.2.2.2 Z Ro
section
variable {b : Nat → Int32} {n m : Nat} {τ : Td} {j i o : Nat} {σ : PS} {Z : List Nat} {Ro : List (Nat × Nat)}
/-- what reading a condition changes -/
def CoX (m j : Nat) (σ σ' : PS) (V : List Cd) : Prop := σ'.2.2.2 = σ.2.2.2 ++ V ∧ 0 < V.length ∧ σ'.1.1 = σ.1.1 ∧ σ'.1.2.1 = up2 (up2 σ.1.2.1 62 (40 * m + j) (Int32.ofNat (410 * m + σ.2.2.2.length))) 63 (40 * m + j) (Int32.ofNat (410 * m + (σ'.2.2.2.length - 1))) ∧ σ'.2.1.1 = σ.2.1.1 ∧ trS σ' = trS σ ∧ σ'.2.1.2.2.2.2 = σ.2.1.2.2.2.2 ∧ σ'.2.2.1 = σ.2.2.1
theorem co_ci {r : Nat × PS × Nat} (h : cdI τ σ Z Ro) (e : coM b n m τ j i o σ = .ok r) : ∃ t D V, cdI τ r.2.1 (Z ++ D) (Ro ++ t) ∧ CoX m j σ r.2.1 V ∧ WcR τ.1.length r.2.1.2.2.2 σ.2.2.2.length (r.2.1.2.2.2.length - 1) ∧ r.2.2 = (Z ++ D).getD (r.2.1.2.2.2.length - 1) 0 := by
  unfold coM at e
  obtain ⟨q, eq, e⟩ := bind_ok e
  cases e
  obtain ⟨a1, ⟨V, a2⟩, a3⟩ := rc_w (sN := τ.1) 6000 3 i o σ.2.2.2 σ.2.2.2.length q (by decide) (Nat.le_refl _) (fun z => by omega) (fun k h1 h2 => by omega) eq
  have a3 := a3 (Or.inr (Or.inr rfl))
  have hl : q.2.length = σ.2.2.2.length + V.length := by rw [a2, List.length_append]
  have ed : q.2.drop σ.2.2.2.length = V := by rw [a2, List.drop_left]
  have wV : ∀ k, k < V.length → NdW τ.1.length σ.2.2.2.length (σ.2.2.2.length + k) (V.getD k (0, 0, 0)) := by
    intro k hk
    have := a1 (σ.2.2.2.length + k) (Nat.le_add_right _ _) (by omega)
    rw [a2, gdC] at this
    exact this
  obtain ⟨N1, bf1, D1, c1, c2⟩ := cy_sh (sg := sgT τ.1.length) (R := List.replicate σ.2.2.2.length 0) (Z := Z) (f := σ.2.2.2.length) List.length_replicate h.2.1 V σ.2.1.2.2.1 σ.2.1.2.2.2.1 [] (fun k hk => by exact wV k hk)
  rw [List.append_nil] at c1 c2
  obtain ⟨t, D, d1, d2⟩ := cy_ci (f := σ.2.2.2.length) V _ _ _ _ _ h wV
  rw [c2] at d1 d2
  have hD : D1 = D := List.append_cancel_left d1
  subst hD
  rw [ed, c1]
  refine ⟨t, D1, V, ?_, ⟨a2, by omega, rfl, rfl, rfl, rfl, rfl, rfl⟩, fun k h1 h2 => a1 k h1 (by have h2 : k ≤ q.2.length - 1 := h2; omega), ?_⟩
  · show ciC _ _ N1 bf1 q.2 (Z ++ D1) _
    rw [a2]
    exact d2
  · show (List.replicate σ.2.2.2.length 0 ++ D1).getD (q.2.length - 1) 0 = (Z ++ D1).getD (q.2.length - 1) 0
    have q1 : (List.replicate σ.2.2.2.length 0 ++ D1).getD ((List.replicate σ.2.2.2.length 0).length + (V.length - 1)) 0 = D1.getD (V.length - 1) 0 := gdC
    have q2 : (Z ++ D1).getD (Z.length + (V.length - 1)) 0 = D1.getD (V.length - 1) 0 := gdC
    rw [List.length_replicate] at q1
    have hz := h.2.1
    rw [show σ.2.2.2.length + (V.length - 1) = q.2.length - 1 by omega] at q1
    rw [show Z.length + (V.length - 1) = q.2.length - 1 by omega] at q2
    rw [q1, q2]
end
end
section
/-! induction over a reading of parts, every piece with its equation -/
/-- what is known of a piece, and that it is one -/
def RXE (b : Nat → Int32) (n s m : Nat) (τ : Td) (md : Nat) (K : List KE) (i : Nat) (σ : PS) (a1 a2 a3 a4 : Nat) (c1 c2 : Int32) (r : Nat × PS × Nat) : Prop := RQ b n s m md K i σ a1 a2 a3 r ∧ ∃ g, rp b n m τ g md K i σ a1 a2 a3 a4 c1 c2 = .ok r
section
variable {b : Nat → Int32} {n s m : Nat} {τ : Td}
theorem RXE.of {g md i a1 a2 a3 a4 : Nat} {K : List KE} {σ : PS} {c1 c2 : Int32} {r : Nat × PS × Nat} (hS : Sto b n s) (hm : md ≤ 3) (h : i ≤ s ∧ tK b n i ≠ 0 ∧ RpI m md K σ a2 a3) (e : rp b n m τ g md K i σ a1 a2 a3 a4 c1 c2 = .ok r) : RXE b n s m τ md K i σ a1 a2 a3 a4 c1 c2 r := ⟨RQ.of hS hm h e, g, e⟩
theorem rp_indE (hS : Sto b n s) (P0 P2 : List KE → Nat → PS → Nat × PS × Nat → Prop) (P1 : List KE → Nat → PS → Nat → Nat × PS × Nat → Prop) (P3 : List KE → Nat → PS → Nat → Nat → Nat → Nat → Int32 → Int32 → Nat × PS × Nat → Prop)
    (c0 : ∀ K i σ q r, RXE b n s m τ 0 K i σ 0 0 0 0 0 0 r → RXE b n s m τ 2 K i (trP1 σ (mkT (trS σ) 5).1) 0 0 0 0 0 0 q → P2 K i (trP1 σ (mkT (trS σ) 5).1) q → RXE b n s m τ 1 K q.1 (hgP q.2.1 (mkT (trS σ) 5).2 q.2.2) (mkT (trS σ) 5).2 0 0 0 0 0 r → P1 K q.1 (hgP q.2.1 (mkT (trS σ) 5).2 q.2.2) (mkT (trS σ) 5).2 r → P0 K i σ r)
    (c1m : ∀ K i σ a1 q r, tK b n i = 13 → RXE b n s m τ 1 K i σ a1 0 0 0 0 0 r → RXE b n s m τ 2 K (i + 1) σ 0 0 0 0 0 0 q → P2 K (i + 1) σ q → RXE b n s m τ 1 K q.1 (hgP q.2.1 a1 q.2.2) a1 0 0 0 0 0 r → P1 K q.1 (hgP q.2.1 a1 q.2.2) a1 r → P1 K i σ a1 r)
    (c1e : ∀ K i σ a1, tK b n i ≠ 13 → RXE b n s m τ 1 K i σ a1 0 0 0 0 0 (i, σ, a1) → P1 K i σ a1 (i, σ, a1))
    (c2l : ∀ K i σ u, okK (tK b n i) (tC b n i) K.length τ σ (tP b n i) = .ok () → opnK (tK b n i) = false → lfM b n m τ (tK b n i) (tC b n i) (npS σ) (i + 1) K (bgP m (tK b n i) (tP b n i) (sqK K) K.length (whK (tK b n i) (tC b n i) τ) σ) = .ok u → HdN m (npS σ) (bgP m (tK b n i) (tP b n i) (sqK K) K.length (whK (tK b n i) (tC b n i) τ) σ) u.2 → RXE b n s m τ 2 K i σ 0 0 0 0 0 0 (u.1, fiP m (npS σ) u.2.2 u.2.1, u.2.2) → P2 K i σ (u.1, fiP m (npS σ) u.2.2 u.2.1, u.2.2))
    (c2b : ∀ K i σ h q, okK (tK b n i) (tC b n i) K.length τ σ (tP b n i) = .ok () → tK b n i = 17 → hdM b n m τ (tK b n i) (npS σ) (i + 1) K (bgP m (tK b n i) (tP b n i) (sqK K) K.length (whK (tK b n i) (tC b n i) τ) σ) = .ok h → Hd m (npS σ) (bgP m (tK b n i) (tP b n i) (sqK K) K.length (whK (tK b n i) (tC b n i) τ) σ) h.2.1 → RXE b n s m τ 3 K h.1 (rwP (40 * m + npS σ) none h.2.1) h.2.2.2.2.1 (npS σ) (h.2.1.1.1 4) 1 0 0 q → P3 K h.1 (rwP (40 * m + npS σ) none h.2.1) h.2.2.2.2.1 (npS σ) (h.2.1.1.1 4) 1 0 0 q → RXE b n s m τ 2 K i σ 0 0 0 0 0 0 (q.1, fiP m (npS σ) q.2.2 (guP q.2.1 (giS σ ||| giS q.2.1) (usS σ ||| usS q.2.1)), q.2.2) → P2 K i σ (q.1, fiP m (npS σ) q.2.2 (guP q.2.1 (giS σ ||| giS q.2.1) (usS σ ||| usS q.2.1)), q.2.2))
    (c2t : ∀ K i σ h q u, okK (tK b n i) (tC b n i) K.length τ σ (tP b n i) = .ok () → opnK (tK b n i) = true → tK b n i ≠ 17 → ¬ (tK b n i = 44 ∨ tK b n i = 58) → hdM b n m τ (tK b n i) (npS σ) (i + 1) K (bgP m (tK b n i) (tP b n i) (sqK K) K.length (whK (tK b n i) (tC b n i) τ) σ) = .ok h → Hd m (npS σ) (bgP m (tK b n i) (tP b n i) (sqK K) K.length (whK (tK b n i) (tC b n i) τ) σ) h.2.1 → RXE b n s m τ 0 ((40 * m + npS σ, h.2.1.1.1 4, 1, h.2.2.2.2.2) :: K) h.1 (rwP (40 * m + npS σ) none h.2.1) 0 0 0 0 0 0 q → P0 ((40 * m + npS σ, h.2.1.1.1 4, 1, h.2.2.2.2.2) :: K) h.1 (rwP (40 * m + npS σ) none h.2.1) q → tlM b n m τ (tK b n i) (npS σ) h.2.2.2.2.1 h.2.2.1 q.2.2 q.1 (K.length + 1) q.2.1 = .ok u → HdN m (npS σ) q.2.1 u.2 → RXE b n s m τ 2 K i σ 0 0 0 0 0 0 (u.1, fiP m (npS σ) u.2.2 u.2.1, u.2.2) → P2 K i σ (u.1, fiP m (npS σ) u.2.2 u.2.1, u.2.2))
    (c2e : ∀ K i σ h q t u, okK (tK b n i) (tC b n i) K.length τ σ (tP b n i) = .ok () → opnK (tK b n i) = true → tK b n i = 44 ∨ tK b n i = 58 → hdM b n m τ (tK b n i) (npS σ) (i + 1) K (bgP m (tK b n i) (tP b n i) (sqK K) K.length (whK (tK b n i) (tC b n i) τ) σ) = .ok h → Hd m (npS σ) (bgP m (tK b n i) (tP b n i) (sqK K) K.length (whK (tK b n i) (tC b n i) τ) σ) h.2.1 → RXE b n s m τ 0 ((40 * m + npS σ, h.2.1.1.1 4, 1, h.2.2.2.2.2) :: K) h.1 (rwP (40 * m + npS σ) none h.2.1) 0 0 0 0 0 0 q → P0 ((40 * m + npS σ, h.2.1.1.1 4, 1, h.2.2.2.2.2) :: K) h.1 (rwP (40 * m + npS σ) none h.2.1) q → tK b n q.1 = 46 → RXE b n s m τ 0 ((40 * m + npS σ, q.2.1.1.1 4, 2, none) :: K) (q.1 + 1) (rwP (40 * m + npS σ) (some (h.2.1.1.1 4)) q.2.1) 0 0 0 0 0 0 t → P0 ((40 * m + npS σ, q.2.1.1.1 4, 2, none) :: K) (q.1 + 1) (rwP (40 * m + npS σ) (some (h.2.1.1.1 4)) q.2.1) t → chM b n h.2.2.1 q.2.2 t.2.2 t.1 t.2.1 = .ok u → HdN m (npS σ) t.2.1 u.2 → RXE b n s m τ 2 K i σ 0 0 0 0 0 0 (u.1, fiP m (npS σ) u.2.2 u.2.1, u.2.2) → P2 K i σ (u.1, fiP m (npS σ) u.2.2 u.2.1, u.2.2))
    (c2n : ∀ K i σ h q u, okK (tK b n i) (tC b n i) K.length τ σ (tP b n i) = .ok () → opnK (tK b n i) = true → tK b n i = 44 ∨ tK b n i = 58 → hdM b n m τ (tK b n i) (npS σ) (i + 1) K (bgP m (tK b n i) (tP b n i) (sqK K) K.length (whK (tK b n i) (tC b n i) τ) σ) = .ok h → Hd m (npS σ) (bgP m (tK b n i) (tP b n i) (sqK K) K.length (whK (tK b n i) (tC b n i) τ) σ) h.2.1 → RXE b n s m τ 0 ((40 * m + npS σ, h.2.1.1.1 4, 1, h.2.2.2.2.2) :: K) h.1 (rwP (40 * m + npS σ) none h.2.1) 0 0 0 0 0 0 q → P0 ((40 * m + npS σ, h.2.1.1.1 4, 1, h.2.2.2.2.2) :: K) h.1 (rwP (40 * m + npS σ) none h.2.1) q → tK b n q.1 ≠ 46 → chM b n h.2.2.1 q.2.2 (mkT (trS q.2.1) 0).2 q.1 (trP1 q.2.1 (mkT (trS q.2.1) 0).1) = .ok u → HdN m (npS σ) (trP1 q.2.1 (mkT (trS q.2.1) 0).1) u.2 → RXE b n s m τ 2 K i σ 0 0 0 0 0 0 (u.1, fiP m (npS σ) u.2.2 u.2.1, u.2.2) → P2 K i σ (u.1, fiP m (npS σ) u.2.2 u.2.1, u.2.2))
    (c3m : ∀ K i σ a1 a2 a3 a4 c1 c2 q r, RXE b n s m τ 3 K i σ a1 a2 a3 a4 c1 c2 r → RXE b n s m τ 0 ((40 * m + a2, a3, a4, none) :: K) i (guP σ 0 0) 0 0 0 0 0 0 q → P0 ((40 * m + a2, a3, a4, none) :: K) i (guP σ 0 0) q → tK b n q.1 = 6 → a4 ≠ 8 → RXE b n s m τ 3 K (q.1 + 1) (rwP (40 * m + a2) (some a3) (brP q.2.1 a2 a1 q.2.2 c1 c2)) a1 a2 (q.2.1.1.1 4) (a4 + 1) (c1 ||| giS q.2.1) (c2 ||| usS q.2.1) r → P3 K (q.1 + 1) (rwP (40 * m + a2) (some a3) (brP q.2.1 a2 a1 q.2.2 c1 c2)) a1 a2 (q.2.1.1.1 4) (a4 + 1) (c1 ||| giS q.2.1) (c2 ||| usS q.2.1) r → P3 K i σ a1 a2 a3 a4 c1 c2 r)
    (c3e : ∀ K i σ a1 a2 a3 a4 c1 c2 q, RXE b n s m τ 3 K i σ a1 a2 a3 a4 c1 c2 (q.1 + 1, brP q.2.1 a2 a1 q.2.2 c1 c2, a1) → RXE b n s m τ 0 ((40 * m + a2, a3, a4, none) :: K) i (guP σ 0 0) 0 0 0 0 0 0 q → P0 ((40 * m + a2, a3, a4, none) :: K) i (guP σ 0 0) q → tK b n q.1 ≠ 6 → P3 K i σ a1 a2 a3 a4 c1 c2 (q.1 + 1, brP q.2.1 a2 a1 q.2.2 c1 c2, a1)) :
    ∀ g, (∀ K i σ r, i ≤ s ∧ tK b n i ≠ 0 ∧ RpI m 0 K σ 0 0 → rp b n m τ g 0 K i σ 0 0 0 0 0 0 = .ok r → P0 K i σ r) ∧ (∀ K i σ a1 r, i ≤ s ∧ tK b n i ≠ 0 ∧ RpI m 1 K σ 0 0 → rp b n m τ g 1 K i σ a1 0 0 0 0 0 = .ok r → P1 K i σ a1 r) ∧ (∀ K i σ r, i ≤ s ∧ tK b n i ≠ 0 ∧ RpI m 2 K σ 0 0 → rp b n m τ g 2 K i σ 0 0 0 0 0 0 = .ok r → P2 K i σ r) ∧ (∀ K i σ a1 a2 a3 a4 c1 c2 r, i ≤ s ∧ tK b n i ≠ 0 ∧ RpI m 3 K σ a2 a3 → rp b n m τ g 3 K i σ a1 a2 a3 a4 c1 c2 = .ok r → P3 K i σ a1 a2 a3 a4 c1 c2 r) := by
  intro g
  induction g with
  | zero => exact ⟨fun K i σ r _ e => (by unfold rp at e; cases e), fun K i σ a1 r _ e => (by unfold rp at e; cases e), fun K i σ r _ e => (by unfold rp at e; cases e), fun K i σ a1 a2 a3 a4 c1 c2 r _ e => (by unfold rp at e; cases e)⟩
  | succ g ih =>
    obtain ⟨i0, i1, i2, i3⟩ := ih
    refine ⟨fun K i σ r hp e => ?_, fun K i σ a1 r hp e => ?_, fun K i σ r hp e => ?_, fun K i σ a1 a2 a3 a4 c1 c2 r hp e => ?_⟩
    · have hR := RXE.of hS (by decide) hp e
      obtain ⟨hi, h0, hP, hK, hq, h3, h1, hc⟩ := hp
      unfold rp at e
      rw [if_pos rfl] at e
      obtain ⟨q, e1, e⟩ := bind_ok e
      have p2 : i ≤ s ∧ tK b n i ≠ 0 ∧ RpI m 2 K (trP1 σ (mkT (trS σ) 5).1) 0 0 := ⟨hi, h0, hP, hK, fun _ => hq (by decide), fun z => absurd z (by decide), fun z => absurd z (by decide), hc⟩
      have R2 := RXE.of hS (by decide) p2 e1
      obtain ⟨-, ⟨v1, v2, v3, v4⟩, j1, j2, j3⟩ := id R2.1
      have p1 : q.1 ≤ s ∧ tK b n q.1 ≠ 0 ∧ RpI m 1 K (hgP q.2.1 (mkT (trS σ) 5).2 q.2.2) 0 0 := ⟨j2, j3, v2, hK, fun _ => Nat.lt_of_lt_of_le (hq (by decide)) v1.2.1, fun z => absurd z (by decide), fun _ => v3, Nat.le_succ_of_le v3⟩
      exact c0 K i σ q r hR R2 (i2 _ _ _ _ p2 e1) (RXE.of hS (by decide) p1 e) (i1 _ _ _ _ _ p1 e)
    · have hR := RXE.of hS (by decide) hp e
      obtain ⟨hi, h0, hP, hK, hq, h3, h1, hc⟩ := hp
      unfold rp at e
      rw [if_neg (by decide), if_pos rfl] at e
      by_cases k : tK b n i = 13
      · rw [if_pos k] at e
        obtain ⟨j, ea, e⟩ := bind_ok e
        obtain ⟨rfl, ha⟩ := adv_is ea
        obtain ⟨q, e1, e⟩ := bind_ok e
        have hs := hS.lt hi h0 (by rw [k]; decide)
        have p2 : i + 1 ≤ s ∧ tK b n (i + 1) ≠ 0 ∧ RpI m 2 K σ 0 0 := ⟨hs, ha, hP, hK, fun _ => hq (by decide), fun z => absurd z (by decide), fun z => absurd z (by decide), hc⟩
        have R2 := RXE.of hS (by decide) p2 e1
        obtain ⟨-, ⟨v1, v2, v3, v4⟩, j1, j2, j3⟩ := id R2.1
        have p1 : q.1 ≤ s ∧ tK b n q.1 ≠ 0 ∧ RpI m 1 K (hgP q.2.1 a1 q.2.2) 0 0 := ⟨j2, j3, v2, hK, fun _ => Nat.lt_of_lt_of_le (hq (by decide)) v1.2.1, fun z => absurd z (by decide), fun _ => v3, Nat.le_succ_of_le v3⟩
        exact c1m K i σ a1 q r k hR R2 (i2 _ _ _ _ p2 e1) (RXE.of hS (by decide) p1 e) (i1 _ _ _ _ _ p1 e)
      · rw [if_neg k] at e
        cases e
        exact c1e K i σ a1 k hR
    · have hR := RXE.of hS (by decide) hp e
      have hI := hp.2.2
      obtain ⟨hi, h0, hP, hK, hq, h3, h1, hc⟩ := hp
      rw [rp_bd] at e
      obtain ⟨u0, eo, e⟩ := bind_ok e
      obtain ⟨j, ea, e⟩ := bind_ok e
      obtain ⟨rfl, ha⟩ := adv_is ea
      obtain ⟨u, eb, e⟩ := bind_ok e
      cases e
      have hs1 := hS.lt hi h0 (fun z => (okK_ok eo).2.1 (by rw [z]; exact soK_1))
      unfold bdM at eb
      by_cases ko : opnK (tK b n i) = false
      · rw [if_pos ko] at eb
        have q := lfM_ok (F := True) (m := m) (τ := τ) (k := tK b n i) (w := tC b n i) (j := npS σ) (K := K) (σ := bgP m (tK b n i) (tP b n i) (sqK K) K.length (whK (tK b n i) (tC b n i) τ) σ) hS (i := i + 1) hs1 ha
        rw [eb] at q
        exact c2l K i σ u eo ko eb q.2.2.2 hR
      rw [if_neg ko] at eb
      have hop : opnK (tK b n i) = true := by cases ht : opnK (tK b n i) with
        | false => exact absurd ht ko
        | true => rfl
      obtain ⟨h, eh, eb⟩ := bind_ok eb
      have hok := hdM_ok (F := True) (m := m) (τ := τ) (k := tK b n i) (j := npS σ) (K := K) (σ := bgP m (tK b n i) (tP b n i) (sqK K) K.length (whK (tK b n i) (tC b n i) τ) σ) hS (i := i + 1) hs1 ha
      rw [eh] at hok
      have hH := hok.2.2.2.1
      obtain ⟨⟨t0, t1, t2⟩, okw, ⟨m1, m2, m3⟩, ⟨hl, o3⟩, -, prw⟩ := hc_facts hS hi h0 hI eo ha hop eh
      by_cases k17 : tK b n i = 17
      · rw [if_pos k17] at eb
        obtain ⟨q, e3, eb⟩ := bind_ok eb
        cases eb
        have p3 : h.1 ≤ s ∧ tK b n h.1 ≠ 0 ∧ RpI m 3 K (rwP (40 * m + npS σ) none h.2.1) (npS σ) (h.2.1.1.1 4) := ⟨t1, t0, okw, hI.2.1, fun z => absurd z (by decide), fun _ => ⟨hl, by rw [m2, m3]; exact Nat.lt_succ_self _, by rw [m1]; exact Nat.lt_succ_self _⟩, fun z => absurd z (by decide), by rw [m2, m1]; omega⟩
        exact c2b K i σ h q eo k17 eh hH (RXE.of hS (by decide) p3 e3) (i3 _ _ _ _ _ _ _ _ _ _ p3 e3) hR
      rw [if_neg k17] at eb
      obtain ⟨q, e0, eb⟩ := bind_ok eb
      have p0 : h.1 ≤ s ∧ tK b n h.1 ≠ 0 ∧ RpI m 0 ((40 * m + npS σ, h.2.1.1.1 4, 1, h.2.2.2.2.2) :: K) (rwP (40 * m + npS σ) none h.2.1) 0 0 := ⟨t1, t0, okw, by show K.length + 1 ≤ 15; omega, fun _ => by show h.2.1.1.1 4 < _; rw [m2, m3]; exact Nat.lt_succ_self _, fun z => absurd z (by decide), fun z => absurd z (by decide), by rw [m2, m1]; omega⟩
      have R0 := RXE.of hS (by decide) p0 e0
      obtain ⟨-, ⟨v1, v2, v3, v4⟩, j1, j2, j3⟩ := id R0.1
      by_cases kc : tK b n i = 44 ∨ tK b n i = 58
      · rw [if_pos kc] at eb
        by_cases k46 : tK b n q.1 = 46
        · rw [if_pos k46] at eb
          obtain ⟨j5, ea2, eb⟩ := bind_ok eb
          obtain ⟨rfl, ha2⟩ := adv_is ea2
          obtain ⟨t, e4, eb⟩ := bind_ok eb
          have hs2 := hS.lt j2 j3 (by rw [k46]; decide)
          obtain ⟨x1, x2, x3⟩ := rw_n (σ := q.2.1) (p := 40 * m + npS σ) (q0 := some (h.2.1.1.1 4))
          have p4 : q.1 + 1 ≤ s ∧ tK b n (q.1 + 1) ≠ 0 ∧ RpI m 0 ((40 * m + npS σ, q.2.1.1.1 4, 2, none) :: K) (rwP (40 * m + npS σ) (some (h.2.1.1.1 4)) q.2.1) 0 0 := ⟨hs2, ha2, v2.rw, by show K.length + 1 ≤ 15; omega, fun _ => by show q.2.1.1.1 4 < _; rw [x2]; exact Nat.lt_succ_self _, fun z => absurd z (by decide), fun z => absurd z (by decide), by rw [x2, x1]; omega⟩
          have R4 := RXE.of hS (by decide) p4 e4
          have cq := chM_ok (F := True) (lit := h.2.2.1) (x := q.2.2) (y := t.2.2) (m := m) (j := npS σ) (σ := t.2.1) hS R4.1.2.2.2.1
          rw [eb] at cq
          exact c2e K i σ h q t u eo hop kc eh hH R0 (i0 _ _ _ _ p0 e0) k46 R4 (i0 _ _ _ _ p4 e4) eb cq.2.2.2 hR
        · rw [if_neg k46] at eb
          have cq := chM_ok (F := True) (lit := h.2.2.1) (x := q.2.2) (y := (mkT (trS q.2.1) 0).2) (m := m) (j := npS σ) (σ := trP1 q.2.1 (mkT (trS q.2.1) 0).1) hS j2
          rw [eb] at cq
          exact c2n K i σ h q u eo hop kc eh hH R0 (i0 _ _ _ _ p0 e0) k46 eb cq.2.2.2 hR
      rw [if_neg kc] at eb
      have tq := tlM_ok (F := True) (m := m) (τ := τ) (k := tK b n i) (j := npS σ) (aw := h.2.2.2.2.1) (lit := h.2.2.1) (x := q.2.2) (o := K.length + 1) (σ := q.2.1) hS j2
      rw [eb] at tq
      exact c2t K i σ h q u eo hop k17 kc eh hH R0 (i0 _ _ _ _ p0 e0) eb tq.2.2.2 hR
    · have hR := RXE.of hS (by decide) hp e
      obtain ⟨hi, h0, hP, hK, hq, h3, h1, hc⟩ := hp
      obtain ⟨g1, g2, g3⟩ := h3 rfl
      unfold rp at e
      rw [if_neg (by decide), if_neg (by decide), if_neg (by decide)] at e
      obtain ⟨q, e1, e⟩ := bind_ok e
      have p0 : i ≤ s ∧ tK b n i ≠ 0 ∧ RpI m 0 ((40 * m + a2, a3, a4, none) :: K) (guP σ 0 0) 0 0 := ⟨hi, h0, hP, by show K.length + 1 ≤ 15; omega, fun _ => g2, fun z => absurd z (by decide), fun z => absurd z (by decide), hc⟩
      have R0 := RXE.of hS (by decide) p0 e1
      obtain ⟨-, ⟨v1, v2, v3, v4⟩, j1, j2, j3⟩ := id R0.1
      by_cases k6 : tK b n q.1 = 6
      · rw [if_pos k6] at e
        by_cases k8 : a4 = 8
        · rw [if_pos k8] at e; cases e
        rw [if_neg k8] at e
        obtain ⟨j, ea, e⟩ := bind_ok e
        obtain ⟨rfl, ha⟩ := adv_is ea
        have hs := hS.lt j2 j3 (by rw [k6]; decide)
        obtain ⟨x1, x2, x3⟩ := rw_n (σ := brP q.2.1 a2 a1 q.2.2 c1 c2) (p := 40 * m + a2) (q0 := some a3)
        have bn := br_n (σ := q.2.1) (j := a2) (a := a1) (x := q.2.2) (g := c1) (u := c2)
        have x2' : (rwP (40 * m + a2) (some a3) (brP q.2.1 a2 a1 q.2.2 c1 c2)).1.1 4 = q.2.1.1.1 4 + 1 := by rw [x2, bn.1]
        have x1' : npS (rwP (40 * m + a2) (some a3) (brP q.2.1 a2 a1 q.2.2 c1 c2)) = npS q.2.1 := by rw [x1]; unfold npS; rw [bn.1]
        have hn : npS σ ≤ npS q.2.1 := v1.1
        have p3 : q.1 + 1 ≤ s ∧ tK b n (q.1 + 1) ≠ 0 ∧ RpI m 3 K (rwP (40 * m + a2) (some a3) (brP q.2.1 a2 a1 q.2.2 c1 c2)) a2 (q.2.1.1.1 4) := ⟨hs, ha, (PsOk.br v2).rw, hK, fun z => absurd z (by decide), fun _ => ⟨g1, by rw [x2']; exact Nat.lt_succ_self _, by rw [x1']; omega⟩, fun z => absurd z (by decide), by rw [x2', x1']; omega⟩
        exact c3m K i σ a1 a2 a3 a4 c1 c2 q r hR R0 (i0 _ _ _ _ p0 e1) k6 k8 (RXE.of hS (by decide) p3 e) (i3 _ _ _ _ _ _ _ _ _ _ p3 e)
      · rw [if_neg k6] at e
        obtain ⟨j, ea, e⟩ := bind_ok e
        have hj : j = q.1 + 1 := by
          unfold ex at ea
          by_cases k18 : tK b n q.1 = 18
          · rw [if_pos k18] at ea; exact (adv_is ea).1
          · rw [if_neg k18] at ea; cases ea
        subst hj
        cases e
        exact c3e K i σ a1 a2 a3 a4 c1 c2 q hR R0 (i0 _ _ _ _ p0 e1) k6
end
end
section
/-! the world of a reading's state, with its ghosts: children of nodes, literals of conditions, roles of nets -/
abbrev Gh : Type := (Nat → List Nat) × List Nat × List (Nat × Nat)
def ifS (σ : PS) : List Int32 := σ.2.1.2.2.2.2.1
def woS (τ : Td) (m : Nat) (σ : PS) (γ : Gh) : Wo := (σ.1.2.1, σ.2.1.1, vwT (trS σ) γ.1, (trS σ).2.2 13, (fun c => γ.2.1.getD c 0), (fun f c => WcR τ.1.length σ.2.2.2 f c), (fun f => (ifS σ).getD f 0), orF (gvK σ.1.2.1 m), orF (uvK σ.1.2.1 σ.2.2.1 m))
/-- state and ghosts go together -/
def giT (τ : Td) (σ : PS) (γ : Gh) : Prop := TG (trS σ) γ.1 ∧ cdI τ σ γ.2.1 γ.2.2 ∧ ∀ f, f < (ifS σ).length → ∃ l, (ifS σ).getD f 0 = Int32.ofNat l ∧ rlC γ.2.2 l 5 f
/-- what only grows -/
def gfT (O H : Nat → Prop) (σ : PS) (γ : Gh) (σ' : PS) (γ' : Gh) : Prop := TE (trS σ) (trS σ') γ.1 γ'.1 O H ∧ (∃ D, γ'.2.1 = γ.2.1 ++ D) ∧ (∃ t, γ'.2.2 = γ.2.2 ++ t) ∧ (∃ V, σ'.2.2.2 = σ.2.2.2 ++ V) ∧ (∃ U, ifS σ' = ifS σ ++ U) ∧ ∃ T, σ'.2.2.1 = σ.2.2.1 ++ T
/-- cells of parts j .. j' and of rows r .. r' as they were -/
def AKp (m j j' r r' : Nat) (σ σ' : PS) : Prop := (∀ c P, 58 ≤ c → c ≤ 72 → c ≠ 70 → 40 * m + j ≤ P → P < 40 * m + j' → σ'.1.2.1 c P = σ.1.2.1 c P) ∧ (∀ P, 40 * m + j < P → P < 40 * m + j' → σ'.1.2.1 70 P = σ.1.2.1 70 P) ∧ (∀ c q, 73 ≤ c → c ≤ 75 → r ≤ q → q < r' → σ'.1.2.1 c q = σ.1.2.1 c q) ∧ ∀ i f, j ≤ i → i < j' → σ'.2.1.1 i f = σ.2.1.1 i f
section
variable {τ : Td} {m j j' r r' lo hi : Nat} {σ σ1 σ2 : PS} {γ γ1 γ2 : Gh} {O O1 H H1 : Nat → Prop}
theorem AKp.rf : AKp m j j' r r' σ σ := ⟨fun _ _ _ _ _ _ _ => rfl, fun _ _ _ => rfl, fun _ _ _ _ _ _ => rfl, fun _ _ _ _ => rfl⟩
theorem AKp.tr (h : AKp m j j' r r' σ σ1) (k : AKp m j j' r r' σ1 σ2) : AKp m j j' r r' σ σ2 := ⟨fun c P z1 z2 z3 z4 z5 => (k.1 c P z1 z2 z3 z4 z5).trans (h.1 c P z1 z2 z3 z4 z5), fun P z1 z2 => (k.2.1 P z1 z2).trans (h.2.1 P z1 z2), fun c q z1 z2 z3 z4 => (k.2.2.1 c q z1 z2 z3 z4).trans (h.2.2.1 c q z1 z2 z3 z4), fun i f z1 z2 => (k.2.2.2 i f z1 z2).trans (h.2.2.2 i f z1 z2)⟩
theorem AKp.of (h1 : σ1.1.2.1 = σ.1.2.1) (h2 : σ1.2.1.1 = σ.2.1.1) : AKp m j j' r r' σ σ1 := ⟨fun c P _ _ _ _ _ => by rw [h1], fun P _ _ => by rw [h1], fun c q _ _ _ _ => by rw [h1], fun i f _ _ => by rw [h2]⟩
theorem AKp.hd {j0 : Nat} (h : Hd m j0 σ σ1) (hp : ∀ i f, i ≠ j0 → σ1.2.1.1 i f = σ.2.1.1 i f) (hj : j0 < j ∨ j' ≤ j0) : AKp m j j' r r' σ σ1 := ⟨fun c P _ _ _ z4 z5 => h.2.1 c P (Or.inr (Or.inr (by omega))), fun P _ _ => h.2.1 70 P (by omega), fun c q z1 _ _ _ => h.2.1 c q (by omega), fun i f z1 z2 => hp i f (by omega)⟩
theorem fi_A {j0 x c k : Nat} (h : ¬ (c = 71 ∧ k = 40 * m + j0)) : (fiP m j0 x σ).1.2.1 c k = σ.1.2.1 c k := by
  have e : (fiP m j0 x σ).1.2.1 = up2 σ.1.2.1 71 (40 * m + j0) (Int32.ofNat (40 * m + σ.1.1 0)) := rfl
  rw [e, up2_ne h]
theorem fi_P {j0 x i f : Nat} (h : ¬ (i = j0 ∧ f = 1)) : (fiP m j0 x σ).2.1.1 i f = σ.2.1.1 i f := by
  have e : (fiP m j0 x σ).2.1.1 = up2 σ.2.1.1 j0 1 (Int32.ofNat x) := rfl
  rw [e, up2_ne h]
theorem AKp.fi {j0 x : Nat} (hj : j0 < j ∨ j' ≤ j0) : AKp m j j' r r' σ (fiP m j0 x σ) := ⟨fun c P _ _ _ z4 z5 => fi_A (fun z => by omega), fun P _ _ => fi_A (fun z => absurd z.1 (by decide)), fun c q z1 _ _ _ => fi_A (fun z => by omega), fun i f z1 z2 => fi_P (fun z => by omega)⟩
theorem AKp.rs {p q : Nat} (hq : q < r ∨ r' ≤ q) (hr : r' ≤ σ.1.1 4) : AKp m j j' r r' σ (rwP p (some q) σ) := by
  obtain ⟨h1, h2, -⟩ := rs_lk (σ := σ) (p := p) (q := q)
  refine ⟨fun c P z1 z2 _ _ _ => ?_, fun P _ _ => h2 P, fun c y z1 z2 z3 z4 => h1 c y z1 z2 (by omega) (fun z => by omega), fun _ _ _ _ => rfl⟩
  show up2 (up2 (up2 (up2 σ.1.2.1 73 (σ.1.1 4) (-1)) 74 (σ.1.1 4) (-1)) 75 (σ.1.1 4) (-1)) 75 q (Int32.ofNat (σ.1.1 4)) c P = σ.1.2.1 c P
  rw [up2_ne (fun z => by omega), up2_ne (fun z => by omega), up2_ne (fun z => by omega), up2_ne (fun z => by omega)]
theorem AKp.pc {B B1 R q : Nat} (pv : Pv m B σ σ1) (fk : FrK σ.1.2.1 σ1.1.2.1 B1 R q) (hp : ∀ i f, j ≤ i → i < j' → σ1.2.1.1 i f = σ.2.1.1 i f) (hB : 40 * m + j' ≤ B) (hB1 : 40 * m + j' ≤ B1) (hR : r' ≤ R) (hq : q < r ∨ r' ≤ q) (h74 : σ.1.2.1 73 q ≠ -1 → ∀ P, 40 * m + j < P → P < 40 * m + j' → σ.1.2.1 74 q ≠ Int32.ofNat P) : AKp m j j' r r' σ σ1 := ⟨fun c P z1 z2 z3 z4 z5 => pv.2.2.1 c z1 z2 z3 P (by omega), fun P z1 z2 => fk.2 P (by omega) (fun z => h74 z P z1 z2), fun c y z1 z2 z3 z4 => fk.1 c y z1 z2 (by omega) (by omega), hp⟩
theorem gfT.rf : gfT O H σ γ σ γ := ⟨TE.rf, ⟨[], (List.append_nil _).symm⟩, ⟨[], (List.append_nil _).symm⟩, ⟨[], (List.append_nil _).symm⟩, ⟨[], (List.append_nil _).symm⟩, ⟨[], (List.append_nil _).symm⟩⟩
theorem apT {α : Type} {x y z : List α} (h : ∃ t, y = x ++ t) (k : ∃ t, z = y ++ t) : ∃ t, z = x ++ t := by
  obtain ⟨t, e⟩ := h
  obtain ⟨u, e2⟩ := k
  exact ⟨t ++ u, by rw [e2, e, List.append_assoc]⟩
theorem gfT.tr (h : gfT O H σ γ σ1 γ1) (k : gfT O1 H1 σ1 γ1 σ2 γ2) (hO : ∀ y, 1 ≤ y → y < (trS σ).1 → O1 y → O y) (hH : ∀ y, 1 ≤ y → y < (trS σ).1 → H1 y → H y) : gfT O H σ γ σ2 γ2 := ⟨h.1.tr k.1 hO hH, apT h.2.1 k.2.1, apT h.2.2.1 k.2.2.1, apT h.2.2.2.1 k.2.2.2.1, apT h.2.2.2.2.1 k.2.2.2.2.1, apT h.2.2.2.2.2 k.2.2.2.2.2⟩
theorem gfT.more (h : gfT O H σ γ σ1 γ1) (hO : ∀ y, 1 ≤ y → y < (trS σ).1 → O y → O1 y) (hH : ∀ y, 1 ≤ y → y < (trS σ).1 → H y → H1 y) : gfT O1 H1 σ γ σ1 γ1 := ⟨h.1.more hO hH, h.2⟩
/-- nothing of nets, conditions, ifs, tree has changed -/
def KcS (σ σ' : PS) : Prop := σ'.2.1.2.2.1 = σ.2.1.2.2.1 ∧ σ'.2.1.2.2.2.1 = σ.2.1.2.2.2.1 ∧ ifS σ' = ifS σ ∧ σ'.2.2.2 = σ.2.2.2 ∧ trS σ' = trS σ
theorem KcS.rf : KcS σ σ := ⟨rfl, rfl, rfl, rfl, rfl⟩
theorem KcS.tr (h : KcS σ σ1) (k : KcS σ1 σ2) : KcS σ σ2 := ⟨k.1.trans h.1, k.2.1.trans h.2.1, k.2.2.1.trans h.2.2.1, k.2.2.2.1.trans h.2.2.2.1, k.2.2.2.2.trans h.2.2.2.2⟩
theorem KcS.gi (h : KcS σ σ1) (g : giT τ σ γ) : giT τ σ1 γ := by
  obtain ⟨h1, h2, h3, h4, h5⟩ := h
  unfold giT cdI
  rw [h1, h2, h3, h4, h5]
  exact g
theorem KcS.gf (h : KcS σ σ1) (hX : ∃ T, σ1.2.2.1 = σ.2.2.1 ++ T) : gfT O H σ γ σ1 γ := by
  obtain ⟨h1, h2, h3, h4, h5⟩ := h
  refine ⟨by rw [h5]; exact TE.rf, ⟨[], (List.append_nil _).symm⟩, ⟨[], (List.append_nil _).symm⟩, ⟨[], by rw [h4, List.append_nil]⟩, ⟨[], by rw [h3, List.append_nil]⟩, hX⟩
theorem KcS.bg {k : Int32} {pl q d : Nat} {wh : Int32} : KcS σ (bgP m k pl q d wh σ) := ⟨rfl, rfl, rfl, rfl, rfl⟩
theorem KcS.rw {p : Nat} {q : Option Nat} : KcS σ (rwP p q σ) := ⟨rfl, rfl, rfl, rfl, rfl⟩
theorem KcS.gu {g u : Int32} : KcS σ (guP σ g u) := ⟨rfl, rfl, rfl, rfl, rfl⟩
theorem KcS.fi {x y : Nat} : KcS σ (fiP m x y σ) := ⟨rfl, rfl, rfl, rfl, rfl⟩
theorem KcS.pa {x y : Nat} {v : Int32} : KcS σ (paP σ x y v) := ⟨rfl, rfl, rfl, rfl, rfl⟩
theorem KcS.ra {A : Nat → Nat → Int32} : KcS σ (raP σ A) := ⟨rfl, rfl, rfl, rfl, rfl⟩
/-- worlds of two states are alike where what lies between has left all alone -/
theorem WSt.of (h4 : m < 4) (hg : giT τ σ γ) (hf : gfT O H σ γ σ1 γ1) (ha : AKp m j j' r r' σ σ1) (hX : σ.2.2.1.length < 900) (hs : ∀ k, j ≤ k → k < j' → SuI σ.1.2.1 σ.2.2.1 m 64 65 k ∧ SuI σ.1.2.1 σ.2.2.1 m 66 67 k) (h0 : 1 ≤ lo) (h1 : hi ≤ (trS σ).1) (hO : ∀ y, lo ≤ y → y < hi → ¬ O y) : WSt (woS τ m σ γ) (woS τ m σ1 γ1) m σ.2.2.2.length (ifS σ).length lo hi j j' r r' := by
  obtain ⟨f1, ⟨D, f2⟩, -, ⟨V, f4⟩, ⟨U, f5⟩, f6⟩ := hf
  have gk : GK m j j' σ σ1 := ⟨fun c k z1 z2 z3 z4 z5 => ha.1 c (40 * m + k) z1 (by omega) (by omega) (by omega) (by omega), f6⟩
  have gu := fun k h1 h2 => gu_st h4 hX gk ⟨h1, h2⟩ (hs k h1 h2).1 (hs k h1 h2).2
  refine ⟨ha.1, ha.2.1, ha.2.2.1, ha.2.2.2, f1.sm h0 h1 hO, f1.c13 h0 h1 hO, fun c hc => ?_, fun f c hc hq => ?_, fun f hf => ?_, fun x y h1 h2 => ⟨?_, ?_⟩⟩
  · show γ1.2.1.getD c 0 = γ.2.1.getD c 0
    rw [f2, gdA (by rw [hg.2.1.2.1]; exact hc)]
  · show WcR τ.1.length σ1.2.2.2 f c
    rw [f4]
    exact WcR.app hq hc
  · show (ifS σ1).getD f 0 = (ifS σ).getD f 0
    rw [f5, gdA hf]
  · exact orF_cg (fun z q1 q2 => (gu z (by omega) (by omega)).1)
  · exact orF_cg (fun z q1 q2 => (gu z (by omega) (by omega)).2.1)
end
end
section
/-! leaves: what their reading leaves in state and ghosts -/
def noN : Nat → Prop := fun _ => False
section
variable {b : Nat → Int32} {n m : Nat} {τ : Td} {j i o : Nat} {σ σ1 : PS} {γ γ1 : Gh} {k : Int32} {K : List KE} {H : Nat → Prop}
theorem gi_tr {T : TrT} {G1 : Nat → List Nat} {x q p : Nat} (hg : giT τ σ γ) (nw : NW (trS σ) T γ.1 G1 x H q p) : giT τ (trP1 σ T) (G1, γ.2) ∧ gfT noN H σ γ (trP1 σ T) (G1, γ.2) := ⟨⟨nw.1, hg.2.1, hg.2.2⟩, nw.2.1, ⟨[], (List.append_nil _).symm⟩, ⟨[], (List.append_nil _).symm⟩, ⟨[], (List.append_nil _).symm⟩, ⟨[], (List.append_nil _).symm⟩, ⟨[], (List.append_nil _).symm⟩⟩
/-- a sum leaves all but its own fields -/
def SuK (j : Nat) (σ σ' : PS) : Prop := KcS σ σ' ∧ (∃ T, σ'.2.2.1 = σ.2.2.1 ++ T) ∧ (∀ x f, x ≠ j → σ'.2.1.1 x f = σ.2.1.1 x f) ∧ ∀ f, f ≤ 2 ∨ f = 4 → σ'.2.1.1 j f = σ.2.1.1 j f
theorem su_k (hv : HvT τ) {f1 f2 fo : Nat} (hf : fo = 5 ∨ fo = 6) {r : Nat × PS} (e : suM b n m τ j f1 f2 fo i o σ = .ok r) : SuK j σ r.2 := by
  obtain ⟨-, Y, -, hY, -⟩ := su_u hv e
  unfold suM at e
  obtain ⟨q, eq, e⟩ := bind_ok e
  cases e
  exact ⟨⟨rfl, rfl, rfl, rfl, rfl⟩, ⟨Y, hY⟩, fun x f h => up2_ne (fun z => h z.1), fun f h => up2_ne (fun z => by omega)⟩
theorem em_k (hv : HvT τ) {r : Nat × PS × Nat} (e : emM b n m τ k j i o σ = .ok r) : KcS σ r.2.1 ∧ (∃ T, r.2.1.2.2.1 = σ.2.2.1 ++ T) ∧ (∀ x f, x ≠ j → r.2.1.2.1.1 x f = σ.2.1.1 x f) ∧ (∀ f, f ≤ 2 → r.2.1.2.1.1 j f = σ.2.1.1 j f) ∧ r.2.1.1.2.1 60 (40 * m + j) = Int32.ofNat r.2.2 := by
  unfold emM at e
  by_cases k2 : tK b n i = 2
  · rw [if_pos k2] at e
    cases ef : fd τ.1 (tC b n i) with
    | none => rw [ef] at e; cases e
    | some s =>
      rw [ef] at e
      have e : (if τ.2.1.getD s 0 = 30 then (.error (4, tP b n i) : Except (Int32 × Nat) (Nat × PS × Nat)) else _) = .ok r := e
      by_cases k30 : τ.2.1.getD s 0 = 30
      · rw [if_pos k30] at e; cases e
      rw [if_neg k30] at e
      obtain ⟨i2, -, e⟩ := bind_ok e
      by_cases k0 : τ.2.2.1.getD s 0 = 0
      · rw [if_pos k0] at e
        by_cases kk : k = 40 ∧ tK b n i2 = 15
        · rw [if_pos kk] at e; cases e
        rw [if_neg kk] at e
        cases e
        exact ⟨⟨rfl, rfl, rfl, rfl, rfl⟩, ⟨[], (List.append_nil _).symm⟩, fun _ _ _ => rfl, fun _ _ => rfl, up2_eq⟩
      rw [if_neg k0] at e
      by_cases kk : k = 40 ∧ tK b n i2 = 15
      · rw [if_pos kk] at e
        by_cases o15 : o = 15
        · rw [if_pos o15] at e; cases e
        rw [if_neg o15] at e
        obtain ⟨i3, -, e⟩ := bind_ok e
        obtain ⟨q, eq, e⟩ := bind_ok e
        obtain ⟨i4, -, e⟩ := bind_ok e
        cases e
        obtain ⟨a1, a2, a3, a4⟩ := su_k hv (Or.inl rfl) eq
        obtain ⟨-, Y, -, -, -, eA⟩ := su_u hv eq
        refine ⟨KcS.tr (σ1 := paP (paP (raP σ (up2 σ.1.2.1 60 (40 * m + j) (Int32.ofNat s))) j 3 1) j 4 (Int32.ofNat s)) ⟨rfl, rfl, rfl, rfl, rfl⟩ a1, a2, fun x f h => ?_, fun f h => ?_, ?_⟩
        · rw [a3 x f h]
          show up2 (up2 σ.2.1.1 j 3 1) j 4 _ x f = _
          rw [up2_ne (fun z => h z.1), up2_ne (fun z => h z.1)]
        · rw [a4 f (Or.inl h)]
          show up2 (up2 σ.2.1.1 j 3 1) j 4 _ j f = _
          rw [up2_ne (fun z => by omega), up2_ne (fun z => by omega)]
        · rw [eA]
          show up2 (up2 (up2 σ.1.2.1 60 (40 * m + j) (Int32.ofNat s)) 64 _ _) 65 _ _ 60 (40 * m + j) = Int32.ofNat s
          rw [up2_ne (fun z => absurd z.1 (by decide)), up2_ne (fun z => absurd z.1 (by decide)), up2_eq]
      · rw [if_neg kk] at e; cases e
  · rw [if_neg k2] at e; cases e
/-- what a condition leaves -/
def CoK (m j : Nat) (σ σ' : PS) : Prop := σ'.2.1.1 = σ.2.1.1 ∧ trS σ' = trS σ ∧ ifS σ' = ifS σ ∧ σ'.2.2.1 = σ.2.2.1 ∧ σ'.1.1 = σ.1.1 ∧ ∀ c x, ¬ (61 ≤ c ∧ c ≤ 63) ∨ x ≠ 40 * m + j → σ'.1.2.1 c x = σ.1.2.1 c x
theorem co_gi {r : Nat × PS × Nat} (hg : giT τ σ γ) (e : coM b n m τ j i o σ = .ok r) : ∃ γ1, γ1.1 = γ.1 ∧ giT τ r.2.1 γ1 ∧ gfT noN noN σ γ r.2.1 γ1 ∧ CdW (woS τ m r.2.1 γ1) m r.2.1.2.2.2.length (40 * m + j) (Int32.ofNat r.2.2) ∧ CoK m j σ r.2.1 ∧ r.2.1.1.2.1 61 (40 * m + j) = σ.1.2.1 61 (40 * m + j) := by
  obtain ⟨t, D, V, h1, ⟨x1, x2, x3, x4, x5, x6, x7, x8⟩, h3, h4⟩ := co_ci hg.2.1 e
  have e6 : ifS r.2.1 = ifS σ := by unfold ifS; rw [x7]
  have hl : r.2.1.2.2.2.length = σ.2.2.2.length + V.length := by rw [x1, List.length_append]
  refine ⟨(γ.1, γ.2.1 ++ D, γ.2.2 ++ t), rfl, ⟨by rw [x6]; exact hg.1, h1, fun f hf => ?_⟩, ⟨by rw [x6]; exact TE.rf, ⟨D, rfl⟩, ⟨t, rfl⟩, ⟨V, x1⟩, ⟨[], by rw [e6, List.append_nil]⟩, ⟨[], by rw [x8, List.append_nil]⟩⟩, ⟨σ.2.2.2.length, r.2.1.2.2.2.length - 1, by omega, by omega, ?_, ?_, h3, ?_⟩, ⟨x5, x6, e6, x8, x3, fun c x hc => ?_⟩, ?_⟩
  · rw [e6] at hf ⊢
    obtain ⟨l, l1, l2⟩ := hg.2.2 f hf
    exact ⟨l, l1, l2.app⟩
  · show r.2.1.1.2.1 62 (40 * m + j) = _
    rw [x4, up2_ne (fun z => absurd z.1 (by decide)), up2_eq]
  · show r.2.1.1.2.1 63 (40 * m + j) = _
    rw [x4, up2_eq]
  · show Int32.ofNat r.2.2 = Int32.ofNat ((γ.2.1 ++ D).getD (r.2.1.2.2.2.length - 1) 0)
    rw [← h4]
  · rw [x4, up2_ne (fun z => by omega), up2_ne (fun z => by omega)]
  · rw [x4, up2_ne (fun z => absurd z.1 (by decide)), up2_ne (fun z => absurd z.1 (by decide))]
theorem at_gi {r : Nat × PS × Nat × Bool} (hg : giT τ σ γ) (h61 : σ.1.2.1 61 (40 * m + j) = 0) (e : atM b n m τ j i o σ = .ok r) : ∃ γ1, γ1.1 = γ.1 ∧ giT τ r.2.1 γ1 ∧ gfT noN noN σ γ r.2.1 γ1 ∧ CdW (woS τ m r.2.1 γ1) m r.2.1.2.2.2.length (40 * m + j) (Int32.ofNat r.2.2.1) ∧ CoK m j σ r.2.1 ∧ r.2.1.1.2.1 61 (40 * m + j) = bI r.2.2.2 := by
  unfold atM at e
  obtain ⟨q, eq, e⟩ := bind_ok e
  obtain ⟨u, eu, e⟩ := bind_ok e
  cases e
  by_cases hq : q.2 = true
  · rw [if_pos hq] at eu
    have kc : KcS σ (raP σ (up2 σ.1.2.1 61 (40 * m + j) 1)) := KcS.ra
    obtain ⟨γ1, g1, g2, g3, g4, ⟨k1, k2, k3, k4, k5, k6⟩, g6⟩ := co_gi (kc.gi hg) eu
    have gk : gfT noN noN σ γ (raP σ (up2 σ.1.2.1 61 (40 * m + j) 1)) γ := kc.gf ⟨[], (List.append_nil _).symm⟩
    refine ⟨γ1, g1, g2, gk.tr g3 (fun _ _ _ z => z) (fun _ _ _ z => z), g4, ⟨k1, k2, k3, k4, k5, fun c x hc => ?_⟩, ?_⟩
    · rw [k6 c x hc]
      exact up2_ne (fun z => by omega)
    · show u.2.1.1.2.1 61 (40 * m + j) = bI q.2
      rw [g6, hq]
      exact up2_eq
  · rw [if_neg hq] at eu
    obtain ⟨γ1, g1, g2, g3, g4, g5, g6⟩ := co_gi hg eu
    refine ⟨γ1, g1, g2, g3, g4, g5, ?_⟩
    show u.2.1.1.2.1 61 (40 * m + j) = bI q.2
    rw [g6, h61]
    cases hz : q.2 with
    | true => exact absurd hz hq
    | false => rfl
/-- what a leaf's reading comes to: node x -/
def LfC (τ : Td) (m : Nat) (k : Int32) (K : List KE) (j : Nat) (σ : PS) (γ : Gh) (σ' : PS) (x : Nat) : Prop := ∃ γ', giT τ σ' γ' ∧ gfT noN noN σ γ σ' γ' ∧ ((trS σ).1 ≤ x ∧ x < (trS σ').1 ∧ (trS σ').2.2 9 x = 0) ∧ (trS σ').2.1 = (trS σ).2.1 + paK k ∧ PkS (woS τ m σ' γ') m σ'.2.2.2.length (ifS σ').length (trS σ).1 (trS σ').1 k K j (trS σ).2.1 (trS σ).2.1 x [] ∧ (∀ x f, x ≠ j → σ'.2.1.1 x f = σ.2.1.1 x f) ∧ (∀ f, f ≤ 2 → σ'.2.1.1 j f = σ.2.1.1 j f) ∧ ifS σ' = ifS σ
theorem LfC.of {T : TrT} {G1 : Nat → List Nat} {x q p : Nat} (hg : giT τ σ1 γ1) (gf : gfT noN noN σ γ σ1 γ1) (e5 : trS σ1 = trS σ) (nw : NW (trS σ1) T γ1.1 G1 x noN q p) (ep : p = paK k) (hp : PkS (woS τ m (trP1 σ1 T) (G1, γ1.2)) m σ1.2.2.2.length (ifS σ1).length (trS σ1).1 T.1 k K j (trS σ1).2.1 (trS σ1).2.1 x []) (p1 : ∀ x f, x ≠ j → σ1.2.1.1 x f = σ.2.1.1 x f) (p2 : ∀ f, f ≤ 2 → σ1.2.1.1 j f = σ.2.1.1 j f) (p3 : ifS σ1 = ifS σ) : LfC τ m k K j σ γ (trP1 σ1 T) x := by
  obtain ⟨g1, g2⟩ := gi_tr hg nw
  obtain ⟨n1, n2, n3, -⟩ := nw.2.2.1
  refine ⟨(G1, γ1.2), g1, gf.tr g2 (fun _ _ _ z => z) (fun _ _ _ z => z), ⟨by rw [← e5]; exact n1, n2, n3⟩, ?_, ?_, p1, p2, p3⟩
  · show T.2.1 = _
    rw [nw.2.2.2, e5, ep]
  · rw [e5] at hp
    exact hp
end
end
section
/-! leaves: by kind -/
section
variable {b : Nat → Int32} {n m : Nat} {τ : Td} {j i o : Nat} {σ σ1 : PS} {γ γ1 : Gh} {k : Int32} {K : List KE} {H : Nat → Prop} {T : TrT} {G1 : Nat → List Nat} {c : List Nat × List (Nat × Nat)}
theorem woV_tr : woV (woS τ m (trP1 σ T) (G1, c)) = vwT T G1 := rfl
theorem woA_tr : woA (woS τ m (trP1 σ T) (G1, c)) = σ.1.2.1 := rfl
theorem woP_tr : woP (woS τ m (trP1 σ T) (G1, c)) = σ.2.1.1 := rfl
theorem CdW_tr {zn P : Nat} {l : Int32} (h : CdW (woS τ m σ γ) m zn P l) : CdW (woS τ m (trP1 σ T) (G1, γ.2)) m zn P l := h
theorem lf_gi (hB : By b) (hv : HvT τ) {w : Int64} {r : Nat × PS × Nat} (hT : (trS σ).1 ≤ 600) (hg : giT τ σ γ) (h61 : σ.1.2.1 61 (40 * m + j) = 0) (hK : K.length ≤ 15) (ho : opnK k = false) (e : lfM b n m τ k w j i K σ = .ok r) : LfC τ m k K j σ γ r.2.1 r.2.2 := by
  unfold lfM at e
  by_cases k38 : k = 38
  · rw [if_pos k38] at e
    cases e
    subst k38
    obtain ⟨G1, nw, sh⟩ := W_pa hg.1 (by omega)
    refine LfC.of hg gfT.rf rfl nw (by decide) ?_ (fun _ _ _ => rfl) (fun _ _ => rfl) rfl
    unfold PkS
    rw [if_pos rfl, woV_tr]
    exact ⟨sh, rfl⟩
  rw [if_neg k38] at e
  by_cases k39 : k = 39
  · rw [if_pos k39] at e
    cases e
    subst k39
    obtain ⟨G1, nw, sh⟩ := W_ha hg.1 (by omega)
    refine LfC.of hg gfT.rf rfl nw (by decide) ?_ (fun _ _ _ => rfl) (fun _ _ => rfl) rfl
    unfold PkS
    rw [if_neg (by decide), if_pos rfl, woV_tr]
    exact ⟨sh, rfl⟩
  rw [if_neg k39] at e
  by_cases k40 : k = 40
  · rw [if_pos k40] at e
    obtain ⟨q, eq, e⟩ := bind_ok e
    cases e
    subst k40
    obtain ⟨a1, a2, a3, a4, a5⟩ := em_k hv eq
    obtain ⟨G1, nw, sh⟩ := W_em (v := q.2.2) (a1.gi hg).1 (by rw [a1.2.2.2.2]; omega)
    refine LfC.of (a1.gi hg) (a1.gf a2) a1.2.2.2.2 nw (by decide) ?_ a3 a4 a1.2.2.1
    unfold PkS
    rw [if_neg (by decide), if_neg (by decide), if_pos rfl, woV_tr, woA_tr]
    exact ⟨⟨q.2.2, a5, sh⟩, rfl⟩
  rw [if_neg k40] at e
  by_cases k41 : k = 41
  · rw [if_pos k41] at e
    obtain ⟨q, eq, e⟩ := bind_ok e
    cases e
    subst k41
    obtain ⟨a1, a2, a3, a4, a5⟩ := em_k hv eq
    obtain ⟨G1, nw, sh⟩ := W_st (v := q.2.2) (a1.gi hg).1 (by rw [a1.2.2.2.2]; omega)
    refine LfC.of (a1.gi hg) (a1.gf a2) a1.2.2.2.2 nw (by decide) ?_ a3 a4 a1.2.2.1
    unfold PkS
    rw [if_neg (by decide), if_neg (by decide), if_neg (by decide), if_pos rfl, woV_tr, woA_tr]
    exact ⟨⟨q.2.2, a5, sh⟩, rfl⟩
  rw [if_neg k41] at e
  by_cases k47 : k = 47
  · rw [if_pos k47] at e
    obtain ⟨q, eq, e⟩ := bind_ok e
    cases e
    subst k47
    obtain ⟨γ1, g1, g2, g3, g4, ⟨a1, a2, a3, a4, a5, a6⟩, g6⟩ := at_gi hg h61 eq
    obtain ⟨G1, nw, sh⟩ := W_aw (l := Int32.ofNat q.2.2.1) (im := q.2.2.2) g2.1 (by rw [a2]; omega)
    refine LfC.of g2 g3 a2 nw (by decide) ?_ (fun _ _ _ => by rw [a1]) (fun _ _ => by rw [a1]) a3
    unfold PkS
    rw [if_neg (by decide), if_neg (by decide), if_neg (by decide), if_neg (by decide), if_pos rfl, woV_tr, woA_tr]
    exact ⟨⟨_, _, CdW_tr g4, g6, sh⟩, rfl⟩
  rw [if_neg k47] at e
  by_cases k57 : k = 57
  · rw [if_pos k57] at e
    by_cases t2 : tK b n i = 2
    · rw [if_pos t2] at e
      cases et : trW K (tC b n i) with
      | none => rw [et] at e; cases e
      | some q =>
        rw [et] at e
        obtain ⟨i2, -, e⟩ := bind_ok e
        cases e
        subst k57
        have kc : KcS σ (raP σ (up2 σ.1.2.1 60 (40 * m + j) (Int32.ofNat q.2))) := KcS.ra
        obtain ⟨G1, nw, sh⟩ := W_ex (v := q.1) hg.1 (by omega)
        refine LfC.of (kc.gi hg) (kc.gf ⟨[], (List.append_nil _).symm⟩) rfl nw (by decide) ?_ (fun _ _ _ => rfl) (fun _ _ => rfl) rfl
        unfold PkS
        rw [if_neg (by decide), if_neg (by decide), if_neg (by decide), if_neg (by decide), if_neg (by decide), if_pos rfl, woV_tr, woA_tr]
        exact ⟨⟨q.1, q.2, by have := trW_lt K q.1 q.2 et; omega, up2_eq, trW_X (NmR.nz ⟨tP b n i, wdK_L hB (Or.inl t2), rfl, rfl⟩) K q.1 q.2 et, sh⟩, rfl⟩
    · rw [if_neg t2] at e; cases e
  rw [if_neg k57] at e
  have op : ∀ x : Int32, opnK x = true → k ≠ x := fun x hx z => by rw [z, hx] at ho; exact absurd ho (by decide)
  have pk : ∀ {W : Wo} {zn fn lo hi p pb x : Nat}, lfS (woV W) lo hi x 0 0 → PkS W m zn fn lo hi k K j p pb x [] := by
    intro W zn fn lo hi p pb x h
    unfold PkS
    rw [if_neg k38, if_neg k39, if_neg k40, if_neg k41, if_neg k47, if_neg k57, if_neg (op 42 (by decide)), if_neg (op 44 (by decide)), if_neg (op 58 (by decide)), if_neg (op 49 (by decide)), if_neg (op 50 (by decide)), if_neg (op 52 (by decide)), if_neg (op 53 (by decide)), if_neg (op 55 (by decide)), if_neg (op 17 (by decide))]
    exact ⟨h, rfl⟩
  have pa0 : 0 = paK k := by
    unfold paK
    rw [if_neg (op 53 (by decide)), if_neg]
    rintro (z | z | z | z | z | z)
    · exact k38 z
    · exact k39 z
    · exact k41 z
    · exact k47 z
    · exact op 49 (by decide) z
    · exact op 50 (by decide) z
  by_cases k2 : k = 2
  · rw [if_pos k2] at e
    obtain ⟨i2, -, e⟩ := bind_ok e
    obtain ⟨q, eq, e⟩ := bind_ok e
    cases e
    obtain ⟨a1, a2, a3, a4⟩ := su_k hv (Or.inl rfl) eq
    have kc : KcS σ q.2 := KcS.tr (σ1 := guP (paP (paP σ j 3 2) j 4 (oi (fd τ.2.2.2.1 w))) (giS σ ||| ((1 : Int32) <<< (oi (fd τ.2.2.2.1 w) &&& 31))) (usS σ)) ⟨rfl, rfl, rfl, rfl, rfl⟩ a1
    obtain ⟨G1, nw, -, sh⟩ := W_mk (k := 0) (kc.gi hg).1 (by rw [kc.2.2.2.2]; omega) (by decide)
    refine LfC.of (kc.gi hg) (kc.gf a2) kc.2.2.2.2 nw pa0 (pk (by rw [woV_tr]; exact sh)) (fun x f h => ?_) (fun f h => ?_) kc.2.2.1
    · rw [a3 x f h]
      show up2 (up2 σ.2.1.1 j 3 2) j 4 _ x f = _
      rw [up2_ne (fun z => h z.1), up2_ne (fun z => h z.1)]
    · rw [a4 f (Or.inl h)]
      show up2 (up2 σ.2.1.1 j 3 2) j 4 _ j f = _
      rw [up2_ne (fun z => by omega), up2_ne (fun z => by omega)]
  · rw [if_neg k2] at e
    cases e
    obtain ⟨G1, nw, -, sh⟩ := W_mk (k := 0) hg.1 (by omega) (by decide)
    exact LfC.of hg gfT.rf rfl nw pa0 (pk (by rw [woV_tr]; exact sh)) (fun _ _ _ => rfl) (fun _ _ => rfl) rfl
end
end
section
/-! heads of parts with rows: what their reading leaves in state and ghosts -/
section
variable {S : Nat} {sg : Nat → Nat} {N : Nt} {bf : Nat → Nat} {Y : List Cd} {Z : List Nat} {Ro : List (Nat × Nat)}
theorem smC.net {t : Nt} (h : smC S sg N bf Y Z) : smC S sg (N ++ t) bf Y Z := fun v sv bv hv => h v sv bv hv.pre
theorem ciC.fre {k x : Nat} (h : ciC S sg N bf Y Z Ro) (hk : k ≠ 0) : ciC S sg (frL N).1 bf Y Z (Ro ++ [(k, x)]) ∧ rlC (Ro ++ [(k, x)]) (2 * N.length) k x := by
  obtain ⟨⟨h1, h2, h3, h4⟩, h5, h6, h7⟩ := h
  have ln : (frL N).1.length = N.length + 1 := List.length_append
  refine ⟨⟨⟨h1.fre hk, by omega, fun s hs => (h3 s hs).app, fun s hs => (h4 s hs).app⟩, h5, fun i hi => ?_, h7.net⟩, by omega, ?_, ?_⟩
  · have := h6 i hi
    omega
  · rw [List.length_append]
    have := h1.1
    show 2 * N.length / 2 < Ro.length + 1
    omega
  · rw [show 2 * N.length / 2 = Ro.length by have := h1.1; omega]
    exact gdB
end
/-- what a head's reading comes to -/
def HdC (τ : Td) (m : Nat) (k : Int32) (j : Nat) (σ : PS) (γ : Gh) (σ' : PS) (lit : Nat) (im : Bool) (aw : Nat) (t : Option Int64) : Prop := ∃ γ', giT τ σ' γ' ∧ gfT noN noN σ γ σ' γ' ∧ (trS σ').2.1 = (trS σ).2.1 + hpK k ∧ (∀ x f, x ≠ j → σ'.2.1.1 x f = σ.2.1.1 x f) ∧ (∀ f, f ≤ 2 → σ'.2.1.1 j f = σ.2.1.1 j f) ∧ tpK k t
  ∧ (k = 44 ∨ k = 53 → CdW (woS τ m σ' γ') m σ'.2.2.2.length (40 * m + j) (Int32.ofNat lit))
  ∧ (k = 58 → (ifS σ').length = (ifS σ).length + 1 ∧ σ'.2.1.1 j 4 = Int32.ofNat (σ.1.1 2 - 1) ∧ (ifS σ').getD (ifS σ).length 0 = Int32.ofNat lit)
  ∧ (k ≠ 58 → ifS σ' = ifS σ)
  ∧ (k = 53 → σ'.1.2.1 61 (40 * m + j) = bI im ∧ awS (vwT (trS σ') γ'.1) (trS σ).1 (trS σ').1 aw (Int32.ofNat lit) im (trS σ).2.1)
  ∧ (k = 53 ∨ k = 17 → (trS σ).1 ≤ aw ∧ aw < (trS σ').1 ∧ (trS σ').2.2 9 aw = 0)
  ∧ (k = 17 → (trS σ').2.2 5 aw = 8 ∧ (trS σ').2.2 10 aw = 0 ∧ γ'.1 aw = [])
  ∧ (k = 49 ∨ k = 50 ∨ k = 52 ∨ k = 42 ∨ k = 55 → σ'.1.2.1 61 (40 * m + j) = σ.1.2.1 61 (40 * m + j))
section
variable {b : Nat → Int32} {n m : Nat} {τ : Td} {j i o : Nat} {σ σ1 : PS} {γ γ1 : Gh} {k : Int32} {K : List KE}
theorem hd_gi (hB : By b) (hv : HvT τ) {r : Nat × PS × Nat × Bool × Nat × Option Int64} (hT : (trS σ).1 ≤ 600) (hg : giT τ σ γ) (h61 : σ.1.2.1 61 (40 * m + j) = 0) (ho : opnK k = true) (e : hdM b n m τ k j i K σ = .ok r) : HdC τ m k j σ γ r.2.1 r.2.2.1 r.2.2.2.1 r.2.2.2.2.1 r.2.2.2.2.2 := by
  unfold hdM at e
  by_cases k44 : k = 44
  · rw [if_pos k44] at e
    obtain ⟨q, eq, e⟩ := bind_ok e
    obtain ⟨i2, -, e⟩ := bind_ok e
    cases e
    subst k44
    obtain ⟨γ1, g1, g2, g3, g4, ⟨a1, a2, a3, a4, a5, a6⟩, g6⟩ := co_gi hg eq
    exact ⟨γ1, g2, g3, by rw [a2]; rfl, fun _ _ _ => by rw [a1], fun _ _ => by rw [a1], (by unfold tpK; rw [if_neg (by decide), if_neg (by decide)]), fun _ => g4, fun z => absurd z (by decide), fun _ => a3, fun z => absurd z (by decide), fun z => absurd z (by decide), fun z => absurd z (by decide), fun z => absurd z (by decide)⟩
  rw [if_neg k44] at e
  by_cases k49 : k = 49
  · rw [if_pos k49] at e
    cases e
    subst k49
    exact ⟨γ, hg, gfT.rf, rfl, fun _ _ _ => rfl, fun _ _ => rfl, (by unfold tpK; rw [if_neg (by decide), if_pos (by decide)]), fun z => absurd z (by decide), fun z => absurd z (by decide), fun _ => rfl, fun z => absurd z (by decide), fun z => absurd z (by decide), fun z => absurd z (by decide), fun _ => rfl⟩
  rw [if_neg k49] at e
  by_cases k50 : k = 50
  · rw [if_pos k50] at e
    obtain ⟨i2, -, e⟩ := bind_ok e
    cases e
    subst k50
    exact ⟨γ, hg, gfT.rf, rfl, fun _ _ _ => rfl, fun _ _ => rfl, (by unfold tpK; rw [if_neg (by decide), if_pos (by decide)]), fun z => absurd z (by decide), fun z => absurd z (by decide), fun _ => rfl, fun z => absurd z (by decide), fun z => absurd z (by decide), fun z => absurd z (by decide), fun _ => rfl⟩
  rw [if_neg k50] at e
  by_cases k53 : k = 53
  · rw [if_pos k53] at e
    obtain ⟨q, eq, e⟩ := bind_ok e
    obtain ⟨i2, -, e⟩ := bind_ok e
    cases e
    subst k53
    obtain ⟨γ1, g1, g2, g3, g4, ⟨a1, a2, a3, a4, a5, a6⟩, g6⟩ := at_gi hg h61 eq
    obtain ⟨G1, nw, sh⟩ := W_aw (l := Int32.ofNat q.2.2.1) (im := q.2.2.2) g2.1 (by rw [a2]; omega)
    obtain ⟨u1, u2⟩ := gi_tr g2 nw
    obtain ⟨n1, n2, n3, -⟩ := nw.2.2.1
    have np := nw.2.2.2
    generalize (awT (trS q.2.1) (Int32.ofNat q.2.2.1) q.2.2.2) = R at u1 u2 n1 n2 n3 np sh
    rw [a2] at sh n1 np
    exact ⟨(G1, γ1.2), u1, g3.tr u2 (fun _ _ _ z => z) (fun _ _ _ z => z), np, fun _ _ _ => by show q.2.1.2.1.1 _ _ = _; rw [a1], fun _ _ => by show q.2.1.2.1.1 _ _ = _; rw [a1], (by unfold tpK; rw [if_neg (by decide), if_pos (by decide)]), fun _ => CdW_tr g4, fun z => absurd z (by decide), fun _ => a3, fun _ => ⟨g6, sh⟩, fun _ => ⟨n1, n2, n3⟩, fun z => absurd z (by decide), fun z => absurd z (by decide)⟩
  rw [if_neg k53] at e
  by_cases k55 : k = 55
  · rw [if_pos k55] at e
    by_cases t2 : tK b n i = 2
    · rw [if_pos t2] at e
      by_cases q2 : toT (tC b n i) τ = true ∨ (trW K (tC b n i)).isSome = true
      · rw [if_pos q2] at e; cases e
      rw [if_neg q2] at e
      obtain ⟨i2, -, e⟩ := bind_ok e
      obtain ⟨i3, -, e⟩ := bind_ok e
      cases e
      subst k55
      have kc : KcS σ ((σ.1.1, σ.1.2.1, va_up σ.1.2.2 (40 * m + j) (rV b n (tP b n i))), σ.2) := ⟨rfl, rfl, rfl, rfl, rfl⟩
      exact ⟨γ, kc.gi hg, kc.gf ⟨[], (List.append_nil _).symm⟩, rfl, fun _ _ _ => rfl, fun _ _ => rfl, (by unfold tpK; rw [if_pos rfl]; exact ⟨_, rfl, NmR.nz ⟨tP b n i, wdK_L hB (Or.inl t2), rfl, rfl⟩⟩), fun z => absurd z (by decide), fun z => absurd z (by decide), fun _ => rfl, fun z => absurd z (by decide), fun z => absurd z (by decide), fun z => absurd z (by decide), fun _ => rfl⟩
    · rw [if_neg t2] at e; cases e
  rw [if_neg k55] at e
  by_cases k58 : k = 58
  · rw [if_pos k58] at e
    obtain ⟨q, eq, e⟩ := bind_ok e
    by_cases kr : 7 ≤ tK b n q.1 ∧ tK b n q.1 ≤ 12
    · rw [if_pos kr] at e
      obtain ⟨i2, -, e⟩ := bind_ok e
      obtain ⟨u, eu, e⟩ := bind_ok e
      obtain ⟨i3, -, e⟩ := bind_ok e
      cases e
      subst k58
      obtain ⟨a1, a2, a3, a4⟩ := su_k hv (Or.inl rfl) eq
      obtain ⟨c1, c2, c3, c4⟩ := su_k hv (Or.inr rfl) eu
      have k0 : KcS σ (paP (paP σ j 3 3) j 4 (Int32.ofNat (σ.1.1 2 - 1))) := ⟨rfl, rfl, rfl, rfl, rfl⟩
      have k1 : KcS q.2 (paP (raP q.2 (up2 q.2.1.2.1 68 (40 * m + j) (tK b n q.1 - 7))) j 7 (tK b n q.1)) := ⟨rfl, rfl, rfl, rfl, rfl⟩
      have kc : KcS σ u.2 := (k0.tr a1).tr (k1.tr c1)
      have x2 : ∃ T, u.2.2.2.1 = σ.2.2.1 ++ T := apT (y := q.2.2.2.1) a2 c2
      have gu := kc.gi hg
      obtain ⟨v1, v2⟩ := ciC.fre (k := 5) (x := (ifS u.2).length) gu.2.1 (by decide)
      have pa4 : u.2.2.1.1 j 4 = Int32.ofNat (σ.1.1 2 - 1) := by
        rw [c4 4 (Or.inr rfl)]
        show up2 q.2.2.1.1 j 7 _ j 4 = _
        rw [up2_ne (fun z => absurd z.2 (by decide)), a4 4 (Or.inr rfl)]
        exact up2_eq
      have ln : (ifS u.2 ++ [Int32.ofNat (2 * u.2.2.1.2.2.1.length)]).length = (ifS u.2).length + 1 := List.length_append
      refine ⟨(γ.1, γ.2.1, γ.2.2 ++ [(5, (ifS u.2).length)]), ⟨gu.1, v1, fun f hf => ?_⟩, ?_, by show (trS u.2).2.1 = _; rw [kc.2.2.2.2]; rfl, fun x f h => ?_, fun f h => ?_, (by unfold tpK; rw [if_neg (by decide), if_neg (by decide)]), fun z => absurd z (by decide), fun _ => ⟨?_, pa4, ?_⟩, fun z => absurd rfl z, fun z => absurd z (by decide), fun z => absurd z (by decide), fun z => absurd z (by decide), fun z => absurd z (by decide)⟩
      · have hf : f < (ifS u.2 ++ [Int32.ofNat (2 * u.2.2.1.2.2.1.length)]).length := hf
        rw [ln] at hf
        show ∃ l, (ifS u.2 ++ [Int32.ofNat (2 * u.2.2.1.2.2.1.length)]).getD f 0 = _ ∧ rlC (γ.2.2 ++ _) l 5 f
        by_cases ef : f = (ifS u.2).length
        · subst ef
          rw [gdB]
          exact ⟨_, rfl, v2⟩
        · rw [gdA (by omega)]
          obtain ⟨l, l1, l2⟩ := gu.2.2 f (by omega)
          exact ⟨l, l1, l2.app⟩
      · refine ⟨by show TE (trS σ) (trS u.2) _ _ _ _; rw [kc.2.2.2.2]; exact TE.rf, ⟨[], (List.append_nil _).symm⟩, ⟨_, rfl⟩, ⟨[], by show u.2.2.2.2 = _; rw [kc.2.2.2.1, List.append_nil]⟩, ⟨[Int32.ofNat (2 * u.2.2.1.2.2.1.length)], ?_⟩, x2⟩
        show ifS u.2 ++ _ = ifS σ ++ _
        rw [kc.2.2.1]
      · show u.2.2.1.1 x f = _
        rw [c3 x f h]
        show up2 q.2.2.1.1 j 7 _ x f = _
        rw [up2_ne (fun z => h z.1), a3 x f h]
        show up2 (up2 σ.2.1.1 j 3 3) j 4 _ x f = _
        rw [up2_ne (fun z => h z.1), up2_ne (fun z => h z.1)]
      · show u.2.2.1.1 j f = _
        rw [c4 f (Or.inl h)]
        show up2 q.2.2.1.1 j 7 _ j f = _
        rw [up2_ne (fun z => by omega), a4 f (Or.inl h)]
        show up2 (up2 σ.2.1.1 j 3 3) j 4 _ j f = _
        rw [up2_ne (fun z => by omega), up2_ne (fun z => by omega)]
      · show (ifS u.2 ++ [Int32.ofNat (2 * u.2.2.1.2.2.1.length)]).length = _
        rw [ln, kc.2.2.1]
      · show (ifS u.2 ++ [Int32.ofNat (2 * u.2.2.1.2.2.1.length)]).getD (ifS σ).length 0 = _
        rw [← kc.2.2.1]
        exact gdB
    · rw [if_neg kr] at e; cases e
  rw [if_neg k58] at e
  by_cases k17 : k = 17
  · rw [if_pos k17] at e
    cases e
    subst k17
    obtain ⟨G1, nw, sh, -⟩ := W_mk (k := 8) hg.1 (by omega) (by decide)
    obtain ⟨u1, u2⟩ := gi_tr hg nw
    obtain ⟨n1, n2, n3, -⟩ := nw.2.2.1
    have np := nw.2.2.2
    generalize (mkT (trS σ) 8) = R at u1 u2 n1 n2 n3 np sh
    exact ⟨(G1, γ.2), u1, u2, np, fun _ _ _ => rfl, fun _ _ => rfl, (by unfold tpK; rw [if_neg (by decide), if_neg (by decide)]), fun z => absurd z (by decide), fun z => absurd z (by decide), fun _ => rfl, fun z => absurd z (by decide), fun _ => ⟨n1, n2, n3⟩, fun _ => ⟨sh.2.1, sh.2.2.1, sh.2.2.2⟩, fun z => absurd z (by decide)⟩
  rw [if_neg k17] at e
  cases e
  have hk : k = 42 ∨ k = 52 := by
    unfold opnK at ho
    simp only [Bool.or_eq_true, beq_iff_eq] at ho
    rcases ho with ((((((((z | z) | z) | z) | z) | z) | z) | z) | z)
    · exact Or.inl z
    · exact absurd z k44
    · exact absurd z k49
    · exact absurd z k50
    · exact Or.inr z
    · exact absurd z k53
    · exact absurd z k55
    · exact absurd z k58
    · exact absurd z k17
  have tp : tpK k none := by
    unfold tpK
    rw [if_neg k55, if_neg]
    rintro (z | z | z)
    · exact k49 z
    · exact k50 z
    · exact k53 z
  have h0 : hpK k = 0 := if_neg k53
  exact ⟨γ, hg, gfT.rf, by rw [h0]; rfl, fun _ _ _ => rfl, fun _ _ => rfl, tp, fun z => by rcases z with z | z; exact absurd z k44; exact absurd z k53, fun z => absurd z k58, fun _ => rfl, fun z => absurd z k53, fun z => by rcases z with z | z; exact absurd z k53; exact absurd z k17, fun z => absurd z k17, fun _ => rfl⟩
end
end
section
/-! behind a part's rows: what its tail leaves in state and ghosts -/
def TlC (τ : Td) (m : Nat) (k : Int32) (K : List KE) (j lo p x aw : Nat) (σ : PS) (γ : Gh) (σ' : PS) (y : Nat) : Prop := ∃ γ', giT τ σ' γ' ∧ gfT noN (fun z => z = x ∨ k = 53 ∧ z = aw) σ γ σ' γ' ∧ ((trS σ).1 ≤ y ∧ y < (trS σ').1 ∧ (trS σ').2.2 9 y = 0) ∧ (trS σ').2.1 = (trS σ).2.1 + (paK k - hpK k) ∧ PkS (woS τ m σ' γ') m σ'.2.2.2.length (ifS σ').length lo (trS σ').1 k K j p (trS σ).2.1 y [x] ∧ (∀ z f, z ≠ j → σ'.2.1.1 z f = σ.2.1.1 z f) ∧ (∀ f, f ≠ 2 → σ'.2.1.1 j f = σ.2.1.1 j f) ∧ (k ≠ 42 → σ'.2.1.1 j 2 = σ.2.1.1 j 2) ∧ (k = 42 → σ'.2.1.1 j 2 = if (trS σ).2.2 13 x &&& 1 = 0 then σ.2.1.1 j 2 else 7) ∧ ifS σ' = ifS σ
section
variable {b : Nat → Int32} {n m : Nat} {τ : Td} {j i o lo p x y aw lit : Nat} {σ σ1 : PS} {γ γ1 : Gh} {k : Int32} {K : List KE} {H : Nat → Prop}
theorem TlC.of {T : TrT} {G1 : Nat → List Nat} {q pz : Nat} (hg : giT τ σ1 γ1) (gf : gfT noN noN σ γ σ1 γ1) (e5 : trS σ1 = trS σ) (nw : NW (trS σ1) T γ1.1 G1 y H q pz) (hH : ∀ z, H z → z = x ∨ k = 53 ∧ z = aw) (ep : pz = paK k - hpK k) (hp : PkS (woS τ m (trP1 σ1 T) (G1, γ1.2)) m σ1.2.2.2.length (ifS σ1).length lo T.1 k K j p (trS σ1).2.1 y [x]) (p1 : ∀ z f, z ≠ j → σ1.2.1.1 z f = σ.2.1.1 z f) (p2 : ∀ f, f ≠ 2 → σ1.2.1.1 j f = σ.2.1.1 j f) (p3 : k ≠ 42 → σ1.2.1.1 j 2 = σ.2.1.1 j 2) (p4 : k = 42 → σ1.2.1.1 j 2 = if (trS σ).2.2 13 x &&& 1 = 0 then σ.2.1.1 j 2 else 7) (p5 : ifS σ1 = ifS σ) : TlC τ m k K j lo p x aw σ γ (trP1 σ1 T) y := by
  obtain ⟨g1, g2⟩ := gi_tr hg nw
  obtain ⟨n1, n2, n3, -⟩ := nw.2.2.1
  have gm : gfT noN (fun z => z = x ∨ k = 53 ∧ z = aw) σ γ σ1 γ1 := gf.more (fun _ _ _ z => z) (fun _ _ _ z => z.elim)
  refine ⟨(G1, γ1.2), g1, gm.tr g2 (fun _ _ _ z => z) (fun z _ _ hz => hH z hz), ⟨by rw [← e5]; exact n1, n2, n3⟩, ?_, ?_, p1, p2, p3, p4, p5⟩
  · show T.2.1 = _
    rw [nw.2.2.2, e5, ep]
  · rw [e5] at hp
    exact hp
theorem tl_gi {r : Nat × PS × Nat} (hT : (trS σ).1 ≤ 600) (hg : giT τ σ γ) (h61 : k = 49 ∨ k = 50 → σ.1.2.1 61 (40 * m + j) = 0) (hk : k = 42 ∨ k = 49 ∨ k = 50 ∨ k = 52 ∨ k = 53 ∨ k = 55) (hx : 1 ≤ x ∧ x < (trS σ).1) (rx : (trS σ).2.2 9 x = 0) (hlo : lo ≤ (trS σ).1) (h1 : 1 ≤ lo) (h53 : k = 53 → ((1 ≤ aw ∧ aw < (trS σ).1) ∧ (trS σ).2.2 9 aw = 0 ∧ x ≠ aw) ∧ CdW (woS τ m σ γ) m σ.2.2.2.length (40 * m + j) (Int32.ofNat lit) ∧ ∃ im, σ.1.2.1 61 (40 * m + j) = bI im ∧ awS (vwT (trS σ) γ.1) lo (trS σ).1 aw (Int32.ofNat lit) im p) (e : tlM b n m τ k j aw lit x i o σ = .ok r) : TlC τ m k K j lo p x aw σ γ r.2.1 r.2.2 := by
  unfold tlM at e
  by_cases k42 : k = 42
  · rw [if_pos k42] at e
    obtain ⟨i2, -, e⟩ := bind_ok e
    cases e
    subst k42
    obtain ⟨G1, nw, sh⟩ := W_wr (k := 6) hg.1 (by omega) (by decide) hx rx
    have pk : ∀ {σ1 : PS} {c : List Nat × List (Nat × Nat)} {zn fn pb : Nat}, PkS (woS τ m (trP1 σ1 (wrT (trS σ) 6 x).1) (G1, c)) m zn fn lo (wrT (trS σ) 6 x).1.1 42 K j p pb (wrT (trS σ) 6 x).2 [x] := by
      intro σ1 c zn fn pb
      unfold PkS
      rw [if_neg (by decide), if_neg (by decide), if_neg (by decide), if_neg (by decide), if_neg (by decide), if_neg (by decide), if_pos rfl, woV_tr]
      exact ⟨x, rfl, sh.st Sm.rf hlo (Nat.le_refl _)⟩
    by_cases h1 : (trS σ).2.2 13 x &&& 1 = 0
    · rw [if_pos h1]
      exact TlC.of hg gfT.rf rfl nw (fun z hz => Or.inl hz) (by decide) pk (fun _ _ _ => rfl) (fun _ _ => rfl) (fun z => absurd rfl z) (fun _ => by rw [if_pos h1]) rfl
    · rw [if_neg h1]
      have kc : KcS σ (paP σ j 2 7) := KcS.pa
      exact TlC.of (kc.gi hg) (kc.gf ⟨[], (List.append_nil _).symm⟩) rfl nw (fun z hz => Or.inl hz) (by decide) pk (fun z f hz => up2_ne (fun y => hz y.1)) (fun f hf => up2_ne (fun y => hf y.2)) (fun z => absurd rfl z) (fun _ => by rw [if_neg h1]; exact up2_eq) rfl
  rw [if_neg k42] at e
  by_cases k49 : k = 49
  · rw [if_pos k49] at e
    obtain ⟨i2, -, e⟩ := bind_ok e
    obtain ⟨q, eq, e⟩ := bind_ok e
    obtain ⟨i3, -, e⟩ := bind_ok e
    obtain ⟨γ1, g1, g2, g3, g4, ⟨a1, a2, a3, a4, a5, a6⟩, g6⟩ := at_gi hg (h61 (Or.inl k49)) eq
    obtain ⟨G1, nw, sh⟩ := W_ai (l := Int32.ofNat q.2.2.1) (im := q.2.2.2) (c := x) g2.1 (by rw [a2]; omega) (by rw [a2]; exact hx) (by rw [a2]; exact rx)
    have eF : q.2.2.2 = false → abF (trS q.2.1) x (Int32.ofNat q.2.2.1) q.2.2.2 = abT (trS q.2.1) x (Int32.ofNat q.2.2.1) := fun z => by rw [z]; exact if_neg Bool.false_ne_true
    have eT : q.2.2.2 = true → abF (trS q.2.1) x (Int32.ofNat q.2.2.1) q.2.2.2 = chT (mkT (abT (trS q.2.1) x (Int32.ofNat q.2.2.1)).1 0).1 (Int32.ofNat q.2.2.1) (mkT (abT (trS q.2.1) x (Int32.ofNat q.2.2.1)).1 0).2 (abT (trS q.2.1) x (Int32.ofNat q.2.2.1)).2 := fun z => by rw [z]; exact if_pos rfl
    have ee : r = (i3, trP1 q.2.1 (abF (trS q.2.1) x (Int32.ofNat q.2.2.1) q.2.2.2).1, (abF (trS q.2.1) x (Int32.ofNat q.2.2.1) q.2.2.2).2) := by
      by_cases hq : q.2.2.2 = true
      · rw [if_pos hq] at e
        rw [eT hq]
        generalize chT (mkT (abT (trS q.2.1) x (Int32.ofNat q.2.2.1)).1 0).1 (Int32.ofNat q.2.2.1) (mkT (abT (trS q.2.1) x (Int32.ofNat q.2.2.1)).1 0).2 (abT (trS q.2.1) x (Int32.ofNat q.2.2.1)).2 = R at e ⊢
        cases e
        rfl
      · rw [if_neg hq] at e
        rw [eF (by cases hz : q.2.2.2 with | true => exact absurd hz hq | false => rfl)]
        generalize abT (trS q.2.1) x (Int32.ofNat q.2.2.1) = R at e ⊢
        cases e
        rfl
    rw [ee]
    clear eF eT e ee
    generalize abF (trS q.2.1) x (Int32.ofNat q.2.2.1) q.2.2.2 = R at nw sh ⊢
    subst k49
    refine TlC.of g2 g3 a2 nw (fun z hz => Or.inl hz) (by decide) ?_ (fun _ _ _ => by rw [a1]) (fun _ _ => by rw [a1]) (fun _ => by rw [a1]) (fun z => absurd z (by decide)) a3
    unfold PkS
    rw [if_neg (by decide), if_neg (by decide), if_neg (by decide), if_neg (by decide), if_neg (by decide), if_neg (by decide), if_neg (by decide), if_neg (by decide), if_neg (by decide), if_pos rfl, woV_tr, woA_tr]
    exact ⟨x, _, _, rfl, CdW_tr g4, g6, sh.st Sm.rf (by rw [a2]; exact hlo) (Nat.le_refl _)⟩
  rw [if_neg k49] at e
  by_cases k50 : k = 50
  · rw [if_pos k50] at e
    obtain ⟨i2, -, e⟩ := bind_ok e
    obtain ⟨q, eq, e⟩ := bind_ok e
    obtain ⟨i3, -, e⟩ := bind_ok e
    obtain ⟨γ1, g1, g2, g3, g4, ⟨a1, a2, a3, a4, a5, a6⟩, g6⟩ := at_gi hg (h61 (Or.inr k50)) eq
    obtain ⟨G1, nw, sh⟩ := W_wk (l := Int32.ofNat q.2.2.1) (im := q.2.2.2) (c := x) g2.1 (by rw [a2]; omega) (by rw [a2]; exact hx) (by rw [a2]; exact rx)
    generalize wkT (trS q.2.1) x (Int32.ofNat q.2.2.1) q.2.2.2 = R at nw sh e ⊢
    cases e
    subst k50
    refine TlC.of g2 g3 a2 nw (fun z hz => Or.inl hz) (by decide) ?_ (fun _ _ _ => by rw [a1]) (fun _ _ => by rw [a1]) (fun _ => by rw [a1]) (fun z => absurd z (by decide)) a3
    unfold PkS
    rw [if_neg (by decide), if_neg (by decide), if_neg (by decide), if_neg (by decide), if_neg (by decide), if_neg (by decide), if_neg (by decide), if_neg (by decide), if_neg (by decide), if_neg (by decide), if_pos rfl, woV_tr, woA_tr]
    exact ⟨x, _, _, rfl, CdW_tr g4, g6, sh.st Sm.rf (by rw [a2]; exact hlo) (Nat.le_refl _)⟩
  rw [if_neg k50] at e
  by_cases k52 : k = 52
  · rw [if_pos k52] at e
    obtain ⟨i2, -, e⟩ := bind_ok e
    obtain ⟨q, eq, e⟩ := bind_ok e
    obtain ⟨i3, -, e⟩ := bind_ok e
    obtain ⟨γ1, g1, g2, g3, g4, ⟨a1, a2, a3, a4, a5, a6⟩, g6⟩ := co_gi hg eq
    obtain ⟨G1, nw, sh⟩ := W_su (l := Int32.ofNat q.2.2) (c := x) g2.1 (by rw [a2]; omega) (by rw [a2]; exact hx) (by rw [a2]; exact rx)
    generalize suT (trS q.2.1) x (Int32.ofNat q.2.2) = R at nw sh e ⊢
    cases e
    subst k52
    refine TlC.of g2 g3 a2 nw (fun z hz => Or.inl hz) (by decide) ?_ (fun _ _ _ => by rw [a1]) (fun _ _ => by rw [a1]) (fun _ => by rw [a1]) (fun z => absurd z (by decide)) a3
    unfold PkS
    rw [if_neg (by decide), if_neg (by decide), if_neg (by decide), if_neg (by decide), if_neg (by decide), if_neg (by decide), if_neg (by decide), if_neg (by decide), if_neg (by decide), if_neg (by decide), if_neg (by decide), if_pos rfl, woV_tr]
    exact ⟨x, _, rfl, CdW_tr g4, sh.st Sm.rf (by rw [a2]; exact hlo) (Nat.le_refl _)⟩
  rw [if_neg k52] at e
  by_cases k53 : k = 53
  · rw [if_pos k53] at e
    obtain ⟨i2, -, e⟩ := bind_ok e
    obtain ⟨⟨b1, b2, b3⟩, b4, im, b5, b6⟩ := h53 k53
    obtain ⟨G1, nw, sh⟩ := W_ev (l := Int32.ofNat lit) (c := x) (d := aw) hg.1 (by omega) hx rx b1 b2 b3
    generalize evT (trS σ) x aw (Int32.ofNat lit) = R at nw sh e ⊢
    cases e
    subst k53
    refine TlC.of hg gfT.rf rfl nw (fun z hz => hz.imp id (fun w => ⟨rfl, w⟩)) (by decide) ?_ (fun _ _ _ => rfl) (fun _ _ => rfl) (fun _ => rfl) (fun z => absurd z (by decide)) rfl
    unfold PkS
    rw [if_neg (by decide), if_neg (by decide), if_neg (by decide), if_neg (by decide), if_neg (by decide), if_neg (by decide), if_neg (by decide), if_neg (by decide), if_neg (by decide), if_neg (by decide), if_neg (by decide), if_neg (by decide), if_pos rfl, woV_tr, woA_tr]
    exact ⟨x, _, im, aw, rfl, CdW_tr b4, b5, b6.st (nw.sm h1 (Nat.le_refl _)) (Nat.le_refl _) nw.2.1.1, sh.st Sm.rf hlo (Nat.le_refl _)⟩
  rw [if_neg k53] at e
  have k55 : k = 55 := by
    rcases hk with z | z | z | z | z | z
    · exact absurd z k42
    · exact absurd z k49
    · exact absurd z k50
    · exact absurd z k52
    · exact absurd z k53
    · exact z
  obtain ⟨i2, -, e⟩ := bind_ok e
  obtain ⟨G1, nw, sh⟩ := W_wr (k := 9) hg.1 (by omega) (by decide) hx rx
  generalize wrT (trS σ) 9 x = R at nw sh e ⊢
  cases e
  subst k55
  refine TlC.of hg gfT.rf rfl nw (fun z hz => Or.inl hz) (by decide) ?_ (fun _ _ _ => rfl) (fun _ _ => rfl) (fun _ => rfl) (fun z => absurd z (by decide)) rfl
  unfold PkS
  rw [if_neg (by decide), if_neg (by decide), if_neg (by decide), if_neg (by decide), if_neg (by decide), if_neg (by decide), if_neg (by decide), if_neg (by decide), if_neg (by decide), if_neg (by decide), if_neg (by decide), if_neg (by decide), if_neg (by decide), if_pos rfl, woV_tr]
  exact ⟨x, rfl, sh.st Sm.rf hlo (Nat.le_refl _)⟩
/-- a choice is whole -/
theorem ch_gi {r : Nat × PS × Nat} (hT : (trS σ).1 ≤ 600) (hg : giT τ σ γ) (hx : 1 ≤ x ∧ x < (trS σ).1) (rx : (trS σ).2.2 9 x = 0) (hy : 1 ≤ y ∧ y < (trS σ).1) (ry : (trS σ).2.2 9 y = 0) (hne : x ≠ y) (e : chM b n lit x y i σ = .ok r) : ∃ T G1, r.2.1 = trP1 σ T ∧ NW (trS σ) T γ.1 G1 r.2.2 (fun z => z = x ∨ z = y) 1 0 ∧ ndS (vwT T G1) (trS σ).1 T.1 r.2.2 4 (Int32.ofNat lit) [x, y] := by
  unfold chM at e
  obtain ⟨i2, -, e⟩ := bind_ok e
  obtain ⟨G1, nw, sh⟩ := W_ch (l := Int32.ofNat lit) hg.1 (by omega) hx rx hy ry hne
  generalize chT (trS σ) (Int32.ofNat lit) x y = R at nw sh e
  cases e
  exact ⟨_, G1, rfl, nw, sh⟩
end
end
section
/-! readings as trees: more fuel, wider bounds; a child is hung -/
section
variable {W : Wo} {m zn fn lo hi zn' fn' lo' hi' : Nat}
theorem TT.mo : ∀ (g g' md : Nat) (K : List KE) (a2 a3 a4 : Nat) (c1 c2 : Int32) (fl : Bool) (j j' r r' p p' : Nat) (L : List (Nat × Nat)), g ≤ g' → TT W m zn fn lo hi g md K a2 a3 a4 c1 c2 fl j j' r r' p p' L → TT W m zn fn lo hi g' md K a2 a3 a4 c1 c2 fl j j' r r' p p' L := by
  intro g
  induction g with
  | zero => intro g' md K a2 a3 a4 c1 c2 fl j j' r r' p p' L _ h; unfold TT at h; exact h.elim
  | succ g ih =>
    intro g' md K a2 a3 a4 c1 c2 fl j j' r r' p p' L hle h
    cases g' with
    | zero => omega
    | succ g' =>
      have hle : g ≤ g' := by omega
      unfold TT at h ⊢
      by_cases m0 : md = 0
      · rw [if_pos m0] at h ⊢
        obtain ⟨x, jm, rm, pm, T, y, e, h1, h2, h3⟩ := h
        exact ⟨x, jm, rm, pm, T, y, e, ih _ _ _ _ _ _ _ _ _ _ _ _ _ _ _ _ hle h1, ih _ _ _ _ _ _ _ _ _ _ _ _ _ _ _ _ hle h2, h3⟩
      rw [if_neg m0] at h ⊢
      by_cases m1 : md = 1
      · rw [if_pos m1] at h ⊢
        rcases h with h | ⟨x, jm, rm, pm, T, e, h1, h2⟩
        · exact Or.inl h
        · exact Or.inr ⟨x, jm, rm, pm, T, e, ih _ _ _ _ _ _ _ _ _ _ _ _ _ _ _ _ hle h1, ih _ _ _ _ _ _ _ _ _ _ _ _ _ _ _ _ hle h2⟩
      rw [if_neg m1] at h ⊢
      by_cases m2 : md = 2
      · rw [if_pos m2] at h ⊢
        obtain ⟨k, x, ys, pb, ff, e1, e2, e3, e4, e5, h⟩ := h
        refine ⟨k, x, ys, pb, ff, e1, e2, e3, e4, e5, ?_⟩
        rcases h with h | ⟨h0, h1, T, h2, h3⟩ | ⟨h0, h1, h2, t, jm, rm, pm, y, h3, h4, h⟩
        · exact Or.inl h
        · exact Or.inr (Or.inl ⟨h0, h1, T, h2, ih _ _ _ _ _ _ _ _ _ _ _ _ _ _ _ _ hle h3⟩)
        · refine Or.inr (Or.inr ⟨h0, h1, h2, t, jm, rm, pm, y, h3, ih _ _ _ _ _ _ _ _ _ _ _ _ _ _ _ _ hle h4, ?_⟩)
          rcases h with h | ⟨q1, q2, q3, z, q4, q5⟩
          · exact Or.inl h
          · exact Or.inr ⟨q1, q2, q3, z, q4, ih _ _ _ _ _ _ _ _ _ _ _ _ _ _ _ _ hle q5⟩
      rw [if_neg m2] at h ⊢
      obtain ⟨jm, rm, pm, y, h1, h⟩ := h
      refine ⟨jm, rm, pm, y, ih _ _ _ _ _ _ _ _ _ _ _ _ _ _ _ _ hle h1, ?_⟩
      rcases h with h | ⟨T, f2, q1, q2, q3, q4⟩
      · exact Or.inl h
      · exact Or.inr ⟨T, f2, q1, q2, q3, ih _ _ _ _ _ _ _ _ _ _ _ _ _ _ _ _ hle q4⟩
theorem WSt.rf {j j' r r' : Nat} : WSt W W m zn fn lo hi j j' r r' := ⟨fun _ _ _ _ _ _ _ => rfl, fun _ _ _ => rfl, fun _ _ _ _ _ _ => rfl, fun _ _ _ _ => rfl, fun _ _ _ => rfl, fun _ _ _ => rfl, fun _ _ => rfl, fun _ _ _ h => h, fun _ _ => rfl, fun _ _ _ _ => ⟨rfl, rfl⟩⟩
theorem TT.wd {g g' md : Nat} {K : List KE} {a2 a3 a4 : Nat} {c1 c2 : Int32} {fl : Bool} {j j' r r' p p' : Nat} {L : List (Nat × Nat)} (h : TT W m zn fn lo hi g md K a2 a3 a4 c1 c2 fl j j' r r' p p' L) (hm : md ≤ 3) (hg : g ≤ g') (hz : zn ≤ zn') (hf : fn ≤ fn') (hl : lo' ≤ lo) (hh : hi ≤ hi') : TT W m zn' fn' lo' hi' g' md K a2 a3 a4 c1 c2 fl j j' r r' p p' L := TT.mo _ _ _ _ _ _ _ _ _ _ _ _ _ _ _ _ _ hg (TT.st hz hf hl hh _ _ _ _ _ _ _ _ _ _ _ _ _ _ _ _ hm h WSt.rf (fun _ => ⟨rfl, rfl, rfl⟩) (fun _ => ⟨fun _ _ _ => rfl, rfl⟩))
end
/-- a reading in a state's world -/
def TTs (τ : Td) (m : Nat) (σ : PS) (γ : Gh) (lo g md : Nat) (K : List KE) (a2 a3 a4 : Nat) (c1 c2 : Int32) (fl : Bool) (j j' r r' p p' : Nat) (L : List (Nat × Nat)) : Prop := TT (woS τ m σ γ) m σ.2.2.2.length (ifS σ).length lo (trS σ).1 g md K a2 a3 a4 c1 c2 fl j j' r r' p p' L
section
variable {τ : Td} {m : Nat} {σ σ1 : PS} {γ γ1 : Gh} {O H : Nat → Prop} {a c y : Nat}
theorem gfT.nd (h : gfT O H σ γ σ1 γ1) (hy : 1 ≤ y ∧ y < (trS σ).1) : ((trS σ1).2.2 5 y = (trS σ).2.2 5 y ∧ (trS σ1).2.2 10 y = (trS σ).2.2 10 y ∧ y < (trS σ1).1) ∧ (¬ O y → γ1.1 y = γ.1 y) ∧ (¬ H y → (trS σ1).2.2 9 y = (trS σ).2.2 9 y) := by
  have q := h.1.2 y hy.1 hy.2
  exact ⟨⟨q.1.1, q.1.2.1, Nat.lt_of_lt_of_le hy.2 h.1.1⟩, fun z => (q.2.1 z).1, q.2.2⟩
theorem gfT.len (h : gfT O H σ γ σ1 γ1) : (trS σ).1 ≤ (trS σ1).1 ∧ σ.2.2.2.length ≤ σ1.2.2.2.length ∧ (ifS σ).length ≤ (ifS σ1).length ∧ σ.2.2.1.length ≤ σ1.2.2.1.length := by
  obtain ⟨h1, -, -, ⟨V, h4⟩, ⟨U, h5⟩, ⟨T, h6⟩⟩ := h
  refine ⟨h1.1, ?_, ?_, ?_⟩
  · rw [h4, List.length_append]; omega
  · rw [h5, List.length_append]; omega
  · rw [h6, List.length_append]; omega
theorem hg_gi (hg : giT τ σ γ) (ha : 1 ≤ a ∧ a < (trS σ).1) (hc : 1 ≤ c ∧ c < (trS σ).1) (hne : a ≠ c) (ra : (trS σ).2.2 9 a = 0) (rc : (trS σ).2.2 9 c = 0) : ∃ γ1, giT τ (hgP σ a c) γ1 ∧ gfT (fun z => z = a) (fun z => z = c) σ γ (hgP σ a c) γ1 ∧ γ1.1 a = γ.1 a ++ [c] ∧ (trS (hgP σ a c)).1 = (trS σ).1 ∧ (trS (hgP σ a c)).2.1 = (trS σ).2.1 ∧ (trS (hgP σ a c)).2.2 9 a = 0 := by
  obtain ⟨t1, t2, t3, t4⟩ := hg.1.hg ha hc hne ra rc
  have q := t2.2 a ha.1 ha.2
  have r9 : (hgT (trS σ) a c).2.2 9 a = 0 := (q.2.2 hne).trans ra
  have e : hgP σ a c = trP1 σ (hgT (trS σ) a c) := rfl
  rw [e]
  generalize hgT (trS σ) a c = R at t1 t2 t3 t4 r9
  exact ⟨(va_up γ.1 a (γ.1 a ++ [c]), γ.2), ⟨t1, hg.2.1, hg.2.2⟩, ⟨t2, ⟨[], (List.append_nil _).symm⟩, ⟨[], (List.append_nil _).symm⟩, ⟨[], (List.append_nil _).symm⟩, ⟨[], (List.append_nil _).symm⟩, ⟨[], (List.append_nil _).symm⟩⟩, va_up_self _ _ _, t3, t4, r9⟩
/-- a reading stays, from state to state -/
theorem TTs.st {g g' md lo lo' : Nat} {K : List KE} {a2 a3 a4 : Nat} {c1 c2 : Int32} {fl : Bool} {j j' r r' p p' : Nat} {L : List (Nat × Nat)} (h : TTs τ m σ γ lo g md K a2 a3 a4 c1 c2 fl j j' r r' p p' L) (hm : md ≤ 3) (hgg : g ≤ g') (hl : lo' ≤ lo) (h4 : m < 4) (hg : giT τ σ γ) (hf : gfT O H σ γ σ1 γ1) (ha : AKp m j j' r r' σ σ1) (hX : σ.2.2.1.length < 900) (hs : ∀ k, j ≤ k → k < j' → SuI σ.1.2.1 σ.2.2.1 m 64 65 k ∧ SuI σ.1.2.1 σ.2.2.1 m 66 67 k) (h0 : 1 ≤ lo) (hO : ∀ y, lo ≤ y → y < (trS σ).1 → ¬ O y) (q0 : md = 0 → σ1.1.2.1 73 (sqK K) = σ.1.2.1 73 (sqK K) ∧ σ1.1.2.1 74 (sqK K) = σ.1.2.1 74 (sqK K) ∧ σ1.1.2.1 70 (40 * m + j) = σ.1.2.1 70 (40 * m + j)) (q3 : md = 3 → (∀ c, 73 ≤ c → c ≤ 75 → σ1.1.2.1 c a3 = σ.1.2.1 c a3) ∧ σ1.1.2.1 70 (40 * m + j) = σ.1.2.1 70 (40 * m + j)) : TTs τ m σ1 γ1 lo' g' md K a2 a3 a4 c1 c2 fl j j' r r' p p' L := by
  have l := hf.len
  exact TT.mo _ _ _ _ _ _ _ _ _ _ _ _ _ _ _ _ _ hgg (TT.st l.2.1 l.2.2.1 hl l.1 _ _ _ _ _ _ _ _ _ _ _ _ _ _ _ _ hm h (WSt.of h4 hg hf ha hX hs h0 (Nat.le_refl _) hO) q0 q3)
end
/-! what is proved of each piece of a reading -/
def PaF (B : Nat) (ex : Option Nat) (σ σ' : PS) : Prop := ∀ i f, i < B → (f = 2 → ex ≠ some i) → σ'.2.1.1 i f = σ.2.1.1 i f
def rtN (σ σ' : PS) (x : Nat) : Prop := (trS σ).1 ≤ x ∧ x < (trS σ').1 ∧ (trS σ').2.2 9 x = 0
def okN1 (σ : PS) (a : Nat) : Prop := (1 ≤ a ∧ a < (trS σ).1) ∧ (trS σ).2.2 9 a = 0
def P0T (τ : Td) (m : Nat) (K : List KE) (_ : Nat) (σ : PS) (r : Nat × PS × Nat) : Prop := ∀ γ, giT τ σ γ → (ifS σ).length = σ.1.1 2 → (trS r.2.1).1 ≤ 600 → r.2.1.2.2.1.length < 900 → σ.1.2.1 73 (sqK K) = -1 → ∃ γ' g, giT τ r.2.1 γ' ∧ gfT noN noN σ γ r.2.1 γ' ∧ (ifS r.2.1).length = r.2.1.1.1 2 ∧ PaF (npS σ) none σ r.2.1 ∧ rtN σ r.2.1 r.2.2 ∧ TTs τ m r.2.1 γ' (trS σ).1 g 0 K 0 0 0 0 0 false (npS σ) (npS r.2.1) (σ.1.1 4) (r.2.1.1.1 4) (trS σ).2.1 (trS r.2.1).2.1 [(0, r.2.2)]
def P2T (τ : Td) (m : Nat) (K : List KE) (_ : Nat) (σ : PS) (r : Nat × PS × Nat) : Prop := ∀ γ, giT τ σ γ → (ifS σ).length = σ.1.1 2 → (trS r.2.1).1 ≤ 600 → r.2.1.2.2.1.length < 900 → ∃ γ' g, giT τ r.2.1 γ' ∧ gfT noN noN σ γ r.2.1 γ' ∧ (ifS r.2.1).length = r.2.1.1.1 2 ∧ PaF (npS σ) none σ r.2.1 ∧ rtN σ r.2.1 r.2.2 ∧ TTs τ m r.2.1 γ' (trS σ).1 g 2 K 0 0 0 0 0 false (npS σ) (npS r.2.1) (σ.1.1 4) (r.2.1.1.1 4) (trS σ).2.1 (trS r.2.1).2.1 [(npS σ, r.2.2)]
def P1T (τ : Td) (m : Nat) (K : List KE) (_ : Nat) (σ : PS) (a1 : Nat) (r : Nat × PS × Nat) : Prop := ∀ γ x, giT τ σ γ → (ifS σ).length = σ.1.1 2 → (trS r.2.1).1 ≤ 600 → r.2.1.2.2.1.length < 900 → okN1 σ a1 → σ.1.2.1 73 (sqK K) ≠ -1 → x < 40 * m + npS σ → σ.1.2.1 74 (sqK K) = Int32.ofNat x → σ.1.2.1 70 x = -1 → ∃ γ' g T, giT τ r.2.1 γ' ∧ gfT (fun z => z = a1) noN σ γ r.2.1 γ' ∧ (ifS r.2.1).length = r.2.1.1.1 2 ∧ PaF (npS σ) none σ r.2.1 ∧ (r.2.2 = a1 ∧ okN1 r.2.1 a1) ∧ γ'.1 a1 = γ.1 a1 ++ T.map Prod.snd ∧ TTs τ m r.2.1 γ' (trS σ).1 g 1 K 0 0 0 0 0 false (npS σ) (npS r.2.1) (σ.1.1 4) (r.2.1.1.1 4) (trS σ).2.1 (trS r.2.1).2.1 T ∧ r.2.1.1.2.1 74 (sqK K) = Int32.ofNat ((T.map fun e => 40 * m + e.1).getLastD x) ∧ ChA r.2.1.1.2.1 x (T.map fun e => 40 * m + e.1)
def P3T (τ : Td) (m : Nat) (K : List KE) (_ : Nat) (σ : PS) (a1 a2 a3 a4 : Nat) (c1 c2 : Int32) (r : Nat × PS × Nat) : Prop := ∀ γ, giT τ σ γ → (ifS σ).length = σ.1.1 2 → (trS r.2.1).1 ≤ 600 → r.2.1.2.2.1.length < 900 → okN1 σ a1 → σ.1.2.1 73 a3 = -1 → σ.1.2.1 75 a3 = -1 → ∃ γ' g T fl, giT τ r.2.1 γ' ∧ gfT (fun z => z = a1) noN σ γ r.2.1 γ' ∧ (ifS r.2.1).length = r.2.1.1.1 2 ∧ PaF (npS σ) (some a2) σ r.2.1 ∧ (r.2.2 = a1 ∧ okN1 r.2.1 a1) ∧ γ'.1 a1 = γ.1 a1 ++ T.map Prod.snd ∧ TTs τ m r.2.1 γ' (trS σ).1 g 3 K a2 a3 a4 c1 c2 fl (npS σ) (npS r.2.1) (σ.1.1 4) (r.2.1.1.1 4) (trS σ).2.1 (trS r.2.1).2.1 T ∧ r.2.1.2.1.1 a2 2 = if fl = true then 8 else σ.2.1.1 a2 2
end
