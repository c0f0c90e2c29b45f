/-! a part begins, its head, its first row: what is known when its rows begin -/
def BgS (m : Nat) (k : Int32) (j r0 : Nat) (σ : PS) : Prop := σ.1.2.1 58 (40 * m + j) = Int32.ofNat (soK k) ∧ (∃ pl, σ.1.2.1 59 (40 * m + j) = Int32.ofNat pl ∧ σ.2.1.1 j 0 = Int32.ofNat pl) ∧ σ.1.2.1 69 (40 * m + j) = Int32.ofNat r0
section
variable {τ : Td} {m j r0 B : Nat} {k : Int32} {σ σ1 : PS} {γ γ1 : Gh} {O H : Nat → Prop}
theorem BgS.pv (h : BgS m k j r0 σ) (p : Pv m B σ σ1) (hB : 40 * m + j < B) (h0 : σ1.2.1.1 j 0 = σ.2.1.1 j 0) : BgS m k j r0 σ1 := by
  unfold BgS
  rw [p.2.2.1 58 (by decide) (by decide) (by decide) _ hB, p.2.2.1 59 (by decide) (by decide) (by decide) _ hB, p.2.2.1 69 (by decide) (by decide) (by decide) _ hB, h0]
  exact h
theorem BgS.hd {j0 : Nat} (h : BgS m k j r0 σ) (p : Hd m j0 σ σ1) (h0 : σ1.2.1.1 j 0 = σ.2.1.1 j 0) : BgS m k j r0 σ1 := by
  unfold BgS
  rw [p.2.1 58 _ (Or.inl (by decide)), p.2.1 59 _ (Or.inl (by decide)), p.2.1 69 _ (Or.inr (Or.inl (by decide))), h0]
  exact h
theorem BgS.tr {T : TrT} (h : BgS m k j r0 σ) : BgS m k j r0 (trP1 σ T) := h
theorem BgS.gu {g u : Int32} (h : BgS m k j r0 σ) : BgS m k j r0 (guP σ g u) := h
theorem BgS.pc {x : Nat} (h : BgS m k j r0 σ) (hk : soK k ≠ 99) : PcS (woS τ m (fiP m j x σ) γ) m k j (npS σ) x ∧ woA (woS τ m (fiP m j x σ) γ) 69 (40 * m + j) = Int32.ofNat r0 := by
  obtain ⟨h1, ⟨pl, h2, h3⟩, h4⟩ := h
  refine ⟨⟨hk, ?_, ⟨pl, ?_, ?_⟩, ?_, ?_⟩, ?_⟩
  · show (fiP m j x σ).1.2.1 58 (40 * m + j) = _
    rw [fi_A (fun z => absurd z.1 (by decide))]; exact h1
  · show (fiP m j x σ).1.2.1 59 (40 * m + j) = _
    rw [fi_A (fun z => absurd z.1 (by decide))]; exact h2
  · show (fiP m j x σ).2.1.1 j 0 = _
    rw [fi_P (fun z => absurd z.2 (by decide))]; exact h3
  · exact up2_eq
  · exact up2_eq
  · show (fiP m j x σ).1.2.1 69 (40 * m + j) = _
    rw [fi_A (fun z => absurd z.1 (by decide))]; exact h4
theorem PkS.cg {W W' : Wo} {zn fn lo hi p pb x : Nat} {K : List KE} {ys : List Nat} (h : PkS W m zn fn lo hi k K j p pb x ys) (hV : woV W' = woV W) (hQ : woQ W' = woQ W) (hZ : woZ W' = woZ W) (hF : woF W' = woF W) (h60 : woA W' 60 (40 * m + j) = woA W 60 (40 * m + j)) (h61 : woA W' 61 (40 * m + j) = woA W 61 (40 * m + j)) (h62 : woA W' 62 (40 * m + j) = woA W 62 (40 * m + j)) (h63 : woA W' 63 (40 * m + j) = woA W 63 (40 * m + j)) (hp : woP W' j 4 = woP W j 4) : PkS W' m zn fn lo hi k K j p pb x ys := by
  unfold PkS CdW at h ⊢
  rw [hV, hQ, hZ, hF, h60, h61, h62, h63, hp]
  exact h
theorem PkS.fi {zn fn lo hi p pb x y : Nat} {K : List KE} {ys : List Nat} (h : PkS (woS τ m σ γ) m zn fn lo hi k K j p pb x ys) : PkS (woS τ m (fiP m j y σ) γ) m zn fn lo hi k K j p pb x ys := h.cg rfl rfl rfl rfl (fi_A (σ := σ) (m := m) (j0 := j) (x := y) (c := 60) (fun z => absurd z.1 (by decide))) (fi_A (σ := σ) (m := m) (j0 := j) (x := y) (c := 61) (fun z => absurd z.1 (by decide))) (fi_A (σ := σ) (m := m) (j0 := j) (x := y) (c := 62) (fun z => absurd z.1 (by decide))) (fi_A (σ := σ) (m := m) (j0 := j) (x := y) (c := 63) (fun z => absurd z.1 (by decide))) (fi_P (σ := σ) (m := m) (j0 := j) (x := y) (i := j) (f := 4) (fun z => absurd z.2 (by decide)))
theorem CdW.fw {P : Nat} {l : Int32} (h : CdW (woS τ m σ γ) m σ.2.2.2.length P l) (hg : giT τ σ γ) (hf : gfT O H σ γ σ1 γ1) (h62 : σ1.1.2.1 62 P = σ.1.2.1 62 P) (h63 : σ1.1.2.1 63 P = σ.1.2.1 63 P) : CdW (woS τ m σ1 γ1) m σ1.2.2.2.length P l := by
  obtain ⟨f, c, h1, h2, h3, h4, h5, h6⟩ := h
  have hl := hf.len.2.1
  obtain ⟨-, ⟨D, f2⟩, -, ⟨V, f4⟩, -, -⟩ := hf
  refine ⟨f, c, h1, by omega, h62.trans h3, h63.trans h4, ?_, ?_⟩
  · show WcR τ.1.length σ1.2.2.2 f c
    rw [f4]
    exact WcR.app h5 h2
  · rw [h6]
    show Int32.ofNat (γ.2.1.getD c 0) = Int32.ofNat (γ1.2.1.getD c 0)
    rw [f2, gdA (by rw [hg.2.1.2.1]; exact h2)]
theorem bg_c {pl q d : Nat} {wh : Int32} : (bgP m k pl q d wh σ).1.2.1 58 (40 * m + npS σ) = Int32.ofNat (soK k) ∧ (bgP m k pl q d wh σ).1.2.1 59 (40 * m + npS σ) = Int32.ofNat pl ∧ (bgP m k pl q d wh σ).1.2.1 61 (40 * m + npS σ) = 0 ∧ (bgP m k pl q d wh σ).1.2.1 69 (40 * m + npS σ) = -1 := by
  have e : (bgP m k pl q d wh σ).1.2.1 = up2 (lkA (40 * m + npS σ) q (b9K (40 * m + npS σ) (soK k) pl wh σ.1.2.1)) 74 q (Int32.ofNat (40 * m + npS σ)) := rfl
  rw [e]
  refine ⟨?_, ?_, ?_, ?_⟩
  · rw [up2_ne (fun z => absurd z.1 (by decide)), lk_ne (by decide) (fun z => absurd z.1 (by decide))]
    unfold b9K
    rw [up2_ne (fun z => absurd z.1 (by decide)), up2_ne (fun z => absurd z.1 (by decide)), up2_ne (fun z => absurd z.1 (by decide)), up2_ne (fun z => absurd z.1 (by decide)), up2_ne (fun z => absurd z.1 (by decide)), up2_ne (fun z => absurd z.1 (by decide)), up2_ne (fun z => absurd z.1 (by decide)), up2_ne (fun z => absurd z.1 (by decide)), up2_eq]
  · rw [up2_ne (fun z => absurd z.1 (by decide)), lk_ne (by decide) (fun z => absurd z.1 (by decide))]
    unfold b9K
    rw [up2_ne (fun z => absurd z.1 (by decide)), up2_ne (fun z => absurd z.1 (by decide)), up2_ne (fun z => absurd z.1 (by decide)), up2_ne (fun z => absurd z.1 (by decide)), up2_ne (fun z => absurd z.1 (by decide)), up2_ne (fun z => absurd z.1 (by decide)), up2_ne (fun z => absurd z.1 (by decide)), up2_eq]
  · rw [up2_ne (fun z => absurd z.1 (by decide)), lk_ne (by decide) (fun z => absurd z.1 (by decide))]
    unfold b9K
    rw [up2_ne (fun z => absurd z.1 (by decide)), up2_ne (fun z => absurd z.1 (by decide)), up2_ne (fun z => absurd z.1 (by decide)), up2_ne (fun z => absurd z.1 (by decide)), up2_ne (fun z => absurd z.1 (by decide)), up2_eq]
  · rw [up2_ne (fun z => absurd z.1 (by decide)), lk_ne (by decide) (fun z => absurd z.1 (by decide))]
    unfold b9K
    rw [up2_ne (fun z => absurd z.1 (by decide)), up2_eq]
theorem bg_pa {pl q d : Nat} {wh : Int32} : (bgP m k pl q d wh σ).2.1.1 (npS σ) 0 = Int32.ofNat pl ∧ (bgP m k pl q d wh σ).2.1.1 (npS σ) 2 = 0 ∧ (∀ x f, x ≠ npS σ → (bgP m k pl q d wh σ).2.1.1 x f = σ.2.1.1 x f) ∧ (bgP m k pl q d wh σ).1.1 2 = σ.1.1 2 + (if k = 58 then 1 else 0) := by
  have e : (bgP m k pl q d wh σ).2.1.1 = va_up σ.2.1.1 (npS σ) (fun f => if f = 0 then Int32.ofNat pl else 0) := rfl
  rw [e]
  refine ⟨?_, ?_, fun x f h => by rw [va_up_ne _ _ h], by simp [bgP, va_up]⟩
  · rw [va_up_self]; rfl
  · rw [va_up_self]; rfl
end
section
variable {b : Nat → Int32} {n s m : Nat} {τ : Td}
/-- what is known where the rows of a part of kind k begin -/
def HwS (τ : Td) (m : Nat) (k : Int32) (σ : PS) (σw : PS) (γ1 : Gh) (lit : Nat) (im : Bool) (aw : Nat) (t : Option Int64) : Prop := tpK k t
  ∧ (k = 44 ∨ k = 53 → CdW (woS τ m σw γ1) m σw.2.2.2.length (40 * m + npS σ) (Int32.ofNat lit))
  ∧ (k = 58 → ∃ f, f < (ifS σw).length ∧ σw.2.1.1 (npS σ) 4 = Int32.ofNat f ∧ (ifS σw).getD f 0 = Int32.ofNat lit)
  ∧ (k = 53 → σw.1.2.1 61 (40 * m + npS σ) = bI im ∧ awS (vwT (trS σw) γ1.1) (trS σ).1 (trS σw).1 aw (Int32.ofNat lit) im (trS σ).2.1)
  ∧ (k = 53 ∨ k = 17 → (trS σ).1 ≤ aw ∧ okN1 σw aw)
  ∧ (k = 17 → (trS σw).2.2 5 aw = 8 ∧ (trS σw).2.2 10 aw = 0 ∧ γ1.1 aw = [])
  ∧ (k = 49 ∨ k = 50 → σw.1.2.1 61 (40 * m + npS σ) = 0)
theorem t_hd (hB : By b) (hv : HvT τ) {K : List KE} {i : Nat} {σ : PS} {h : Nat × PS × Nat × Bool × Nat × Option Int64} {γ : Gh} (hop : opnK (tK b n i) = true) (eh : hdM b n m τ (tK b n i) (npS σ) (i + 1) K (bgP m (tK b n i) (tP b n i) (sqK K) K.length (whK (tK b n i) (tC b n i) τ) σ) = .ok h) (hH : Hd m (npS σ) (bgP m (tK b n i) (tP b n i) (sqK K) K.length (whK (tK b n i) (tC b n i) τ) σ) h.2.1) (hg : giT τ σ γ) (hi : (ifS σ).length = σ.1.1 2) (h6 : (trS h.2.1).1 ≤ 600) : ∃ γ1, giT τ (rwP (40 * m + npS σ) none h.2.1) γ1 ∧ gfT noN noN σ γ (rwP (40 * m + npS σ) none h.2.1) γ1 ∧ (ifS (rwP (40 * m + npS σ) none h.2.1)).length = (rwP (40 * m + npS σ) none h.2.1).1.1 2 ∧ PaF (npS σ) none σ (rwP (40 * m + npS σ) none h.2.1) ∧ (npS (rwP (40 * m + npS σ) none h.2.1) = npS σ + 1 ∧ (rwP (40 * m + npS σ) none h.2.1).1.1 4 = σ.1.1 4 + 1 ∧ (trS (rwP (40 * m + npS σ) none h.2.1)).2.1 = (trS σ).2.1 + hpK (tK b n i) ∧ h.2.1.1.1 4 = σ.1.1 4) ∧ BgS m (tK b n i) (npS σ) (σ.1.1 4) (rwP (40 * m + npS σ) none h.2.1) ∧ (rwP (40 * m + npS σ) none h.2.1).2.1.1 (npS σ) 2 = 0 ∧ ((rwP (40 * m + npS σ) none h.2.1).1.2.1 73 (σ.1.1 4) = -1 ∧ (rwP (40 * m + npS σ) none h.2.1).1.2.1 75 (σ.1.1 4) = -1) ∧ HwS τ m (tK b n i) σ (rwP (40 * m + npS σ) none h.2.1) γ1 h.2.2.1 h.2.2.2.1 h.2.2.2.2.1 h.2.2.2.2.2 := by
  obtain ⟨n1, n2, n3, -⟩ := bg_n (m := m) (σ := σ) (k := tK b n i) (pl := tP b n i) (q := sqK K) (d := K.length) (wh := whK (tK b n i) (tC b n i) τ)
  obtain ⟨c1, c2, c3, c4⟩ := bg_c (m := m) (σ := σ) (k := tK b n i) (pl := tP b n i) (q := sqK K) (d := K.length) (wh := whK (tK b n i) (tC b n i) τ)
  obtain ⟨d1, d2, d3, d4⟩ := bg_pa (m := m) (σ := σ) (k := tK b n i) (pl := tP b n i) (q := sqK K) (d := K.length) (wh := whK (tK b n i) (tC b n i) τ)
  have kb : KcS σ (bgP m (tK b n i) (tP b n i) (sqK K) K.length (whK (tK b n i) (tC b n i) τ) σ) := KcS.bg
  have xb : (bgP m (tK b n i) (tP b n i) (sqK K) K.length (whK (tK b n i) (tC b n i) τ) σ).2.2.1 = σ.2.2.1 := rfl
  have ib : ifS (bgP m (tK b n i) (tP b n i) (sqK K) K.length (whK (tK b n i) (tC b n i) τ) σ) = ifS σ := rfl
  generalize bgP m (tK b n i) (tP b n i) (sqK K) K.length (whK (tK b n i) (tC b n i) τ) σ = σb at eh hH n1 n2 n3 c1 c2 c3 c4 d1 d2 d3 d4 kb xb ib
  have t1 := hg.1.1.1
  have hT : (trS σb).1 ≤ 600 := by
    have := hH.2.2.2 (by rw [n3]; exact t1)
    omega
  obtain ⟨γ1, a1, a2, a3, a4, a5, a6, a7, a8, a9, b1, b2, b3, b4⟩ := hd_gi hB hv hT (kb.gi hg) c3 hop eh
  have gb : gfT noN noN σ γ σb γ := kb.gf ⟨[], by rw [xb, List.append_nil]⟩
  have kw : KcS h.2.1 (rwP (40 * m + npS σ) none h.2.1) := KcS.rw
  have gw : gfT noN noN h.2.1 γ1 (rwP (40 * m + npS σ) none h.2.1) γ1 := kw.gf ⟨[], (List.append_nil _).symm⟩
  obtain ⟨w1, w2, w3⟩ := rw_n (σ := h.2.1) (p := 40 * m + npS σ) (q0 := none)
  have e4 : h.2.1.1.1 4 = σ.1.1 4 := by rw [hH.1]; exact n2
  have en : npS h.2.1 = npS σ + 1 := by rw [← n1]; unfold npS; rw [hH.1]
  have eA : (rwP (40 * m + npS σ) none h.2.1).1.2.1 = up2 (up2 (up2 (up2 h.2.1.1.2.1 73 (h.2.1.1.1 4) (-1)) 74 (h.2.1.1.1 4) (-1)) 75 (h.2.1.1.1 4) (-1)) 69 (40 * m + npS σ) (Int32.ofNat (h.2.1.1.1 4)) := rfl
  have ec : ∀ c x, c ≤ 68 → (rwP (40 * m + npS σ) none h.2.1).1.2.1 c x = h.2.1.1.2.1 c x := fun c x hc => by rw [eA, up2_ne (fun z => by omega), up2_ne (fun z => by omega), up2_ne (fun z => by omega), up2_ne (fun z => by omega)]
  have e2 : (rwP (40 * m + npS σ) none h.2.1).1.1 2 = h.2.1.1.1 2 := by simp [rwP, va_up]
  refine ⟨γ1, kw.gi a1, (gb.tr a2 (fun _ _ _ z => z) (fun _ _ _ z => z)).tr gw (fun _ _ _ z => z) (fun _ _ _ z => z), ?_, fun x f h1 h2 => ?_, ⟨w1.trans en, by rw [w2, e4], by show (trS h.2.1).2.1 = _; rw [a3, n3], e4⟩, ⟨?_, ⟨tP b n i, ?_, ?_⟩, ?_⟩, ?_, ⟨?_, ?_⟩, a6, fun z => ?_, fun z => ?_, fun z => ?_, fun z => ?_, fun z => b3 z, fun z => ?_⟩
  · show (ifS h.2.1).length = _
    rw [e2, hH.1, d4]
    by_cases k58 : tK b n i = 58
    · rw [if_pos k58, (a8 k58).1, ib, hi]
    · rw [if_neg k58, a9 k58, ib, hi]
      rfl
  · show h.2.1.2.1.1 x f = _
    rw [a4 x f (by omega), d3 x f (by omega)]
  · rw [ec 58 _ (by decide), hH.2.1 58 _ (Or.inl (by decide))]; exact c1
  · rw [ec 59 _ (by decide), hH.2.1 59 _ (Or.inl (by decide))]; exact c2
  · show h.2.1.2.1.1 (npS σ) 0 = _
    rw [a5 0 (by decide)]; exact d1
  · rw [eA, up2_eq, e4]
  · show h.2.1.2.1.1 (npS σ) 2 = _
    rw [a5 2 (by decide)]; exact d2
  · rw [eA, ← e4, up2_ne (fun z => absurd z.1 (by decide)), up2_ne (fun z => absurd z.1 (by decide)), up2_ne (fun z => absurd z.1 (by decide)), up2_eq]
  · rw [eA, ← e4, up2_ne (fun z => absurd z.1 (by decide)), up2_eq]
  · exact (a7 z).fw a1 gw (ec 62 _ (by decide)) (ec 63 _ (by decide))
  · obtain ⟨q1, q2, q3⟩ := a8 z
    rw [d4, if_pos z] at q2
    refine ⟨(ifS σ).length, ?_, ?_, ?_⟩
    · show _ < (ifS h.2.1).length
      rw [q1, ib]; exact Nat.lt_succ_self _
    · show h.2.1.2.1.1 (npS σ) 4 = _
      rw [q2, hi]; rfl
    · show (ifS h.2.1).getD _ 0 = _
      rw [← ib]; exact q3
  · obtain ⟨q1, q2⟩ := b1 z
    rw [n3] at q2
    exact ⟨(ec 61 _ (by decide)).trans q1, q2⟩
  · obtain ⟨q1, q2, q3⟩ := b2 z
    rw [n3] at q1
    exact ⟨q1, ⟨by omega, q2⟩, q3⟩
  · rw [ec 61 _ (by decide), b4 (by rcases z with z | z; exact Or.inl z; exact Or.inr (Or.inl z))]
    exact c3
theorem t_c2l (hB : By b) (hv : HvT τ) {K : List KE} {i : Nat} {σ : PS} {u : Nat × PS × Nat} (hK : K.length ≤ 15) (eo : okK (tK b n i) (tC b n i) K.length τ σ (tP b n i) = .ok ()) (ko : opnK (tK b n i) = false) (el : lfM b n m τ (tK b n i) (tC b n i) (npS σ) (i + 1) K (bgP m (tK b n i) (tP b n i) (sqK K) K.length (whK (tK b n i) (tC b n i) τ) σ) = .ok u) (hH : HdN m (npS σ) (bgP m (tK b n i) (tP b n i) (sqK K) K.length (whK (tK b n i) (tC b n i) τ) σ) u.2) : P2T τ m K i σ (u.1, fiP m (npS σ) u.2.2 u.2.1, u.2.2) := by
  intro γ hg hi h6 hX
  obtain ⟨n1, n2, n3, -⟩ := bg_n (m := m) (σ := σ) (k := tK b n i) (pl := tP b n i) (q := sqK K) (d := K.length) (wh := whK (tK b n i) (tC b n i) τ)
  obtain ⟨c1, c2, c3, c4⟩ := bg_c (m := m) (σ := σ) (k := tK b n i) (pl := tP b n i) (q := sqK K) (d := K.length) (wh := whK (tK b n i) (tC b n i) τ)
  obtain ⟨d1, d2, d3, d4⟩ := bg_pa (m := m) (σ := σ) (k := tK b n i) (pl := tP b n i) (q := sqK K) (d := K.length) (wh := whK (tK b n i) (tC b n i) τ)
  have kb : KcS σ (bgP m (tK b n i) (tP b n i) (sqK K) K.length (whK (tK b n i) (tC b n i) τ) σ) := KcS.bg
  have xb : (bgP m (tK b n i) (tP b n i) (sqK K) K.length (whK (tK b n i) (tC b n i) τ) σ).2.2.1 = σ.2.2.1 := rfl
  have ib : ifS (bgP m (tK b n i) (tP b n i) (sqK K) K.length (whK (tK b n i) (tC b n i) τ) σ) = ifS σ := rfl
  generalize bgP m (tK b n i) (tP b n i) (sqK K) K.length (whK (tK b n i) (tC b n i) τ) σ = σb at el hH n1 n2 n3 c1 c2 c3 c4 d1 d2 d3 d4 kb xb ib
  have t1 := hg.1.1.1
  have h6 : (trS u.2.1).1 ≤ 600 := h6
  have hT : (trS σb).1 ≤ 600 := by
    have := hH.1.2.2.2 (by rw [n3]; exact t1)
    omega
  obtain ⟨γ1, a1, a2, a3, a4, a5, a6, a7, a8⟩ := lf_gi hB hv hT (kb.gi hg) c3 hK ko el
  have gb : gfT noN noN σ γ σb γ := kb.gf ⟨[], by rw [xb, List.append_nil]⟩
  have kf : KcS u.2.1 (fiP m (npS σ) u.2.2 u.2.1) := KcS.fi
  have gf : gfT noN noN u.2.1 γ1 (fiP m (npS σ) u.2.2 u.2.1) γ1 := kf.gf ⟨[], (List.append_nil _).symm⟩
  have en : npS u.2.1 = npS σ + 1 := by rw [← n1]; unfold npS; rw [hH.1.1]
  have e4 : u.2.1.1.1 4 = σ.1.1 4 := by rw [hH.1.1]; exact n2
  have op : ∀ x : Int32, opnK x = true → tK b n i ≠ x := fun x hx z => by rw [z, hx] at ko; exact absurd ko (by decide)
  rw [n3] at a3 a4 a5
  refine ⟨γ1, 1, kf.gi a1, (gb.tr a2 (fun _ _ _ z => z) (fun _ _ _ z => z)).tr gf (fun _ _ _ z => z) (fun _ _ _ z => z), ?_, fun x f h1 h2 => ?_, a3, ?_⟩
  · show (ifS u.2.1).length = u.2.1.1.1 2
    rw [a8, ib, hi, hH.1.1, d4, if_neg (op 58 (by decide))]
    rfl
  · show up2 u.2.1.2.1.1 (npS σ) 1 _ x f = _
    rw [up2_ne (fun z => by omega), a6 x f (by omega), d3 x f (by omega)]
  · have bg : u.2.1.1.2.1 58 (40 * m + npS σ) = Int32.ofNat (soK (tK b n i)) ∧ (∃ pl, u.2.1.1.2.1 59 (40 * m + npS σ) = Int32.ofNat pl ∧ u.2.1.2.1.1 (npS σ) 0 = Int32.ofNat pl) := by
      rw [hH.1.2.1 58 _ (Or.inl (by decide)), hH.1.2.1 59 _ (Or.inl (by decide)), a7 0 (by decide)]
      exact ⟨c1, _, c2, d1⟩
    obtain ⟨g1, pl, g2, g3⟩ := bg
    unfold TTs TT
    rw [if_neg (by decide), if_neg (by decide), if_pos rfl]
    refine ⟨tK b n i, u.2.2, [], (trS σ).2.1, false, rfl, ⟨(okK_ok eo).2.1, ?_, ⟨pl, ?_, ?_⟩, up2_eq, up2_eq⟩, a5.fi, ?_, ?_, Or.inl ⟨ko, en, e4, rfl, ?_⟩⟩
    · show (fiP m (npS σ) u.2.2 u.2.1).1.2.1 58 (40 * m + npS σ) = _
      rw [fi_A (fun z => absurd z.1 (by decide))]; exact g1
    · show (fiP m (npS σ) u.2.2 u.2.1).1.2.1 59 (40 * m + npS σ) = _
      rw [fi_A (fun z => absurd z.1 (by decide))]; exact g2
    · show (fiP m (npS σ) u.2.2 u.2.1).2.1.1 (npS σ) 0 = _
      rw [fi_P (fun z => absurd z.2 (by decide))]; exact g3
    · unfold ltK
      rw [if_neg (op 42 (by decide)), if_neg (op 17 (by decide))]
      show (fiP m (npS σ) u.2.2 u.2.1).2.1.1 (npS σ) 2 = _
      rw [fi_P (fun z => absurd z.2 (by decide)), a7 2 (by decide)]; exact d2
    · have : hpK (tK b n i) = 0 := if_neg (op 53 (by decide))
      rw [this]
      exact a4
    · show (fiP m (npS σ) u.2.2 u.2.1).1.2.1 69 (40 * m + npS σ) = _
      rw [fi_A (fun z => absurd z.1 (by decide)), hH.1.2.1 69 _ (Or.inr (Or.inl (by decide)))]; exact c4
end
