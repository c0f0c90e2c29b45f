section
/-! a part, hung on a row, and more of the row -/
section
variable {b : Nat → Int32} {n s m : Nat} {τ : Td}
theorem RXE.g0 {K : List KE} {i : Nat} {σ : PS} {r : Nat × PS × Nat} (h : RXE b n s m τ 0 K i σ 0 0 0 0 0 0 r) (hS : Sto b n s) (h4 : m < 4) : FrP0 m K i σ r := by
  obtain ⟨g, e⟩ := h.2
  exact (rp_fr hS h4 g).1 K i σ r h.1.1 e
theorem RXE.g1 {K : List KE} {i a1 : Nat} {σ : PS} {r : Nat × PS × Nat} (h : RXE b n s m τ 1 K i σ a1 0 0 0 0 0 r) (hS : Sto b n s) (h4 : m < 4) : FrP1 m K i σ a1 r := by
  obtain ⟨g, e⟩ := h.2
  exact (rp_fr hS h4 g).2.1 K i σ a1 r h.1.1 e
theorem RXE.g2 {K : List KE} {i : Nat} {σ : PS} {r : Nat × PS × Nat} (h : RXE b n s m τ 2 K i σ 0 0 0 0 0 0 r) (hS : Sto b n s) (h4 : m < 4) : FrP2 m K i σ r := by
  obtain ⟨g, e⟩ := h.2
  exact (rp_fr hS h4 g).2.2.1 K i σ r h.1.1 e
theorem RXE.g3 {K : List KE} {i a1 a2 a3 a4 : Nat} {c1 c2 : Int32} {σ : PS} {r : Nat × PS × Nat} (h : RXE b n s m τ 3 K i σ a1 a2 a3 a4 c1 c2 r) (hS : Sto b n s) (h4 : m < 4) : FrP3 m K i σ a1 a2 a3 a4 c1 c2 r := by
  obtain ⟨g, e⟩ := h.2
  exact (rp_fr hS h4 g).2.2.2 K i σ a1 a2 a3 a4 c1 c2 r h.1.1 e
theorem RXE.x0 {K : List KE} {i : Nat} {σ : PS} {r : Nat × PS × Nat} (h : RXE b n s m τ 0 K i σ 0 0 0 0 0 0 r) (hS : Sto b n s) (h4 : m < 4) (hv : HvT τ) (hX : r.2.1.2.2.1.length < 900) : GR m (npS σ) (npS r.2.1) r.2.1 (giS σ) (usS σ) := by
  obtain ⟨g, e⟩ := h.2
  exact ((rp_X hS h4 hv g).1 K i σ r h.1.1 e hX).2 hX
theorem RXE.x2 {K : List KE} {i : Nat} {σ : PS} {r : Nat × PS × Nat} (h : RXE b n s m τ 2 K i σ 0 0 0 0 0 0 r) (hS : Sto b n s) (h4 : m < 4) (hv : HvT τ) (hX : r.2.1.2.2.1.length < 900) : GR m (npS σ) (npS r.2.1) r.2.1 (giS σ) (usS σ) := by
  obtain ⟨g, e⟩ := h.2
  exact ((rp_X hS h4 hv g).2.2.1 K i σ r h.1.1 e hX).2 hX
theorem RXE.x3 {K : List KE} {i a1 a2 a3 a4 : Nat} {c1 c2 : Int32} {σ : PS} {r : Nat × PS × Nat} (h : RXE b n s m τ 3 K i σ a1 a2 a3 a4 c1 c2 r) (hS : Sto b n s) (h4 : m < 4) (hv : HvT τ) (hX : r.2.1.2.2.1.length < 900) : GR m (npS σ) (npS r.2.1) r.2.1 c1 c2 := by
  obtain ⟨g, e⟩ := h.2
  exact ((rp_X hS h4 hv g).2.2.2 K i σ a1 a2 a3 a4 c1 c2 r h.1.1 e hX).2 hX
theorem ofN_ne {x y : Nat} (hx : x < 100000) (hy : y < 100000) (h : x ≠ y) : Int32.ofNat x ≠ Int32.ofNat y := fun z => h (inj32 (by omega) (by omega) z)
theorem t_step (hS : Sto b n s) (h4 : m < 4) (hv : HvT τ) {K : List KE} {i a : Nat} {σ : PS} {q r : Nat × PS × Nat} {γ : Gh} (R2 : RXE b n s m τ 2 K i σ 0 0 0 0 0 0 q) (p2 : P2T τ m K i σ q) (R1 : RXE b n s m τ 1 K q.1 (hgP q.2.1 a q.2.2) a 0 0 0 0 0 r) (p1 : P1T τ m K q.1 (hgP q.2.1 a q.2.2) a r) (hg : giT τ σ γ) (hi : (ifS σ).length = σ.1.1 2) (h6 : (trS r.2.1).1 ≤ 600) (hX : r.2.1.2.2.1.length < 900) (hXq : q.2.1.2.2.1.length ≤ r.2.1.2.2.1.length) (ha : okN1 σ a) : ∃ γ' g T jm rm pm, giT τ r.2.1 γ' ∧ gfT (fun z => z = a) noN σ γ r.2.1 γ' ∧ (ifS r.2.1).length = r.2.1.1.1 2 ∧ PaF (npS σ) none σ r.2.1 ∧ (r.2.2 = a ∧ okN1 r.2.1 a) ∧ γ'.1 a = γ.1 a ++ (q.2.2 :: T.map Prod.snd) ∧ TTs τ m r.2.1 γ' (trS σ).1 g 2 K 0 0 0 0 0 false (npS σ) jm (σ.1.1 4) rm (trS σ).2.1 pm [(npS σ, q.2.2)] ∧ TTs τ m r.2.1 γ' (trS σ).1 g 1 K 0 0 0 0 0 false jm (npS r.2.1) rm (r.2.1.1.1 4) pm (trS r.2.1).2.1 T ∧ r.2.1.1.2.1 74 (sqK K) = Int32.ofNat ((T.map fun e => 40 * m + e.1).getLastD (40 * m + npS σ)) ∧ ChA r.2.1.1.2.1 (40 * m + npS σ) (T.map fun e => 40 * m + e.1) ∧ r.2.1.1.2.1 73 (sqK K) = q.2.1.1.2.1 73 (sqK K) ∧ ∀ x, x < 40 * m + npS σ → r.2.1.1.2.1 70 x = q.2.1.1.2.1 70 x := by
  obtain ⟨f2, l2⟩ := R2.g2 hS h4
  have f1 := R1.g1 hS h4
  obtain ⟨⟨-, -, hP, -, hq, -⟩, ⟨v2, pq, -, -⟩, -⟩ := R2.1
  have hq : sqK K < σ.1.1 4 := hq (by decide)
  obtain ⟨-, ⟨v1, -, -, -⟩, -⟩ := R1.1
  have hn : npS σ ≤ npS q.2.1 := v2.1
  have hr4 : σ.1.1 4 ≤ q.2.1.1.1 4 := v2.2.1
  have hb : 40 * m + npS q.2.1 < 100000 := by have := pq.1; omega
  have t1 := hg.1.1.1
  have le1 : (trS (hgP q.2.1 a q.2.2)).1 = (trS q.2.1).1 := hgT_n.1
  have lq : (trS σ).1 ≤ (trS q.2.1).1 := v2.2.2.2.2 t1
  have lr : (trS q.2.1).1 ≤ (trS r.2.1).1 := by
    have := v1.2.2.2.2 (by rw [le1]; omega)
    rw [le1] at this
    exact this
  obtain ⟨γ2, g2, b1, b2, b3, b4, b5, b6⟩ := p2 γ hg hi (by omega) (by omega)
  obtain ⟨n1, n2, n3⟩ := b5
  have aq := b2.nd ha.1
  have ra : (trS q.2.1).2.2 9 a = 0 := (aq.2.2 (fun z => z)).trans ha.2
  obtain ⟨γ3, c1, c2, c3, c4, c5, c6⟩ := hg_gi b1 ⟨ha.1.1, aq.1.2.2⟩ ⟨by omega, n2⟩ (by have := ha.1.2; omega) ra n3
  have e73 : q.2.1.1.2.1 73 (sqK K) ≠ -1 := by
    by_cases z : σ.1.2.1 73 (sqK K) = -1
    · rw [l2.2.2.2.1 z]; exact nm32 (by omega)
    · rw [(l2.2.2.2.2 z).1]; exact z
  obtain ⟨γ4, g1, T, d1, d2, d3, d4, d5, d6, d7, d8, d9⟩ := p1 γ3 (40 * m + npS σ) c1 b3 h6 hX ⟨⟨ha.1.1, by rw [c4]; exact aq.1.2.2⟩, c6⟩ e73 (by have : npS σ < npS q.2.1 := (TT.le _ _ _ _ _ _ _ _ _ _ _ _ _ _ _ _ (by decide) b6).2.2.2 (by decide); show 40 * m + npS σ < 40 * m + npS q.2.1; omega) l2.2.1 l2.2.2.1
  obtain ⟨k1, k2, k3⟩ := f1 e73
  have k1 : FrK q.2.1.1.2.1 r.2.1.1.2.1 (40 * m + npS q.2.1) (q.2.1.1.1 4) (sqK K) := k1
  have gqr : gfT (fun z => z = a) (fun z => z = q.2.2) q.2.1 γ2 r.2.1 γ4 := c2.tr d2 (fun _ _ _ z => z) (fun _ _ _ z => z.elim)
  have suq := (R2.x2 hS h4 hv (by omega)).2.2
  refine ⟨γ4, max g1 g2, T, npS q.2.1, q.2.1.1.1 4, (trS q.2.1).2.1, d1, ?_, d3, fun x f h1 h2 => ?_, d5, ?_, ?_, ?_, d8, d9, k3, fun x hx => k1.2 x (by omega) (fun _ => ?_)⟩
  · refine (b2.more (O1 := fun z => z = a) (fun _ _ _ z => z.elim) (fun _ _ _ z => z)).tr gqr (fun _ _ _ z => z) (fun y _ h2 z => ?_)
    exact absurd (show y = q.2.2 from z) (by omega)
  · rw [d4 x f (by show x < npS q.2.1; omega) h2]
    exact b4 x f h1 h2
  · rw [d6, c3, aq.2.1 (fun z => z)]
    simp only [List.append_assoc]
    rfl
  · refine TTs.st b6 (by decide) (by omega) (Nat.le_refl _) h4 b1 gqr ?_ (by omega) suq t1 (fun y h1 h2 z => ?_) (fun z => absurd z (by decide)) (fun z => absurd z (by decide))
    · refine AKp.tr (σ1 := hgP q.2.1 a q.2.2) (AKp.of rfl rfl) ?_
      refine AKp.pc (q := sqK K) v1 k1 (fun x f h1 h2 => d4 x f h2 (fun _ z => by cases z)) (Nat.le_refl _) (Nat.le_refl _) (Nat.le_refl _) (Or.inl hq) (fun _ P h1 h2 => ?_)
      show q.2.1.1.2.1 74 (sqK K) ≠ _
      rw [l2.2.1]
      exact ofN_ne (by omega) (by omega) (by omega)
    · have : y = a := z
      have := ha.1.2
      omega
  · have d7 : TT _ m _ _ (trS (hgP q.2.1 a q.2.2)).1 _ g1 1 K 0 0 0 0 0 false (npS q.2.1) (npS r.2.1) (q.2.1.1.1 4) (r.2.1.1.1 4) (trS (hgP q.2.1 a q.2.2)).2.1 (trS r.2.1).2.1 T := d7
    rw [c4, c5] at d7
    exact d7.wd (by decide) (by omega) (Nat.le_refl _) (Nat.le_refl _) lq (Nat.le_refl _)
  · rw [l2.2.1]
    exact ofN_ne (by omega) (by omega) (by omega)
theorem t_c0 (hS : Sto b n s) (h4 : m < 4) (hv : HvT τ) {K : List KE} {i : Nat} {σ : PS} {q r : Nat × PS × Nat} (hR : RXE b n s m τ 0 K i σ 0 0 0 0 0 0 r) (R2 : RXE b n s m τ 2 K i (trP1 σ (mkT (trS σ) 5).1) 0 0 0 0 0 0 q) (p2 : P2T τ m K i (trP1 σ (mkT (trS σ) 5).1) q) (R1 : RXE b n s m τ 1 K q.1 (hgP q.2.1 (mkT (trS σ) 5).2 q.2.2) (mkT (trS σ) 5).2 0 0 0 0 0 r) (p1 : P1T τ m K q.1 (hgP q.2.1 (mkT (trS σ) 5).2 q.2.2) (mkT (trS σ) 5).2 r) (hXq : q.2.1.2.2.1.length ≤ r.2.1.2.2.1.length) : P0T τ m K i σ r := by
  intro γ hg hi h6 hX h73
  have t1 := hg.1.1.1
  obtain ⟨-, ⟨v0, -, -, -⟩, -⟩ := hR.1
  have lr : (trS σ).1 ≤ (trS r.2.1).1 := v0.2.2.2.2 t1
  obtain ⟨G1, nw, sh, -⟩ := W_mk (k := 5) hg.1 (by omega) (by decide)
  obtain ⟨u1, u2⟩ := gi_tr hg nw
  obtain ⟨n1, n2, n3, -⟩ := nw.2.2.1
  have np := nw.2.2.2
  have f2 := R2.g2 hS h4
  generalize mkT (trS σ) 5 = R at R2 p2 R1 p1 nw sh u1 u2 n1 n2 n3 np f2
  obtain ⟨γ', g, T, jm, rm, pm, a1, a2, a3, a4, ⟨a5, a6⟩, a7, a8, a9, b1, b2, b3, b4⟩ := t_step hS h4 hv R2 p2 R1 p1 u1 hi h6 hX hXq ⟨⟨by omega, n2⟩, n3⟩
  have kn := a2.nd (y := R.2) ⟨by omega, n2⟩
  refine ⟨γ', g + 1, a1, ?_, a3, a4, ⟨by rw [a5]; exact n1, by rw [a5]; exact a6.1.2, by rw [a5]; exact a6.2⟩, ?_⟩
  · refine u2.tr a2 (fun y _ h2 z => ?_) (fun _ _ _ z => z)
    have z : y = R.2 := z
    omega
  · have l2 : LkK σ.1.2.1 q.2.1.1.2.1 (40 * m + npS σ) (sqK K) := f2.2
    have np : R.1.2.1 = (trS σ).2.1 := np
    have a8 : TTs τ m r.2.1 γ' R.1.1 g 2 K 0 0 0 0 0 false (npS σ) jm (σ.1.1 4) rm R.1.2.1 pm [(npS σ, q.2.2)] := a8
    rw [np] at a8
    unfold TTs TT
    rw [if_pos rfl]
    have lo1 : (trS σ).1 ≤ R.1.1 := nw.2.1.1
    refine ⟨q.2.2, jm, rm, pm, T, R.2, by rw [a5], TT.wd a8 (by decide) (Nat.le_refl _) (Nat.le_refl _) (Nat.le_refl _) lo1 (Nat.le_refl _), TT.wd a9 (by decide) (Nat.le_refl _) (Nat.le_refl _) (Nat.le_refl _) lo1 (Nat.le_refl _), ⟨⟨n1, kn.1.2.2⟩, ?_, ?_, ?_⟩, ?_, b1, b2⟩
    · exact kn.1.1.trans sh.2.1
    · exact kn.1.2.1.trans sh.2.2.1
    · have e : γ'.1 R.2 = [] ++ (q.2.2 :: T.map Prod.snd) := by
        rw [a7]
        show G1 R.2 ++ _ = _
        have : G1 R.2 = [] := sh.2.2.2
        rw [this]
      exact e
    · exact b3.trans (l2.2.2.2.1 h73)
theorem t_c1m (hS : Sto b n s) (h4 : m < 4) (hv : HvT τ) {K : List KE} {i a : Nat} {σ : PS} {q r : Nat × PS × Nat} (R2 : RXE b n s m τ 2 K (i + 1) σ 0 0 0 0 0 0 q) (p2 : P2T τ m K (i + 1) σ q) (R1 : RXE b n s m τ 1 K q.1 (hgP q.2.1 a q.2.2) a 0 0 0 0 0 r) (p1 : P1T τ m K q.1 (hgP q.2.1 a q.2.2) a r) (hXq : q.2.1.2.2.1.length ≤ r.2.1.2.2.1.length) : P1T τ m K i σ a r := by
  intro γ x hg hi h6 hX ha h73 hx h74 h70
  obtain ⟨f2, l2⟩ := R2.g2 hS h4
  obtain ⟨γ', g, T, jm, rm, pm, a1, a2, a3, a4, a5, a7, a8, a9, b1, b2, b3, b4⟩ := t_step hS h4 hv R2 p2 R1 p1 hg hi h6 hX hXq ha
  refine ⟨γ', g + 1, (npS σ, q.2.2) :: T, a1, a2, a3, a4, a5, a7, ?_, ?_, ?_⟩
  · unfold TTs TT
    rw [if_neg (by decide), if_pos rfl]
    exact Or.inr ⟨q.2.2, jm, rm, pm, T, rfl, a8, a9⟩
  · rw [b1]
    show Int32.ofNat (List.getLastD (T.map fun e => 40 * m + e.1) (40 * m + npS σ)) = Int32.ofNat (List.getLastD ((40 * m + npS σ) :: T.map fun e => 40 * m + e.1) x)
    rw [List.getLastD_cons]
  · show r.2.1.1.2.1 70 x = Int32.ofNat (40 * m + npS σ) ∧ ChA r.2.1.1.2.1 (40 * m + npS σ) (T.map fun e => 40 * m + e.1)
    exact ⟨(b4 x hx).trans ((l2.2.2.2.2 h73).2 x hx h74), b2⟩
theorem t_c1e {K : List KE} {i a : Nat} {σ : PS} : P1T τ m K i σ a (i, σ, a) := by
  intro γ x hg hi h6 hX ha h73 hx h74 h70
  refine ⟨γ, 1, [], hg, gfT.rf, hi, fun _ _ _ _ => rfl, ⟨rfl, ha⟩, (List.append_nil _).symm, ?_, h74, h70⟩
  unfold TTs TT
  rw [if_neg (by decide), if_pos rfl]
  exact Or.inl ⟨rfl, rfl, rfl, rfl⟩
end
end
section
/-! a part begins, its head, its first row: what is known when its rows begin -/
def BgS (m : Nat) (k : Int32) (j r0 : Nat) (σ : PS) : Prop := σ.1.2.1 58 (40 * m + j) = Int32.ofNat (soK k) ∧ (∃ pl, σ.1.2.1 59 (40 * m + j) = Int32.ofNat pl ∧ σ.2.1.1 j 0 = Int32.ofNat pl) ∧ σ.1.2.1 69 (40 * m + j) = Int32.ofNat r0
section
variable {τ : Td} {m j r0 B : Nat} {k : Int32} {σ σ1 : PS} {γ γ1 : Gh} {O H : Nat → Prop}
theorem BgS.pv (h : BgS m k j r0 σ) (p : Pv m B σ σ1) (hB : 40 * m + j < B) (h0 : σ1.2.1.1 j 0 = σ.2.1.1 j 0) : BgS m k j r0 σ1 := by
  unfold BgS
  rw [p.2.2.1 58 (by decide) (by decide) (by decide) _ hB, p.2.2.1 59 (by decide) (by decide) (by decide) _ hB, p.2.2.1 69 (by decide) (by decide) (by decide) _ hB, h0]
  exact h
theorem BgS.hd {j0 : Nat} (h : BgS m k j r0 σ) (p : Hd m j0 σ σ1) (h0 : σ1.2.1.1 j 0 = σ.2.1.1 j 0) : BgS m k j r0 σ1 := by
  unfold BgS
  rw [p.2.1 58 _ (Or.inl (by decide)), p.2.1 59 _ (Or.inl (by decide)), p.2.1 69 _ (Or.inr (Or.inl (by decide))), h0]
  exact h
theorem BgS.tr {T : TrT} (h : BgS m k j r0 σ) : BgS m k j r0 (trP1 σ T) := h
theorem BgS.gu {g u : Int32} (h : BgS m k j r0 σ) : BgS m k j r0 (guP σ g u) := h
theorem BgS.pc {x : Nat} (h : BgS m k j r0 σ) (hk : soK k ≠ 99) : PcS (woS τ m (fiP m j x σ) γ) m k j (npS σ) x ∧ woA (woS τ m (fiP m j x σ) γ) 69 (40 * m + j) = Int32.ofNat r0 := by
  obtain ⟨h1, ⟨pl, h2, h3⟩, h4⟩ := h
  refine ⟨⟨hk, ?_, ⟨pl, ?_, ?_⟩, ?_, ?_⟩, ?_⟩
  · show (fiP m j x σ).1.2.1 58 (40 * m + j) = _
    rw [fi_A (fun z => absurd z.1 (by decide))]; exact h1
  · show (fiP m j x σ).1.2.1 59 (40 * m + j) = _
    rw [fi_A (fun z => absurd z.1 (by decide))]; exact h2
  · show (fiP m j x σ).2.1.1 j 0 = _
    rw [fi_P (fun z => absurd z.2 (by decide))]; exact h3
  · exact up2_eq
  · exact up2_eq
  · show (fiP m j x σ).1.2.1 69 (40 * m + j) = _
    rw [fi_A (fun z => absurd z.1 (by decide))]; exact h4
theorem PkS.cg {W W' : Wo} {zn fn lo hi p pb x : Nat} {K : List KE} {ys : List Nat} (h : PkS W m zn fn lo hi k K j p pb x ys) (hV : woV W' = woV W) (hQ : woQ W' = woQ W) (hZ : woZ W' = woZ W) (hF : woF W' = woF W) (h60 : woA W' 60 (40 * m + j) = woA W 60 (40 * m + j)) (h61 : woA W' 61 (40 * m + j) = woA W 61 (40 * m + j)) (h62 : woA W' 62 (40 * m + j) = woA W 62 (40 * m + j)) (h63 : woA W' 63 (40 * m + j) = woA W 63 (40 * m + j)) (hp : woP W' j 4 = woP W j 4) : PkS W' m zn fn lo hi k K j p pb x ys := by
  unfold PkS CdW at h ⊢
  rw [hV, hQ, hZ, hF, h60, h61, h62, h63, hp]
  exact h
theorem PkS.fi {zn fn lo hi p pb x y : Nat} {K : List KE} {ys : List Nat} (h : PkS (woS τ m σ γ) m zn fn lo hi k K j p pb x ys) : PkS (woS τ m (fiP m j y σ) γ) m zn fn lo hi k K j p pb x ys := h.cg rfl rfl rfl rfl (fi_A (σ := σ) (m := m) (j0 := j) (x := y) (c := 60) (fun z => absurd z.1 (by decide))) (fi_A (σ := σ) (m := m) (j0 := j) (x := y) (c := 61) (fun z => absurd z.1 (by decide))) (fi_A (σ := σ) (m := m) (j0 := j) (x := y) (c := 62) (fun z => absurd z.1 (by decide))) (fi_A (σ := σ) (m := m) (j0 := j) (x := y) (c := 63) (fun z => absurd z.1 (by decide))) (fi_P (σ := σ) (m := m) (j0 := j) (x := y) (i := j) (f := 4) (fun z => absurd z.2 (by decide)))
theorem CdW.fw {P : Nat} {l : Int32} (h : CdW (woS τ m σ γ) m σ.2.2.2.length P l) (hg : giT τ σ γ) (hf : gfT O H σ γ σ1 γ1) (h62 : σ1.1.2.1 62 P = σ.1.2.1 62 P) (h63 : σ1.1.2.1 63 P = σ.1.2.1 63 P) : CdW (woS τ m σ1 γ1) m σ1.2.2.2.length P l := by
  obtain ⟨f, c, h1, h2, h3, h4, h5, h6⟩ := h
  have hl := hf.len.2.1
  obtain ⟨-, ⟨D, f2⟩, -, ⟨V, f4⟩, -, -⟩ := hf
  refine ⟨f, c, h1, by omega, h62.trans h3, h63.trans h4, ?_, ?_⟩
  · show WcR τ.1.length σ1.2.2.2 f c
    rw [f4]
    exact WcR.app h5 h2
  · rw [h6]
    show Int32.ofNat (γ.2.1.getD c 0) = Int32.ofNat (γ1.2.1.getD c 0)
    rw [f2, gdA (by rw [hg.2.1.2.1]; exact h2)]
theorem bg_c {pl q d : Nat} {wh : Int32} : (bgP m k pl q d wh σ).1.2.1 58 (40 * m + npS σ) = Int32.ofNat (soK k) ∧ (bgP m k pl q d wh σ).1.2.1 59 (40 * m + npS σ) = Int32.ofNat pl ∧ (bgP m k pl q d wh σ).1.2.1 61 (40 * m + npS σ) = 0 ∧ (bgP m k pl q d wh σ).1.2.1 69 (40 * m + npS σ) = -1 := by
  have e : (bgP m k pl q d wh σ).1.2.1 = up2 (lkA (40 * m + npS σ) q (b9K (40 * m + npS σ) (soK k) pl wh σ.1.2.1)) 74 q (Int32.ofNat (40 * m + npS σ)) := rfl
  rw [e]
  refine ⟨?_, ?_, ?_, ?_⟩
  · rw [up2_ne (fun z => absurd z.1 (by decide)), lk_ne (by decide) (fun z => absurd z.1 (by decide))]
    unfold b9K
    rw [up2_ne (fun z => absurd z.1 (by decide)), up2_ne (fun z => absurd z.1 (by decide)), up2_ne (fun z => absurd z.1 (by decide)), up2_ne (fun z => absurd z.1 (by decide)), up2_ne (fun z => absurd z.1 (by decide)), up2_ne (fun z => absurd z.1 (by decide)), up2_ne (fun z => absurd z.1 (by decide)), up2_ne (fun z => absurd z.1 (by decide)), up2_eq]
  · rw [up2_ne (fun z => absurd z.1 (by decide)), lk_ne (by decide) (fun z => absurd z.1 (by decide))]
    unfold b9K
    rw [up2_ne (fun z => absurd z.1 (by decide)), up2_ne (fun z => absurd z.1 (by decide)), up2_ne (fun z => absurd z.1 (by decide)), up2_ne (fun z => absurd z.1 (by decide)), up2_ne (fun z => absurd z.1 (by decide)), up2_ne (fun z => absurd z.1 (by decide)), up2_ne (fun z => absurd z.1 (by decide)), up2_eq]
  · rw [up2_ne (fun z => absurd z.1 (by decide)), lk_ne (by decide) (fun z => absurd z.1 (by decide))]
    unfold b9K
    rw [up2_ne (fun z => absurd z.1 (by decide)), up2_ne (fun z => absurd z.1 (by decide)), up2_ne (fun z => absurd z.1 (by decide)), up2_ne (fun z => absurd z.1 (by decide)), up2_ne (fun z => absurd z.1 (by decide)), up2_eq]
  · rw [up2_ne (fun z => absurd z.1 (by decide)), lk_ne (by decide) (fun z => absurd z.1 (by decide))]
    unfold b9K
    rw [up2_ne (fun z => absurd z.1 (by decide)), up2_eq]
theorem bg_pa {pl q d : Nat} {wh : Int32} : (bgP m k pl q d wh σ).2.1.1 (npS σ) 0 = Int32.ofNat pl ∧ (bgP m k pl q d wh σ).2.1.1 (npS σ) 2 = 0 ∧ (∀ x f, x ≠ npS σ → (bgP m k pl q d wh σ).2.1.1 x f = σ.2.1.1 x f) ∧ (bgP m k pl q d wh σ).1.1 2 = σ.1.1 2 + (if k = 58 then 1 else 0) := by
  have e : (bgP m k pl q d wh σ).2.1.1 = va_up σ.2.1.1 (npS σ) (fun f => if f = 0 then Int32.ofNat pl else 0) := rfl
  rw [e]
  refine ⟨?_, ?_, fun x f h => by rw [va_up_ne _ _ h], by simp [bgP, va_up]⟩
  · rw [va_up_self]; rfl
  · rw [va_up_self]; rfl
end
section
variable {b : Nat → Int32} {n s m : Nat} {τ : Td}
/-- what is known where the rows of a part of kind k begin -/
def HwS (τ : Td) (m : Nat) (k : Int32) (σ : PS) (σw : PS) (γ1 : Gh) (lit : Nat) (im : Bool) (aw : Nat) (t : Option Int64) : Prop := tpK k t
  ∧ (k = 44 ∨ k = 53 → CdW (woS τ m σw γ1) m σw.2.2.2.length (40 * m + npS σ) (Int32.ofNat lit))
  ∧ (k = 58 → ∃ f, f < (ifS σw).length ∧ σw.2.1.1 (npS σ) 4 = Int32.ofNat f ∧ (ifS σw).getD f 0 = Int32.ofNat lit)
  ∧ (k = 53 → σw.1.2.1 61 (40 * m + npS σ) = bI im ∧ awS (vwT (trS σw) γ1.1) (trS σ).1 (trS σw).1 aw (Int32.ofNat lit) im (trS σ).2.1)
  ∧ (k = 53 ∨ k = 17 → (trS σ).1 ≤ aw ∧ okN1 σw aw)
  ∧ (k = 17 → (trS σw).2.2 5 aw = 8 ∧ (trS σw).2.2 10 aw = 0 ∧ γ1.1 aw = [])
  ∧ (k = 49 ∨ k = 50 → σw.1.2.1 61 (40 * m + npS σ) = 0)
theorem t_hd (hB : By b) (hv : HvT τ) {K : List KE} {i : Nat} {σ : PS} {h : Nat × PS × Nat × Bool × Nat × Option Int64} {γ : Gh} (hop : opnK (tK b n i) = true) (eh : hdM b n m τ (tK b n i) (npS σ) (i + 1) K (bgP m (tK b n i) (tP b n i) (sqK K) K.length (whK (tK b n i) (tC b n i) τ) σ) = .ok h) (hH : Hd m (npS σ) (bgP m (tK b n i) (tP b n i) (sqK K) K.length (whK (tK b n i) (tC b n i) τ) σ) h.2.1) (hg : giT τ σ γ) (hi : (ifS σ).length = σ.1.1 2) (h6 : (trS h.2.1).1 ≤ 600) : ∃ γ1, giT τ (rwP (40 * m + npS σ) none h.2.1) γ1 ∧ gfT noN noN σ γ (rwP (40 * m + npS σ) none h.2.1) γ1 ∧ (ifS (rwP (40 * m + npS σ) none h.2.1)).length = (rwP (40 * m + npS σ) none h.2.1).1.1 2 ∧ PaF (npS σ) none σ (rwP (40 * m + npS σ) none h.2.1) ∧ (npS (rwP (40 * m + npS σ) none h.2.1) = npS σ + 1 ∧ (rwP (40 * m + npS σ) none h.2.1).1.1 4 = σ.1.1 4 + 1 ∧ (trS (rwP (40 * m + npS σ) none h.2.1)).2.1 = (trS σ).2.1 + hpK (tK b n i) ∧ h.2.1.1.1 4 = σ.1.1 4) ∧ BgS m (tK b n i) (npS σ) (σ.1.1 4) (rwP (40 * m + npS σ) none h.2.1) ∧ (rwP (40 * m + npS σ) none h.2.1).2.1.1 (npS σ) 2 = 0 ∧ ((rwP (40 * m + npS σ) none h.2.1).1.2.1 73 (σ.1.1 4) = -1 ∧ (rwP (40 * m + npS σ) none h.2.1).1.2.1 75 (σ.1.1 4) = -1) ∧ HwS τ m (tK b n i) σ (rwP (40 * m + npS σ) none h.2.1) γ1 h.2.2.1 h.2.2.2.1 h.2.2.2.2.1 h.2.2.2.2.2 := by
  obtain ⟨n1, n2, n3, -⟩ := bg_n (m := m) (σ := σ) (k := tK b n i) (pl := tP b n i) (q := sqK K) (d := K.length) (wh := whK (tK b n i) (tC b n i) τ)
  obtain ⟨c1, c2, c3, c4⟩ := bg_c (m := m) (σ := σ) (k := tK b n i) (pl := tP b n i) (q := sqK K) (d := K.length) (wh := whK (tK b n i) (tC b n i) τ)
  obtain ⟨d1, d2, d3, d4⟩ := bg_pa (m := m) (σ := σ) (k := tK b n i) (pl := tP b n i) (q := sqK K) (d := K.length) (wh := whK (tK b n i) (tC b n i) τ)
  have kb : KcS σ (bgP m (tK b n i) (tP b n i) (sqK K) K.length (whK (tK b n i) (tC b n i) τ) σ) := KcS.bg
  have xb : (bgP m (tK b n i) (tP b n i) (sqK K) K.length (whK (tK b n i) (tC b n i) τ) σ).2.2.1 = σ.2.2.1 := rfl
  have ib : ifS (bgP m (tK b n i) (tP b n i) (sqK K) K.length (whK (tK b n i) (tC b n i) τ) σ) = ifS σ := rfl
  generalize bgP m (tK b n i) (tP b n i) (sqK K) K.length (whK (tK b n i) (tC b n i) τ) σ = σb at eh hH n1 n2 n3 c1 c2 c3 c4 d1 d2 d3 d4 kb xb ib
  have t1 := hg.1.1.1
  have hT : (trS σb).1 ≤ 600 := by
    have := hH.2.2.2 (by rw [n3]; exact t1)
    omega
  obtain ⟨γ1, a1, a2, a3, a4, a5, a6, a7, a8, a9, b1, b2, b3, b4⟩ := hd_gi hB hv hT (kb.gi hg) c3 hop eh
  have gb : gfT noN noN σ γ σb γ := kb.gf ⟨[], by rw [xb, List.append_nil]⟩
  have kw : KcS h.2.1 (rwP (40 * m + npS σ) none h.2.1) := KcS.rw
  have gw : gfT noN noN h.2.1 γ1 (rwP (40 * m + npS σ) none h.2.1) γ1 := kw.gf ⟨[], (List.append_nil _).symm⟩
  obtain ⟨w1, w2, w3⟩ := rw_n (σ := h.2.1) (p := 40 * m + npS σ) (q0 := none)
  have e4 : h.2.1.1.1 4 = σ.1.1 4 := by rw [hH.1]; exact n2
  have en : npS h.2.1 = npS σ + 1 := by rw [← n1]; unfold npS; rw [hH.1]
  have eA : (rwP (40 * m + npS σ) none h.2.1).1.2.1 = up2 (up2 (up2 (up2 h.2.1.1.2.1 73 (h.2.1.1.1 4) (-1)) 74 (h.2.1.1.1 4) (-1)) 75 (h.2.1.1.1 4) (-1)) 69 (40 * m + npS σ) (Int32.ofNat (h.2.1.1.1 4)) := rfl
  have ec : ∀ c x, c ≤ 68 → (rwP (40 * m + npS σ) none h.2.1).1.2.1 c x = h.2.1.1.2.1 c x := fun c x hc => by rw [eA, up2_ne (fun z => by omega), up2_ne (fun z => by omega), up2_ne (fun z => by omega), up2_ne (fun z => by omega)]
  have e2 : (rwP (40 * m + npS σ) none h.2.1).1.1 2 = h.2.1.1.1 2 := by simp [rwP, va_up]
  refine ⟨γ1, kw.gi a1, (gb.tr a2 (fun _ _ _ z => z) (fun _ _ _ z => z)).tr gw (fun _ _ _ z => z) (fun _ _ _ z => z), ?_, fun x f h1 h2 => ?_, ⟨w1.trans en, by rw [w2, e4], by show (trS h.2.1).2.1 = _; rw [a3, n3], e4⟩, ⟨?_, ⟨tP b n i, ?_, ?_⟩, ?_⟩, ?_, ⟨?_, ?_⟩, a6, fun z => ?_, fun z => ?_, fun z => ?_, fun z => ?_, fun z => b3 z, fun z => ?_⟩
  · show (ifS h.2.1).length = _
    rw [e2, hH.1, d4]
    by_cases k58 : tK b n i = 58
    · rw [if_pos k58, (a8 k58).1, ib, hi]
    · rw [if_neg k58, a9 k58, ib, hi]
      rfl
  · show h.2.1.2.1.1 x f = _
    rw [a4 x f (by omega), d3 x f (by omega)]
  · rw [ec 58 _ (by decide), hH.2.1 58 _ (Or.inl (by decide))]; exact c1
  · rw [ec 59 _ (by decide), hH.2.1 59 _ (Or.inl (by decide))]; exact c2
  · show h.2.1.2.1.1 (npS σ) 0 = _
    rw [a5 0 (by decide)]; exact d1
  · rw [eA, up2_eq, e4]
  · show h.2.1.2.1.1 (npS σ) 2 = _
    rw [a5 2 (by decide)]; exact d2
  · rw [eA, ← e4, up2_ne (fun z => absurd z.1 (by decide)), up2_ne (fun z => absurd z.1 (by decide)), up2_ne (fun z => absurd z.1 (by decide)), up2_eq]
  · rw [eA, ← e4, up2_ne (fun z => absurd z.1 (by decide)), up2_eq]
  · exact (a7 z).fw a1 gw (ec 62 _ (by decide)) (ec 63 _ (by decide))
  · obtain ⟨q1, q2, q3⟩ := a8 z
    rw [d4, if_pos z] at q2
    refine ⟨(ifS σ).length, ?_, ?_, ?_⟩
    · show _ < (ifS h.2.1).length
      rw [q1, ib]; exact Nat.lt_succ_self _
    · show h.2.1.2.1.1 (npS σ) 4 = _
      rw [q2, hi]; rfl
    · show (ifS h.2.1).getD _ 0 = _
      rw [← ib]; exact q3
  · obtain ⟨q1, q2⟩ := b1 z
    rw [n3] at q2
    exact ⟨(ec 61 _ (by decide)).trans q1, q2⟩
  · obtain ⟨q1, q2, q3⟩ := b2 z
    rw [n3] at q1
    exact ⟨q1, ⟨by omega, q2⟩, q3⟩
  · rw [ec 61 _ (by decide), b4 (by rcases z with z | z; exact Or.inl z; exact Or.inr (Or.inl z))]
    exact c3
theorem t_c2l (hB : By b) (hv : HvT τ) {K : List KE} {i : Nat} {σ : PS} {u : Nat × PS × Nat} (hK : K.length ≤ 15) (eo : okK (tK b n i) (tC b n i) K.length τ σ (tP b n i) = .ok ()) (ko : opnK (tK b n i) = false) (el : lfM b n m τ (tK b n i) (tC b n i) (npS σ) (i + 1) K (bgP m (tK b n i) (tP b n i) (sqK K) K.length (whK (tK b n i) (tC b n i) τ) σ) = .ok u) (hH : HdN m (npS σ) (bgP m (tK b n i) (tP b n i) (sqK K) K.length (whK (tK b n i) (tC b n i) τ) σ) u.2) : P2T τ m K i σ (u.1, fiP m (npS σ) u.2.2 u.2.1, u.2.2) := by
  intro γ hg hi h6 hX
  obtain ⟨n1, n2, n3, -⟩ := bg_n (m := m) (σ := σ) (k := tK b n i) (pl := tP b n i) (q := sqK K) (d := K.length) (wh := whK (tK b n i) (tC b n i) τ)
  obtain ⟨c1, c2, c3, c4⟩ := bg_c (m := m) (σ := σ) (k := tK b n i) (pl := tP b n i) (q := sqK K) (d := K.length) (wh := whK (tK b n i) (tC b n i) τ)
  obtain ⟨d1, d2, d3, d4⟩ := bg_pa (m := m) (σ := σ) (k := tK b n i) (pl := tP b n i) (q := sqK K) (d := K.length) (wh := whK (tK b n i) (tC b n i) τ)
  have kb : KcS σ (bgP m (tK b n i) (tP b n i) (sqK K) K.length (whK (tK b n i) (tC b n i) τ) σ) := KcS.bg
  have xb : (bgP m (tK b n i) (tP b n i) (sqK K) K.length (whK (tK b n i) (tC b n i) τ) σ).2.2.1 = σ.2.2.1 := rfl
  have ib : ifS (bgP m (tK b n i) (tP b n i) (sqK K) K.length (whK (tK b n i) (tC b n i) τ) σ) = ifS σ := rfl
  generalize bgP m (tK b n i) (tP b n i) (sqK K) K.length (whK (tK b n i) (tC b n i) τ) σ = σb at el hH n1 n2 n3 c1 c2 c3 c4 d1 d2 d3 d4 kb xb ib
  have t1 := hg.1.1.1
  have h6 : (trS u.2.1).1 ≤ 600 := h6
  have hT : (trS σb).1 ≤ 600 := by
    have := hH.1.2.2.2 (by rw [n3]; exact t1)
    omega
  obtain ⟨γ1, a1, a2, a3, a4, a5, a6, a7, a8⟩ := lf_gi hB hv hT (kb.gi hg) c3 hK ko el
  have gb : gfT noN noN σ γ σb γ := kb.gf ⟨[], by rw [xb, List.append_nil]⟩
  have kf : KcS u.2.1 (fiP m (npS σ) u.2.2 u.2.1) := KcS.fi
  have gf : gfT noN noN u.2.1 γ1 (fiP m (npS σ) u.2.2 u.2.1) γ1 := kf.gf ⟨[], (List.append_nil _).symm⟩
  have en : npS u.2.1 = npS σ + 1 := by rw [← n1]; unfold npS; rw [hH.1.1]
  have e4 : u.2.1.1.1 4 = σ.1.1 4 := by rw [hH.1.1]; exact n2
  have op : ∀ x : Int32, opnK x = true → tK b n i ≠ x := fun x hx z => by rw [z, hx] at ko; exact absurd ko (by decide)
  rw [n3] at a3 a4 a5
  refine ⟨γ1, 1, kf.gi a1, (gb.tr a2 (fun _ _ _ z => z) (fun _ _ _ z => z)).tr gf (fun _ _ _ z => z) (fun _ _ _ z => z), ?_, fun x f h1 h2 => ?_, a3, ?_⟩
  · show (ifS u.2.1).length = u.2.1.1.1 2
    rw [a8, ib, hi, hH.1.1, d4, if_neg (op 58 (by decide))]
    rfl
  · show up2 u.2.1.2.1.1 (npS σ) 1 _ x f = _
    rw [up2_ne (fun z => by omega), a6 x f (by omega), d3 x f (by omega)]
  · have bg : u.2.1.1.2.1 58 (40 * m + npS σ) = Int32.ofNat (soK (tK b n i)) ∧ (∃ pl, u.2.1.1.2.1 59 (40 * m + npS σ) = Int32.ofNat pl ∧ u.2.1.2.1.1 (npS σ) 0 = Int32.ofNat pl) := by
      rw [hH.1.2.1 58 _ (Or.inl (by decide)), hH.1.2.1 59 _ (Or.inl (by decide)), a7 0 (by decide)]
      exact ⟨c1, _, c2, d1⟩
    obtain ⟨g1, pl, g2, g3⟩ := bg
    unfold TTs TT
    rw [if_neg (by decide), if_neg (by decide), if_pos rfl]
    refine ⟨tK b n i, u.2.2, [], (trS σ).2.1, false, rfl, ⟨(okK_ok eo).2.1, ?_, ⟨pl, ?_, ?_⟩, up2_eq, up2_eq⟩, a5.fi, ?_, ?_, Or.inl ⟨ko, en, e4, rfl, ?_⟩⟩
    · show (fiP m (npS σ) u.2.2 u.2.1).1.2.1 58 (40 * m + npS σ) = _
      rw [fi_A (fun z => absurd z.1 (by decide))]; exact g1
    · show (fiP m (npS σ) u.2.2 u.2.1).1.2.1 59 (40 * m + npS σ) = _
      rw [fi_A (fun z => absurd z.1 (by decide))]; exact g2
    · show (fiP m (npS σ) u.2.2 u.2.1).2.1.1 (npS σ) 0 = _
      rw [fi_P (fun z => absurd z.2 (by decide))]; exact g3
    · unfold ltK
      rw [if_neg (op 42 (by decide)), if_neg (op 17 (by decide))]
      show (fiP m (npS σ) u.2.2 u.2.1).2.1.1 (npS σ) 2 = _
      rw [fi_P (fun z => absurd z.2 (by decide)), a7 2 (by decide)]; exact d2
    · have : hpK (tK b n i) = 0 := if_neg (op 53 (by decide))
      rw [this]
      exact a4
    · show (fiP m (npS σ) u.2.2 u.2.1).1.2.1 69 (40 * m + npS σ) = _
      rw [fi_A (fun z => absurd z.1 (by decide)), hH.1.2.1 69 _ (Or.inr (Or.inl (by decide)))]; exact c4
end
end
section
/-! a part with rows is whole: one row and a tail; two rows; one row and nothing -/
section
variable {b : Nat → Int32} {n s m : Nat} {τ : Td}
theorem t_c2t (hB : By b) (hS : Sto b n s) (h4 : m < 4) (hv : HvT τ) {K : List KE} {i : Nat} {σ : PS} {h : Nat × PS × Nat × Bool × Nat × Option Int64} {q u : Nat × PS × Nat} (eo : okK (tK b n i) (tC b n i) K.length τ σ (tP b n i) = .ok ()) (hop : opnK (tK b n i) = true) (k17 : tK b n i ≠ 17) (kc : ¬ (tK b n i = 44 ∨ tK b n i = 58)) (eh : hdM b n m τ (tK b n i) (npS σ) (i + 1) K (bgP m (tK b n i) (tP b n i) (sqK K) K.length (whK (tK b n i) (tC b n i) τ) σ) = .ok h) (hH : Hd m (npS σ) (bgP m (tK b n i) (tP b n i) (sqK K) K.length (whK (tK b n i) (tC b n i) τ) σ) h.2.1) (R0 : RXE b n s m τ 0 ((40 * m + npS σ, h.2.1.1.1 4, 1, h.2.2.2.2.2) :: K) h.1 (rwP (40 * m + npS σ) none h.2.1) 0 0 0 0 0 0 q) (p0 : P0T τ m ((40 * m + npS σ, h.2.1.1.1 4, 1, h.2.2.2.2.2) :: K) h.1 (rwP (40 * m + npS σ) none h.2.1) q) (et : tlM b n m τ (tK b n i) (npS σ) h.2.2.2.2.1 h.2.2.1 q.2.2 q.1 (K.length + 1) q.2.1 = .ok u) (hN : HdN m (npS σ) q.2.1 u.2) : P2T τ m K i σ (u.1, fiP m (npS σ) u.2.2 u.2.1, u.2.2) := by
  intro γ hg hi h6 hX
  have h6 : (trS u.2.1).1 ≤ 600 := h6
  have hX : u.2.1.2.2.1.length < 900 := hX
  have t1 := hg.1.1.1
  have th : (trS σ).1 ≤ (trS h.2.1).1 := hH.2.2.2 t1
  have f0 := R0.g0 hS h4
  have su := fun hx => R0.x0 hS h4 hv hx
  obtain ⟨-, ⟨v0, -, -, -⟩, -⟩ := R0.1
  have tw : trS (rwP (40 * m + npS σ) none h.2.1) = trS h.2.1 := rfl
  have lw : (trS h.2.1).1 ≤ (trS q.2.1).1 := v0.2.2.2.2 (by rw [tw]; omega)
  have lq : (trS q.2.1).1 ≤ (trS u.2.1).1 := hN.1.2.2.2 (by omega)
  have eX : u.2.1.2.2.1 = q.2.1.2.2.1 := (tl_g et).2.2.1
  obtain ⟨γ1, a1, a2, a3, a4, ⟨w1, w2, w3, w4⟩, a6, a7, ⟨a8, a9⟩, tp, x1, x2, x3, x4, x5, x6⟩ := t_hd hB hv hop eh hH hg hi (by omega)
  have hk : tK b n i = 42 ∨ tK b n i = 49 ∨ tK b n i = 50 ∨ tK b n i = 52 ∨ tK b n i = 53 ∨ tK b n i = 55 := by
    unfold opnK at hop
    simp only [Bool.or_eq_true, beq_iff_eq] at hop
    rcases hop with ((((((((z | z) | z) | z) | z) | z) | z) | z) | z)
    · exact Or.inl z
    · exact absurd (Or.inl z) kc
    · exact Or.inr (Or.inl z)
    · exact Or.inr (Or.inr (Or.inl z))
    · exact Or.inr (Or.inr (Or.inr (Or.inl z)))
    · exact Or.inr (Or.inr (Or.inr (Or.inr (Or.inl z))))
    · exact Or.inr (Or.inr (Or.inr (Or.inr (Or.inr z))))
    · exact absurd (Or.inr z) kc
    · exact absurd z k17
  clear eh hH
  generalize rwP (40 * m + npS σ) none h.2.1 = σw at R0 p0 f0 su v0 tw a1 a2 a3 a4 w1 w2 w3 a6 a7 a8 a9 x1 x2 x3 x4 x5 x6
  have e73 : σw.1.2.1 73 (sqK ((40 * m + npS σ, h.2.1.1.1 4, 1, h.2.2.2.2.2) :: K)) = -1 := by
    show σw.1.2.1 73 (h.2.1.1.1 4) = -1
    rw [w4]; exact a8
  obtain ⟨γ2, g, b1, b2, b3, b4, ⟨b51, b52, b53⟩, b6⟩ := p0 γ1 a1 a3 (by omega) (by rw [← eX]; exact hX) e73
  obtain ⟨-, f75, -⟩ := f0 e73
  have hB0 : 40 * m + npS σ < 40 * m + npS σw := by omega
  have hj : npS σ < npS σw := by omega
  have pv : ∀ c, 58 ≤ c → c ≤ 72 → c ≠ 70 → q.2.1.1.2.1 c (40 * m + npS σ) = σw.1.2.1 c (40 * m + npS σ) := fun c z1 z2 z3 => v0.2.2.1 c z1 z2 z3 _ hB0
  have bq : BgS m (tK b n i) (npS σ) (σ.1.1 4) q.2.1 := a6.pv v0 hB0 (b4 _ 0 hj (fun z => absurd z (by decide)))
  have pq2 : q.2.1.2.1.1 (npS σ) 2 = 0 := (b4 _ 2 hj (fun _ z => by cases z)).trans a7
  rw [tw] at b51
  obtain ⟨γ3, c1, c2, c3, c4, c5, c6, c7, c8, c9, c10⟩ := tl_gi (K := K) (lo := (trS σ).1) (p := (trS σ).2.1) (by omega) b1 (fun z => (pv 61 (by decide) (by decide) (by decide)).trans (x6 z)) hk ⟨by omega, b52⟩ b53 (by omega) t1 (fun z => by
    obtain ⟨y1, y2⟩ := x4 (Or.inl z)
    have nd := b2.nd y2.1
    have aw := y2.1.2
    rw [tw] at aw
    exact ⟨⟨⟨y2.1.1, nd.1.2.2⟩, (nd.2.2 (fun z => z)).trans y2.2, by omega⟩, (x1 (Or.inr z)).fw a1 b2 (pv 62 (by decide) (by decide) (by decide)) (pv 63 (by decide) (by decide) (by decide)), h.2.2.2.1, (pv 61 (by decide) (by decide) (by decide)).trans (x3 z).1, (x3 z).2.st (b2.1.sm t1 (Nat.le_refl _) (fun _ _ _ z => z)) (Nat.le_refl _) b2.1.1⟩) et
  have kf : KcS u.2.1 (fiP m (npS σ) u.2.2 u.2.1) := KcS.fi
  have gf : gfT noN noN u.2.1 γ3 (fiP m (npS σ) u.2.2 u.2.1) γ3 := kf.gf ⟨[], (List.append_nil _).symm⟩
  have eu : npS u.2.1 = npS q.2.1 := by unfold npS; rw [hN.1.1]
  have eu4 : u.2.1.1.1 4 = q.2.1.1.1 4 := by rw [hN.1.1]
  have gqu : gfT noN (fun _ => True) q.2.1 γ2 (fiP m (npS σ) u.2.2 u.2.1) γ3 := (c2.more (H1 := fun _ => True) (fun _ _ _ z => z) (fun _ _ _ _ => trivial)).tr gf (fun _ _ _ z => z) (fun _ _ _ _ => trivial)
  refine ⟨γ3, g + 1, kf.gi c1, ?_, ?_, fun x f h1 h2 => ?_, ⟨by show (trS σ).1 ≤ u.2.2; omega, c3.2.1, c3.2.2⟩, ?_⟩
  · refine ((a2.tr b2 (fun _ _ _ z => z) (fun _ _ _ z => z)).tr c2 (fun _ _ _ z => z) (fun y _ hy z => ?_)).tr gf (fun _ _ _ z => z) (fun _ _ _ z => z)
    rcases z with z | ⟨z, z2⟩
    · omega
    · have := (x4 (Or.inl z)).1
      omega
  · show (ifS u.2.1).length = u.2.1.1.1 2
    rw [c10, b3, hN.1.1]
  · show up2 u.2.1.2.1.1 (npS σ) 1 _ x f = _
    rw [up2_ne (fun z => by omega), c6 x f (by omega), b4 x f (by omega) h2, a4 x f h1 h2]
  · have bu : BgS m (tK b n i) (npS σ) (σ.1.1 4) u.2.1 := bq.hd hN.1 (c7 0 (by decide))
    obtain ⟨pc, p69⟩ := bu.pc (τ := τ) (x := u.2.2) (γ := γ3) (okK_ok eo).2.1
    rw [eu] at pc
    have b6 : TTs τ m q.2.1 γ2 (trS σw).1 g 0 ((40 * m + npS σ, h.2.1.1.1 4, 1, h.2.2.2.2.2) :: K) 0 0 0 0 0 false (npS σw) (npS q.2.1) (σw.1.1 4) (q.2.1.1.1 4) (trS σw).2.1 (trS q.2.1).2.1 [(0, q.2.2)] := b6
    have tt := TTs.st (g' := g) (lo' := (trS σ).1) b6 (by decide) (Nat.le_refl _) (by rw [tw]; exact th) h4 b1 gqu ((AKp.hd hN.1 c6 (Or.inl hj)).tr (AKp.fi (Or.inl hj))) (by rw [← eX]; exact hX) (su (by rw [← eX]; exact hX)).2.2 (by rw [tw]; omega) (fun _ _ _ z => z) (fun _ => ⟨?_, ?_, ?_⟩) (fun z => absurd z (by decide))
    · rw [w1, w2, w3, w4] at tt
      unfold TTs TT
      rw [if_neg (by decide), if_neg (by decide), if_pos rfl]
      refine ⟨tK b n i, u.2.2, [q.2.2], (trS q.2.1).2.1, false, rfl, ?_, c5.fi, ?_, c4, Or.inr (Or.inr ⟨hop, k17, p69, h.2.2.2.2.2, npS q.2.1, q.2.1.1.1 4, (trS q.2.1).2.1, q.2.2, tp, tt, Or.inl ⟨rfl, eu, eu4, rfl, ?_⟩⟩)⟩
      · have e : npS (fiP m (npS σ) u.2.2 u.2.1) = npS q.2.1 := eu
        show PcS _ m _ _ (npS (fiP m (npS σ) u.2.2 u.2.1)) _
        rw [e]
        exact pc
      · unfold ltK
        have e2 : woP (woS τ m (fiP m (npS σ) u.2.2 u.2.1) γ3) (npS σ) 2 = u.2.1.2.1.1 (npS σ) 2 := by
          show (fiP m (npS σ) u.2.2 u.2.1).2.1.1 (npS σ) 2 = _
          rw [fi_P (fun z => absurd z.2 (by decide))]
        rw [e2]
        by_cases k42 : tK b n i = 42
        · rw [if_pos k42, c9 k42, pq2]
          have e13 : woC (woS τ m (fiP m (npS σ) u.2.2 u.2.1) γ3) (List.headD [q.2.2] 0) = (trS q.2.1).2.2 13 q.2.2 := c2.1.c13 (lo := 1) (Nat.le_refl _) (Nat.le_refl _) (fun _ _ _ z => z) q.2.2 (by omega) b52
          rw [e13]
        · rw [if_neg k42, if_neg k17, c8 k42]; exact pq2
      · show (fiP m (npS σ) u.2.2 u.2.1).1.2.1 75 (σ.1.1 4) = -1
        rw [fi_A (fun z => absurd z.1 (by decide)), hN.1.2.1 75 _ (Or.inr (Or.inl (by decide))), ← w4]
        refine Eq.trans f75 ?_
        show σw.1.2.1 75 (h.2.1.1.1 4) = -1
        rw [w4]; exact a9
    · refine Eq.trans (b := u.2.1.1.2.1 73 _) (fi_A (fun z => absurd z.1 (by decide))) ?_
      exact hN.1.2.1 73 _ (Or.inr (Or.inl (by decide)))
    · refine Eq.trans (b := u.2.1.1.2.1 74 _) (fi_A (fun z => absurd z.1 (by decide))) ?_
      exact hN.1.2.1 74 _ (Or.inr (Or.inl (by decide)))
    · refine Eq.trans (b := u.2.1.1.2.1 70 _) (fi_A (fun z => absurd z.1 (by decide))) ?_
      exact hN.1.2.1 70 _ (Or.inr (Or.inl (by decide)))
end
end
section
/-! choices: two rows, or one and nothing -/
section
variable {b : Nat → Int32} {n s m : Nat} {τ : Td}
/-- what a choice of kind k is: its node x with y, z -/
theorem ch_pk {W : Wo} {zn fn lo hi p pb j x y z : Nat} {k l : Int32} {K : List KE} {ys : List Nat} (hk : k = 44 ∨ k = 58) (h44 : k = 44 → CdW W m zn (40 * m + j) l) (h58 : k = 58 → ∃ f, f < fn ∧ woP W j 4 = Int32.ofNat f ∧ woF W f = l) (nd : ndS (woV W) lo hi x 4 l [y, z]) (hy : ys = [y, z] ∨ ys = [y] ∧ lfS (woV W) lo hi z 0 0) : PkS W m zn fn lo hi k K j p pb x ys := by
  unfold PkS
  rcases hk with e | e
  · rw [e, if_neg (by decide), if_neg (by decide), if_neg (by decide), if_neg (by decide), if_neg (by decide), if_neg (by decide), if_neg (by decide), if_pos rfl]
    exact ⟨y, z, l, h44 e, nd, hy⟩
  · obtain ⟨f, f1, f2, f3⟩ := h58 e
    rw [e, if_neg (by decide), if_neg (by decide), if_neg (by decide), if_neg (by decide), if_neg (by decide), if_neg (by decide), if_neg (by decide), if_neg (by decide), if_pos rfl]
    exact ⟨y, z, f, f1, f2, by rw [f3]; exact nd, hy⟩
theorem pa_ch {k : Int32} (hk : k = 44 ∨ k = 58) : paK k = 0 ∧ hpK k = 0 ∧ k ≠ 42 ∧ k ≠ 17 ∧ k ≠ 53 := by
  rcases hk with e | e <;> subst e <;> decide
theorem t_c2n (hB : By b) (hS : Sto b n s) (h4 : m < 4) (hv : HvT τ) {K : List KE} {i : Nat} {σ : PS} {h : Nat × PS × Nat × Bool × Nat × Option Int64} {q u : Nat × PS × Nat} (eo : okK (tK b n i) (tC b n i) K.length τ σ (tP b n i) = .ok ()) (hop : opnK (tK b n i) = true) (kc : tK b n i = 44 ∨ tK b n i = 58) (eh : hdM b n m τ (tK b n i) (npS σ) (i + 1) K (bgP m (tK b n i) (tP b n i) (sqK K) K.length (whK (tK b n i) (tC b n i) τ) σ) = .ok h) (hH : Hd m (npS σ) (bgP m (tK b n i) (tP b n i) (sqK K) K.length (whK (tK b n i) (tC b n i) τ) σ) h.2.1) (R0 : RXE b n s m τ 0 ((40 * m + npS σ, h.2.1.1.1 4, 1, h.2.2.2.2.2) :: K) h.1 (rwP (40 * m + npS σ) none h.2.1) 0 0 0 0 0 0 q) (p0 : P0T τ m ((40 * m + npS σ, h.2.1.1.1 4, 1, h.2.2.2.2.2) :: K) h.1 (rwP (40 * m + npS σ) none h.2.1) q) (ec : chM b n h.2.2.1 q.2.2 (mkT (trS q.2.1) 0).2 q.1 (trP1 q.2.1 (mkT (trS q.2.1) 0).1) = .ok u) : P2T τ m K i σ (u.1, fiP m (npS σ) u.2.2 u.2.1, u.2.2) := by
  intro γ hg hi h6 hX
  have h6 : (trS u.2.1).1 ≤ 600 := h6
  have hX : u.2.1.2.2.1.length < 900 := hX
  have t1 := hg.1.1.1
  have th : (trS σ).1 ≤ (trS h.2.1).1 := hH.2.2.2 t1
  have f0 := R0.g0 hS h4
  have su := fun hx => R0.x0 hS h4 hv hx
  obtain ⟨-, ⟨v0, -, -, -⟩, -⟩ := R0.1
  have tw : trS (rwP (40 * m + npS σ) none h.2.1) = trS h.2.1 := rfl
  have lw : (trS h.2.1).1 ≤ (trS q.2.1).1 := v0.2.2.2.2 (by rw [tw]; omega)
  obtain ⟨z1, z2, z3, z4, z5⟩ := pa_ch kc
  -- what the choice leaves
  have shp : u.2.1.2.2.1 = q.2.1.2.2.1 ∧ (trS q.2.1).1 ≤ (trS u.2.1).1 := by
    unfold chM at ec
    obtain ⟨i2, -, ec⟩ := bind_ok ec
    have e1 := (ts_mk (k := 0) (Θ := trS q.2.1) (by omega)).1
    generalize mkT (trS q.2.1) 0 = R at ec e1
    have e2 := (ts_ch (l := Int32.ofNat h.2.2.1) (c := q.2.2) (d := R.2) (Θ := R.1) (by omega)).1
    have ec : (Except.ok (i2, trP1 (trP1 q.2.1 R.1) (chT R.1 (Int32.ofNat h.2.2.1) q.2.2 R.2).1, (chT R.1 (Int32.ofNat h.2.2.1) q.2.2 R.2).2) : Except (Int32 × Nat) (Nat × PS × Nat)) = .ok u := ec
    generalize chT R.1 (Int32.ofNat h.2.2.1) q.2.2 R.2 = R2 at ec e2
    cases ec
    exact ⟨rfl, Nat.le_trans e1 e2⟩
  obtain ⟨eX, lq⟩ := shp
  obtain ⟨γ1, a1, a2, a3, a4, ⟨w1, w2, w3, w4⟩, a6, a7, ⟨a8, a9⟩, tp, x1, x2, x3, x4, x5, x6⟩ := t_hd hB hv hop eh hH hg hi (by omega)
  clear eh hH
  generalize rwP (40 * m + npS σ) none h.2.1 = σw at R0 p0 f0 su v0 tw a1 a2 a3 a4 w1 w2 w3 a6 a7 a8 a9 x1 x2 x3 x4 x5 x6
  have e73 : σw.1.2.1 73 (sqK ((40 * m + npS σ, h.2.1.1.1 4, 1, h.2.2.2.2.2) :: K)) = -1 := by
    show σw.1.2.1 73 (h.2.1.1.1 4) = -1
    rw [w4]; exact a8
  obtain ⟨γ2, g, b1, b2, b3, b4, ⟨b51, b52, b53⟩, b6⟩ := p0 γ1 a1 a3 (by omega) (by rw [← eX]; exact hX) e73
  obtain ⟨-, f75, -⟩ := f0 e73
  have hB0 : 40 * m + npS σ < 40 * m + npS σw := by omega
  have hj : npS σ < npS σw := by omega
  have pv : ∀ c, 58 ≤ c → c ≤ 72 → c ≠ 70 → q.2.1.1.2.1 c (40 * m + npS σ) = σw.1.2.1 c (40 * m + npS σ) := fun c z1 z2 z3 => v0.2.2.1 c z1 z2 z3 _ hB0
  have bq : BgS m (tK b n i) (npS σ) (σ.1.1 4) q.2.1 := a6.pv v0 hB0 (b4 _ 0 hj (fun z => absurd z (by decide)))
  have pq2 : q.2.1.2.1.1 (npS σ) 2 = 0 := (b4 _ 2 hj (fun _ z => by cases z)).trans a7
  rw [tw] at b51
  obtain ⟨G1, nw, -, sh⟩ := W_mk (k := 0) b1.1 (by omega) (by decide)
  obtain ⟨u1, u2⟩ := gi_tr b1 nw
  obtain ⟨n1, n2, n3, -⟩ := nw.2.2.1
  have np := nw.2.2.2
  generalize mkT (trS q.2.1) 0 = R at ec nw sh u1 u2 n1 n2 n3 np
  have ndx := u2.nd (y := q.2.2) ⟨by omega, b52⟩
  have n2 : R.2 < (trS (trP1 q.2.1 R.1)).1 := n2
  have h6m : (trS (trP1 q.2.1 R.1)).1 ≤ 600 := by
    unfold chM at ec
    obtain ⟨i2, -, ec⟩ := bind_ok ec
    have e2 := (ts_ch (l := Int32.ofNat h.2.2.1) (c := q.2.2) (d := R.2) (Θ := trS (trP1 q.2.1 R.1)) (by omega)).1
    generalize chT (trS (trP1 q.2.1 R.1)) (Int32.ofNat h.2.2.1) q.2.2 R.2 = R2 at ec e2
    cases ec
    exact Nat.le_trans e2 h6
  obtain ⟨T, G2, eu, nc, sc⟩ := ch_gi h6m u1 ⟨by omega, ndx.1.2.2⟩ ((ndx.2.2 (fun z => z)).trans b53) ⟨by omega, n2⟩ n3 (by omega) ec
  obtain ⟨m1, m2, m3, -⟩ := nc.2.2.1
  have mp := nc.2.2.2
  obtain ⟨y1, y2⟩ := gi_tr u1 nc
  have lm : (trS q.2.1).1 ≤ (trS (trP1 q.2.1 R.1)).1 := u2.1.1
  have lT : (trS (trP1 q.2.1 R.1)).1 ≤ T.1 := nc.2.1.1
  rw [eu] at h6 hX eX lq ⊢
  have kf : KcS (trP1 (trP1 q.2.1 R.1) T) (fiP m (npS σ) u.2.2 (trP1 (trP1 q.2.1 R.1) T)) := KcS.fi
  have gf : gfT noN noN (trP1 (trP1 q.2.1 R.1) T) (G2, γ2.2) (fiP m (npS σ) u.2.2 (trP1 (trP1 q.2.1 R.1) T)) (G2, γ2.2) := kf.gf ⟨[], (List.append_nil _).symm⟩
  have gqu : gfT noN (fun _ => True) q.2.1 γ2 (fiP m (npS σ) u.2.2 (trP1 (trP1 q.2.1 R.1) T)) (G2, γ2.2) := ((u2.more (H1 := fun _ => True) (fun _ _ _ z => z) (fun _ _ _ _ => trivial)).tr y2 (fun _ _ _ z => z) (fun _ _ _ _ => trivial)).tr gf (fun _ _ _ z => z) (fun _ _ _ _ => trivial)
  have gwq : gfT noN noN σw γ1 q.2.1 γ2 := b2
  refine ⟨(G2, γ2.2), g + 1, kf.gi y1, ?_, b3, fun x f h1 h2 => ?_, ⟨by show (trS σ).1 ≤ u.2.2; omega, m2, m3⟩, ?_⟩
  · refine (((a2.tr b2 (fun _ _ _ z => z) (fun _ _ _ z => z)).tr u2 (fun _ _ _ z => z) (fun _ _ _ z => z)).tr y2 (fun _ _ _ z => z) (fun y _ hy z => ?_)).tr gf (fun _ _ _ z => z) (fun _ _ _ z => z)
    have z : y = q.2.2 ∨ y = R.2 := z
    omega
  · show up2 q.2.1.2.1.1 (npS σ) 1 _ x f = _
    rw [up2_ne (fun z => by omega), b4 x f (by omega) h2, a4 x f h1 h2]
  · have bu : BgS m (tK b n i) (npS σ) (σ.1.1 4) (trP1 (trP1 q.2.1 R.1) T) := bq
    obtain ⟨pc, p69⟩ := bu.pc (τ := τ) (x := u.2.2) (γ := (G2, γ2.2)) (okK_ok eo).2.1
    have b6 : TTs τ m q.2.1 γ2 (trS σw).1 g 0 ((40 * m + npS σ, h.2.1.1.1 4, 1, h.2.2.2.2.2) :: K) 0 0 0 0 0 false (npS σw) (npS q.2.1) (σw.1.1 4) (q.2.1.1.1 4) (trS σw).2.1 (trS q.2.1).2.1 [(0, q.2.2)] := b6
    have ak : AKp m (npS σw) (npS q.2.1) (σw.1.1 4) (q.2.1.1.1 4) q.2.1 (fiP m (npS σ) u.2.2 (trP1 (trP1 q.2.1 R.1) T)) := AKp.tr (σ1 := trP1 (trP1 q.2.1 R.1) T) (AKp.of rfl rfl) (AKp.fi (Or.inl hj))
    have tt := TTs.st (g' := g) (lo' := (trS σ).1) b6 (by decide) (Nat.le_refl _) (by rw [tw]; exact th) h4 b1 gqu ak (by rw [← eX]; exact hX) (su (by rw [← eX]; exact hX)).2.2 (by rw [tw]; omega) (fun _ _ _ z => z) (fun _ => ⟨fi_A (fun z => absurd z.1 (by decide)), fi_A (fun z => absurd z.1 (by decide)), fi_A (fun z => absurd z.1 (by decide))⟩) (fun z => absurd z (by decide))
    rw [w1, w2, w3, w4] at tt
    unfold TTs TT
    rw [if_neg (by decide), if_neg (by decide), if_pos rfl]
    refine ⟨tK b n i, u.2.2, [q.2.2], (trS q.2.1).2.1, false, rfl, pc, PkS.fi (ch_pk (l := Int32.ofNat h.2.2.1) (y := q.2.2) (z := R.2) kc (fun z => ?_) (fun z => ?_) ?_ (Or.inr ⟨rfl, ?_⟩)), ?_, ?_, Or.inr (Or.inr ⟨hop, z4, p69, h.2.2.2.2.2, npS q.2.1, q.2.1.1.1 4, (trS q.2.1).2.1, q.2.2, tp, tt, Or.inl ⟨rfl, rfl, rfl, rfl, ?_⟩⟩)⟩
    · have c0 : CdW (woS τ m q.2.1 γ2) m q.2.1.2.2.2.length (40 * m + npS σ) (Int32.ofNat h.2.2.1) := (x1 (Or.inl z)).fw a1 b2 (pv 62 (by decide) (by decide) (by decide)) (pv 63 (by decide) (by decide) (by decide))
      exact c0
    · obtain ⟨f, f1, f2, f3⟩ := x2 z
      refine ⟨f, Nat.lt_of_lt_of_le f1 b2.len.2.2.1, (b4 _ 4 hj (fun z => absurd z (by decide))).trans f2, ?_⟩
      obtain ⟨U, e5⟩ := b2.2.2.2.2.1
      show (ifS q.2.1).getD f 0 = _
      rw [e5, gdA f1]
      exact f3
    · exact sc.st Sm.rf (by omega) (Nat.le_refl _)
    · exact sh.st (nc.sm (by omega) (Nat.le_refl _)) (by omega) lT
    · unfold ltK
      rw [if_neg z3, if_neg z4]
      show (fiP m (npS σ) u.2.2 (trP1 (trP1 q.2.1 R.1) T)).2.1.1 (npS σ) 2 = 0
      rw [fi_P (fun z => absurd z.2 (by decide))]
      exact pq2
    · show T.2.1 = _
      rw [mp, z1, z2]
      exact np
    · show (fiP m (npS σ) u.2.2 (trP1 (trP1 q.2.1 R.1) T)).1.2.1 75 (σ.1.1 4) = -1
      rw [fi_A (fun z => absurd z.1 (by decide)), ← w4]
      refine Eq.trans f75 ?_
      show σw.1.2.1 75 (h.2.1.1.1 4) = -1
      rw [w4]; exact a9
end
end
section
/-! a choice of two rows -/
section
variable {b : Nat → Int32} {n s m : Nat} {τ : Td}
theorem t_c2e (hB : By b) (hS : Sto b n s) (h4 : m < 4) (hv : HvT τ) {K : List KE} {i : Nat} {σ : PS} {h : Nat × PS × Nat × Bool × Nat × Option Int64} {q t u : Nat × PS × Nat} (eo : okK (tK b n i) (tC b n i) K.length τ σ (tP b n i) = .ok ()) (hop : opnK (tK b n i) = true) (kc : tK b n i = 44 ∨ tK b n i = 58) (eh : hdM b n m τ (tK b n i) (npS σ) (i + 1) K (bgP m (tK b n i) (tP b n i) (sqK K) K.length (whK (tK b n i) (tC b n i) τ) σ) = .ok h) (hH : Hd m (npS σ) (bgP m (tK b n i) (tP b n i) (sqK K) K.length (whK (tK b n i) (tC b n i) τ) σ) h.2.1) (R0 : RXE b n s m τ 0 ((40 * m + npS σ, h.2.1.1.1 4, 1, h.2.2.2.2.2) :: K) h.1 (rwP (40 * m + npS σ) none h.2.1) 0 0 0 0 0 0 q) (p0 : P0T τ m ((40 * m + npS σ, h.2.1.1.1 4, 1, h.2.2.2.2.2) :: K) h.1 (rwP (40 * m + npS σ) none h.2.1) q) (R4 : RXE b n s m τ 0 ((40 * m + npS σ, q.2.1.1.1 4, 2, none) :: K) (q.1 + 1) (rwP (40 * m + npS σ) (some (h.2.1.1.1 4)) q.2.1) 0 0 0 0 0 0 t) (p4 : P0T τ m ((40 * m + npS σ, q.2.1.1.1 4, 2, none) :: K) (q.1 + 1) (rwP (40 * m + npS σ) (some (h.2.1.1.1 4)) q.2.1) t) (ec : chM b n h.2.2.1 q.2.2 t.2.2 t.1 t.2.1 = .ok u) (hXq : q.2.1.2.2.1.length ≤ t.2.1.2.2.1.length) : P2T τ m K i σ (u.1, fiP m (npS σ) u.2.2 u.2.1, u.2.2) := by
  intro γ hg hi h6 hX
  have h6 : (trS u.2.1).1 ≤ 600 := h6
  have hX : u.2.1.2.2.1.length < 900 := hX
  have t1 := hg.1.1.1
  have th : (trS σ).1 ≤ (trS h.2.1).1 := hH.2.2.2 t1
  have f0 := R0.g0 hS h4
  have f4 := R4.g0 hS h4
  have su := fun hx => R0.x0 hS h4 hv hx
  have su4 := fun hx => R4.x0 hS h4 hv hx
  obtain ⟨-, ⟨v0, -, -, -⟩, -⟩ := R0.1
  obtain ⟨-, ⟨v4, -, -, -⟩, -⟩ := R4.1
  have tw : trS (rwP (40 * m + npS σ) none h.2.1) = trS h.2.1 := rfl
  have lw : (trS h.2.1).1 ≤ (trS q.2.1).1 := v0.2.2.2.2 (by rw [tw]; omega)
  have tv : trS (rwP (40 * m + npS σ) (some (h.2.1.1.1 4)) q.2.1) = trS q.2.1 := rfl
  have lv : (trS q.2.1).1 ≤ (trS t.2.1).1 := v4.2.2.2.2 (by rw [tv]; omega)
  obtain ⟨z1, z2, z3, z4, z5⟩ := pa_ch kc
  have shp : u.2.1.2.2.1 = t.2.1.2.2.1 ∧ (trS t.2.1).1 ≤ (trS u.2.1).1 := by
    unfold chM at ec
    obtain ⟨i2, -, ec⟩ := bind_ok ec
    have e2 := (ts_ch (l := Int32.ofNat h.2.2.1) (c := q.2.2) (d := t.2.2) (Θ := trS t.2.1) (by omega)).1
    generalize chT (trS t.2.1) (Int32.ofNat h.2.2.1) q.2.2 t.2.2 = R2 at ec e2
    cases ec
    exact ⟨rfl, e2⟩
  obtain ⟨eX, lq⟩ := shp
  obtain ⟨γ1, a1, a2, a3, a4, ⟨w1, w2, w3, w4⟩, a6, a7, ⟨a8, a9⟩, tp, x1, x2, x3, x4, x5, x6⟩ := t_hd hB hv hop eh hH hg hi (by omega)
  clear eh hH
  generalize rwP (40 * m + npS σ) none h.2.1 = σw at R0 p0 f0 su v0 tw a1 a2 a3 a4 w1 w2 w3 a6 a7 a8 a9 x1 x2 x3 x4 x5 x6
  have e73 : σw.1.2.1 73 (sqK ((40 * m + npS σ, h.2.1.1.1 4, 1, h.2.2.2.2.2) :: K)) = -1 := by
    show σw.1.2.1 73 (h.2.1.1.1 4) = -1
    rw [w4]; exact a8
  have hXt : t.2.1.2.2.1.length < 900 := by rw [← eX]; exact hX
  obtain ⟨γ2, g, b1, b2, b3, b4, ⟨b51, b52, b53⟩, b6⟩ := p0 γ1 a1 a3 (by omega) (by omega) e73
  have hB0 : 40 * m + npS σ < 40 * m + npS σw := by omega
  have hj : npS σ < npS σw := by omega
  have hjq : npS σw ≤ npS q.2.1 := v0.1
  have hrq : σw.1.1 4 ≤ q.2.1.1.1 4 := v0.2.1
  have pv : ∀ c, 58 ≤ c → c ≤ 72 → c ≠ 70 → q.2.1.1.2.1 c (40 * m + npS σ) = σw.1.2.1 c (40 * m + npS σ) := fun c z1 z2 z3 => v0.2.2.1 c z1 z2 z3 _ hB0
  have bq : BgS m (tK b n i) (npS σ) (σ.1.1 4) q.2.1 := a6.pv v0 hB0 (b4 _ 0 hj (fun z => absurd z (by decide)))
  have pq2 : q.2.1.2.1.1 (npS σ) 2 = 0 := (b4 _ 2 hj (fun _ z => by cases z)).trans a7
  rw [tw] at b51
  -- the second row
  have kv : KcS q.2.1 (rwP (40 * m + npS σ) (some (h.2.1.1.1 4)) q.2.1) := KcS.rw
  have gv : gfT noN noN q.2.1 γ2 (rwP (40 * m + npS σ) (some (h.2.1.1.1 4)) q.2.1) γ2 := kv.gf ⟨[], (List.append_nil _).symm⟩
  obtain ⟨o1, o2, o3⟩ := rs_lk (σ := q.2.1) (p := 40 * m + npS σ) (q := h.2.1.1.1 4)
  obtain ⟨y1, y2, y3⟩ := rw_n (σ := q.2.1) (p := 40 * m + npS σ) (q0 := some (h.2.1.1.1 4))
  have o4 : (rwP (40 * m + npS σ) (some (h.2.1.1.1 4)) q.2.1).1.2.1 75 (h.2.1.1.1 4) = Int32.ofNat (q.2.1.1.1 4) := up2_eq
  have o5 : (rwP (40 * m + npS σ) (some (h.2.1.1.1 4)) q.2.1).1.2.1 75 (q.2.1.1.1 4) = -1 := by
    show up2 (up2 (up2 (up2 q.2.1.1.2.1 73 (q.2.1.1.1 4) (-1)) 74 (q.2.1.1.1 4) (-1)) 75 (q.2.1.1.1 4) (-1)) 75 (h.2.1.1.1 4) _ 75 (q.2.1.1.1 4) = -1
    rw [up2_ne (fun z => by omega), up2_eq]
  have o6 : ∀ c x, c ≤ 72 → (rwP (40 * m + npS σ) (some (h.2.1.1.1 4)) q.2.1).1.2.1 c x = q.2.1.1.2.1 c x := fun c x hc => by
    show up2 (up2 (up2 (up2 q.2.1.1.2.1 73 (q.2.1.1.1 4) (-1)) 74 (q.2.1.1.1 4) (-1)) 75 (q.2.1.1.1 4) (-1)) 75 (h.2.1.1.1 4) _ c x = _
    rw [up2_ne (fun z => by omega), up2_ne (fun z => by omega), up2_ne (fun z => by omega), up2_ne (fun z => by omega)]
  have y5 : (rwP (40 * m + npS σ) (some (h.2.1.1.1 4)) q.2.1).1.1 2 = q.2.1.1.1 2 := by simp [rwP, va_up]
  have y6 : (rwP (40 * m + npS σ) (some (h.2.1.1.1 4)) q.2.1).2.1.1 = q.2.1.2.1.1 := rfl
  have ak0 : AKp m (npS σw) (npS q.2.1) (σw.1.1 4) (q.2.1.1.1 4) q.2.1 (rwP (40 * m + npS σ) (some (h.2.1.1.1 4)) q.2.1) := AKp.rs (Or.inl (by omega)) (Nat.le_refl _)
  have gi2 := kv.gi b1
  have if2 : (ifS (rwP (40 * m + npS σ) (some (h.2.1.1.1 4)) q.2.1)).length = (rwP (40 * m + npS σ) (some (h.2.1.1.1 4)) q.2.1).1.1 2 := by
    rw [y5, ← b3]; rfl
  generalize rwP (40 * m + npS σ) (some (h.2.1.1.1 4)) q.2.1 = σv at R4 p4 f4 su4 v4 tv kv gv o1 o2 o3 o4 o5 o6 y1 y2 y5 y6 ak0 gi2 if2
  have e73v : σv.1.2.1 73 (sqK ((40 * m + npS σ, q.2.1.1.1 4, 2, none) :: K)) = -1 := o3
  obtain ⟨γ3, g4, d1, d2, d3, d4, ⟨d51, d52, d53⟩, d6⟩ := p4 γ2 gi2 if2 (by omega) hXt e73v
  obtain ⟨f41, f42, f43⟩ := f4 e73v
  have f42 : t.2.1.1.2.1 75 (q.2.1.1.1 4) = σv.1.2.1 75 (q.2.1.1.1 4) := f42
  have f41 : FrK σv.1.2.1 t.2.1.1.2.1 (40 * m + npS σv) (σv.1.1 4) (q.2.1.1.1 4) := f41
  have hjv : npS σ < npS σv := by omega
  have hBv : 40 * m + npS σ < 40 * m + npS σv := by omega
  have o3' : σv.1.2.1 73 (q.2.1.1.1 4) = -1 := o3
  have gqt : gfT noN noN q.2.1 γ2 t.2.1 γ3 := gv.tr d2 (fun _ _ _ z => z) (fun _ _ _ z => z)
  have gwt : gfT noN noN σw γ1 t.2.1 γ3 := b2.tr gqt (fun _ _ _ z => z) (fun _ _ _ z => z)
  have pt : ∀ c, 58 ≤ c → c ≤ 72 → c ≠ 70 → t.2.1.1.2.1 c (40 * m + npS σ) = σw.1.2.1 c (40 * m + npS σ) := fun c q1 q2 q3 => ((v4.2.2.1 c q1 q2 q3 _ hBv).trans (o6 c _ q2)).trans (pv c q1 q2 q3)
  have bt : BgS m (tK b n i) (npS σ) (σ.1.1 4) t.2.1 := by
    have bv : BgS m (tK b n i) (npS σ) (σ.1.1 4) σv := by
      unfold BgS
      rw [o6 58 _ (by decide), o6 59 _ (by decide), o6 69 _ (by decide), y6]
      exact bq
    exact bv.pv v4 hBv (d4 _ 0 hjv (fun z => absurd z (by decide)))
  have pt2 : t.2.1.2.1.1 (npS σ) 2 = 0 := by rw [d4 _ 2 hjv (fun _ z => by cases z), y6]; exact pq2
  rw [tv] at d51
  have ndx := gqt.nd (y := q.2.2) ⟨by omega, b52⟩
  obtain ⟨T, G2, eu, nc, sc⟩ := ch_gi (by omega) d1 ⟨by omega, ndx.1.2.2⟩ ((ndx.2.2 (fun z => z)).trans b53) ⟨by omega, d52⟩ d53 (by omega) ec
  obtain ⟨m1, m2, m3, -⟩ := nc.2.2.1
  have mp := nc.2.2.2
  obtain ⟨r1, r2⟩ := gi_tr d1 nc
  have lT : (trS t.2.1).1 ≤ T.1 := nc.2.1.1
  rw [eu] at h6 hX eX lq ⊢
  have kf : KcS (trP1 t.2.1 T) (fiP m (npS σ) u.2.2 (trP1 t.2.1 T)) := KcS.fi
  have gf : gfT noN noN (trP1 t.2.1 T) (G2, γ3.2) (fiP m (npS σ) u.2.2 (trP1 t.2.1 T)) (G2, γ3.2) := kf.gf ⟨[], (List.append_nil _).symm⟩
  have gtu : gfT noN (fun _ => True) t.2.1 γ3 (fiP m (npS σ) u.2.2 (trP1 t.2.1 T)) (G2, γ3.2) := (r2.more (H1 := fun _ => True) (fun _ _ _ z => z) (fun _ _ _ _ => trivial)).tr gf (fun _ _ _ z => z) (fun _ _ _ _ => trivial)
  have gqu : gfT noN (fun _ => True) q.2.1 γ2 (fiP m (npS σ) u.2.2 (trP1 t.2.1 T)) (G2, γ3.2) := (gqt.more (H1 := fun _ => True) (fun _ _ _ z => z) (fun _ _ _ _ => trivial)).tr gtu (fun _ _ _ z => z) (fun _ _ _ _ => trivial)
  refine ⟨(G2, γ3.2), max g g4 + 1, kf.gi r1, ?_, d3, fun x f h1 h2 => ?_, ⟨by show (trS σ).1 ≤ u.2.2; omega, m2, m3⟩, ?_⟩
  · refine ((a2.tr gwt (fun _ _ _ z => z) (fun _ _ _ z => z)).tr r2 (fun _ _ _ z => z) (fun y _ hy z => ?_)).tr gf (fun _ _ _ z => z) (fun _ _ _ z => z)
    have z : y = q.2.2 ∨ y = t.2.2 := z
    omega
  · show up2 t.2.1.2.1.1 (npS σ) 1 _ x f = _
    rw [up2_ne (fun z => by omega), d4 x f (by omega) h2, y6, b4 x f (by omega) h2, a4 x f h1 h2]
  · have bu : BgS m (tK b n i) (npS σ) (σ.1.1 4) (trP1 t.2.1 T) := bt
    obtain ⟨pc, p69⟩ := bu.pc (τ := τ) (x := u.2.2) (γ := (G2, γ3.2)) (okK_ok eo).2.1
    have b6 : TTs τ m q.2.1 γ2 (trS σw).1 g 0 ((40 * m + npS σ, h.2.1.1.1 4, 1, h.2.2.2.2.2) :: K) 0 0 0 0 0 false (npS σw) (npS q.2.1) (σw.1.1 4) (q.2.1.1.1 4) (trS σw).2.1 (trS q.2.1).2.1 [(0, q.2.2)] := b6
    have d6 : TTs τ m t.2.1 γ3 (trS σv).1 g4 0 ((40 * m + npS σ, q.2.1.1.1 4, 2, none) :: K) 0 0 0 0 0 false (npS σv) (npS t.2.1) (σv.1.1 4) (t.2.1.1.1 4) (trS σv).2.1 (trS t.2.1).2.1 [(0, t.2.2)] := d6
    have akt : ∀ {ja jb ra rb : Nat}, npS σ < ja → AKp m ja jb ra rb t.2.1 (fiP m (npS σ) u.2.2 (trP1 t.2.1 T)) := fun hja => AKp.tr (σ1 := trP1 t.2.1 T) (AKp.of rfl rfl) (AKp.fi (Or.inl hja))
    have akv : AKp m (npS σw) (npS q.2.1) (σw.1.1 4) (q.2.1.1.1 4) σv t.2.1 := AKp.pc v4 f41 (fun x f h1 h2 => d4 x f (by omega) (fun _ z => by cases z)) (by omega) (by omega) (by omega) (Or.inr (Nat.le_refl _)) (fun z => absurd o3' z)
    have fiA : ∀ c x, c ≠ 71 → (fiP m (npS σ) u.2.2 (trP1 t.2.1 T)).1.2.1 c x = t.2.1.1.2.1 c x := fun c x hc => fi_A (fun z => hc z.1)
    have rowc : ∀ c, 73 ≤ c → c ≤ 75 → t.2.1.1.2.1 c (h.2.1.1.1 4) = σv.1.2.1 c (h.2.1.1.1 4) := fun c q1 q2 => f41.1 c _ q1 q2 (by omega) (by omega)
    have tt := TTs.st (g' := max g g4) (lo' := (trS σ).1) b6 (by decide) (by omega) (by rw [tw]; exact th) h4 b1 gqu ((ak0.tr akv).tr (akt hj)) (by omega) (su (by omega)).2.2 (by rw [tw]; omega) (fun _ _ _ z => z) (fun _ => ⟨(fiA 73 _ (by decide)).trans ((rowc 73 (by decide) (by decide)).trans (o1 73 _ (by decide) (by decide) (by show h.2.1.1.1 4 < q.2.1.1.1 4; omega) (fun z => absurd z.1 (by decide)))), (fiA 74 _ (by decide)).trans ((rowc 74 (by decide) (by decide)).trans (o1 74 _ (by decide) (by decide) (by show h.2.1.1.1 4 < q.2.1.1.1 4; omega) (fun z => absurd z.1 (by decide)))), (fiA 70 _ (by decide)).trans ((f41.2 _ (by have := (TT.le _ _ _ _ _ _ _ _ _ _ _ _ _ _ _ _ (by decide) b6).2.2.2 (by decide); omega) (fun z => absurd o3' z)).trans (o2 _))⟩) (fun z => absurd z (by decide))
    have tt4 := TTs.st (g' := max g g4) (lo' := (trS σ).1) d6 (by decide) (by omega) (by rw [tv]; omega) h4 d1 gtu (akt hjv) hXt (su4 hXt).2.2 (by rw [tv]; omega) (fun _ _ _ z => z) (fun _ => ⟨fiA 73 _ (by decide), fiA 74 _ (by decide), fiA 70 _ (by decide)⟩) (fun z => absurd z (by decide))
    rw [w1, w2, w3, w4] at tt
    rw [y1, y2, tv] at tt4
    unfold TTs TT
    rw [if_neg (by decide), if_neg (by decide), if_pos rfl]
    refine ⟨tK b n i, u.2.2, [q.2.2, t.2.2], (trS t.2.1).2.1, false, rfl, pc, PkS.fi (ch_pk (l := Int32.ofNat h.2.2.1) (y := q.2.2) (z := t.2.2) kc (fun z => ?_) (fun z => ?_) ?_ (Or.inl rfl)), ?_, ?_, Or.inr (Or.inr ⟨hop, z4, p69, h.2.2.2.2.2, npS q.2.1, q.2.1.1.1 4, (trS q.2.1).2.1, q.2.2, tp, tt, Or.inr ⟨kc, ?_, ?_, t.2.2, rfl, tt4⟩⟩)⟩
    · have c0 : CdW (woS τ m t.2.1 γ3) m t.2.1.2.2.2.length (40 * m + npS σ) (Int32.ofNat h.2.2.1) := (x1 (Or.inl z)).fw a1 gwt (pt 62 (by decide) (by decide) (by decide)) (pt 63 (by decide) (by decide) (by decide))
      exact c0
    · obtain ⟨f, f1, f2, f3⟩ := x2 z
      refine ⟨f, Nat.lt_of_lt_of_le f1 gwt.len.2.2.1, ?_, ?_⟩
      · refine Eq.trans (d4 _ 4 hjv (fun z => absurd z (by decide))) ?_
        rw [y6]
        exact (b4 _ 4 hj (fun z => absurd z (by decide))).trans f2
      · obtain ⟨U, e5⟩ := gwt.2.2.2.2.1
        show (ifS t.2.1).getD f 0 = _
        rw [e5, gdA f1]
        exact f3
    · exact sc.st Sm.rf (by omega) (Nat.le_refl _)
    · unfold ltK
      rw [if_neg z3, if_neg z4]
      show (fiP m (npS σ) u.2.2 (trP1 t.2.1 T)).2.1.1 (npS σ) 2 = 0
      rw [fi_P (fun z => absurd z.2 (by decide))]
      exact pt2
    · show T.2.1 = _
      rw [mp, z1, z2]
    · rw [← w4]
      exact (fiA 75 _ (by decide)).trans ((rowc 75 (by decide) (by decide)).trans o4)
    · exact (fiA 75 _ (by decide)).trans (f42.trans o5)
end
end
section
/-! branches -/
section
variable {b : Nat → Int32} {n s m : Nat} {τ : Td}
theorem br_gi {σ : PS} {γ : Gh} {j a x : Nat} {g u : Int32} (hg : giT τ σ γ) (ha : okN1 σ a) (hx : okN1 σ x) (hne : a ≠ x) : ∃ γ1, giT τ (brP σ j a x g u) γ1 ∧ gfT (fun z => z = a) (fun z => z = x) σ γ (brP σ j a x g u) γ1 ∧ γ1.1 a = γ.1 a ++ [x] ∧ okN1 (brP σ j a x g u) a ∧ (trS (brP σ j a x g u)).1 = (trS σ).1 ∧ (trS (brP σ j a x g u)).2.1 = (trS σ).2.1 ∧ ifS (brP σ j a x g u) = ifS σ ∧ (∀ y f, ¬ (y = j ∧ f = 2) → (brP σ j a x g u).2.1.1 y f = σ.2.1.1 y f) ∧ (brP σ j a x g u).2.1.1 j 2 = if giS σ &&& (g ||| u) = 0 ∧ usS σ &&& g = 0 then σ.2.1.1 j 2 else 8 := by
  unfold brP
  have main : ∀ σ1 : PS, KcS σ σ1 → σ1.2.2.1 = σ.2.2.1 → ∃ γ1, giT τ (guP (hgP σ1 a x) (g ||| giS σ) (u ||| usS σ)) γ1 ∧ gfT (fun z => z = a) (fun z => z = x) σ γ (guP (hgP σ1 a x) (g ||| giS σ) (u ||| usS σ)) γ1 ∧ γ1.1 a = γ.1 a ++ [x] ∧ okN1 (guP (hgP σ1 a x) (g ||| giS σ) (u ||| usS σ)) a ∧ (trS (guP (hgP σ1 a x) (g ||| giS σ) (u ||| usS σ))).1 = (trS σ).1 ∧ (trS (guP (hgP σ1 a x) (g ||| giS σ) (u ||| usS σ))).2.1 = (trS σ).2.1 ∧ ifS (guP (hgP σ1 a x) (g ||| giS σ) (u ||| usS σ)) = ifS σ := by
    intro σ1 kc eX
    have e5 := kc.2.2.2.2
    obtain ⟨γ1, c1, c2, c3, c4, c5, c6⟩ := hg_gi (kc.gi hg) (a := a) (c := x) (by rw [e5]; exact ha.1) (by rw [e5]; exact hx.1) hne (by rw [e5]; exact ha.2) (by rw [e5]; exact hx.2)
    have gk : gfT (fun z => z = a) (fun z => z = x) σ γ σ1 γ := kc.gf ⟨[], by rw [eX, List.append_nil]⟩
    have kg : KcS (hgP σ1 a x) (guP (hgP σ1 a x) (g ||| giS σ) (u ||| usS σ)) := KcS.gu
    have gg : gfT (fun z => z = a) (fun z => z = x) (hgP σ1 a x) γ1 (guP (hgP σ1 a x) (g ||| giS σ) (u ||| usS σ)) γ1 := kg.gf ⟨[], (List.append_nil _).symm⟩
    refine ⟨γ1, kg.gi c1, (gk.tr c2 (fun _ _ _ z => z) (fun _ _ _ z => z)).tr gg (fun _ _ _ z => z) (fun _ _ _ z => z), c3, ⟨⟨ha.1.1, ?_⟩, c6⟩, ?_, ?_, kc.2.2.1⟩
    · show a < (trS (hgP σ1 a x)).1
      rw [c4, e5]; exact ha.1.2
    · show (trS (hgP σ1 a x)).1 = _
      rw [c4, e5]
    · show (trS (hgP σ1 a x)).2.1 = _
      rw [c5, e5]
  by_cases hc : giS σ &&& (g ||| u) = 0 ∧ usS σ &&& g = 0
  · rw [if_pos hc, if_pos hc]
    obtain ⟨γ1, h1, h2, h3, h4, h5, h6, h7⟩ := main σ KcS.rf rfl
    exact ⟨γ1, h1, h2, h3, h4, h5, h6, h7, fun _ _ _ => rfl, rfl⟩
  · rw [if_neg hc, if_neg hc]
    obtain ⟨γ1, h1, h2, h3, h4, h5, h6, h7⟩ := main (paP σ j 2 8) KcS.pa rfl
    exact ⟨γ1, h1, h2, h3, h4, h5, h6, h7, fun y f hy => up2_ne (fun z => hy z), up2_eq⟩
theorem t_c2b (hB : By b) (hS : Sto b n s) (h4 : m < 4) (hv : HvT τ) {K : List KE} {i : Nat} {σ : PS} {h : Nat × PS × Nat × Bool × Nat × Option Int64} {q : Nat × PS × Nat} (eo : okK (tK b n i) (tC b n i) K.length τ σ (tP b n i) = .ok ()) (k17 : tK b n i = 17) (eh : hdM b n m τ (tK b n i) (npS σ) (i + 1) K (bgP m (tK b n i) (tP b n i) (sqK K) K.length (whK (tK b n i) (tC b n i) τ) σ) = .ok h) (hH : Hd m (npS σ) (bgP m (tK b n i) (tP b n i) (sqK K) K.length (whK (tK b n i) (tC b n i) τ) σ) h.2.1) (R3 : RXE b n s m τ 3 K h.1 (rwP (40 * m + npS σ) none h.2.1) h.2.2.2.2.1 (npS σ) (h.2.1.1.1 4) 1 0 0 q) (p3 : P3T τ m K h.1 (rwP (40 * m + npS σ) none h.2.1) h.2.2.2.2.1 (npS σ) (h.2.1.1.1 4) 1 0 0 q) : P2T τ m K i σ (q.1, fiP m (npS σ) q.2.2 (guP q.2.1 (giS σ ||| giS q.2.1) (usS σ ||| usS q.2.1)), q.2.2) := by
  intro γ hg hi h6 hX
  have h6 : (trS q.2.1).1 ≤ 600 := h6
  have hX : q.2.1.2.2.1.length < 900 := hX
  have hop : opnK (tK b n i) = true := by rw [k17]; decide
  have t1 := hg.1.1.1
  have th : (trS σ).1 ≤ (trS h.2.1).1 := hH.2.2.2 t1
  have su := R3.x3 hS h4 hv hX
  obtain ⟨-, ⟨v0, -, -, -⟩, -⟩ := R3.1
  have tw : trS (rwP (40 * m + npS σ) none h.2.1) = trS h.2.1 := rfl
  have lw : (trS h.2.1).1 ≤ (trS q.2.1).1 := v0.2.2.2.2 (by rw [tw]; omega)
  obtain ⟨γ1, a1, a2, a3, a4, ⟨w1, w2, w3, w4⟩, a6, a7, ⟨a8, a9⟩, tp, x1, x2, x3, x4, x5, x6⟩ := t_hd hB hv hop eh hH hg hi (by omega)
  clear eh hH
  generalize rwP (40 * m + npS σ) none h.2.1 = σw at R3 p3 su v0 tw a1 a2 a3 a4 w1 w2 w3 a6 a7 a8 a9 x1 x2 x3 x4 x5 x6
  obtain ⟨y1, y2⟩ := x4 (Or.inr k17)
  obtain ⟨y3, y4, y5⟩ := x5 k17
  obtain ⟨γ2, g, T, fl, b1, b2, b3, b4, ⟨b5, b5'⟩, b6, b7, b8⟩ := p3 γ1 a1 a3 h6 hX y2 (by rw [w4]; exact a8) (by rw [w4]; exact a9)
  have hB0 : 40 * m + npS σ < 40 * m + npS σw := by omega
  have hj : npS σ < npS σw := by omega
  have bq : BgS m (tK b n i) (npS σ) (σ.1.1 4) q.2.1 := a6.pv v0 hB0 (b4 _ 0 hj (fun z => absurd z (by decide)))
  have nda := b2.nd y2.1
  have kf : KcS q.2.1 (fiP m (npS σ) q.2.2 (guP q.2.1 (giS σ ||| giS q.2.1) (usS σ ||| usS q.2.1))) := ⟨rfl, rfl, rfl, rfl, rfl⟩
  have gf : ∀ {O H : Nat → Prop}, gfT O H q.2.1 γ2 (fiP m (npS σ) q.2.2 (guP q.2.1 (giS σ ||| giS q.2.1) (usS σ ||| usS q.2.1))) γ2 := kf.gf ⟨[], (List.append_nil _).symm⟩
  refine ⟨γ2, g + 1, kf.gi b1, ?_, b3, fun x f h1 h2 => ?_, ⟨by rw [b5]; exact y1, by rw [b5]; exact b5'.1.2, by rw [b5]; exact b5'.2⟩, ?_⟩
  · refine (a2.tr b2 (fun y _ hy z => ?_) (fun _ _ _ z => z)).tr gf (fun _ _ _ z => z) (fun _ _ _ z => z)
    have z : y = h.2.2.2.2.1 := z
    omega
  · show up2 q.2.1.2.1.1 (npS σ) 1 _ x f = _
    rw [up2_ne (fun z => by omega), b4 x f (by omega) (fun _ z => by cases z; omega), a4 x f h1 h2]
  · have bu : BgS m (tK b n i) (npS σ) (σ.1.1 4) (guP q.2.1 (giS σ ||| giS q.2.1) (usS σ ||| usS q.2.1)) := bq
    obtain ⟨pc, p69⟩ := bu.pc (τ := τ) (x := q.2.2) (γ := γ2) (okK_ok eo).2.1
    have b7 : TTs τ m q.2.1 γ2 (trS σw).1 g 3 K (npS σ) (h.2.1.1.1 4) 1 0 0 fl (npS σw) (npS q.2.1) (σw.1.1 4) (q.2.1.1.1 4) (trS σw).2.1 (trS q.2.1).2.1 T := b7
    have fiA : ∀ c x, c ≠ 71 → (fiP m (npS σ) q.2.2 (guP q.2.1 (giS σ ||| giS q.2.1) (usS σ ||| usS q.2.1))).1.2.1 c x = q.2.1.1.2.1 c x := fun c x hc => fi_A (fun z => hc z.1)
    have ak : AKp m (npS σw) (npS q.2.1) (σw.1.1 4) (q.2.1.1.1 4) q.2.1 (fiP m (npS σ) q.2.2 (guP q.2.1 (giS σ ||| giS q.2.1) (usS σ ||| usS q.2.1))) := AKp.tr (σ1 := guP q.2.1 (giS σ ||| giS q.2.1) (usS σ ||| usS q.2.1)) (AKp.of rfl rfl) (AKp.fi (Or.inl hj))
    have tt := TTs.st (O := noN) (H := noN) (g' := g) (lo' := (trS σ).1) b7 (by decide) (Nat.le_refl _) (by rw [tw]; exact th) h4 b1 gf ak hX su.2.2 (by rw [tw]; omega) (fun _ _ _ z => z) (fun z => absurd z (by decide)) (fun _ => ⟨fun c q1 q2 => fiA c _ (by omega), fiA 70 _ (by decide)⟩)
    rw [w1, w2, w3, w4] at tt
    have hp0 : hpK (tK b n i) = 0 := by rw [k17]; decide
    have pa0 : paK (tK b n i) = 0 := by rw [k17]; decide
    rw [hp0] at tt
    unfold TTs TT
    rw [if_neg (by decide), if_neg (by decide), if_pos rfl]
    refine ⟨tK b n i, q.2.2, T.map Prod.snd, (trS q.2.1).2.1, fl, rfl, pc, ?_, ?_, ?_, Or.inr (Or.inl ⟨k17, p69, T, rfl, tt⟩)⟩
    · refine PkS.fi ?_
      unfold PkS
      rw [k17, if_neg (by decide), if_neg (by decide), if_neg (by decide), if_neg (by decide), if_neg (by decide), if_neg (by decide), if_neg (by decide), if_neg (by decide), if_neg (by decide), if_neg (by decide), if_neg (by decide), if_neg (by decide), if_neg (by decide), if_neg (by decide), if_pos rfl, b5]
      refine ⟨⟨y1, b5'.1.2⟩, nda.1.1.trans y3, nda.1.2.1.trans y4, ?_⟩
      have e : γ2.1 h.2.2.2.2.1 = T.map Prod.snd := by rw [b6, y5]; rfl
      exact e
    · unfold ltK
      rw [if_neg (by rw [k17]; decide), if_pos k17]
      show (fiP m (npS σ) q.2.2 (guP q.2.1 (giS σ ||| giS q.2.1) (usS σ ||| usS q.2.1))).2.1.1 (npS σ) 2 = _
      rw [fi_P (fun z => absurd z.2 (by decide))]
      show q.2.1.2.1.1 (npS σ) 2 = _
      rw [b8, a7]
    · show (trS q.2.1).2.1 = _
      rw [pa0, hp0]
      rfl
end
end
section
/-! branches, one after another; the whole reading as a tree -/
section
variable {b : Nat → Int32} {n s m : Nat} {τ : Td}
theorem fl_if {A B : Prop} [Decidable A] [Decidable B] {f : Bool} {v w x : Int32} (h1 : w = if A ∧ B then v else 8) (h2 : x = if f = true then 8 else w) : x = if (!decide (A ∧ B) || f) = true then 8 else v := by
  by_cases hc : A ∧ B
  · rw [if_pos hc] at h1
    cases f with
    | true => rw [h2, if_pos rfl, if_pos (by simp)]
    | false => rw [h2, if_neg (by decide), h1, if_neg (by simp [hc])]
  · rw [if_neg hc] at h1
    cases f with
    | true => rw [h2, if_pos rfl, if_pos (by simp)]
    | false => rw [h2, if_neg (by decide), h1, if_pos (by simp [hc])]
theorem t_c3e (hS : Sto b n s) (h4 : m < 4) (hv : HvT τ) {K : List KE} {i a1 a2 a3 a4 : Nat} {c1 c2 : Int32} {σ : PS} {q : Nat × PS × Nat} (hR : RXE b n s m τ 3 K i σ a1 a2 a3 a4 c1 c2 (q.1 + 1, brP q.2.1 a2 a1 q.2.2 c1 c2, a1)) (R0 : RXE b n s m τ 0 ((40 * m + a2, a3, a4, none) :: K) i (guP σ 0 0) 0 0 0 0 0 0 q) (p0 : P0T τ m ((40 * m + a2, a3, a4, none) :: K) i (guP σ 0 0) q) : P3T τ m K i σ a1 a2 a3 a4 c1 c2 (q.1 + 1, brP q.2.1 a2 a1 q.2.2 c1 c2, a1) := by
  intro γ hg hi h6 hX ha h73 h75
  have bn := br_n (σ := q.2.1) (j := a2) (a := a1) (x := q.2.2) (g := c1) (u := c2)
  have h6 : (trS (brP q.2.1 a2 a1 q.2.2 c1 c2)).1 ≤ 600 := h6
  rw [bn.2] at h6
  have eX : (brP q.2.1 a2 a1 q.2.2 c1 c2).2.2.1 = q.2.1.2.2.1 := by unfold brP; split <;> rfl
  have hX : (brP q.2.1 a2 a1 q.2.2 c1 c2).2.2.1.length < 900 := hX
  rw [eX] at hX
  obtain ⟨⟨-, -, -, -, -, g3, -⟩, -⟩ := hR.1
  obtain ⟨-, -, ha2⟩ := g3 rfl
  have t1 := hg.1.1.1
  have kg : KcS σ (guP σ 0 0) := KcS.gu
  have gg : gfT noN noN σ γ (guP σ 0 0) γ := kg.gf ⟨[], (List.append_nil _).symm⟩
  obtain ⟨γ1, g, b1, b2, b3, b4, ⟨b51, b52, b53⟩, b6⟩ := p0 γ (kg.gi hg) hi h6 hX h73
  have b51 : (trS σ).1 ≤ q.2.2 := b51
  have b4 : PaF (npS σ) none σ q.2.1 := b4
  have b6 : TTs τ m q.2.1 γ1 (trS σ).1 g 0 ((40 * m + a2, a3, a4, none) :: K) 0 0 0 0 0 false (npS σ) (npS q.2.1) (σ.1.1 4) (q.2.1.1.1 4) (trS σ).2.1 (trS q.2.1).2.1 [(0, q.2.2)] := b6
  have b2 : gfT noN noN σ γ q.2.1 γ1 := gg.tr b2 (fun _ _ _ z => z) (fun _ _ _ z => z)
  obtain ⟨-, f75, -⟩ := R0.g0 hS h4 h73
  have f75 : q.2.1.1.2.1 75 a3 = σ.1.2.1 75 a3 := f75
  obtain ⟨s1, s2, s3⟩ := R0.x0 hS h4 hv hX
  have s1 : giS q.2.1 = orF (gvK q.2.1.1.2.1 m) (npS σ) (npS q.2.1) := by rw [s1]; exact Int32.zero_or
  have s2 : usS q.2.1 = orF (uvK q.2.1.1.2.1 q.2.1.2.2.1 m) (npS σ) (npS q.2.1) := by rw [s2]; exact Int32.zero_or
  have nda := b2.nd ha.1
  obtain ⟨γ2, d1, d2, d3, d4, d5, d6, d7, d8, d9⟩ := br_gi (j := a2) (g := c1) (u := c2) (a := a1) (x := q.2.2) b1 ⟨⟨ha.1.1, nda.1.2.2⟩, (nda.2.2 (fun z => z)).trans ha.2⟩ ⟨⟨by omega, b52⟩, b53⟩ (by have := ha.1.2; omega)
  refine ⟨γ2, g + 1, [(a3, q.2.2)], !decide (giS q.2.1 &&& (c1 ||| c2) = 0 ∧ usS q.2.1 &&& c1 = 0), d1, ?_, ?_, fun x f h1 h2 => ?_, ⟨rfl, d4⟩, ?_, ?_, ?_⟩
  · refine (b2.more (O1 := fun z => z = a1) (fun _ _ _ z => z.elim) (fun _ _ _ z => z)).tr d2 (fun _ _ _ z => z) (fun y _ hy z => ?_)
    have z : y = q.2.2 := z
    omega
  · show (ifS (brP q.2.1 a2 a1 q.2.2 c1 c2)).length = (brP q.2.1 a2 a1 q.2.2 c1 c2).1.1 2
    rw [d7, bn.1, b3]
  · show (brP q.2.1 a2 a1 q.2.2 c1 c2).2.1.1 x f = _
    rw [d8 x f (fun z => h2 z.2 (by rw [z.1])), b4 x f h1 (fun _ z => by cases z)]
  · rw [d3, nda.2.1 (fun z => z)]; rfl
  · have ak : AKp m (npS σ) (npS q.2.1) (σ.1.1 4) (q.2.1.1.1 4) q.2.1 (brP q.2.1 a2 a1 q.2.2 c1 c2) := ⟨fun _ _ _ _ _ _ _ => by rw [bn.1], fun _ _ _ => by rw [bn.1], fun _ _ _ _ _ _ => by rw [bn.1], fun x f z1 z2 => d8 x f (fun z => by omega)⟩
    have tt := TTs.st (g' := g) (lo' := (trS σ).1) b6 (by decide) (Nat.le_refl _) (Nat.le_refl _) h4 b1 d2 ak hX s3 t1 (fun y z1 z2 z => by
      have z : y = a1 := z
      have := ha.1.2
      omega) (fun _ => ⟨by rw [bn.1], by rw [bn.1], by rw [bn.1]⟩) (fun z => absurd z (by decide))
    have eg : orF (gvK (brP q.2.1 a2 a1 q.2.2 c1 c2).1.2.1 m) (npS σ) (npS q.2.1) = giS q.2.1 := by rw [bn.1, s1]
    have eu : orF (uvK (brP q.2.1 a2 a1 q.2.2 c1 c2).1.2.1 (brP q.2.1 a2 a1 q.2.2 c1 c2).2.2.1 m) (npS σ) (npS q.2.1) = usS q.2.1 := by rw [bn.1, eX, s2]
    unfold TTs TT
    rw [if_neg (by decide), if_neg (by decide), if_neg (by decide)]
    refine ⟨npS q.2.1, q.2.1.1.1 4, (trS q.2.1).2.1, q.2.2, tt, Or.inl ⟨rfl, ?_, ?_, ?_, ?_, ?_⟩⟩
    · show npS (brP q.2.1 a2 a1 q.2.2 c1 c2) = _
      unfold npS; rw [bn.1]
    · show (brP q.2.1 a2 a1 q.2.2 c1 c2).1.1 4 = _
      rw [bn.1]
    · exact d6
    · show (brP q.2.1 a2 a1 q.2.2 c1 c2).1.2.1 75 a3 = -1
      rw [bn.1, f75]; exact h75
    · have eg : woG (woS τ m (brP q.2.1 a2 a1 q.2.2 c1 c2) γ2) (npS σ) (npS q.2.1) = giS q.2.1 := eg
      have eu : woU (woS τ m (brP q.2.1 a2 a1 q.2.2 c1 c2) γ2) (npS σ) (npS q.2.1) = usS q.2.1 := eu
      rw [eg, eu]
  · refine Eq.trans (fl_if (f := false) (x := (brP q.2.1 a2 a1 q.2.2 c1 c2).2.1.1 a2 2) d9 (by rw [if_neg (by decide)])) ?_
    rw [Bool.or_false, b4 a2 2 ha2 (fun _ z => by cases z)]
theorem t_c3m (hS : Sto b n s) (h4 : m < 4) (hv : HvT τ) {K : List KE} {i a1 a2 a3 a4 : Nat} {c1 c2 : Int32} {σ : PS} {q r : Nat × PS × Nat} (hR : RXE b n s m τ 3 K i σ a1 a2 a3 a4 c1 c2 r) (R0 : RXE b n s m τ 0 ((40 * m + a2, a3, a4, none) :: K) i (guP σ 0 0) 0 0 0 0 0 0 q) (p0 : P0T τ m ((40 * m + a2, a3, a4, none) :: K) i (guP σ 0 0) q) (R3 : RXE b n s m τ 3 K (q.1 + 1) (rwP (40 * m + a2) (some a3) (brP q.2.1 a2 a1 q.2.2 c1 c2)) a1 a2 (q.2.1.1.1 4) (a4 + 1) (c1 ||| giS q.2.1) (c2 ||| usS q.2.1) r) (p3 : P3T τ m K (q.1 + 1) (rwP (40 * m + a2) (some a3) (brP q.2.1 a2 a1 q.2.2 c1 c2)) a1 a2 (q.2.1.1.1 4) (a4 + 1) (c1 ||| giS q.2.1) (c2 ||| usS q.2.1) r) (hXq : q.2.1.2.2.1.length ≤ r.2.1.2.2.1.length) : P3T τ m K i σ a1 a2 a3 a4 c1 c2 r := by
  intro γ hg hi h6 hX ha h73 h75
  have bn := br_n (σ := q.2.1) (j := a2) (a := a1) (x := q.2.2) (g := c1) (u := c2)
  have eX : (brP q.2.1 a2 a1 q.2.2 c1 c2).2.2.1 = q.2.1.2.2.1 := by unfold brP; split <;> rfl
  obtain ⟨⟨-, -, -, -, -, g3, -⟩, -⟩ := hR.1
  obtain ⟨-, ha3, ha2⟩ := g3 rfl
  have t1 := hg.1.1.1
  have kg : KcS σ (guP σ 0 0) := KcS.gu
  have gg : gfT noN noN σ γ (guP σ 0 0) γ := kg.gf ⟨[], (List.append_nil _).symm⟩
  obtain ⟨-, ⟨v0, pq, -, -⟩, -⟩ := R0.1
  have hn : npS σ ≤ npS q.2.1 := v0.1
  have hr4 : σ.1.1 4 ≤ q.2.1.1.1 4 := v0.2.1
  have lq : (trS σ).1 ≤ (trS q.2.1).1 := v0.2.2.2.2 t1
  obtain ⟨-, ⟨v3, -, -, -⟩, -⟩ := R3.1
  have tv : (trS (rwP (40 * m + a2) (some a3) (brP q.2.1 a2 a1 q.2.2 c1 c2))).1 = (trS q.2.1).1 := bn.2
  have lr : (trS q.2.1).1 ≤ (trS r.2.1).1 := by
    have := v3.2.2.2.2 (by rw [tv]; omega)
    rw [tv] at this
    exact this
  have hXq' : q.2.1.2.2.1.length < 900 := by omega
  obtain ⟨γ1, g, b1, b2, b3, b4, ⟨b51, b52, b53⟩, b6⟩ := p0 γ (kg.gi hg) hi (by omega) hXq' h73
  have b51 : (trS σ).1 ≤ q.2.2 := b51
  have b4 : PaF (npS σ) none σ q.2.1 := b4
  have b6 : TTs τ m q.2.1 γ1 (trS σ).1 g 0 ((40 * m + a2, a3, a4, none) :: K) 0 0 0 0 0 false (npS σ) (npS q.2.1) (σ.1.1 4) (q.2.1.1.1 4) (trS σ).2.1 (trS q.2.1).2.1 [(0, q.2.2)] := b6
  have b2 : gfT noN noN σ γ q.2.1 γ1 := gg.tr b2 (fun _ _ _ z => z) (fun _ _ _ z => z)
  obtain ⟨s1, s2, s3⟩ := R0.x0 hS h4 hv hXq'
  have s1 : giS q.2.1 = orF (gvK q.2.1.1.2.1 m) (npS σ) (npS q.2.1) := by rw [s1]; exact Int32.zero_or
  have s2 : usS q.2.1 = orF (uvK q.2.1.1.2.1 q.2.1.2.2.1 m) (npS σ) (npS q.2.1) := by rw [s2]; exact Int32.zero_or
  have nda := b2.nd ha.1
  obtain ⟨γ2, d1, d2, d3, d4, d5, d6, d7, d8, d9⟩ := br_gi (j := a2) (g := c1) (u := c2) (a := a1) (x := q.2.2) b1 ⟨⟨ha.1.1, nda.1.2.2⟩, (nda.2.2 (fun z => z)).trans ha.2⟩ ⟨⟨by omega, b52⟩, b53⟩ (by have := ha.1.2; omega)
  obtain ⟨o1, o2, o3⟩ := rs_lk (σ := brP q.2.1 a2 a1 q.2.2 c1 c2) (p := 40 * m + a2) (q := a3)
  obtain ⟨y1, y2, y3⟩ := rw_n (σ := brP q.2.1 a2 a1 q.2.2 c1 c2) (p := 40 * m + a2) (q0 := some a3)
  have y2 : (rwP (40 * m + a2) (some a3) (brP q.2.1 a2 a1 q.2.2 c1 c2)).1.1 4 = q.2.1.1.1 4 + 1 := by rw [y2, bn.1]
  have y1 : npS (rwP (40 * m + a2) (some a3) (brP q.2.1 a2 a1 q.2.2 c1 c2)) = npS q.2.1 := by rw [y1]; unfold npS; rw [bn.1]
  have f3 := R3.g3 hS h4
  have kw : KcS (brP q.2.1 a2 a1 q.2.2 c1 c2) (rwP (40 * m + a2) (some a3) (brP q.2.1 a2 a1 q.2.2 c1 c2)) := KcS.rw
  have gw : gfT noN noN (brP q.2.1 a2 a1 q.2.2 c1 c2) γ2 (rwP (40 * m + a2) (some a3) (brP q.2.1 a2 a1 q.2.2 c1 c2)) γ2 := kw.gf ⟨[], (List.append_nil _).symm⟩
  have o4 : (rwP (40 * m + a2) (some a3) (brP q.2.1 a2 a1 q.2.2 c1 c2)).1.2.1 75 a3 = Int32.ofNat (q.2.1.1.1 4) := by
    refine Eq.trans (b := Int32.ofNat ((brP q.2.1 a2 a1 q.2.2 c1 c2).1.1 4)) up2_eq ?_
    rw [bn.1]
  have o5 : (rwP (40 * m + a2) (some a3) (brP q.2.1 a2 a1 q.2.2 c1 c2)).1.2.1 75 (q.2.1.1.1 4) = -1 := by
    show up2 (up2 (up2 (up2 (brP q.2.1 a2 a1 q.2.2 c1 c2).1.2.1 73 ((brP q.2.1 a2 a1 q.2.2 c1 c2).1.1 4) (-1)) 74 ((brP q.2.1 a2 a1 q.2.2 c1 c2).1.1 4) (-1)) 75 ((brP q.2.1 a2 a1 q.2.2 c1 c2).1.1 4) (-1)) 75 a3 _ 75 (q.2.1.1.1 4) = -1
    rw [up2_ne (fun z => by omega), bn.1, up2_eq]
  have y5 : (rwP (40 * m + a2) (some a3) (brP q.2.1 a2 a1 q.2.2 c1 c2)).1.1 2 = q.2.1.1.1 2 := by
    have : (rwP (40 * m + a2) (some a3) (brP q.2.1 a2 a1 q.2.2 c1 c2)).1.1 2 = (brP q.2.1 a2 a1 q.2.2 c1 c2).1.1 2 := by simp [rwP, va_up]
    rw [this, bn.1]
  have y6 : (rwP (40 * m + a2) (some a3) (brP q.2.1 a2 a1 q.2.2 c1 c2)).2.1.1 = (brP q.2.1 a2 a1 q.2.2 c1 c2).2.1.1 := rfl
  have y7 : trS (rwP (40 * m + a2) (some a3) (brP q.2.1 a2 a1 q.2.2 c1 c2)) = trS (brP q.2.1 a2 a1 q.2.2 c1 c2) := rfl
  have y8 : ifS (rwP (40 * m + a2) (some a3) (brP q.2.1 a2 a1 q.2.2 c1 c2)) = ifS (brP q.2.1 a2 a1 q.2.2 c1 c2) := rfl
  have akb : AKp m (npS σ) (npS q.2.1) (σ.1.1 4) (q.2.1.1.1 4) q.2.1 (brP q.2.1 a2 a1 q.2.2 c1 c2) := ⟨fun _ _ _ _ _ _ _ => by rw [bn.1], fun _ _ _ => by rw [bn.1], fun _ _ _ _ _ _ => by rw [bn.1], fun x f z1 z2 => d8 x f (fun z => by omega)⟩
  have akw : AKp m (npS σ) (npS q.2.1) (σ.1.1 4) (q.2.1.1.1 4) (brP q.2.1 a2 a1 q.2.2 c1 c2) (rwP (40 * m + a2) (some a3) (brP q.2.1 a2 a1 q.2.2 c1 c2)) := AKp.rs (Or.inl ha3) (by rw [bn.1]; exact Nat.le_refl _)
  have o1' : ∀ c, c = 73 ∨ c = 74 → (rwP (40 * m + a2) (some a3) (brP q.2.1 a2 a1 q.2.2 c1 c2)).1.2.1 c a3 = q.2.1.1.2.1 c a3 := fun c hc => by rw [o1 c a3 (by omega) (by omega) (by rw [bn.1]; omega) (fun z => by omega), bn.1]
  have o2' : ∀ x, (rwP (40 * m + a2) (some a3) (brP q.2.1 a2 a1 q.2.2 c1 c2)).1.2.1 70 x = q.2.1.1.2.1 70 x := fun x => by rw [o2, bn.1]
  have o3' : (rwP (40 * m + a2) (some a3) (brP q.2.1 a2 a1 q.2.2 c1 c2)).1.2.1 73 (q.2.1.1.1 4) = -1 := by rw [bn.1] at o3; exact o3
  have gi3 := kw.gi d1
  have gb3 : gfT (fun z => z = a1) (fun z => z = q.2.2) q.2.1 γ1 (rwP (40 * m + a2) (some a3) (brP q.2.1 a2 a1 q.2.2 c1 c2)) γ2 := d2.tr gw (fun _ _ _ z => z.elim) (fun _ _ _ z => z.elim)
  clear o1 o2 o3 gw kw y3
  generalize rwP (40 * m + a2) (some a3) (brP q.2.1 a2 a1 q.2.2 c1 c2) = σv at R3 p3 v3 tv f3 y1 y2 y5 y6 y7 y8 akw o1' o2' o3' o4 o5 gi3 gb3
  obtain ⟨γ3, g3, T, fl, e1, e2, e3, e4, e5, e6, e7, e8⟩ := p3 γ2 gi3 (by rw [y8, d7, b3, y5]) h6 hX ⟨⟨d4.1.1, by rw [y7]; exact d4.1.2⟩, by rw [y7]; exact d4.2⟩ o3' o5
  have f3 : FrK σv.1.2.1 r.2.1.1.2.1 (40 * m + npS σv) (σv.1.1 4) (q.2.1.1.1 4) := f3 o3'
  have gqr : gfT (fun z => z = a1) (fun z => z = q.2.2) q.2.1 γ1 r.2.1 γ3 := gb3.tr e2 (fun _ _ _ z => z) (fun _ _ _ z => z.elim)
  have ak : AKp m (npS σ) (npS q.2.1) (σ.1.1 4) (q.2.1.1.1 4) q.2.1 r.2.1 := (akb.tr akw).tr (AKp.pc v3 f3 (fun x f h1 h2 => e4 x f (by omega) (fun _ z => by cases z; omega)) (by omega) (by omega) (by omega) (Or.inr (Nat.le_refl _)) (fun z => absurd o3' z))
  have ws := WSt.of h4 b1 gqr ak hXq' s3 t1 (Nat.le_refl _) (fun y z1 z2 z => by
    have z : y = a1 := z
    have := ha.1.2
    omega)
  have hlt := (TT.le _ _ _ _ _ _ _ _ _ _ _ _ _ _ _ _ (by decide) b6).2.2.2 (by decide)
  refine ⟨γ3, max g g3 + 1, (a3, q.2.2) :: T, !decide (giS q.2.1 &&& (c1 ||| c2) = 0 ∧ usS q.2.1 &&& c1 = 0) || fl, e1, ?_, e3, fun x f h1 h2 => ?_, e5, ?_, ?_, ?_⟩
  · refine (b2.more (O1 := fun z => z = a1) (fun _ _ _ z => z.elim) (fun _ _ _ z => z)).tr gqr (fun _ _ _ z => z) (fun y _ hy z => ?_)
    have z : y = q.2.2 := z
    omega
  · rw [e4 x f (by omega) h2, y6, d8 x f (fun z => h2 z.2 (by rw [z.1])), b4 x f h1 (fun _ z => by cases z)]
  · rw [e6, d3, nda.2.1 (fun z => z), List.append_assoc]; rfl
  · have l := gqr.len
    have tt := TT.mo _ (max g g3) _ _ _ _ _ _ _ _ _ _ _ _ _ _ _ (by omega) (TT.st (lo' := (trS σ).1) l.2.1 l.2.2.1 (Nat.le_refl _) l.1 _ _ _ _ _ _ _ _ _ _ _ _ _ _ _ _ (by decide) b6 ws (fun _ => ⟨(f3.1 73 a3 (by decide) (by decide) (by omega) (by omega)).trans (o1' 73 (Or.inl rfl)), (f3.1 74 a3 (by decide) (by decide) (by omega) (by omega)).trans (o1' 74 (Or.inr rfl)), (f3.2 _ (by omega) (fun z => absurd o3' z)).trans (o2' _)⟩) (fun z => absurd z (by decide)))
    obtain ⟨-, -, -, -, -, -, -, -, -, wgu⟩ := ws
    obtain ⟨eg, eu⟩ := wgu (npS σ) (npS q.2.1) (Nat.le_refl _) (Nat.le_refl _)
    have eg : woG (woS τ m r.2.1 γ3) (npS σ) (npS q.2.1) = giS q.2.1 := eg.trans s1.symm
    have eu : woU (woS τ m r.2.1 γ3) (npS σ) (npS q.2.1) = usS q.2.1 := eu.trans s2.symm
    have e7 : TT (woS τ m r.2.1 γ3) m r.2.1.2.2.2.length (ifS r.2.1).length (trS σv).1 (trS r.2.1).1 g3 3 K a2 (q.2.1.1.1 4) (a4 + 1) (c1 ||| giS q.2.1) (c2 ||| usS q.2.1) fl (npS σv) (npS r.2.1) (σv.1.1 4) (r.2.1.1.1 4) (trS σv).2.1 (trS r.2.1).2.1 T := e7
    have t7 := e7.wd (g' := max g g3) (lo' := (trS σ).1) (by decide) (by omega) (Nat.le_refl _) (Nat.le_refl _) (by omega) (Nat.le_refl _)
    rw [y1, y2, y7, d6] at t7
    unfold TTs TT
    rw [if_neg (by decide), if_neg (by decide), if_neg (by decide)]
    refine ⟨npS q.2.1, q.2.1.1.1 4, (trS q.2.1).2.1, q.2.2, tt, Or.inr ⟨T, fl, rfl, ?_, ?_, ?_⟩⟩
    · exact (f3.1 75 a3 (by decide) (by decide) (by omega) (by omega)).trans o4
    · rw [eg, eu]
    · rw [eg, eu]; exact t7
  · refine fl_if (w := (brP q.2.1 a2 a1 q.2.2 c1 c2).2.1.1 a2 2) ?_ ?_
    · rw [d9, b4 a2 2 ha2 (fun _ z => by cases z)]
    · rw [e8, y6]
theorem ch_x {lit x y i : Nat} {σ : PS} {u : Nat × PS × Nat} (e : chM b n lit x y i σ = .ok u) : u.2.1.2.2.1 = σ.2.2.1 := by
  unfold chM at e
  obtain ⟨i2, -, e⟩ := bind_ok e
  generalize chT (trS σ) (Int32.ofNat lit) x y = R at e
  cases e
  rfl
/-- a reading of parts is a tree -/
theorem rp_tree (hB : By b) (hS : Sto b n s) (h4 : m < 4) (hv : HvT τ) : ∀ g, (∀ K i σ r, i ≤ s ∧ tK b n i ≠ 0 ∧ RpI m 0 K σ 0 0 → rp b n m τ g 0 K i σ 0 0 0 0 0 0 = .ok r → P0T τ m K i σ r) := by
  have mo : ∀ {md : Nat} {K : List KE} {i : Nat} {σ : PS} {a1 a2 a3 a4 : Nat} {c1 c2 : Int32} {r : Nat × PS × Nat}, md ≤ 3 → (md = 3 ∨ (a2 = 0 ∧ a3 = 0 ∧ a4 = 0 ∧ c1 = 0 ∧ c2 = 0 ∧ (md = 1 ∨ a1 = 0))) → RXE b n s m τ md K i σ a1 a2 a3 a4 c1 c2 r → r.2.1.2.2.1.length < 900 → σ.2.2.1.length ≤ r.2.1.2.2.1.length := by
    intro md K i σ a1 a2 a3 a4 c1 c2 r hm hz h hX
    obtain ⟨g, e⟩ := h.2
    have gq : ∃ Y, r.2.1.2.2.1 = σ.2.2.1 ++ Y := by
      have q := rp_X (τ := τ) hS h4 hv g
      rcases hz with z | ⟨z2, z3, z4, z5, z6, z7⟩
      · subst z
        exact (q.2.2.2 K i σ a1 a2 a3 a4 c1 c2 r h.1.1 e hX).1
      · subst z2; subst z3; subst z4; subst z5; subst z6
        have : md = 0 ∨ md = 1 ∨ md = 2 ∨ md = 3 := by omega
        rcases this with y | y | y | y
        · subst y
          have : a1 = 0 := by omega
          subst this
          exact (q.1 K i σ r h.1.1 e hX).1
        · subst y
          exact (q.2.1 K i σ a1 r h.1.1 e hX).1
        · subst y
          have : a1 = 0 := by omega
          subst this
          exact (q.2.2.1 K i σ r h.1.1 e hX).1
        · subst y
          exact (q.2.2.2 K i σ a1 0 0 0 0 0 r h.1.1 e hX).1
    obtain ⟨Y, ey⟩ := gq
    rw [ey, List.length_append]
    omega
  have all := rp_indE (b := b) (n := n) (s := s) (m := m) (τ := τ) hS (P0T τ m) (P2T τ m) (P1T τ m) (P3T τ m) ?_ ?_ ?_ ?_ ?_ ?_ ?_ ?_ ?_ ?_
  · exact fun g => (all g).1
  · intro K i σ q r hR R2 p2 R1 p1 γ hg hi h6 hX
    have l : (hgP q.2.1 (mkT (trS σ) 5).2 q.2.2).2.2.1.length ≤ r.2.1.2.2.1.length := mo (md := 1) (by decide) (Or.inr ⟨rfl, rfl, rfl, rfl, rfl, Or.inl rfl⟩) R1 hX
    exact t_c0 hS h4 hv hR R2 p2 R1 p1 l γ hg hi h6 hX
  · intro K i σ a1 q r k13 hR R2 p2 R1 p1 γ x hg hi h6 hX
    have l : (hgP q.2.1 a1 q.2.2).2.2.1.length ≤ r.2.1.2.2.1.length := mo (md := 1) (by decide) (Or.inr ⟨rfl, rfl, rfl, rfl, rfl, Or.inl rfl⟩) R1 hX
    exact t_c1m hS h4 hv R2 p2 R1 p1 l γ x hg hi h6 hX
  · intro K i σ a1 k13 hR
    exact t_c1e
  · intro K i σ u eo ko el hH hR
    exact t_c2l hB hv hR.1.1.2.2.2.1 eo ko el hH
  · intro K i σ h q eo k17 eh hH R3 p3 hR
    exact t_c2b hB hS h4 hv eo k17 eh hH R3 p3
  · intro K i σ h q u eo hop k17 kc eh hH R0 p0 et hN hR
    exact t_c2t hB hS h4 hv eo hop k17 kc eh hH R0 p0 et hN
  · intro K i σ h q t u eo hop kc eh hH R0 p0 k46 R4 p4 ec hN hR γ hg hi h6 hX
    have hX' : t.2.1.2.2.1.length < 900 := by
      have e := (ch_x ec)
      have hX : u.2.1.2.2.1.length < 900 := hX
      rw [e] at hX
      exact hX
    have l : (rwP (40 * m + npS σ) (some (h.2.1.1.1 4)) q.2.1).2.2.1.length ≤ t.2.1.2.2.1.length := mo (md := 0) (by decide) (Or.inr ⟨rfl, rfl, rfl, rfl, rfl, Or.inr rfl⟩) R4 hX'
    exact t_c2e hB hS h4 hv eo hop kc eh hH R0 p0 R4 p4 ec l γ hg hi h6 hX
  · intro K i σ h q u eo hop kc eh hH R0 p0 k46 ec hN hR
    exact t_c2n hB hS h4 hv eo hop kc eh hH R0 p0 ec
  · intro K i σ a1 a2 a3 a4 c1 c2 q r hR R0 p0 k6 k8 R3 p3 γ hg hi h6 hX
    refine t_c3m hS h4 hv hR R0 p0 R3 p3 ?_ γ hg hi h6 hX
    have := mo (by decide) (Or.inl rfl) R3 hX
    have eX : (rwP (40 * m + a2) (some a3) (brP q.2.1 a2 a1 q.2.2 c1 c2)).2.2.1 = q.2.1.2.2.1 := by
      show (brP q.2.1 a2 a1 q.2.2 c1 c2).2.2.1 = _
      unfold brP; split <;> rfl
    rw [eX] at this
    exact this
  · intro K i σ a1 a2 a3 a4 c1 c2 q hR R0 p0 k6
    exact t_c3e hS h4 hv hR R0 p0
end
end
section
/-! the reference's nodes as lists of children, pure: cells 80 .. 89 -/
abbrev RBs : Type := Nat × (Nat → Nat → Int32)
def hdI (l : List Nat) : Int32 := if l = [] then -1 else Int32.ofNat (l.headD 0)
def laI (l : List Nat) : Int32 := if l = [] then -1 else Int32.ofNat (l.getLastD 0)
def LkR (B : Nat → Nat → Int32) (x : Nat) (l : List Nat) : Prop := B 82 x = hdI l ∧ B 83 x = laI l ∧ (∀ i, i + 1 < l.length → B 84 (l.getD i 0) = Int32.ofNat (l.getD (i + 1) 0) ∧ B 85 (l.getD (i + 1) 0) = Int32.ofNat (l.getD i 0)) ∧ (∀ c ∈ l, B 86 c = Int32.ofNat x) ∧ (l ≠ [] → B 84 (l.getLastD 0) = -1 ∧ B 85 (l.headD 0) = -1)
def RgB (m : Nat) (S : RBs) (G : Nat → List Nat) : Prop := (m < 4 ∧ S.1 ≤ 700) ∧ (∀ x, 700 * m ≤ x → x < 700 * m + S.1 → LkR S.2 x (G x) ∧ (G x).Nodup ∧ ∀ c ∈ G x, 700 * m ≤ c ∧ c < 700 * m + S.1) ∧ (∀ x, 700 * m ≤ x → x < 700 * m + S.1 → S.2 86 x = -1 → S.2 84 x = -1 ∧ S.2 85 x = -1) ∧ (∀ z, 700 * m ≤ z → z < 700 * m + S.1 → S.2 86 z = -1 ∨ ∃ x, (700 * m ≤ x ∧ x < 700 * m + S.1) ∧ S.2 86 z = Int32.ofNat x ∧ z ∈ G x) ∧ ∃ ρ : Nat → Nat, ∀ x, 700 * m ≤ x → x < 700 * m + S.1 → ∀ c ∈ G x, ρ c < ρ x
/-- how many nodes have no parent -/
def rtC (m : Nat) (S : RBs) : Nat := (List.range S.1).countP fun k => decide (S.2 86 (700 * m + k) = -1)
/-- a new node; a child is adopted -/
def nBf (m : Nat) (so pt : Int32) (S : RBs) : RBs := (S.1 + 1, up2 (up2 (up2 (up2 (up2 (up2 (up2 (up2 (up2 (up2 S.2 80 (700 * m + S.1) so) 81 (700 * m + S.1) pt) 82 (700 * m + S.1) (-1)) 83 (700 * m + S.1) (-1)) 84 (700 * m + S.1) (-1)) 85 (700 * m + S.1) (-1)) 86 (700 * m + S.1) (-1)) 87 (700 * m + S.1) 0) 88 (700 * m + S.1) 0) 89 (700 * m + S.1) 0)
def aBf (p c : Nat) (B : Nat → Nat → Int32) : Nat → Nat → Int32 := up2 (up2 (if B 82 p = -1 then up2 B 82 p (Int32.ofNat c) else up2 (up2 B 84 (B 83 p).toNatClampNeg (Int32.ofNat c)) 85 c (B 83 p)) 83 p (Int32.ofNat c)) 86 c (Int32.ofNat p)
abbrev Vwr : Type := Nat → Int32 × Int32 × List Nat
def vwR (S : RBs) (G : Nat → List Nat) : Vwr := fun x => (S.2 80 x, S.2 81 x, G x)
def mz0 (m : Nat) (S : RBs) : Prop := ∀ z, 700 * m ≤ z → z < 700 * m + S.1 → S.2 87 z = 0
/-- old nodes as they were; only those of H have got a parent -/
def FrB (m : Nat) (S : RBs) (G : Nat → List Nat) (S' : RBs) (G' : Nat → List Nat) (H : Nat → Prop) : Prop := S.1 ≤ S'.1 ∧ (∀ x, 700 * m ≤ x → x < 700 * m + S.1 → vwR S' G' x = vwR S G x ∧ (¬ H x → S'.2 86 x = S.2 86 x)) ∧ (mz0 m S → mz0 m S')
section
variable {m p c x : Nat} {S S1 S2 : RBs} {G G1 G2 : Nat → List Nat} {H H1 H2 : Nat → Prop} {so pt : Int32} {B : Nat → Nat → Int32}
theorem FrB.rf : FrB m S G S G H := ⟨Nat.le_refl _, fun _ _ _ => ⟨rfl, fun _ => rfl⟩, id⟩
theorem FrB.tr (h : FrB m S G S1 G1 H) (k : FrB m S1 G1 S2 G2 H1) (hH : ∀ y, 700 * m ≤ y → y < 700 * m + S.1 → H1 y → H y) : FrB m S G S2 G2 H := by
  refine ⟨Nat.le_trans h.1 k.1, fun y z1 z2 => ?_, fun z => k.2.2 (h.2.2 z)⟩
  have a := h.2.1 y z1 z2
  have c := k.2.1 y z1 (by have := h.1; omega)
  exact ⟨c.1.trans a.1, fun n => (c.2 (fun w => n (hH y z1 z2 w))).trans (a.2 n)⟩
theorem FrB.more (h : FrB m S G S1 G1 H) (hH : ∀ y, 700 * m ≤ y → y < 700 * m + S.1 → H y → H1 y) : FrB m S G S1 G1 H1 := ⟨h.1, fun y z1 z2 => ⟨(h.2.1 y z1 z2).1, fun n => (h.2.1 y z1 z2).2 (fun w => n (hH y z1 z2 w))⟩, h.2.2⟩
theorem nBf_is : (∀ q y, y ≠ 700 * m + S.1 → (nBf m so pt S).2 q y = S.2 q y) ∧ (nBf m so pt S).2 80 (700 * m + S.1) = so ∧ (nBf m so pt S).2 81 (700 * m + S.1) = pt ∧ (∀ q, 82 ≤ q → q ≤ 86 → (nBf m so pt S).2 q (700 * m + S.1) = -1) := by
  refine ⟨fun q y h => ?_, ?_, ?_, fun q h1 h2 => ?_⟩
  · show up2 _ _ _ _ q y = _
    rw [up2_ne (fun z => h z.2), up2_ne (fun z => h z.2), up2_ne (fun z => h z.2), up2_ne (fun z => h z.2), up2_ne (fun z => h z.2), up2_ne (fun z => h z.2), up2_ne (fun z => h z.2), up2_ne (fun z => h z.2), up2_ne (fun z => h z.2), up2_ne (fun z => h z.2)]
  · simp [nBf, up2]
  · simp [nBf, up2]
  · have : q = 82 ∨ q = 83 ∨ q = 84 ∨ q = 85 ∨ q = 86 := by omega
    rcases this with e | e | e | e | e <;> subst e <;> simp [nBf, up2]
theorem LkR.cg {B' : Nat → Nat → Int32} {l : List Nat} (h : LkR B x l) (h2 : B' 82 x = B 82 x) (h3 : B' 83 x = B 83 x) (h4 : ∀ c ∈ l, B' 84 c = B 84 c) (h5 : ∀ c ∈ l, B' 85 c = B 85 c) (h6 : ∀ c ∈ l, B' 86 c = B 86 c) : LkR B' x l := by
  obtain ⟨a1, a2, a3, a4, a5⟩ := h
  refine ⟨h2.trans a1, h3.trans a2, fun i hi => ?_, fun c hc => (h6 c hc).trans (a4 c hc), fun hn => ?_⟩
  · rw [h4 _ (gd_mem (by omega)), h5 _ (gd_mem hi)]
    exact a3 i hi
  · have hd : l.headD 0 ∈ l := by
      cases l with
      | nil => exact absurd rfl hn
      | cons y r => exact List.mem_cons_self
    rw [h4 _ (gl_mem hn), h5 _ hd]
    exact a5 hn
theorem RgB.new (h : RgB m S G) (hf : S.1 < 700) : RgB m (nBf m so pt S) (va_up G (700 * m + S.1) []) ∧ FrB m S G (nBf m so pt S) (va_up G (700 * m + S.1) []) H ∧ vwR (nBf m so pt S) (va_up G (700 * m + S.1) []) (700 * m + S.1) = (so, pt, []) ∧ (nBf m so pt S).2 86 (700 * m + S.1) = -1 := by
  obtain ⟨⟨h4, h1⟩, h2, h3, h5, ρ, h6⟩ := h
  obtain ⟨n1, n2, n3, n4⟩ := nBf_is (m := m) (S := S) (so := so) (pt := pt)
  refine ⟨⟨⟨h4, hf⟩, fun x z1 z2 => ?_, fun x z1 z2 z3 => ?_, fun z z1 z2 => ?_, ρ, fun x z1 z2 c hc => ?_⟩, ⟨Nat.le_succ _, fun x z1 z2 => ⟨?_, fun _ => n1 86 x (by omega)⟩, fun hz z z1 z2 => by
    have z2 : z < 700 * m + (S.1 + 1) := z2
    by_cases e : z = 700 * m + S.1
    · rw [e]; simp [nBf, up2]
    · rw [n1 87 z e]; exact hz z z1 (by omega)⟩, ?_, n4 86 (by decide) (by decide)⟩
  · have z2 : x < 700 * m + (S.1 + 1) := z2
    by_cases e : x = 700 * m + S.1
    · rw [e, va_up_self]
      exact ⟨⟨n4 82 (by decide) (by decide), n4 83 (by decide) (by decide), fun i hi => absurd hi (Nat.not_lt_zero _), fun c hc => absurd hc (List.not_mem_nil), fun z => absurd rfl z⟩, List.nodup_nil, fun c hc => absurd hc (List.not_mem_nil)⟩
    · rw [va_up_ne _ _ e]
      obtain ⟨q1, q2, q3⟩ := h2 x z1 (by omega)
      have ne : ∀ c ∈ G x, c ≠ 700 * m + S.1 := fun c hc => by have := (q3 c hc).2; omega
      exact ⟨q1.cg (n1 82 x e) (n1 83 x e) (fun c hc => n1 84 c (ne c hc)) (fun c hc => n1 85 c (ne c hc)) (fun c hc => n1 86 c (ne c hc)), q2, fun c hc => ⟨(q3 c hc).1, by have := (q3 c hc).2; show c < 700 * m + (S.1 + 1); omega⟩⟩
  · have z2 : x < 700 * m + (S.1 + 1) := z2
    by_cases e : x = 700 * m + S.1
    · rw [e]; exact ⟨n4 84 (by decide) (by decide), n4 85 (by decide) (by decide)⟩
    · rw [n1 84 x e, n1 85 x e]
      rw [n1 86 x e] at z3
      exact h3 x z1 (by omega) z3
  · have z2 : z < 700 * m + (S.1 + 1) := z2
    by_cases e : z = 700 * m + S.1
    · rw [e]; exact Or.inl (n4 86 (by decide) (by decide))
    · rw [n1 86 z e]
      rcases h5 z z1 (by omega) with w | ⟨x, w1, w2, w3⟩
      · exact Or.inl w
      · exact Or.inr ⟨x, ⟨w1.1, by show x < 700 * m + (S.1 + 1); omega⟩, w2, by rw [va_up_ne _ _ (by omega)]; exact w3⟩
  · have z2 : x < 700 * m + (S.1 + 1) := z2
    by_cases e : x = 700 * m + S.1
    · rw [e, va_up_self] at hc; exact absurd hc (List.not_mem_nil)
    · rw [va_up_ne _ _ e] at hc
      exact h6 x z1 (by omega) c hc
  · show ((nBf m so pt S).2 80 x, (nBf m so pt S).2 81 x, va_up G (700 * m + S.1) [] x) = (S.2 80 x, S.2 81 x, G x)
    rw [n1 80 x (by omega), n1 81 x (by omega), va_up_ne _ _ (by omega)]
  · show ((nBf m so pt S).2 80 (700 * m + S.1), (nBf m so pt S).2 81 (700 * m + S.1), va_up G (700 * m + S.1) [] (700 * m + S.1)) = _
    rw [n2, n3, va_up_self]
theorem aBf_is {l : List Nat} (h82 : B 82 p = hdI l) (h83 : B 83 p = laI l) (hb : ∀ d ∈ l, d < 100000) : (∀ q y, q ≠ 82 → q ≠ 83 → q ≠ 84 → q ≠ 85 → q ≠ 86 → aBf p c B q y = B q y) ∧ (∀ y, aBf p c B 82 y = if y = p ∧ l = [] then Int32.ofNat c else B 82 y) ∧ (∀ y, aBf p c B 83 y = if y = p then Int32.ofNat c else B 83 y) ∧ (∀ y, aBf p c B 84 y = if l ≠ [] ∧ y = l.getLastD 0 then Int32.ofNat c else B 84 y) ∧ (∀ y, aBf p c B 85 y = if l ≠ [] ∧ y = c then Int32.ofNat (l.getLastD 0) else B 85 y) ∧ ∀ y, aBf p c B 86 y = if y = c then Int32.ofNat p else B 86 y := by
  have f82 : B 82 p = -1 ↔ l = [] := by
    rw [h82]
    unfold hdI
    by_cases e : l = []
    · rw [if_pos e]; exact ⟨fun _ => e, fun _ => rfl⟩
    · rw [if_neg e]
      have hd : l.headD 0 ∈ l := by
        cases l with
        | nil => exact absurd rfl e
        | cons y r => exact List.mem_cons_self
      exact ⟨fun z => absurd z (nm32 (hb _ hd)), fun z => absurd z e⟩
  by_cases e : l = []
  · have ea : aBf p c B = up2 (up2 (up2 B 82 p (Int32.ofNat c)) 83 p (Int32.ofNat c)) 86 c (Int32.ofNat p) := by unfold aBf; rw [if_pos (f82.mpr e)]
    rw [ea]
    refine ⟨fun q y q1 q2 q3 q4 q5 => ?_, fun y => ?_, fun y => ?_, fun y => ?_, fun y => ?_, fun y => ?_⟩
    · rw [up2_ne (fun z => q5 z.1), up2_ne (fun z => q2 z.1), up2_ne (fun z => q1 z.1)]
    · simp only [up2]
      by_cases w : y = p <;> simp [w, e]
    · simp only [up2]
      by_cases w : y = p <;> simp [w]
    · rw [if_neg (fun z => z.1 e)]; simp [up2]
    · rw [if_neg (fun z => z.1 e)]; simp [up2]
    · simp only [up2]
      by_cases w : y = c <;> simp [w]
  · have hl : (B 83 p).toNatClampNeg = l.getLastD 0 := by
      rw [h83]
      unfold laI
      rw [if_neg e]
      exact lt32 (by have := hb _ (gl_mem e); omega)
    have hl2 : B 83 p = Int32.ofNat (l.getLastD 0) := by rw [h83]; unfold laI; rw [if_neg e]
    have ea : aBf p c B = up2 (up2 (up2 (up2 B 84 (l.getLastD 0) (Int32.ofNat c)) 85 c (Int32.ofNat (l.getLastD 0))) 83 p (Int32.ofNat c)) 86 c (Int32.ofNat p) := by unfold aBf; rw [if_neg (fun z => e (f82.mp z)), hl, hl2]
    rw [ea]
    generalize l.getLastD 0 = la
    refine ⟨fun q y q1 q2 q3 q4 q5 => ?_, fun y => ?_, fun y => ?_, fun y => ?_, fun y => ?_, fun y => ?_⟩
    · rw [up2_ne (fun z => q5 z.1), up2_ne (fun z => q2 z.1), up2_ne (fun z => q4 z.1), up2_ne (fun z => q3 z.1)]
    · rw [if_neg (fun z => e z.2)]; simp [up2]
    · simp only [up2]
      by_cases w : y = p <;> simp [w]
    · simp only [up2]
      by_cases w : y = la <;> simp [w, e]
    · simp only [up2]
      by_cases w : y = c <;> simp [w, e]
    · simp only [up2]
      by_cases w : y = c <;> simp [w]
theorem cntp_one {p1 p2 : Nat → Bool} {k0 : Nat} (h1 : p1 k0 = true) (h2 : p2 k0 = false) (h3 : ∀ k, k ≠ k0 → p2 k = p1 k) : ∀ n, (k0 < n → (List.range n).countP p2 + 1 = (List.range n).countP p1) ∧ (n ≤ k0 → (List.range n).countP p2 = (List.range n).countP p1) := by
  intro n
  induction n with
  | zero => exact ⟨fun z => absurd z (Nat.not_lt_zero _), fun _ => rfl⟩
  | succ n ih =>
    rw [List.range_succ, List.countP_append, List.countP_append, List.countP_singleton, List.countP_singleton]
    by_cases e : n = k0
    · subst e
      rw [h1, h2, ih.2 (Nat.le_refl _)]
      exact ⟨fun _ => by simp, fun z => absurd z (by omega)⟩
    · rw [h3 n e]
      refine ⟨fun z => ?_, fun z => ?_⟩
      · have := ih.1 (by omega); omega
      · rw [ih.2 (by omega)]
theorem rtC_new : rtC m (nBf m so pt S) = rtC m S + 1 := by
  obtain ⟨n1, -, -, n4⟩ := nBf_is (m := m) (S := S) (so := so) (pt := pt)
  unfold rtC
  show (List.range (S.1 + 1)).countP _ = _
  rw [List.range_succ, List.countP_append, List.countP_singleton, n4 86 (by decide) (by decide)]
  have : (List.range S.1).countP (fun k => decide ((nBf m so pt S).2 86 (700 * m + k) = -1)) = (List.range S.1).countP (fun k => decide (S.2 86 (700 * m + k) = -1)) := by
    refine List.countP_congr (fun k hk => ?_)
    rw [n1 86 (700 * m + k) (by have := List.mem_range.mp hk; omega)]
  rw [this]
  simp
theorem rtC_ad (h : ∀ y, aBf p c S.2 86 y = if y = c then Int32.ofNat p else S.2 86 y) (hc : 700 * m ≤ c ∧ c < 700 * m + S.1) (rc : S.2 86 c = -1) (hp : p < 100000) : rtC m (S.1, aBf p c S.2) + 1 = rtC m S := by
  unfold rtC
  refine (cntp_one (k0 := c - 700 * m) ?_ ?_ (fun k hk => ?_) S.1).1 (by omega)
  · rw [show 700 * m + (c - 700 * m) = c by omega, rc]; rfl
  · show decide (aBf p c S.2 86 (700 * m + (c - 700 * m)) = -1) = false
    rw [show 700 * m + (c - 700 * m) = c by omega, h c, if_pos rfl]
    exact decide_eq_false (nm32 hp)
  · show decide (aBf p c S.2 86 (700 * m + k) = -1) = _
    rw [h _, if_neg (by omega)]
theorem RgB.ad (h : RgB m S G) (hp : 700 * m ≤ p ∧ p < 700 * m + S.1) (hc : 700 * m ≤ c ∧ c < 700 * m + S.1) (rc : S.2 86 c = -1) (rp : S.2 86 p = -1) (hne : c ≠ p) : RgB m (S.1, aBf p c S.2) (va_up G p (G p ++ [c])) ∧ (∀ q y, q = 80 ∨ q = 81 → aBf p c S.2 q y = S.2 q y) ∧ (∀ y, y ≠ c → aBf p c S.2 86 y = S.2 86 y) ∧ rtC m (S.1, aBf p c S.2) + 1 = rtC m S := by
  obtain ⟨⟨h4, h1⟩, h2, h3, h5, ρ, h6⟩ := h
  obtain ⟨⟨l1, l2, l3, l4, l5⟩, nd, ch⟩ := h2 p hp.1 hp.2
  have big : ∀ d ∈ G p, d < 100000 := fun d hd => by have := (ch d hd).2; omega
  obtain ⟨i0, i82, i83, i84, i85, i86⟩ := aBf_is (c := c) l1 l2 big
  have par : ∀ y d, 700 * m ≤ y → y < 700 * m + S.1 → d ∈ G y → S.2 86 d = Int32.ofNat y := fun y d q1 q2 q3 => (h2 y q1 q2).1.2.2.2.1 d q3
  have ncl : ∀ y, 700 * m ≤ y → y < 700 * m + S.1 → c ∉ G y := fun y q1 q2 q3 => nm32 (by omega) ((par y c q1 q2 q3).symm.trans rc)
  have lne : ∀ y d, 700 * m ≤ y → y < 700 * m + S.1 → d ∈ G y → y ≠ p → ¬ (G p ≠ [] ∧ d = (G p).getLastD 0) := fun y d q1 q2 q3 q4 z => by
    have e1 := par y d q1 q2 q3
    have e2 := par p _ hp.1 hp.2 (gl_mem z.1)
    rw [z.2] at e1
    exact q4 (inj32 (by omega) (by omega) (e1.symm.trans e2))
  refine ⟨⟨⟨h4, h1⟩, fun y z1 z2 => ?_, fun y z1 z2 z3 => ?_, fun z z1 z2 => ?_, va_up ρ p (max (ρ p) (ρ c + 1)), fun x z1 z2 d hd => ?_⟩, fun q y hq => i0 q y (by omega) (by omega) (by omega) (by omega) (by omega), fun y hy => by rw [i86 y, if_neg hy], rtC_ad i86 hc rc (by omega)⟩
  · have z2 : y < 700 * m + S.1 := z2
    by_cases w : y = p
    · subst w
      rw [va_up_self]
      refine ⟨⟨?_, ?_, fun i hi => ?_, fun d hd => ?_, fun _ => ⟨?_, ?_⟩⟩, ?_, fun d hd => ?_⟩
      · show aBf y c S.2 82 y = _
        rw [i82 y]
        by_cases e : G y = []
        · rw [if_pos ⟨rfl, e⟩, e]; rfl
        · rw [if_neg (fun z => e z.2), l1]
          unfold hdI
          rw [if_neg e, if_neg (by simp)]
          congr 1
          cases e2 : G y with
          | nil => exact absurd e2 e
          | cons a r => rfl
      · show aBf y c S.2 83 y = _
        rw [i83 y, if_pos rfl]
        unfold laI
        rw [if_neg (by simp)]
        congr 1
        simp
      · rw [List.length_append] at hi
        have hi : i + 1 < (G y).length + 1 := hi
        rw [getD_apN (show i < (G y).length + 1 by omega), getD_apN hi, if_neg (by omega)]
        show aBf y c S.2 84 _ = _ ∧ aBf y c S.2 85 _ = _
        by_cases z : i + 1 = (G y).length
        · have hn : G y ≠ [] := fun e => by rw [e] at z; cases z
          have el : (G y).getD i 0 = (G y).getLastD 0 := by
            rw [gl_eq _ _ hn]
            congr 1
            omega
          rw [if_pos z, i84, i85, if_pos ⟨hn, el⟩, if_pos ⟨hn, rfl⟩, el]
          exact ⟨rfl, rfl⟩
        · rw [if_neg z, i84, i85, if_neg, if_neg]
          · exact l3 i (by omega)
          · intro q
            exact ncl y hp.1 hp.2 (by rw [← q.2]; exact gd_mem (by omega))
          · intro q
            have e := q.2
            rw [gl_eq _ _ q.1] at e
            have := gd_inj nd (show i < (G y).length by omega) (show (G y).length - 1 < (G y).length by omega) e
            omega
      · show aBf y c S.2 86 d = _
        rw [i86 d]
        rcases List.mem_append.mp hd with z | z
        · have : d ≠ c := fun e => ncl y hp.1 hp.2 (by rw [e] at z; exact z)
          rw [if_neg this]; exact l4 d z
        · rw [List.mem_singleton] at z
          rw [if_pos z]
      · have e : (G y ++ [c]).getLastD 0 = c := by simp
        rw [e]
        show aBf y c S.2 84 c = -1
        rw [i84 c, if_neg (fun z => ncl y hp.1 hp.2 (by rw [z.2]; exact gl_mem z.1))]
        exact (h3 c hc.1 (by omega) rc).1
      · show aBf y c S.2 85 ((G y ++ [c]).headD 0) = -1
        cases e2 : G y with
        | nil =>
          show aBf y c S.2 85 c = -1
          rw [i85 c, if_neg (fun z => z.1 e2)]
          exact (h3 c hc.1 (by omega) rc).2
        | cons a r =>
          show aBf y c S.2 85 a = -1
          rw [i85 a, if_neg (fun z => ncl y hp.1 hp.2 (by rw [← z.2, e2]; exact List.mem_cons_self))]
          have := (l5 (by rw [e2]; exact List.cons_ne_nil _ _)).2
          rw [e2] at this
          exact this
      · rw [List.nodup_append]
        refine ⟨nd, by simp, fun d hd e he => ?_⟩
        rw [List.mem_singleton] at he
        intro z
        exact ncl y hp.1 hp.2 (by rw [← he, ← z]; exact hd)
      · rcases List.mem_append.mp hd with z | z
        · exact ch d z
        · rw [List.mem_singleton] at z
          rw [z]; exact hc
    · rw [va_up_ne _ _ w]
      obtain ⟨q1, q2, q3⟩ := h2 y z1 z2
      refine ⟨q1.cg ?_ ?_ (fun d hd => ?_) (fun d hd => ?_) (fun d hd => ?_), q2, q3⟩
      · show aBf p c S.2 82 y = _
        rw [i82 y, if_neg (fun z => w z.1)]
      · show aBf p c S.2 83 y = _
        rw [i83 y, if_neg w]
      · show aBf p c S.2 84 d = _
        rw [i84 d, if_neg (lne y d z1 z2 hd w)]
      · show aBf p c S.2 85 d = _
        rw [i85 d, if_neg (fun z => ncl y z1 z2 (by rw [← z.2]; exact hd))]
      · show aBf p c S.2 86 d = _
        rw [i86 d, if_neg (fun z => ncl y z1 z2 (by rw [← z]; exact hd))]
  · have z3 : aBf p c S.2 86 y = -1 := z3
    show aBf p c S.2 84 y = -1 ∧ aBf p c S.2 85 y = -1
    have z2 : y < 700 * m + S.1 := z2
    have yc : y ≠ c := fun e => by
      rw [i86 y, if_pos e] at z3
      exact nm32 (by omega) z3
    rw [i86 y, if_neg yc] at z3
    rw [i84 y, i85 y, if_neg, if_neg (fun z => yc z.2)]
    · exact h3 y z1 z2 z3
    · intro z
      have e2 := par p _ hp.1 hp.2 (gl_mem z.1)
      rw [← z.2, z3] at e2
      exact nm32 (by omega) e2.symm
  · show aBf p c S.2 86 z = -1 ∨ ∃ x, (700 * m ≤ x ∧ x < 700 * m + S.1) ∧ aBf p c S.2 86 z = Int32.ofNat x ∧ z ∈ va_up G p (G p ++ [c]) x
    by_cases e : z = c
    · exact Or.inr ⟨p, hp, by rw [i86 z, if_pos e], by rw [va_up_self, e]; simp⟩
    · rw [i86 z, if_neg e]
      rcases h5 z z1 z2 with w | ⟨x, w1, w2, w3⟩
      · exact Or.inl w
      · refine Or.inr ⟨x, w1, w2, ?_⟩
        by_cases ex : x = p
        · rw [ex, va_up_self]
          rw [ex] at w3
          exact List.mem_append_left _ w3
        · rw [va_up_ne _ _ ex]; exact w3
  · have z2 : x < 700 * m + S.1 := z2
    by_cases ex : x = p
    · subst ex
      rw [va_up_self] at hd
      rw [va_up_self]
      rcases List.mem_append.mp hd with w | w
      · have dx : d ≠ x := fun e => nm32 (by omega) ((par x d z1 z2 w).symm.trans (by rw [e]; exact rp))
        rw [va_up_ne _ _ dx]
        have := h6 x z1 z2 d w
        omega
      · rw [List.mem_singleton] at w
        rw [w, va_up_ne _ _ hne]
        omega
    · rw [va_up_ne _ _ ex] at hd ⊢
      have dx : d ≠ p := fun e => nm32 (by omega) ((par x d z1 z2 hd).symm.trans (by rw [e]; exact rp))
      rw [va_up_ne _ _ dx]
      exact h6 x z1 z2 d hd
end
end
section
/-! the reference builds nodes: node, adopt, over -/
abbrev csB : List Nat := [79, 80, 81, 82, 83, 84, 85, 86, 87, 88, 89, 90, 92, 93, 94]
abbrev RGb (m : Nat) (M M' : Mem) : Prop := RG m [] csB [] M M'
/-- while nodes are built: module m, its parts' cells A, parts' nodes pn, nodes S -/
def BuM (m : Nat) (A : Nat → Nat → Int32) (pn : Nat → Int32) (S : RBs) (M : Mem) : Prop := Fix M ∧ m < 4 ∧ mI M 29 19 = Int32.ofNat m ∧ mAI M 79 m = Int32.ofNat S.1 ∧ (∀ c, 80 ≤ c → c ≤ 89 → mAI M c = S.2 c) ∧ (∀ c, 58 ≤ c → c ≤ 75 → c ≠ 72 → mAI M c = A c) ∧ mAI M 90 = pn
def RnE (f g : Nat → Nat → Int32) : Prop := ∀ c, 80 ≤ c → c ≤ 89 → f c = g c
section
variable {f g : Nat → Nat → Int32} {a k : Nat} {v : Int32}
theorem RnE.up (h : RnE f g) : RnE (up2 f a k v) (up2 g a k v) := fun c h1 h2 => by
  funext j
  unfold up2
  rw [h c h1 h2]
theorem RnE.out (h : RnE f g) (ha : a < 80 ∨ 89 < a) : RnE (up2 f a k v) g := fun c h1 h2 => by
  rw [up2_row (by omega)]
  exact h c h1 h2
end
theorem sz80 {c : Nat} (h1 : 80 ≤ c) (h2 : c ≤ 89) : szA c = 700 := by
  have : c = 80 ∨ c = 81 ∨ c = 82 ∨ c = 83 ∨ c = 84 ∨ c = 85 ∨ c = 86 ∨ c = 87 ∨ c = 88 ∨ c = 89 := by omega
  rcases this with e | e | e | e | e | e | e | e | e | e <;> subst e <;> decide
theorem cs80 {c : Nat} (h1 : 80 ≤ c) (h2 : c ≤ 89) : c ∈ csB := by
  have : c = 80 ∨ c = 81 ∨ c = 82 ∨ c = 83 ∨ c = 84 ∨ c = 85 ∨ c = 86 ∨ c = 87 ∨ c = 88 ∨ c = 89 := by omega
  rcases this with e | e | e | e | e | e | e | e | e | e <;> subst e <;> decide
section
variable {m : Nat} {A : Nat → Nat → Int32} {pn : Nat → Int32} {S S' : RBs} {G G' : Nat → List Nat} {M M' : Mem} {h : Nat} {Q : Option Value → Mem → Prop} {so pt : Int32} {c d p : Nat}
theorem BuM.w {k : Nat} {v : Int32} {S1 : Nat} (hB : BuM m A pn S M) (h1 : 80 ≤ c) (h2 : c ≤ 89) (hk : 700 * m ≤ k) : BuM m A pn (S.1, up2 S.2 c k v) (wAI M c k v) ∧ RGb m M (wAI M c k v) := by
  obtain ⟨F, b1, b2, b3, b4, b5, b6⟩ := hB
  have G : RGb m M (wAI M c k v) := RG.ai (cs80 h1 h2) (by rw [sz80 h1 h2]; exact hk)
  refine ⟨⟨G.fix F (by decide), b1, b2, ?_, RnE.up (f := mAI M) b4, fun q q1 q2 q3 => ?_, ?_⟩, G⟩
  · rw [mAI_wAI, if_neg (fun z => by omega)]; exact b3
  · have : mAI (wAI M c k v) = up2 (mAI M) c k v := rfl
    rw [this, up2_row (by omega)]
    exact b5 q q1 q2 q3
  · have : mAI (wAI M c k v) = up2 (mAI M) c k v := rfl
    rw [this, up2_row (by omega)]
    exact b6
theorem BuM.cn {v : Nat} (hB : BuM m A pn S M) : BuM m A pn (v, S.2) (wAI M 79 m (Int32.ofNat v)) ∧ RGb m M (wAI M 79 m (Int32.ofNat v)) := by
  obtain ⟨F, b1, b2, b3, b4, b5, b6⟩ := hB
  have G : RGb m M (wAI M 79 m (Int32.ofNat v)) := RG.ai (by decide) (by rw [show szA 79 = 1 by decide]; omega)
  have e : mAI (wAI M 79 m (Int32.ofNat v)) = up2 (mAI M) 79 m (Int32.ofNat v) := rfl
  refine ⟨⟨G.fix F (by decide), b1, b2, ?_, ?_, fun q q1 q2 q3 => ?_, ?_⟩, G⟩
  · rw [e]; exact up2_eq
  · rw [e]; exact RnE.out b4 (by decide)
  · rw [e, up2_row (by omega)]
    exact b5 q q1 q2 q3
  · rw [e, up2_row (by decide)]
    exact b6
theorem B_node (hB : BuM m A pn S M) (hf : S.1 < 700) (H : ∀ M', BuM m A pn (nBf m so pt S) M' → RGb m M M' → Q (some (.int (Int32.ofNat (700 * m + S.1)))) M') : E (h + 1) mdX11_node [.ref 29, .int so, .int pt] M Q := by
  obtain ⟨F, b1, b2, b3, -⟩ := id hB
  have lm : (Int32.ofNat m).toNatClampNeg = m := lt32 (by omega)
  have ln : (Int32.ofNat (700 * m + S.1)).toNatClampNeg = 700 * m + S.1 := lt32 (by omega)
  have ex : (700 : Int32) * Int32.ofNat m + Int32.ofNat S.1 = Int32.ofNat (700 * m + S.1) := by rw [Int32.ofNat_add, Int32.ofNat_mul]; rfl
  have v79 : ∀ {M : Mem}, Fix M → vp_in (Int32.ofNat m) (mL M 79) := fun F => by rw [ln79 F]; exact vp_of b1 (by decide)
  have v80 : ∀ {k : Nat}, k = 2800 → vp_in (Int32.ofNat (700 * m + S.1)) k := fun e => by rw [e]; exact vp_of (by omega) (by decide)
  refine KX11_node ?_
  unfold DX11_node_0
  rw [b2, lm]
  refine ⟨ok29 F, 79, rf29_61 F, ok79 F, v79 F, 79, rf29_61 F, ok79 F, v79 F, v79 F, fun M6 e6 => ?_⟩
  rw [b3, ex, ln]
  rw [b3, succ32] at e6
  obtain ⟨s6, g6⟩ := hB.cn (v := S.1 + 1)
  rw [← e6] at s6 g6
  have F6 := s6.1
  refine ⟨80, rf29_62 F6, ok80 F6, v80 (ln80 F6), fun M9 e9 => ?_⟩
  obtain ⟨s9, g9⟩ := s6.w (c := 80) (k := 700 * m + S.1) (v := so) (S1 := 0) (by decide) (by decide) (by omega)
  rw [← e9] at s9 g9
  have F9 := s9.1
  refine ⟨81, rf29_63 F9, ok81 F9, v80 (ln81 F9), fun M12 e12 => ?_⟩
  obtain ⟨s12, g12⟩ := s9.w (c := 81) (k := 700 * m + S.1) (v := pt) (S1 := 0) (by decide) (by decide) (by omega)
  rw [← e12] at s12 g12
  have F12 := s12.1
  refine ⟨82, rf29_64 F12, ok82 F12, v80 (ln82 F12), fun M15 e15 => ?_⟩
  obtain ⟨s15, g15⟩ := s12.w (c := 82) (k := 700 * m + S.1) (v := -1) (S1 := 0) (by decide) (by decide) (by omega)
  rw [← e15] at s15 g15
  have F15 := s15.1
  refine ⟨83, rf29_65 F15, ok83 F15, v80 (ln83 F15), fun M18 e18 => ?_⟩
  obtain ⟨s18, g18⟩ := s15.w (c := 83) (k := 700 * m + S.1) (v := -1) (S1 := 0) (by decide) (by decide) (by omega)
  rw [← e18] at s18 g18
  have F18 := s18.1
  refine ⟨84, rf29_66 F18, ok84 F18, v80 (ln84 F18), fun M21 e21 => ?_⟩
  obtain ⟨s21, g21⟩ := s18.w (c := 84) (k := 700 * m + S.1) (v := -1) (S1 := 0) (by decide) (by decide) (by omega)
  rw [← e21] at s21 g21
  have F21 := s21.1
  refine ⟨85, rf29_67 F21, ok85 F21, v80 (ln85 F21), fun M24 e24 => ?_⟩
  obtain ⟨s24, g24⟩ := s21.w (c := 85) (k := 700 * m + S.1) (v := -1) (S1 := 0) (by decide) (by decide) (by omega)
  rw [← e24] at s24 g24
  have F24 := s24.1
  refine ⟨86, rf29_68 F24, ok86 F24, v80 (ln86 F24), fun M27 e27 => ?_⟩
  obtain ⟨s27, g27⟩ := s24.w (c := 86) (k := 700 * m + S.1) (v := -1) (S1 := 0) (by decide) (by decide) (by omega)
  rw [← e27] at s27 g27
  have F27 := s27.1
  refine ⟨87, rf29_69 F27, ok87 F27, v80 (ln87 F27), fun M30 e30 => ?_⟩
  obtain ⟨s30, g30⟩ := s27.w (c := 87) (k := 700 * m + S.1) (v := 0) (S1 := 0) (by decide) (by decide) (by omega)
  rw [← e30] at s30 g30
  have F30 := s30.1
  refine ⟨88, rf29_70 F30, ok88 F30, v80 (ln88 F30), fun M33 e33 => ?_⟩
  obtain ⟨s33, g33⟩ := s30.w (c := 88) (k := 700 * m + S.1) (v := 0) (S1 := 0) (by decide) (by decide) (by omega)
  rw [← e33] at s33 g33
  have F33 := s33.1
  refine ⟨89, rf29_71 F33, ok89 F33, v80 (ln89 F33), fun M36 e36 => ?_⟩
  obtain ⟨s36, g36⟩ := s33.w (c := 89) (k := 700 * m + S.1) (v := 0) (S1 := 0) (by decide) (by decide) (by omega)
  rw [← e36] at s36 g36
  exact H M36 s36 (((((((((((g6.tr g9).tr g12).tr g15).tr g18).tr g21).tr g24).tr g27).tr g30).tr g33).tr g36))
theorem B_adopt (hB : BuM m A pn S M) (hp : 700 * m ≤ p ∧ p < 2800) (hc : 700 * m ≤ c ∧ c < 2800) (hl : S.2 82 p ≠ -1 → ∃ l, (700 * m ≤ l ∧ l < 2800) ∧ S.2 83 p = Int32.ofNat l) (H : ∀ M', BuM m A pn (S.1, aBf p c S.2) M' → RGb m M M' → Q none M') : E (h + 1) mdX11_adopt [.ref 29, .int (Int32.ofNat p), .int (Int32.ofNat c)] M Q := by
  obtain ⟨F, b1, b2, b3, b4, -⟩ := id hB
  have lp : (Int32.ofNat p).toNatClampNeg = p := lt32 (by omega)
  have lc : (Int32.ofNat c).toNatClampNeg = c := lt32 (by omega)
  have vv : ∀ {k x : Nat}, x < 2800 → k = 2800 → vp_in (Int32.ofNat x) k := fun hx e => by rw [e]; exact vp_of hx (by decide)
  have fin : ∀ (M1 : Mem) (B1 : Nat → Nat → Int32), BuM m A pn (S.1, B1) M1 → RGb m M M1 → aBf p c S.2 = up2 (up2 B1 83 p (Int32.ofNat c)) 86 c (Int32.ofNat p) → DX11_adopt_44 h 29 (Int32.ofNat p) (Int32.ofNat c) M1 Q := by
    intro M1 B1 s1 g1 e
    have F1 := s1.1
    unfold DX11_adopt_44
    rw [lp, lc]
    refine ⟨ok29 F1, 83, rf29_65 F1, ok83 F1, vv hp.2 (ln83 F1), fun M4 e4 => ?_⟩
    obtain ⟨s4, g4⟩ := s1.w (c := 83) (k := p) (v := Int32.ofNat c) (S1 := 0) (by decide) (by decide) hp.1
    rw [← e4] at s4 g4
    have F4 := s4.1
    refine ⟨86, rf29_68 F4, ok86 F4, vv hc.2 (ln86 F4), fun M7 e7 => ?_⟩
    obtain ⟨s7, g7⟩ := s4.w (c := 86) (k := c) (v := Int32.ofNat p) (S1 := 0) (by decide) (by decide) hc.1
    rw [← e7] at s7 g7
    have s7 : BuM m A pn (S.1, up2 (up2 B1 83 p (Int32.ofNat c)) 86 c (Int32.ofNat p)) M7 := s7
    rw [← e] at s7
    exact H M7 s7 ((g1.tr g4).tr g7)
  refine KX11_adopt ?_
  unfold DX11_adopt_0
  rw [lp, lc]
  refine ⟨ok29 F, 82, rf29_64 F, ok82 F, vv hp.2 (ln82 F), fun q => ?_, fun q => ?_⟩
  · rw [b4 82 (by decide) (by decide)] at q
    obtain ⟨l, hl1, hl2⟩ := hl q
    have ll : (Int32.ofNat l).toNatClampNeg = l := lt32 (by omega)
    have e83 : mAI M 83 p = Int32.ofNat l := by rw [b4 83 (by decide) (by decide)]; exact hl2
    refine ⟨84, rf29_66 F, 83, rf29_65 F, ok83 F, vv hp.2 (ln83 F), ok84 F, by rw [e83]; exact vv hl1.2 (ln84 F), fun M8 e8 => ?_⟩
    rw [e83, ll] at e8
    obtain ⟨s8, g8⟩ := hB.w (c := 84) (k := l) (v := Int32.ofNat c) (S1 := 0) (by decide) (by decide) hl1.1
    rw [← e8] at s8 g8
    have F8 := s8.1
    have e838 : mAI M8 83 p = Int32.ofNat l := by
      rw [s8.2.2.2.2.1 83 (by decide) (by decide)]
      show up2 S.2 84 l (Int32.ofNat c) 83 p = _
      rw [up2_ne (fun z => absurd z.1 (by decide))]; exact hl2
    refine ⟨85, rf29_67 F8, 83, rf29_65 F8, ok83 F8, vv hp.2 (ln83 F8), ok85 F8, vv hc.2 (ln85 F8), fun M13 e13 => ?_⟩
    rw [e838] at e13
    obtain ⟨s13, g13⟩ := s8.w (c := 85) (k := c) (v := Int32.ofNat l) (S1 := 0) (by decide) (by decide) hc.1
    rw [← e13] at s13 g13
    refine fin M13 (up2 (up2 S.2 84 l (Int32.ofNat c)) 85 c (Int32.ofNat l)) s13 (g8.tr g13) ?_
    unfold aBf
    rw [if_neg q, hl2, ll]
  · rw [b4 82 (by decide) (by decide)] at q
    refine ⟨82, rf29_64 F, ok82 F, vv hp.2 (ln82 F), fun M16 e16 => ?_⟩
    obtain ⟨s16, g16⟩ := hB.w (c := 82) (k := p) (v := Int32.ofNat c) (S1 := 0) (by decide) (by decide) hp.1
    rw [← e16] at s16 g16
    refine fin M16 (up2 S.2 82 p (Int32.ofNat c)) s16 g16 ?_
    unfold aBf
    rw [if_pos q]
end
end
section
/-! a node of the reference stands for a node of the class -/
def RpLs (R : Nat → Nat → Nat → Nat → Prop) : List Nat → List Nat → Nat → Nat → Prop
  | [], [], p, p' => p' = p
  | d :: ds, c :: cs, p, p' => ∃ pm, R d c p pm ∧ RpLs R ds cs pm p'
  | [], _ :: _, _, _ => False
  | _ :: _, [], _, _ => False
/-- what a choice looks at: the condition of part j, or an if's number -/
def ChW (W : Wo) (m zn fn : Nat) (so pt l : Int32) (x : Nat) : Prop := (so = 4 ∧ ∃ j, j < 40 ∧ pt = Int32.ofNat (40 * m + j) ∧ CdW W m zn (40 * m + j) l) ∨ (so = 5 ∧ ∃ j f, j < 40 ∧ pt = Int32.ofNat (40 * m + j) ∧ f < fn ∧ woP W j 4 = Int32.ofNat f ∧ l = woF W f ∧ woA W 58 (40 * m + j) = 14 ∧ woP W j 1 = Int32.ofNat x)
/-- cx: the traps around, from within; p, p': the pauses within, in order -/
def RpN (W : Wo) (m zn fn : Nat) (u : Vwr) (hi : Nat) : Nat → List (Option Nat) → Nat → Nat → Nat → Nat → Prop
  | 0, _, _, _, _, _ => False
  | g + 1, cx, y, x, p, p' => (700 * m ≤ y ∧ y < hi) ∧
    (((woV W x).1 = 5 ∧ ∃ c, (woV W x).2.2.2 = [c] ∧ RpN W m zn fn u hi g cx y c p p')
    ∨ ((woV W x).1 = 5 ∧ (u y).1 = 6 ∧ 2 ≤ (u y).2.2.length ∧ RpLs (RpN W m zn fn u hi g cx) (u y).2.2 (woV W x).2.2.2 p p')
    ∨ ((woV W x).1 = 0 ∧ (woV W x).2.2.2 = [] ∧ (u y).1 = 0 ∧ (u y).2.2 = [] ∧ p' = p)
    ∨ ((woV W x).1 = 1 ∧ (woV W x).2.2.1 = Int32.ofNat p ∧ (woV W x).2.2.2 = [] ∧ (u y).1 = 2 ∧ (u y).2.2 = [] ∧ p' = p + 1)
    ∨ ((woV W x).1 = 2 ∧ (woV W x).2.2.2 = [] ∧ (u y).1 = 1 ∧ (u y).2.2 = [] ∧ (∃ j, j < 40 ∧ (u y).2.1 = Int32.ofNat (40 * m + j) ∧ woA W 60 (40 * m + j) = (woV W x).2.2.1) ∧ p' = p)
    ∨ ((woV W x).1 = 3 ∧ (woV W x).2.2.2 = [] ∧ (u y).1 = 3 ∧ (u y).2.2 = [] ∧ (∃ v, v < 16 ∧ (woV W x).2.2.1 = 2 + Int32.ofNat v ∧ (((u y).2.1 = -1 ∧ v = 0 ∧ cx ≠ []) ∨ ∃ j e, j < 40 ∧ (u y).2.1 = Int32.ofNat (40 * m + j) ∧ woA W 60 (40 * m + j) = Int32.ofNat e ∧ cx[v]? = some (some e))) ∧ p' = p)
    ∨ ((woV W x).1 = 4 ∧ ChW W m zn fn (u y).1 (u y).2.1 (woV W x).2.1 x ∧ ∃ c1 c2 d1 pm, (woV W x).2.2.2 = [c1, c2] ∧ RpN W m zn fn u hi g cx d1 c1 p pm ∧ (((u y).2.2 = [d1] ∧ (woV W c2).1 = 0 ∧ (woV W c2).2.2.2 = [] ∧ p' = pm) ∨ ∃ d2, (u y).2.2 = [d1, d2] ∧ RpN W m zn fn u hi g cx d2 c2 pm p'))
    ∨ ((woV W x).1 = 6 ∧ (u y).1 = 7 ∧ ∃ c d, (woV W x).2.2.2 = [c] ∧ (u y).2.2 = [d] ∧ RpN W m zn fn u hi g cx d c p p')
    ∨ ((woV W x).1 = 7 ∧ (u y).1 = 8 ∧ (∃ j, j < 40 ∧ (u y).2.1 = Int32.ofNat (40 * m + j) ∧ CdW W m zn (40 * m + j) (woV W x).2.1) ∧ ∃ c d, (woV W x).2.2.2 = [c] ∧ (u y).2.2 = [d] ∧ RpN W m zn fn u hi g cx d c p p')
    ∨ ((woV W x).1 = 8 ∧ (u y).1 = 9 ∧ 1 ≤ (u y).2.2.length ∧ RpLs (RpN W m zn fn u hi g cx) (u y).2.2 (woV W x).2.2.2 p p')
    ∨ ((woV W x).1 = 9 ∧ (u y).1 = 10 ∧ ∃ c d t, (woV W x).2.2.2 = [c] ∧ (u y).2.2 = [d] ∧ ((t = none ∧ (u y).2.1 = -1) ∨ ∃ j, j < 40 ∧ t = some (40 * m + j) ∧ (u y).2.1 = Int32.ofNat (40 * m + j)) ∧ RpN W m zn fn u hi g (t :: cx) d c p p'))
theorem RpLs.imp {R R' : Nat → Nat → Nat → Nat → Prop} (h : ∀ d c p q, R d c p q → R' d c p q) : ∀ (ds cs : List Nat) (p p' : Nat), RpLs R ds cs p p' → RpLs R' ds cs p p'
  | [], [], _, _, k => k
  | d :: ds, c :: cs, p, p', k => by
    obtain ⟨pm, k1, k2⟩ := k
    exact ⟨pm, h _ _ _ _ k1, RpLs.imp h ds cs pm p' k2⟩
  | [], _ :: _, _, _, k => k
  | _ :: _, [], _, _, k => k
section
variable {W : Wo} {m zn fn hi hi' : Nat} {u u' : Vwr}
theorem RpN.st (hu : ∀ z, 700 * m ≤ z → z < hi → u' z = u z) (hh : hi ≤ hi') : ∀ (g g' : Nat) (cx : List (Option Nat)) (y x p p' : Nat), g ≤ g' → RpN W m zn fn u hi g cx y x p p' → RpN W m zn fn u' hi' g' cx y x p p' := by
  intro g
  induction g with
  | zero => intro g' cx y x p p' _ h; unfold RpN at h; exact h.elim
  | succ g ih =>
    intro g' cx y x p p' hg h
    cases g' with
    | zero => omega
    | succ g' =>
      have hg : g ≤ g' := by omega
      unfold RpN at h ⊢
      obtain ⟨⟨h1, h2⟩, h⟩ := h
      rw [hu y h1 h2]
      refine ⟨⟨h1, by omega⟩, ?_⟩
      rcases h with ⟨a, c, b1, b2⟩ | ⟨a, b1, b2, b3⟩ | h | h | h | h | ⟨a, b1, c1, c2, d1, pm, b2, b3, b4⟩ | ⟨a, b1, c, d, b2, b3, b4⟩ | ⟨a, b1, b5, c, d, b2, b3, b4⟩ | ⟨a, b1, b2, b3⟩ | ⟨a, b1, c, d, t, b2, b3, b4, b5⟩
      · exact Or.inl ⟨a, c, b1, ih _ _ _ _ _ _ hg b2⟩
      · exact Or.inr (Or.inl ⟨a, b1, b2, RpLs.imp (fun d c p q k => ih _ _ _ _ _ _ hg k) _ _ _ _ b3⟩)
      · exact Or.inr (Or.inr (Or.inl h))
      · exact Or.inr (Or.inr (Or.inr (Or.inl h)))
      · exact Or.inr (Or.inr (Or.inr (Or.inr (Or.inl h))))
      · exact Or.inr (Or.inr (Or.inr (Or.inr (Or.inr (Or.inl h)))))
      · refine Or.inr (Or.inr (Or.inr (Or.inr (Or.inr (Or.inr (Or.inl ⟨a, b1, c1, c2, d1, pm, b2, ih _ _ _ _ _ _ hg b3, ?_⟩))))))
        rcases b4 with b4 | ⟨d2, q1, q2⟩
        · exact Or.inl b4
        · exact Or.inr ⟨d2, q1, ih _ _ _ _ _ _ hg q2⟩
      · exact Or.inr (Or.inr (Or.inr (Or.inr (Or.inr (Or.inr (Or.inr (Or.inl ⟨a, b1, c, d, b2, b3, ih _ _ _ _ _ _ hg b4⟩)))))))
      · exact Or.inr (Or.inr (Or.inr (Or.inr (Or.inr (Or.inr (Or.inr (Or.inr (Or.inl ⟨a, b1, b5, c, d, b2, b3, ih _ _ _ _ _ _ hg b4⟩))))))))
      · exact Or.inr (Or.inr (Or.inr (Or.inr (Or.inr (Or.inr (Or.inr (Or.inr (Or.inr (Or.inl ⟨a, b1, b2, RpLs.imp (fun d c p q k => ih _ _ _ _ _ _ hg k) _ _ _ _ b3⟩)))))))))
      · exact Or.inr (Or.inr (Or.inr (Or.inr (Or.inr (Or.inr (Or.inr (Or.inr (Or.inr (Or.inr ⟨a, b1, c, d, t, b2, b3, b4, ih _ _ _ _ _ _ hg b5⟩)))))))))
theorem RpN.in {g : Nat} {cx : List (Option Nat)} {y x p p' : Nat} (h : RpN W m zn fn u hi g cx y x p p') : 700 * m ≤ y ∧ y < hi := by
  cases g with
  | zero => unfold RpN at h; exact h.elim
  | succ g => unfold RpN at h; exact h.1
/-! its makers -/
variable {g p p' pm x y c d c1 c2 d1 d2 j lo hw : Nat} {cx : List (Option Nat)} {l : Int32}
theorem N_se1 (hx : ndS (woV W) lo hw x 5 l [c]) (h : RpN W m zn fn u hi g cx y c p p') : RpN W m zn fn u hi (g + 1) cx y x p p' := by
  unfold RpN
  exact ⟨h.in, Or.inl ⟨hx.2.1, c, hx.2.2.2, h⟩⟩
theorem N_seq {ds cs : List Nat} {pt : Int32} (hy : 700 * m ≤ y ∧ y < hi) (hx : ndS (woV W) lo hw x 5 l cs) (hu : u y = (6, pt, ds)) (h2 : 2 ≤ ds.length) (h : RpLs (RpN W m zn fn u hi g cx) ds cs p p') : RpN W m zn fn u hi (g + 1) cx y x p p' := by
  unfold RpN
  rw [hu]
  exact ⟨hy, Or.inr (Or.inl ⟨hx.2.1, rfl, h2, by rw [hx.2.2.2]; exact h⟩)⟩
theorem N_no {pt : Int32} (hy : 700 * m ≤ y ∧ y < hi) (hx : lfS (woV W) lo hw x 0 l) (hu : u y = (0, pt, [])) : RpN W m zn fn u hi (g + 1) cx y x p p := by
  unfold RpN
  rw [hu]
  exact ⟨hy, Or.inr (Or.inr (Or.inl ⟨hx.2.1, hx.2.2.2, rfl, rfl, rfl⟩))⟩
theorem N_pa {pt : Int32} (hy : 700 * m ≤ y ∧ y < hi) (hx : lfS (woV W) lo hw x 1 (Int32.ofNat p)) (hu : u y = (2, pt, [])) : RpN W m zn fn u hi (g + 1) cx y x p (p + 1) := by
  unfold RpN
  rw [hu]
  exact ⟨hy, Or.inr (Or.inr (Or.inr (Or.inl ⟨hx.2.1, hx.2.2.1, hx.2.2.2, rfl, rfl, rfl⟩)))⟩
theorem N_em (hy : 700 * m ≤ y ∧ y < hi) (hx : lfS (woV W) lo hw x 2 l) (hj : j < 40) (hA : woA W 60 (40 * m + j) = l) (hu : u y = (1, Int32.ofNat (40 * m + j), [])) : RpN W m zn fn u hi (g + 1) cx y x p p := by
  unfold RpN
  rw [hu]
  exact ⟨hy, Or.inr (Or.inr (Or.inr (Or.inr (Or.inl ⟨hx.2.1, hx.2.2.2, rfl, rfl, ⟨j, hj, rfl, hA.trans hx.2.2.1.symm⟩, rfl⟩))))⟩
theorem N_ex0 (hy : 700 * m ≤ y ∧ y < hi) (hx : lfS (woV W) lo hw x 3 2) (hc : cx ≠ []) (hu : u y = (3, -1, [])) : RpN W m zn fn u hi (g + 1) cx y x p p := by
  unfold RpN
  rw [hu]
  exact ⟨hy, Or.inr (Or.inr (Or.inr (Or.inr (Or.inr (Or.inl ⟨hx.2.1, hx.2.2.2, rfl, rfl, ⟨0, by decide, hx.2.2.1, Or.inl ⟨rfl, rfl, hc⟩⟩, rfl⟩)))))⟩
theorem N_ex {v e : Nat} (hv : v < 16) (hy : 700 * m ≤ y ∧ y < hi) (hx : lfS (woV W) lo hw x 3 (2 + Int32.ofNat v)) (hj : j < 40) (hA : woA W 60 (40 * m + j) = Int32.ofNat e) (hc : cx[v]? = some (some e)) (hu : u y = (3, Int32.ofNat (40 * m + j), [])) : RpN W m zn fn u hi (g + 1) cx y x p p := by
  unfold RpN
  rw [hu]
  exact ⟨hy, Or.inr (Or.inr (Or.inr (Or.inr (Or.inr (Or.inl ⟨hx.2.1, hx.2.2.2, rfl, rfl, ⟨v, hv, hx.2.2.1, Or.inr ⟨j, e, hj, rfl, hA, hc⟩⟩, rfl⟩)))))⟩
theorem N_ch1 {so pt k : Int32} (hy : 700 * m ≤ y ∧ y < hi) (hx : ndS (woV W) lo hw x 4 l [c1, c2]) (hc : ChW W m zn fn so pt l x) (hu : u y = (so, pt, [d1])) (h : RpN W m zn fn u hi g cx d1 c1 p pm) (h2 : lfS (woV W) lo hw c2 0 k) : RpN W m zn fn u hi (g + 1) cx y x p pm := by
  unfold RpN
  rw [hu]
  exact ⟨hy, Or.inr (Or.inr (Or.inr (Or.inr (Or.inr (Or.inr (Or.inl ⟨hx.2.1, by rw [hx.2.2.1]; exact hc, c1, c2, d1, pm, hx.2.2.2, h, Or.inl ⟨rfl, h2.2.1, h2.2.2.2, rfl⟩⟩))))))⟩
theorem N_ch2 {so pt : Int32} (hy : 700 * m ≤ y ∧ y < hi) (hx : ndS (woV W) lo hw x 4 l [c1, c2]) (hc : ChW W m zn fn so pt l x) (hu : u y = (so, pt, [d1, d2])) (h : RpN W m zn fn u hi g cx d1 c1 p pm) (h2 : RpN W m zn fn u hi g cx d2 c2 pm p') : RpN W m zn fn u hi (g + 1) cx y x p p' := by
  unfold RpN
  rw [hu]
  exact ⟨hy, Or.inr (Or.inr (Or.inr (Or.inr (Or.inr (Or.inr (Or.inl ⟨hx.2.1, by rw [hx.2.2.1]; exact hc, c1, c2, d1, pm, hx.2.2.2, h, Or.inr ⟨d2, rfl, h2⟩⟩))))))⟩
theorem N_lo {pt : Int32} (hy : 700 * m ≤ y ∧ y < hi) (hx : ndS (woV W) lo hw x 6 l [c]) (hu : u y = (7, pt, [d])) (h : RpN W m zn fn u hi g cx d c p p') : RpN W m zn fn u hi (g + 1) cx y x p p' := by
  unfold RpN
  rw [hu]
  exact ⟨hy, Or.inr (Or.inr (Or.inr (Or.inr (Or.inr (Or.inr (Or.inr (Or.inl ⟨hx.2.1, rfl, c, d, hx.2.2.2, rfl, h⟩)))))))⟩
theorem N_su (hy : 700 * m ≤ y ∧ y < hi) (hx : ndS (woV W) lo hw x 7 l [c]) (hj : j < 40) (hc : CdW W m zn (40 * m + j) l) (hu : u y = (8, Int32.ofNat (40 * m + j), [d])) (h : RpN W m zn fn u hi g cx d c p p') : RpN W m zn fn u hi (g + 1) cx y x p p' := by
  unfold RpN
  rw [hu]
  exact ⟨hy, Or.inr (Or.inr (Or.inr (Or.inr (Or.inr (Or.inr (Or.inr (Or.inr (Or.inl ⟨hx.2.1, rfl, ⟨j, hj, rfl, by rw [hx.2.2.1]; exact hc⟩, c, d, hx.2.2.2, rfl, h⟩))))))))⟩
theorem N_al {ds cs : List Nat} {pt : Int32} (hy : 700 * m ≤ y ∧ y < hi) (hx : ndS (woV W) lo hw x 8 l cs) (hu : u y = (9, pt, ds)) (h1 : 1 ≤ ds.length) (h : RpLs (RpN W m zn fn u hi g cx) ds cs p p') : RpN W m zn fn u hi (g + 1) cx y x p p' := by
  unfold RpN
  rw [hu]
  exact ⟨hy, Or.inr (Or.inr (Or.inr (Or.inr (Or.inr (Or.inr (Or.inr (Or.inr (Or.inr (Or.inl ⟨hx.2.1, rfl, h1, by rw [hx.2.2.2]; exact h⟩)))))))))⟩
theorem N_tr0 (hy : 700 * m ≤ y ∧ y < hi) (hx : ndS (woV W) lo hw x 9 l [c]) (hu : u y = (10, -1, [d])) (h : RpN W m zn fn u hi g (none :: cx) d c p p') : RpN W m zn fn u hi (g + 1) cx y x p p' := by
  unfold RpN
  rw [hu]
  exact ⟨hy, Or.inr (Or.inr (Or.inr (Or.inr (Or.inr (Or.inr (Or.inr (Or.inr (Or.inr (Or.inr ⟨hx.2.1, rfl, c, d, none, hx.2.2.2, rfl, Or.inl ⟨rfl, rfl⟩, h⟩)))))))))⟩
theorem N_tr (hy : 700 * m ≤ y ∧ y < hi) (hx : ndS (woV W) lo hw x 9 l [c]) (hj : j < 40) (hu : u y = (10, Int32.ofNat (40 * m + j), [d])) (h : RpN W m zn fn u hi g (some (40 * m + j) :: cx) d c p p') : RpN W m zn fn u hi (g + 1) cx y x p p' := by
  unfold RpN
  rw [hu]
  exact ⟨hy, Or.inr (Or.inr (Or.inr (Or.inr (Or.inr (Or.inr (Or.inr (Or.inr (Or.inr (Or.inr ⟨hx.2.1, rfl, c, d, some (40 * m + j), hx.2.2.2, rfl, Or.inr ⟨j, hj, rfl, rfl⟩, h⟩)))))))))⟩
end
/-! pairs below a pair -/
def chV (W : Wo) (x : Nat) : List Nat := (woV W x).2.2.2
def Z1 (W : Wo) (m : Nat) (u : Vwr) (hi : Nat) (a b : Nat × Nat) : Prop := (700 * m ≤ a.1 ∧ a.1 < hi) ∧ (((woV W a.2).1 = 5 ∧ chV W a.2 = [b.2] ∧ b.1 = a.1) ∨ (¬ ((woV W a.2).1 = 5 ∧ (chV W a.2).length = 1) ∧ b ∈ (u a.1).2.2.zip (chV W a.2)))
def DsI (W : Wo) (m : Nat) (u : Vwr) (hi : Nat) : Nat → Nat × Nat → Nat × Nat → Prop
  | 0, a, b => a = b
  | n + 1, a, b => ∃ c, Z1 W m u hi a c ∧ DsI W m u hi n c b
def DsN (W : Wo) (m : Nat) (u : Vwr) (hi y x d c : Nat) : Prop := ∃ n, DsI W m u hi n (y, x) (d, c)
section
variable {W : Wo} {m hi hi' y x d c d2 c2 lo hw : Nat} {u u' : Vwr} {k l so pt : Int32} {ds cs : List Nat}
theorem RpLs.ln {R : Nat → Nat → Nat → Nat → Prop} : ∀ (ds cs : List Nat) (p p' : Nat), RpLs R ds cs p p' → ds.length = cs.length
  | [], [], _, _, _ => rfl
  | d :: ds, c :: cs, p, p', ⟨pm, _, k2⟩ => by
    show ds.length + 1 = cs.length + 1
    rw [RpLs.ln ds cs pm p' k2]
  | [], _ :: _, _, _, k => k.elim
  | _ :: _, [], _, _, k => k.elim
theorem DsN.rf : DsN W m u hi y x y x := ⟨0, rfl⟩
theorem DsI.tr {b e : Nat × Nat} : ∀ (n n' : Nat) (a : Nat × Nat), DsI W m u hi n a b → DsI W m u hi n' b e → DsI W m u hi (n + n') a e
  | 0, n', a, h, k => by
    have h : a = b := h
    rw [h, Nat.zero_add]; exact k
  | n + 1, n', a, ⟨c, h1, h2⟩, k => by
    rw [Nat.add_right_comm]
    exact ⟨c, h1, DsI.tr n n' c h2 k⟩
theorem DsN.tr (h : DsN W m u hi y x d c) (k : DsN W m u hi d c d2 c2) : DsN W m u hi y x d2 c2 := by
  obtain ⟨n, h⟩ := h
  obtain ⟨n', k⟩ := k
  exact ⟨n + n', DsI.tr n n' _ h k⟩
theorem DsI.st (hu : ∀ z, 700 * m ≤ z → z < hi → u' z = u z) (hh : hi ≤ hi') {b : Nat × Nat} : ∀ (n : Nat) (a : Nat × Nat), DsI W m u hi n a b → DsI W m u' hi' n a b
  | 0, _, h => h
  | n + 1, a, ⟨c, ⟨⟨h1, h2⟩, h3⟩, h4⟩ => ⟨c, ⟨⟨h1, by omega⟩, by rw [hu a.1 h1 h2]; exact h3⟩, DsI.st hu hh n c h4⟩
theorem DsN.st (hu : ∀ z, 700 * m ≤ z → z < hi → u' z = u z) (hh : hi ≤ hi') (h : DsN W m u hi y x d c) : DsN W m u' hi' y x d c := by
  obtain ⟨n, h⟩ := h
  exact ⟨n, DsI.st hu hh n _ h⟩
theorem DsN.o1 (hy : 700 * m ≤ y ∧ y < hi) (hx : ndS (woV W) lo hw x 5 l [c]) : DsN W m u hi y x y c := ⟨1, (y, c), ⟨hy, Or.inl ⟨hx.2.1, hx.2.2.2, rfl⟩⟩, rfl⟩
theorem DsN.ch (hy : 700 * m ≤ y ∧ y < hi) (hx : ndS (woV W) lo hw x k l cs) (hu : u y = (so, pt, ds)) (hne : k ≠ 5 ∨ cs.length ≠ 1) (hm : (d, c) ∈ ds.zip cs) : DsN W m u hi y x d c := by
  refine ⟨1, (d, c), ⟨hy, Or.inr ⟨fun z => ?_, ?_⟩⟩, rfl⟩
  · have z1 : (woV W x).1 = 5 := z.1
    have z2 : (woV W x).2.2.2.length = 1 := z.2
    rw [hx.2.1] at z1
    rw [hx.2.2.2] at z2
    rcases hne with w | w
    · exact w z1
    · exact w z2
  · show (d, c) ∈ (u y).2.2.zip (woV W x).2.2.2
    rw [hu, hx.2.2.2]
    exact hm
theorem FrB.dsn {S S' : RBs} {G G' : Nat → List Nat} {H : Nat → Prop} (f : FrB m S G S' G' H) (h : DsN W m (vwR S G) (700 * m + S.1) y x d c) : DsN W m (vwR S' G') (700 * m + S'.1) y x d c := DsN.st (fun z h1 h2 => (f.2.1 z h1 h2).1) (by have := f.1; omega) h
end
end
