/-! a part, hung on a row, and more of the row -/
section
variable {b : Nat → Int32} {n s m : Nat} {τ : Td}
theorem RXE.g0 {K : List KE} {i : Nat} {σ : PS} {r : Nat × PS × Nat} (h : RXE b n s m τ 0 K i σ 0 0 0 0 0 0 r) (hS : Sto b n s) (h4 : m < 4) : FrP0 m K i σ r := by
  obtain ⟨g, e⟩ := h.2
  exact (rp_fr hS h4 g).1 K i σ r h.1.1 e
theorem RXE.g1 {K : List KE} {i a1 : Nat} {σ : PS} {r : Nat × PS × Nat} (h : RXE b n s m τ 1 K i σ a1 0 0 0 0 0 r) (hS : Sto b n s) (h4 : m < 4) : FrP1 m K i σ a1 r := by
  obtain ⟨g, e⟩ := h.2
  exact (rp_fr hS h4 g).2.1 K i σ a1 r h.1.1 e
theorem RXE.g2 {K : List KE} {i : Nat} {σ : PS} {r : Nat × PS × Nat} (h : RXE b n s m τ 2 K i σ 0 0 0 0 0 0 r) (hS : Sto b n s) (h4 : m < 4) : FrP2 m K i σ r := by
  obtain ⟨g, e⟩ := h.2
  exact (rp_fr hS h4 g).2.2.1 K i σ r h.1.1 e
theorem RXE.g3 {K : List KE} {i a1 a2 a3 a4 : Nat} {c1 c2 : Int32} {σ : PS} {r : Nat × PS × Nat} (h : RXE b n s m τ 3 K i σ a1 a2 a3 a4 c1 c2 r) (hS : Sto b n s) (h4 : m < 4) : FrP3 m K i σ a1 a2 a3 a4 c1 c2 r := by
  obtain ⟨g, e⟩ := h.2
  exact (rp_fr hS h4 g).2.2.2 K i σ a1 a2 a3 a4 c1 c2 r h.1.1 e
theorem RXE.x0 {K : List KE} {i : Nat} {σ : PS} {r : Nat × PS × Nat} (h : RXE b n s m τ 0 K i σ 0 0 0 0 0 0 r) (hS : Sto b n s) (h4 : m < 4) (hv : HvT τ) (hX : r.2.1.2.2.1.length < 900) : GR m (npS σ) (npS r.2.1) r.2.1 (giS σ) (usS σ) := by
  obtain ⟨g, e⟩ := h.2
  exact ((rp_X hS h4 hv g).1 K i σ r h.1.1 e hX).2 hX
theorem RXE.x2 {K : List KE} {i : Nat} {σ : PS} {r : Nat × PS × Nat} (h : RXE b n s m τ 2 K i σ 0 0 0 0 0 0 r) (hS : Sto b n s) (h4 : m < 4) (hv : HvT τ) (hX : r.2.1.2.2.1.length < 900) : GR m (npS σ) (npS r.2.1) r.2.1 (giS σ) (usS σ) := by
  obtain ⟨g, e⟩ := h.2
  exact ((rp_X hS h4 hv g).2.2.1 K i σ r h.1.1 e hX).2 hX
theorem RXE.x3 {K : List KE} {i a1 a2 a3 a4 : Nat} {c1 c2 : Int32} {σ : PS} {r : Nat × PS × Nat} (h : RXE b n s m τ 3 K i σ a1 a2 a3 a4 c1 c2 r) (hS : Sto b n s) (h4 : m < 4) (hv : HvT τ) (hX : r.2.1.2.2.1.length < 900) : GR m (npS σ) (npS r.2.1) r.2.1 c1 c2 := by
  obtain ⟨g, e⟩ := h.2
  exact ((rp_X hS h4 hv g).2.2.2 K i σ a1 a2 a3 a4 c1 c2 r h.1.1 e hX).2 hX
theorem ofN_ne {x y : Nat} (hx : x < 100000) (hy : y < 100000) (h : x ≠ y) : Int32.ofNat x ≠ Int32.ofNat y := fun z => h (inj32 (by omega) (by omega) z)
theorem t_step (hS : Sto b n s) (h4 : m < 4) (hv : HvT τ) {K : List KE} {i a : Nat} {σ : PS} {q r : Nat × PS × Nat} {γ : Gh} (R2 : RXE b n s m τ 2 K i σ 0 0 0 0 0 0 q) (p2 : P2T τ m K i σ q) (R1 : RXE b n s m τ 1 K q.1 (hgP q.2.1 a q.2.2) a 0 0 0 0 0 r) (p1 : P1T τ m K q.1 (hgP q.2.1 a q.2.2) a r) (hg : giT τ σ γ) (hi : (ifS σ).length = σ.1.1 2) (h6 : (trS r.2.1).1 ≤ 600) (hX : r.2.1.2.2.1.length < 900) (hXq : q.2.1.2.2.1.length ≤ r.2.1.2.2.1.length) (ha : okN1 σ a) : ∃ γ' g T jm rm pm, giT τ r.2.1 γ' ∧ gfT (fun z => z = a) noN σ γ r.2.1 γ' ∧ (ifS r.2.1).length = r.2.1.1.1 2 ∧ PaF (npS σ) none σ r.2.1 ∧ (r.2.2 = a ∧ okN1 r.2.1 a) ∧ γ'.1 a = γ.1 a ++ (q.2.2 :: T.map Prod.snd) ∧ TTs τ m r.2.1 γ' (trS σ).1 g 2 K 0 0 0 0 0 false (npS σ) jm (σ.1.1 4) rm (trS σ).2.1 pm [(npS σ, q.2.2)] ∧ TTs τ m r.2.1 γ' (trS σ).1 g 1 K 0 0 0 0 0 false jm (npS r.2.1) rm (r.2.1.1.1 4) pm (trS r.2.1).2.1 T ∧ r.2.1.1.2.1 74 (sqK K) = Int32.ofNat ((T.map fun e => 40 * m + e.1).getLastD (40 * m + npS σ)) ∧ ChA r.2.1.1.2.1 (40 * m + npS σ) (T.map fun e => 40 * m + e.1) ∧ r.2.1.1.2.1 73 (sqK K) = q.2.1.1.2.1 73 (sqK K) ∧ ∀ x, x < 40 * m + npS σ → r.2.1.1.2.1 70 x = q.2.1.1.2.1 70 x := by
  obtain ⟨f2, l2⟩ := R2.g2 hS h4
  have f1 := R1.g1 hS h4
  obtain ⟨⟨-, -, hP, -, hq, -⟩, ⟨v2, pq, -, -⟩, -⟩ := R2.1
  have hq : sqK K < σ.1.1 4 := hq (by decide)
  obtain ⟨-, ⟨v1, -, -, -⟩, -⟩ := R1.1
  have hn : npS σ ≤ npS q.2.1 := v2.1
  have hr4 : σ.1.1 4 ≤ q.2.1.1.1 4 := v2.2.1
  have hb : 40 * m + npS q.2.1 < 100000 := by have := pq.1; omega
  have t1 := hg.1.1.1
  have le1 : (trS (hgP q.2.1 a q.2.2)).1 = (trS q.2.1).1 := hgT_n.1
  have lq : (trS σ).1 ≤ (trS q.2.1).1 := v2.2.2.2.2 t1
  have lr : (trS q.2.1).1 ≤ (trS r.2.1).1 := by
    have := v1.2.2.2.2 (by rw [le1]; omega)
    rw [le1] at this
    exact this
  obtain ⟨γ2, g2, b1, b2, b3, b4, b5, b6⟩ := p2 γ hg hi (by omega) (by omega)
  obtain ⟨n1, n2, n3⟩ := b5
  have aq := b2.nd ha.1
  have ra : (trS q.2.1).2.2 9 a = 0 := (aq.2.2 (fun z => z)).trans ha.2
  obtain ⟨γ3, c1, c2, c3, c4, c5, c6⟩ := hg_gi b1 ⟨ha.1.1, aq.1.2.2⟩ ⟨by omega, n2⟩ (by have := ha.1.2; omega) ra n3
  have e73 : q.2.1.1.2.1 73 (sqK K) ≠ -1 := by
    by_cases z : σ.1.2.1 73 (sqK K) = -1
    · rw [l2.2.2.2.1 z]; exact nm32 (by omega)
    · rw [(l2.2.2.2.2 z).1]; exact z
  obtain ⟨γ4, g1, T, d1, d2, d3, d4, d5, d6, d7, d8, d9⟩ := p1 γ3 (40 * m + npS σ) c1 b3 h6 hX ⟨⟨ha.1.1, by rw [c4]; exact aq.1.2.2⟩, c6⟩ e73 (by have : npS σ < npS q.2.1 := (TT.le _ _ _ _ _ _ _ _ _ _ _ _ _ _ _ _ (by decide) b6).2.2.2 (by decide); show 40 * m + npS σ < 40 * m + npS q.2.1; omega) l2.2.1 l2.2.2.1
  obtain ⟨k1, k2, k3⟩ := f1 e73
  have k1 : FrK q.2.1.1.2.1 r.2.1.1.2.1 (40 * m + npS q.2.1) (q.2.1.1.1 4) (sqK K) := k1
  have gqr : gfT (fun z => z = a) (fun z => z = q.2.2) q.2.1 γ2 r.2.1 γ4 := c2.tr d2 (fun _ _ _ z => z) (fun _ _ _ z => z.elim)
  have suq := (R2.x2 hS h4 hv (by omega)).2.2
  refine ⟨γ4, max g1 g2, T, npS q.2.1, q.2.1.1.1 4, (trS q.2.1).2.1, d1, ?_, d3, fun x f h1 h2 => ?_, d5, ?_, ?_, ?_, d8, d9, k3, fun x hx => k1.2 x (by omega) (fun _ => ?_)⟩
  · refine (b2.more (O1 := fun z => z = a) (fun _ _ _ z => z.elim) (fun _ _ _ z => z)).tr gqr (fun _ _ _ z => z) (fun y _ h2 z => ?_)
    exact absurd (show y = q.2.2 from z) (by omega)
  · rw [d4 x f (by show x < npS q.2.1; omega) h2]
    exact b4 x f h1 h2
  · rw [d6, c3, aq.2.1 (fun z => z)]
    simp only [List.append_assoc]
    rfl
  · refine TTs.st b6 (by decide) (by omega) (Nat.le_refl _) h4 b1 gqr ?_ (by omega) suq t1 (fun y h1 h2 z => ?_) (fun z => absurd z (by decide)) (fun z => absurd z (by decide))
    · refine AKp.tr (σ1 := hgP q.2.1 a q.2.2) (AKp.of rfl rfl) ?_
      refine AKp.pc (q := sqK K) v1 k1 (fun x f h1 h2 => d4 x f h2 (fun _ z => by cases z)) (Nat.le_refl _) (Nat.le_refl _) (Nat.le_refl _) (Or.inl hq) (fun _ P h1 h2 => ?_)
      show q.2.1.1.2.1 74 (sqK K) ≠ _
      rw [l2.2.1]
      exact ofN_ne (by omega) (by omega) (by omega)
    · have : y = a := z
      have := ha.1.2
      omega
  · have d7 : TT _ m _ _ (trS (hgP q.2.1 a q.2.2)).1 _ g1 1 K 0 0 0 0 0 false (npS q.2.1) (npS r.2.1) (q.2.1.1.1 4) (r.2.1.1.1 4) (trS (hgP q.2.1 a q.2.2)).2.1 (trS r.2.1).2.1 T := d7
    rw [c4, c5] at d7
    exact d7.wd (by decide) (by omega) (Nat.le_refl _) (Nat.le_refl _) lq (Nat.le_refl _)
  · rw [l2.2.1]
    exact ofN_ne (by omega) (by omega) (by omega)
theorem t_c0 (hS : Sto b n s) (h4 : m < 4) (hv : HvT τ) {K : List KE} {i : Nat} {σ : PS} {q r : Nat × PS × Nat} (hR : RXE b n s m τ 0 K i σ 0 0 0 0 0 0 r) (R2 : RXE b n s m τ 2 K i (trP1 σ (mkT (trS σ) 5).1) 0 0 0 0 0 0 q) (p2 : P2T τ m K i (trP1 σ (mkT (trS σ) 5).1) q) (R1 : RXE b n s m τ 1 K q.1 (hgP q.2.1 (mkT (trS σ) 5).2 q.2.2) (mkT (trS σ) 5).2 0 0 0 0 0 r) (p1 : P1T τ m K q.1 (hgP q.2.1 (mkT (trS σ) 5).2 q.2.2) (mkT (trS σ) 5).2 r) (hXq : q.2.1.2.2.1.length ≤ r.2.1.2.2.1.length) : P0T τ m K i σ r := by
  intro γ hg hi h6 hX h73
  have t1 := hg.1.1.1
  obtain ⟨-, ⟨v0, -, -, -⟩, -⟩ := hR.1
  have lr : (trS σ).1 ≤ (trS r.2.1).1 := v0.2.2.2.2 t1
  obtain ⟨G1, nw, sh, -⟩ := W_mk (k := 5) hg.1 (by omega) (by decide)
  obtain ⟨u1, u2⟩ := gi_tr hg nw
  obtain ⟨n1, n2, n3, -⟩ := nw.2.2.1
  have np := nw.2.2.2
  have f2 := R2.g2 hS h4
  generalize mkT (trS σ) 5 = R at R2 p2 R1 p1 nw sh u1 u2 n1 n2 n3 np f2
  obtain ⟨γ', g, T, jm, rm, pm, a1, a2, a3, a4, ⟨a5, a6⟩, a7, a8, a9, b1, b2, b3, b4⟩ := t_step hS h4 hv R2 p2 R1 p1 u1 hi h6 hX hXq ⟨⟨by omega, n2⟩, n3⟩
  have kn := a2.nd (y := R.2) ⟨by omega, n2⟩
  refine ⟨γ', g + 1, a1, ?_, a3, a4, ⟨by rw [a5]; exact n1, by rw [a5]; exact a6.1.2, by rw [a5]; exact a6.2⟩, ?_⟩
  · refine u2.tr a2 (fun y _ h2 z => ?_) (fun _ _ _ z => z)
    have z : y = R.2 := z
    omega
  · have l2 : LkK σ.1.2.1 q.2.1.1.2.1 (40 * m + npS σ) (sqK K) := f2.2
    have np : R.1.2.1 = (trS σ).2.1 := np
    have a8 : TTs τ m r.2.1 γ' R.1.1 g 2 K 0 0 0 0 0 false (npS σ) jm (σ.1.1 4) rm R.1.2.1 pm [(npS σ, q.2.2)] := a8
    rw [np] at a8
    unfold TTs TT
    rw [if_pos rfl]
    have lo1 : (trS σ).1 ≤ R.1.1 := nw.2.1.1
    refine ⟨q.2.2, jm, rm, pm, T, R.2, by rw [a5], TT.wd a8 (by decide) (Nat.le_refl _) (Nat.le_refl _) (Nat.le_refl _) lo1 (Nat.le_refl _), TT.wd a9 (by decide) (Nat.le_refl _) (Nat.le_refl _) (Nat.le_refl _) lo1 (Nat.le_refl _), ⟨⟨n1, kn.1.2.2⟩, ?_, ?_, ?_⟩, ?_, b1, b2⟩
    · exact kn.1.1.trans sh.2.1
    · exact kn.1.2.1.trans sh.2.2.1
    · have e : γ'.1 R.2 = [] ++ (q.2.2 :: T.map Prod.snd) := by
        rw [a7]
        show G1 R.2 ++ _ = _
        have : G1 R.2 = [] := sh.2.2.2
        rw [this]
      exact e
    · exact b3.trans (l2.2.2.2.1 h73)
theorem t_c1m (hS : Sto b n s) (h4 : m < 4) (hv : HvT τ) {K : List KE} {i a : Nat} {σ : PS} {q r : Nat × PS × Nat} (R2 : RXE b n s m τ 2 K (i + 1) σ 0 0 0 0 0 0 q) (p2 : P2T τ m K (i + 1) σ q) (R1 : RXE b n s m τ 1 K q.1 (hgP q.2.1 a q.2.2) a 0 0 0 0 0 r) (p1 : P1T τ m K q.1 (hgP q.2.1 a q.2.2) a r) (hXq : q.2.1.2.2.1.length ≤ r.2.1.2.2.1.length) : P1T τ m K i σ a r := by
  intro γ x hg hi h6 hX ha h73 hx h74 h70
  obtain ⟨f2, l2⟩ := R2.g2 hS h4
  obtain ⟨γ', g, T, jm, rm, pm, a1, a2, a3, a4, a5, a7, a8, a9, b1, b2, b3, b4⟩ := t_step hS h4 hv R2 p2 R1 p1 hg hi h6 hX hXq ha
  refine ⟨γ', g + 1, (npS σ, q.2.2) :: T, a1, a2, a3, a4, a5, a7, ?_, ?_, ?_⟩
  · unfold TTs TT
    rw [if_neg (by decide), if_pos rfl]
    exact Or.inr ⟨q.2.2, jm, rm, pm, T, rfl, a8, a9⟩
  · rw [b1]
    show Int32.ofNat (List.getLastD (T.map fun e => 40 * m + e.1) (40 * m + npS σ)) = Int32.ofNat (List.getLastD ((40 * m + npS σ) :: T.map fun e => 40 * m + e.1) x)
    rw [List.getLastD_cons]
  · show r.2.1.1.2.1 70 x = Int32.ofNat (40 * m + npS σ) ∧ ChA r.2.1.1.2.1 (40 * m + npS σ) (T.map fun e => 40 * m + e.1)
    exact ⟨(b4 x hx).trans ((l2.2.2.2.2 h73).2 x hx h74), b2⟩
theorem t_c1e {K : List KE} {i a : Nat} {σ : PS} : P1T τ m K i σ a (i, σ, a) := by
  intro γ x hg hi h6 hX ha h73 hx h74 h70
  refine ⟨γ, 1, [], hg, gfT.rf, hi, fun _ _ _ _ => rfl, ⟨rfl, ha⟩, (List.append_nil _).symm, ?_, h74, h70⟩
  unfold TTs TT
  rw [if_neg (by decide), if_pos rfl]
  exact Or.inl ⟨rfl, rfl, rfl, rfl⟩
end
