/-! a part with rows is whole: one row and a tail; two rows; one row and nothing -/
section
variable {b : Nat → Int32} {n s m : Nat} {τ : Td}
theorem t_c2t (hB : By b) (hS : Sto b n s) (h4 : m < 4) (hv : HvT τ) {K : List KE} {i : Nat} {σ : PS} {h : Nat × PS × Nat × Bool × Nat × Option Int64} {q u : Nat × PS × Nat} (eo : okK (tK b n i) (tC b n i) K.length τ σ (tP b n i) = .ok ()) (hop : opnK (tK b n i) = true) (k17 : tK b n i ≠ 17) (kc : ¬ (tK b n i = 44 ∨ tK b n i = 58)) (eh : hdM b n m τ (tK b n i) (npS σ) (i + 1) K (bgP m (tK b n i) (tP b n i) (sqK K) K.length (whK (tK b n i) (tC b n i) τ) σ) = .ok h) (hH : Hd m (npS σ) (bgP m (tK b n i) (tP b n i) (sqK K) K.length (whK (tK b n i) (tC b n i) τ) σ) h.2.1) (R0 : RXE b n s m τ 0 ((40 * m + npS σ, h.2.1.1.1 4, 1, h.2.2.2.2.2) :: K) h.1 (rwP (40 * m + npS σ) none h.2.1) 0 0 0 0 0 0 q) (p0 : P0T τ m ((40 * m + npS σ, h.2.1.1.1 4, 1, h.2.2.2.2.2) :: K) h.1 (rwP (40 * m + npS σ) none h.2.1) q) (et : tlM b n m τ (tK b n i) (npS σ) h.2.2.2.2.1 h.2.2.1 q.2.2 q.1 (K.length + 1) q.2.1 = .ok u) (hN : HdN m (npS σ) q.2.1 u.2) : P2T τ m K i σ (u.1, fiP m (npS σ) u.2.2 u.2.1, u.2.2) := by
  intro γ hg hi h6 hX
  have h6 : (trS u.2.1).1 ≤ 600 := h6
  have hX : u.2.1.2.2.1.length < 900 := hX
  have t1 := hg.1.1.1
  have th : (trS σ).1 ≤ (trS h.2.1).1 := hH.2.2.2 t1
  have f0 := R0.g0 hS h4
  have su := fun hx => R0.x0 hS h4 hv hx
  obtain ⟨-, ⟨v0, -, -, -⟩, -⟩ := R0.1
  have tw : trS (rwP (40 * m + npS σ) none h.2.1) = trS h.2.1 := rfl
  have lw : (trS h.2.1).1 ≤ (trS q.2.1).1 := v0.2.2.2.2 (by rw [tw]; omega)
  have lq : (trS q.2.1).1 ≤ (trS u.2.1).1 := hN.1.2.2.2 (by omega)
  have eX : u.2.1.2.2.1 = q.2.1.2.2.1 := (tl_g et).2.2.1
  obtain ⟨γ1, a1, a2, a3, a4, ⟨w1, w2, w3, w4⟩, a6, a7, ⟨a8, a9⟩, tp, x1, x2, x3, x4, x5, x6⟩ := t_hd hB hv hop eh hH hg hi (by omega)
  have hk : tK b n i = 42 ∨ tK b n i = 49 ∨ tK b n i = 50 ∨ tK b n i = 52 ∨ tK b n i = 53 ∨ tK b n i = 55 := by
    unfold opnK at hop
    simp only [Bool.or_eq_true, beq_iff_eq] at hop
    rcases hop with ((((((((z | z) | z) | z) | z) | z) | z) | z) | z)
    · exact Or.inl z
    · exact absurd (Or.inl z) kc
    · exact Or.inr (Or.inl z)
    · exact Or.inr (Or.inr (Or.inl z))
    · exact Or.inr (Or.inr (Or.inr (Or.inl z)))
    · exact Or.inr (Or.inr (Or.inr (Or.inr (Or.inl z))))
    · exact Or.inr (Or.inr (Or.inr (Or.inr (Or.inr z))))
    · exact absurd (Or.inr z) kc
    · exact absurd z k17
  clear eh hH
  generalize rwP (40 * m + npS σ) none h.2.1 = σw at R0 p0 f0 su v0 tw a1 a2 a3 a4 w1 w2 w3 a6 a7 a8 a9 x1 x2 x3 x4 x5 x6
  have e73 : σw.1.2.1 73 (sqK ((40 * m + npS σ, h.2.1.1.1 4, 1, h.2.2.2.2.2) :: K)) = -1 := by
    show σw.1.2.1 73 (h.2.1.1.1 4) = -1
    rw [w4]; exact a8
  obtain ⟨γ2, g, b1, b2, b3, b4, ⟨b51, b52, b53⟩, b6⟩ := p0 γ1 a1 a3 (by omega) (by rw [← eX]; exact hX) e73
  obtain ⟨-, f75, -⟩ := f0 e73
  have hB0 : 40 * m + npS σ < 40 * m + npS σw := by omega
  have hj : npS σ < npS σw := by omega
  have pv : ∀ c, 58 ≤ c → c ≤ 72 → c ≠ 70 → q.2.1.1.2.1 c (40 * m + npS σ) = σw.1.2.1 c (40 * m + npS σ) := fun c z1 z2 z3 => v0.2.2.1 c z1 z2 z3 _ hB0
  have bq : BgS m (tK b n i) (npS σ) (σ.1.1 4) q.2.1 := a6.pv v0 hB0 (b4 _ 0 hj (fun z => absurd z (by decide)))
  have pq2 : q.2.1.2.1.1 (npS σ) 2 = 0 := (b4 _ 2 hj (fun _ z => by cases z)).trans a7
  rw [tw] at b51
  obtain ⟨γ3, c1, c2, c3, c4, c5, c6, c7, c8, c9, c10⟩ := tl_gi (K := K) (lo := (trS σ).1) (p := (trS σ).2.1) (by omega) b1 (fun z => (pv 61 (by decide) (by decide) (by decide)).trans (x6 z)) hk ⟨by omega, b52⟩ b53 (by omega) t1 (fun z => by
    obtain ⟨y1, y2⟩ := x4 (Or.inl z)
    have nd := b2.nd y2.1
    have aw := y2.1.2
    rw [tw] at aw
    exact ⟨⟨⟨y2.1.1, nd.1.2.2⟩, (nd.2.2 (fun z => z)).trans y2.2, by omega⟩, (x1 (Or.inr z)).fw a1 b2 (pv 62 (by decide) (by decide) (by decide)) (pv 63 (by decide) (by decide) (by decide)), h.2.2.2.1, (pv 61 (by decide) (by decide) (by decide)).trans (x3 z).1, (x3 z).2.st (b2.1.sm t1 (Nat.le_refl _) (fun _ _ _ z => z)) (Nat.le_refl _) b2.1.1⟩) et
  have kf : KcS u.2.1 (fiP m (npS σ) u.2.2 u.2.1) := KcS.fi
  have gf : gfT noN noN u.2.1 γ3 (fiP m (npS σ) u.2.2 u.2.1) γ3 := kf.gf ⟨[], (List.append_nil _).symm⟩
  have eu : npS u.2.1 = npS q.2.1 := by unfold npS; rw [hN.1.1]
  have eu4 : u.2.1.1.1 4 = q.2.1.1.1 4 := by rw [hN.1.1]
  have gqu : gfT noN (fun _ => True) q.2.1 γ2 (fiP m (npS σ) u.2.2 u.2.1) γ3 := (c2.more (H1 := fun _ => True) (fun _ _ _ z => z) (fun _ _ _ _ => trivial)).tr gf (fun _ _ _ z => z) (fun _ _ _ _ => trivial)
  refine ⟨γ3, g + 1, kf.gi c1, ?_, ?_, fun x f h1 h2 => ?_, ⟨by show (trS σ).1 ≤ u.2.2; omega, c3.2.1, c3.2.2⟩, ?_⟩
  · refine ((a2.tr b2 (fun _ _ _ z => z) (fun _ _ _ z => z)).tr c2 (fun _ _ _ z => z) (fun y _ hy z => ?_)).tr gf (fun _ _ _ z => z) (fun _ _ _ z => z)
    rcases z with z | ⟨z, z2⟩
    · omega
    · have := (x4 (Or.inl z)).1
      omega
  · show (ifS u.2.1).length = u.2.1.1.1 2
    rw [c10, b3, hN.1.1]
  · show up2 u.2.1.2.1.1 (npS σ) 1 _ x f = _
    rw [up2_ne (fun z => by omega), c6 x f (by omega), b4 x f (by omega) h2, a4 x f h1 h2]
  · have bu : BgS m (tK b n i) (npS σ) (σ.1.1 4) u.2.1 := bq.hd hN.1 (c7 0 (by decide))
    obtain ⟨pc, p69⟩ := bu.pc (τ := τ) (x := u.2.2) (γ := γ3) (okK_ok eo).2.1
    rw [eu] at pc
    have b6 : TTs τ m q.2.1 γ2 (trS σw).1 g 0 ((40 * m + npS σ, h.2.1.1.1 4, 1, h.2.2.2.2.2) :: K) 0 0 0 0 0 false (npS σw) (npS q.2.1) (σw.1.1 4) (q.2.1.1.1 4) (trS σw).2.1 (trS q.2.1).2.1 [(0, q.2.2)] := b6
    have tt := TTs.st (g' := g) (lo' := (trS σ).1) b6 (by decide) (Nat.le_refl _) (by rw [tw]; exact th) h4 b1 gqu ((AKp.hd hN.1 c6 (Or.inl hj)).tr (AKp.fi (Or.inl hj))) (by rw [← eX]; exact hX) (su (by rw [← eX]; exact hX)).2.2 (by rw [tw]; omega) (fun _ _ _ z => z) (fun _ => ⟨?_, ?_, ?_⟩) (fun z => absurd z (by decide))
    · rw [w1, w2, w3, w4] at tt
      unfold TTs TT
      rw [if_neg (by decide), if_neg (by decide), if_pos rfl]
      refine ⟨tK b n i, u.2.2, [q.2.2], (trS q.2.1).2.1, false, rfl, ?_, c5.fi, ?_, c4, Or.inr (Or.inr ⟨hop, k17, p69, h.2.2.2.2.2, npS q.2.1, q.2.1.1.1 4, (trS q.2.1).2.1, q.2.2, tp, tt, Or.inl ⟨rfl, eu, eu4, rfl, ?_⟩⟩)⟩
      · have e : npS (fiP m (npS σ) u.2.2 u.2.1) = npS q.2.1 := eu
        show PcS _ m _ _ (npS (fiP m (npS σ) u.2.2 u.2.1)) _
        rw [e]
        exact pc
      · unfold ltK
        have e2 : woP (woS τ m (fiP m (npS σ) u.2.2 u.2.1) γ3) (npS σ) 2 = u.2.1.2.1.1 (npS σ) 2 := by
          show (fiP m (npS σ) u.2.2 u.2.1).2.1.1 (npS σ) 2 = _
          rw [fi_P (fun z => absurd z.2 (by decide))]
        rw [e2]
        by_cases k42 : tK b n i = 42
        · rw [if_pos k42, c9 k42, pq2]
          have e13 : woC (woS τ m (fiP m (npS σ) u.2.2 u.2.1) γ3) (List.headD [q.2.2] 0) = (trS q.2.1).2.2 13 q.2.2 := c2.1.c13 (lo := 1) (Nat.le_refl _) (Nat.le_refl _) (fun _ _ _ z => z) q.2.2 (by omega) b52
          rw [e13]
        · rw [if_neg k42, if_neg k17, c8 k42]; exact pq2
      · show (fiP m (npS σ) u.2.2 u.2.1).1.2.1 75 (σ.1.1 4) = -1
        rw [fi_A (fun z => absurd z.1 (by decide)), hN.1.2.1 75 _ (Or.inr (Or.inl (by decide))), ← w4]
        refine Eq.trans f75 ?_
        show σw.1.2.1 75 (h.2.1.1.1 4) = -1
        rw [w4]; exact a9
    · refine Eq.trans (b := u.2.1.1.2.1 73 _) (fi_A (fun z => absurd z.1 (by decide))) ?_
      exact hN.1.2.1 73 _ (Or.inr (Or.inl (by decide)))
    · refine Eq.trans (b := u.2.1.1.2.1 74 _) (fi_A (fun z => absurd z.1 (by decide))) ?_
      exact hN.1.2.1 74 _ (Or.inr (Or.inl (by decide)))
    · refine Eq.trans (b := u.2.1.1.2.1 70 _) (fi_A (fun z => absurd z.1 (by decide))) ?_
      exact hN.1.2.1 70 _ (Or.inr (Or.inl (by decide)))
end
