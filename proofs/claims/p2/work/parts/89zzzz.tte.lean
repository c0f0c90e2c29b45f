/-! a choice of two rows -/
section
variable {b : Nat → Int32} {n s m : Nat} {τ : Td}
theorem t_c2e (hB : By b) (hS : Sto b n s) (h4 : m < 4) (hv : HvT τ) {K : List KE} {i : Nat} {σ : PS} {h : Nat × PS × Nat × Bool × Nat × Option Int64} {q t u : Nat × PS × Nat} (eo : okK (tK b n i) (tC b n i) K.length τ σ (tP b n i) = .ok ()) (hop : opnK (tK b n i) = true) (kc : tK b n i = 44 ∨ tK b n i = 58) (eh : hdM b n m τ (tK b n i) (npS σ) (i + 1) K (bgP m (tK b n i) (tP b n i) (sqK K) K.length (whK (tK b n i) (tC b n i) τ) σ) = .ok h) (hH : Hd m (npS σ) (bgP m (tK b n i) (tP b n i) (sqK K) K.length (whK (tK b n i) (tC b n i) τ) σ) h.2.1) (R0 : RXE b n s m τ 0 ((40 * m + npS σ, h.2.1.1.1 4, 1, h.2.2.2.2.2) :: K) h.1 (rwP (40 * m + npS σ) none h.2.1) 0 0 0 0 0 0 q) (p0 : P0T τ m ((40 * m + npS σ, h.2.1.1.1 4, 1, h.2.2.2.2.2) :: K) h.1 (rwP (40 * m + npS σ) none h.2.1) q) (R4 : RXE b n s m τ 0 ((40 * m + npS σ, q.2.1.1.1 4, 2, none) :: K) (q.1 + 1) (rwP (40 * m + npS σ) (some (h.2.1.1.1 4)) q.2.1) 0 0 0 0 0 0 t) (p4 : P0T τ m ((40 * m + npS σ, q.2.1.1.1 4, 2, none) :: K) (q.1 + 1) (rwP (40 * m + npS σ) (some (h.2.1.1.1 4)) q.2.1) t) (ec : chM b n h.2.2.1 q.2.2 t.2.2 t.1 t.2.1 = .ok u) (hXq : q.2.1.2.2.1.length ≤ t.2.1.2.2.1.length) : P2T τ m K i σ (u.1, fiP m (npS σ) u.2.2 u.2.1, u.2.2) := by
  intro γ hg hi h6 hX
  have h6 : (trS u.2.1).1 ≤ 600 := h6
  have hX : u.2.1.2.2.1.length < 900 := hX
  have t1 := hg.1.1.1
  have th : (trS σ).1 ≤ (trS h.2.1).1 := hH.2.2.2 t1
  have f0 := R0.g0 hS h4
  have f4 := R4.g0 hS h4
  have su := fun hx => R0.x0 hS h4 hv hx
  have su4 := fun hx => R4.x0 hS h4 hv hx
  obtain ⟨-, ⟨v0, -, -, -⟩, -⟩ := R0.1
  obtain ⟨-, ⟨v4, -, -, -⟩, -⟩ := R4.1
  have tw : trS (rwP (40 * m + npS σ) none h.2.1) = trS h.2.1 := rfl
  have lw : (trS h.2.1).1 ≤ (trS q.2.1).1 := v0.2.2.2.2 (by rw [tw]; omega)
  have tv : trS (rwP (40 * m + npS σ) (some (h.2.1.1.1 4)) q.2.1) = trS q.2.1 := rfl
  have lv : (trS q.2.1).1 ≤ (trS t.2.1).1 := v4.2.2.2.2 (by rw [tv]; omega)
  obtain ⟨z1, z2, z3, z4, z5⟩ := pa_ch kc
  have shp : u.2.1.2.2.1 = t.2.1.2.2.1 ∧ (trS t.2.1).1 ≤ (trS u.2.1).1 := by
    unfold chM at ec
    obtain ⟨i2, -, ec⟩ := bind_ok ec
    have e2 := (ts_ch (l := Int32.ofNat h.2.2.1) (c := q.2.2) (d := t.2.2) (Θ := trS t.2.1) (by omega)).1
    generalize chT (trS t.2.1) (Int32.ofNat h.2.2.1) q.2.2 t.2.2 = R2 at ec e2
    cases ec
    exact ⟨rfl, e2⟩
  obtain ⟨eX, lq⟩ := shp
  obtain ⟨γ1, a1, a2, a3, a4, ⟨w1, w2, w3, w4⟩, a6, a7, ⟨a8, a9⟩, tp, x1, x2, x3, x4, x5, x6⟩ := t_hd hB hv hop eh hH hg hi (by omega)
  clear eh hH
  generalize rwP (40 * m + npS σ) none h.2.1 = σw at R0 p0 f0 su v0 tw a1 a2 a3 a4 w1 w2 w3 a6 a7 a8 a9 x1 x2 x3 x4 x5 x6
  have e73 : σw.1.2.1 73 (sqK ((40 * m + npS σ, h.2.1.1.1 4, 1, h.2.2.2.2.2) :: K)) = -1 := by
    show σw.1.2.1 73 (h.2.1.1.1 4) = -1
    rw [w4]; exact a8
  have hXt : t.2.1.2.2.1.length < 900 := by rw [← eX]; exact hX
  obtain ⟨γ2, g, b1, b2, b3, b4, ⟨b51, b52, b53⟩, b6⟩ := p0 γ1 a1 a3 (by omega) (by omega) e73
  have hB0 : 40 * m + npS σ < 40 * m + npS σw := by omega
  have hj : npS σ < npS σw := by omega
  have hjq : npS σw ≤ npS q.2.1 := v0.1
  have hrq : σw.1.1 4 ≤ q.2.1.1.1 4 := v0.2.1
  have pv : ∀ c, 58 ≤ c → c ≤ 72 → c ≠ 70 → q.2.1.1.2.1 c (40 * m + npS σ) = σw.1.2.1 c (40 * m + npS σ) := fun c z1 z2 z3 => v0.2.2.1 c z1 z2 z3 _ hB0
  have bq : BgS m (tK b n i) (npS σ) (σ.1.1 4) q.2.1 := a6.pv v0 hB0 (b4 _ 0 hj (fun z => absurd z (by decide)))
  have pq2 : q.2.1.2.1.1 (npS σ) 2 = 0 := (b4 _ 2 hj (fun _ z => by cases z)).trans a7
  rw [tw] at b51
  -- the second row
  have kv : KcS q.2.1 (rwP (40 * m + npS σ) (some (h.2.1.1.1 4)) q.2.1) := KcS.rw
  have gv : gfT noN noN q.2.1 γ2 (rwP (40 * m + npS σ) (some (h.2.1.1.1 4)) q.2.1) γ2 := kv.gf ⟨[], (List.append_nil _).symm⟩
  obtain ⟨o1, o2, o3⟩ := rs_lk (σ := q.2.1) (p := 40 * m + npS σ) (q := h.2.1.1.1 4)
  obtain ⟨y1, y2, y3⟩ := rw_n (σ := q.2.1) (p := 40 * m + npS σ) (q0 := some (h.2.1.1.1 4))
  have o4 : (rwP (40 * m + npS σ) (some (h.2.1.1.1 4)) q.2.1).1.2.1 75 (h.2.1.1.1 4) = Int32.ofNat (q.2.1.1.1 4) := up2_eq
  have o5 : (rwP (40 * m + npS σ) (some (h.2.1.1.1 4)) q.2.1).1.2.1 75 (q.2.1.1.1 4) = -1 := by
    show up2 (up2 (up2 (up2 q.2.1.1.2.1 73 (q.2.1.1.1 4) (-1)) 74 (q.2.1.1.1 4) (-1)) 75 (q.2.1.1.1 4) (-1)) 75 (h.2.1.1.1 4) _ 75 (q.2.1.1.1 4) = -1
    rw [up2_ne (fun z => by omega), up2_eq]
  have o6 : ∀ c x, c ≤ 72 → (rwP (40 * m + npS σ) (some (h.2.1.1.1 4)) q.2.1).1.2.1 c x = q.2.1.1.2.1 c x := fun c x hc => by
    show up2 (up2 (up2 (up2 q.2.1.1.2.1 73 (q.2.1.1.1 4) (-1)) 74 (q.2.1.1.1 4) (-1)) 75 (q.2.1.1.1 4) (-1)) 75 (h.2.1.1.1 4) _ c x = _
    rw [up2_ne (fun z => by omega), up2_ne (fun z => by omega), up2_ne (fun z => by omega), up2_ne (fun z => by omega)]
  have y5 : (rwP (40 * m + npS σ) (some (h.2.1.1.1 4)) q.2.1).1.1 2 = q.2.1.1.1 2 := by simp [rwP, va_up]
  have y6 : (rwP (40 * m + npS σ) (some (h.2.1.1.1 4)) q.2.1).2.1.1 = q.2.1.2.1.1 := rfl
  have ak0 : AKp m (npS σw) (npS q.2.1) (σw.1.1 4) (q.2.1.1.1 4) q.2.1 (rwP (40 * m + npS σ) (some (h.2.1.1.1 4)) q.2.1) := AKp.rs (Or.inl (by omega)) (Nat.le_refl _)
  have gi2 := kv.gi b1
  have if2 : (ifS (rwP (40 * m + npS σ) (some (h.2.1.1.1 4)) q.2.1)).length = (rwP (40 * m + npS σ) (some (h.2.1.1.1 4)) q.2.1).1.1 2 := by
    rw [y5, ← b3]; rfl
  generalize rwP (40 * m + npS σ) (some (h.2.1.1.1 4)) q.2.1 = σv at R4 p4 f4 su4 v4 tv kv gv o1 o2 o3 o4 o5 o6 y1 y2 y5 y6 ak0 gi2 if2
  have e73v : σv.1.2.1 73 (sqK ((40 * m + npS σ, q.2.1.1.1 4, 2, none) :: K)) = -1 := o3
  obtain ⟨γ3, g4, d1, d2, d3, d4, ⟨d51, d52, d53⟩, d6⟩ := p4 γ2 gi2 if2 (by omega) hXt e73v
  obtain ⟨f41, f42, f43⟩ := f4 e73v
  have f42 : t.2.1.1.2.1 75 (q.2.1.1.1 4) = σv.1.2.1 75 (q.2.1.1.1 4) := f42
  have f41 : FrK σv.1.2.1 t.2.1.1.2.1 (40 * m + npS σv) (σv.1.1 4) (q.2.1.1.1 4) := f41
  have hjv : npS σ < npS σv := by omega
  have hBv : 40 * m + npS σ < 40 * m + npS σv := by omega
  have o3' : σv.1.2.1 73 (q.2.1.1.1 4) = -1 := o3
  have gqt : gfT noN noN q.2.1 γ2 t.2.1 γ3 := gv.tr d2 (fun _ _ _ z => z) (fun _ _ _ z => z)
  have gwt : gfT noN noN σw γ1 t.2.1 γ3 := b2.tr gqt (fun _ _ _ z => z) (fun _ _ _ z => z)
  have pt : ∀ c, 58 ≤ c → c ≤ 72 → c ≠ 70 → t.2.1.1.2.1 c (40 * m + npS σ) = σw.1.2.1 c (40 * m + npS σ) := fun c q1 q2 q3 => ((v4.2.2.1 c q1 q2 q3 _ hBv).trans (o6 c _ q2)).trans (pv c q1 q2 q3)
  have bt : BgS m (tK b n i) (npS σ) (σ.1.1 4) t.2.1 := by
    have bv : BgS m (tK b n i) (npS σ) (σ.1.1 4) σv := by
      unfold BgS
      rw [o6 58 _ (by decide), o6 59 _ (by decide), o6 69 _ (by decide), y6]
      exact bq
    exact bv.pv v4 hBv (d4 _ 0 hjv (fun z => absurd z (by decide)))
  have pt2 : t.2.1.2.1.1 (npS σ) 2 = 0 := by rw [d4 _ 2 hjv (fun _ z => by cases z), y6]; exact pq2
  rw [tv] at d51
  have ndx := gqt.nd (y := q.2.2) ⟨by omega, b52⟩
  obtain ⟨T, G2, eu, nc, sc⟩ := ch_gi (by omega) d1 ⟨by omega, ndx.1.2.2⟩ ((ndx.2.2 (fun z => z)).trans b53) ⟨by omega, d52⟩ d53 (by omega) ec
  obtain ⟨m1, m2, m3, -⟩ := nc.2.2.1
  have mp := nc.2.2.2
  obtain ⟨r1, r2⟩ := gi_tr d1 nc
  have lT : (trS t.2.1).1 ≤ T.1 := nc.2.1.1
  rw [eu] at h6 hX eX lq ⊢
  have kf : KcS (trP1 t.2.1 T) (fiP m (npS σ) u.2.2 (trP1 t.2.1 T)) := KcS.fi
  have gf : gfT noN noN (trP1 t.2.1 T) (G2, γ3.2) (fiP m (npS σ) u.2.2 (trP1 t.2.1 T)) (G2, γ3.2) := kf.gf ⟨[], (List.append_nil _).symm⟩
  have gtu : gfT noN (fun _ => True) t.2.1 γ3 (fiP m (npS σ) u.2.2 (trP1 t.2.1 T)) (G2, γ3.2) := (r2.more (H1 := fun _ => True) (fun _ _ _ z => z) (fun _ _ _ _ => trivial)).tr gf (fun _ _ _ z => z) (fun _ _ _ _ => trivial)
  have gqu : gfT noN (fun _ => True) q.2.1 γ2 (fiP m (npS σ) u.2.2 (trP1 t.2.1 T)) (G2, γ3.2) := (gqt.more (H1 := fun _ => True) (fun _ _ _ z => z) (fun _ _ _ _ => trivial)).tr gtu (fun _ _ _ z => z) (fun _ _ _ _ => trivial)
  refine ⟨(G2, γ3.2), max g g4 + 1, kf.gi r1, ?_, d3, fun x f h1 h2 => ?_, ⟨by show (trS σ).1 ≤ u.2.2; omega, m2, m3⟩, ?_⟩
  · refine ((a2.tr gwt (fun _ _ _ z => z) (fun _ _ _ z => z)).tr r2 (fun _ _ _ z => z) (fun y _ hy z => ?_)).tr gf (fun _ _ _ z => z) (fun _ _ _ z => z)
    have z : y = q.2.2 ∨ y = t.2.2 := z
    omega
  · show up2 t.2.1.2.1.1 (npS σ) 1 _ x f = _
    rw [up2_ne (fun z => by omega), d4 x f (by omega) h2, y6, b4 x f (by omega) h2, a4 x f h1 h2]
  · have bu : BgS m (tK b n i) (npS σ) (σ.1.1 4) (trP1 t.2.1 T) := bt
    obtain ⟨pc, p69⟩ := bu.pc (τ := τ) (x := u.2.2) (γ := (G2, γ3.2)) (okK_ok eo).2.1
    have b6 : TTs τ m q.2.1 γ2 (trS σw).1 g 0 ((40 * m + npS σ, h.2.1.1.1 4, 1, h.2.2.2.2.2) :: K) 0 0 0 0 0 false (npS σw) (npS q.2.1) (σw.1.1 4) (q.2.1.1.1 4) (trS σw).2.1 (trS q.2.1).2.1 [(0, q.2.2)] := b6
    have d6 : TTs τ m t.2.1 γ3 (trS σv).1 g4 0 ((40 * m + npS σ, q.2.1.1.1 4, 2, none) :: K) 0 0 0 0 0 false (npS σv) (npS t.2.1) (σv.1.1 4) (t.2.1.1.1 4) (trS σv).2.1 (trS t.2.1).2.1 [(0, t.2.2)] := d6
    have akt : ∀ {ja jb ra rb : Nat}, npS σ < ja → AKp m ja jb ra rb t.2.1 (fiP m (npS σ) u.2.2 (trP1 t.2.1 T)) := fun hja => AKp.tr (σ1 := trP1 t.2.1 T) (AKp.of rfl rfl) (AKp.fi (Or.inl hja))
    have akv : AKp m (npS σw) (npS q.2.1) (σw.1.1 4) (q.2.1.1.1 4) σv t.2.1 := AKp.pc v4 f41 (fun x f h1 h2 => d4 x f (by omega) (fun _ z => by cases z)) (by omega) (by omega) (by omega) (Or.inr (Nat.le_refl _)) (fun z => absurd o3' z)
    have fiA : ∀ c x, c ≠ 71 → (fiP m (npS σ) u.2.2 (trP1 t.2.1 T)).1.2.1 c x = t.2.1.1.2.1 c x := fun c x hc => fi_A (fun z => hc z.1)
    have rowc : ∀ c, 73 ≤ c → c ≤ 75 → t.2.1.1.2.1 c (h.2.1.1.1 4) = σv.1.2.1 c (h.2.1.1.1 4) := fun c q1 q2 => f41.1 c _ q1 q2 (by omega) (by omega)
    have tt := TTs.st (g' := max g g4) (lo' := (trS σ).1) b6 (by decide) (by omega) (by rw [tw]; exact th) h4 b1 gqu ((ak0.tr akv).tr (akt hj)) (by omega) (su (by omega)).2.2 (by rw [tw]; omega) (fun _ _ _ z => z) (fun _ => ⟨(fiA 73 _ (by decide)).trans ((rowc 73 (by decide) (by decide)).trans (o1 73 _ (by decide) (by decide) (by show h.2.1.1.1 4 < q.2.1.1.1 4; omega) (fun z => absurd z.1 (by decide)))), (fiA 74 _ (by decide)).trans ((rowc 74 (by decide) (by decide)).trans (o1 74 _ (by decide) (by decide) (by show h.2.1.1.1 4 < q.2.1.1.1 4; omega) (fun z => absurd z.1 (by decide)))), (fiA 70 _ (by decide)).trans ((f41.2 _ (by have := (TT.le _ _ _ _ _ _ _ _ _ _ _ _ _ _ _ _ (by decide) b6).2.2.2 (by decide); omega) (fun z => absurd o3' z)).trans (o2 _))⟩) (fun z => absurd z (by decide))
    have tt4 := TTs.st (g' := max g g4) (lo' := (trS σ).1) d6 (by decide) (by omega) (by rw [tv]; omega) h4 d1 gtu (akt hjv) hXt (su4 hXt).2.2 (by rw [tv]; omega) (fun _ _ _ z => z) (fun _ => ⟨fiA 73 _ (by decide), fiA 74 _ (by decide), fiA 70 _ (by decide)⟩) (fun z => absurd z (by decide))
    rw [w1, w2, w3, w4] at tt
    rw [y1, y2, tv] at tt4
    unfold TTs TT
    rw [if_neg (by decide), if_neg (by decide), if_pos rfl]
    refine ⟨tK b n i, u.2.2, [q.2.2, t.2.2], (trS t.2.1).2.1, false, rfl, pc, PkS.fi (ch_pk (l := Int32.ofNat h.2.2.1) (y := q.2.2) (z := t.2.2) kc (fun z => ?_) (fun z => ?_) ?_ (Or.inl rfl)), ?_, ?_, Or.inr (Or.inr ⟨hop, z4, p69, h.2.2.2.2.2, npS q.2.1, q.2.1.1.1 4, (trS q.2.1).2.1, q.2.2, tp, tt, Or.inr ⟨kc, ?_, ?_, t.2.2, rfl, tt4⟩⟩)⟩
    · have c0 : CdW (woS τ m t.2.1 γ3) m t.2.1.2.2.2.length (40 * m + npS σ) (Int32.ofNat h.2.2.1) := (x1 (Or.inl z)).fw a1 gwt (pt 62 (by decide) (by decide) (by decide)) (pt 63 (by decide) (by decide) (by decide))
      exact c0
    · obtain ⟨f, f1, f2, f3⟩ := x2 z
      refine ⟨f, Nat.lt_of_lt_of_le f1 gwt.len.2.2.1, ?_, ?_⟩
      · refine Eq.trans (d4 _ 4 hjv (fun z => absurd z (by decide))) ?_
        rw [y6]
        exact (b4 _ 4 hj (fun z => absurd z (by decide))).trans f2
      · obtain ⟨U, e5⟩ := gwt.2.2.2.2.1
        show (ifS t.2.1).getD f 0 = _
        rw [e5, gdA f1]
        exact f3
    · exact sc.st Sm.rf (by omega) (Nat.le_refl _)
    · unfold ltK
      rw [if_neg z3, if_neg z4]
      show (fiP m (npS σ) u.2.2 (trP1 t.2.1 T)).2.1.1 (npS σ) 2 = 0
      rw [fi_P (fun z => absurd z.2 (by decide))]
      exact pt2
    · show T.2.1 = _
      rw [mp, z1, z2]
    · rw [← w4]
      exact (fiA 75 _ (by decide)).trans ((rowc 75 (by decide) (by decide)).trans o4)
    · exact (fiA 75 _ (by decide)).trans (f42.trans o5)
end
