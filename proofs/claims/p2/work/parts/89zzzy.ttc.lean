/-! choices: two rows, or one and nothing -/
section
variable {b : Nat → Int32} {n s m : Nat} {τ : Td}
/-- what a choice of kind k is: its node x with y, z -/
theorem ch_pk {W : Wo} {zn fn lo hi p pb j x y z : Nat} {k l : Int32} {K : List KE} {ys : List Nat} (hk : k = 44 ∨ k = 58) (h44 : k = 44 → CdW W m zn (40 * m + j) l) (h58 : k = 58 → ∃ f, f < fn ∧ woP W j 4 = Int32.ofNat f ∧ woF W f = l) (nd : ndS (woV W) lo hi x 4 l [y, z]) (hy : ys = [y, z] ∨ ys = [y] ∧ lfS (woV W) lo hi z 0 0) : PkS W m zn fn lo hi k K j p pb x ys := by
  unfold PkS
  rcases hk with e | e
  · rw [e, if_neg (by decide), if_neg (by decide), if_neg (by decide), if_neg (by decide), if_neg (by decide), if_neg (by decide), if_neg (by decide), if_pos rfl]
    exact ⟨y, z, l, h44 e, nd, hy⟩
  · obtain ⟨f, f1, f2, f3⟩ := h58 e
    rw [e, if_neg (by decide), if_neg (by decide), if_neg (by decide), if_neg (by decide), if_neg (by decide), if_neg (by decide), if_neg (by decide), if_neg (by decide), if_pos rfl]
    exact ⟨y, z, f, f1, f2, by rw [f3]; exact nd, hy⟩
theorem pa_ch {k : Int32} (hk : k = 44 ∨ k = 58) : paK k = 0 ∧ hpK k = 0 ∧ k ≠ 42 ∧ k ≠ 17 ∧ k ≠ 53 := by
  rcases hk with e | e <;> subst e <;> decide
theorem t_c2n (hB : By b) (hS : Sto b n s) (h4 : m < 4) (hv : HvT τ) {K : List KE} {i : Nat} {σ : PS} {h : Nat × PS × Nat × Bool × Nat × Option Int64} {q u : Nat × PS × Nat} (eo : okK (tK b n i) (tC b n i) K.length τ σ (tP b n i) = .ok ()) (hop : opnK (tK b n i) = true) (kc : tK b n i = 44 ∨ tK b n i = 58) (eh : hdM b n m τ (tK b n i) (npS σ) (i + 1) K (bgP m (tK b n i) (tP b n i) (sqK K) K.length (whK (tK b n i) (tC b n i) τ) σ) = .ok h) (hH : Hd m (npS σ) (bgP m (tK b n i) (tP b n i) (sqK K) K.length (whK (tK b n i) (tC b n i) τ) σ) h.2.1) (R0 : RXE b n s m τ 0 ((40 * m + npS σ, h.2.1.1.1 4, 1, h.2.2.2.2.2) :: K) h.1 (rwP (40 * m + npS σ) none h.2.1) 0 0 0 0 0 0 q) (p0 : P0T τ m ((40 * m + npS σ, h.2.1.1.1 4, 1, h.2.2.2.2.2) :: K) h.1 (rwP (40 * m + npS σ) none h.2.1) q) (ec : chM b n h.2.2.1 q.2.2 (mkT (trS q.2.1) 0).2 q.1 (trP1 q.2.1 (mkT (trS q.2.1) 0).1) = .ok u) : P2T τ m K i σ (u.1, fiP m (npS σ) u.2.2 u.2.1, u.2.2) := by
  intro γ hg hi h6 hX
  have h6 : (trS u.2.1).1 ≤ 600 := h6
  have hX : u.2.1.2.2.1.length < 900 := hX
  have t1 := hg.1.1.1
  have th : (trS σ).1 ≤ (trS h.2.1).1 := hH.2.2.2 t1
  have f0 := R0.g0 hS h4
  have su := fun hx => R0.x0 hS h4 hv hx
  obtain ⟨-, ⟨v0, -, -, -⟩, -⟩ := R0.1
  have tw : trS (rwP (40 * m + npS σ) none h.2.1) = trS h.2.1 := rfl
  have lw : (trS h.2.1).1 ≤ (trS q.2.1).1 := v0.2.2.2.2 (by rw [tw]; omega)
  obtain ⟨z1, z2, z3, z4, z5⟩ := pa_ch kc
  -- what the choice leaves
  have shp : u.2.1.2.2.1 = q.2.1.2.2.1 ∧ (trS q.2.1).1 ≤ (trS u.2.1).1 := by
    unfold chM at ec
    obtain ⟨i2, -, ec⟩ := bind_ok ec
    have e1 := (ts_mk (k := 0) (Θ := trS q.2.1) (by omega)).1
    generalize mkT (trS q.2.1) 0 = R at ec e1
    have e2 := (ts_ch (l := Int32.ofNat h.2.2.1) (c := q.2.2) (d := R.2) (Θ := R.1) (by omega)).1
    have ec : (Except.ok (i2, trP1 (trP1 q.2.1 R.1) (chT R.1 (Int32.ofNat h.2.2.1) q.2.2 R.2).1, (chT R.1 (Int32.ofNat h.2.2.1) q.2.2 R.2).2) : Except (Int32 × Nat) (Nat × PS × Nat)) = .ok u := ec
    generalize chT R.1 (Int32.ofNat h.2.2.1) q.2.2 R.2 = R2 at ec e2
    cases ec
    exact ⟨rfl, Nat.le_trans e1 e2⟩
  obtain ⟨eX, lq⟩ := shp
  obtain ⟨γ1, a1, a2, a3, a4, ⟨w1, w2, w3, w4⟩, a6, a7, ⟨a8, a9⟩, tp, x1, x2, x3, x4, x5, x6⟩ := t_hd hB hv hop eh hH hg hi (by omega)
  clear eh hH
  generalize rwP (40 * m + npS σ) none h.2.1 = σw at R0 p0 f0 su v0 tw a1 a2 a3 a4 w1 w2 w3 a6 a7 a8 a9 x1 x2 x3 x4 x5 x6
  have e73 : σw.1.2.1 73 (sqK ((40 * m + npS σ, h.2.1.1.1 4, 1, h.2.2.2.2.2) :: K)) = -1 := by
    show σw.1.2.1 73 (h.2.1.1.1 4) = -1
    rw [w4]; exact a8
  obtain ⟨γ2, g, b1, b2, b3, b4, ⟨b51, b52, b53⟩, b6⟩ := p0 γ1 a1 a3 (by omega) (by rw [← eX]; exact hX) e73
  obtain ⟨-, f75, -⟩ := f0 e73
  have hB0 : 40 * m + npS σ < 40 * m + npS σw := by omega
  have hj : npS σ < npS σw := by omega
  have pv : ∀ c, 58 ≤ c → c ≤ 72 → c ≠ 70 → q.2.1.1.2.1 c (40 * m + npS σ) = σw.1.2.1 c (40 * m + npS σ) := fun c z1 z2 z3 => v0.2.2.1 c z1 z2 z3 _ hB0
  have bq : BgS m (tK b n i) (npS σ) (σ.1.1 4) q.2.1 := a6.pv v0 hB0 (b4 _ 0 hj (fun z => absurd z (by decide)))
  have pq2 : q.2.1.2.1.1 (npS σ) 2 = 0 := (b4 _ 2 hj (fun _ z => by cases z)).trans a7
  rw [tw] at b51
  obtain ⟨G1, nw, -, sh⟩ := W_mk (k := 0) b1.1 (by omega) (by decide)
  obtain ⟨u1, u2⟩ := gi_tr b1 nw
  obtain ⟨n1, n2, n3, -⟩ := nw.2.2.1
  have np := nw.2.2.2
  generalize mkT (trS q.2.1) 0 = R at ec nw sh u1 u2 n1 n2 n3 np
  have ndx := u2.nd (y := q.2.2) ⟨by omega, b52⟩
  have n2 : R.2 < (trS (trP1 q.2.1 R.1)).1 := n2
  have h6m : (trS (trP1 q.2.1 R.1)).1 ≤ 600 := by
    unfold chM at ec
    obtain ⟨i2, -, ec⟩ := bind_ok ec
    have e2 := (ts_ch (l := Int32.ofNat h.2.2.1) (c := q.2.2) (d := R.2) (Θ := trS (trP1 q.2.1 R.1)) (by omega)).1
    generalize chT (trS (trP1 q.2.1 R.1)) (Int32.ofNat h.2.2.1) q.2.2 R.2 = R2 at ec e2
    cases ec
    exact Nat.le_trans e2 h6
  obtain ⟨T, G2, eu, nc, sc⟩ := ch_gi h6m u1 ⟨by omega, ndx.1.2.2⟩ ((ndx.2.2 (fun z => z)).trans b53) ⟨by omega, n2⟩ n3 (by omega) ec
  obtain ⟨m1, m2, m3, -⟩ := nc.2.2.1
  have mp := nc.2.2.2
  obtain ⟨y1, y2⟩ := gi_tr u1 nc
  have lm : (trS q.2.1).1 ≤ (trS (trP1 q.2.1 R.1)).1 := u2.1.1
  have lT : (trS (trP1 q.2.1 R.1)).1 ≤ T.1 := nc.2.1.1
  rw [eu] at h6 hX eX lq ⊢
  have kf : KcS (trP1 (trP1 q.2.1 R.1) T) (fiP m (npS σ) u.2.2 (trP1 (trP1 q.2.1 R.1) T)) := KcS.fi
  have gf : gfT noN noN (trP1 (trP1 q.2.1 R.1) T) (G2, γ2.2) (fiP m (npS σ) u.2.2 (trP1 (trP1 q.2.1 R.1) T)) (G2, γ2.2) := kf.gf ⟨[], (List.append_nil _).symm⟩
  have gqu : gfT noN (fun _ => True) q.2.1 γ2 (fiP m (npS σ) u.2.2 (trP1 (trP1 q.2.1 R.1) T)) (G2, γ2.2) := ((u2.more (H1 := fun _ => True) (fun _ _ _ z => z) (fun _ _ _ _ => trivial)).tr y2 (fun _ _ _ z => z) (fun _ _ _ _ => trivial)).tr gf (fun _ _ _ z => z) (fun _ _ _ _ => trivial)
  have gwq : gfT noN noN σw γ1 q.2.1 γ2 := b2
  refine ⟨(G2, γ2.2), g + 1, kf.gi y1, ?_, b3, fun x f h1 h2 => ?_, ⟨by show (trS σ).1 ≤ u.2.2; omega, m2, m3⟩, ?_⟩
  · refine (((a2.tr b2 (fun _ _ _ z => z) (fun _ _ _ z => z)).tr u2 (fun _ _ _ z => z) (fun _ _ _ z => z)).tr y2 (fun _ _ _ z => z) (fun y _ hy z => ?_)).tr gf (fun _ _ _ z => z) (fun _ _ _ z => z)
    have z : y = q.2.2 ∨ y = R.2 := z
    omega
  · show up2 q.2.1.2.1.1 (npS σ) 1 _ x f = _
    rw [up2_ne (fun z => by omega), b4 x f (by omega) h2, a4 x f h1 h2]
  · have bu : BgS m (tK b n i) (npS σ) (σ.1.1 4) (trP1 (trP1 q.2.1 R.1) T) := bq
    obtain ⟨pc, p69⟩ := bu.pc (τ := τ) (x := u.2.2) (γ := (G2, γ2.2)) (okK_ok eo).2.1
    have b6 : TTs τ m q.2.1 γ2 (trS σw).1 g 0 ((40 * m + npS σ, h.2.1.1.1 4, 1, h.2.2.2.2.2) :: K) 0 0 0 0 0 false (npS σw) (npS q.2.1) (σw.1.1 4) (q.2.1.1.1 4) (trS σw).2.1 (trS q.2.1).2.1 [(0, q.2.2)] := b6
    have ak : AKp m (npS σw) (npS q.2.1) (σw.1.1 4) (q.2.1.1.1 4) q.2.1 (fiP m (npS σ) u.2.2 (trP1 (trP1 q.2.1 R.1) T)) := AKp.tr (σ1 := trP1 (trP1 q.2.1 R.1) T) (AKp.of rfl rfl) (AKp.fi (Or.inl hj))
    have tt := TTs.st (g' := g) (lo' := (trS σ).1) b6 (by decide) (Nat.le_refl _) (by rw [tw]; exact th) h4 b1 gqu ak (by rw [← eX]; exact hX) (su (by rw [← eX]; exact hX)).2.2 (by rw [tw]; omega) (fun _ _ _ z => z) (fun _ => ⟨fi_A (fun z => absurd z.1 (by decide)), fi_A (fun z => absurd z.1 (by decide)), fi_A (fun z => absurd z.1 (by decide))⟩) (fun z => absurd z (by decide))
    rw [w1, w2, w3, w4] at tt
    unfold TTs TT
    rw [if_neg (by decide), if_neg (by decide), if_pos rfl]
    refine ⟨tK b n i, u.2.2, [q.2.2], (trS q.2.1).2.1, false, rfl, pc, PkS.fi (ch_pk (l := Int32.ofNat h.2.2.1) (y := q.2.2) (z := R.2) kc (fun z => ?_) (fun z => ?_) ?_ (Or.inr ⟨rfl, ?_⟩)), ?_, ?_, Or.inr (Or.inr ⟨hop, z4, p69, h.2.2.2.2.2, npS q.2.1, q.2.1.1.1 4, (trS q.2.1).2.1, q.2.2, tp, tt, Or.inl ⟨rfl, rfl, rfl, rfl, ?_⟩⟩)⟩
    · have c0 : CdW (woS τ m q.2.1 γ2) m q.2.1.2.2.2.length (40 * m + npS σ) (Int32.ofNat h.2.2.1) := (x1 (Or.inl z)).fw a1 b2 (pv 62 (by decide) (by decide) (by decide)) (pv 63 (by decide) (by decide) (by decide))
      exact c0
    · obtain ⟨f, f1, f2, f3⟩ := x2 z
      refine ⟨f, Nat.lt_of_lt_of_le f1 b2.len.2.2.1, (b4 _ 4 hj (fun z => absurd z (by decide))).trans f2, ?_⟩
      obtain ⟨U, e5⟩ := b2.2.2.2.2.1
      show (ifS q.2.1).getD f 0 = _
      rw [e5, gdA f1]
      exact f3
    · exact sc.st Sm.rf (by omega) (Nat.le_refl _)
    · exact sh.st (nc.sm (by omega) (Nat.le_refl _)) (by omega) lT
    · unfold ltK
      rw [if_neg z3, if_neg z4]
      show (fiP m (npS σ) u.2.2 (trP1 (trP1 q.2.1 R.1) T)).2.1.1 (npS σ) 2 = 0
      rw [fi_P (fun z => absurd z.2 (by decide))]
      exact pq2
    · show T.2.1 = _
      rw [mp, z1, z2]
      exact np
    · show (fiP m (npS σ) u.2.2 (trP1 (trP1 q.2.1 R.1) T)).1.2.1 75 (σ.1.1 4) = -1
      rw [fi_A (fun z => absurd z.1 (by decide)), ← w4]
      refine Eq.trans f75 ?_
      show σw.1.2.1 75 (h.2.1.1.1 4) = -1
      rw [w4]; exact a9
end
