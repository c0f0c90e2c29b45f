/-! branches -/
section
variable {b : Nat → Int32} {n s m : Nat} {τ : Td}
theorem br_gi {σ : PS} {γ : Gh} {j a x : Nat} {g u : Int32} (hg : giT τ σ γ) (ha : okN1 σ a) (hx : okN1 σ x) (hne : a ≠ x) : ∃ γ1, giT τ (brP σ j a x g u) γ1 ∧ gfT (fun z => z = a) (fun z => z = x) σ γ (brP σ j a x g u) γ1 ∧ γ1.1 a = γ.1 a ++ [x] ∧ okN1 (brP σ j a x g u) a ∧ (trS (brP σ j a x g u)).1 = (trS σ).1 ∧ (trS (brP σ j a x g u)).2.1 = (trS σ).2.1 ∧ ifS (brP σ j a x g u) = ifS σ ∧ (∀ y f, ¬ (y = j ∧ f = 2) → (brP σ j a x g u).2.1.1 y f = σ.2.1.1 y f) ∧ (brP σ j a x g u).2.1.1 j 2 = if giS σ &&& (g ||| u) = 0 ∧ usS σ &&& g = 0 then σ.2.1.1 j 2 else 8 := by
  unfold brP
  have main : ∀ σ1 : PS, KcS σ σ1 → σ1.2.2.1 = σ.2.2.1 → ∃ γ1, giT τ (guP (hgP σ1 a x) (g ||| giS σ) (u ||| usS σ)) γ1 ∧ gfT (fun z => z = a) (fun z => z = x) σ γ (guP (hgP σ1 a x) (g ||| giS σ) (u ||| usS σ)) γ1 ∧ γ1.1 a = γ.1 a ++ [x] ∧ okN1 (guP (hgP σ1 a x) (g ||| giS σ) (u ||| usS σ)) a ∧ (trS (guP (hgP σ1 a x) (g ||| giS σ) (u ||| usS σ))).1 = (trS σ).1 ∧ (trS (guP (hgP σ1 a x) (g ||| giS σ) (u ||| usS σ))).2.1 = (trS σ).2.1 ∧ ifS (guP (hgP σ1 a x) (g ||| giS σ) (u ||| usS σ)) = ifS σ := by
    intro σ1 kc eX
    have e5 := kc.2.2.2.2
    obtain ⟨γ1, c1, c2, c3, c4, c5, c6⟩ := hg_gi (kc.gi hg) (a := a) (c := x) (by rw [e5]; exact ha.1) (by rw [e5]; exact hx.1) hne (by rw [e5]; exact ha.2) (by rw [e5]; exact hx.2)
    have gk : gfT (fun z => z = a) (fun z => z = x) σ γ σ1 γ := kc.gf ⟨[], by rw [eX, List.append_nil]⟩
    have kg : KcS (hgP σ1 a x) (guP (hgP σ1 a x) (g ||| giS σ) (u ||| usS σ)) := KcS.gu
    have gg : gfT (fun z => z = a) (fun z => z = x) (hgP σ1 a x) γ1 (guP (hgP σ1 a x) (g ||| giS σ) (u ||| usS σ)) γ1 := kg.gf ⟨[], (List.append_nil _).symm⟩
    refine ⟨γ1, kg.gi c1, (gk.tr c2 (fun _ _ _ z => z) (fun _ _ _ z => z)).tr gg (fun _ _ _ z => z) (fun _ _ _ z => z), c3, ⟨⟨ha.1.1, ?_⟩, c6⟩, ?_, ?_, kc.2.2.1⟩
    · show a < (trS (hgP σ1 a x)).1
      rw [c4, e5]; exact ha.1.2
    · show (trS (hgP σ1 a x)).1 = _
      rw [c4, e5]
    · show (trS (hgP σ1 a x)).2.1 = _
      rw [c5, e5]
  by_cases hc : giS σ &&& (g ||| u) = 0 ∧ usS σ &&& g = 0
  · rw [if_pos hc, if_pos hc]
    obtain ⟨γ1, h1, h2, h3, h4, h5, h6, h7⟩ := main σ KcS.rf rfl
    exact ⟨γ1, h1, h2, h3, h4, h5, h6, h7, fun _ _ _ => rfl, rfl⟩
  · rw [if_neg hc, if_neg hc]
    obtain ⟨γ1, h1, h2, h3, h4, h5, h6, h7⟩ := main (paP σ j 2 8) KcS.pa rfl
    exact ⟨γ1, h1, h2, h3, h4, h5, h6, h7, fun y f hy => up2_ne (fun z => hy z), up2_eq⟩
theorem t_c2b (hB : By b) (hS : Sto b n s) (h4 : m < 4) (hv : HvT τ) {K : List KE} {i : Nat} {σ : PS} {h : Nat × PS × Nat × Bool × Nat × Option Int64} {q : Nat × PS × Nat} (eo : okK (tK b n i) (tC b n i) K.length τ σ (tP b n i) = .ok ()) (k17 : tK b n i = 17) (eh : hdM b n m τ (tK b n i) (npS σ) (i + 1) K (bgP m (tK b n i) (tP b n i) (sqK K) K.length (whK (tK b n i) (tC b n i) τ) σ) = .ok h) (hH : Hd m (npS σ) (bgP m (tK b n i) (tP b n i) (sqK K) K.length (whK (tK b n i) (tC b n i) τ) σ) h.2.1) (R3 : RXE b n s m τ 3 K h.1 (rwP (40 * m + npS σ) none h.2.1) h.2.2.2.2.1 (npS σ) (h.2.1.1.1 4) 1 0 0 q) (p3 : P3T τ m K h.1 (rwP (40 * m + npS σ) none h.2.1) h.2.2.2.2.1 (npS σ) (h.2.1.1.1 4) 1 0 0 q) : P2T τ m K i σ (q.1, fiP m (npS σ) q.2.2 (guP q.2.1 (giS σ ||| giS q.2.1) (usS σ ||| usS q.2.1)), q.2.2) := by
  intro γ hg hi h6 hX
  have h6 : (trS q.2.1).1 ≤ 600 := h6
  have hX : q.2.1.2.2.1.length < 900 := hX
  have hop : opnK (tK b n i) = true := by rw [k17]; decide
  have t1 := hg.1.1.1
  have th : (trS σ).1 ≤ (trS h.2.1).1 := hH.2.2.2 t1
  have su := R3.x3 hS h4 hv hX
  obtain ⟨-, ⟨v0, -, -, -⟩, -⟩ := R3.1
  have tw : trS (rwP (40 * m + npS σ) none h.2.1) = trS h.2.1 := rfl
  have lw : (trS h.2.1).1 ≤ (trS q.2.1).1 := v0.2.2.2.2 (by rw [tw]; omega)
  obtain ⟨γ1, a1, a2, a3, a4, ⟨w1, w2, w3, w4⟩, a6, a7, ⟨a8, a9⟩, tp, x1, x2, x3, x4, x5, x6⟩ := t_hd hB hv hop eh hH hg hi (by omega)
  clear eh hH
  generalize rwP (40 * m + npS σ) none h.2.1 = σw at R3 p3 su v0 tw a1 a2 a3 a4 w1 w2 w3 a6 a7 a8 a9 x1 x2 x3 x4 x5 x6
  obtain ⟨y1, y2⟩ := x4 (Or.inr k17)
  obtain ⟨y3, y4, y5⟩ := x5 k17
  obtain ⟨γ2, g, T, fl, b1, b2, b3, b4, ⟨b5, b5'⟩, b6, b7, b8⟩ := p3 γ1 a1 a3 h6 hX y2 (by rw [w4]; exact a8) (by rw [w4]; exact a9)
  have hB0 : 40 * m + npS σ < 40 * m + npS σw := by omega
  have hj : npS σ < npS σw := by omega
  have bq : BgS m (tK b n i) (npS σ) (σ.1.1 4) q.2.1 := a6.pv v0 hB0 (b4 _ 0 hj (fun z => absurd z (by decide)))
  have nda := b2.nd y2.1
  have kf : KcS q.2.1 (fiP m (npS σ) q.2.2 (guP q.2.1 (giS σ ||| giS q.2.1) (usS σ ||| usS q.2.1))) := ⟨rfl, rfl, rfl, rfl, rfl⟩
  have gf : ∀ {O H : Nat → Prop}, gfT O H q.2.1 γ2 (fiP m (npS σ) q.2.2 (guP q.2.1 (giS σ ||| giS q.2.1) (usS σ ||| usS q.2.1))) γ2 := kf.gf ⟨[], (List.append_nil _).symm⟩
  refine ⟨γ2, g + 1, kf.gi b1, ?_, b3, fun x f h1 h2 => ?_, ⟨by rw [b5]; exact y1, by rw [b5]; exact b5'.1.2, by rw [b5]; exact b5'.2⟩, ?_⟩
  · refine (a2.tr b2 (fun y _ hy z => ?_) (fun _ _ _ z => z)).tr gf (fun _ _ _ z => z) (fun _ _ _ z => z)
    have z : y = h.2.2.2.2.1 := z
    omega
  · show up2 q.2.1.2.1.1 (npS σ) 1 _ x f = _
    rw [up2_ne (fun z => by omega), b4 x f (by omega) (fun _ z => by cases z; omega), a4 x f h1 h2]
  · have bu : BgS m (tK b n i) (npS σ) (σ.1.1 4) (guP q.2.1 (giS σ ||| giS q.2.1) (usS σ ||| usS q.2.1)) := bq
    obtain ⟨pc, p69⟩ := bu.pc (τ := τ) (x := q.2.2) (γ := γ2) (okK_ok eo).2.1
    have b7 : TTs τ m q.2.1 γ2 (trS σw).1 g 3 K (npS σ) (h.2.1.1.1 4) 1 0 0 fl (npS σw) (npS q.2.1) (σw.1.1 4) (q.2.1.1.1 4) (trS σw).2.1 (trS q.2.1).2.1 T := b7
    have fiA : ∀ c x, c ≠ 71 → (fiP m (npS σ) q.2.2 (guP q.2.1 (giS σ ||| giS q.2.1) (usS σ ||| usS q.2.1))).1.2.1 c x = q.2.1.1.2.1 c x := fun c x hc => fi_A (fun z => hc z.1)
    have ak : AKp m (npS σw) (npS q.2.1) (σw.1.1 4) (q.2.1.1.1 4) q.2.1 (fiP m (npS σ) q.2.2 (guP q.2.1 (giS σ ||| giS q.2.1) (usS σ ||| usS q.2.1))) := AKp.tr (σ1 := guP q.2.1 (giS σ ||| giS q.2.1) (usS σ ||| usS q.2.1)) (AKp.of rfl rfl) (AKp.fi (Or.inl hj))
    have tt := TTs.st (O := noN) (H := noN) (g' := g) (lo' := (trS σ).1) b7 (by decide) (Nat.le_refl _) (by rw [tw]; exact th) h4 b1 gf ak hX su.2.2 (by rw [tw]; omega) (fun _ _ _ z => z) (fun z => absurd z (by decide)) (fun _ => ⟨fun c q1 q2 => fiA c _ (by omega), fiA 70 _ (by decide)⟩)
    rw [w1, w2, w3, w4] at tt
    have hp0 : hpK (tK b n i) = 0 := by rw [k17]; decide
    have pa0 : paK (tK b n i) = 0 := by rw [k17]; decide
    rw [hp0] at tt
    unfold TTs TT
    rw [if_neg (by decide), if_neg (by decide), if_pos rfl]
    refine ⟨tK b n i, q.2.2, T.map Prod.snd, (trS q.2.1).2.1, fl, rfl, pc, ?_, ?_, ?_, Or.inr (Or.inl ⟨k17, p69, T, rfl, tt⟩)⟩
    · refine PkS.fi ?_
      unfold PkS
      rw [k17, if_neg (by decide), if_neg (by decide), if_neg (by decide), if_neg (by decide), if_neg (by decide), if_neg (by decide), if_neg (by decide), if_neg (by decide), if_neg (by decide), if_neg (by decide), if_neg (by decide), if_neg (by decide), if_neg (by decide), if_neg (by decide), if_pos rfl, b5]
      refine ⟨⟨y1, b5'.1.2⟩, nda.1.1.trans y3, nda.1.2.1.trans y4, ?_⟩
      have e : γ2.1 h.2.2.2.2.1 = T.map Prod.snd := by rw [b6, y5]; rfl
      exact e
    · unfold ltK
      rw [if_neg (by rw [k17]; decide), if_pos k17]
      show (fiP m (npS σ) q.2.2 (guP q.2.1 (giS σ ||| giS q.2.1) (usS σ ||| usS q.2.1))).2.1.1 (npS σ) 2 = _
      rw [fi_P (fun z => absurd z.2 (by decide))]
      show q.2.1.2.1.1 (npS σ) 2 = _
      rw [b8, a7]
    · show (trS q.2.1).2.1 = _
      rw [pa0, hp0]
      rfl
end
