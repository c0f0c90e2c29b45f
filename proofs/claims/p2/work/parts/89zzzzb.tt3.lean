/-! branches, one after another; the whole reading as a tree -/
section
variable {b : Nat → Int32} {n s m : Nat} {τ : Td}
theorem fl_if {A B : Prop} [Decidable A] [Decidable B] {f : Bool} {v w x : Int32} (h1 : w = if A ∧ B then v else 8) (h2 : x = if f = true then 8 else w) : x = if (!decide (A ∧ B) || f) = true then 8 else v := by
  by_cases hc : A ∧ B
  · rw [if_pos hc] at h1
    cases f with
    | true => rw [h2, if_pos rfl, if_pos (by simp)]
    | false => rw [h2, if_neg (by decide), h1, if_neg (by simp [hc])]
  · rw [if_neg hc] at h1
    cases f with
    | true => rw [h2, if_pos rfl, if_pos (by simp)]
    | false => rw [h2, if_neg (by decide), h1, if_pos (by simp [hc])]
theorem t_c3e (hS : Sto b n s) (h4 : m < 4) (hv : HvT τ) {K : List KE} {i a1 a2 a3 a4 : Nat} {c1 c2 : Int32} {σ : PS} {q : Nat × PS × Nat} (hR : RXE b n s m τ 3 K i σ a1 a2 a3 a4 c1 c2 (q.1 + 1, brP q.2.1 a2 a1 q.2.2 c1 c2, a1)) (R0 : RXE b n s m τ 0 ((40 * m + a2, a3, a4, none) :: K) i (guP σ 0 0) 0 0 0 0 0 0 q) (p0 : P0T τ m ((40 * m + a2, a3, a4, none) :: K) i (guP σ 0 0) q) : P3T τ m K i σ a1 a2 a3 a4 c1 c2 (q.1 + 1, brP q.2.1 a2 a1 q.2.2 c1 c2, a1) := by
  intro γ hg hi h6 hX ha h73 h75
  have bn := br_n (σ := q.2.1) (j := a2) (a := a1) (x := q.2.2) (g := c1) (u := c2)
  have h6 : (trS (brP q.2.1 a2 a1 q.2.2 c1 c2)).1 ≤ 600 := h6
  rw [bn.2] at h6
  have eX : (brP q.2.1 a2 a1 q.2.2 c1 c2).2.2.1 = q.2.1.2.2.1 := by unfold brP; split <;> rfl
  have hX : (brP q.2.1 a2 a1 q.2.2 c1 c2).2.2.1.length < 900 := hX
  rw [eX] at hX
  obtain ⟨⟨-, -, -, -, -, g3, -⟩, -⟩ := hR.1
  obtain ⟨-, -, ha2⟩ := g3 rfl
  have t1 := hg.1.1.1
  have kg : KcS σ (guP σ 0 0) := KcS.gu
  have gg : gfT noN noN σ γ (guP σ 0 0) γ := kg.gf ⟨[], (List.append_nil _).symm⟩
  obtain ⟨γ1, g, b1, b2, b3, b4, ⟨b51, b52, b53⟩, b6⟩ := p0 γ (kg.gi hg) hi h6 hX h73
  have b51 : (trS σ).1 ≤ q.2.2 := b51
  have b4 : PaF (npS σ) none σ q.2.1 := b4
  have b6 : TTs τ m q.2.1 γ1 (trS σ).1 g 0 ((40 * m + a2, a3, a4, none) :: K) 0 0 0 0 0 false (npS σ) (npS q.2.1) (σ.1.1 4) (q.2.1.1.1 4) (trS σ).2.1 (trS q.2.1).2.1 [(0, q.2.2)] := b6
  have b2 : gfT noN noN σ γ q.2.1 γ1 := gg.tr b2 (fun _ _ _ z => z) (fun _ _ _ z => z)
  obtain ⟨-, f75, -⟩ := R0.g0 hS h4 h73
  have f75 : q.2.1.1.2.1 75 a3 = σ.1.2.1 75 a3 := f75
  obtain ⟨s1, s2, s3⟩ := R0.x0 hS h4 hv hX
  have s1 : giS q.2.1 = orF (gvK q.2.1.1.2.1 m) (npS σ) (npS q.2.1) := by rw [s1]; exact Int32.zero_or
  have s2 : usS q.2.1 = orF (uvK q.2.1.1.2.1 q.2.1.2.2.1 m) (npS σ) (npS q.2.1) := by rw [s2]; exact Int32.zero_or
  have nda := b2.nd ha.1
  obtain ⟨γ2, d1, d2, d3, d4, d5, d6, d7, d8, d9⟩ := br_gi (j := a2) (g := c1) (u := c2) (a := a1) (x := q.2.2) b1 ⟨⟨ha.1.1, nda.1.2.2⟩, (nda.2.2 (fun z => z)).trans ha.2⟩ ⟨⟨by omega, b52⟩, b53⟩ (by have := ha.1.2; omega)
  refine ⟨γ2, g + 1, [(a3, q.2.2)], !decide (giS q.2.1 &&& (c1 ||| c2) = 0 ∧ usS q.2.1 &&& c1 = 0), d1, ?_, ?_, fun x f h1 h2 => ?_, ⟨rfl, d4⟩, ?_, ?_, ?_⟩
  · refine (b2.more (O1 := fun z => z = a1) (fun _ _ _ z => z.elim) (fun _ _ _ z => z)).tr d2 (fun _ _ _ z => z) (fun y _ hy z => ?_)
    have z : y = q.2.2 := z
    omega
  · show (ifS (brP q.2.1 a2 a1 q.2.2 c1 c2)).length = (brP q.2.1 a2 a1 q.2.2 c1 c2).1.1 2
    rw [d7, bn.1, b3]
  · show (brP q.2.1 a2 a1 q.2.2 c1 c2).2.1.1 x f = _
    rw [d8 x f (fun z => h2 z.2 (by rw [z.1])), b4 x f h1 (fun _ z => by cases z)]
  · rw [d3, nda.2.1 (fun z => z)]; rfl
  · have ak : AKp m (npS σ) (npS q.2.1) (σ.1.1 4) (q.2.1.1.1 4) q.2.1 (brP q.2.1 a2 a1 q.2.2 c1 c2) := ⟨fun _ _ _ _ _ _ _ => by rw [bn.1], fun _ _ _ => by rw [bn.1], fun _ _ _ _ _ _ => by rw [bn.1], fun x f z1 z2 => d8 x f (fun z => by omega)⟩
    have tt := TTs.st (g' := g) (lo' := (trS σ).1) b6 (by decide) (Nat.le_refl _) (Nat.le_refl _) h4 b1 d2 ak hX s3 t1 (fun y z1 z2 z => by
      have z : y = a1 := z
      have := ha.1.2
      omega) (fun _ => ⟨by rw [bn.1], by rw [bn.1], by rw [bn.1]⟩) (fun z => absurd z (by decide))
    have eg : orF (gvK (brP q.2.1 a2 a1 q.2.2 c1 c2).1.2.1 m) (npS σ) (npS q.2.1) = giS q.2.1 := by rw [bn.1, s1]
    have eu : orF (uvK (brP q.2.1 a2 a1 q.2.2 c1 c2).1.2.1 (brP q.2.1 a2 a1 q.2.2 c1 c2).2.2.1 m) (npS σ) (npS q.2.1) = usS q.2.1 := by rw [bn.1, eX, s2]
    unfold TTs TT
    rw [if_neg (by decide), if_neg (by decide), if_neg (by decide)]
    refine ⟨npS q.2.1, q.2.1.1.1 4, (trS q.2.1).2.1, q.2.2, tt, Or.inl ⟨rfl, ?_, ?_, ?_, ?_, ?_⟩⟩
    · show npS (brP q.2.1 a2 a1 q.2.2 c1 c2) = _
      unfold npS; rw [bn.1]
    · show (brP q.2.1 a2 a1 q.2.2 c1 c2).1.1 4 = _
      rw [bn.1]
    · exact d6
    · show (brP q.2.1 a2 a1 q.2.2 c1 c2).1.2.1 75 a3 = -1
      rw [bn.1, f75]; exact h75
    · have eg : woG (woS τ m (brP q.2.1 a2 a1 q.2.2 c1 c2) γ2) (npS σ) (npS q.2.1) = giS q.2.1 := eg
      have eu : woU (woS τ m (brP q.2.1 a2 a1 q.2.2 c1 c2) γ2) (npS σ) (npS q.2.1) = usS q.2.1 := eu
      rw [eg, eu]
  · refine Eq.trans (fl_if (f := false) (x := (brP q.2.1 a2 a1 q.2.2 c1 c2).2.1.1 a2 2) d9 (by rw [if_neg (by decide)])) ?_
    rw [Bool.or_false, b4 a2 2 ha2 (fun _ z => by cases z)]
theorem t_c3m (hS : Sto b n s) (h4 : m < 4) (hv : HvT τ) {K : List KE} {i a1 a2 a3 a4 : Nat} {c1 c2 : Int32} {σ : PS} {q r : Nat × PS × Nat} (hR : RXE b n s m τ 3 K i σ a1 a2 a3 a4 c1 c2 r) (R0 : RXE b n s m τ 0 ((40 * m + a2, a3, a4, none) :: K) i (guP σ 0 0) 0 0 0 0 0 0 q) (p0 : P0T τ m ((40 * m + a2, a3, a4, none) :: K) i (guP σ 0 0) q) (R3 : RXE b n s m τ 3 K (q.1 + 1) (rwP (40 * m + a2) (some a3) (brP q.2.1 a2 a1 q.2.2 c1 c2)) a1 a2 (q.2.1.1.1 4) (a4 + 1) (c1 ||| giS q.2.1) (c2 ||| usS q.2.1) r) (p3 : P3T τ m K (q.1 + 1) (rwP (40 * m + a2) (some a3) (brP q.2.1 a2 a1 q.2.2 c1 c2)) a1 a2 (q.2.1.1.1 4) (a4 + 1) (c1 ||| giS q.2.1) (c2 ||| usS q.2.1) r) (hXq : q.2.1.2.2.1.length ≤ r.2.1.2.2.1.length) : P3T τ m K i σ a1 a2 a3 a4 c1 c2 r := by
  intro γ hg hi h6 hX ha h73 h75
  have bn := br_n (σ := q.2.1) (j := a2) (a := a1) (x := q.2.2) (g := c1) (u := c2)
  have eX : (brP q.2.1 a2 a1 q.2.2 c1 c2).2.2.1 = q.2.1.2.2.1 := by unfold brP; split <;> rfl
  obtain ⟨⟨-, -, -, -, -, g3, -⟩, -⟩ := hR.1
  obtain ⟨-, ha3, ha2⟩ := g3 rfl
  have t1 := hg.1.1.1
  have kg : KcS σ (guP σ 0 0) := KcS.gu
  have gg : gfT noN noN σ γ (guP σ 0 0) γ := kg.gf ⟨[], (List.append_nil _).symm⟩
  obtain ⟨-, ⟨v0, pq, -, -⟩, -⟩ := R0.1
  have hn : npS σ ≤ npS q.2.1 := v0.1
  have hr4 : σ.1.1 4 ≤ q.2.1.1.1 4 := v0.2.1
  have lq : (trS σ).1 ≤ (trS q.2.1).1 := v0.2.2.2.2 t1
  obtain ⟨-, ⟨v3, -, -, -⟩, -⟩ := R3.1
  have tv : (trS (rwP (40 * m + a2) (some a3) (brP q.2.1 a2 a1 q.2.2 c1 c2))).1 = (trS q.2.1).1 := bn.2
  have lr : (trS q.2.1).1 ≤ (trS r.2.1).1 := by
    have := v3.2.2.2.2 (by rw [tv]; omega)
    rw [tv] at this
    exact this
  have hXq' : q.2.1.2.2.1.length < 900 := by omega
  obtain ⟨γ1, g, b1, b2, b3, b4, ⟨b51, b52, b53⟩, b6⟩ := p0 γ (kg.gi hg) hi (by omega) hXq' h73
  have b51 : (trS σ).1 ≤ q.2.2 := b51
  have b4 : PaF (npS σ) none σ q.2.1 := b4
  have b6 : TTs τ m q.2.1 γ1 (trS σ).1 g 0 ((40 * m + a2, a3, a4, none) :: K) 0 0 0 0 0 false (npS σ) (npS q.2.1) (σ.1.1 4) (q.2.1.1.1 4) (trS σ).2.1 (trS q.2.1).2.1 [(0, q.2.2)] := b6
  have b2 : gfT noN noN σ γ q.2.1 γ1 := gg.tr b2 (fun _ _ _ z => z) (fun _ _ _ z => z)
  obtain ⟨s1, s2, s3⟩ := R0.x0 hS h4 hv hXq'
  have s1 : giS q.2.1 = orF (gvK q.2.1.1.2.1 m) (npS σ) (npS q.2.1) := by rw [s1]; exact Int32.zero_or
  have s2 : usS q.2.1 = orF (uvK q.2.1.1.2.1 q.2.1.2.2.1 m) (npS σ) (npS q.2.1) := by rw [s2]; exact Int32.zero_or
  have nda := b2.nd ha.1
  obtain ⟨γ2, d1, d2, d3, d4, d5, d6, d7, d8, d9⟩ := br_gi (j := a2) (g := c1) (u := c2) (a := a1) (x := q.2.2) b1 ⟨⟨ha.1.1, nda.1.2.2⟩, (nda.2.2 (fun z => z)).trans ha.2⟩ ⟨⟨by omega, b52⟩, b53⟩ (by have := ha.1.2; omega)
  obtain ⟨o1, o2, o3⟩ := rs_lk (σ := brP q.2.1 a2 a1 q.2.2 c1 c2) (p := 40 * m + a2) (q := a3)
  obtain ⟨y1, y2, y3⟩ := rw_n (σ := brP q.2.1 a2 a1 q.2.2 c1 c2) (p := 40 * m + a2) (q0 := some a3)
  have y2 : (rwP (40 * m + a2) (some a3) (brP q.2.1 a2 a1 q.2.2 c1 c2)).1.1 4 = q.2.1.1.1 4 + 1 := by rw [y2, bn.1]
  have y1 : npS (rwP (40 * m + a2) (some a3) (brP q.2.1 a2 a1 q.2.2 c1 c2)) = npS q.2.1 := by rw [y1]; unfold npS; rw [bn.1]
  have f3 := R3.g3 hS h4
  have kw : KcS (brP q.2.1 a2 a1 q.2.2 c1 c2) (rwP (40 * m + a2) (some a3) (brP q.2.1 a2 a1 q.2.2 c1 c2)) := KcS.rw
  have gw : gfT noN noN (brP q.2.1 a2 a1 q.2.2 c1 c2) γ2 (rwP (40 * m + a2) (some a3) (brP q.2.1 a2 a1 q.2.2 c1 c2)) γ2 := kw.gf ⟨[], (List.append_nil _).symm⟩
  have o4 : (rwP (40 * m + a2) (some a3) (brP q.2.1 a2 a1 q.2.2 c1 c2)).1.2.1 75 a3 = Int32.ofNat (q.2.1.1.1 4) := by
    refine Eq.trans (b := Int32.ofNat ((brP q.2.1 a2 a1 q.2.2 c1 c2).1.1 4)) up2_eq ?_
    rw [bn.1]
  have o5 : (rwP (40 * m + a2) (some a3) (brP q.2.1 a2 a1 q.2.2 c1 c2)).1.2.1 75 (q.2.1.1.1 4) = -1 := by
    show up2 (up2 (up2 (up2 (brP q.2.1 a2 a1 q.2.2 c1 c2).1.2.1 73 ((brP q.2.1 a2 a1 q.2.2 c1 c2).1.1 4) (-1)) 74 ((brP q.2.1 a2 a1 q.2.2 c1 c2).1.1 4) (-1)) 75 ((brP q.2.1 a2 a1 q.2.2 c1 c2).1.1 4) (-1)) 75 a3 _ 75 (q.2.1.1.1 4) = -1
    rw [up2_ne (fun z => by omega), bn.1, up2_eq]
  have y5 : (rwP (40 * m + a2) (some a3) (brP q.2.1 a2 a1 q.2.2 c1 c2)).1.1 2 = q.2.1.1.1 2 := by
    have : (rwP (40 * m + a2) (some a3) (brP q.2.1 a2 a1 q.2.2 c1 c2)).1.1 2 = (brP q.2.1 a2 a1 q.2.2 c1 c2).1.1 2 := by simp [rwP, va_up]
    rw [this, bn.1]
  have y6 : (rwP (40 * m + a2) (some a3) (brP q.2.1 a2 a1 q.2.2 c1 c2)).2.1.1 = (brP q.2.1 a2 a1 q.2.2 c1 c2).2.1.1 := rfl
  have y7 : trS (rwP (40 * m + a2) (some a3) (brP q.2.1 a2 a1 q.2.2 c1 c2)) = trS (brP q.2.1 a2 a1 q.2.2 c1 c2) := rfl
  have y8 : ifS (rwP (40 * m + a2) (some a3) (brP q.2.1 a2 a1 q.2.2 c1 c2)) = ifS (brP q.2.1 a2 a1 q.2.2 c1 c2) := rfl
  have akb : AKp m (npS σ) (npS q.2.1) (σ.1.1 4) (q.2.1.1.1 4) q.2.1 (brP q.2.1 a2 a1 q.2.2 c1 c2) := ⟨fun _ _ _ _ _ _ _ => by rw [bn.1], fun _ _ _ => by rw [bn.1], fun _ _ _ _ _ _ => by rw [bn.1], fun x f z1 z2 => d8 x f (fun z => by omega)⟩
  have akw : AKp m (npS σ) (npS q.2.1) (σ.1.1 4) (q.2.1.1.1 4) (brP q.2.1 a2 a1 q.2.2 c1 c2) (rwP (40 * m + a2) (some a3) (brP q.2.1 a2 a1 q.2.2 c1 c2)) := AKp.rs (Or.inl ha3) (by rw [bn.1]; exact Nat.le_refl _)
  have o1' : ∀ c, c = 73 ∨ c = 74 → (rwP (40 * m + a2) (some a3) (brP q.2.1 a2 a1 q.2.2 c1 c2)).1.2.1 c a3 = q.2.1.1.2.1 c a3 := fun c hc => by rw [o1 c a3 (by omega) (by omega) (by rw [bn.1]; omega) (fun z => by omega), bn.1]
  have o2' : ∀ x, (rwP (40 * m + a2) (some a3) (brP q.2.1 a2 a1 q.2.2 c1 c2)).1.2.1 70 x = q.2.1.1.2.1 70 x := fun x => by rw [o2, bn.1]
  have o3' : (rwP (40 * m + a2) (some a3) (brP q.2.1 a2 a1 q.2.2 c1 c2)).1.2.1 73 (q.2.1.1.1 4) = -1 := by rw [bn.1] at o3; exact o3
  have gi3 := kw.gi d1
  have gb3 : gfT (fun z => z = a1) (fun z => z = q.2.2) q.2.1 γ1 (rwP (40 * m + a2) (some a3) (brP q.2.1 a2 a1 q.2.2 c1 c2)) γ2 := d2.tr gw (fun _ _ _ z => z.elim) (fun _ _ _ z => z.elim)
  clear o1 o2 o3 gw kw y3
  generalize rwP (40 * m + a2) (some a3) (brP q.2.1 a2 a1 q.2.2 c1 c2) = σv at R3 p3 v3 tv f3 y1 y2 y5 y6 y7 y8 akw o1' o2' o3' o4 o5 gi3 gb3
  obtain ⟨γ3, g3, T, fl, e1, e2, e3, e4, e5, e6, e7, e8⟩ := p3 γ2 gi3 (by rw [y8, d7, b3, y5]) h6 hX ⟨⟨d4.1.1, by rw [y7]; exact d4.1.2⟩, by rw [y7]; exact d4.2⟩ o3' o5
  have f3 : FrK σv.1.2.1 r.2.1.1.2.1 (40 * m + npS σv) (σv.1.1 4) (q.2.1.1.1 4) := f3 o3'
  have gqr : gfT (fun z => z = a1) (fun z => z = q.2.2) q.2.1 γ1 r.2.1 γ3 := gb3.tr e2 (fun _ _ _ z => z) (fun _ _ _ z => z.elim)
  have ak : AKp m (npS σ) (npS q.2.1) (σ.1.1 4) (q.2.1.1.1 4) q.2.1 r.2.1 := (akb.tr akw).tr (AKp.pc v3 f3 (fun x f h1 h2 => e4 x f (by omega) (fun _ z => by cases z; omega)) (by omega) (by omega) (by omega) (Or.inr (Nat.le_refl _)) (fun z => absurd o3' z))
  have ws := WSt.of h4 b1 gqr ak hXq' s3 t1 (Nat.le_refl _) (fun y z1 z2 z => by
    have z : y = a1 := z
    have := ha.1.2
    omega)
  have hlt := (TT.le _ _ _ _ _ _ _ _ _ _ _ _ _ _ _ _ (by decide) b6).2.2.2 (by decide)
  refine ⟨γ3, max g g3 + 1, (a3, q.2.2) :: T, !decide (giS q.2.1 &&& (c1 ||| c2) = 0 ∧ usS q.2.1 &&& c1 = 0) || fl, e1, ?_, e3, fun x f h1 h2 => ?_, e5, ?_, ?_, ?_⟩
  · refine (b2.more (O1 := fun z => z = a1) (fun _ _ _ z => z.elim) (fun _ _ _ z => z)).tr gqr (fun _ _ _ z => z) (fun y _ hy z => ?_)
    have z : y = q.2.2 := z
    omega
  · rw [e4 x f (by omega) h2, y6, d8 x f (fun z => h2 z.2 (by rw [z.1])), b4 x f h1 (fun _ z => by cases z)]
  · rw [e6, d3, nda.2.1 (fun z => z), List.append_assoc]; rfl
  · have l := gqr.len
    have tt := TT.mo _ (max g g3) _ _ _ _ _ _ _ _ _ _ _ _ _ _ _ (by omega) (TT.st (lo' := (trS σ).1) l.2.1 l.2.2.1 (Nat.le_refl _) l.1 _ _ _ _ _ _ _ _ _ _ _ _ _ _ _ _ (by decide) b6 ws (fun _ => ⟨(f3.1 73 a3 (by decide) (by decide) (by omega) (by omega)).trans (o1' 73 (Or.inl rfl)), (f3.1 74 a3 (by decide) (by decide) (by omega) (by omega)).trans (o1' 74 (Or.inr rfl)), (f3.2 _ (by omega) (fun z => absurd o3' z)).trans (o2' _)⟩) (fun z => absurd z (by decide)))
    obtain ⟨-, -, -, -, -, -, -, -, -, wgu⟩ := ws
    obtain ⟨eg, eu⟩ := wgu (npS σ) (npS q.2.1) (Nat.le_refl _) (Nat.le_refl _)
    have eg : woG (woS τ m r.2.1 γ3) (npS σ) (npS q.2.1) = giS q.2.1 := eg.trans s1.symm
    have eu : woU (woS τ m r.2.1 γ3) (npS σ) (npS q.2.1) = usS q.2.1 := eu.trans s2.symm
    have e7 : TT (woS τ m r.2.1 γ3) m r.2.1.2.2.2.length (ifS r.2.1).length (trS σv).1 (trS r.2.1).1 g3 3 K a2 (q.2.1.1.1 4) (a4 + 1) (c1 ||| giS q.2.1) (c2 ||| usS q.2.1) fl (npS σv) (npS r.2.1) (σv.1.1 4) (r.2.1.1.1 4) (trS σv).2.1 (trS r.2.1).2.1 T := e7
    have t7 := e7.wd (g' := max g g3) (lo' := (trS σ).1) (by decide) (by omega) (Nat.le_refl _) (Nat.le_refl _) (by omega) (Nat.le_refl _)
    rw [y1, y2, y7, d6] at t7
    unfold TTs TT
    rw [if_neg (by decide), if_neg (by decide), if_neg (by decide)]
    refine ⟨npS q.2.1, q.2.1.1.1 4, (trS q.2.1).2.1, q.2.2, tt, Or.inr ⟨T, fl, rfl, ?_, ?_, ?_⟩⟩
    · exact (f3.1 75 a3 (by decide) (by decide) (by omega) (by omega)).trans o4
    · rw [eg, eu]
    · rw [eg, eu]; exact t7
  · refine fl_if (w := (brP q.2.1 a2 a1 q.2.2 c1 c2).2.1.1 a2 2) ?_ ?_
    · rw [d9, b4 a2 2 ha2 (fun _ z => by cases z)]
    · rw [e8, y6]
theorem ch_x {lit x y i : Nat} {σ : PS} {u : Nat × PS × Nat} (e : chM b n lit x y i σ = .ok u) : u.2.1.2.2.1 = σ.2.2.1 := by
  unfold chM at e
  obtain ⟨i2, -, e⟩ := bind_ok e
  generalize chT (trS σ) (Int32.ofNat lit) x y = R at e
  cases e
  rfl
/-- a reading of parts is a tree -/
theorem rp_tree (hB : By b) (hS : Sto b n s) (h4 : m < 4) (hv : HvT τ) : ∀ g, (∀ K i σ r, i ≤ s ∧ tK b n i ≠ 0 ∧ RpI m 0 K σ 0 0 → rp b n m τ g 0 K i σ 0 0 0 0 0 0 = .ok r → P0T τ m K i σ r) := by
  have mo : ∀ {md : Nat} {K : List KE} {i : Nat} {σ : PS} {a1 a2 a3 a4 : Nat} {c1 c2 : Int32} {r : Nat × PS × Nat}, md ≤ 3 → (md = 3 ∨ (a2 = 0 ∧ a3 = 0 ∧ a4 = 0 ∧ c1 = 0 ∧ c2 = 0 ∧ (md = 1 ∨ a1 = 0))) → RXE b n s m τ md K i σ a1 a2 a3 a4 c1 c2 r → r.2.1.2.2.1.length < 900 → σ.2.2.1.length ≤ r.2.1.2.2.1.length := by
    intro md K i σ a1 a2 a3 a4 c1 c2 r hm hz h hX
    obtain ⟨g, e⟩ := h.2
    have gq : ∃ Y, r.2.1.2.2.1 = σ.2.2.1 ++ Y := by
      have q := rp_X (τ := τ) hS h4 hv g
      rcases hz with z | ⟨z2, z3, z4, z5, z6, z7⟩
      · subst z
        exact (q.2.2.2 K i σ a1 a2 a3 a4 c1 c2 r h.1.1 e hX).1
      · subst z2; subst z3; subst z4; subst z5; subst z6
        have : md = 0 ∨ md = 1 ∨ md = 2 ∨ md = 3 := by omega
        rcases this with y | y | y | y
        · subst y
          have : a1 = 0 := by omega
          subst this
          exact (q.1 K i σ r h.1.1 e hX).1
        · subst y
          exact (q.2.1 K i σ a1 r h.1.1 e hX).1
        · subst y
          have : a1 = 0 := by omega
          subst this
          exact (q.2.2.1 K i σ r h.1.1 e hX).1
        · subst y
          exact (q.2.2.2 K i σ a1 0 0 0 0 0 r h.1.1 e hX).1
    obtain ⟨Y, ey⟩ := gq
    rw [ey, List.length_append]
    omega
  have all := rp_indE (b := b) (n := n) (s := s) (m := m) (τ := τ) hS (P0T τ m) (P2T τ m) (P1T τ m) (P3T τ m) ?_ ?_ ?_ ?_ ?_ ?_ ?_ ?_ ?_ ?_
  · exact fun g => (all g).1
  · intro K i σ q r hR R2 p2 R1 p1 γ hg hi h6 hX
    have l : (hgP q.2.1 (mkT (trS σ) 5).2 q.2.2).2.2.1.length ≤ r.2.1.2.2.1.length := mo (md := 1) (by decide) (Or.inr ⟨rfl, rfl, rfl, rfl, rfl, Or.inl rfl⟩) R1 hX
    exact t_c0 hS h4 hv hR R2 p2 R1 p1 l γ hg hi h6 hX
  · intro K i σ a1 q r k13 hR R2 p2 R1 p1 γ x hg hi h6 hX
    have l : (hgP q.2.1 a1 q.2.2).2.2.1.length ≤ r.2.1.2.2.1.length := mo (md := 1) (by decide) (Or.inr ⟨rfl, rfl, rfl, rfl, rfl, Or.inl rfl⟩) R1 hX
    exact t_c1m hS h4 hv R2 p2 R1 p1 l γ x hg hi h6 hX
  · intro K i σ a1 k13 hR
    exact t_c1e
  · intro K i σ u eo ko el hH hR
    exact t_c2l hB hv hR.1.1.2.2.2.1 eo ko el hH
  · intro K i σ h q eo k17 eh hH R3 p3 hR
    exact t_c2b hB hS h4 hv eo k17 eh hH R3 p3
  · intro K i σ h q u eo hop k17 kc eh hH R0 p0 et hN hR
    exact t_c2t hB hS h4 hv eo hop k17 kc eh hH R0 p0 et hN
  · intro K i σ h q t u eo hop kc eh hH R0 p0 k46 R4 p4 ec hN hR γ hg hi h6 hX
    have hX' : t.2.1.2.2.1.length < 900 := by
      have e := (ch_x ec)
      have hX : u.2.1.2.2.1.length < 900 := hX
      rw [e] at hX
      exact hX
    have l : (rwP (40 * m + npS σ) (some (h.2.1.1.1 4)) q.2.1).2.2.1.length ≤ t.2.1.2.2.1.length := mo (md := 0) (by decide) (Or.inr ⟨rfl, rfl, rfl, rfl, rfl, Or.inr rfl⟩) R4 hX'
    exact t_c2e hB hS h4 hv eo hop kc eh hH R0 p0 R4 p4 ec l γ hg hi h6 hX
  · intro K i σ h q u eo hop kc eh hH R0 p0 k46 ec hN hR
    exact t_c2n hB hS h4 hv eo hop kc eh hH R0 p0 ec
  · intro K i σ a1 a2 a3 a4 c1 c2 q r hR R0 p0 k6 k8 R3 p3 γ hg hi h6 hX
    refine t_c3m hS h4 hv hR R0 p0 R3 p3 ?_ γ hg hi h6 hX
    have := mo (by decide) (Or.inl rfl) R3 hX
    have eX : (rwP (40 * m + a2) (some a3) (brP q.2.1 a2 a1 q.2.2 c1 c2)).2.2.1 = q.2.1.2.2.1 := by
      show (brP q.2.1 a2 a1 q.2.2 c1 c2).2.2.1 = _
      unfold brP; split <;> rfl
    rw [eX] at this
    exact this
  · intro K i σ a1 a2 a3 a4 c1 c2 q hR R0 p0 k6
    exact t_c3e hS h4 hv hR R0 p0
end
