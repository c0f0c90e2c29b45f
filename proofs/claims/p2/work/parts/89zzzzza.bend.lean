/-! the reference's goThrough and build, whole -/
/-- what going through leaves: masks, numbers, codes as the class's; the steps -/
def GoR (W : Wo) (hm : Nat → Int32) (m : Nat) (S : RBs) (G : Nat → List Nat) (mk nu co : Nat → Int32) (sl : List Nat) (km g y x : Nat) : Prop := VlN W (vwR S G) (Vok W hm mk nu co km) g y x ∧ (sl.Nodup ∧ (∀ s ∈ sl, 1400 * m ≤ s ∧ s < 1400 * m + 2 * S.1) ∧ ∀ z, 700 * m ≤ z → z < 700 * m + S.1 → 2 * z ∈ sl ∧ 2 * z + 1 ∈ sl) ∧ 3 ≤ km ∧ km ≤ 20
section
variable {m : Nat} {A : Nat → Nat → Int32} {pn : Nat → Int32} {S : RBs} {G : Nat → List Nat} {W : Wo} {hm : Nat → Int32} {N zn fn g y x p' : Nat} {M M' : Mem} {h : Nat} {Q : Option Value → Mem → Prop}
theorem inS_in {z : Nat} (hy : 700 * m ≤ y ∧ y < 700 * m + S.1) (h : inS (prB m S) z y) : 700 * m ≤ z ∧ z < 700 * m + S.1 := by
  obtain ⟨k, h⟩ := h
  cases k with
  | zero =>
    have h : z = y := h
    rw [h]; exact hy
  | succ k =>
    obtain ⟨x, h1, -⟩ := h
    exact h1.1
theorem wS_id : wS S (S.2 87) (S.2 88) (S.2 89) = S := by
  have : (wS S (S.2 87) (S.2 88) (S.2 89)).2 = S.2 := by
    funext c
    show (if c = 87 then S.2 87 else if c = 88 then S.2 88 else if c = 89 then S.2 89 else S.2 c) = S.2 c
    by_cases e1 : c = 87
    · rw [if_pos e1, e1]
    · rw [if_neg e1]
      by_cases e2 : c = 88
      · rw [if_pos e2, e2]
      · rw [if_neg e2]
        by_cases e3 : c = 89
        · rw [if_pos e3, e3]
        · rw [if_neg e3]
  exact Prod.ext rfl this
theorem G_go (hB : BuM m A pn S M) (hR : RgB m S G) (hz : mz0 m S) (h1 : rtC m S ≤ 1) (hy : frN m S y) (e91 : mAI M 91 m = Int32.ofNat y) (hA : woA W = A) (hC : ClE W hm N) (hT : ∀ z, 700 * m ≤ z → z < 700 * m + S.1 → S.2 80 z = 10 → S.2 81 z = -1 ∨ ∃ P, P < 160 ∧ S.2 81 z = Int32.ofNat P ∧ pn P = Int32.ofNat z) (hp : RpN W m zn fn (vwR S G) (700 * m + S.1) g [] y x 0 p') (hx : 1 ≤ x ∧ x < N) (K : ∀ mk nu co sl km M', GoR W hm m S G mk nu co sl km g y x → GW m A pn S mk nu co sl km M' → RGb m M M' → Q none M') : E (h + 4) mdX11_goThrough [.ref 29] M Q := by
  obtain ⟨F, h4, b2, b3, b4, b5, b6⟩ := id hB
  have lm : (Int32.ofNat m).toNatClampNeg = m := lt32 (by omega)
  have vm : ∀ {k : Nat}, k = 4 → vp_in (Int32.ofNat m) k := fun e => by rw [e]; exact vp_of h4 (by decide)
  refine KX11_goThrough ?_
  unfold DX11_goThrough_0
  rw [b2]
  refine ⟨ok29 F, 94, rf29_76 F, ok94 F, vm (ln94 F), fun M4 e4 => ?_⟩
  rw [lm] at e4
  have r4 : RGb m M M4 := by rw [e4]; exact RG.ai (by decide) (by rw [show szA 94 = 1 by decide]; omega)
  have F4 := r4.fix F (by decide)
  have i4 : mI M4 29 19 = Int32.ofNat m := by rw [r4.fI (by decide)]; exact b2
  rw [i4]
  refine ⟨92, rf29_74 F4, ok92 F4, vm (ln92 F4), fun M7 e7 => ?_⟩
  rw [lm] at e7
  have r7 : RGb m M4 M7 := by rw [e7]; exact RG.ai (by decide) (by rw [show szA 92 = 1 by decide]; omega)
  have F7 := r7.fix F4 (by decide)
  have i7 : mI M7 29 19 = Int32.ofNat m := by rw [r7.fI (by decide)]; exact i4
  have eA : mAI M7 = up2 (up2 (mAI M) 94 m 0) 92 m 3 := by rw [e7, e4]; rfl
  have m91 : mAI M7 91 m = Int32.ofNat y := by rw [eA, up2_row (by decide), up2_row (by decide)]; exact e91
  rw [i7, lm]
  refine ⟨91, rf29_73 F7, ok91 F7, vm (ln91 F7), ?_⟩
  rw [m91]
  have hB7 : BuM m A pn S M7 := hB.fr9 (r4.tr r7) (by rw [eA, up2_row (by decide), up2_row (by decide)]) (fun c c1 c2 => by rw [eA, up2_row (by omega), up2_row (by omega)])
  obtain ⟨ρ, hr⟩ := hR.rho
  have hG : GW m A pn S (S.2 87) (S.2 88) (S.2 89) [] 3 M7 := by
    refine ⟨by rw [wS_id]; exact hB7, ⟨?_, fun i hi => absurd hi (Nat.not_lt_zero _)⟩, ?_⟩
    · rw [eA, up2_row (by decide), up2_eq]; rfl
    · rw [eA, up2_eq]; rfl
  have s84 : S.2 84 y = -1 := (hR.2.2.1 y hy.1.1 hy.1.2 hy.2).1
  have all := rch_all hR h1 hy
  refine walk_all (h := h) (Q := Q) hR hr hA hC hT g [] y x 0 p' _ _ _ [] 3 M7 hp hx hG (Or.inl rfl) ⟨List.nodup_nil, fun s hs => absurd hs (List.not_mem_nil), fun s hs => absurd hs (List.not_mem_nil)⟩ (fun z zi => hz z ?_ ?_) (by decide) (fun mk nu co sl km M' po g' r' => ?_)
  · exact (inS_in hy.1 zi).1
  · exact (inS_in hy.1 zi).2
  · unfold aftT
    rw [if_pos s84, if_pos s84, hy.2]
    refine VX11_goThrough_34 ?_
    unfold DX11_goThrough_34
    obtain ⟨q1, q2, q3, ⟨q4, q5, q6, q7⟩, q8⟩ := po
    exact ⟨fun _ => K mk nu co sl km M' ⟨q3, ⟨q5, q6, fun z z1 z2 => q7 z (all z z1 z2)⟩, q8⟩ g' ((r4.tr r7).tr r'), fun z => absurd rfl z⟩
abbrev csC : List Nat := [79, 80, 81, 82, 83, 84, 85, 86, 87, 88, 89, 90, 91, 92, 93, 94]
abbrev RGd (m : Nat) (M M' : Mem) : Prop := RG m [] csC [] M M'
theorem RGb.d (g : RGb m M M') : RGd m M M' := RG.more g (fun _ z => z) (fun f hf => by
  have : ∀ f ∈ csB, f ∈ csC := by decide
  exact this f hf) (fun _ z => z)
/-- what build leaves behind -/
def BuR (W : Wo) (hm : Nat → Int32) (m zn fn : Nat) (A : Nat → Nat → Int32) (pn : Nat → Int32) (S : RBs) (G : Nat → List Nat) (mk nu co : Nat → Int32) (sl : List Nat) (km g y x p' np : Nat) (M' : Mem) : Prop := GW m A pn S mk nu co sl km M' ∧ RgB m S G ∧ (frN m S y ∧ mAI M' 91 m = Int32.ofNat y) ∧ RpN W m zn fn (vwR S G) (700 * m + S.1) g [] y x 0 p' ∧ GoR W hm m S G mk nu co sl km g y x ∧ PdZ W m pn S G [(y, x)] 0 np ∧ (∀ z, 700 * m ≤ z → z < 700 * m + S.1 → inS (prB m S) z y)
theorem BuM.w91 {v : Int32} (hB : BuM m A pn S M) : BuM m A pn S (wAI M 91 m v) ∧ RGd m M (wAI M 91 m v) := by
  obtain ⟨F, b1, b2, b3, b4, b5, b6⟩ := hB
  have g : RGd m M (wAI M 91 m v) := RG.ai (by decide) (by rw [show szA 91 = 1 by decide]; omega)
  have e : mAI (wAI M 91 m v) = up2 (mAI M) 91 m v := rfl
  exact ⟨⟨g.fix F (by decide), b1, by rw [g.fI (by decide)]; exact b2, by rw [e, up2_row (by decide)]; exact b3, fun c c1 c2 => by rw [e, up2_row (by omega)]; exact b4 c c1 c2, fun c c1 c2 c3 => by rw [e, up2_row (by omega)]; exact b5 c c1 c2 c3, by rw [e, up2_row (by decide)]; exact b6⟩, g⟩
theorem B_build {lo hw g0 np r' : Nat} (hA : woA W = A) (hC : ClE W hm N) (ht : TT W m zn fn lo hw g0 0 [] 0 0 0 0 0 false 0 np 1 r' 0 p' [(0, x)]) (hx : 1 ≤ x ∧ x < N) (hnp : np ≤ 40) (hr' : r' ≤ 100) (hc : csT 0 np 1 r' 0 p' < 700) (e54 : mAI M 54 m = Int32.ofNat np) (hB : BuM m A pn S M) (hS : S.1 = 0) (K : ∀ pn' S' G' mk nu co sl km g y M', BuR W hm m zn fn A pn' S' G' mk nu co sl km g y x p' np M' → RGd m M M' → Q none M') : E (h + 7) mdX11_build [.ref 29, .int 0] M Q := by
  obtain ⟨F, h4, b2, b3, b4, b5, b6⟩ := id hB
  have lm : (Int32.ofNat m).toNatClampNeg = m := lt32 (by omega)
  have hR : RgB m S (fun _ => []) := by
    have no : ∀ z, 700 * m ≤ z → z < 700 * m + S.1 → False := fun z z1 z2 => by omega
    exact ⟨⟨h4, by omega⟩, fun z z1 z2 => (no z z1 z2).elim, fun z z1 z2 => (no z z1 z2).elim, fun z z1 z2 => (no z z1 z2).elim, fun _ => 0, fun z z1 z2 => (no z z1 z2).elim⟩
  have rt0 : rtC m S = 0 := by unfold rtC; rw [hS]; rfl
  refine KX11_build ?_
  unfold DX11_build_0
  rw [b2, lm]
  refine ⟨ok29 F, 54, rf29_34 F, ok54 F, by rw [ln54 F]; exact vp_of h4 (by decide), ?_⟩
  have ex : (40 : Int32) * Int32.ofNat m + Int32.ofNat np - 1 = Int32.ofNat (40 * m + np) + (-1) := by
    rw [Int32.ofNat_add, Int32.ofNat_mul, Int32.sub_eq_add_neg]; rfl
  rw [e54, ex]
  refine (bl_all (h := h) (x1 := 0) (Q := Q) hA h4 g0).2.1 [] 0 np 1 r' 0 p' x M S _ pn ht hnp hr' hB hR (by omega) (fun M1 S1 G1 pn1 ds o1 w1 z1 => ?_)
  obtain ⟨c1, c2, c3, c4, ⟨c5, c6, c7⟩, c8⟩ := id o1
  have h7 := c3.1.2
  unfold bLp
  refine VX11_build_20 ?_
  unfold DX11_build_20
  rw [c1.2.2.1]
  have lt : Int32.ofNat (40 * m + 0) + (-1) < 40 * Int32.ofNat m := by
    have : m = 0 ∨ m = 1 ∨ m = 2 ∨ m = 3 := by omega
    rcases this with e | e | e | e <;> subst e <;> decide
  refine ⟨ok29 c1.1, fun _ => ⟨91, rf29_73 c1.1, ?_⟩, fun z => absurd lt z⟩
  have z0 : (0 : Int32) = Int32.ofNat 0 := rfl
  rw [z0]
  have w1 : RowR W m zn fn lo hw A pn1 S1 G1 S.1 0 (cxK []) x 0 p' ds := w1 pn1 (fun _ _ _ => rfl)
  refine B_row (h := h + 4) c1 c3 (by omega) (by decide) w1 c4.1 (fun M2 S2 G2 y g d1 d2 d3 d4 _ => ⟨_, rfl, ok91 d1.1.1, by rw [ln91 d1.1.1]; exact vp_of h4 (by decide), fun M6 e6 => ?_⟩)
  rw [lm] at e6
  obtain ⟨f1, f2, f3, f4, f5, f6, f7, f8⟩ := id d1
  obtain ⟨g1, g2⟩ := f1.w91 (v := Int32.ofNat y)
  rw [← e6] at g1 g2
  have mz : mz0 m S2 := f4.2.2 (c4.2.2 (fun z z1 z2 => by omega))
  have r1 : rtC m S2 ≤ 1 := by omega
  have e91 : mAI M6 91 m = Int32.ofNat y := by rw [e6]; exact up2_eq
  have hT : ∀ z, 700 * m ≤ z → z < 700 * m + S2.1 → S2.2 80 z = 10 → S2.2 81 z = -1 ∨ ∃ P, P < 160 ∧ S2.2 81 z = Int32.ofNat P ∧ pn1 P = Int32.ofNat z := fun z q1 q2 q3 => by
    by_cases e : z < 700 * m + S1.1
    · have v := (f4.2.1 z q1 e).1
      have v80 : S2.2 80 z = S1.2 80 z := congrArg (fun w => w.1) v
      have v81 : S2.2 81 z = S1.2 81 z := congrArg (fun w => w.2.1) v
      rw [v80] at q3
      rw [v81]
      rcases c7 z (by omega) e q3 with w | ⟨P, w1, w2, w3⟩
      · exact Or.inl w
      · exact Or.inr ⟨P, by omega, w2, w3⟩
    · exact Or.inl (f8 z (by omega) q2 q3)
  refine G_go (h := h + 2) g1 f3 mz r1 f5 e91 hA hC hT d3 hx (fun mk nu co sl km M7 go gw r7 _ => ⟨rfl, K pn1 S2 G2 mk nu co sl km g y M7 ⟨gw, f3, ⟨f5, by rw [r7.fA (by decide)]; exact e91⟩, d3, go, ?_, rch_all f3 r1 f5⟩ (((c2.d).tr f2.d).tr (g2.tr r7.d))⟩)
  intro i i1 i2
  obtain ⟨e, he, yi, xi, a1, a3, a4⟩ := z1 i i1 i2
  exact ⟨(y, x), List.mem_singleton.mpr rfl, yi, xi, a1, ⟨a3.1, by have := f4.1; omega⟩, (d4 e he).tr (f4.dsn a4)⟩
end
