/-! the reference goes through its nodes: a node is come to -/
section
variable {m : Nat} {A : Nat → Nat → Int32} {pn : Nat → Int32} {S0 : RBs} {mk nu co : Nat → Int32} {G : Nat → List Nat} {M M' : Mem} {h : Nat} {Q : Option Value → Mem → Prop} {sl : List Nat} {km n y : Nat} {x1 : Int32}
def goT (h : Nat) (x1 x2 x3 : Int32) (M : Mem) (Q : Option Value → Mem → Prop) : Prop := T (h + 4) mdX11_goThrough 34 [(0, .ref 29), (1, .int x1), (2, .int x2), (3, .int x3)] [] M Q
theorem GW.w92 {kn : Nat} (hG : GW m A pn S0 mk nu co sl km M) : GW m A pn S0 mk nu co sl kn (wAI M 92 m (Int32.ofNat kn)) ∧ RGb m M (wAI M 92 m (Int32.ofNat kn)) := by
  obtain ⟨hB, ⟨g1, g2⟩, g3⟩ := hG
  have e : mAI (wAI M 92 m (Int32.ofNat kn)) = up2 (mAI M) 92 m (Int32.ofNat kn) := rfl
  have G1 : RGb m M (wAI M 92 m (Int32.ofNat kn)) := RG.ai (by decide) (by rw [show szA 92 = 1 by decide]; omega)
  refine ⟨⟨hB.fr9 G1 (by rw [e, up2_row (by decide)]) (fun c c1 c2 => by rw [e, up2_row (by omega)]), ⟨by rw [e, up2_row (by decide)]; exact g1, fun i hi => by rw [e, up2_row (by decide)]; exact g2 i hi⟩, by rw [e]; exact up2_eq⟩, G1⟩
/-- back at a node -/
theorem L_back (hG : GW m A pn S0 mk nu co sl km M) (hy : y < 2800) (H : DX11_goThrough_172 (h + 3) 29 x1 (Int32.ofNat y) M Q) : goT h x1 (Int32.ofNat y) 0 M Q := by
  unfold goT
  refine VX11_goThrough_34 ?_
  unfold DX11_goThrough_34 DX11_goThrough_148
  exact ⟨fun z => absurd z (nm32 (by omega)), fun _ => ⟨fun _ => ⟨fun _ => H, fun z => absurd rfl z⟩, fun z => absurd rfl z⟩⟩
/-- the step inward, then by sort -/
theorem L_ent (hG : GW m A pn S0 mk nu co sl km M) (hR : RgB m S0 G) (hy : 700 * m ≤ y ∧ y < 700 * m + S0.1) (hs : sl.length < 1400) (H2 : S0.2 80 y ≠ 2 → ∀ M', GW m A pn S0 mk nu co (sl ++ [2 * y]) km M' → RGb m M M' → DX11_goThrough_78 (h + 3) 29 x1 (Int32.ofNat y) 1 M' Q) (H1 : S0.2 80 y = 2 → ∀ M', GW m A pn S0 (va_up mk y ((1 : Int32) <<< (x1 &&& 31))) (va_up nu y x1) co (sl ++ [2 * y]) km M' → RGb m M M' → DX11_goThrough_78 (h + 3) 29 (x1 + 1) (Int32.ofNat y) 1 M' Q) : goT h x1 (Int32.ofNat y) 1 M Q := by
  have h4 := hG.1.2.1
  have h7 := hR.1.2
  have hy2 : y < 2800 := by omega
  have ly : (Int32.ofNat y).toNatClampNeg = y := lt32 (by omega)
  have vv : ∀ {k x : Nat}, x < 2800 → k = 2800 → vp_in (Int32.ofNat x) k := fun hx e => by rw [e]; exact vp_of hx (by decide)
  unfold goT
  refine VX11_goThrough_34 ?_
  unfold DX11_goThrough_34
  rw [ly]
  refine ⟨fun z => absurd z (nm32 (by omega)), fun _ => ⟨fun z => absurd z (by decide), fun _ => ⟨ok29 hG.1.1, G_step (v := false) (h := h + 2) hG hy2 hs (fun M2 g2 r2 _ => ⟨rfl, ?_⟩)⟩⟩⟩
  have g2 : GW m A pn S0 mk nu co (sl ++ [2 * y]) km M2 := g2
  have F2 := g2.1.1
  have m80 : mAI M2 80 y = S0.2 80 y := by rw [g2.rd.1 80 (by decide) (by decide)]
  refine ⟨80, rf29_62 F2, ok80 F2, vv hy2 (ln80 F2), ?_⟩
  rw [m80]
  refine ⟨fun z => H2 z M2 g2 r2, fun z => ⟨88, rf29_70 F2, ok88 F2, vv hy2 (ln88 F2), fun M7 e7 => ?_⟩⟩
  obtain ⟨g7, r7⟩ := g2.w88 (n := y) (v := x1) hy.1
  rw [← e7] at g7 r7
  have F7 := g7.1.1
  refine ⟨87, rf29_69 F7, ok87 F7, vv hy2 (ln87 F7), fun M10 e10 => ?_⟩
  obtain ⟨g10, r10⟩ := g7.w87 (n := y) (v := (1 : Int32) <<< (x1 &&& 31)) hy.1
  rw [← e10] at g10 r10
  exact H1 z M10 g10 ((r2.tr r7).tr r10)
/-- behind the looks at pause and exit -/
theorem L_148 {M1 : Mem} (hG : GW m A pn S0 mk nu co sl km M1) (hR : RgB m S0 G) (hy : 700 * m ≤ y ∧ y < 700 * m + S0.1) (H0 : G y = [] → DX11_goThrough_172 (h + 3) 29 x1 (Int32.ofNat y) M1 Q) (H1 : ∀ c r, G y = c :: r → goT h x1 (Int32.ofNat c) 1 M1 Q) : DX11_goThrough_148 (h + 3) 29 x1 (Int32.ofNat y) 1 M1 Q := by
  have h4 := hG.1.2.1
  have h7 := hR.1.2
  have F := hG.1.1
  have hy2 : y < 2800 := by omega
  have ly : (Int32.ofNat y).toNatClampNeg = y := lt32 (by omega)
  have vv : ∀ {k x : Nat}, x < 2800 → k = 2800 → vp_in (Int32.ofNat x) k := fun hx e => by rw [e]; exact vp_of hx (by decide)
  obtain ⟨lk, nd, ch⟩ := hR.2.1 y hy.1 hy.2
  have m82 : mAI M1 82 y = hdI (G y) := by rw [hG.rd.1 82 (by decide) (by decide)]; exact lk.1
  unfold DX11_goThrough_148
  rw [ly]
  refine ⟨fun z => absurd z (by decide), fun _ => ⟨ok29 F, 82, rf29_64 F, ok82 F, vv hy2 (ln82 F), ?_⟩⟩
  rw [m82]
  cases hg : G y with
  | nil => exact ⟨fun _ => H0 hg, fun z => absurd rfl z⟩
  | cons c r =>
    have hd : hdI (c :: r) = Int32.ofNat c := by unfold hdI; rw [if_neg (by simp)]; rfl
    have hc := (ch c (by rw [hg]; exact List.mem_cons_self)).2
    rw [hd]
    refine ⟨fun z => absurd z (nm32 (by omega)), fun _ => ⟨82, rf29_64 F, ok82 F, vv hy2 (ln82 F), ?_⟩⟩
    rw [m82, hg, hd]
    exact H1 c r hg
/-- no exit -/
theorem L_78n {M1 : Mem} (hG : GW m A pn S0 mk nu co sl km M1) (hR : RgB m S0 G) (hy : 700 * m ≤ y ∧ y < 700 * m + S0.1) (h3 : S0.2 80 y ≠ 3) (H : DX11_goThrough_148 (h + 3) 29 x1 (Int32.ofNat y) 1 M1 Q) : DX11_goThrough_78 (h + 3) 29 x1 (Int32.ofNat y) 1 M1 Q := by
  have h4 := hG.1.2.1
  have h7 := hR.1.2
  have F := hG.1.1
  have hy2 : y < 2800 := by omega
  have ly : (Int32.ofNat y).toNatClampNeg = y := lt32 (by omega)
  have m80 : mAI M1 80 y = S0.2 80 y := by rw [hG.rd.1 80 (by decide) (by decide)]
  unfold DX11_goThrough_78
  rw [ly]
  refine ⟨ok29 F, 80, rf29_62 F, ok80 F, by rw [ln80 F]; exact vp_of hy2 (by decide), ?_⟩
  rw [m80]
  exact ⟨fun _ => H, fun z => absurd z h3⟩
theorem prB_w {z x : Nat} : prB m (wS S0 mk nu co) z x ↔ prB m S0 z x := by
  unfold prB
  rw [wS_c (c := 86) (by decide) (by decide) (by decide)]
  exact Iff.rfl
theorem TrC_w : ∀ (k n : Nat) (cx : List (Option Nat)), TrC m S0 pn k n cx → TrC m (wS S0 mk nu co) pn k n cx := by
  intro k
  induction k with
  | zero => intro n cx h; exact h
  | succ k ih =>
    intro n cx h
    obtain ⟨h1, h2⟩ := h
    refine ⟨h1, ?_⟩
    rw [wS_c (c := 80) (by decide) (by decide) (by decide), wS_c (c := 81) (by decide) (by decide) (by decide)]
    by_cases h10 : S0.2 80 n = 10
    · rw [if_pos h10] at h2 ⊢
      obtain ⟨t, cx', e1, e2, e3⟩ := h2
      refine ⟨t, cx', e1, e2, ?_⟩
      rcases e3 with e3 | ⟨x, q1, q2⟩
      · exact Or.inl e3
      · exact Or.inr ⟨x, prB_w.mpr q1, ih x cx' q2⟩
    · rw [if_neg h10] at h2 ⊢
      rcases h2 with e3 | ⟨x, q1, q2⟩
      · exact Or.inl e3
      · exact Or.inr ⟨x, prB_w.mpr q1, ih x cx q2⟩
/-- an exit: its code -/
theorem L_78x {M1 : Mem} {ρ : Nat → Nat} {x k v : Nat} {cx : List (Option Nat)} (hr : ∀ z x, prB m S0 z x → ρ z < ρ x) (hG : GW m A pn S0 mk nu co sl km M1) (hR : RgB m S0 G) (hy : 700 * m ≤ y ∧ y < 700 * m + S0.1) (h3 : S0.2 80 y = 3) (hp : prB m S0 y x) (ht : TrC m S0 pn k x cx) (he : (S0.2 81 y = -1 ∧ v = 0 ∧ cx ≠ []) ∨ ∃ j e, j < 40 ∧ e < 160 ∧ S0.2 81 y = Int32.ofNat (40 * m + j) ∧ A 60 (40 * m + j) = Int32.ofNat e ∧ cx[v]? = some (some e)) (hv : v < 1000) (hk : km < 10000) (H : ∀ M', GW m A pn S0 mk (va_up nu y (Int32.ofNat (2 + v))) co sl (max km (2 + v + 1)) M' → RGb m M1 M' → DX11_goThrough_148 (h + 3) 29 x1 (Int32.ofNat y) 1 M' Q) : DX11_goThrough_78 (h + 3) 29 x1 (Int32.ofNat y) 1 M1 Q := by
  have h4 := hG.1.2.1
  have h7 := hR.1.2
  have F := hG.1.1
  have hy2 : y < 2800 := by omega
  have ly : (Int32.ofNat y).toNatClampNeg = y := lt32 (by omega)
  have lm : (Int32.ofNat m).toNatClampNeg = m := lt32 (by omega)
  have vv : ∀ {k x : Nat}, x < 2800 → k = 2800 → vp_in (Int32.ofNat x) k := fun hx e => by rw [e]; exact vp_of hx (by decide)
  have m80 : mAI M1 80 y = S0.2 80 y := by rw [hG.rd.1 80 (by decide) (by decide)]
  unfold DX11_goThrough_78
  rw [ly]
  refine ⟨ok29 F, 80, rf29_62 F, ok80 F, vv hy2 (ln80 F), ?_⟩
  rw [m80]
  refine ⟨fun z => absurd h3 z, fun _ => ⟨88, rf29_70 F, G_codeOf (h := h + 2) (v := v) (fun z x q => hr z x (prB_w.mp q)) hG.1 h7 (prB_w.mpr hp) (TrC_w k x cx ht) (by rw [wS_c (c := 81) (by decide) (by decide) (by decide)]; exact he) (fun _ => ⟨_, rfl, ok88 F, vv hy2 (ln88 F), fun M8 e8 => ?_⟩)⟩⟩
  obtain ⟨g8, r8⟩ := hG.w88 (n := y) (v := Int32.ofNat (2 + v)) hy.1
  rw [← e8] at g8 r8
  have F8 := g8.1.1
  have i19 := g8.1.2.2.1
  have m88 : mAI M8 88 y = Int32.ofNat (2 + v) := by rw [g8.rd.2.2.1]; exact va_up_self _ _ _
  have m92 : mAI M8 92 m = Int32.ofNat km := g8.2.2
  have v92 : vp_in (Int32.ofNat m) (mL M8 92) := by rw [ln92 F8]; exact vp_of h4 (by decide)
  have last : ∀ w : Int32, w = Int32.ofNat (max km (2 + v + 1)) → DX11_goThrough_147 (h + 3) 29 x1 (Int32.ofNat y) 1 92 (mI M8 29 19) w M8 Q := by
    intro w ew
    unfold DX11_goThrough_147
    rw [i19, lm, ew]
    refine ⟨ok92 F8, v92, fun M2 e2 => ?_⟩
    obtain ⟨g2, r2⟩ := g8.w92 (kn := max km (2 + v + 1))
    rw [← e2] at g2 r2
    exact H M2 g2 (r8.tr r2)
  refine ⟨92, rf29_74 F8, 88, rf29_70 F8, ok88 F8, vv hy2 (ln88 F8), 92, rf29_74 F8, ok92 F8, by rw [i19]; exact v92, ?_⟩
  rw [m88, i19, lm, m92, succ32, le32 (by omega) (by omega)]
  have last' := last
  rw [i19] at last'
  refine ⟨fun z => ⟨92, rf29_74 F8, ok92 F8, v92, ?_⟩, fun z => ⟨88, rf29_70 F8, ok88 F8, vv hy2 (ln88 F8), ?_⟩⟩
  · rw [m92]
    exact last' _ (by rw [Nat.max_eq_left z])
  · rw [m88, succ32]
    exact last' _ (by rw [Nat.max_eq_right (by omega)])
end
