/-! the reference goes through its nodes: a node is left -/
/-- the nodes S0 with masks, numbers, codes -/
def wS (S0 : RBs) (mk nu co : Nat → Int32) : RBs := (S0.1, fun c => if c = 87 then mk else if c = 88 then nu else if c = 89 then co else S0.2 c)
section
variable {m : Nat} {A : Nat → Nat → Int32} {pn : Nat → Int32} {S0 : RBs} {mk nu co : Nat → Int32} {G : Nat → List Nat} {M M' : Mem} {h : Nat} {Q : Option Value → Mem → Prop} {sl : List Nat} {km n : Nat} {v : Int32}
theorem wS_c {c : Nat} (h1 : c ≠ 87) (h2 : c ≠ 88) (h3 : c ≠ 89) : (wS S0 mk nu co).2 c = S0.2 c := by
  show (if c = 87 then mk else if c = 88 then nu else if c = 89 then co else S0.2 c) = _
  rw [if_neg h1, if_neg h2, if_neg h3]
theorem wS_87 : (wS S0 mk nu co).2 87 = mk := rfl
theorem wS_88 : (wS S0 mk nu co).2 88 = nu := rfl
theorem wS_89 : (wS S0 mk nu co).2 89 = co := rfl
theorem up_va {f : Nat → Nat → Int32} {c n : Nat} : up2 f c n v c = va_up (f c) n v := by
  funext j
  by_cases e : j = n
  · rw [e, va_up_self]; exact up2_eq
  · rw [va_up_ne _ _ e, up2_ne (fun z => e z.2)]
theorem wS_w87 : ((wS S0 mk nu co).1, up2 (wS S0 mk nu co).2 87 n v) = wS S0 (va_up mk n v) nu co := by
  refine Prod.ext rfl (funext fun c => ?_)
  by_cases e : c = 87
  · subst e
    show up2 (wS S0 mk nu co).2 87 n v 87 = (wS S0 (va_up mk n v) nu co).2 87
    rw [up_va, wS_87, wS_87]
  · show up2 (wS S0 mk nu co).2 87 n v c = (if c = 87 then _ else if c = 88 then nu else if c = 89 then co else S0.2 c)
    rw [up2_row e, if_neg e]
    show (if c = 87 then mk else if c = 88 then nu else if c = 89 then co else S0.2 c) = _
    rw [if_neg e]
theorem wS_w88 : ((wS S0 mk nu co).1, up2 (wS S0 mk nu co).2 88 n v) = wS S0 mk (va_up nu n v) co := by
  refine Prod.ext rfl (funext fun c => ?_)
  by_cases e : c = 88
  · subst e
    show up2 (wS S0 mk nu co).2 88 n v 88 = (wS S0 mk (va_up nu n v) co).2 88
    rw [up_va, wS_88, wS_88]
  · show up2 (wS S0 mk nu co).2 88 n v c = (if c = 87 then mk else if c = 88 then _ else if c = 89 then co else S0.2 c)
    rw [up2_row e]
    show (if c = 87 then mk else if c = 88 then nu else if c = 89 then co else S0.2 c) = _
    rw [if_neg e, if_neg e]
theorem wS_w89 : ((wS S0 mk nu co).1, up2 (wS S0 mk nu co).2 89 n v) = wS S0 mk nu (va_up co n v) := by
  refine Prod.ext rfl (funext fun c => ?_)
  by_cases e : c = 89
  · subst e
    show up2 (wS S0 mk nu co).2 89 n v 89 = (wS S0 mk nu (va_up co n v)).2 89
    rw [up_va, wS_89, wS_89]
  · show up2 (wS S0 mk nu co).2 89 n v c = (if c = 87 then mk else if c = 88 then nu else if c = 89 then _ else S0.2 c)
    rw [up2_row e]
    show (if c = 87 then mk else if c = 88 then nu else if c = 89 then co else S0.2 c) = _
    rw [if_neg e, if_neg e]
theorem wS_rg (hR : RgB m S0 G) : RgB m (wS S0 mk nu co) G := by
  obtain ⟨h1, h2, h3, h5, ρ, h6⟩ := hR
  have e : ∀ c, 80 ≤ c → c ≤ 86 → (wS S0 mk nu co).2 c = S0.2 c := fun c c1 c2 => wS_c (by omega) (by omega) (by omega)
  refine ⟨h1, fun x z1 z2 => ?_, fun x z1 z2 z3 => ?_, fun z z1 z2 => ?_, ρ, h6⟩
  · obtain ⟨a1, a2, a3⟩ := h2 x z1 z2
    exact ⟨a1.cg (by rw [e 82 (by decide) (by decide)]) (by rw [e 83 (by decide) (by decide)]) (fun _ _ => by rw [e 84 (by decide) (by decide)]) (fun _ _ => by rw [e 85 (by decide) (by decide)]) (fun _ _ => by rw [e 86 (by decide) (by decide)]), a2, a3⟩
  · rw [e 84 (by decide) (by decide), e 85 (by decide) (by decide)]
    rw [e 86 (by decide) (by decide)] at z3
    exact h3 x z1 z2 z3
  · rw [e 86 (by decide) (by decide)]
    exact h5 z z1 z2
/-- masks, numbers and codes so far, steps so far, how many codes -/
def GW (m : Nat) (A : Nat → Nat → Int32) (pn : Nat → Int32) (S0 : RBs) (mk nu co : Nat → Int32) (sl : List Nat) (km : Nat) (M : Mem) : Prop := GoM m A pn (wS S0 mk nu co) sl km M
theorem GoM.w {S : RBs} {c k : Nat} (hG : GoM m A pn S sl km M) (h1 : 80 ≤ c) (h2 : c ≤ 89) (hk : 700 * m ≤ k) : GoM m A pn (S.1, up2 S.2 c k v) sl km (wAI M c k v) ∧ RGb m M (wAI M c k v) := by
  obtain ⟨hB, ⟨g1, g2⟩, g3⟩ := hG
  obtain ⟨s1, r1⟩ := hB.w (c := c) (k := k) (v := v) (S1 := 0) h1 h2 hk
  have e : mAI (wAI M c k v) = up2 (mAI M) c k v := rfl
  refine ⟨⟨s1, ⟨by rw [e, up2_row (by omega)]; exact g1, fun i hi => by rw [e, up2_row (by omega)]; exact g2 i hi⟩, by rw [e, up2_row (by omega)]; exact g3⟩, r1⟩
theorem GW.w87 (hG : GW m A pn S0 mk nu co sl km M) (hn : 700 * m ≤ n) : GW m A pn S0 (va_up mk n v) nu co sl km (wAI M 87 n v) ∧ RGb m M (wAI M 87 n v) := by
  have q := GoM.w (v := v) hG (c := 87) (by decide) (by decide) hn
  rw [wS_w87] at q
  exact q
theorem GW.w88 (hG : GW m A pn S0 mk nu co sl km M) (hn : 700 * m ≤ n) : GW m A pn S0 mk (va_up nu n v) co sl km (wAI M 88 n v) ∧ RGb m M (wAI M 88 n v) := by
  have q := GoM.w (v := v) hG (c := 88) (by decide) (by decide) hn
  rw [wS_w88] at q
  exact q
theorem GW.w89 (hG : GW m A pn S0 mk nu co sl km M) (hn : 700 * m ≤ n) : GW m A pn S0 mk nu (va_up co n v) sl km (wAI M 89 n v) ∧ RGb m M (wAI M 89 n v) := by
  have q := GoM.w (v := v) hG (c := 89) (by decide) (by decide) hn
  rw [wS_w89] at q
  exact q
theorem GW.rd (hG : GW m A pn S0 mk nu co sl km M) : (∀ c, 80 ≤ c → c ≤ 86 → mAI M c = S0.2 c) ∧ mAI M 87 = mk ∧ mAI M 88 = nu ∧ mAI M 89 = co := by
  have b4 := hG.1.2.2.2.2.1
  exact ⟨fun c c1 c2 => by rw [b4 c c1 (by omega)]; exact wS_c (by omega) (by omega) (by omega), by rw [b4 87 (by decide) (by decide)]; exact wS_87, by rw [b4 88 (by decide) (by decide)]; exact wS_88, by rw [b4 89 (by decide) (by decide)]; exact wS_89⟩
/-- how it goes on behind node y: with its next, or its parent -/
def aftT (h : Nat) (S0 : RBs) (y : Nat) (x1 : Int32) (M : Mem) (Q : Option Value → Mem → Prop) : Prop := T (h + 4) mdX11_goThrough 34 [(0, .ref 29), (1, .int x1), (2, .int (if S0.2 84 y = -1 then S0.2 86 y else S0.2 84 y)), (3, .int (if S0.2 84 y = -1 then 0 else 1))] [] M Q
/-- the parent's masks with y's -/
def upM (m : Nat) (S0 : RBs) (mk : Nat → Int32) (y : Nat) : Nat → Int32 := if S0.2 86 y = -1 then mk else va_up mk (S0.2 86 y).toNatClampNeg (mk (S0.2 86 y).toNatClampNeg ||| mk y)
theorem L_leave {x1 : Int32} {y : Nat} (hG : GW m A pn S0 mk nu co sl km M) (hR : RgB m S0 G) (hy : 700 * m ≤ y ∧ y < 700 * m + S0.1) (hl : S0.2 80 y = 4 ∨ S0.2 80 y = 5 ∨ S0.2 80 y = 6 ∨ S0.2 80 y = 7 ∨ S0.2 80 y = 8 ∨ S0.2 80 y = 9 ∨ S0.2 80 y = 10 → G y ≠ []) (hs : sl.length < 1400) (K : ∀ M', GW m A pn S0 (upM m S0 mk y) nu (va_up co y (rcS (S0.2 80 y) (nu y) ((G y).map co))) (sl ++ [2 * y + 1]) km M' → RGb m M M' → aftT h S0 y x1 M' Q) : DX11_goThrough_172 (h + 3) 29 x1 (Int32.ofNat y) M Q := by
  have h4 := hG.1.2.1
  have h7 := hR.1.2
  have F := hG.1.1
  have ly : (Int32.ofNat y).toNatClampNeg = y := lt32 (by omega)
  have vv : ∀ {k x : Nat}, x < 2800 → k = 2800 → vp_in (Int32.ofNat x) k := fun hx e => by rw [e]; exact vp_of hx (by decide)
  have hy2 : y < 2800 := by omega
  have e80 : (wS S0 mk nu co).2 80 = S0.2 80 := wS_c (by decide) (by decide) (by decide)
  unfold DX11_goThrough_172
  rw [ly]
  refine ⟨ok29 F, 89, rf29_71 F, G_codes (h := h) hG.1 (wS_rg hR) hy (by rw [e80]; exact hl) (fun _ => ⟨_, rfl, ok89 F, vv hy2 (ln89 F), fun M6 e6 => ?_⟩)⟩
  rw [e80, wS_88, wS_89] at e6
  obtain ⟨g6, r6⟩ := hG.w89 (n := y) (v := rcS (S0.2 80 y) (nu y) ((G y).map co)) hy.1
  rw [← e6] at g6 r6
  refine G_step (v := true) g6 hy2 hs (fun M7 g7 r7 _ => ⟨rfl, ?_⟩)
  have g7 : GW m A pn S0 mk nu (va_up co y (rcS (S0.2 80 y) (nu y) ((G y).map co))) (sl ++ [2 * y + 1]) km M7 := g7
  have F7 := g7.1.1
  obtain ⟨rd1, rd2, -, -⟩ := g7.rd
  have m86 : mAI M7 86 y = S0.2 86 y := by rw [rd1 86 (by decide) (by decide)]
  refine ⟨86, rf29_68 F7, ok86 F7, vv hy2 (ln86 F7), ?_⟩
  rw [m86]
  -- where it goes on
  have go : ∀ (M8 : Mem), GW m A pn S0 (upM m S0 mk y) nu (va_up co y (rcS (S0.2 80 y) (nu y) ((G y).map co))) (sl ++ [2 * y + 1]) km M8 → RGb m M M8 → DX11_goThrough_219 (h + 3) 29 x1 (Int32.ofNat y) (S0.2 86 y) M8 Q := by
    intro M8 g8 r8
    have F8 := g8.1.1
    have m84 : mAI M8 84 y = S0.2 84 y := by rw [g8.rd.1 84 (by decide) (by decide)]
    have k8 := K M8 g8 r8
    unfold aftT at k8
    unfold DX11_goThrough_219 DX11_goThrough_234 DX11_goThrough_250
    rw [ly]
    refine ⟨ok29 F8, 84, rf29_66 F8, ok84 F8, vv hy2 (ln84 F8), ?_⟩
    rw [m84]
    refine ⟨fun z => ?_, fun z => ?_⟩
    · rw [if_pos z, if_pos z] at k8
      exact ⟨fun _ => k8, fun w => absurd rfl w⟩
    · rw [if_neg z, if_neg z] at k8
      refine ⟨fun w => absurd w (by decide), fun _ => ⟨ok29 F8, 84, rf29_66 F8, ok84 F8, vv hy2 (ln84 F8), ?_⟩⟩
      rw [m84]
      exact k8
  refine ⟨fun z => ?_, fun z => ?_⟩
  · refine go M7 ?_ (r6.tr r7)
    have : upM m S0 mk y = mk := if_pos z
    rw [this]
    exact g7
  · obtain ⟨u, u1, u2, -⟩ : ∃ u, (700 * m ≤ u ∧ u < 700 * m + S0.1) ∧ S0.2 86 y = Int32.ofNat u ∧ y ∈ G u := by
      rcases hR.2.2.2.1 y hy.1 hy.2 with w | w
      · exact absurd w z
      · exact w
    have lu : (Int32.ofNat u).toNatClampNeg = u := lt32 (by omega)
    have eu : upM m S0 mk y = va_up mk u (mk u ||| mk y) := by
      unfold upM
      rw [if_neg z, u2, lu]
    rw [u2, lu]
    refine ⟨87, rf29_69 F7, ok87 F7, vv (by omega) (ln87 F7), 87, rf29_69 F7, ok87 F7, vv hy2 (ln87 F7), vv (by omega) (ln87 F7), fun M14 e14 => ?_⟩
    rw [rd2] at e14
    obtain ⟨g14, r14⟩ := g7.w87 (n := u) (v := mk u ||| mk y) u1.1
    rw [← e14, ← eu] at g14
    rw [← e14] at r14
    have := go M14 g14 ((r6.tr r7).tr r14)
    rw [u2] at this
    exact this
end
