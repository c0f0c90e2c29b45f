/-! the reference: a part with rows is opened -/
section
variable {b : Nat → Int32} {n s m : Nat} {τ : Td} {K : List KE} {σ : PS} {M M' : Mem} {i o h : Nat} {Q : Option Value → Mem → Prop}
theorem bg58 {k : Int32} {pl q d : Nat} {wh : Int32} : (bgP m k pl q d wh σ).1.2.1 58 (40 * m + npS σ) = Int32.ofNat (soK k) ∧ (bgP m k pl q d wh σ).1.2.1 69 (40 * m + npS σ) = -1 := by
  constructor
  · show bgA (40 * m + σ.1.1 0) (soK k) pl q wh σ.1.2.1 58 (40 * m + σ.1.1 0) = _
    unfold bgA
    rw [up2_ne (fun z => absurd z.1 (by decide)), lk_ne (by decide) (fun z => absurd z.1 (by decide))]
    simp [up2]
  · show bgA (40 * m + σ.1.1 0) (soK k) pl q wh σ.1.2.1 69 (40 * m + σ.1.1 0) = _
    unfold bgA
    rw [up2_ne (fun z => absurd z.1 (by decide)), lk_ne (by decide) (fun z => absurd z.1 (by decide))]
    simp [up2]
theorem RPd.push {p : Nat} {nm : Option Int64} {M1 M2 M3 : Mem} (hd : RPd m τ K σ M) (e1 : M1 = wAI M 76 K.length (Int32.ofNat p)) (e2 : M2 = wAI M1 78 K.length 0) (e3 : M3 = wI M2 29 60 (Int32.ofNat (K.length + 1))) : ∃ x, RPd m τ ((p, x, 0, nm) :: K) σ M3 := by
  obtain ⟨d1, d2, d3, d4, d5, d6, d7, d8, d9⟩ := hd
  obtain ⟨x, hx⟩ := i32_nat (mAI M 77 K.length)
  have nA : ∀ {a : Nat}, a ≠ 76 → a ≠ 78 → mAI M3 a = mAI M a := fun q1 q2 => by rw [e3, e2, e1]; exact (mAI_wAI_ne q2).trans (mAI_wAI_ne q1)
  have i53 : mI M3 29 53 = mI M 29 53 := by rw [e3, e2, e1, mI_wI, if_neg (by decide)]; rfl
  have i60 : mI M3 29 60 = Int32.ofNat (K.length + 1) := by rw [e3]; exact mI_own _ _ _ _
  have l : ∀ (g : KE → Nat), (K.map g).length = K.length := fun g => List.length_map _
  have s76 : St M3 76 60 0 (p :: K.map (fun e => e.1)) := by
    have z := St.push (x := p) d7 (M' := wI (wAI M 76 K.length (Int32.ofNat p)) 29 60 (Int32.ofNat (K.length + 1))) (by rw [l, Nat.zero_add])
    refine z.fr ?_ ?_
    · rw [i60]; exact (mI_own _ _ _ _).symm
    · rw [e3, e2, e1]; exact mAI_wAI_ne (by decide)
  have s77 : St M3 77 60 0 (x :: K.map (fun e => e.2.1)) := by
    have z := St.push (x := x) d8 (M' := wI (wAI M 77 K.length (Int32.ofNat x)) 29 60 (Int32.ofNat (K.length + 1))) (by rw [l, Nat.zero_add])
    refine z.fr ?_ ?_
    · rw [i60]; exact (mI_own _ _ _ _).symm
    · rw [nA (by decide) (by decide)]
      show mAI M 77 = up2 (mAI M) 77 K.length (Int32.ofNat x) 77
      funext j
      unfold up2
      by_cases q : j = K.length
      · rw [if_pos ⟨rfl, q⟩, q]; exact hx
      · rw [if_neg (fun w => q w.2)]
  have s78 : St M3 78 60 0 (0 :: K.map (fun e => e.2.2.1)) := by
    have z := St.push (x := 0) d9 (M' := wI (wAI M 78 K.length (Int32.ofNat 0)) 29 60 (Int32.ofNat (K.length + 1))) (by rw [l])
    refine z.fr ?_ ?_
    · rw [i60]; exact (mI_own _ _ _ _).symm
    · rw [e3, e2, e1]
      show up2 (up2 (mAI M) 76 K.length (Int32.ofNat p)) 78 K.length 0 78 = up2 (mAI M) 78 K.length (Int32.ofNat 0) 78
      funext j
      unfold up2
      by_cases q : j = K.length
      · rw [if_pos ⟨rfl, q⟩, if_pos ⟨rfl, q⟩]; rfl
      · simp [q]
  have aJ : mAJ M3 = mAJ M := by rw [e3, e2, e1]; rfl
  exact ⟨x, d1.fr (nA (by decide) (by decide)) (nA (by decide) (by decide)) (by rw [aJ]) (nA (by decide) (by decide)), d2.fr (nA (by decide) (by decide)) (nA (by decide) (by decide)) (nA (by decide) (by decide)) (nA (by decide) (by decide)) (nA (by decide) (by decide)), fun a q1 q2 q3 => by rw [nA (by omega) (by omega)]; exact d3 a q1 q2 q3, by rw [aJ]; exact d4, ⟨by rw [nA (a := 54) (by decide) (by decide)]; exact d5.1, by rw [nA (a := 55) (by decide) (by decide)]; exact d5.2.1, by rw [nA (a := 56) (by decide) (by decide)]; exact d5.2.2.1, by rw [nA (a := 57) (by decide) (by decide)]; exact d5.2.2.2⟩, i53.trans d6, s76, s77, s78⟩
/-- behind the head of a part with rows -/
theorem R_open {k : Int32} {j : Nat} {nm : Option Int64} (hR : RPs b n s m τ K σ M i o) (ho : o = K.length + 1) (hj : j < 40) (hl : K.length ≤ 14) (hso : soK k ≠ 99) (hop : opnK k = true) (h58 : σ.1.2.1 58 (40 * m + j) = Int32.ofNat (soK k)) (h69 : σ.1.2.1 69 (40 * m + j) = -1) (hq : σ.1.1 4 < 100) (H : ∀ M', RPs b n s m τ ((40 * m + j, σ.1.1 4, 1, nm) :: K) (rwP (40 * m + j) none σ) M' i (K.length + 1) → RGp m M M' → SLp h Q M') : DX11_readParts_72 (h + 13) 29 0 1 (Int32.ofNat (40 * m + j)) M Q := by
  obtain ⟨c1, c2, c3, c4, c5, c6, c7⟩ := id hR
  have F := c1.1
  have h4 := c1.2.2.2.1
  have l40 := lt40 h4 hj
  have sf := soK_facts hso
  have a58 : mAI M 58 (40 * m + j) = Int32.ofNat (soK k) := by rw [c6.2.2.1 58 (by decide) (by decide) (by decide)]; exact h58
  have i60 : mI M 29 60 = Int32.ofNat K.length := by
    have z := c6.2.2.2.2.2.2.1.1
    rw [List.length_map] at z
    exact z
  have vp17 : ∀ {N : Mem} {c : Nat}, mL N c = 17 → vp_in (Int32.ofNat K.length) (mL N c) := fun z => by rw [z]; exact vp_of (by omega) (by decide)
  unfold DX11_readParts_72
  rw [l40]
  refine ⟨ok29 F, fun z => absurd c4 z, fun _ => ⟨58, rf29_38 F, ok58 F, ix40 h4 hj (ln58 F), ?_⟩⟩
  rw [a58]
  refine P_isOp (h := h + 11) sf.1 (fun _ _ => ⟨_, rfl, fun z => absurd z (by decide), fun _ => ?_⟩) (fun z => absurd (sf.2.1.mp hop) z)
  rw [i60, lt32 (n := K.length) (by omega)]
  refine ⟨76, rf29_57 F, ok76 F, vp17 (ln76 F), fun M15 e15 => ?_⟩
  have F15 : Fix M15 := by rw [e15]; exact F.ai
  have i15 : mI M15 29 60 = Int32.ofNat K.length := by rw [e15]; exact i60
  rw [i15, lt32 (n := K.length) (by omega)]
  refine ⟨78, rf29_59 F15, ok78 F15, vp17 (ln78 F15), fun M18 e18 M19 e19 => ?_⟩
  have i18 : mI M18 29 60 = Int32.ofNat K.length := by rw [e18]; exact i15
  rw [i18, succ32] at e19
  obtain ⟨x, D19⟩ := c6.push (p := 40 * m + j) (nm := nm) e15 e18 e19
  have G19 : RGp m M M19 := by
    rw [e19, e18, e15]
    exact ((RGp.q (by decide) (by decide)).tr (RGp.q (by decide) (by decide))).tr (RG.i (by decide))
  have F19 := G19.fix F (by decide)
  refine P_openRow (h := h + 11) (e := (40 * m + j, x, 0, nm)) F19 h4 hj D19 rfl (by omega) hq (fun _ M' D' G' I' _ => ⟨rfl, ?_⟩) (fun z => absurd h69 z)
  unfold DX11_readParts_157
  have ii : ∀ f, f ≠ 53 → f ≠ 60 → mI M' 29 f = mI M 29 f := fun f q1 q2 => by
    rw [I' f q1, e19, e18, e15, mI_wI, if_neg (fun w => q2 w.2)]
    rfl
  refine H M' ⟨c1.rg (G19.tr G'), c2, by rw [ii 5 (by decide) (by decide)]; exact c3, by rw [ii 6 (by decide) (by decide)]; exact c4, by rw [ii 33 (by decide) (by decide), ← ho]; exact c5, D', ?_⟩ (G19.tr G')
  rw [← ho]
  exact c7
end
