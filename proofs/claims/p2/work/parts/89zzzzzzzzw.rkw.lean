/-! the reference's beat: what is present, the wires kept -/
section
variable {R : RMo} {I : RIn} {sl : List Nat} {M M' : Mem} {ρ : Plc → Nat} {h np i : Nat} {Q : Option Value → Mem → Prop}
theorem RmS.br (hS : RmS R sl M) (r : ∀ c, c < 95 → mAI M' c = mAI M c) : RmS R sl M' := by
  obtain ⟨a, b, c, d, e, f1, f2, f3, f4, f5, f6⟩ := hS
  exact ⟨a, fun q y h1 h2 hy => by rw [r q (by omega)]; exact b q y h1 h2 hy, fun y hy => by rw [r 87 (by decide), r 88 (by decide)]; exact c y hy, fun q p h1 h2 h3 h4 => by rw [r q (by omega)]; exact d q p h1 h2 h3 h4, fun k hk => by rw [r 45 (by decide), r 46 (by decide), r 47 (by decide)]; exact e k hk, by rw [r 79 (by decide)]; exact f1, by rw [r 92 (by decide)]; exact f2, by rw [r 94 (by decide)]; exact f3, fun j hj => by rw [r 93 (by decide)]; exact f4 j hj, by rw [r 34 (by decide)]; exact f5, fun s hs => by rw [r 38 (by decide)]; exact f6 s hs⟩
theorem RbI.br (hI : RbI R I M) (F : Fix M') (k : ∀ f, 84 ≤ f → f ≤ 89 → mI M' 29 f = mI M 29 f) : RbI R I M' := by
  obtain ⟨i1, i2, i3, i4, i5, i6⟩ := hI
  exact ⟨F, by rw [k 84 (by decide) (by decide)]; exact i2, by rw [k 85 (by decide) (by decide)]; exact i3, fun s hs => by rw [k 86 (by decide) (by decide)]; exact i4 s hs, by rw [k 89 (by decide) (by decide)]; exact i5, fun j hj => by rw [k 88 (by decide) (by decide)]; exact i6 j hj⟩
/-- what is present now -/
theorem R_prNow (hS : RmS R sl M) (F : Fix M) (em : mI M 29 84 = Int32.ofNat (moM R)) (K : ∀ r : Int32, Q (some (.int r)) M) : E (h + 1) mdX11_presentNow [.ref 29] M Q := by
  have m4 := hS.1.1
  have q16 := hS.1.2.2.1
  have e34 := hS.2.2.2.2.2.2.2.2.2.1
  have main : ∀ d s (w : Int32), s + d = moQ R → T (h + 1) mdX11_presentNow 4 [(0, .ref 29), (1, .int w), (2, .int (Int32.ofNat s))] [] M Q := by
    intro d
    induction d with
    | zero =>
      intro s w hs
      refine VX11_presentNow_4 ?_
      unfold DX11_presentNow_4
      rw [em, lt32 (show moM R < 2147483648 by omega)]
      refine ⟨ok29 F, 34, rf29_8 F, ok34 F, by rw [ln34 F]; exact vp_of (by omega) (by decide), fun _ => K w, fun z => absurd ?_ z⟩
      rw [e34, show s = moQ R by omega]
      exact Int32.le_rfl
    | succ d ih =>
      intro s w hs
      refine VX11_presentNow_4 ?_
      unfold DX11_presentNow_4 DX11_presentNow_35
      rw [em, lt32 (show moM R < 2147483648 by omega), succ32]
      refine ⟨ok29 F, 34, rf29_8 F, ok34 F, by rw [ln34 F]; exact vp_of (by omega) (by decide), fun z => ?_, fun _ => ⟨100, rf29_82 F, ok100 F, by rw [ln100 F]; exact vp_of (by omega) (by decide), fun _ => ih (s + 1) _ (by omega), fun _ => ih (s + 1) _ (by omega)⟩⟩
      rw [e34] at z
      have := (le32 (by omega) (by omega)).mp z
      omega
  refine KX11_presentNow ?_
  unfold DX11_presentNow_0
  exact main (moQ R) 0 0 (by omega)
/-- the wires of a governor are kept -/
theorem R_kpW (hS : RmS R sl M) (hI : RbI R I M) (hV : RSv R ρ M) (hi : i < 8) (enp : mAI M 54 (moM R) = Int32.ofNat np) (np40 : np ≤ 40) (hn : ∀ j, j < np → ∃ y, inR R y ∧ mAI M 90 (40 * moM R + j) = Int32.ofNat y) (K : ∀ M', RfF noP (fun c => c = 117) noP M M' → Q none M') : E (h + 2) mdX11_keepWires [.ref 29, .int (Int32.ofNat i)] M Q := by
  have m4 := hS.1.1
  have c3 := hS.1.2.2.2.1
  have main : ∀ d j M1, j + d = np → RfF noP (fun c => c = 117) noP M M1 → T (h + 2) mdX11_keepWires 2 [(0, .ref 29), (1, .int (Int32.ofNat i)), (2, .int (Int32.ofNat j))] [] M1 Q := by
    intro d
    induction d with
    | zero =>
      intro j M1 hj k1
      have F1 := RfF.fix k1 hI.1 (fun z => z)
      have e1 : mI M1 29 84 = Int32.ofNat (moM R) := by rw [k1.2.2.2.1 84 (fun z => z)]; exact hI.2.1
      have e2 : mAI M1 54 (moM R) = Int32.ofNat np := by rw [k1.2.2.2.2.1 54 (by decide)]; exact enp
      refine VX11_keepWires_2 (h := h + 1) ?_
      unfold DX11_keepWires_2
      rw [e1, lt32 (show moM R < 2147483648 by omega)]
      refine ⟨ok29 F1, 54, rf29_34 F1, ok54 F1, by rw [ln54 F1]; exact vp_of (by omega) (by decide), fun _ => K M1 k1, fun z => absurd ?_ z⟩
      rw [e2, show j = np by omega]
      exact Int32.le_rfl
    | succ d ih =>
      intro j M1 hj k1
      have F1 := RfF.fix k1 hI.1 (fun z => z)
      have e1 : mI M1 29 84 = Int32.ofNat (moM R) := by rw [k1.2.2.2.1 84 (fun z => z)]; exact hI.2.1
      have e2 : mAI M1 54 (moM R) = Int32.ofNat np := by rw [k1.2.2.2.2.1 54 (by decide)]; exact enp
      obtain ⟨y, hy, ey⟩ := hn j (by omega)
      obtain ⟨b1, b2, b3⟩ := hy.b hS
      have ey1 : mAI M1 90 (40 * moM R + j) = Int32.ofNat y := by rw [k1.2.2.2.2.1 90 (by decide)]; exact ey
      have e40 : 40 * Int32.ofNat (moM R) + Int32.ofNat j = Int32.ofNat (40 * moM R + j) := by rw [Int32.ofNat_add, Int32.ofNat_mul]; rfl
      have e200 : 200 * Int32.ofNat i + 5 * Int32.ofNat j = Int32.ofNat (200 * i + 5 * j) := by rw [Int32.ofNat_add, Int32.ofNat_mul, Int32.ofNat_mul]; rfl
      have ad : ∀ q : Nat, Int32.ofNat (200 * i + 5 * j) + Int32.ofNat q = Int32.ofNat (200 * i + 5 * j + q) := fun q => (Int32.ofNat_add _ _).symm
      have v117 : ∀ {q : Nat} {Ma : Mem}, Fix Ma → q < 5 → vp_in (Int32.ofNat (200 * i + 5 * j + q)) (mL Ma 117) := fun F hq => by rw [ln117 F]; exact vp_of (by omega) (by decide)
      have at' : ∀ {Ma : Mem}, RfF noP (fun c => c = 117) noP M Ma → Fix Ma ∧ RmS R sl Ma ∧ RbI R I Ma ∧ RSv R ρ Ma := fun {Ma} ka => by
        have Fa := RfF.fix ka hI.1 (fun z => z)
        exact ⟨Fa, hS.br (fun c hc => ka.2.2.2.2.1 c (by omega)), hI.br Fa (fun f _ _ => ka.2.2.2.1 f (fun z => z)), hV.rm (fun c _ _ => ka.2.2.2.2.1 c (by omega))⟩
      have f90 : ∀ (w : Int32) Ma, RfF noP (fun c => c = 117) noP M Ma → DX11_keepWires_90 (h + 1) 29 (Int32.ofNat i) (Int32.ofNat j) (Int32.ofNat y) (Int32.ofNat (200 * i + 5 * j)) 117 (Int32.ofNat (200 * i + 5 * j) + Int32.ofNat 1) w Ma Q := by
        intro w Ma ka
        unfold DX11_keepWires_90
        obtain ⟨Fa, -⟩ := at' ka
        rw [succ32]
        refine ⟨ok117 Fa, by rw [ad]; exact v117 Fa (by decide), fun M2 e2 => ?_⟩
        have k2 : RfF noP (fun c => c = 117) noP M M2 := ka.tr (RfF.ai rfl e2)
        obtain ⟨F2, S2, I2, V2⟩ := at' k2
        refine ⟨ok29 F2, 117, rf29_107 F2, R_k (h := h) (n := 0) S2 I2 V2 hy (by omega) (fun _ => ⟨_, rfl, ok117 F2, by rw [show (2 : Int32) = Int32.ofNat 2 from rfl, ad]; exact v117 F2 (by decide), fun M8 e8 => ?_⟩)⟩
        have k8 : RfF noP (fun c => c = 117) noP M M8 := k2.tr (RfF.ai rfl e8)
        obtain ⟨F8, S8, I8, V8⟩ := at' k8
        refine ⟨117, rf29_107 F8, R_k (h := h) (n := 1) S8 I8 V8 hy (by omega) (fun _ => ⟨_, rfl, ok117 F8, by rw [show (3 : Int32) = Int32.ofNat 3 from rfl, ad]; exact v117 F8 (by decide), fun M13 e13 => ?_⟩)⟩
        have k13 : RfF noP (fun c => c = 117) noP M M13 := k8.tr (RfF.ai rfl e13)
        obtain ⟨F13, S13, I13, V13⟩ := at' k13
        refine ⟨117, rf29_107 F13, R_k (h := h) (n := 2) S13 I13 V13 hy (by omega) (fun _ => ⟨_, rfl, ok117 F13, by rw [show (4 : Int32) = Int32.ofNat 4 from rfl, ad]; exact v117 F13 (by decide), fun M18 e18 => ih (j + 1) M18 (by omega) (k13.tr (RfF.ai rfl e18))⟩)⟩
      refine VX11_keepWires_2 (h := h + 1) ?_
      unfold DX11_keepWires_2
      rw [e1, lt32 (show moM R < 2147483648 by omega), e40, e200, lt32 (show 40 * moM R + j < 2147483648 by omega)]
      refine ⟨ok29 F1, 54, rf29_34 F1, ok54 F1, by rw [ln54 F1]; exact vp_of (by omega) (by decide), fun z => ?_, fun _ => ⟨90, rf29_72 F1, ok90 F1, by rw [ln90 F1]; exact vp_of (by omega) (by decide), ?_⟩⟩
      · rw [e2] at z
        have := (le32 (by omega) (by omega)).mp z
        omega
      rw [ey1, ix700 b3 (by omega), lt32 (show y < 2147483648 by omega)]
      refine ⟨117, rf29_107 F1, 95, rf29_77 F1, ok95 F1, by rw [ln95 F1]; exact vp_of (by omega) (by decide), ok117 F1, v117 (q := 0) F1 (by decide), fun M10 e10 => ?_⟩
      have k10 : RfF noP (fun c => c = 117) noP M M10 := k1.tr (RfF.ai rfl e10)
      obtain ⟨F10, -⟩ := at' k10
      exact ⟨117, rf29_107 F10, 87, rf29_69 F10, ok87 F10, by rw [ln87 F10]; exact vp_of (by omega) (by decide), fun _ => f90 _ M10 k10, fun _ => f90 _ M10 k10⟩
  refine KX11_keepWires (h := h + 1) ?_
  unfold DX11_keepWires_0
  exact main np 0 M (by omega) RfF.rf
end
