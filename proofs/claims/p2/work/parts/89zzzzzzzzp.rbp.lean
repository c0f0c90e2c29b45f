/-! the reference's beat: emissions, all parts, the wires kept -/
section
variable {M M1 M' : Mem} {m np h : Nat} {X : List Nd} {Q : Option Value → Mem → Prop} {x y : Int32}
theorem R_emits {j s : Nat} {v : Int64} (F : Fix M) (m4 : m < 4) (hj : j < 40) (em : mI M 29 84 = Int32.ofNat m) (hs : s < 16) (es : mAI M 60 (40 * m + j) = Int32.ofNat s) (K : ∀ M', BwR M M' → Q none M') : E (h + 2) mdX11_emits [.ref 29, .int (Int32.ofNat (40 * m + j)), .long v] M Q := by
  have e16 : 16 * Int32.ofNat m + Int32.ofNat s = Int32.ofNat (16 * m + s) := by rw [Int32.ofNat_add, Int32.ofNat_mul]; rfl
  have lx : (Int32.ofNat (40 * m + j)).toNatClampNeg = 40 * m + j := lt32 (by omega)
  have f146 : ∀ (u : Int32) Ma, BwR M Ma → DX11_emits_146 (h + 1) 29 u Ma Q := by
    intro u Ma ka
    unfold DX11_emits_146
    exact ⟨ok29 (ka.fix F), fun M2 e2 => K M2 (ka.tr (RfF.i (Or.inr (Or.inr rfl)) e2))⟩
  have vs : ∀ {k : Nat}, k = 16 → vp_in (Int32.ofNat s) k := fun e => by rw [e]; exact vp_of hs (by decide)
  have f145 : ∀ (u : Int32) (w : Int64), DX11_emits_145 (h + 1) 29 u 119 (Int32.ofNat s) w M Q := by
    intro u w
    unfold DX11_emits_145
    exact ⟨ok119 F, vs (ln119 F), fun M2 e2 => f146 u M2 (RfF.aj (Or.inr (Or.inl rfl)) e2)⟩
  have f110 : ∀ (u w : Int32) Ma, BwR M Ma → DX11_emits_110 (h + 1) 29 u 29 w Ma Q := by
    intro u w Ma ka
    unfold DX11_emits_110
    exact ⟨ok29 (ka.fix F), fun M2 e2 => f146 u M2 (ka.tr (RfF.i (Or.inr (Or.inl rfl)) e2))⟩
  refine KX11_emits (h := h + 1) ?_
  unfold DX11_emits_0
  rw [lx, em]
  refine ⟨ok29 F, 60, rf29_40 F, ok60 F, by rw [ln60 F]; exact vp_of (by omega) (by decide), ?_⟩
  rw [es, e16]
  refine ⟨39, rf29_13 F, ok39 F, by rw [ln39 F]; exact vp_of (by omega) (by decide), fun _ => ⟨fun _ => ⟨fun _ => ⟨fun _ => ⟨119, rf29_109 F, 119, rf29_109 F, ok119 F, vs (ln119 F), fun _ => ⟨119, rf29_109 F, ok119 F, vs (ln119 F), f145 _ _⟩, fun _ => f145 _ _⟩, fun _ => ⟨119, rf29_109 F, ok119 F, vs (ln119 F), vs (ln119 F), fun M13 e13 => ?_⟩⟩, fun _ M18 e18 => f146 _ M18 (RfF.i (Or.inr (Or.inl rfl)) e18)⟩, fun _ => ⟨119, rf29_109 F, ok119 F, vs (ln119 F), fun M21 e21 => f146 _ M21 (RfF.aj (Or.inr (Or.inl rfl)) e21)⟩⟩, fun _ => K M RfF.rf⟩
  have k13 : BwR M M13 := RfF.aj (Or.inr (Or.inl rfl)) e13
  have F13 := k13.fix F
  exact ⟨119, rf29_109 F13, ok119 F13, vs (ln119 F13), S_in (h := h) (fun _ => ⟨_, rfl, fun _ => f110 _ _ M13 k13, fun _ => f110 _ _ M13 k13⟩)⟩
theorem R_wkPts (F : Fix M) (hR : RpM M X m np) (em : mI M 29 84 = Int32.ofNat m) (hn : ∀ j, j < np → ∃ y, 700 * m ≤ y ∧ y < 700 * m + 700 ∧ mAI M 90 (40 * m + j) = Int32.ofNat y) (K : ∀ M' (r : Int32), BwR M M' → Q (some (.int r)) M') : E (h + 4) mdX11_workParts [.ref 29] M Q := by
  have m4 := hR.1
  have n40 := hR.2.2.1.2
  have e40 : ∀ i : Nat, 40 * Int32.ofNat m + Int32.ofNat i = Int32.ofNat (40 * m + i) := fun i => by rw [Int32.ofNat_add, Int32.ofNat_mul]; rfl
  have e400 : 40 * Int32.ofNat m = Int32.ofNat (40 * m) := by rw [Int32.ofNat_mul]; rfl
  have sb : ∀ i : Nat, Int32.ofNat (40 * m + i) - Int32.ofNat (40 * m) = Int32.ofNat i := fun i => by rw [Int32.ofNat_add, Int32.add_comm, Int32.add_sub_cancel]
  have main : ∀ d i M1, i + d = np → BwR M M1 → T (h + 4) mdX11_workParts 18 [(0, .ref 29), (1, .int (Int32.ofNat (40 * m + i)))] [] M1 Q := by
    intro d
    induction d with
    | zero =>
      intro i M1 hi k1
      have F1 := k1.fix F
      have R1 := hR.br k1 (fun c z => by omega) (fun c z => by omega)
      have e1 : mI M1 29 84 = Int32.ofNat m := by rw [k1.2.2.2.1 84 (by omega)]; exact em
      refine VX11_workParts_18 (h := h + 3) ?_
      unfold DX11_workParts_18
      rw [e1, lt32 (show m < 2147483648 by omega)]
      refine ⟨ok29 F1, 54, rf29_34 F1, ok54 F1, by rw [ln54 F1]; exact vp_of (by omega) (by decide), ?_⟩
      rw [R1.2.2.1.1, e40]
      refine ⟨fun _ => K M1 _ k1, fun z => absurd ?_ z⟩
      rw [show i = np by omega]
      exact Int32.le_rfl
    | succ d ih =>
      intro i M1 hi k1
      have F1 := k1.fix F
      have R1 := hR.br k1 (fun c z => by omega) (fun c z => by omega)
      have e1 : mI M1 29 84 = Int32.ofNat m := by rw [k1.2.2.2.1 84 (by omega)]; exact em
      have vq : ∀ {k : Nat}, k = 160 → vp_in (Int32.ofNat (40 * m + i)) k := fun e => by rw [e]; exact vp_of (by omega) (by decide)
      have vj : ∀ {k : Nat}, k = 40 → vp_in (Int32.ofNat i) k := fun e => by rw [e]; exact vp_of (by omega) (by decide)
      have nle : ¬ Int32.ofNat (40 * m + np) ≤ Int32.ofNat (40 * m + i) := fun z => by
        have := (le32 (by omega) (by omega)).mp z
        omega
      have lx : (Int32.ofNat (40 * m + i)).toNatClampNeg = 40 * m + i := lt32 (by omega)
      obtain ⟨yn, y1, y2, y3⟩ := hn i (by omega)
      have y3 : mAI M1 90 (40 * m + i) = Int32.ofNat yn := by rw [k1.2.2.2.2.1 90 (by omega)]; exact y3
      have rt := R1.2.2.2 i (by omega)
      have f195 : ∀ Ma, BwR M Ma → DX11_workParts_195 (h + 3) 29 (Int32.ofNat (40 * m + i)) Ma Q := by
        intro Ma ka
        unfold DX11_workParts_195 DX11_workParts_212
        rw [succ32]
        exact ⟨ok29 (ka.fix F), fun _ => ih (i + 1) Ma (by omega) ka, fun _ => K Ma _ ka⟩
      have f148 : DX11_workParts_148 (h + 3) 29 (Int32.ofNat (40 * m + i)) M1 Q := by
        unfold DX11_workParts_148
        rw [lx]
        refine ⟨ok29 F1, 58, rf29_38 F1, ok58 F1, vq (ln58 F1), fun _ => f195 M1 k1, fun e15 => ?_⟩
        obtain ⟨s1, v, hv, ev⟩ := rt.2.2 e15
        refine ⟨64, rf29_44 F1, ok64 F1, vq (ln64 F1), 65, rf29_45 F1, ok65 F1, vq (ln65 F1), R_wk (h := h) F1 R1 s1 (fun M8 v8 k8 _ => ⟨v8, rfl, ?_⟩)⟩
        have k8' : BwR M M8 := k1.tr k8.bw
        have F8 := k8'.fix F
        have ev8 : mAI M8 60 (40 * m + i) = Int32.ofNat v := by rw [k8.2.2.2.2.1 60 (fun z => z)]; exact ev
        exact ⟨fun _ => f195 M8 k8', fun _ => ⟨120, rf29_110 F8, 60, rf29_40 F8, ok60 F8, vq (ln60 F8), ok120 F8, by rw [ev8, ln120 F8]; exact vp_of hv (by decide), fun M14 e14 => f195 M14 (k8'.tr (RfF.aj (Or.inr (Or.inr rfl)) e14))⟩⟩
      refine VX11_workParts_18 (h := h + 3) ?_
      unfold DX11_workParts_18 DX11_workParts_145 DX11_workParts_212
      rw [e1, lt32 (show m < 2147483648 by omega)]
      refine ⟨ok29 F1, 54, rf29_34 F1, ok54 F1, by rw [ln54 F1]; exact vp_of (by omega) (by decide), ?_⟩
      rw [R1.2.2.1.1, e40, e400, sb, lx, succ32]
      refine ⟨fun z => absurd z nle, fun _ => ⟨95, rf29_77 F1, 90, rf29_72 F1, ok90 F1, vq (ln90 F1), ok95 F1, by rw [y3, ix700 y1 (by omega), ln95 F1]; exact vp_of (by omega) (by decide), fun _ => ih (i + 1) M1 (by omega) k1, fun _ => ⟨58, rf29_38 F1, ok58 F1, vq (ln58 F1), fun _ => ⟨58, rf29_38 F1, ok58 F1, vq (ln58 F1), fun _ => f148, fun e3 => ⟨65, rf29_45 F1, ok65 F1, vq (ln65 F1), fun _ => f148, fun n1 => ?_⟩⟩, fun _ => ⟨121, rf29_112 F1, ok121 F1, vj (ln121 F1), fun M23 e23 => f195 M23 (k1.tr (RfF.i (Or.inr (Or.inl rfl)) e23))⟩⟩⟩⟩
      obtain ⟨s1, s, hs, es⟩ := rt.2.1 e3 n1
      refine ⟨64, rf29_44 F1, ok64 F1, vq (ln64 F1), 65, rf29_45 F1, ok65 F1, vq (ln65 F1), R_wk (h := h) F1 R1 s1 (fun M18 v18 k18 _ => ⟨v18, rfl, ?_⟩)⟩
      have k18' : BwR M M18 := k1.tr k18.bw
      have e18 : mI M18 29 84 = Int32.ofNat m := by rw [k18'.2.2.2.1 84 (by omega)]; exact em
      have es18 : mAI M18 60 (40 * m + i) = Int32.ofNat s := by rw [k18.2.2.2.2.1 60 (fun z => z)]; exact es
      exact ⟨fun _ => f195 M18 k18', fun _ => R_emits (h := h + 1) (k18'.fix F) m4 (by omega) e18 hs es18 (fun M20 k20 _ => ⟨rfl, f195 M20 (k18'.tr k20)⟩)⟩
  refine KX11_workParts (h := h + 3) ?_
  unfold DX11_workParts_0
  refine ⟨ok29 F, fun M2 e2 M3 e3 => ?_⟩
  have k3 : BwR M M3 := (RfF.i (fs := fun f => f = 88 ∨ f = 111 ∨ f = 113) (cs := fun c => c = 121) (js := fun c => c = 118 ∨ c = 119 ∨ c = 120) (Or.inr (Or.inr rfl)) e2).tr (RfF.i (Or.inr (Or.inl rfl)) e3)
  have e4 : mI M3 29 84 = Int32.ofNat m := by rw [k3.2.2.2.1 84 (by omega)]; exact em
  rw [e4, e400]
  exact main np 0 M3 (by omega) k3
end
