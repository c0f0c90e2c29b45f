/-! the reference's beat: ifs and parts are worked -/
/-- a sum of part j of module m in the reference -/
def SuR (M : Mem) (X : List Nd) (m j c1 c2 : Nat) : Prop := ∃ f c, (f ≤ c ∧ c < X.length) ∧ mAI M c1 (40 * m + j) = Int32.ofNat (810 * m + f) ∧ mAI M c2 (40 * m + j) = Int32.ofNat (810 * m + c) ∧ GdS X 40 (c + 1 - f) f [] [c]
def RtP (M : Mem) (X : List Nd) (m j : Nat) : Prop := (mAI M 58 (40 * m + j) = 14 → SuR M X m j 64 65 ∧ SuR M X m j 66 67) ∧ (mAI M 58 (40 * m + j) = 3 → mAI M 65 (40 * m + j) ≠ -1 → SuR M X m j 64 65 ∧ ∃ s, s < 16 ∧ mAI M 60 (40 * m + j) = Int32.ofNat s) ∧ (mAI M 58 (40 * m + j) = 15 → SuR M X m j 64 65 ∧ ∃ v, v < 6 ∧ mAI M 60 (40 * m + j) = Int32.ofNat v)
/-- what the beat's work wants of module m -/
def RpM (M : Mem) (X : List Nd) (m np : Nat) : Prop := m < 4 ∧ (XR M m X ∧ X.length ≤ 810) ∧ (mAI M 54 m = Int32.ofNat np ∧ np ≤ 40) ∧ ∀ j, j < np → RtP M X m j
/-- rows of modules stay -/
abbrev BrF (M M' : Mem) : Prop := RfF (fun f => (83 ≤ f ∧ f ≤ 89) ∨ f = 111 ∨ f = 113) (fun c => 95 ≤ c) (fun c => 95 ≤ c) M M'
/-- the work of a beat: ifs' failures, the numbers now -/
abbrev BwR (M M' : Mem) : Prop := RfF (fun f => f = 88 ∨ f = 111 ∨ f = 113) (fun c => c = 121) (fun c => c = 118 ∨ c = 119 ∨ c = 120) M M'
section
variable {M M1 M' : Mem} {m np h : Nat} {X : List Nd} {Q : Option Value → Mem → Prop} {x y : Int32}
theorem BwR.fix (k : BwR M M') (F : Fix M) : Fix M' := RfF.fix k F (by omega)
theorem BwR.br (k : BwR M M') : BrF M M' := RfF.mo k (fun f z => by omega) (fun c z => by omega) (fun c z => by omega)
theorem RpM.br {fs cs js : Nat → Prop} (hR : RpM M X m np) (k : RfF fs cs js M M') (hc : ∀ c, cs c → 95 ≤ c) (hj : ∀ c, js c → 95 ≤ c) : RpM M' X m np := by
  have r : ∀ c, c < 95 → mAI M' c = mAI M c := fun c z => k.2.2.2.2.1 c (fun y => by have := hc c y; omega)
  have j : ∀ c, c < 95 → mAJ M' c = mAJ M c := fun c z => k.2.2.2.2.2 c (fun y => by have := hj c y; omega)
  obtain ⟨a1, ⟨a2, a3⟩, ⟨a4, a5⟩, a6⟩ := hR
  refine ⟨a1, ⟨?_, a3⟩, ⟨by rw [r 54 (by decide)]; exact a4, a5⟩, fun i hi => ?_⟩
  · unfold XR at a2 ⊢
    rw [r 48 (by decide), r 49 (by decide), r 51 (by decide), j 50 (by decide)]
    exact a2
  · have := a6 i hi
    unfold RtP SuR at this ⊢
    rw [r 58 (by decide), r 60 (by decide), r 64 (by decide), r 65 (by decide), r 66 (by decide), r 67 (by decide)]
    exact this
theorem R_wk {j c1 c2 : Nat} (F : Fix M) (hR : RpM M X m np) (hs : SuR M X m j c1 c2) (K : ∀ M' (v : Int64), WkF M M' → Q (some (.long v)) M') : E (h + 3) mdX11_work [.ref 29, .int (mAI M c1 (40 * m + j)), .int (mAI M c2 (40 * m + j))] M Q := by
  obtain ⟨f, c, h1, h2, h3, h4⟩ := hs
  rw [h2, h3]
  by_cases z : mI M 29 111 = 0
  · exact R_work hR.1 hR.2.1.2 h1 h4 F hR.2.1.1 z (fun M' k _ => K M' _ k)
  · exact R_workX F z (K M 0 RfF.rf)
theorem WkF.bw (k : WkF M M') : BwR M M' := RfF.mo k (fun f z => Or.inr (Or.inl z)) (fun c z => z.elim) (fun c z => Or.inl z)
theorem R_hold {a b : Int64} (K : ∀ r : Int32, r = 0 ∨ r = 1 → Q (some (.int r)) M) : E (h + 1) mdX11_holds [.int x, .long a, .long b] M Q := by
  refine KX11_holds ?_
  unfold DX11_holds_0 DX11_holds_47 DX11_holds_59 DX11_holds_71 DX11_holds_83 DX11_holds_95 DX11_holds_107
  have z : ((0 : Int32) = 0 ∨ (0 : Int32) = 1) ∧ Q (some (.int 0)) M := ⟨Or.inl rfl, K 0 (Or.inl rfl)⟩
  have o : ((1 : Int32) = 0 ∨ (1 : Int32) = 1) ∧ Q (some (.int 1)) M := ⟨Or.inr rfl, K 1 (Or.inr rfl)⟩
  exact ⟨fun _ => ⟨fun _ => z, fun _ => o⟩, fun _ => ⟨fun _ => z, fun _ => o⟩, fun _ => ⟨fun _ => z, fun _ => o⟩, fun _ => ⟨fun _ => z, fun _ => o⟩, fun _ => ⟨fun _ => z, fun _ => o⟩, fun _ => ⟨fun _ => z, fun _ => o⟩⟩
theorem R_wkIfs (F : Fix M) (hR : RpM M X m np) (em : mI M 29 84 = Int32.ofNat m) (K : ∀ M', BwR M M' → Q none M') : E (h + 4) mdX11_workIfs [.ref 29] M Q := by
  have m4 := hR.1
  have n40 := hR.2.2.1.2
  have e40 : ∀ i : Nat, 40 * Int32.ofNat m + Int32.ofNat i = Int32.ofNat (40 * m + i) := fun i => by rw [Int32.ofNat_add, Int32.ofNat_mul]; rfl
  have e400 : 40 * Int32.ofNat m = Int32.ofNat (40 * m) := by rw [Int32.ofNat_mul]; rfl
  have sb : ∀ i : Nat, Int32.ofNat (40 * m + i) - Int32.ofNat (40 * m) = Int32.ofNat i := fun i => by rw [Int32.ofNat_add, Int32.add_comm, Int32.add_sub_cancel]
  have main : ∀ d i (n : Int32) M1, i + d = np → BwR M M1 → T (h + 4) mdX11_workIfs 15 [(0, .ref 29), (1, .int n), (2, .int (Int32.ofNat (40 * m + i)))] [] M1 Q := by
    intro d
    induction d with
    | zero =>
      intro i n M1 hi k1
      have F1 := k1.fix F
      have R1 := hR.br k1 (fun c z => by omega) (fun c z => by omega)
      have e1 : mI M1 29 84 = Int32.ofNat m := by rw [k1.2.2.2.1 84 (by omega)]; exact em
      refine VX11_workIfs_15 (h := h + 3) ?_
      unfold DX11_workIfs_15
      rw [e1, lt32 (show m < 2147483648 by omega)]
      refine ⟨ok29 F1, 54, rf29_34 F1, ok54 F1, by rw [ln54 F1]; exact vp_of (by omega) (by decide), ?_⟩
      rw [R1.2.2.1.1, e40]
      refine ⟨fun _ M4 e4 => K M4 (k1.tr (RfF.i (Or.inr (Or.inl rfl)) e4)), fun z => absurd ?_ z⟩
      rw [show i = np by omega]
      exact Int32.le_rfl
    | succ d ih =>
      intro i n M1 hi k1
      have F1 := k1.fix F
      have R1 := hR.br k1 (fun c z => by omega) (fun c z => by omega)
      have e1 : mI M1 29 84 = Int32.ofNat m := by rw [k1.2.2.2.1 84 (by omega)]; exact em
      have vq : ∀ {k : Nat}, k = 160 → vp_in (Int32.ofNat (40 * m + i)) k := fun e => by rw [e]; exact vp_of (by omega) (by decide)
      have vj : ∀ {k : Nat}, k = 40 → vp_in (Int32.ofNat i) k := fun e => by rw [e]; exact vp_of (by omega) (by decide)
      have nle : ¬ Int32.ofNat (40 * m + np) ≤ Int32.ofNat (40 * m + i) := fun z => by
        have := (le32 (by omega) (by omega)).mp z
        omega
      have lx : (Int32.ofNat (40 * m + i)).toNatClampNeg = 40 * m + i := lt32 (by omega)
      have nx : ∀ (n2 : Int32) Ma, BwR M Ma → T (h + 4) mdX11_workIfs 15 [(0, .ref 29), (1, .int n2), (2, .int (Int32.ofNat (40 * m + i) + 1))] [] Ma Q := fun n2 Ma k => by
        rw [succ32]
        exact ih (i + 1) n2 Ma (by omega) k
      refine VX11_workIfs_15 (h := h + 3) ?_
      unfold DX11_workIfs_15 DX11_workIfs_161
      rw [e1, lt32 (show m < 2147483648 by omega)]
      refine ⟨ok29 F1, 54, rf29_34 F1, ok54 F1, by rw [ln54 F1]; exact vp_of (by omega) (by decide), ?_⟩
      rw [R1.2.2.1.1, e40, e400, sb, lx]
      refine ⟨fun z => absurd z nle, fun _ => ⟨121, rf29_112 F1, ok121 F1, vj (ln121 F1), fun M7 e7 => ?_⟩⟩
      have k7 : BwR M M7 := k1.tr (RfF.ai rfl e7)
      have F7 := k7.fix F
      refine ⟨58, rf29_38 F7, ok58 F7, vq (ln58 F7), fun _ => nx _ M7 k7, fun e14 M10 e10 => ?_⟩
      have k10 : BwR M M10 := k7.tr (RfF.i (Or.inr (Or.inl rfl)) e10)
      have F10 := k10.fix F
      have R10 := hR.br k10 (fun c z => by omega) (fun c z => by omega)
      have s14 : mAI M10 58 (40 * m + i) = 14 := by rw [e10]; exact e14
      obtain ⟨s1, -⟩ := (R10.2.2.2 i (by omega)).1 s14
      refine ⟨64, rf29_44 F10, ok64 F10, vq (ln64 F10), 65, rf29_45 F10, ok65 F10, vq (ln65 F10), R_wk (h := h) F10 R10 s1 (fun M15 v15 k15 _ => ⟨v15, rfl, ?_⟩)⟩
      have k15' : BwR M M15 := k10.tr k15.bw
      have F15 := k15'.fix F
      have R15 := hR.br k15' (fun c z => by omega) (fun c z => by omega)
      have s15 : mAI M15 58 (40 * m + i) = 14 := by rw [k15.2.2.2.2.1 58 (fun z => z)]; exact s14
      obtain ⟨-, s2⟩ := (R15.2.2.2 i (by omega)).1 s15
      refine ⟨66, rf29_46 F15, ok66 F15, vq (ln66 F15), 67, rf29_47 F15, ok67 F15, vq (ln67 F15), R_wk (h := h) F15 R15 s2 (fun M21 v21 k21 _ => ⟨v21, rfl, ?_⟩)⟩
      have k21' : BwR M M21 := k15'.tr k21.bw
      have F21 := k21'.fix F
      have e21 : mI M21 29 84 = Int32.ofNat m := by rw [k21'.2.2.2.1 84 (by omega)]; exact em
      rw [e21, e400, sb]
      refine ⟨121, rf29_112 F21, ok121 F21, vj (ln121 F21), fun M25 e25 => ?_⟩
      have k25 : BwR M M25 := k21'.tr (RfF.ai rfl e25)
      have F25 := k25.fix F
      have fin : ∀ (s1 s2 : Int32) Ma, BwR M Ma → DX11_workIfs_154 (h + 3) 29 n (Int32.ofNat (40 * m + i)) 29 s1 s2 Ma Q := by
        intro s1 s2 Ma ka
        unfold DX11_workIfs_154 DX11_workIfs_161
        exact ⟨ok29 (ka.fix F), fun M2 e2 => nx _ M2 (ka.tr (RfF.i (Or.inl rfl) e2))⟩
      refine ⟨fun _ => fin _ _ M25 k25, fun _ => ⟨68, rf29_48 F25, ok68 F25, vq (ln68 F25), R_hold (h := h + 2) (fun r _ _ => ⟨r, rfl, fun _ => fin _ _ M25 k25, fun _ => fin _ _ M25 k25⟩)⟩⟩
  refine KX11_workIfs (h := h + 3) ?_
  unfold DX11_workIfs_0
  refine ⟨ok29 F, fun M2 e2 => ?_⟩
  have k2 : BwR M M2 := RfF.i (Or.inl rfl) e2
  have e3 : mI M2 29 84 = Int32.ofNat m := by rw [k2.2.2.2.1 84 (by omega)]; exact em
  rw [e3, e400]
  exact main np 0 0 M2 (by omega) k2
end
