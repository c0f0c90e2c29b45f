/-! the reference's governors: given to, made, compared -/
section
variable {M M1 M' : Mem} {mods govs h g : Nat} {Q : Option Value → Mem → Prop} {x y z w : Int32}
theorem R_give (hR : RGs M mods govs) (K0 : ∀ r : Int32, Q (some (.int r)) M) (K : ∀ M', NsF M M' → Q (some (.int 1)) M') : E (h + 3) mdX11_give [.ref 29, .int x, .int y, .int z, .int w] M Q := by
  obtain ⟨F, ⟨-, hm⟩, ⟨-, hg⟩, gm, -, mc⟩ := id hR
  refine KX11_give (h := h + 2) ?_
  unfold DX11_give_0 DX11_give_46
  refine ⟨ok29 F, R_isGov (h := h) hR (fun i hi e _ => ⟨1, rfl, fun z => absurd z (by decide), fun _ => ?_⟩) (fun _ _ => ⟨0, rfl, fun _ => K0 _, fun z => absurd rfl z⟩)⟩
  obtain ⟨m, hm2, em⟩ := gm i hi
  obtain ⟨-, ⟨k, hk, ek⟩, -⟩ := mc m hm2
  have v8 : ∀ {k : Nat}, k = 8 ∨ k = 32 → vp_in (Int32.ofNat i) k := fun e => by
    rcases e with e | e <;> rw [e] <;> exact vp_of (by omega) (by decide)
  rw [e, lt32 (show i < 2147483648 by omega)]
  refine ⟨35, rf29_9 F, 102, rf29_92 F, ok102 F, v8 (Or.inl (ln102 F)), ok35 F, ?_⟩
  rw [em, lt32 (show m < 2147483648 by omega), ek]
  refine ⟨by rw [ln35 F]; exact vp_of (by omega) (by decide), S_inN (h := h + 1) (by omega) (fun j hj ey _ => ⟨1, rfl, fun z => absurd z (by decide), fun _ => ?_⟩) (fun _ _ => ⟨0, rfl, fun _ => K0 _, fun z => absurd rfl z⟩)⟩
  have fin : ∀ u : Int32, DX11_give_94 (h + 2) 29 (Int32.ofNat i) y w 111 (Int32.ofNat i) u M Q := by
    intro u
    unfold DX11_give_94
    have e4 : 4 * Int32.ofNat i + Int32.ofNat j = Int32.ofNat (4 * i + j) := by rw [Int32.ofNat_add, Int32.ofNat_mul]; rfl
    rw [ey, e4]
    refine ⟨ok111 F, v8 (Or.inl (ln111 F)), fun M2 e2 => ?_⟩
    have k2 : NsF M M2 := RfF.ai (Or.inl rfl) e2
    have F2 := k2.fix F
    exact ⟨ok29 F2, 112, rf29_102 F2, ok112 F2, by rw [ln112 F2]; exact vp_of (by omega) (by decide), fun M6 e6 => K M6 (k2.tr (RfF.aj (Or.inr (Or.inr rfl)) e6))⟩
  refine S_in (h := h + 1) (fun _ => ⟨_, rfl, fun _ => ⟨104, rf29_94 F, ok104 F, v8 (Or.inr (ln104 F)), fun _ => ⟨111, rf29_101 F, fun _ => ⟨111, rf29_101 F, ok111 F, v8 (Or.inl (ln111 F)), fin _⟩, fun _ => ⟨111, rf29_101 F, ok111 F, v8 (Or.inl (ln111 F)), fin _⟩⟩, fun _ => K0 _⟩, fun _ => K0 _⟩)
theorem R_same (hR : RGs M mods govs) (K : ∀ r : Int32, Q (some (.int r)) M) : E (h + 3) mdX11_same [.ref 29, .int x, .int y] M Q := by
  obtain ⟨F, ⟨-, hm⟩, ⟨-, hg⟩, -⟩ := id hR
  refine KX11_same (h := h + 2) ?_
  unfold DX11_same_0 DX11_same_16
  refine ⟨ok29 F, R_isGov (h := h) hR (fun i hi e _ => ⟨1, rfl, fun z => absurd z (by decide), fun _ => ?_⟩) (fun _ _ => ⟨0, rfl, fun _ => K _, fun z => absurd rfl z⟩)⟩
  refine R_isGov (h := h) hR (fun j hj ey _ => ⟨1, rfl, fun _ => ?_, fun z => absurd z (by decide)⟩) (fun _ _ => ⟨0, rfl, fun z => absurd rfl z, fun _ => K _⟩)
  rw [e, ey]
  have l2 : ∀ d k (s : Int32), k + d = 6 → T (h + 3) mdX11_same 159 [(0, .ref 29), (1, .int (Int32.ofNat i)), (2, .int (Int32.ofNat j)), (3, .int s), (4, .int (Int32.ofNat k))] [] M Q := by
    intro d
    induction d with
    | zero =>
      intro k s hk
      have e : k = 6 := by omega
      subst e
      refine VX11_same_159 ?_
      unfold DX11_same_159 DX11_same_219
      exact ⟨fun _ => ⟨fun _ => K _, fun _ => K _⟩, fun z => absurd Int32.le_rfl z⟩
    | succ d ih =>
      intro k s hk
      have nle : ¬ (6 : Int32) ≤ Int32.ofNat k := fun z => by
        have := (le32 (a := 6) (by decide) (by omega)).mp z
        omega
      have e1 : 6 * Int32.ofNat i + Int32.ofNat k = Int32.ofNat (6 * i + k) := by rw [Int32.ofNat_add, Int32.ofNat_mul]; rfl
      have e2 : 6 * Int32.ofNat j + Int32.ofNat k = Int32.ofNat (6 * j + k) := by rw [Int32.ofNat_add, Int32.ofNat_mul]; rfl
      refine VX11_same_159 ?_
      unfold DX11_same_159 DX11_same_202 DX11_same_203
      rw [e1, e2, succ32]
      exact ⟨fun z => absurd z nle, fun _ => ⟨fun _ => ih (k + 1) _ (by omega), fun _ => ⟨ok29 F, 108, rf29_98 F, ok108 F, by rw [ln108 F]; exact vp_of (by omega) (by decide), 108, rf29_98 F, ok108 F, by rw [ln108 F]; exact vp_of (by omega) (by decide), fun _ => ih (k + 1) _ (by omega), fun _ => ih (k + 1) _ (by omega)⟩⟩⟩
  have l1 : ∀ d k (s : Int32), k + d = 16 → T (h + 3) mdX11_same 105 [(0, .ref 29), (1, .int (Int32.ofNat i)), (2, .int (Int32.ofNat j)), (3, .int s), (4, .int (Int32.ofNat k))] [] M Q := by
    intro d
    induction d with
    | zero =>
      intro k s hk
      have e : k = 16 := by omega
      subst e
      refine VX11_same_105 ?_
      unfold DX11_same_105
      exact ⟨fun _ => l2 6 0 s (by omega), fun z => absurd Int32.le_rfl z⟩
    | succ d ih =>
      intro k s hk
      have nle : ¬ (16 : Int32) ≤ Int32.ofNat k := fun z => by
        have := (le32 (a := 16) (by decide) (by omega)).mp z
        omega
      have e1 : 16 * Int32.ofNat i + Int32.ofNat k = Int32.ofNat (16 * i + k) := by rw [Int32.ofNat_add, Int32.ofNat_mul]; rfl
      have e2 : 16 * Int32.ofNat j + Int32.ofNat k = Int32.ofNat (16 * j + k) := by rw [Int32.ofNat_add, Int32.ofNat_mul]; rfl
      refine VX11_same_105 ?_
      unfold DX11_same_105 DX11_same_148 DX11_same_149
      rw [e1, e2, succ32]
      exact ⟨fun z => absurd z nle, fun _ => ⟨fun _ => ih (k + 1) _ (by omega), fun _ => ⟨ok29 F, 107, rf29_97 F, ok107 F, by rw [ln107 F]; exact vp_of (by omega) (by decide), 107, rf29_97 F, ok107 F, by rw [ln107 F]; exact vp_of (by omega) (by decide), fun _ => ih (k + 1) _ (by omega), fun _ => ih (k + 1) _ (by omega)⟩⟩⟩
  have vi : ∀ {k : Nat}, k = 8 ∨ k = 32 → vp_in (Int32.ofNat i) k := fun e => by
    rcases e with e | e <;> rw [e] <;> exact vp_of (by omega) (by decide)
  have vj : ∀ {k : Nat}, k = 8 ∨ k = 32 → vp_in (Int32.ofNat j) k := fun e => by
    rcases e with e | e <;> rw [e] <;> exact vp_of (by omega) (by decide)
  have go : ∀ s : Int32, DX11_same_101 (h + 2) 29 (Int32.ofNat i) (Int32.ofNat j) s M Q := fun s => l1 16 0 s (by omega)
  have go0 : DX11_same_100 (h + 2) 29 (Int32.ofNat i) (Int32.ofNat j) M Q := go 0
  exact ⟨102, rf29_92 F, ok102 F, vi (Or.inl (ln102 F)), 102, rf29_92 F, ok102 F, vj (Or.inl (ln102 F)), fun _ => ⟨103, rf29_93 F, ok103 F, vi (Or.inr (ln103 F)), 103, rf29_93 F, ok103 F, vj (Or.inr (ln103 F)), fun _ => go0, fun _ => ⟨104, rf29_94 F, ok104 F, vi (Or.inr (ln104 F)), 104, rf29_94 F, ok104 F, vj (Or.inr (ln104 F)), fun _ => go0, fun _ => ⟨105, rf29_95 F, ok105 F, vi (Or.inr (ln105 F)), 105, rf29_95 F, ok105 F, vj (Or.inr (ln105 F)), fun _ => go0, fun _ => ⟨106, rf29_96 F, ok106 F, vi (Or.inr (ln106 F)), 106, rf29_96 F, ok106 F, vj (Or.inr (ln106 F)), fun _ => go0, fun _ => go 1⟩⟩⟩⟩, fun _ => K _⟩
/-- a governor of module m is made -/
def GnF (g m : Nat) (M M' : Mem) : Prop := RfF (fun f => f = 91) (fun c => gvA c ∨ c = 102 ∨ c = 110) gvJ M M' ∧ mI M' 29 91 = Int32.ofNat (g + 1) ∧ (mAI M' 102 g = Int32.ofNat m ∧ mAI M' 110 g = 0) ∧ (∀ j, j ≠ g → mAI M' 102 j = mAI M 102 j ∧ mAI M' 110 j = mAI M 110 j) ∧ Bo M'
theorem R_governor (hR : RGs M mods govs) (K0 : (∀ i, i < mods → x ≠ Int32.ofNat i) → Q (some (.int (-1))) M) (K8 : ∀ i, i < mods → x = Int32.ofNat i → govs = 8 → Q (some (.int (-3))) M) (K : ∀ i M', i < mods → x = Int32.ofNat i → govs < 8 → GnF govs i M M' → Q (some (.int (Int32.ofNat govs))) M') : E (h + 3) mdX11_governor [.ref 29, .int x] M Q := by
  obtain ⟨F, ⟨-, hm, hB⟩, ⟨e91, hg⟩, -, -, mc⟩ := id hR
  refine KX11_governor (h := h + 2) ?_
  unfold DX11_governor_0
  refine ⟨ok29 F, R_isMod (h := h) hR (fun i hi e _ => ⟨1, rfl, fun _ => ?_, fun z => absurd z (by decide)⟩) (fun z _ => ⟨0, rfl, fun z => absurd rfl z, fun _ => K0 z⟩)⟩
  rw [e91]
  refine ⟨fun n8 => ?_, fun e8 => K8 i hi e (inj32 (a := govs) (b := 8) (by omega) (by decide) e8)⟩
  have g8 : govs < 8 := by
    have : govs ≠ 8 := fun z => n8 (by rw [z]; rfl)
    omega
  intro M4 e4
  rw [succ32] at e4
  have gF : ∀ {Ma : Mem}, RfF (fun f => f = 91) (fun c => gvA c ∨ c = 102 ∨ c = 110) gvJ M Ma → Fix Ma := fun k => RfF.fix k F (by unfold gvJ; omega)
  have v8 : ∀ {k : Nat}, k = 8 ∨ k = 32 → vp_in (Int32.ofNat govs) k := fun e => by
    rcases e with e | e <;> rw [e] <;> exact vp_of (by omega) (by decide)
  have k4 : RfF (fun f => f = 91) (fun c => gvA c ∨ c = 102 ∨ c = 110) gvJ M M4 := RfF.i rfl e4
  have F4 := gF k4
  have lg : (Int32.ofNat govs).toNatClampNeg = govs := lt32 (by omega)
  rw [lg]
  refine ⟨102, rf29_92 F4, ok102 F4, v8 (Or.inl (ln102 F4)), fun M7 e7 => ?_⟩
  have k7 := k4.tr (RfF.ai (M' := M7) (Or.inr (Or.inl rfl)) e7)
  have F7 := gF k7
  refine ⟨103, rf29_93 F7, ok103 F7, v8 (Or.inr (ln103 F7)), fun M10 e10 => ?_⟩
  have k10 := k7.tr (RfF.ai (M' := M10) (Or.inl (Or.inl ⟨by decide, by decide⟩)) e10)
  have F10 := gF k10
  refine ⟨104, rf29_94 F10, ok104 F10, v8 (Or.inr (ln104 F10)), fun M13 e13 => ?_⟩
  have k13 := k10.tr (RfF.ai (M' := M13) (Or.inl (Or.inl ⟨by decide, by decide⟩)) e13)
  have F13 := gF k13
  refine ⟨105, rf29_95 F13, ok105 F13, v8 (Or.inr (ln105 F13)), fun M16 e16 => ?_⟩
  have k16 := k13.tr (RfF.ai (M' := M16) (Or.inl (Or.inl ⟨by decide, by decide⟩)) e16)
  have F16 := gF k16
  refine ⟨106, rf29_96 F16, ok106 F16, v8 (Or.inr (ln106 F16)), fun M19 e19 => ?_⟩
  have k19 := k16.tr (RfF.ai (M' := M19) (Or.inl (Or.inl ⟨by decide, by decide⟩)) e19)
  have F19 := gF k19
  refine ⟨109, rf29_99 F19, ok109 F19, v8 (Or.inr (ln109 F19)), fun M22 e22 => ?_⟩
  have k22 := k19.tr (RfF.ai (M' := M22) (Or.inl (Or.inr (Or.inl rfl))) e22)
  have F22 := gF k22
  refine ⟨110, rf29_100 F22, ok110 F22, v8 (Or.inl (ln110 F22)), fun M25 e25 => ?_⟩
  have k25 := k22.tr (RfF.ai (M' := M25) (Or.inr (Or.inr rfl)) e25)
  have base : GnF govs i M M25 := by
    refine ⟨k25, ?_, ⟨?_, ?_⟩, fun j hj => ⟨?_, ?_⟩, fun j => ?_⟩
    · rw [e25, e22, e19, e16, e13, e10, e7, e4]
      show mI (wI M 29 91 (Int32.ofNat (govs + 1))) 29 91 = _
      rw [mI_wI, if_pos ⟨rfl, rfl⟩]
    · rw [e25, mAI_wAI, if_neg (by omega), e22, mAI_wAI, if_neg (by omega), e19, mAI_wAI, if_neg (by omega), e16, mAI_wAI, if_neg (by omega), e13, mAI_wAI, if_neg (by omega), e10, mAI_wAI, if_neg (by omega), e7, mAI_wAI, if_pos ⟨rfl, rfl⟩, e]
    · rw [e25, mAI_wAI, if_pos ⟨rfl, rfl⟩]
    · rw [e25, mAI_wAI, if_neg (by omega), e22, mAI_wAI, if_neg (by omega), e19, mAI_wAI, if_neg (by omega), e16, mAI_wAI, if_neg (by omega), e13, mAI_wAI, if_neg (by omega), e10, mAI_wAI, if_neg (by omega), e7, mAI_wAI, if_neg (by omega), e4]
      rfl
    · rw [e25, mAI_wAI, if_neg (by omega), e22, mAI_wAI, if_neg (by omega), e19, mAI_wAI, if_neg (by omega), e16, mAI_wAI, if_neg (by omega), e13, mAI_wAI, if_neg (by omega), e10, mAI_wAI, if_neg (by omega), e7, mAI_wAI, if_neg (by omega), e4]
      rfl
    · rw [e25, mAI_wAI, if_neg (by omega), e22, mAI_wAI, if_neg (by omega), e19, mAI_wAI, if_neg (by omega), e16, mAI_wAI, if_neg (by omega), e13, mAI_wAI, if_neg (by omega), e10, mAI_wAI]
      by_cases z : j = govs
      · rw [if_pos ⟨rfl, z⟩]; exact bo_nar
      · rw [if_neg (fun y => z y.2), e7, mAI_wAI, if_neg (by omega), e4]; exact hB j
  clear e25 e22 e19 e16 e13 e10 e7 e4 k22 k19 k16 k13 k10 k7 k4 F22 F19 F16 F13 F10 F7 F4
  have stp : ∀ {Ma Mb : Mem}, GnF govs i M Ma → NsF Ma Mb → GnF govs i M Mb := by
    intro Ma Mb a k0
    have k := k0.gv
    obtain ⟨a1, a2, ⟨a3, a4⟩, a5, a6⟩ := a
    have r1 : mAI Mb 102 = mAI Ma 102 := k.2.2.2.2.1 102 (by unfold gvA; omega)
    have r2 : mAI Mb 110 = mAI Ma 110 := k.2.2.2.2.1 110 (by unfold gvA; omega)
    exact ⟨a1.tr (k.mo (fun f z => z.elim) (fun c z => Or.inl z) (fun c z => z)), by rw [k.2.2.2.1 91 (fun z => z)]; exact a2, ⟨by rw [r1]; exact a3, by rw [r2]; exact a4⟩, fun j hj => by rw [r1, r2]; exact a5 j hj, k0.bo a6⟩
  obtain ⟨-, -, ⟨vn, hv, ev⟩, -⟩ := mc i hi
  have l2 : ∀ d k Ma, k + d = 6 → GnF govs i M Ma → T (h + 3) mdX11_governor 114 [(0, .ref 29), (1, .int x), (2, .int (Int32.ofNat govs)), (3, .int (Int32.ofNat k))] [] Ma Q := by
    intro d
    induction d with
    | zero =>
      intro k Ma hk a
      have ek : k = 6 := by omega
      subst ek
      have Fa := gF a.1
      refine VX11_governor_114 ?_
      unfold DX11_governor_114
      exact ⟨fun _ => ⟨ok29 Fa, R_noAns (h := h + 1) Fa g8 (fun Mb k _ => ⟨rfl, K i Mb hi e g8 (stp a k)⟩)⟩, fun z => absurd Int32.le_rfl z⟩
    | succ d ih =>
      intro k Ma hk a
      have Fa := gF a.1
      have nle : ¬ (6 : Int32) ≤ Int32.ofNat k := fun z => by
        have := (le32 (a := 6) (by decide) (by omega)).mp z
        omega
      have e1 : 6 * Int32.ofNat govs + Int32.ofNat k = Int32.ofNat (6 * govs + k) := by rw [Int32.ofNat_add, Int32.ofNat_mul]; rfl
      have e2 : 6 * Int32.ofNat i + Int32.ofNat k = Int32.ofNat (6 * i + k) := by rw [Int32.ofNat_add, Int32.ofNat_mul]; rfl
      have fin : ∀ v : Int64, DX11_governor_155 (h + 2) 29 x (Int32.ofNat govs) (Int32.ofNat k) 108 (Int32.ofNat (6 * govs + k)) v Ma Q := by
        intro v
        unfold DX11_governor_155
        rw [succ32]
        exact ⟨ok108 Fa, by rw [ln108 Fa]; exact vp_of (by omega) (by decide), fun M2 e2 => ih (k + 1) M2 (by omega) (stp a (RfF.aj (Or.inr (Or.inl rfl)) e2))⟩
      refine VX11_governor_114 ?_
      unfold DX11_governor_114
      rw [e1]
      refine ⟨fun z => absurd z nle, fun _ => ⟨ok29 Fa, 108, rf29_98 Fa, 36, rf29_10 Fa, ok36 Fa, by rw [ln36 Fa, e]; exact vp_of (by omega) (by decide), fun _ => fin _, fun _ => ⟨43, rf29_17 Fa, ok43 Fa, ?_, fin _⟩⟩⟩
      rw [e, e2, ln43 Fa]
      exact vp_of (by omega) (by decide)
  have l1 : ∀ d k Ma, k + d = 16 → GnF govs i M Ma → T (h + 3) mdX11_governor 88 [(0, .ref 29), (1, .int x), (2, .int (Int32.ofNat govs)), (3, .int (Int32.ofNat k))] [] Ma Q := by
    intro d
    induction d with
    | zero =>
      intro k Ma hk a
      have ek : k = 16 := by omega
      subst ek
      refine VX11_governor_88 ?_
      unfold DX11_governor_88
      exact ⟨fun _ => l2 6 0 Ma (by omega) a, fun z => absurd Int32.le_rfl z⟩
    | succ d ih =>
      intro k Ma hk a
      have Fa := gF a.1
      have nle : ¬ (16 : Int32) ≤ Int32.ofNat k := fun z => by
        have := (le32 (a := 16) (by decide) (by omega)).mp z
        omega
      have e1 : 16 * Int32.ofNat govs + Int32.ofNat k = Int32.ofNat (16 * govs + k) := by rw [Int32.ofNat_add, Int32.ofNat_mul]; rfl
      refine VX11_governor_88 ?_
      unfold DX11_governor_88
      rw [e1, succ32]
      exact ⟨fun z => absurd z nle, fun _ => ⟨ok29 Fa, 107, rf29_97 Fa, ok107 Fa, by rw [ln107 Fa]; exact vp_of (by omega) (by decide), fun M4 e4 => ih (k + 1) M4 (by omega) (stp a (RfF.aj (Or.inl rfl) e4))⟩⟩
  exact l1 16 0 M25 (by omega) base
end
