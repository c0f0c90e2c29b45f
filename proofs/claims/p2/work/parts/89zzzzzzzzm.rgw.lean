/-! the reference's governors: made, given to, kept, brought back, compared -/
/-- rows that a governor's calls change -/
def gvA (c : Nat) : Prop := (103 ≤ c ∧ c ≤ 106) ∨ c = 109 ∨ c = 111 ∨ (113 ≤ c ∧ c ≤ 117)
def gvJ (c : Nat) : Prop := c = 107 ∨ c = 108 ∨ c = 112
abbrev GvF (M M' : Mem) : Prop := RfF noP gvA gvJ M M'
section
variable {M M1 M' : Mem} {mods govs h g : Nat} {Q : Option Value → Mem → Prop} {x y z : Int32}
theorem GvF.fix (k : GvF M M') (F : Fix M) : Fix M' := RfF.fix k F (by unfold gvJ; omega)
theorem RGs.gv (hR : RGs M mods govs) (k : GvF M M') (hb : Bo M') : RGs M' mods govs := by
  obtain ⟨F, ⟨a1, a2, -⟩, ⟨b1, b2⟩, c, d, e⟩ := hR
  have i : ∀ f, mI M' 29 f = mI M 29 f := fun f => k.2.2.2.1 f (fun z => z)
  have r : ∀ c, ¬ gvA c → mAI M' c = mAI M c := fun c hc => k.2.2.2.2.1 c hc
  have n102 := r 102 (by unfold gvA; omega)
  have n110 := r 110 (by unfold gvA; omega)
  have n34 := r 34 (by unfold gvA; omega)
  have n35 := r 35 (by unfold gvA; omega)
  have n36 := r 36 (by unfold gvA; omega)
  have n54 := r 54 (by unfold gvA; omega)
  have n55 := r 55 (by unfold gvA; omega)
  exact ⟨k.fix F, ⟨by rw [i]; exact a1, a2, hb⟩, ⟨by rw [i]; exact b1, b2⟩, fun g hg => by rw [n102]; exact c g hg, fun g hg => by rw [n110]; exact d g hg, fun m hm => by rw [n34, n35, n36, n54, n55]; exact e m hm⟩
def nsA (c : Nat) : Prop := c = 111 ∨ (113 ≤ c ∧ c ≤ 117)
abbrev NsF (M M' : Mem) : Prop := RfF noP nsA gvJ M M'
theorem NsF.fix (k : NsF M M') (F : Fix M) : Fix M' := RfF.fix k F (by unfold gvJ; omega)
theorem NsF.gv (k : NsF M M') : GvF M M' := RfF.mo k (fun _ z => z) (fun c z => by unfold nsA at z; unfold gvA; omega) (fun _ z => z)
theorem NsF.bo (k : NsF M M') (hb : Bo M) : Bo M' := fun j => by rw [k.2.2.2.2.1 103 (by unfold nsA; omega)]; exact hb j
theorem bo_nar {v : Int32} : vp_nar .boolean v = 0 ∨ vp_nar .boolean v = 1 := by
  have e : vp_nar .boolean v = v &&& 1 := rfl
  rw [e]
  have h : (v &&& 1).toBitVec = BitVec.setWidth 32 (BitVec.ofBool (v.toBitVec.getLsbD 0)) := by
    rw [Int32.toBitVec_and]
    exact BitVec.and_one_eq_setWidth_ofBool_getLsbD
  cases hb : v.toBitVec.getLsbD 0 with
  | false => exact Or.inl (Int32.toBitVec_inj.mp (by rw [h, hb]; rfl))
  | true => exact Or.inr (Int32.toBitVec_inj.mp (by rw [h, hb]; rfl))
theorem R_noAns (F : Fix M) (hg : g < 8) (K : ∀ M', NsF M M' → Q none M') : E (h + 1) mdX11_noAnswer [.ref 29, .int (Int32.ofNat g)] M Q := by
  have main : ∀ d i M1, i + d = 200 → NsF M M1 → T (h + 1) mdX11_noAnswer 37 [(0, .ref 29), (1, .int (Int32.ofNat g)), (2, .int (Int32.ofNat i))] [] M1 Q := by
    intro d
    induction d with
    | zero =>
      intro i M1 hi k1
      have e : i = 200 := by omega
      subst e
      refine VX11_noAnswer_37 ?_
      unfold DX11_noAnswer_37
      exact ⟨fun _ => K M1 k1, fun z => absurd Int32.le_rfl z⟩
    | succ d ih =>
      intro i M1 hi k1
      have F1 := k1.fix F
      have nle : ¬ (200 : Int32) ≤ Int32.ofNat i := fun z => by
        have := (le32 (a := 200) (by decide) (by omega)).mp z
        omega
      have e2 : 200 * Int32.ofNat g + Int32.ofNat i = Int32.ofNat (200 * g + i) := by rw [Int32.ofNat_add, Int32.ofNat_mul]; rfl
      refine VX11_noAnswer_37 ?_
      unfold DX11_noAnswer_37
      rw [e2, succ32]
      exact ⟨fun z => absurd z nle, fun _ => ⟨ok29 F1, 117, rf29_107 F1, ok117 F1, by rw [ln117 F1]; exact vp_of (by omega) (by decide), fun M4 e4 => ih (i + 1) M4 (by omega) (k1.tr (RfF.ai (Or.inr ⟨by decide, by decide⟩) e4))⟩⟩
  have v8 : ∀ {k : Nat}, k = 8 → vp_in (Int32.ofNat g) k := fun e => by rw [e]; exact vp_of hg (by decide)
  refine KX11_noAnswer ?_
  unfold DX11_noAnswer_0
  refine ⟨ok29 F, 113, rf29_103 F, ok113 F, v8 (ln113 F), fun M4 e4 => ?_⟩
  have k4 : NsF M M4 := RfF.ai (Or.inr ⟨by decide, by decide⟩) e4
  have F4 := k4.fix F
  refine ⟨114, rf29_104 F4, ok114 F4, v8 (ln114 F4), fun M7 e7 => ?_⟩
  have k7 : NsF M M7 := k4.tr (RfF.ai (Or.inr ⟨by decide, by decide⟩) e7)
  have F7 := k7.fix F
  refine ⟨115, rf29_105 F7, ok115 F7, v8 (ln115 F7), fun M10 e10 => ?_⟩
  have k10 : NsF M M10 := k7.tr (RfF.ai (Or.inr ⟨by decide, by decide⟩) e10)
  have F10 := k10.fix F
  refine ⟨116, rf29_106 F10, ok116 F10, v8 (ln116 F10), fun M13 e13 => ?_⟩
  have k13 : NsF M M13 := k10.tr (RfF.ai (Or.inr ⟨by decide, by decide⟩) e13)
  have F13 := k13.fix F
  refine ⟨111, rf29_101 F13, ok111 F13, v8 (ln111 F13), fun M16 e16 => ?_⟩
  exact main 200 0 M16 (by omega) (k13.tr (RfF.ai (Or.inl rfl) e16))
theorem R_copy {a b : Nat} (F : Fix M) (hB : Bo M) (ha : a < 32) (hb : b < 32) (K : ∀ M', GvF M M' → Bo M' → Q none M') : E (h + 1) mdX11_copy [.ref 29, .int (Int32.ofNat a), .int (Int32.ofNat b)] M Q := by
  have l2 : ∀ d i M1, i + d = 6 → GvF M M1 → Bo M1 → T (h + 1) mdX11_copy 98 [(0, .ref 29), (1, .int (Int32.ofNat a)), (2, .int (Int32.ofNat b)), (3, .int (Int32.ofNat i))] [] M1 Q := by
    intro d
    induction d with
    | zero =>
      intro i M1 hi k1 o1
      have e : i = 6 := by omega
      subst e
      refine VX11_copy_98 ?_
      unfold DX11_copy_98
      exact ⟨fun _ => K M1 k1 o1, fun z => absurd Int32.le_rfl z⟩
    | succ d ih =>
      intro i M1 hi k1 o1
      have F1 := k1.fix F
      have nle : ¬ (6 : Int32) ≤ Int32.ofNat i := fun z => by
        have := (le32 (a := 6) (by decide) (by omega)).mp z
        omega
      have e1 : 6 * Int32.ofNat a + Int32.ofNat i = Int32.ofNat (6 * a + i) := by rw [Int32.ofNat_add, Int32.ofNat_mul]; rfl
      have e2 : 6 * Int32.ofNat b + Int32.ofNat i = Int32.ofNat (6 * b + i) := by rw [Int32.ofNat_add, Int32.ofNat_mul]; rfl
      refine VX11_copy_98 ?_
      unfold DX11_copy_98
      rw [e1, e2, succ32]
      exact ⟨fun z => absurd z nle, fun _ => ⟨ok29 F1, 108, rf29_98 F1, 108, rf29_98 F1, ok108 F1, by rw [ln108 F1]; exact vp_of (by omega) (by decide), ok108 F1, by rw [ln108 F1]; exact vp_of (by omega) (by decide), fun M6 e6 => ih (i + 1) M6 (by omega) (k1.tr (RfF.aj (Or.inr (Or.inl rfl)) e6)) (by rw [e6]; exact o1)⟩⟩
  have l1 : ∀ d i M1, i + d = 16 → GvF M M1 → Bo M1 → T (h + 1) mdX11_copy 62 [(0, .ref 29), (1, .int (Int32.ofNat a)), (2, .int (Int32.ofNat b)), (3, .int (Int32.ofNat i))] [] M1 Q := by
    intro d
    induction d with
    | zero =>
      intro i M1 hi k1 o1
      have e : i = 16 := by omega
      subst e
      refine VX11_copy_62 ?_
      unfold DX11_copy_62
      exact ⟨fun _ => l2 6 0 M1 (by omega) k1 o1, fun z => absurd Int32.le_rfl z⟩
    | succ d ih =>
      intro i M1 hi k1 o1
      have F1 := k1.fix F
      have nle : ¬ (16 : Int32) ≤ Int32.ofNat i := fun z => by
        have := (le32 (a := 16) (by decide) (by omega)).mp z
        omega
      have e1 : 16 * Int32.ofNat a + Int32.ofNat i = Int32.ofNat (16 * a + i) := by rw [Int32.ofNat_add, Int32.ofNat_mul]; rfl
      have e2 : 16 * Int32.ofNat b + Int32.ofNat i = Int32.ofNat (16 * b + i) := by rw [Int32.ofNat_add, Int32.ofNat_mul]; rfl
      refine VX11_copy_62 ?_
      unfold DX11_copy_62
      rw [e1, e2, succ32]
      exact ⟨fun z => absurd z nle, fun _ => ⟨ok29 F1, 107, rf29_97 F1, 107, rf29_97 F1, ok107 F1, by rw [ln107 F1]; exact vp_of (by omega) (by decide), ok107 F1, by rw [ln107 F1]; exact vp_of (by omega) (by decide), fun M6 e6 => ih (i + 1) M6 (by omega) (k1.tr (RfF.aj (Or.inl rfl) e6)) (by rw [e6]; exact o1)⟩⟩
  have va : ∀ {k : Nat}, k = 32 → vp_in (Int32.ofNat a) k := fun e => by rw [e]; exact vp_of ha (by decide)
  have vb : ∀ {k : Nat}, k = 32 → vp_in (Int32.ofNat b) k := fun e => by rw [e]; exact vp_of hb (by decide)
  refine KX11_copy ?_
  unfold DX11_copy_0
  refine ⟨ok29 F, 103, rf29_93 F, 103, rf29_93 F, ok103 F, va (ln103 F), ok103 F, vb (ln103 F), fun M6 e6 => ?_⟩
  have k6 : GvF M M6 := RfF.ai (Or.inl ⟨by decide, by decide⟩) e6
  have F6 := k6.fix F
  have o6 : Bo M6 := fun j => by
    rw [e6, mAI_wAI]
    by_cases z : j = (Int32.ofNat b).toNatClampNeg
    · rw [if_pos ⟨rfl, z⟩]; exact bo_nar
    · rw [if_neg (fun y => z y.2)]; exact hB j
  refine ⟨104, rf29_94 F6, 104, rf29_94 F6, ok104 F6, va (ln104 F6), ok104 F6, vb (ln104 F6), fun M11 e11 => ?_⟩
  have k11 : GvF M M11 := k6.tr (RfF.ai (Or.inl ⟨by decide, by decide⟩) e11)
  have F11 := k11.fix F
  refine ⟨105, rf29_95 F11, 105, rf29_95 F11, ok105 F11, va (ln105 F11), ok105 F11, vb (ln105 F11), fun M16 e16 => ?_⟩
  have k16 : GvF M M16 := k11.tr (RfF.ai (Or.inl ⟨by decide, by decide⟩) e16)
  have F16 := k16.fix F
  refine ⟨106, rf29_96 F16, 106, rf29_96 F16, ok106 F16, va (ln106 F16), ok106 F16, vb (ln106 F16), fun M21 e21 => ?_⟩
  have k21 : GvF M M21 := k16.tr (RfF.ai (Or.inl ⟨by decide, by decide⟩) e21)
  have F21 := k21.fix F
  refine ⟨109, rf29_99 F21, 109, rf29_99 F21, ok109 F21, va (ln109 F21), ok109 F21, vb (ln109 F21), fun M26 e26 => ?_⟩
  refine l1 16 0 M26 (by omega) (k21.tr (RfF.ai (Or.inr (Or.inl rfl)) e26)) (fun j => ?_)
  rw [e26, mAI_wAI, if_neg (by omega), e21, mAI_wAI, if_neg (by omega), e16, mAI_wAI, if_neg (by omega), e11, mAI_wAI, if_neg (by omega)]
  exact o6 j
/-- one governor's count of kept states becomes q -/
def KpF (g q : Nat) (M M' : Mem) : Prop := RfF noP (fun c => gvA c ∨ c = 110) gvJ M M' ∧ mAI M' 110 g = Int32.ofNat q ∧ (∀ j, j ≠ g → mAI M' 110 j = mAI M 110 j) ∧ Bo M'
theorem RGs.kp {q : Nat} (hR : RGs M mods govs) (hq : q ≤ 3) (k : KpF g q M M') : RGs M' mods govs := by
  obtain ⟨F, ⟨a1, a2, -⟩, ⟨b1, b2⟩, c, d, e⟩ := hR
  obtain ⟨k, k1, k2, k3⟩ := k
  have i : ∀ f, mI M' 29 f = mI M 29 f := fun f => k.2.2.2.1 f (fun z => z)
  have r : ∀ c, ¬ (gvA c ∨ c = 110) → mAI M' c = mAI M c := fun c hc => k.2.2.2.2.1 c hc
  have n102 := r 102 (by unfold gvA; omega)
  have n34 := r 34 (by unfold gvA; omega)
  have n35 := r 35 (by unfold gvA; omega)
  have n36 := r 36 (by unfold gvA; omega)
  have n54 := r 54 (by unfold gvA; omega)
  have n55 := r 55 (by unfold gvA; omega)
  refine ⟨RfF.fix k F (by unfold gvJ; omega), ⟨by rw [i]; exact a1, a2, k3⟩, ⟨by rw [i]; exact b1, b2⟩, fun g hg => by rw [n102]; exact c g hg, fun j hj => ?_, fun m hm => by rw [n34, n35, n36, n54, n55]; exact e m hm⟩
  by_cases z : j = g
  · rw [z]; exact ⟨q, hq, k1⟩
  · rw [k2 j z]; exact d j hj
theorem R_keep (hR : RGs M mods govs) (K0 : (∀ i, i < govs → x ≠ Int32.ofNat i) → Q (some (.int (-1))) M) (K3 : ∀ i, i < govs → x = Int32.ofNat i → mAI M 110 i = Int32.ofNat 3 → Q (some (.int (-3))) M) (K : ∀ i q M', i < govs → x = Int32.ofNat i → q < 3 → mAI M 110 i = Int32.ofNat q → KpF i (q + 1) M M' → Q (some (.int (Int32.ofNat (q + 1)))) M') : E (h + 3) mdX11_keep [.ref 29, .int x] M Q := by
  obtain ⟨F, ⟨-, hm, hB⟩, ⟨-, hg⟩, -, kq, -⟩ := id hR
  refine KX11_keep (h := h + 2) ?_
  unfold DX11_keep_0
  refine ⟨ok29 F, R_isGov (h := h) hR (fun i hi e _ => ⟨1, rfl, fun _ => ?_, fun z => absurd z (by decide)⟩) (fun z _ => ⟨0, rfl, fun z => absurd rfl z, fun _ => K0 z⟩)⟩
  obtain ⟨q, hq, eq⟩ := kq i hi
  have v8 : ∀ {k : Nat}, k = 8 → vp_in x k := fun z => by rw [e, z]; exact vp_of (by omega) (by decide)
  have li : x.toNatClampNeg = i := by rw [e]; exact lt32 (by omega)
  rw [li]
  refine ⟨110, rf29_100 F, ok110 F, v8 (ln110 F), fun n3 => ?_, fun e3 => K3 i hi e e3⟩
  rw [eq] at n3
  have q3 : q < 3 := by
    have : q ≠ 3 := fun z => n3 (by rw [z]; rfl)
    omega
  have ec : (8 : Int32) + 3 * x + Int32.ofNat q = Int32.ofNat (8 + 3 * i + q) := by rw [e, Int32.ofNat_add, Int32.ofNat_add, Int32.ofNat_mul]; rfl
  refine ⟨110, rf29_100 F, ok110 F, v8 (ln110 F), ?_⟩
  rw [eq, ec, e]
  refine R_copy (h := h + 1) F hB (by omega) (by omega) (fun M8 k8 o8 _ => ⟨rfl, ?_⟩)
  have F8 := k8.fix F
  have e8 : mAI M8 110 i = Int32.ofNat q := by rw [k8.2.2.2.2.1 110 (by unfold gvA; omega)]; exact eq
  refine ⟨110, rf29_100 F8, ok110 F8, by rw [ln110 F8]; exact vp_of (by omega) (by decide), by rw [ln110 F8]; exact vp_of (by omega) (by decide), fun M11 e11 => ?_⟩
  rw [e8, succ32] at e11
  have k11 : RfF noP (fun c => gvA c ∨ c = 110) gvJ M M11 := (k8.mo (fun f z => z) (fun c z => Or.inl z) (fun c z => z)).tr (RfF.ai (Or.inr rfl) e11)
  have F11 := RfF.fix k11 F (by unfold gvJ; omega)
  have a11 : mAI M11 110 i = Int32.ofNat (q + 1) := by rw [e11, mAI_wAI, if_pos ⟨rfl, rfl⟩]
  refine ⟨110, rf29_100 F11, ok110 F11, by rw [ln110 F11]; exact vp_of (by omega) (by decide), ?_⟩
  rw [a11]
  refine K i q M11 hi e q3 eq ⟨k11, a11, fun j hj => ?_, fun j => ?_⟩
  · rw [e11, mAI_wAI, if_neg (fun z => hj z.2), k8.2.2.2.2.1 110 (by unfold gvA; omega)]
  · rw [e11, mAI_wAI, if_neg (by omega)]; exact o8 j
theorem R_back (hR : RGs M mods govs) (K0 : (∀ i, i < govs → x ≠ Int32.ofNat i) → Q (some (.int (-1))) M) (K3 : ∀ i, i < govs → x = Int32.ofNat i → mAI M 110 i = Int32.ofNat 0 → Q (some (.int (-2))) M) (K : ∀ i q M', i < govs → x = Int32.ofNat i → q < 3 → mAI M 110 i = Int32.ofNat (q + 1) → KpF i q M M' → Q (some (.int (Int32.ofNat q))) M') : E (h + 3) mdX11_back [.ref 29, .int x] M Q := by
  obtain ⟨F, ⟨-, hm, hB⟩, ⟨-, hg⟩, -, kq, -⟩ := id hR
  refine KX11_back (h := h + 2) ?_
  unfold DX11_back_0
  refine ⟨ok29 F, R_isGov (h := h) hR (fun i hi e _ => ⟨1, rfl, fun _ => ?_, fun z => absurd z (by decide)⟩) (fun z _ => ⟨0, rfl, fun z => absurd rfl z, fun _ => K0 z⟩)⟩
  obtain ⟨q0, hq, eq⟩ := kq i hi
  have li : x.toNatClampNeg = i := by rw [e]; exact lt32 (by omega)
  rw [li]
  refine ⟨110, rf29_100 F, ok110 F, by rw [ln110 F, e]; exact vp_of (by omega) (by decide), fun n0 => ?_, fun e3 => K3 i hi e e3⟩
  rw [eq] at n0
  obtain ⟨q, rfl⟩ : ∃ q, q0 = q + 1 := ⟨q0 - 1, by
    have : q0 ≠ 0 := fun z => n0 (by rw [z]; rfl)
    omega⟩
  refine ⟨110, rf29_100 F, ok110 F, by rw [ln110 F, e]; exact vp_of (by omega) (by decide), by rw [ln110 F, e]; exact vp_of (by omega) (by decide), fun M8 e8 => ?_⟩
  rw [eq, show Int32.ofNat (q + 1) - 1 = Int32.ofNat q from sub1] at e8
  have k8 : RfF noP (fun c => gvA c ∨ c = 110) gvJ M M8 := RfF.ai (Or.inr rfl) e8
  have F8 := RfF.fix k8 F (by unfold gvJ; omega)
  have a8 : mAI M8 110 i = Int32.ofNat q := by rw [e8, mAI_wAI, if_pos ⟨rfl, rfl⟩]
  have o8 : Bo M8 := fun j => by rw [e8, mAI_wAI, if_neg (by omega)]; exact hB j
  have ec : (8 : Int32) + 3 * x + Int32.ofNat q = Int32.ofNat (8 + 3 * i + q) := by rw [e, Int32.ofNat_add, Int32.ofNat_add, Int32.ofNat_mul]; rfl
  refine ⟨110, rf29_100 F8, ok110 F8, by rw [ln110 F8, e]; exact vp_of (by omega) (by decide), ?_⟩
  rw [a8, ec, e]
  refine R_copy (h := h + 1) F8 o8 (by omega) (by omega) (fun M11 k11 o11 _ => ⟨rfl, R_noAns (h := h + 1) (k11.fix F8) (by omega) (fun M12 k12 _ => ⟨rfl, ?_⟩)⟩)
  have kk := k11.tr k12.gv
  have F12 := RfF.fix kk F8 (by unfold gvJ; omega)
  have a12 : mAI M12 110 = mAI M8 110 := kk.2.2.2.2.1 110 (by unfold gvA; omega)
  refine ⟨110, rf29_100 F12, ok110 F12, by rw [ln110 F12]; exact vp_of (by omega) (by decide), ?_⟩
  rw [a12, a8]
  refine K i q M12 hi e (by omega) eq ⟨k8.tr (kk.mo (fun f z => z) (fun c z => Or.inl z) (fun c z => z)), by rw [a12]; exact a8, fun j hj => ?_, k12.bo o11⟩
  rw [a12, e8, mAI_wAI, if_neg (fun z => hj z.2)]
end
