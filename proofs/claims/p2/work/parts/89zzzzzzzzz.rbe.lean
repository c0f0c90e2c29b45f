/-! the reference's beat, whole -/
/-- what a beat asks of a module of the reference -/
def RbM (R : RMo) (sl il : List Nat) (X : List Nd) (np : Nat) (M : Mem) : Prop := RmS R sl M ∧ (NdL R ∧ EmL R ∧ SgL R ∧ StL R sl) ∧ ((mAI M 35 (moM R) = Int32.ofNat il.length ∧ il.length ≤ 4) ∧ (∀ j, j < il.length → mAI M 41 (4 * moM R + j) = Int32.ofNat (il.getD j 0)) ∧ (∀ j k, j < il.length → k < il.length → il.getD j 0 = il.getD k 0 → j = k) ∧ (∀ j, j < il.length → il.getD j 0 < moQ R ∧ moT R (il.getD j 0) = 0) ∧ ∀ s, s < moQ R → moT R s = 0 → ∃ j, j < il.length ∧ il.getD j 0 = s) ∧ RpM M X (moM R) np ∧ (∀ j, j < np → ∃ y, inR R y ∧ mAI M 90 (40 * moM R + j) = Int32.ofNat y) ∧ ∃ y, inR R y ∧ mAI M 91 (moM R) = Int32.ofNat y
/-- what a beat of the reference writes -/
abbrev BtR (M M' : Mem) : Prop := RfF (fun f => (83 ≤ f ∧ f ≤ 89) ∨ f = 111 ∨ f = 113) (fun c => 95 ≤ c ∧ c ≠ 102 ∧ c ≠ 110 ∧ c < 122) (fun c => 95 ≤ c ∧ c ≠ 112 ∧ c < 122) M M'
section
variable {M M' : Mem} {R : RMo} {sl il : List Nat} {X : List Nd} {np mods govs h : Nat} {Q : Option Value → Mem → Prop} {x : Int32}
theorem RbM.br {fs cs js : Nat → Prop} (hB : RbM R sl il X np M) (k : RfF fs cs js M M') (hc : ∀ c, cs c → 95 ≤ c) (hj : ∀ c, js c → 95 ≤ c) : RbM R sl il X np M' := by
  obtain ⟨a, b, ⟨c1, c2, c3⟩, d, e, f⟩ := hB
  have r : ∀ c, c < 95 → mAI M' c = mAI M c := fun c hc2 => k.2.2.2.2.1 c (fun z => by have := hc c z; omega)
  exact ⟨a.br r, b, ⟨by rw [r 35 (by decide)]; exact c1, by rw [r 41 (by decide)]; exact c2, c3⟩, d.br k hc hj, by rw [r 90 (by decide)]; exact e, by rw [r 91 (by decide)]; exact f⟩
theorem BtR.fix (k : BtR M M') (F : Fix M) : Fix M' := RfF.fix k F (by omega)
theorem RbM.bt (hB : RbM R sl il X np M) (k : BtR M M') : RbM R sl il X np M' := hB.br k (fun c z => z.1) (fun c z => z.1)
theorem R_beat (hR : RGs M mods govs) (hm : ∀ m, m < mods → ∃ R sl il X np, moM R = m ∧ RbM R sl il X np M) (K0 : ∀ r : Int32, Q (some (.int r)) M) (K : ∀ M' (r : Int32), BtR M M' → Bo M' → Q (some (.int r)) M') : E (h + 6) mdX11_beat [.ref 29, .int x] M Q := by
  obtain ⟨F, ⟨-, hmm, hBo⟩, ⟨-, hg⟩, gm, -⟩ := id hR
  refine KX11_beat (h := h + 5) ?_
  unfold DX11_beat_0
  refine ⟨ok29 F, R_isGov (h := h + 3) hR (fun i hi e _ => ⟨1, rfl, fun _ => ?_, fun z => absurd z (by decide)⟩) (fun _ _ => ⟨0, rfl, fun z => absurd rfl z, fun _ => K0 _⟩)⟩
  obtain ⟨m, hm2, em⟩ := gm i hi
  obtain ⟨R, sl, il, X, np, eR, hB⟩ := hm m hm2
  subst eR
  have m4 : moM R < 4 := hB.1.1.1
  have s7 : (moS R).1 ≤ 700 := hB.1.1.2.1.1.2
  have np40 : np ≤ 40 := hB.2.2.2.1.2.2.1.2
  have v8 : ∀ {k : Nat}, k = 8 ∨ k = 32 → vp_in (Int32.ofNat i) k := fun e => by
    rcases e with e | e <;> rw [e] <;> exact vp_of (by omega) (by decide)
  have li : (Int32.ofNat i).toNatClampNeg = i := lt32 (by omega)
  have boK : ∀ {M1 M2 : Mem} {c k : Nat} {v : Int32}, Bo M1 → c ≠ 103 → M2 = wAI M1 c k v → Bo M2 := fun {M1 M2 c k v} hb hc e2 j => by
    rw [e2, mAI_wAI, if_neg (fun z => hc z.1.symm)]; exact hb j
  have boR : ∀ {M1 M2 : Mem}, Bo M1 → mAI M2 103 = mAI M1 103 → Bo M2 := fun {M1 M2} hb e2 j => by rw [e2]; exact hb j
  rw [e]
  -- the end of it
  have l346 : ∀ d q M1, q + d = 6 → BtR M M1 → Bo M1 → mI M1 29 84 = Int32.ofNat (moM R) → (∃ ρ, RSv R ρ M1) → T (h + 6) mdX11_beat 346 [(0, .ref 29), (1, .int (Int32.ofNat i)), (4, .int (Int32.ofNat q))] [] M1 Q := by
    intro d
    induction d with
    | zero =>
      intro q M1 hq k1 b1 e1 V1
      have F1 := k1.fix F
      have B1 := hB.bt k1
      have q6 : q = 6 := by omega
      subst q6
      refine VX11_beat_346 (h := h + 5) ?_
      unfold DX11_beat_346
      refine ⟨fun _ => ⟨ok29 F1, 116, rf29_106 F1, R_prNow (h := h + 4) B1.1 F1 e1 (fun r4 _ => ⟨r4, rfl, ok116 F1, v8 (by rw [ln116 F1]; decide), fun M6 e6 => ?_⟩)⟩, fun z => absurd Int32.le_rfl z⟩
      have k6 : BtR M M6 := k1.tr (RfF.ai (by omega) e6)
      have F6 := k6.fix F
      have b6 := boK b1 (by decide) e6
      refine ⟨106, rf29_96 F6, 116, rf29_106 F6, ok116 F6, v8 (by rw [ln116 F6]; decide), ok106 F6, v8 (by rw [ln106 F6]; decide), fun M11 e11 => ?_⟩
      have k11 : BtR M M11 := k6.tr (RfF.ai (by omega) e11)
      have F11 := k11.fix F
      have b11 := boK b6 (by decide) e11
      have e84 : mI M11 29 84 = Int32.ofNat (moM R) := by rw [e11, e6]; exact e1
      refine ⟨105, rf29_95 F11, R_setNow (h := h + 4) (hB.bt k11).1 F11 e84 (fun r14 _ => ⟨r14, rfl, ok105 F11, v8 (by rw [ln105 F11]; decide), fun M16 e16 => ?_⟩)⟩
      have k16 : BtR M M16 := k11.tr (RfF.ai (by omega) e16)
      have F16 := k16.fix F
      have b16 := boK b11 (by decide) e16
      refine ⟨103, rf29_93 F16, ok103 F16, v8 (by rw [ln103 F16]; decide), fun M19 e19 => ?_⟩
      have k19 : BtR M M19 := k16.tr (RfF.ai (by omega) e19)
      have F19 := k19.fix F
      have b19 : Bo M19 := fun j => by
        rw [e19, mAI_wAI]
        by_cases z : (103 : Nat) = 103 ∧ j = (Int32.ofNat i).toNatClampNeg
        · rw [if_pos z]; exact Or.inl rfl
        · rw [if_neg z]; exact b16 j
      refine ⟨109, rf29_99 F19, ok109 F19, v8 (by rw [ln109 F19]; decide), v8 (by rw [ln109 F19]; decide), fun M22 e22 => ?_⟩
      have k22 : BtR M M22 := k19.tr (RfF.ai (by omega) e22)
      have F22 := k22.fix F
      have b22 := boK b19 (by decide) e22
      have B22 := hB.bt k22
      have e84b : mI M22 29 84 = Int32.ofNat (moM R) := by rw [e22, e19, e16]; exact e84
      obtain ⟨ρ, V1⟩ := V1
      have V22 : RSv R ρ M22 := V1.rm (fun c c1 c2 => by rw [e22, mAI_wAI_ne (by omega), e19, mAI_wAI_ne (by omega), e16, mAI_wAI_ne (by omega), e11, mAI_wAI_ne (by omega), e6, mAI_wAI_ne (by omega)])
      obtain ⟨y, hy, ey⟩ := B22.2.2.2.2.2
      rw [e84b, lt32 (show moM R < 2147483648 by omega)]
      refine ⟨104, rf29_94 F22, 91, rf29_73 F22, ok91 F22, by rw [ln91 F22]; exact vp_of (by omega) (by decide), ?_⟩
      rw [ey]
      have f475 : ∀ (s : Int32) Ma, BtR M Ma → Bo Ma → DX11_beat_475 (h + 5) 29 (Int32.ofNat i) 113 (Int32.ofNat i) s Ma Q := by
        intro s Ma ka ba
        have Fa := ka.fix F
        unfold DX11_beat_475
        refine ⟨ok113 Fa, v8 (by rw [ln113 Fa]; decide), fun M2 e2 => ?_⟩
        have k2 : BtR M M2 := ka.tr (RfF.ai (by omega) e2)
        have F2 := k2.fix F
        exact ⟨ok29 F2, 113, rf29_103 F2, ok113 F2, v8 (by rw [ln113 F2]; decide), K M2 _ k2 (boK ba (by decide) e2)⟩
      have f455 : ∀ (s : Int32), DX11_beat_455 (h + 5) 29 (Int32.ofNat i) 104 (Int32.ofNat i) s M22 Q := by
        intro s
        unfold DX11_beat_455
        refine ⟨ok104 F22, v8 (by rw [ln104 F22]; decide), fun M2 e2 => ?_⟩
        have k2 : BtR M M2 := k22.tr (RfF.ai (by omega) e2)
        have F2 := k2.fix F
        have b2 := boK b22 (by decide) e2
        exact ⟨ok29 F2, 113, rf29_103 F2, 104, rf29_94 F2, ok104 F2, v8 (by rw [ln104 F2]; decide), fun _ => f475 _ M2 k2 b2, fun _ => f475 _ M2 k2 b2⟩
      refine R_k (h := h + 4) (n := 0) B22.1 (inM_b (il := il) F22 e84b).1 V22 hy (by have := B22.1.1.2.2.2.1; omega) (fun _ => ⟨_, rfl, fun _ => f455 _, fun _ => f455 _⟩)
    | succ d ih =>
      intro q M1 hq k1 b1 e1 V1
      have F1 := k1.fix F
      refine VX11_beat_346 (h := h + 5) ?_
      unfold DX11_beat_346
      have e6 : 6 * Int32.ofNat i + Int32.ofNat q = Int32.ofNat (6 * i + q) := by rw [Int32.ofNat_add, Int32.ofNat_mul]; rfl
      rw [succ32, e6]
      refine ⟨fun z => ?_, fun _ => ⟨ok29 F1, 108, rf29_98 F1, 120, rf29_110 F1, ok120 F1, by rw [ln120 F1]; exact vp_of (by omega) (by decide), ok108 F1, by rw [ln108 F1]; exact vp_of (by omega) (by decide), fun M33 e33 => ih (q + 1) M33 (by omega) (k1.tr (RfF.aj (by omega) e33)) (boR b1 (by rw [e33]; rfl)) (by rw [e33]; exact e1) ?_⟩⟩
      · have := (le32 (a := 6) (by decide) (by omega)).mp z
        omega
      · obtain ⟨ρ, V⟩ := V1
        exact ⟨ρ, V.rm (fun c _ _ => by rw [e33]; rfl)⟩
  have l311 : ∀ d q M1, q + d = 16 → BtR M M1 → Bo M1 → mI M1 29 84 = Int32.ofNat (moM R) → (∃ ρ, RSv R ρ M1) → T (h + 6) mdX11_beat 311 [(0, .ref 29), (1, .int (Int32.ofNat i)), (4, .int (Int32.ofNat q))] [] M1 Q := by
    intro d
    induction d with
    | zero =>
      intro q M1 hq k1 b1 e1 V1
      have q6 : q = 16 := by omega
      subst q6
      refine VX11_beat_311 (h := h + 5) ?_
      unfold DX11_beat_311
      exact ⟨fun _ => l346 6 0 M1 (by omega) k1 b1 e1 V1, fun z => absurd Int32.le_rfl z⟩
    | succ d ih =>
      intro q M1 hq k1 b1 e1 V1
      have F1 := k1.fix F
      refine VX11_beat_311 (h := h + 5) ?_
      unfold DX11_beat_311
      have e6 : 16 * Int32.ofNat i + Int32.ofNat q = Int32.ofNat (16 * i + q) := by rw [Int32.ofNat_add, Int32.ofNat_mul]; rfl
      rw [succ32, e6]
      refine ⟨fun z => ?_, fun _ => ⟨ok29 F1, 107, rf29_97 F1, 119, rf29_109 F1, ok119 F1, by rw [ln119 F1]; exact vp_of (by omega) (by decide), ok107 F1, by rw [ln107 F1]; exact vp_of (by omega) (by decide), fun M33 e33 => ih (q + 1) M33 (by omega) (k1.tr (RfF.aj (by omega) e33)) (boR b1 (by rw [e33]; rfl)) (by rw [e33]; exact e1) ?_⟩⟩
      · have := (le32 (a := 16) (by decide) (by omega)).mp z
        omega
      · obtain ⟨ρ, V⟩ := V1
        exact ⟨ρ, V.rm (fun c _ _ => by rw [e33]; rfl)⟩
  have l191 : ∀ d q M1, q + d = il.length → BtR M M1 → Bo M1 → mI M1 29 84 = Int32.ofNat (moM R) → (∃ ρ, RSv R ρ M1) → T (h + 6) mdX11_beat 191 [(0, .ref 29), (1, .int (Int32.ofNat i)), (3, .int (Int32.ofNat q))] [] M1 Q := by
    intro d
    induction d with
    | zero =>
      intro q M1 hq k1 b1 e1 V1
      have F1 := k1.fix F
      have B1 := hB.bt k1
      obtain ⟨c1, c2⟩ := B1.2.2.1.1
      refine VX11_beat_191 (h := h + 5) ?_
      unfold DX11_beat_191
      rw [e1, lt32 (show moM R < 2147483648 by omega)]
      refine ⟨ok29 F1, 35, rf29_9 F1, ok35 F1, by rw [ln35 F1]; exact vp_of (by omega) (by decide), fun _ => R_wkPts (h := h + 1) F1 B1.2.2.2.1 e1 (fun j hj => ?_) (fun M4 r5 k4 _ => ⟨r5, rfl, ?_⟩), fun z => absurd ?_ z⟩
      · obtain ⟨y, hy, ey⟩ := B1.2.2.2.2.1 j hj
        exact ⟨y, hy.1, by have := hy.2; omega, ey⟩
      · have k4' : BtR M M4 := k1.tr (RfF.mo k4 (fun f z => by omega) (fun c z => by omega) (fun c z => by omega))
        have F4 := k4'.fix F
        have b4 := boR b1 (k4.2.2.2.2.1 103 (by decide))
        obtain ⟨ρ, V⟩ := V1
        refine ⟨fun _ => l311 16 0 M4 (by omega) k4' b4 (by rw [k4.2.2.2.1 84 (by omega)]; exact e1) ⟨ρ, V.rm (fun c _ _ => k4.2.2.2.2.1 c (by omega))⟩, fun _ => ⟨114, rf29_104 F4, ok114 F4, v8 (by rw [ln114 F4]; decide), fun M8 e8 => ?_⟩⟩
        have k8 : BtR M M8 := k4'.tr (RfF.ai (by omega) e8)
        have F8 := k8.fix F
        refine ⟨115, rf29_105 F8, ok115 F8, v8 (by rw [ln115 F8]; decide), fun M11 e11 => ?_⟩
        have k11 : BtR M M11 := k8.tr (RfF.ai (by omega) e11)
        have F11 := k11.fix F
        exact ⟨113, rf29_103 F11, ok113 F11, v8 (by rw [ln113 F11]; decide), fun M14 e14 => K M14 _ (k11.tr (RfF.ai (by omega) e14)) (boK (boK (boK b4 (by decide) e8) (by decide) e11) (by decide) e14)⟩
      · rw [c1, show q = il.length by omega]
        exact Int32.le_rfl
    | succ d ih =>
      intro q M1 hq k1 b1 e1 V1
      have F1 := k1.fix F
      have B1 := hB.bt k1
      obtain ⟨⟨c1, c2⟩, c3, -, c5, -⟩ := B1.2.2.1
      have q16 : moQ R ≤ 16 := hB.1.1.2.2.1
      obtain ⟨s1, -⟩ := c5 q (by omega)
      have f266 : ∀ Ma, BtR M Ma → Bo Ma → mI Ma 29 84 = Int32.ofNat (moM R) → (∃ ρ, RSv R ρ Ma) → DX11_beat_266 (h + 5) 29 (Int32.ofNat i) (Int32.ofNat q) Ma Q := fun Ma ka ba ea Va => by
        unfold DX11_beat_266
        rw [succ32]
        exact ih (q + 1) Ma (by omega) ka ba ea Va
      have e4 : 4 * Int32.ofNat (moM R) + Int32.ofNat q = Int32.ofNat (4 * moM R + q) := by rw [Int32.ofNat_add, Int32.ofNat_mul]; rfl
      have e4i : 4 * Int32.ofNat i + Int32.ofNat q = Int32.ofNat (4 * i + q) := by rw [Int32.ofNat_add, Int32.ofNat_mul]; rfl
      have e16 : ∀ s : Nat, 16 * Int32.ofNat (moM R) + Int32.ofNat s = Int32.ofNat (16 * moM R + s) := fun s => by rw [Int32.ofNat_add, Int32.ofNat_mul]; rfl
      refine VX11_beat_191 (h := h + 5) ?_
      unfold DX11_beat_191
      rw [e1, lt32 (show moM R < 2147483648 by omega), e4, e4i, lt32 (show 4 * moM R + q < 2147483648 by omega)]
      refine ⟨ok29 F1, 35, rf29_9 F1, ok35 F1, by rw [ln35 F1]; exact vp_of (by omega) (by decide), fun z => ?_, fun _ => ⟨41, rf29_15 F1, ok41 F1, by rw [ln41 F1]; exact vp_of (by omega) (by decide), ?_⟩⟩
      · rw [c1] at z
        have := (le32 (by omega) (by omega)).mp z
        omega
      rw [c3 q (by omega), e16]
      refine ⟨fun _ => f266 M1 k1 b1 e1 V1, fun _ => ⟨39, rf29_13 F1, ok39 F1, by rw [ln39 F1]; exact vp_of (by omega) (by decide), fun _ => f266 M1 k1 b1 e1 V1, fun _ => ⟨119, rf29_109 F1, 112, rf29_102 F1, ok112 F1, by rw [ln112 F1]; exact vp_of (by omega) (by decide), ok119 F1, by rw [ln119 F1]; exact vp_of (by omega) (by decide), fun M23 e23 => f266 M23 (k1.tr (RfF.aj (by omega) e23)) (boR b1 (by rw [e23]; rfl)) (by rw [e23]; exact e1) ?_⟩⟩⟩
      obtain ⟨ρ, V⟩ := V1
      exact ⟨ρ, V.rm (fun c _ _ => by rw [e23]; rfl)⟩
  have l105 : ∀ d q M1, q + d = 6 → BtR M M1 → Bo M1 → mI M1 29 84 = Int32.ofNat (moM R) → T (h + 6) mdX11_beat 105 [(0, .ref 29), (1, .int (Int32.ofNat i)), (2, .int (Int32.ofNat q))] [] M1 Q := by
    intro d
    induction d with
    | zero =>
      intro q M1 hq k1 b1 e1
      have q6 : q = 6 := by omega
      subst q6
      have F1 := k1.fix F
      have B1 := hB.bt k1
      refine VX11_beat_105 (h := h + 5) ?_
      unfold DX11_beat_105
      refine ⟨fun _ => ⟨ok29 F1, R_wkIfs (h := h + 1) F1 B1.2.2.2.1 e1 (fun M2 k2 _ => ⟨rfl, ?_⟩)⟩, fun z => absurd Int32.le_rfl z⟩
      have k2' : BtR M M2 := k1.tr (RfF.mo k2 (fun f z => by omega) (fun c z => by omega) (fun c z => by omega))
      have F2 := k2'.fix F
      have B2 := hB.bt k2'
      have e2 : mI M2 29 84 = Int32.ofNat (moM R) := by rw [k2.2.2.2.1 84 (by omega)]; exact e1
      have b2 := boR b1 (k2.2.2.2.2.1 103 (by decide))
      obtain ⟨hI, hbf⟩ := inM_b (il := il) F2 e2
      obtain ⟨g1, g2, g3, g4, g5⟩ := B2.2.2.1
      obtain ⟨n1, n2, n3, n4⟩ := B2.2.1
      refine R_solve (h := h) hI hbf B2.1 n1 n2 n3 n4 (inM_l g1 g2 g3 g4 g5) (fun ρ M3 r4 k3 V3 _ _ _ _ => ⟨r4, rfl, ?_⟩)
      have k3' : BtR M M3 := k2'.tr (RfF.mo k3.rff (fun f z => by omega) (fun c z => by omega) (fun c z => z.elim))
      have B3 := hB.bt k3'
      have I3 := k3.bi hI
      have b3 := boR b2 (k3.2.2.2.2 103 (by omega))
      refine R_kpW (h := h + 3) B3.1 I3 V3 (by omega) B3.2.2.2.1.2.2.1.1 np40 B3.2.2.2.2.1 (fun M5 k5 _ => ⟨rfl, ?_⟩)
      have k5' : BtR M M5 := k3'.tr (RfF.mo k5 (fun f z => z.elim) (fun c z => by omega) (fun c z => z.elim))
      have F5 := k5'.fix F
      have b5 := boR b3 (k5.2.2.2.2.1 103 (by decide))
      have e5 : mI M5 29 84 = Int32.ofNat (moM R) := by rw [k5.2.2.2.1 84 (fun z => z)]; exact I3.2.1
      have V5 : RSv R ρ M5 := V3.rm (fun c _ _ => k5.2.2.2.2.1 c (by omega))
      refine ⟨111, rf29_101 F5, ok111 F5, v8 (by rw [ln111 F5]; decide), fun M8 e8 => ?_⟩
      have k8 : BtR M M8 := k5'.tr (RfF.ai (by omega) e8)
      have F8 := k8.fix F
      refine ⟨116, rf29_106 F8, ok116 F8, v8 (by rw [ln116 F8]; decide), fun M11 e11 => ?_⟩
      have k11 : BtR M M11 := k8.tr (RfF.ai (by omega) e11)
      have F11 := k11.fix F
      refine ⟨114, rf29_104 F11, ok114 F11, v8 (by rw [ln114 F11]; decide), fun M14 e14 => ?_⟩
      have k14 : BtR M M14 := k11.tr (RfF.ai (by omega) e14)
      have F14 := k14.fix F
      refine ⟨115, rf29_105 F14, ok115 F14, v8 (by rw [ln115 F14]; decide), fun M17 e17 => ?_⟩
      have k17 : BtR M M17 := k14.tr (RfF.ai (by omega) e17)
      have F17 := k17.fix F
      have b17 := boK (boK (boK (boK b5 (by decide) e8) (by decide) e11) (by decide) e14) (by decide) e17
      have V17 : RSv R ρ M17 := V5.rm (fun c c1 c2 => by rw [e17, mAI_wAI_ne (by omega), e14, mAI_wAI_ne (by omega), e11, mAI_wAI_ne (by omega), e8, mAI_wAI_ne (by omega)])
      exact ⟨fun _ => l191 il.length 0 M17 (by omega) k17 b17 (by rw [e17, e14, e11, e8]; exact e5) ⟨ρ, V17⟩, fun _ => ⟨113, rf29_103 F17, ok113 F17, v8 (by rw [ln113 F17]; decide), fun M20 e20 => K M20 _ (k17.tr (RfF.ai (by omega) e20)) (boK b17 (by decide) e20)⟩⟩
    | succ d ih =>
      intro q M1 hq k1 b1 e1
      have F1 := k1.fix F
      refine VX11_beat_105 (h := h + 5) ?_
      unfold DX11_beat_105
      have e6 : 6 * Int32.ofNat i + Int32.ofNat q = Int32.ofNat (6 * i + q) := by rw [Int32.ofNat_add, Int32.ofNat_mul]; rfl
      rw [succ32, e6]
      refine ⟨fun z => ?_, fun _ => ⟨ok29 F1, 120, rf29_110 F1, 108, rf29_98 F1, ok108 F1, by rw [ln108 F1]; exact vp_of (by omega) (by decide), ok120 F1, by rw [ln120 F1]; exact vp_of (by omega) (by decide), fun M33 e33 => ih (q + 1) M33 (by omega) (k1.tr (RfF.aj (by omega) e33)) (boR b1 (by rw [e33]; rfl)) (by rw [e33]; exact e1)⟩⟩
      have := (le32 (a := 6) (by decide) (by omega)).mp z
      omega
  have l74 : ∀ d q M1, q + d = 16 → BtR M M1 → Bo M1 → mI M1 29 84 = Int32.ofNat (moM R) → T (h + 6) mdX11_beat 74 [(0, .ref 29), (1, .int (Int32.ofNat i)), (2, .int (Int32.ofNat q))] [] M1 Q := by
    intro d
    induction d with
    | zero =>
      intro q M1 hq k1 b1 e1
      have q6 : q = 16 := by omega
      subst q6
      refine VX11_beat_74 (h := h + 5) ?_
      unfold DX11_beat_74
      exact ⟨fun _ => l105 6 0 M1 (by omega) k1 b1 e1, fun z => absurd Int32.le_rfl z⟩
    | succ d ih =>
      intro q M1 hq k1 b1 e1
      have F1 := k1.fix F
      refine VX11_beat_74 (h := h + 5) ?_
      unfold DX11_beat_74
      have e6 : 16 * Int32.ofNat i + Int32.ofNat q = Int32.ofNat (16 * i + q) := by rw [Int32.ofNat_add, Int32.ofNat_mul]; rfl
      rw [succ32, e6]
      refine ⟨fun z => ?_, fun _ => ⟨ok29 F1, 119, rf29_109 F1, 107, rf29_97 F1, ok107 F1, by rw [ln107 F1]; exact vp_of (by omega) (by decide), ok119 F1, by rw [ln119 F1]; exact vp_of (by omega) (by decide), fun M33 e33 => ih (q + 1) M33 (by omega) (k1.tr (RfF.aj (by omega) e33)) (boR b1 (by rw [e33]; rfl)) (by rw [e33]; exact e1)⟩⟩
      have := (le32 (a := 16) (by decide) (by omega)).mp z
      omega
  refine ⟨104, rf29_94 F, ok104 F, v8 (by rw [ln104 F]; decide), fun _ => ⟨102, rf29_92 F, ok102 F, v8 (by rw [ln102 F]; decide), fun M8 e8 => ?_⟩, fun _ => K0 _⟩
  rw [li, em] at e8
  have k8 : BtR M M8 := RfF.i (by omega) e8
  have F8 := k8.fix F
  have m8 : mI M8 29 84 = Int32.ofNat (moM R) := by rw [e8, mI_wI, if_pos ⟨rfl, rfl⟩]
  refine ⟨105, rf29_95 F8, ok105 F8, v8 (by rw [ln105 F8]; decide), fun M11 e11 => ?_⟩
  have k11 : BtR M M11 := k8.tr (RfF.i (by omega) e11)
  have F11 := k11.fix F
  refine ⟨106, rf29_96 F11, ok106 F11, v8 (by rw [ln106 F11]; decide), fun M14 e14 => ?_⟩
  have k14 : BtR M M14 := k11.tr (RfF.i (by omega) e14)
  have F14 := k14.fix F
  refine ⟨111, rf29_101 F14, ok111 F14, v8 (by rw [ln111 F14]; decide), fun M17 e17 => ?_⟩
  have k17 : BtR M M17 := k14.tr (RfF.i (by omega) e17)
  have F17 := k17.fix F
  have b17 : Bo M17 := boR hBo (by rw [e17, e14, e11, e8]; rfl)
  refine ⟨103, rf29_93 F17, ok103 F17, v8 (by rw [ln103 F17]; decide), b17 _, fun M20 e20 => ?_⟩
  have k20 : BtR M M20 := k17.tr (RfF.i (by omega) e20)
  have w : ∀ {M1 M2 : Mem} {f : Nat} {v : Int32}, f ≠ 84 → M2 = wI M1 29 f v → mI M2 29 84 = mI M1 29 84 := fun hf e2 => by rw [e2, mI_wI, if_neg (fun z => hf z.2.symm)]
  exact l74 16 0 M20 (by omega) k20 (boR b17 (by rw [e20]; rfl)) (by rw [w (by decide) e20, w (by decide) e17, w (by decide) e14, w (by decide) e11]; exact m8)
end
