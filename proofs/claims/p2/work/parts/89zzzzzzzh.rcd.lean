/-! a node's codes, worked by the reference -/
/-- what is known of the reference's nodes -/
def NdL (R : RMo) : Prop := ∀ y, inR R y → (∃ t, t ≤ 10 ∧ (moS R).2 80 y = Int32.ofNat t) ∧ ((moS R).2 80 y = 5 ∨ (moS R).2 80 y = 1 → ∃ j, j < 40 ∧ (moS R).2 81 y = Int32.ofNat (40 * moM R + j)) ∧ ((moS R).2 80 y = 4 ∨ (moS R).2 80 y = 8 → ∃ j f c, j < 40 ∧ (moS R).2 81 y = Int32.ofNat (40 * moM R + j) ∧ CdR R (40 * moM R + j) f c) ∧ ((moS R).2 80 y = 1 → ∃ s, s < moQ R ∧ moA R 60 ((moS R).2 81 y).toNatClampNeg = Int32.ofNat s) ∧ ((moS R).2 80 y = 4 ∨ (moS R).2 80 y = 5 ∨ (moS R).2 80 y = 6 ∨ (moS R).2 80 y = 7 ∨ (moS R).2 80 y = 8 ∨ (moS R).2 80 y = 10 → moG R y ≠ [])
section
variable {R : RMo} {I : RIn} {sl : List Nat} {ρ : Plc → Nat} {M M1 M' : Mem} {h y n j : Nat} {Q : Option Value → Mem → Prop}
theorem ifC_le : ∀ j, ifC R j ≤ j
  | 0 => Nat.le_refl _
  | j + 1 => by
    have := ifC_le j
    show (if moA R 58 (40 * moM R + j) = 14 then ifC R j + 1 else ifC R j) ≤ j + 1
    split <;> omega
theorem R_ifAt (hS : RmS R sl M) (hI : RbI R I M) (hj : j < 40) (H : Q (some (.int (Int32.ofNat (iTr I (40 * moM R + j))))) M) : E (h + 1) mdX11_ifAt [.ref 29, .int (Int32.ofNat (40 * moM R + j))] M Q := by
  have h4 := hS.1.1
  have F := hI.1
  have main : ∀ (d k : Nat), k + d = j → T (h + 1) mdX11_ifAt 10 [(0, .ref 29), (1, .int (Int32.ofNat (40 * moM R + j))), (2, .int (Int32.ofNat (ifC R k))), (3, .int (Int32.ofNat (40 * moM R + k)))] [] M Q := by
    intro d
    induction d with
    | zero =>
      intro k hk
      have ek : k = j := by omega
      refine VX11_ifAt_10 ?_
      unfold DX11_ifAt_10
      rw [ek]
      refine ⟨fun _ => ⟨ok29 F, ?_⟩, fun z => absurd Int32.le_rfl z⟩
      rw [(hI.2.2.2.2.2 j hj).1]
      exact H
    | succ d ih =>
      intro k hk
      refine VX11_ifAt_10 ?_
      unfold DX11_ifAt_10 DX11_ifAt_32
      rw [lt32 (show 40 * moM R + k < 2147483648 by omega)]
      refine ⟨fun z => ?_, fun _ => ⟨ok29 F, 58, rf29_38 F, ok58 F, by rw [ln58 F]; exact vp_of (by omega) (by decide), ?_⟩⟩
      · have := (le32 (by omega) (by omega)).mp z
        omega
      rw [hS.2.2.2.1 58 (40 * moM R + k) (by decide) (by decide) (by omega) (by omega), succ32, show 40 * moM R + k + 1 = 40 * moM R + (k + 1) by omega]
      have q := ih (k + 1) (by omega)
      have e : ifC R (k + 1) = if moA R 58 (40 * moM R + k) = 14 then ifC R k + 1 else ifC R k := rfl
      rw [e] at q
      refine ⟨fun z => ?_, fun z => ?_⟩
      · rw [if_neg z] at q
        have e0 : Int32.ofNat (ifC R k) + 0 = Int32.ofNat (ifC R k) := Int32.add_zero _
        rw [e0]
        exact q
      · rw [if_pos z] at q
        rw [succ32]
        exact q
  refine KX11_ifAt ?_
  unfold DX11_ifAt_0
  have e40 : (40 : Int32) * Int32.ofNat (moM R) = Int32.ofNat (40 * moM R) := by rw [Int32.ofNat_mul]; rfl
  rw [hI.2.1, e40]
  exact ⟨ok29 F, main j 0 (by omega)⟩
theorem lok_le (hS : RmS R sl M) (hI : RbI R I M) (hb : ∀ s, iBf I s ≤ 1) (hV : RSv R ρ M) (hL : NdL R) (hy : inR R y) : lokR R I ρ y ≤ 2 := by
  unfold lokR
  by_cases z : (moS R).2 80 y = 5
  · rw [if_pos z]
    obtain ⟨j, j1, j2⟩ := (hL y hy).2.1 (Or.inl z)
    have h4 := hS.1.1
    rw [j2, lt32 (by omega)]
    have := (hI.2.2.2.2.2 j j1).2
    omega
  · rw [if_neg z]
    exact cvL_le (fun s => hV.1 _) (fun s => by have := hb s; omega) _
/-- what a choice or a suspension looks at -/
theorem R_lok (hS : RmS R sl M) (hI : RbI R I M) (hb : ∀ s, iBf I s ≤ 1) (hV : RSv R ρ M) (hL : NdL R) (hy : inR R y) (h48 : (moS R).2 80 y = 4 ∨ (moS R).2 80 y = 8) (H : ∀ M', ArF (fun c => c = 101) M M' → Q (some (.int (Int32.ofNat (lokR R I ρ y)))) M') : E (h + 2) mdX11_condValue [.ref 29, .int (mAI M 81 y)] M Q := by
  obtain ⟨j, f, c, j1, j2, j3⟩ := (hL y hy).2.2.1 h48
  have h4 := hS.1.1
  have e : lokR R I ρ y = cndR R I ρ (40 * moM R + j) := by
    unfold lokR
    rw [if_neg (show ¬ (moS R).2 80 y = 5 by rcases h48 with z | z <;> rw [z] <;> decide), j2, lt32 (by omega)]
  rw [e] at H
  rw [hS.2.1 81 y (by decide) (by decide) hy, j2]
  exact R_cond hS hI hb hV j3 H
theorem R_lok5 (hS : RmS R sl M) (hI : RbI R I M) (hL : NdL R) (hy : inR R y) (h5 : (moS R).2 80 y = 5) (H : Q (some (.int (Int32.ofNat (lokR R I ρ y)))) M) : E (h + 1) mdX11_ifAt [.ref 29, .int (mAI M 81 y)] M Q := by
  obtain ⟨j, j1, j2⟩ := (hL y hy).2.1 (Or.inl h5)
  have h4 := hS.1.1
  have e : lokR R I ρ y = iTr I (40 * moM R + j) := by
    unfold lokR
    rw [if_pos h5, j2, lt32 (by omega)]
  rw [e] at H
  rw [hS.2.1 81 y (by decide) (by decide) hy, j2]
  exact R_ifAt hS hI j1 H
theorem R_codeV (hS : RmS R sl M) (hI : RbI R I M) (hb : ∀ s, iBf I s ≤ 1) (hV : RSv R ρ M) (hL : NdL R) (hy : inR R y) (hn : n < moC R) (H : ∀ M', ArF (fun c => c = 101) M M' → Q (some (.int (Int32.ofNat (cdR R I ρ y n)))) M') : E (h + 4) mdX11_codeValue [.ref 29, .int (Int32.ofNat y), .int (Int32.ofNat n)] M Q := by
  obtain ⟨b1, b2, b3⟩ := hy.b hS
  have c3 := hS.1.2.2.2.1
  have c20 := hS.1.2.2.2.2.1
  have F := hI.1
  obtain ⟨⟨t, t10, et⟩, -, -, -, hne⟩ := hL y hy
  obtain ⟨k0, k1⟩ := kid_ix hS hy
  have ly : (Int32.ofNat y).toNatClampNeg = y := lt32 (by omega)
  have v28 : ∀ {z : Nat}, z = 2800 → vp_in (Int32.ofNat y) z := fun e => by rw [e]; exact vp_of (by omega) (by decide)
  have v70 : ∀ {z : Nat}, z = 700 → vp_in (Int32.ofNat (y - 700 * moM R)) z := fun e => by rw [e]; exact vp_of (by omega) (by decide)
  have e80 : mAI M 80 y = Int32.ofNat t := by rw [hS.2.1 80 y (by decide) (by decide) hy, et]
  have n0_ : (Int32.ofNat n = 0) ↔ n = 0 := ⟨fun e => inj32 (a := n) (b := 0) (by omega) (by decide) e, fun e => by rw [e]; rfl⟩
  have n1_ : (Int32.ofNat n = 1) ↔ n = 1 := ⟨fun e => inj32 (a := n) (b := 1) (by omega) (by decide) e, fun e => by rw [e]; rfl⟩
  have ml := hV.1
  have lle := lok_le hS hI hb hV hL hy
  have g0 : mAI M 95 (y - 700 * moM R) = Int32.ofNat (ρ (0, y, 0)) := hV.2.2.1 0 y (by decide) hy
  have g1 : mAI M 96 (y - 700 * moM R) = Int32.ofNat (ρ (1, y, 0)) := hV.2.2.1 1 y (by decide) hy
  have m87 := (hS.2.2.1 y hy).1
  have m88 := (hS.2.2.1 y hy).2
  have fst : moG R y ≠ [] → mAI M 82 y = Int32.ofNat ((moG R y).getD 0 0) ∧ inR R ((moG R y).getD 0 0) ∧ (mAI M 84 ((moG R y).getD 0 0) = -1 ↔ (moS R).2 84 ((moG R y).getD 0 0) = -1) := fun ne => by
    have l0 : 0 < (moG R y).length := List.length_pos_iff.mpr ne
    have iz := (k1 0 l0).1
    refine ⟨by rw [k0, if_neg ne], iz, by rw [hS.2.1 84 _ (by decide) (by decide) iz]⟩
  refine KX11_codeValue (h := h + 3) ?_
  unfold DX11_codeValue_0 DX11_codeValue_411 DX11_codeValue_117 DX11_codeValue_118 DX11_codeValue_139 DX11_codeValue_215 DX11_codeValue_242 DX11_codeValue_258 DX11_codeValue_321 DX11_codeValue_396
  rw [ly, hI.2.1, ix700 b3 (by omega), lt32 (show y - 700 * moM R < 2147483648 by omega)]
  refine ⟨ok29 F, 82, rf29_64 F, ok82 F, v28 (ln82 F), 80, rf29_62 F, ok80 F, v28 (ln80 F), ?_⟩
  rw [e80, n0_, n1_]
  -- the choice's end
  have cho : (moS R).2 80 y = 4 ∨ (moS R).2 80 y = 5 → cdR R I ρ y n = (if n = 0 ∧ (moS R).2 84 ((moG R y).getD 0 0) = -1 then v3O (orR R ρ y n) (v3A (ρ (0, y, 0)) (v3N (lokR R I ρ y))) else orR R ρ y n) := fun b => by
    unfold cdR
    rw [if_neg (by rcases b with e | e <;> rw [e] <;> decide), if_neg (by rcases b with e | e <;> rw [e] <;> decide), if_pos b]
  have c204 : ∀ (M2 : Mem), ArF (fun c => c = 101) M M2 → n = 0 → (moS R).2 84 ((moG R y).getD 0 0) = -1 → (moS R).2 80 y = 4 ∨ (moS R).2 80 y = 5 → DX11_codeValue_204 (h + 3) (Int32.ofNat (orR R ρ y n)) (Int32.ofNat (ρ (0, y, 0))) (Int32.ofNat (lokR R I ρ y)) M2 Q := fun M2 A2 z0 z84 b => by
    unfold DX11_codeValue_204 DX11_codeValue_215
    refine R_other (h := h + 2) lle (fun _ => ⟨_, rfl, R_both (h := h + 2) (ml _) (v3N_le _) (fun _ => ⟨_, rfl, R_either (h := h + 2) (oI_le _) (v3A_le _ _) (fun _ => ⟨_, rfl, ?_⟩)⟩)⟩)
    have q := H M2 A2
    rw [cho b, if_pos ⟨z0, z84⟩] at q
    exact q
  have tt : t = 0 ∨ t = 1 ∨ t = 2 ∨ t = 3 ∨ t = 4 ∨ t = 5 ∨ t = 6 ∨ t = 7 ∨ t = 8 ∨ t = 9 ∨ t = 10 := by omega
  rcases tt with z | z | z | z | z | z | z | z | z | z | z
  · subst z
    refine ⟨fun q => absurd q (by decide), fun q => absurd q (by decide), fun q => absurd q (by decide), fun q => absurd q (by decide), fun q => absurd q (by decide), fun q => absurd q (by decide), fun q => absurd q (by decide), fun q => absurd q (by decide), fun q => absurd q (by decide), fun _ => ⟨fun z => ?_, fun z => ⟨95, rf29_77 F, ok95 F, v70 (ln95 F), ?_⟩⟩⟩
    · have q := H M ArF.rf
      unfold cdR at q
      rw [et, if_neg (by decide), if_neg (by decide), if_neg (by decide), if_neg (by decide), if_neg (by decide), if_neg (by decide), if_neg (by decide), if_neg (by decide), if_neg z] at q
      exact q
    · have q := H M ArF.rf
      unfold cdR at q
      rw [et, if_neg (by decide), if_neg (by decide), if_neg (by decide), if_neg (by decide), if_neg (by decide), if_neg (by decide), if_neg (by decide), if_neg (by decide), if_pos z] at q
      rw [g0]
      exact q
  · subst z
    refine ⟨fun q => absurd q (by decide), fun q => absurd q (by decide), fun q => absurd q (by decide), fun q => absurd q (by decide), fun q => absurd q (by decide), fun q => absurd q (by decide), fun q => absurd q (by decide), fun q => absurd q (by decide), fun q => absurd q (by decide), fun _ => ⟨fun z => ?_, fun z => ⟨95, rf29_77 F, ok95 F, v70 (ln95 F), ?_⟩⟩⟩
    · have q := H M ArF.rf
      unfold cdR at q
      rw [et, if_neg (by decide), if_neg (by decide), if_neg (by decide), if_neg (by decide), if_neg (by decide), if_neg (by decide), if_neg (by decide), if_neg (by decide), if_neg z] at q
      exact q
    · have q := H M ArF.rf
      unfold cdR at q
      rw [et, if_neg (by decide), if_neg (by decide), if_neg (by decide), if_neg (by decide), if_neg (by decide), if_neg (by decide), if_neg (by decide), if_neg (by decide), if_pos z] at q
      rw [g0]
      exact q
  · subst z
    have q := H M ArF.rf
    unfold cdR at q
    rw [et, if_pos (show Int32.ofNat 2 = 2 from rfl), hdV_if (ml _)] at q
    refine ⟨fun _ => ⟨fun z1 => ⟨fun z => ?_, fun z => ⟨87, rf29_69 F, ok87 F, v28 (ln87 F), fun y0 => ?_, fun y0 => ⟨96, rf29_78 F, ok96 F, v70 (ln96 F), ?_⟩⟩⟩, fun z1 => ⟨95, rf29_77 F, ok95 F, v70 (ln95 F), ?_⟩⟩, fun q => absurd q (by decide), fun q => absurd q (by decide), fun q => absurd q (by decide), fun q => absurd q (by decide), fun q => absurd q (by decide), fun q => absurd q (by decide), fun q => absurd q (by decide), fun q => absurd q (by decide), fun q => absurd q (by decide)⟩
    · rw [if_neg z1, if_neg z] at q
      exact q
    · rw [m87, hI.2.2.1] at y0
      rw [if_neg z1, if_pos z, if_pos y0] at q
      exact q
    · rw [m87, hI.2.2.1] at y0
      rw [if_neg z1, if_pos z, if_neg y0] at q
      rw [g1]
      exact q
    · rw [if_pos z1] at q
      rw [g0]
      exact q
  · subst z
    have q := H M ArF.rf
    unfold cdR at q
    rw [et, if_neg (by decide), if_pos (show Int32.ofNat 3 = 3 from rfl)] at q
    refine ⟨fun q => absurd q (by decide), fun _ => ⟨88, rf29_70 F, ok88 F, v28 (ln88 F), ?_⟩, fun q => absurd q (by decide), fun q => absurd q (by decide), fun q => absurd q (by decide), fun q => absurd q (by decide), fun q => absurd q (by decide), fun q => absurd q (by decide), fun q => absurd q (by decide), fun q => absurd q (by decide)⟩
    rw [m88]
    refine ⟨fun z => ?_, fun z => ⟨95, rf29_77 F, ok95 F, v70 (ln95 F), ?_⟩⟩
    · rw [if_neg z] at q
      exact q
    · rw [if_pos z] at q
      rw [g0]
      exact q
  · subst z
    have b : (moS R).2 80 y = 4 ∨ (moS R).2 80 y = 5 := Or.inl et
    obtain ⟨f1, f2, f3⟩ := fst (hne (Or.inl et))
    obtain ⟨w1, w2, w3⟩ := f2.b hS
    refine ⟨fun q => absurd q (by decide), fun q => absurd q (by decide), fun _ => R_orOf (h := h + 1) hS hI hV hy hn (fun _ => ⟨_, rfl, fun z => ?_, fun z => ⟨84, rf29_66 F, ok84 F, ?_⟩⟩), fun q => absurd q (by decide), fun q => absurd q (by decide), fun q => absurd q (by decide), fun q => absurd q (by decide), fun q => absurd q (by decide), fun q => absurd q (by decide), fun q => absurd q (by decide)⟩
    · have q := H M ArF.rf
      rw [cho b, if_neg (fun y => z y.1)] at q
      exact q
    · rw [f1, lt32 (show (moG R y).getD 0 0 < 2147483648 by omega)]
      refine ⟨by rw [ln84 F]; exact vp_of (by omega) (by decide), fun z2 => ?_, fun z2 => ⟨95, rf29_77 F, ok95 F, v70 (ln95 F), 80, rf29_62 F, ok80 F, v28 (ln80 F), ?_⟩⟩
      · have q := H M ArF.rf
        rw [cho b, if_neg (fun y => z2 (f3.mpr y.2))] at q
        exact q
      · rw [g0, e80]
        refine ⟨fun _ => ⟨81, rf29_63 F, ok81 F, v28 (ln81 F), R_lok (h := h + 1) hS hI hb hV hL hy (Or.inl et) (fun M2 A2 _ => ⟨_, rfl, c204 M2 A2 z (f3.mp z2) b⟩)⟩, fun q => absurd q (by decide)⟩
  · subst z
    have b : (moS R).2 80 y = 4 ∨ (moS R).2 80 y = 5 := Or.inr et
    obtain ⟨f1, f2, f3⟩ := fst (hne (Or.inr (Or.inl et)))
    obtain ⟨w1, w2, w3⟩ := f2.b hS
    refine ⟨fun q => absurd q (by decide), fun q => absurd q (by decide), fun q => absurd q (by decide), fun _ => R_orOf (h := h + 1) hS hI hV hy hn (fun _ => ⟨_, rfl, fun z => ?_, fun z => ⟨84, rf29_66 F, ok84 F, ?_⟩⟩), fun q => absurd q (by decide), fun q => absurd q (by decide), fun q => absurd q (by decide), fun q => absurd q (by decide), fun q => absurd q (by decide), fun q => absurd q (by decide)⟩
    · have q := H M ArF.rf
      rw [cho b, if_neg (fun y => z y.1)] at q
      exact q
    · rw [f1, lt32 (show (moG R y).getD 0 0 < 2147483648 by omega)]
      refine ⟨by rw [ln84 F]; exact vp_of (by omega) (by decide), fun z2 => ?_, fun z2 => ⟨95, rf29_77 F, ok95 F, v70 (ln95 F), 80, rf29_62 F, ok80 F, v28 (ln80 F), ?_⟩⟩
      · have q := H M ArF.rf
        rw [cho b, if_neg (fun y => z2 (f3.mpr y.2))] at q
        exact q
      · rw [g0, e80]
        refine ⟨fun q => absurd rfl q, fun _ => ⟨81, rf29_63 F, ok81 F, v28 (ln81 F), R_lok5 (h := h + 2) (ρ := ρ) hS hI hL hy et (fun _ => ⟨_, rfl, c204 M ArF.rf z (f3.mp z2) b⟩)⟩⟩
  · subst z
    have q := H M ArF.rf
    unfold cdR at q
    rw [et, if_neg (by decide), if_neg (by decide), if_neg (by decide), if_pos (show Int32.ofNat 6 = 6 from rfl)] at q
    refine ⟨fun q => absurd q (by decide), fun q => absurd q (by decide), fun q => absurd q (by decide), fun q => absurd q (by decide), fun _ => ⟨fun z => R_orOf (h := h + 1) hS hI hV hy hn (fun _ => ⟨_, rfl, ?_⟩), fun z => ⟨83, rf29_65 F, ok83 F, v28 (ln83 F), ?_⟩⟩, fun q => absurd q (by decide), fun q => absurd q (by decide), fun q => absurd q (by decide), fun q => absurd q (by decide), fun q => absurd q (by decide)⟩
    · rw [if_neg z] at q
      exact q
    · rw [if_pos z] at q
      have ne := hne (Or.inr (Or.inr (Or.inl et)))
      have l0 : 0 < (moG R y).length := List.length_pos_iff.mpr ne
      have e83 : mAI M 83 y = Int32.ofNat ((moG R y).getLastD 0) := by
        rw [hS.2.1 83 y (by decide) (by decide) hy]
        obtain ⟨⟨-, l2, -⟩, -⟩ := hS.1.2.1.2.1 y hy.1 hy.2
        rw [l2]
        cases hg : moG R y with
        | nil => exact absurd hg ne
        | cons a r => rfl
      have el : (moG R y).getLastD 0 = (moG R y).getD ((moG R y).length - 1) 0 := by
        rw [List.getLastD_eq_getLast?, List.getLast?_eq_getElem?, List.getD_eq_getElem?_getD]
      have iz := (k1 ((moG R y).length - 1) (by omega)).1
      rw [← el] at iz
      rw [e83]
      exact R_k (h := h + 2) (n := 0) hS hI hV iz (by omega) (fun _ => ⟨_, rfl, q⟩)
  · subst z
    have q := H M ArF.rf
    unfold cdR at q
    rw [et, if_neg (by decide), if_neg (by decide), if_neg (by decide), if_neg (by decide), if_pos (show Int32.ofNat 7 = 7 from rfl)] at q
    obtain ⟨f1, f2, f3⟩ := fst (hne (Or.inr (Or.inr (Or.inr (Or.inl et)))))
    refine ⟨fun q => absurd q (by decide), fun q => absurd q (by decide), fun q => absurd q (by decide), fun q => absurd q (by decide), fun q => absurd q (by decide), fun _ => ⟨fun z => ?_, fun z => ?_⟩, fun q => absurd q (by decide), fun q => absurd q (by decide), fun q => absurd q (by decide), fun q => absurd q (by decide)⟩
    · rw [if_neg z] at q
      rw [f1]
      exact R_k (h := h + 2) hS hI hV f2 hn (fun _ => ⟨_, rfl, q⟩)
    · rw [if_pos z] at q
      exact q
  · subst z
    have q := fun M2 (A2 : ArF (fun c => c = 101) M M2) => H M2 A2
    have e8 : cdR R I ρ y n = (if n = 1 then v3O (ρ (4, (moG R y).getD 0 0, 1)) (v3A (hdV (iSet I) (moK R y) (ρ (1, y, 0))) (lokR R I ρ y)) else ρ (4, (moG R y).getD 0 0, n)) := by
      unfold cdR
      rw [et, if_neg (by decide), if_neg (by decide), if_neg (by decide), if_neg (by decide), if_neg (by decide), if_pos (show Int32.ofNat 8 = 8 from rfl)]
    rw [e8, hdV_if (ml _)] at q
    obtain ⟨f1, f2, f3⟩ := fst (hne (Or.inr (Or.inr (Or.inr (Or.inr (Or.inl et))))))
    have c305 : ∀ (a : Nat), a ≤ 2 → n = 1 → (if iSet I &&& moK R y = 0 then 0 else ρ (1, y, 0)) = a → DX11_codeValue_305 (h + 3) 29 (Int32.ofNat y) (Int32.ofNat (ρ (4, (moG R y).getD 0 0, 1))) (Int32.ofNat a) M Q := fun a ha z1 ea => by
      unfold DX11_codeValue_305 DX11_codeValue_321
      rw [ly]
      refine ⟨ok29 F, 81, rf29_63 F, ok81 F, v28 (ln81 F), R_lok (h := h + 1) hS hI hb hV hL hy (Or.inr et) (fun M2 A2 _ => ⟨_, rfl, R_both (h := h + 2) ha lle (fun _ => ⟨_, rfl, R_either (h := h + 2) (ml _) (v3A_le _ _) (fun _ => ⟨_, rfl, ?_⟩)⟩)⟩)⟩
      have q := q M2 A2
      rw [if_pos z1, ea] at q
      exact q
    refine ⟨fun q => absurd q (by decide), fun q => absurd q (by decide), fun q => absurd q (by decide), fun q => absurd q (by decide), fun q => absurd q (by decide), fun q => absurd q (by decide), fun _ => ⟨fun z => ?_, fun z => ?_⟩, fun q => absurd q (by decide), fun q => absurd q (by decide), fun q => absurd q (by decide)⟩
    · rw [f1]
      refine R_k (h := h + 2) (n := 1) hS hI hV f2 (by omega) (fun _ => ⟨_, rfl, 87, rf29_69 F, ok87 F, v28 (ln87 F), fun y0 => ?_, fun y0 => ⟨96, rf29_78 F, ok96 F, v70 (ln96 F), ?_⟩⟩)
      · rw [m87, hI.2.2.1] at y0
        exact c305 0 (by decide) z (if_pos y0)
      · rw [m87, hI.2.2.1] at y0
        rw [g1]
        exact c305 _ (ml _) z (if_neg y0)
    · have q := q M ArF.rf
      rw [if_neg z] at q
      rw [f1]
      exact R_k (h := h + 2) hS hI hV f2 hn (fun _ => ⟨_, rfl, q⟩)
  · subst z
    have q := H M ArF.rf
    unfold cdR at q
    rw [et, if_neg (by decide), if_neg (by decide), if_neg (by decide), if_neg (by decide), if_neg (by decide), if_neg (by decide), if_pos (show Int32.ofNat 9 = 9 from rfl)] at q
    exact ⟨fun q => absurd q (by decide), fun q => absurd q (by decide), fun q => absurd q (by decide), fun q => absurd q (by decide), fun q => absurd q (by decide), fun q => absurd q (by decide), fun q => absurd q (by decide), fun _ => R_allOf (h := h) hS hI hV hy hn (fun _ => ⟨_, rfl, q⟩), fun q => absurd q (by decide), fun q => absurd q (by decide)⟩
  · subst z
    have q := H M ArF.rf
    unfold cdR at q
    rw [et, if_neg (by decide), if_neg (by decide), if_neg (by decide), if_neg (by decide), if_neg (by decide), if_neg (by decide), if_neg (by decide), if_pos (show Int32.ofNat 10 = 10 from rfl)] at q
    obtain ⟨f1, f2, f3⟩ := fst (hne (Or.inr (Or.inr (Or.inr (Or.inr (Or.inr et))))))
    have k92 := hS.2.2.2.2.2.2.1
    have h4 := hS.1.1
    refine ⟨fun q => absurd q (by decide), fun q => absurd q (by decide), fun q => absurd q (by decide), fun q => absurd q (by decide), fun q => absurd q (by decide), fun q => absurd q (by decide), fun q => absurd q (by decide), fun q => absurd q (by decide), fun _ => ⟨fun z => ⟨fun z1 => ⟨92, rf29_74 F, ok92 F, by rw [ln92 F]; exact vp_of h4 (by decide), ?_⟩, fun z1 => ?_⟩, fun z => ?_⟩, fun q => absurd q (by decide)⟩
    · rw [if_neg z, if_neg z1] at q
      rw [lt32 (show moM R < 2147483648 by omega), k92, succ32, le32 (by omega) (by omega)]
      refine ⟨fun y0 => ?_, fun y0 => ?_⟩
      · rw [if_neg (by omega)] at q
        exact q
      · rw [if_pos (by omega)] at q
        rw [f1]
        exact R_k (h := h + 2) hS hI hV f2 (by omega) (fun _ => ⟨_, rfl, q⟩)
    · rw [if_neg z, if_pos z1] at q
      rw [f1]
      exact R_k (h := h + 2) (n := 1) hS hI hV f2 (by omega) (fun _ => ⟨_, rfl, q⟩)
    · rw [if_pos z] at q
      rw [f1]
      exact R_k (h := h + 2) (n := 0) hS hI hV f2 (by omega) (fun _ => ⟨_, rfl, R_k (h := h + 2) (n := 2) hS hI hV f2 (by omega) (fun _ => ⟨_, rfl, R_either (h := h + 2) (ml _) (ml _) (fun _ => ⟨_, rfl, q⟩)⟩)⟩)
end
