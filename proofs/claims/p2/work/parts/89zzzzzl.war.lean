/-! the weaver arrives at a node -/
def arG (k : Int32) (fst : Bool) (go cd k0 op : Nat) : Nat := if k = 4 then v3A go (if fst then cd else v3N cd) else if k = 5 then k0 else if k = 6 then op else go
def arR (k : Int32) (rs hv cd : Nat) : Nat := if k = 7 then v3A (v3A rs hv) (v3N cd) else rs
def arS (k : Int32) (su rs hv cd : Nat) : Nat := if k = 7 then v3O su (v3A (v3A rs hv) cd) else su
def arK (k : Int32) (kl op : Nat) : Nat := if k = 9 then op else kl
/-- the wires of x, from those of a above it -/
def ArQ (Θ : TrT) (P P' : Nat → Nat → Int32) (x a : Nat) (w : Nat → Nat) (HV : Int32 → Nat) : Prop := lV w (P' 22 x) = arG (Θ.2.2 5 a) (decide (Θ.2.2 6 a = Int32.ofNat x)) (lV w (P 22 a)) (lV w (Θ.2.2 10 a)) (lV w (P 28 (a * 20))) (lV w (P 26 a)) ∧ lV w (P' 23 x) = arR (Θ.2.2 5 a) (lV w (P 23 a)) (HV (Θ.2.2 12 a)) (lV w (Θ.2.2 10 a)) ∧ lV w (P' 24 x) = arS (Θ.2.2 5 a) (lV w (P 24 a)) (lV w (P 23 a)) (HV (Θ.2.2 12 a)) (lV w (Θ.2.2 10 a)) ∧ lV w (P' 25 x) = arK (Θ.2.2 5 a) (lV w (P 25 a)) (lV w (P 26 a))
def up4 (P : Nat → Nat → Int32) (x : Nat) (g r s k : Int32) : Nat → Nat → Int32 := fun c j => if j = x then (if c = 22 then g else if c = 23 then r else if c = 24 then s else if c = 25 then k else P c j) else P c j
theorem ObE.wv {n0 c : Nat} {M M' : Mem} (h : ObE n0 M M') (hc : wvC n0 c) : mAI M' c = mAI M c := by
  rcases hc with z | z | z
  · exact h.1 c z.1 z.2
  · exact h.2.1 c z.1 (by omega)
  · exact h.2.1 c (by omega) (by omega)
/-- the weaver's rows are P -/
def RwP (n0 : Nat) (P : Nat → Nat → Int32) (z : Int32) (M : Mem) : Prop := (∀ c j, wvC n0 c → mAI M c j = P c j) ∧ mI M (n0 + 8) 12 = z
theorem RwP.ob {n0 : Nat} {P : Nat → Nat → Int32} {z : Int32} {M M' : Mem} (h : RwP n0 P z M) (k : ObE n0 M M') : RwP n0 P z M' := ⟨fun c j hc => by rw [k.wv hc]; exact h.1 c j hc, (k.2.2 12 (Or.inl rfl)).trans h.2⟩
theorem RwP.up {n0 cc i : Nat} {P : Nat → Nat → Int32} {z v : Int32} {M M' : Mem} (h : RwP n0 P z M) (e : M' = wAI M cc i v) : RwP n0 (up2 P cc i v) z M' := by
  refine ⟨fun c j hc => ?_, by rw [e]; exact h.2⟩
  rw [e, mAI_wAI]
  show _ = if c = cc ∧ j = i then v else P c j
  rw [h.1 c j hc]
theorem RwP.cg {n0 : Nat} {P P' : Nat → Nat → Int32} {z : Int32} {M : Mem} (h : RwP n0 P z M) (k : ∀ c j, wvC n0 c → P' c j = P c j) : RwP n0 P' z M := ⟨fun c j hc => by rw [k c j hc]; exact h.1 c j hc, h.2⟩
section
variable {n0 l0 r0 N0 : Nat} {Θ : TrT} {M0 M M' : Mem} {Ψ Ψ' : Wg} {h : Nat} {Q : Option Value → Mem → Prop} {P : Nat → Nat → Int32} {zp : Int32}
theorem up4_eq {x : Nat} {g r s k g' : Int32} (c j : Nat) : up2 (up4 P x g r s k) 22 x g' c j = up4 P x g' r s k c j ∧ up2 (up4 P x g r s k) 23 x g' c j = up4 P x g g' s k c j ∧ up2 (up4 P x g r s k) 24 x g' c j = up4 P x g r g' k c j ∧ up2 (up4 P x g r s k) 25 x g' c j = up4 P x g r s g' c j := by
  unfold up4 up2
  by_cases hj : j = x
  · by_cases h1 : c = 22
    · subst h1; simp [hj]
    · by_cases h2 : c = 23
      · subst h2; simp [hj]
      · by_cases h3 : c = 24
        · subst h3; simp [hj]
        · by_cases h4 : c = 25
          · subst h4; simp [hj]
          · simp [h1, h2, h3, h4]
  · simp [hj]
/-- nets and held masks that coming to a node makes, by the kind of the one above -/
def aW (k : Int32) : Nat := if k = 4 then 1 else if k = 7 then 5 else 0
def aH (k : Int32) : Nat := if k = 7 then 1 else 0
theorem aW_4 : aW 4 = 1 := by decide
theorem aW_7 : aW 7 = 5 := by decide
theorem aH_7 : aH 7 = 1 := by decide
theorem W_arr {x a : Nat} (hB : WvB n0 l0 r0 M0) (hW : WvP n0 l0 r0 N0 Θ M0 Ψ M) (hP : RwP n0 P zp M) (hlim : Ψ.1.length < 99900) (hx : x < 640) (ha : a < 640) (hne : x ≠ a) (hp : Θ.2.2 9 x = Int32.ofNat a) (hg : okI Ψ (P 22 a)) (hr : okI Ψ (P 23 a)) (hs : okI Ψ (P 24 a)) (hk : okI Ψ (P 25 a)) (hc : Θ.2.2 5 a = 4 ∨ Θ.2.2 5 a = 7 → okI Ψ (Θ.2.2 10 a)) (h5 : Θ.2.2 5 a = 5 → okI Ψ (P 28 (a * 20))) (h69 : Θ.2.2 5 a = 6 ∨ Θ.2.2 5 a = 9 → okI Ψ (P 26 a)) (K : ∀ M' Ψ' g r s k, WvP n0 l0 r0 N0 Θ M0 Ψ' M' → RwP n0 (up4 P x g r s k) zp M' → Gr noN Ψ Ψ' → (Ψ'.1.length ≤ Ψ.1.length + 5 ∧ Ψ'.1.length ≤ Ψ.1.length + aW (Θ.2.2 5 a) ∧ Ψ'.2.2.length ≤ Ψ.2.2.length + aH (Θ.2.2 5 a)) → (okI Ψ' g ∧ okI Ψ' r ∧ okI Ψ' s ∧ okI Ψ' k) → (∀ w HV, gW Ψ' w HV → ArQ Θ P (up4 P x g r s k) x a w HV) → Q none M') : E (h + 9) mdX9_arrive [.ref 21, .int (Int32.ofNat x)] M Q := by
  obtain ⟨F, hT, h8, o8, hRo, l1, hRf, hE0⟩ := hW.sees hB
  have lx : (Int32.ofNat x).toNatClampNeg = x := lt32 (by omega)
  have la : (Int32.ofNat a).toNatClampNeg = a := lt32 (by omega)
  have w22 : wvC n0 22 := Or.inl (by omega)
  have w23 : wvC n0 23 := Or.inl (by omega)
  have w24 : wvC n0 24 := Or.inl (by omega)
  have w25 : wvC n0 25 := Or.inl (by omega)
  have w26 : wvC n0 26 := Or.inl (by omega)
  have w28 : wvC n0 28 := Or.inl (by omega)
  have vx : ∀ {k : Nat}, k = 640 → vp_in (Int32.ofNat x) k := fun e => by rw [e]; exact vp_of hx (by decide)
  have va : ∀ {k : Nat}, k = 640 → vp_in (Int32.ofNat a) k := fun e => by rw [e]; exact vp_of ha (by decide)
  have e9 : mAI M 9 x = Int32.ofNat a := by rw [hT.2.2.2.1 9 (by decide) (by decide)]; exact hp
  have e10 : mAI M 10 a = Θ.2.2 10 a := by rw [hT.2.2.2.1 10 (by decide) (by decide)]
  refine KX9_arrive (h := h + 8) ?_
  unfold DX9_arrive_0 DX9_arrive_277
  rw [lx]
  refine ⟨ok21 F, 4, rf21_0 F, ok4 F, 9, rf4_4 F, ok9 F, vx (ln9 F), 4, rf21_0 F, ok4 F, 10, rf4_5 F, ok10 F, ?_⟩
  rw [e9, la, e10]
  refine ⟨va (ln10 F), 22, rf21_1 F, 22, rf21_1 F, ok22 F, va (ln22 F), ok22 F, vx (ln22 F), fun M14 e14 => ?_⟩
  have W14 := hW.wr hB w22 e14
  obtain ⟨F14, -⟩ := W14.sees hB
  have P14 := hP.up e14
  refine ⟨23, rf21_2 F14, 23, rf21_2 F14, ok23 F14, va (ln23 F14), ok23 F14, vx (ln23 F14), fun M19 e19 => ?_⟩
  have W19 := W14.wr hB w23 e19
  obtain ⟨F19, -⟩ := W19.sees hB
  have P19 := P14.up e19
  refine ⟨24, rf21_3 F19, 24, rf21_3 F19, ok24 F19, va (ln24 F19), ok24 F19, vx (ln24 F19), fun M24 e24 => ?_⟩
  have W24 := W19.wr hB w24 e24
  obtain ⟨F24, -⟩ := W24.sees hB
  have P24 := P19.up e24
  refine ⟨25, rf21_4 F24, 25, rf21_4 F24, ok25 F24, va (ln25 F24), ok25 F24, vx (ln25 F24), fun M29 e29 => ?_⟩
  have W29 := W24.wr hB w25 e29
  obtain ⟨F29, hT29, h829, o829, hRo29, -⟩ := W29.sees hB
  have P29 := P24.up e29
  have v22 : mAI M 22 a = P 22 a := hP.1 22 a w22
  have v23 : mAI M14 23 a = P 23 a := by rw [e14, mAI_wAI, if_neg (by omega)]; exact hP.1 23 a w23
  have v24 : mAI M19 24 a = P 24 a := by rw [e19, mAI_wAI, if_neg (by omega), e14, mAI_wAI, if_neg (by omega)]; exact hP.1 24 a w24
  have v25 : mAI M24 25 a = P 25 a := by rw [e24, mAI_wAI, if_neg (by omega), e19, mAI_wAI, if_neg (by omega), e14, mAI_wAI, if_neg (by omega)]; exact hP.1 25 a w25
  rw [v22, v23, v24, v25] at P29
  have P29 : RwP n0 (up4 P x (P 22 a) (P 23 a) (P 24 a) (P 25 a)) zp M29 := P29.cg (fun c j hc => by
    unfold up4 up2
    by_cases hj : j = x
    · by_cases h1 : c = 22
      · subst h1; simp [hj]
      · by_cases h2 : c = 23
        · subst h2; simp [hj]
        · by_cases h3 : c = 24
          · subst h3; simp [hj]
          · by_cases h4 : c = 25
            · subst h4; simp [hj]
            · simp [h1, h2, h3, h4]
    · simp [hj])
  clear P24 P19 P14 W14 W19 W24 F14 F19 F24 e14 e19 e24 e29 v22 v23 v24 v25
  have k5 : mAI M29 5 a = Θ.2.2 5 a := by rw [hT29.2.2.2.1 5 (by decide) (by decide)]
  have k6 : mAI M29 6 a = Θ.2.2 6 a := by rw [hT29.2.2.2.1 6 (by decide) (by decide)]
  have q22 : ∀ {g r s k : Int32}, up4 P x g r s k 22 x = g ∧ up4 P x g r s k 23 x = r ∧ up4 P x g r s k 24 x = s ∧ up4 P x g r s k 25 x = k := fun {g r s k} => by unfold up4; simp
  have qa : ∀ {g r s k : Int32} {c j : Nat}, j ≠ x → up4 P x g r s k c j = P c j := fun {g r s k c j} hj => by unfold up4; rw [if_neg hj]
  have qn : ∀ {g r s k : Int32} {c j : Nat}, 26 ≤ c → up4 P x g r s k c j = P c j := fun {g r s k c j} hc => by
    unfold up4
    by_cases hj : j = x
    · rw [if_pos hj, if_neg (by omega), if_neg (by omega), if_neg (by omega), if_neg (by omega)]
    · rw [if_neg hj]
  refine ⟨4, rf21_0 F29, ok4 F29, 5, rf4_0 F29, ok5 F29, va (ln5 F29), ?_⟩
  rw [k5]
  refine ⟨fun z => ⟨4, rf21_0 F29, ok4 F29, 6, rf4_1 F29, ok6 F29, va (ln6 F29), ?_⟩, fun z => ⟨22, rf21_1 F29, 28, rf21_7 F29, ok28 F29, ?_, ok22 F29, vx (ln22 F29), fun M42 e42 => ?_⟩, fun z => ⟨22, rf21_1 F29, 26, rf21_5 F29, ok26 F29, va (ln26 F29), ok22 F29, vx (ln22 F29), fun M47 e47 => ?_⟩, fun z => ?_, fun z => ?_, fun z => ⟨25, rf21_4 F29, 26, rf21_5 F29, ok26 F29, va (ln26 F29), ok25 F29, vx (ln25 F29), fun M76 e76 => ?_⟩, fun z => ?_⟩
  · -- a choice
    rw [k6]
    have oc := hc (Or.inl z)
    have fin : ∀ (fst : Bool), fst = decide (Θ.2.2 6 a = Int32.ofNat x) → DX9_arrive_134 (h + 8) 21 (Int32.ofNat x) (Int32.ofNat a) (Θ.2.2 10 a) (if fst then 1 else 0) M29 Q := by
      intro fst hf
      have g29 : mAI M29 22 a = P 22 a := (P29.1 22 a w22).trans (qa (fun z => hne z.symm))
      have last : ∀ cc : Int32, okI Ψ cc → (∀ w HV, gW Ψ w HV → lV w cc = if fst then lV w (Θ.2.2 10 a) else v3N (lV w (Θ.2.2 10 a))) → DX9_arrive_164 (h + 8) 22 (Int32.ofNat x) (n0 + 8) (P 22 a) cc M29 Q := by
        intro cc oc2 sc
        unfold DX9_arrive_164 DX9_arrive_277
        refine ⟨o829, W_and (h := h + 4) hB W29 (by omega) hg oc2 (fun M2 Ψ2 r2 W2 O2 G2 L2 k2 s2 _ => ⟨_, rfl, ?_⟩)⟩
        obtain ⟨F2, -, -, -, hRo2, -⟩ := W2.sees hB
        refine ⟨ok22 F2, vx (ln22 F2), fun M5 e5 => ?_⟩
        rw [lx] at e5
        have W5 := W2.wr hB w22 e5
        refine K M5 Ψ2 r2 (P 23 a) (P 24 a) (P 25 a) W5 (((P29.ob O2).up e5).cg (fun c j _ => ((up4_eq c j).1).symm)) G2 (by rw [z, aW_4]; omega) ⟨k2, hr.gr G2, hs.gr G2, hk.gr G2⟩ (fun w HV g => ?_)
        have gb := g.bk G2 hRo hRo2 (fun _ _ z => z.elim)
        unfold ArQ arG arR arS arK
        rw [q22.1, q22.2.1, q22.2.2.1, q22.2.2.2, z, if_pos rfl, ← hf, ← sc w HV gb, if_neg (by decide), if_neg (by decide), if_neg (by decide)]
        exact ⟨s2 w HV g, rfl, rfl, rfl⟩
      unfold DX9_arrive_134
      rw [la]
      refine ⟨ok21 F29, 22, rf21_1 F29, n0 + 8, h829, 22, rf21_1 F29, ok22 F29, va (ln22 F29), ?_⟩
      rw [g29]
      refine ⟨fun f0 => ?_, fun f0 => ?_⟩
      · refine W_not (h := h + 7) oc (by omega) (fun r ok1 sr _ => ⟨_, rfl, last r ok1 (fun w HV g => ?_)⟩)
        cases fst with
        | true => exact absurd f0 (by decide)
        | false => exact sr w HV g
      · refine last _ oc (fun w HV g => ?_)
        cases fst with
        | true => rfl
        | false => exact absurd rfl f0
    refine ⟨fun y => ?_, fun y => ?_⟩
    · exact fin false (by rw [decide_eq_false y])
    · exact fin true (by rw [decide_eq_true y])
  · have e20 : Int32.ofNat a * 20 = Int32.ofNat (a * 20) := by rw [Int32.ofNat_mul]; rfl
    rw [e20, ln28 F29]
    exact vp_of (by omega) (by decide)
  · -- a row
    have e20 : Int32.ofNat a * 20 = Int32.ofNat (a * 20) := by rw [Int32.ofNat_mul]; rfl
    rw [e20, lt32 (by omega), (P29.1 28 (a * 20) w28).trans (qn (by decide))] at e42
    have W5 := W29.wr hB w22 e42
    refine K M42 Ψ (P 28 (a * 20)) (P 23 a) (P 24 a) (P 25 a) W5 ((P29.up e42).cg (fun c j _ => ((up4_eq c j).1).symm)) Gr.rf ⟨Nat.le_add_right _ _, Nat.le_add_right _ _, Nat.le_add_right _ _⟩ ⟨h5 z, hr, hs, hk⟩ (fun w HV g => ?_)
    unfold ArQ arG arR arS arK
    rw [q22.1, q22.2.1, q22.2.2.1, q22.2.2.2, z, if_neg (by decide), if_pos rfl, if_neg (by decide), if_neg (by decide), if_neg (by decide)]
    exact ⟨rfl, rfl, rfl, rfl⟩
  · -- a loop
    rw [(P29.1 26 a w26).trans (qn (by decide))] at e47
    have W5 := W29.wr hB w22 e47
    refine K M47 Ψ (P 26 a) (P 23 a) (P 24 a) (P 25 a) W5 ((P29.up e47).cg (fun c j _ => ((up4_eq c j).1).symm)) Gr.rf ⟨Nat.le_add_right _ _, Nat.le_add_right _ _, Nat.le_add_right _ _⟩ ⟨h69 (Or.inl z), hr, hs, hk⟩ (fun w HV g => ?_)
    unfold ArQ arG arR arS arK
    rw [q22.1, q22.2.1, q22.2.2.1, q22.2.2.2, z, if_neg (by decide), if_neg (by decide), if_pos rfl, if_neg (by decide), if_neg (by decide), if_neg (by decide)]
    exact ⟨rfl, rfl, rfl, rfl⟩
  · -- a suspension
    have oc := hc (Or.inr z)
    have g23 : mAI M29 23 a = P 23 a := (P29.1 23 a w23).trans (qa (fun z => hne z.symm))
    refine W_res (h := h) hB W29 (by omega) ha (by rw [g23]; exact hr) (fun M48 Ψ48 r48 W48 O48 G48 L48 k48 s48 _ => ⟨_, rfl, ?_⟩)
    obtain ⟨F48, -, h848, o848, hRo48, -⟩ := W48.sees hB
    refine ⟨23, rf21_2 F48, n0 + 8, h848, W_not (h := h + 7) (oc.gr G48) (by omega) (fun r53 k53 s53 _ => ⟨_, rfl, o848, ?_⟩)⟩
    refine W_and (h := h + 4) hB W48 (by omega) k48 k53 (fun M55 Ψ55 r56 W55 O55 G55 L55 k56 s56 _ => ⟨_, rfl, ?_⟩)
    obtain ⟨F55, -, h855, o855, hRo55, -⟩ := W55.sees hB
    refine ⟨ok23 F55, vx (ln23 F55), fun M58 e58 => ?_⟩
    have W58 := W55.wr hB w23 e58
    obtain ⟨F58, hT58, h858, o858, -⟩ := W58.sees hB
    have P58 := (((P29.ob O48).ob O55).up e58).cg (P' := up4 P x (P 22 a) r56 (P 24 a) (P 25 a)) (fun c j _ => ((up4_eq c j).2.1).symm)
    have g24 : mAI M58 24 a = P 24 a := (P58.1 24 a w24).trans (qa (fun z => hne z.symm))
    refine ⟨24, rf21_3 F58, n0 + 8, h858, 24, rf21_3 F58, ok24 F58, va (ln24 F58), n0 + 8, h858, o858, ?_⟩
    refine W_and (h := h + 4) hB W58 (by omega) (k48.gr G55) ((oc.gr G48).gr G55) (fun M65 Ψ65 r66 W65 O65 G65 L65 k66 s66 _ => ⟨_, rfl, ?_⟩)
    obtain ⟨F65, -, h865, o865, hRo65, -⟩ := W65.sees hB
    rw [g24]
    refine ⟨o865, W_or (h := h + 3) hB W65 (by omega) (((hs.gr G48).gr G55).gr G65) k66 (fun M68 Ψ68 r69 W68 O68 G68 L68 k69 s69 _ => ⟨_, rfl, ?_⟩)⟩
    obtain ⟨F68, -, h868, o868, hRo68, -⟩ := W68.sees hB
    refine ⟨ok24 F68, vx (ln24 F68), fun M71 e71 => ?_⟩
    have W71 := W68.wr hB w24 e71
    have GG : Gr noN Ψ Ψ68 := ((G48.tr G55 (fun _ _ z => z)).tr G65 (fun _ _ z => z)).tr G68 (fun _ _ z => z)
    refine K M71 Ψ68 (P 22 a) r56 r69 (P 25 a) W71 ((((P58.ob O65).ob O68).up e71).cg (fun c j _ => ((up4_eq c j).2.2.1).symm)) GG (by rw [z, aW_7, aH_7]; omega) ⟨hg.gr GG, (k56.gr G65).gr G68, k69, hk.gr GG⟩ (fun w HV g => ?_)
    have b65 := g.bk G68 hRo65 hRo68 (fun _ _ z => z.elim)
    have b55 := b65.bk G65 hRo55 hRo65 (fun _ _ z => z.elim)
    have b48 := b55.bk G55 hRo48 hRo55 (fun _ _ z => z.elim)
    unfold ArQ arG arR arS arK
    rw [q22.1, q22.2.1, q22.2.2.1, q22.2.2.2, z, if_neg (by decide), if_neg (by decide), if_neg (by decide), if_pos rfl, if_pos rfl, if_neg (by decide), s56 w HV b55, s69 w HV g, s66 w HV b65, s53 w HV b48, s48 w HV b48, g23]
    exact ⟨rfl, rfl, rfl, rfl⟩
  · refine K M29 Ψ _ _ _ _ W29 P29 Gr.rf ⟨Nat.le_add_right _ _, Nat.le_add_right _ _, Nat.le_add_right _ _⟩ ⟨hg, hr, hs, hk⟩ (fun w HV g => ?_)
    unfold ArQ arG arR arS arK
    rw [q22.1, q22.2.1, q22.2.2.1, q22.2.2.2, z, if_neg (by decide), if_neg (by decide), if_neg (by decide), if_neg (by decide), if_neg (by decide), if_neg (by decide)]
    exact ⟨rfl, rfl, rfl, rfl⟩
  · -- a trap
    rw [(P29.1 26 a w26).trans (qn (by decide))] at e76
    have W5 := W29.wr hB w25 e76
    refine K M76 Ψ (P 22 a) (P 23 a) (P 24 a) (P 26 a) W5 ((P29.up e76).cg (fun c j _ => ((up4_eq c j).2.2.2).symm)) Gr.rf ⟨Nat.le_add_right _ _, Nat.le_add_right _ _, Nat.le_add_right _ _⟩ ⟨hg, hr, hs, h69 (Or.inr z)⟩ (fun w HV g => ?_)
    unfold ArQ arG arR arS arK
    rw [q22.1, q22.2.1, q22.2.2.1, q22.2.2.2, z, if_neg (by decide), if_neg (by decide), if_neg (by decide), if_neg (by decide), if_neg (by decide), if_pos rfl]
    exact ⟨rfl, rfl, rfl, rfl⟩
  · have ne : ∀ t : Int32, (4 ≤ t.toInt ∧ t.toInt ≤ 9) → Θ.2.2 5 a ≠ t := fun t ht e => by
      rw [e] at z
      omega
    refine K M29 Ψ _ _ _ _ W29 P29 Gr.rf ⟨Nat.le_add_right _ _, Nat.le_add_right _ _, Nat.le_add_right _ _⟩ ⟨hg, hr, hs, hk⟩ (fun w HV g => ?_)
    unfold ArQ arG arR arS arK
    rw [q22.1, q22.2.1, q22.2.2.1, q22.2.2.2, if_neg (ne 4 (by decide)), if_neg (ne 5 (by decide)), if_neg (ne 6 (by decide)), if_neg (ne 7 (by decide)), if_neg (ne 7 (by decide)), if_neg (ne 9 (by decide))]
    exact ⟨rfl, rfl, rfl, rfl⟩
end
