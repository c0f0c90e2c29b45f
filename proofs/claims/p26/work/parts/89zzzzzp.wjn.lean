section
/-! the weaver joins branches -/
def oI (f : Nat → Nat) : Nat → Nat
  | 0 => 0
  | i + 1 => v3O (oI f i) (f i)
def aI (f : Nat → Nat) : Nat → Nat
  | 0 => 1
  | i + 1 => v3A (aI f i) (f i)
def rcV (st : Nat) (f : Nat → Nat) : Nat → Nat
  | 0 => st
  | n + 1 => v3O (rcV st f n) (f n)
theorem oI_cg {f g : Nat → Nat} : ∀ (n : Nat), (∀ k, k < n → f k = g k) → oI f n = oI g n
  | 0, _ => rfl
  | n + 1, h => by
    show v3O (oI f n) (f n) = v3O (oI g n) (g n)
    rw [oI_cg n (fun k hk => h k (by omega)), h n (by omega)]
theorem aI_cg {f g : Nat → Nat} : ∀ (n : Nat), (∀ k, k < n → f k = g k) → aI f n = aI g n
  | 0, _ => rfl
  | n + 1, h => by
    show v3A (aI f n) (f n) = v3A (aI g n) (g n)
    rw [aI_cg n (fun k hk => h k (by omega)), h n (by omega)]
/-- the children of x, as the tree's links tell them -/
def ChL (Θ : TrT) (x : Nat) (l : List Nat) : Prop := Θ.2.2 6 x = Int32.ofNat (l.getD 0 0) ∧ (∀ i, i < l.length → Θ.2.2 8 (l.getD i 0) = Int32.ofNat (l.getD (i + 1) 0)) ∧ (∀ i, i < l.length → 1 ≤ l.getD i 0 ∧ l.getD i 0 < 640 ∧ l.getD i 0 ≠ x) ∧ (∀ i j, i < l.length → j < l.length → l.getD i 0 = l.getD j 0 → i = j) ∧ l.length < 640
theorem gd_end {l : List Nat} : l.getD l.length 0 = 0 := by rw [List.getD_eq_getElem?_getD, List.getElem?_eq_none (Nat.le_refl _)]; rfl
section
variable {n0 l0 r0 N0 : Nat} {Θ : TrT} {M0 M M' : Mem} {Ψ Ψ' : Wg} {h : Nat} {Q : Option Value → Mem → Prop} {P P1 : Nat → Nat → Int32} {zp : Int32} {x : Nat} {l : List Nat}
theorem W_jn {n : Nat} (hB : WvB n0 l0 r0 M0) (hW : WvP n0 l0 r0 N0 Θ M0 Ψ M) (hP : RwP n0 P zp M) (hlim : Ψ.1.length + 3 * l.length < 99900) (hx : x < 640) (hn : n < 20) (hL : ChL Θ x l) (hkc : ∀ i, i < l.length → okI Ψ (P 28 (l.getD i 0 * 20 + n))) (hrc : ∀ i, i < l.length → okI Ψ (P 27 (l.getD i 0))) (K : ∀ M' Ψ' P' r, WvP n0 l0 r0 N0 Θ M0 Ψ' M' → RwP n0 P' zp M' → Gr noN Ψ Ψ' → (Ψ'.1.length ≤ Ψ.1.length + 3 * l.length + 1 ∧ Ψ'.2.2.length = Ψ.2.2.length) → (∀ c j, c ≠ 27 → P' c j = P c j) → (∀ i, i < l.length → okI Ψ' (P' 27 (l.getD i 0))) → okI Ψ' r → (∀ w HV, gW Ψ' w HV → (∀ i, i < l.length → lV w (P' 27 (l.getD i 0)) = v3O (lV w (P 27 (l.getD i 0))) (lV w (P 28 (l.getD i 0 * 20 + n)))) ∧ lV w r = v3A (oI (fun i => lV w (P 28 (l.getD i 0 * 20 + n))) l.length) (aI (fun i => lV w (P' 27 (l.getD i 0))) l.length)) → Q (some (.int r)) M') : E (h + 6) mdX9_joined [.ref 21, .int (Int32.ofNat x), .int (Int32.ofNat n)] M Q := by
  obtain ⟨h6, h8n, hb, hnd, hln⟩ := hL
  obtain ⟨F, hT, h8, o8, hRo, l1, hRf, hE0⟩ := hW.sees hB
  have w27 : wvC n0 27 := Or.inl (by omega)
  have w28 : wvC n0 28 := Or.inl (by omega)
  have main : ∀ (d i : Nat) (M1 : Mem) (Ψ1 : Wg) (P1 : Nat → Nat → Int32) (any all : Int32), i + d = l.length → WvP n0 l0 r0 N0 Θ M0 Ψ1 M1 → RwP n0 P1 zp M1 → Gr noN Ψ Ψ1 → (Ψ1.1.length ≤ Ψ.1.length + 3 * i ∧ Ψ1.2.2.length = Ψ.2.2.length) → (∀ c j, c ≠ 27 → P1 c j = P c j) → (∀ k, i ≤ k → k < l.length → P1 27 (l.getD k 0) = P 27 (l.getD k 0)) → (∀ k, k < l.length → okI Ψ1 (P1 27 (l.getD k 0))) → okI Ψ1 any → okI Ψ1 all → (∀ w HV, gW Ψ1 w HV → (∀ k, k < i → lV w (P1 27 (l.getD k 0)) = v3O (lV w (P 27 (l.getD k 0))) (lV w (P 28 (l.getD k 0 * 20 + n)))) ∧ lV w any = oI (fun k => lV w (P 28 (l.getD k 0 * 20 + n))) i ∧ lV w all = aI (fun k => lV w (P1 27 (l.getD k 0))) i) → T (h + 6) mdX9_joined 19 [(0, .ref 21), (2, .int (Int32.ofNat n)), (3, .int any), (4, .int all), (5, .int (Int32.ofNat (l.getD i 0))), (6, .int (Int32.ofNat i))] [] M1 Q := by
    intro d
    induction d with
    | zero =>
      intro i M1 Ψ1 P1 any all hi W1 R1 G1 L1 q1 q2 q3 oa ol s1
      have e : i = l.length := by omega
      subst e
      obtain ⟨F1, -, h81, o81, hRo1, -⟩ := W1.sees hB
      refine VX9_joined_19 ?_
      unfold DX9_joined_19
      have fin : DX9_joined_116 (h + 5) 21 any all M1 Q := by
        unfold DX9_joined_116
        refine ⟨ok21 F1, n0 + 8, h81, o81, W_and (h := h + 1) hB W1 (by omega) oa ol (fun M4 Ψ4 r5 W4 O4 G4 L4 k5 s5 _ => ⟨_, rfl, ?_⟩)⟩
        obtain ⟨F4, -, -, -, hRo4, -⟩ := W4.sees hB
        refine K M4 Ψ4 P1 r5 W4 (R1.ob O4) (G1.tr G4 (fun _ _ z => z)) (by omega) q1 (fun k hk => (q3 k hk).gr G4) k5 (fun w HV g => ?_)
        have b1 := g.bk G4 hRo1 hRo4 (fun _ _ z => z.elim)
        obtain ⟨t1, t2, t3⟩ := s1 w HV b1
        exact ⟨t1, by rw [s5 w HV g, t2, t3]⟩
      exact ⟨fun _ => fin, fun _ => ⟨fun _ => fin, fun z => absurd (by rw [gd_end]; rfl) z⟩⟩
    | succ d ih =>
      intro i M1 Ψ1 P1 any all hi W1 R1 G1 L1 q1 q2 q3 oa ol s1
      have hi' : i < l.length := by omega
      obtain ⟨b1, b2, b3⟩ := hb i hi'
      obtain ⟨F1, -, h81, o81, hRo1, -⟩ := W1.sees hB
      have e8 := h8n i hi'
      obtain ⟨c, ec⟩ : ∃ c, c = l.getD i 0 := ⟨_, rfl⟩
      rw [← ec] at b1 b2 b3 e8 ⊢
      have ci : Int32.ofNat c * 20 + Int32.ofNat n = Int32.ofNat (c * 20 + n) := by rw [Int32.ofNat_add, Int32.ofNat_mul]; rfl
      have lci : (Int32.ofNat (c * 20 + n)).toNatClampNeg = c * 20 + n := lt32 (by omega)
      have lc : (Int32.ofNat c).toNatClampNeg = c := lt32 (by omega)
      have vc : ∀ {k : Nat}, k = 640 → vp_in (Int32.ofNat c) k := fun e => by rw [e]; exact vp_of b2 (by decide)
      have gk : mAI M1 28 (c * 20 + n) = P 28 (c * 20 + n) := (R1.1 28 _ w28).trans (q1 _ _ (by decide))
      have gr : mAI M1 27 c = P 27 c := (R1.1 27 _ w27).trans (by rw [ec]; exact q2 i (Nat.le_refl _) hi')
      have okk : okI Ψ1 (P 28 (c * 20 + n)) := by rw [ec]; exact (hkc i hi').gr G1
      have okr : okI Ψ1 (P 27 c) := by rw [ec]; exact (hrc i hi').gr G1
      have nz : ¬ Int32.ofNat c = 0 := fun z => by
        have := inj32 (a := c) (b := 0) (by omega) (by decide) z
        omega
      have nle : ¬ (640 : Int32) ≤ Int32.ofNat i := fun z => by
        have := (le32 (a := 640) (by decide) (by omega)).mp z
        omega
      refine VX9_joined_19 ?_
      unfold DX9_joined_19
      rw [ci, lci, lc]
      refine ⟨fun z => absurd z nle, fun _ => ⟨fun z => absurd z nz, fun _ => ⟨ok21 F1, 28, rf21_7 F1, ok28 F1, by rw [ln28 F1]; exact vp_of (by omega) (by decide), 27, rf21_6 F1, n0 + 8, h81, 27, rf21_6 F1, ok27 F1, vc (ln27 F1), o81, ?_⟩⟩⟩
      rw [gk, gr]
      refine W_or (h := h) hB W1 (by omega) okr okk (fun M9 Ψ9 r10 W9 O9 G9 L9 k10 s10 _ => ⟨_, rfl, ?_⟩)
      obtain ⟨F9, -, -, -, hRo9, -⟩ := W9.sees hB
      refine ⟨ok27 F9, vc (ln27 F9), fun M12 e12 => ?_⟩
      have W12 := W9.wr hB w27 e12
      have R12 := (R1.ob O9).up e12
      obtain ⟨F12, -, h812, o812, -⟩ := W12.sees hB
      refine ⟨n0 + 8, h812, o812, W_or (h := h) hB W12 (by omega) (oa.gr G9) (okk.gr G9) (fun M15 Ψ15 r16 W15 O15 G15 L15 k16 s16 _ => ⟨_, rfl, ?_⟩)⟩
      obtain ⟨F15, -, h815, o815, hRo15, -⟩ := W15.sees hB
      have R15 := R12.ob O15
      have g27 : mAI M15 27 c = r10 := (R15.1 27 _ w27).trans up2_eq
      refine ⟨n0 + 8, h815, 27, rf21_6 F15, ok27 F15, vc (ln27 F15), o815, ?_⟩
      rw [g27]
      refine W_and (h := h + 1) hB W15 (by omega) ((ol.gr G9).gr G15) (k10.gr G15) (fun M21 Ψ21 r22 W21 O21 G21 L21 k22 s22 _ => ⟨_, rfl, ?_⟩)
      obtain ⟨F21, hT21, -, -, hRo21, -⟩ := W21.sees hB
      have g8 : mAI M21 8 c = Int32.ofNat (l.getD (i + 1) 0) := by rw [hT21.2.2.2.1 8 (by decide) (by decide)]; exact e8
      refine ⟨4, rf21_0 F21, ok4 F21, 8, rf4_3 F21, ok8 F21, vc (ln8 F21), ?_⟩
      rw [g8, succ32]
      have GG : Gr noN Ψ1 Ψ21 := (G9.tr G15 (fun _ _ z => z)).tr G21 (fun _ _ z => z)
      have nec : ∀ k, k < l.length → k ≠ i → l.getD k 0 ≠ c := fun k hk ne z => ne (hnd k i hk hi' (z.trans ec))
      refine ih (i + 1) M21 Ψ21 (up2 P1 27 c r10) r16 r22 (by omega) W21 (R15.ob O21) (G1.tr GG (fun _ _ z => z)) (by omega) (fun c' j hc => by rw [up2_ne (fun z => hc z.1)]; exact q1 c' j hc) (fun k hk hk2 => by rw [up2_ne (fun z => nec k hk2 (by omega) z.2)]; exact q2 k (by omega) hk2) (fun k hk => ?_) (k16.gr G21) k22 (fun w HV g => ?_)
      · by_cases z : k = i
        · rw [z, ← ec, up2_eq]; exact (k10.gr G15).gr G21
        · rw [up2_ne (fun y => nec k hk z y.2)]; exact (q3 k hk).gr GG
      · have b15 := g.bk G21 hRo15 hRo21 (fun _ _ z => z.elim)
        have b9 := b15.bk G15 hRo9 hRo15 (fun _ _ z => z.elim)
        have b1 := b9.bk G9 hRo1 hRo9 (fun _ _ z => z.elim)
        obtain ⟨t1, t2, t3⟩ := s1 w HV b1
        have cg : aI (fun k => lV w (up2 P1 27 c r10 27 (l.getD k 0))) i = aI (fun k => lV w (P1 27 (l.getD k 0))) i := aI_cg i (fun k hk => by rw [up2_ne (fun y => nec k (by omega) (by omega) y.2)])
        refine ⟨fun k hk => ?_, ?_, ?_⟩
        · by_cases z : k = i
          · rw [z, ← ec, up2_eq, s10 w HV b9]
          · rw [up2_ne (fun y => nec k (by omega) z y.2)]; exact t1 k (by omega)
        · show _ = v3O (oI _ i) (lV w (P 28 (l.getD i 0 * 20 + n)))
          rw [s16 w HV b15, t2, ← ec]
        · show _ = v3A (aI _ i) (lV w (up2 P1 27 c r10 27 (l.getD i 0)))
          rw [s22 w HV g, t3, cg, ← ec, up2_eq]
  refine KX9_joined (h := h + 5) ?_
  unfold DX9_joined_0
  have g6 : mAI M 6 x = Int32.ofNat (l.getD 0 0) := by rw [hT.2.2.2.1 6 (by decide) (by decide)]; exact h6
  rw [lt32 (show x < 2147483648 by omega)]
  refine ⟨ok21 F, 4, rf21_0 F, ok4 F, 6, rf4_1 F, ok6 F, by rw [ln6 F]; exact vp_of hx (by decide), ?_⟩
  rw [g6]
  refine main l.length 0 M Ψ P 0 1 (by omega) hW hP Gr.rf (by omega) (fun _ _ _ => rfl) (fun _ _ _ => rfl) hrc ⟨0, rfl, by omega⟩ ⟨1, rfl, by omega⟩ (fun w HV g => ⟨fun k hk => absurd hk (Nat.not_lt_zero _), ?_, ?_⟩)
  · have e : (0 : Int32) = Int32.ofNat 0 := rfl
    rw [e, lV_of (by decide), lR_0 g.1]
    rfl
  · have e : (1 : Int32) = Int32.ofNat 1 := rfl
    rw [e, lV_of (by decide), lR_1 g.1]
    rfl
/-- code n of parallel branches l below x -/
def jbV (Θ : TrT) (P : Nat → Nat → Int32) (x : Nat) (l : List Nat) (n : Nat) (w : Nat → Nat) (HV : Int32 → Nat) : Nat := v3A (oI (fun i => lV w (P 28 (l.getD i 0 * 20 + n))) l.length) (aI (fun i => rcV (v3A (v3A (lV w (P 23 x)) (HV (Θ.2.2 12 x))) (v3N (HV (Θ.2.2 12 (l.getD i 0))))) (fun j => lV w (P 28 (l.getD i 0 * 20 + j))) (n + 1)) l.length)
theorem W_jb (hB : WvB n0 l0 r0 M0) (hW : WvP n0 l0 r0 N0 Θ M0 Ψ M) (hP : RwP n0 P zp M) (hlim : Ψ.1.length + 62 * l.length + 30 < 99900) (hx : x < 640) (hL : ChL Θ x l) (hr : okI Ψ (P 23 x)) (hkx : ∀ n, n < 20 → okI Ψ (P 28 (x * 20 + n))) (hkc : ∀ i n, i < l.length → n < 20 → okI Ψ (P 28 (l.getD i 0 * 20 + n))) (K : ∀ M' Ψ' P1 kv, WvP n0 l0 r0 N0 Θ M0 Ψ' M' → RwP n0 (enP P1 x kv) zp M' → (∀ c j, c ≠ 27 → P1 c j = P c j) → Gr noN Ψ Ψ' → (Ψ'.1.length ≤ Ψ.1.length + 62 * l.length + 22 ∧ Ψ'.2.2.length ≤ Ψ.2.2.length + l.length + 1) → (∀ n, n < 20 → okI Ψ' (kv n)) → (∀ w HV, gW Ψ' w HV → ∀ n, n < 20 → lV w (kv n) = jbV Θ P x l n w HV) → Q none M') : E (h + 9) mdX9_joinBranches [.ref 21, .int (Int32.ofNat x)] M Q := by
  obtain ⟨h6, h8n, hb, hnd, hln⟩ := id hL
  obtain ⟨F, hT, h8, o8, hRo, l1, hRf, hE0⟩ := hW.sees hB
  have w23 : wvC n0 23 := Or.inl (by omega)
  have w27 : wvC n0 27 := Or.inl (by omega)
  have w28 : wvC n0 28 := Or.inl (by omega)
  have lx : (Int32.ofNat x).toNatClampNeg = x := lt32 (by omega)
  have ex : ∀ n : Nat, Int32.ofNat x * 20 + Int32.ofNat n = Int32.ofNat (x * 20 + n) := fun n => by rw [Int32.ofNat_add, Int32.ofNat_mul]; rfl
  have g23 : mAI M 23 x = P 23 x := hP.1 23 x w23
  refine KX9_joinBranches (h := h + 8) ?_
  unfold DX9_joinBranches_0
  refine ⟨ok21 F, W_res (h := h) hB hW (by omega) hx (by rw [g23]; exact hr) (fun M2 Ψ2 r3 W2 O2 G2 L2 k3 s3 _ => ⟨_, rfl, ?_⟩)⟩
  obtain ⟨F2, hT2, h82, o82, hRo2, l12, -⟩ := W2.sees hB
  have R2 := hP.ob O2
  have g6 : mAI M2 6 x = Int32.ofNat (l.getD 0 0) := by rw [hT2.2.2.2.1 6 (by decide) (by decide)]; exact h6
  rw [lx]
  refine ⟨4, rf21_0 F2, ok4 F2, 6, rf4_1 F2, ok6 F2, by rw [ln6 F2]; exact vp_of hx (by decide), ?_⟩
  rw [g6]
  have sR : ∀ w HV, gW Ψ2 w HV → lV w r3 = v3A (lV w (P 23 x)) (HV (Θ.2.2 12 x)) := fun w HV g => by rw [s3 w HV g, g23]
  -- the codes, one after the other
  have two : ∀ (d n : Nat) (M1 : Mem) (Ψ1 : Wg) (P1 : Nat → Nat → Int32) (kv : Nat → Int32), n + d = 20 → WvP n0 l0 r0 N0 Θ M0 Ψ1 M1 → RwP n0 (enP P1 x kv) zp M1 → (∀ c j, c ≠ 27 → P1 c j = P c j) → Gr noN Ψ Ψ1 → (Ψ1.1.length ≤ Ψ.1.length + (2 + 2 * l.length) + n * (3 * l.length + 1) ∧ Ψ1.2.2.length ≤ Ψ.2.2.length + l.length + 1) → (∀ k, k < 20 → okI Ψ1 (kv k)) → (∀ i, i < l.length → okI Ψ1 (P1 27 (l.getD i 0))) → (∀ w HV, gW Ψ1 w HV → (∀ i, i < l.length → lV w (P1 27 (l.getD i 0)) = rcV (v3A (v3A (lV w (P 23 x)) (HV (Θ.2.2 12 x))) (v3N (HV (Θ.2.2 12 (l.getD i 0))))) (fun j => lV w (P 28 (l.getD i 0 * 20 + j))) n) ∧ ∀ k, k < n → lV w (kv k) = jbV Θ P x l k w HV) → T (h + 9) mdX9_joinBranches 87 [(0, .ref 21), (1, .int (Int32.ofNat x)), (4, .int (Int32.ofNat n))] [] M1 Q := by
    intro d
    induction d with
    | zero =>
      intro n M1 Ψ1 P1 kv hn W1 R1 q1 G1 L1 o1 o2 s1
      have e : n = 20 := by omega
      subst e
      refine VX9_joinBranches_87 ?_
      unfold DX9_joinBranches_87
      exact ⟨fun _ => K M1 Ψ1 P1 kv W1 R1 q1 G1 (by omega) o1 (fun w HV g => (s1 w HV g).2), fun z => absurd Int32.le_rfl z⟩
    | succ d ih =>
      intro n M1 Ψ1 P1 kv hn W1 R1 q1 G1 L1 o1 o2 s1
      have hn20 : n < 20 := by omega
      have bn : n * (3 * l.length + 1) + (3 * l.length + 1) ≤ 20 * (3 * l.length + 1) := by
        have : (n + 1) * (3 * l.length + 1) = n * (3 * l.length + 1) + (3 * l.length + 1) := Nat.succ_mul _ _
        rw [← this]
        exact Nat.mul_le_mul_right _ (by omega)
      have en1 : (n + 1) * (3 * l.length + 1) = n * (3 * l.length + 1) + (3 * l.length + 1) := Nat.succ_mul _ _
      obtain ⟨F1, -, h81, o81, hRo1, -⟩ := W1.sees hB
      have nle : ¬ (20 : Int32) ≤ Int32.ofNat n := fun z => by
        have := (le32 (a := 20) (by decide) (by omega)).mp z
        omega
      have kcn : ∀ i, i < l.length → ∀ j, j < 20 → enP P1 x kv 28 (l.getD i 0 * 20 + j) = P 28 (l.getD i 0 * 20 + j) := fun i hi j hj => (enP_x hj (hb i hi).2.2).trans (q1 _ _ (by decide))
      have r27 : ∀ i, enP P1 x kv 27 i = P1 27 i := fun i => enP_n (by decide)
      refine VX9_joinBranches_87 ?_
      unfold DX9_joinBranches_87
      rw [ex n, lt32 (show x * 20 + n < 2147483648 by omega)]
      refine ⟨fun z => absurd z nle, fun _ => ⟨ok21 F1, 28, rf21_7 F1, ?_⟩⟩
      refine W_jn (h := h + 2) (n := n) hB W1 R1 (by omega) hx hn20 hL (fun i hi => by rw [kcn i hi n hn20]; exact (hkc i n hi hn20).gr G1) (fun i hi => by rw [r27]; exact o2 i hi) (fun M3 Ψ3 P3 r4 W3 R3 G3 L3 q3 o3 k4 s4 _ => ⟨_, rfl, ?_⟩)
      obtain ⟨F3, -, -, -, hRo3, -⟩ := W3.sees hB
      refine ⟨ok28 F3, by rw [ln28 F3]; exact vp_of (by omega) (by decide), fun M6 e6 => ?_⟩
      rw [succ32]
      have R3' : RwP n0 (enP (fun c j => if c = 27 then P3 c j else P c j) x kv) zp M3 := R3.cg (fun c j _ => by
        by_cases z : c = 27
        · rw [enP_n (by omega)]
          show (if c = 27 then P3 c j else P c j) = _
          rw [if_pos z]
        · rw [q3 c j z]
          unfold enP
          by_cases y : c = 28 ∧ x * 20 ≤ j ∧ j < x * 20 + 20
          · rw [if_pos y, if_pos y]
          · rw [if_neg y, if_neg y]
            show (if c = 27 then P3 c j else P c j) = _
            rw [if_neg z, q1 c j z])
      refine ih (n + 1) M6 Ψ3 (fun c j => if c = 27 then P3 c j else P c j) (va_up kv n r4) (by omega) (W3.wr hB w28 e6) ((R3'.up e6).cg (fun c j _ => enP_k hn20 c j)) (fun c j z => if_neg z) (G1.tr G3 (fun _ _ z => z)) (by rw [en1]; omega) (fun k hk => ?_) (fun i hi => ?_) (fun w HV g => ?_)
      · by_cases z : k = n
        · rw [z, va_up_self]; exact k4
        · rw [va_up_ne _ _ z]; exact (o1 k hk).gr G3
      · show okI Ψ3 (if 27 = 27 then P3 27 (l.getD i 0) else _)
        rw [if_pos rfl]; exact o3 i hi
      · have b1 := g.bk G3 hRo1 hRo3 (fun _ _ z => z.elim)
        obtain ⟨t1, t2⟩ := s1 w HV b1
        obtain ⟨u1, u2⟩ := s4 w HV g
        have v1 : ∀ i, i < l.length → lV w (P3 27 (l.getD i 0)) = rcV (v3A (v3A (lV w (P 23 x)) (HV (Θ.2.2 12 x))) (v3N (HV (Θ.2.2 12 (l.getD i 0))))) (fun j => lV w (P 28 (l.getD i 0 * 20 + j))) (n + 1) := fun i hi => by
          rw [u1 i hi, r27, kcn i hi n hn20, t1 i hi]
          rfl
        refine ⟨fun i hi => ?_, fun k hk => ?_⟩
        · show lV w (if 27 = 27 then P3 27 (l.getD i 0) else _) = _
          rw [if_pos rfl]; exact v1 i hi
        · by_cases z : k = n
          · rw [z, va_up_self, u2]
            unfold jbV
            rw [oI_cg (g := fun i => lV w (P 28 (l.getD i 0 * 20 + n))) l.length (fun i hi => by rw [kcn i hi n hn20]), aI_cg l.length v1]
          · rw [va_up_ne _ _ z]; exact t2 k (by omega)
  -- the branches' begin
  have one : ∀ (d i : Nat) (M1 : Mem) (Ψ1 : Wg) (P1 : Nat → Nat → Int32), i + d = l.length → WvP n0 l0 r0 N0 Θ M0 Ψ1 M1 → RwP n0 P1 zp M1 → (∀ c j, c ≠ 27 → P1 c j = P c j) → Gr noN Ψ2 Ψ1 → (Ψ1.1.length ≤ Ψ2.1.length + 2 * i ∧ Ψ1.2.2.length ≤ Ψ2.2.2.length + i) → (∀ k, k < i → okI Ψ1 (P1 27 (l.getD k 0))) → (∀ w HV, gW Ψ1 w HV → ∀ k, k < i → lV w (P1 27 (l.getD k 0)) = v3A (v3A (lV w (P 23 x)) (HV (Θ.2.2 12 x))) (v3N (HV (Θ.2.2 12 (l.getD k 0))))) → T (h + 9) mdX9_joinBranches 19 [(0, .ref 21), (1, .int (Int32.ofNat x)), (2, .int r3), (3, .int (Int32.ofNat (l.getD i 0))), (4, .int (Int32.ofNat i))] [] M1 Q := by
    intro d
    induction d with
    | zero =>
      intro i M1 Ψ1 P1 hi W1 R1 q1 G1 L1 o1 s1
      have e : i = l.length := by omega
      subst e
      have GG := G2.tr G1 (fun _ _ z => z)
      have fin : DX9_joinBranches_84 (h + 8) 21 (Int32.ofNat x) M1 Q := by
        unfold DX9_joinBranches_84
        exact two 20 0 M1 Ψ1 P1 (fun n => P 28 (x * 20 + n)) (by omega) W1 (R1.cg (fun c j _ => by
          unfold enP
          by_cases y : c = 28 ∧ x * 20 ≤ j ∧ j < x * 20 + 20
          · rw [if_pos y]
            show P 28 (x * 20 + (j - x * 20)) = _
            rw [show x * 20 + (j - x * 20) = j by omega, q1 c j (by omega), y.1]
          · rw [if_neg y])) q1 GG (by omega) (fun k hk => (hkx k hk).gr GG) o1 (fun w HV g => ⟨s1 w HV g, fun k hk => absurd hk (Nat.not_lt_zero _)⟩)
      refine VX9_joinBranches_19 ?_
      unfold DX9_joinBranches_19
      exact ⟨fun _ => fin, fun _ => ⟨fun _ => fin, fun z => absurd (by rw [gd_end]; rfl) z⟩⟩
    | succ d ih =>
      intro i M1 Ψ1 P1 hi W1 R1 q1 G1 L1 o1 s1
      have hi' : i < l.length := by omega
      obtain ⟨b1, b2, b3⟩ := hb i hi'
      obtain ⟨F1, hT1, h81, o81, hRo1, -⟩ := W1.sees hB
      have e8 := h8n i hi'
      obtain ⟨c, ec⟩ : ∃ c, c = l.getD i 0 := ⟨_, rfl⟩
      rw [← ec] at b1 b2 b3 e8 ⊢
      have lc : (Int32.ofNat c).toNatClampNeg = c := lt32 (by omega)
      have vc : ∀ {k : Nat}, k = 640 → vp_in (Int32.ofNat c) k := fun e => by rw [e]; exact vp_of b2 (by decide)
      have g12 : mAI M1 12 c = Θ.2.2 12 c := by rw [hT1.2.2.2.1 12 (by decide) (by decide)]
      have nz : ¬ Int32.ofNat c = 0 := fun z => by
        have := inj32 (a := c) (b := 0) (by omega) (by decide) z
        omega
      have nle : ¬ (640 : Int32) ≤ Int32.ofNat i := fun z => by
        have := (le32 (a := 640) (by decide) (by omega)).mp z
        omega
      refine VX9_joinBranches_19 ?_
      unfold DX9_joinBranches_19
      rw [lc]
      refine ⟨fun z => absurd z nle, fun _ => ⟨fun z => absurd z nz, fun _ => ⟨ok21 F1, n0 + 8, h81, 4, rf21_0 F1, ok4 F1, 12, rf4_7 F1, ok12 F1, vc (ln12 F1), o81, ?_⟩⟩⟩
      rw [g12]
      refine W_hold (h := h + 1) hB W1 (by omega) (fun M8 Ψ8 r9 W8 O8 G8 L8 k9 s9 _ => ⟨_, rfl, ?_⟩)
      obtain ⟨F8, -, h88, o88, hRo8, -⟩ := W8.sees hB
      refine ⟨27, rf21_6 F8, n0 + 8, h88, W_not (h := h + 7) k9 (by omega) (fun r13 k13 s13 _ => ⟨_, rfl, o88, ?_⟩)⟩
      refine W_and (h := h + 4) hB W8 (by omega) ((k3.gr G1).gr G8) k13 (fun M15 Ψ15 r16 W15 O15 G15 L15 k16 s16 _ => ⟨_, rfl, ?_⟩)
      obtain ⟨F15, -, -, -, hRo15, -⟩ := W15.sees hB
      refine ⟨ok27 F15, vc (ln27 F15), fun M18 e18 => ?_⟩
      have W18 := W15.wr hB w27 e18
      have R18 := ((R1.ob O8).ob O15).up e18
      obtain ⟨F18, hT18, -⟩ := W18.sees hB
      have g8 : mAI M18 8 c = Int32.ofNat (l.getD (i + 1) 0) := by rw [hT18.2.2.2.1 8 (by decide) (by decide)]; exact e8
      refine ⟨4, rf21_0 F18, ok4 F18, 8, rf4_3 F18, ok8 F18, vc (ln8 F18), ?_⟩
      rw [g8, succ32]
      have GG : Gr noN Ψ1 Ψ15 := G8.tr G15 (fun _ _ z => z)
      have nec : ∀ k, k < l.length → k ≠ i → l.getD k 0 ≠ c := fun k hk ne z => ne (hnd k i hk hi' (z.trans ec))
      refine ih (i + 1) M18 Ψ15 (up2 P1 27 c r16) (by omega) W18 R18 (fun c' j hc => by rw [up2_ne (fun z => hc z.1)]; exact q1 c' j hc) (G1.tr GG (fun _ _ z => z)) (by omega) (fun k hk => ?_) (fun w HV g k hk => ?_)
      · by_cases z : k = i
        · rw [z, ← ec, up2_eq]; exact k16
        · rw [up2_ne (fun y => nec k (by omega) z y.2)]; exact (o1 k (by omega)).gr GG
      · have b8 := g.bk G15 hRo8 hRo15 (fun _ _ z => z.elim)
        have b1 := b8.bk G8 hRo1 hRo8 (fun _ _ z => z.elim)
        have b0 := b1.bk G1 hRo2 hRo1 (fun _ _ z => z.elim)
        by_cases z : k = i
        · rw [z, ← ec, up2_eq, s16 w HV g, s13 w HV b8, s9 w HV b8, sR w HV b0]
        · rw [up2_ne (fun y => nec k (by omega) z y.2)]
          exact s1 w HV b1 k (by omega)
  exact one l.length 0 M2 Ψ2 P (by omega) W2 R2 (fun _ _ _ => rfl) Gr.rf (by omega) (fun k hk => absurd hk (Nat.not_lt_zero _)) (fun _ _ _ k hk => absurd hk (Nat.not_lt_zero _))
end
end
section
/-! the weaver's walk: what is known of nodes -/
/-- a node's codes when i of its children have been left -/
def acV (k : Int32) (rs hv cd : Nat) (a0 : Nat → Nat) (K : Nat → Nat → Nat) : Nat → Nat → Nat
  | 0 => a0
  | i + 1 => fun n => if k = 8 then acV k rs hv cd a0 K i n else lvV k n (acV k rs hv cd a0 K i) (K i) rs hv cd
theorem lvV_cg {k : Int32} {a a' b b' : Nat → Nat} {rs hv cd : Nat} (ha : ∀ n, n < 20 → a n = a' n) (hb : ∀ n, n < 20 → b n = b' n) (n : Nat) (hn : n < 20) : lvV k n a b rs hv cd = lvV k n a' b' rs hv cd := by
  unfold lvV ltV
  rw [ha n hn, hb n hn, ha 1 (by decide), hb 1 (by decide), hb 0 (by decide), hb 2 (by decide)]
  by_cases z : n ≤ 18
  · rw [hb (n + 1) (by omega)]
  · rw [if_neg z, if_neg z]
theorem acV_cg {k : Int32} {rs hv cd : Nat} {a0 a0' : Nat → Nat} {K K' : Nat → Nat → Nat} (h0 : ∀ n, n < 20 → a0 n = a0' n) : ∀ (i : Nat), (∀ j, j < i → ∀ n, n < 20 → K j n = K' j n) → ∀ n, n < 20 → acV k rs hv cd a0 K i n = acV k rs hv cd a0' K' i n
  | 0, _, n, hn => h0 n hn
  | i + 1, h, n, hn => by
    show (if k = 8 then acV k rs hv cd a0 K i n else lvV k n (acV k rs hv cd a0 K i) (K i) rs hv cd) = (if k = 8 then acV k rs hv cd a0' K' i n else lvV k n (acV k rs hv cd a0' K' i) (K' i) rs hv cd)
    have ih := acV_cg (k := k) (rs := rs) (hv := hv) (cd := cd) h0 i (fun j hj => h j (by omega))
    by_cases z : k = 8
    · rw [if_pos z, if_pos z]; exact ih n hn
    · rw [if_neg z, if_neg z]; exact lvV_cg ih (h i (by omega)) n hn
section
variable (Θ : TrT) (G : Nat → List Nat)
def acN (P : Nat → Nat → Int32) (z i n : Nat) (w : Nat → Nat) (HV : Int32 → Nat) : Nat := acV (Θ.2.2 5 z) (lV w (P 23 z)) (HV (Θ.2.2 12 z)) (lV w (Θ.2.2 10 z)) (fun n => enV (Θ.2.2 5 z) (Θ.2.2 11 z).toNatClampNeg n (lV w (P 22 z)) (lV w (P 23 z)) (HV (Θ.2.2 12 z))) (fun i n => lV w (P 28 ((G z).getD i 0 * 20 + n))) i n
/-- the wires of z's child i -/
def ArN (P : Nat → Nat → Int32) (z i : Nat) (w : Nat → Nat) (HV : Int32 → Nat) : Prop := lV w (P 22 ((G z).getD i 0)) = arG (Θ.2.2 5 z) (decide (i = 0)) (lV w (P 22 z)) (lV w (Θ.2.2 10 z)) (acN Θ G P z i 0 w HV) (lV w (P 26 z)) ∧ lV w (P 23 ((G z).getD i 0)) = arR (Θ.2.2 5 z) (lV w (P 23 z)) (HV (Θ.2.2 12 z)) (lV w (Θ.2.2 10 z)) ∧ lV w (P 24 ((G z).getD i 0)) = arS (Θ.2.2 5 z) (lV w (P 24 z)) (lV w (P 23 z)) (HV (Θ.2.2 12 z)) (lV w (Θ.2.2 10 z)) ∧ lV w (P 25 ((G z).getD i 0)) = arK (Θ.2.2 5 z) (lV w (P 25 z)) (lV w (P 26 z))
def OkR (Ψ : Wg) (P : Nat → Nat → Int32) (z : Nat) : Prop := (∀ c, 22 ≤ c → c ≤ 25 → okI Ψ (P c z)) ∧ ∀ n, n < 20 → okI Ψ (P 28 (z * 20 + n))
/-- what closes z's open net -/
def clF (P : Nat → Nat → Int32) (z : Nat) (w : Nat → Nat) : Nat := if Θ.2.2 5 z = 6 then v3O (lV w (P 22 z)) (lV w (P 28 ((G z).getD 0 0 * 20))) else v3O (lV w (P 25 z)) (lV w (P 28 ((G z).getD 0 0 * 20 + 2)))
def OpQ (Ψ : Wg) (P : Nat → Nat → Int32) (i z : Nat) : Prop := Θ.2.2 5 z = 6 ∨ Θ.2.2 5 z = 9 → ∃ l, P 26 z = Int32.ofNat (2 * l) ∧ l < Ψ.1.length ∧ rlC Ψ.2.1 (2 * l) (if Θ.2.2 5 z = 6 then 7 else 8) z ∧ (0 < i → ClQ Ψ l (clF Θ G P z))
/-- i children of z have been left, ar have been come to -/
def InQ (Ψ : Wg) (P : Nat → Nat → Int32) (i ar z : Nat) : Prop := OkR Ψ P z ∧ OpQ Θ G Ψ P i z ∧ ∀ w HV, gW Ψ w HV → (∀ j, j < ar → ArN Θ G P z j w HV) ∧ (Θ.2.2 5 z ≠ 8 → ∀ n, n < 20 → lV w (P 28 (z * 20 + n)) = acN Θ G P z i n w HV)
/-- all of z is woven -/
def NdQ (Ψ : Wg) (P : Nat → Nat → Int32) (z : Nat) : Prop := InQ Θ G Ψ P (G z).length (G z).length z ∧ (Θ.2.2 5 z = 8 → ∀ w HV, gW Ψ w HV → ∀ n, n < 20 → lV w (P 28 (z * 20 + n)) = jbV Θ P z (G z) n w HV)
def SmA (P P' : Nat → Nat → Int32) (z : Nat) : Prop := ∀ c, 22 ≤ c → c ≤ 26 → P' c z = P c z
def SmB (P P' : Nat → Nat → Int32) (z : Nat) : Prop := ∀ c, 22 ≤ c → c ≤ 25 → P' c z = P c z
def SmK (P P' : Nat → Nat → Int32) (z : Nat) : Prop := ∀ n, n < 20 → P' 28 (z * 20 + n) = P 28 (z * 20 + n)
/-- a node as the weaver may meet it -/
def ShN (nb z : Nat) : Prop := (1 ≤ z ∧ z < Θ.1 ∧ z < 640) ∧ (∃ cd, Θ.2.2 11 z = Int32.ofNat cd ∧ cd < 2147483648 ∧ (Θ.2.2 5 z = 1 → cd < 24) ∧ (Θ.2.2 5 z = 2 → cd < 16) ∧ (Θ.2.2 5 z = 3 → cd < 20)) ∧ (Θ.2.2 5 z = 4 ∨ Θ.2.2 5 z = 7 → ∃ l, Θ.2.2 10 z = Int32.ofNat l ∧ l < 2 * nb) ∧ ChL Θ z (G z) ∧ (∀ i, i < (G z).length → Θ.2.2 9 ((G z).getD i 0) = Int32.ofNat z) ∧ (G z ≠ [] → Θ.2.2 5 z = 4 ∨ Θ.2.2 5 z = 5 ∨ Θ.2.2 5 z = 6 ∨ Θ.2.2 5 z = 7 ∨ Θ.2.2 5 z = 8 ∨ Θ.2.2 5 z = 9) ∧ (Θ.2.2 5 z = 6 ∨ Θ.2.2 5 z = 9 → (G z).length ≤ 1)
end
section
variable {Θ : TrT} {G : Nat → List Nat} {Ψ Ψ' : Wg} {P P' : Nat → Nat → Int32} {z i ar : Nat} {C : Nat → Prop} {w : Nat → Nat} {HV : Int32 → Nat}
theorem SmA.b (h : SmA P P' z) : SmB P P' z := fun c c1 c2 => h c c1 (by omega)
theorem acN_st (hA : SmA P P' z) (hK : ∀ j, j < i → SmK P P' ((G z).getD j 0)) (n : Nat) (hn : n < 20) : acN Θ G P' z i n w HV = acN Θ G P z i n w HV := by
  unfold acN
  rw [hA 22 (by decide) (by decide), hA 23 (by decide) (by decide)]
  exact acV_cg (fun _ _ => rfl) i (fun j hj m hm => by rw [hK j hj m hm]) n hn
theorem ArN_st {j : Nat} (hA : SmA P P' z) (hc : SmB P P' ((G z).getD j 0)) (hK : ∀ k, k < j → SmK P P' ((G z).getD k 0)) (h : ArN Θ G P z j w HV) : ArN Θ G P' z j w HV := by
  unfold ArN at h ⊢
  rw [acN_st hA hK 0 (by decide), hA 22 (by decide) (by decide), hA 23 (by decide) (by decide), hA 24 (by decide) (by decide), hA 25 (by decide) (by decide), hA 26 (by decide) (by decide), hc 22 (by decide) (by decide), hc 23 (by decide) (by decide), hc 24 (by decide) (by decide), hc 25 (by decide) (by decide)]
  exact h
theorem clF_st (hA : SmA P P' z) (hK : SmK P P' ((G z).getD 0 0)) : clF Θ G P' z = clF Θ G P z := by
  funext w
  unfold clF
  have e0 := hK 0 (by decide)
  rw [Nat.add_zero] at e0
  rw [hA 22 (by decide) (by decide), hA 25 (by decide) (by decide), e0, hK 2 (by decide)]
/-- what is known of z stays -/
theorem InQ.st (h : InQ Θ G Ψ P i ar z) (hA : SmA P P' z) (hKz : SmK P P' z) (hcA : ∀ j, j < ar → SmB P P' ((G z).getD j 0)) (hcK : ∀ j, j < i → SmK P P' ((G z).getD j 0)) (hi : ar ≤ i + 1) (g : Gr C Ψ Ψ') (hR : RoW Ψ) (hR' : RoW Ψ') (hC0 : ∀ n, n < Ψ.1.length → C n → (Ψ.2.1.getD n (0, 0)).1 ≠ 0) (hCz : ∀ n, n < Ψ.1.length → C n → (Ψ.2.1.getD n (0, 0)).2 ≠ z) : InQ Θ G Ψ' P' i ar z := by
  obtain ⟨⟨h1, h2⟩, h3, h4⟩ := h
  refine ⟨⟨fun c c1 c2 => by rw [hA c c1 (by omega)]; exact (h1 c c1 c2).gr g, fun n hn => by rw [hKz n hn]; exact (h2 n hn).gr g⟩, fun hk => ?_, fun w HV gw => ?_⟩
  · obtain ⟨l, l1, l2, l3, l4⟩ := h3 hk
    obtain ⟨q1, q2, q3⟩ := l3
    have e2 : 2 * l / 2 = l := by omega
    rw [e2] at q3
    have nC : ¬ C l := fun y => hCz l l2 y (by rw [q3])
    refine ⟨l, by rw [hA 26 (by decide) (by decide)]; exact l1, by have := g.1; omega, ⟨by omega, by rw [e2, hR'.1]; have := g.1; omega, by rw [e2, g.2.2.1 l l2]; exact q3⟩, fun hi0 => ?_⟩
    rw [clF_st hA (hcK 0 hi0)]
    exact (l4 hi0).gr g l2 nC hR hR' hC0
  · obtain ⟨t1, t2⟩ := h4 w HV (gw.bk g hR hR' hC0)
    refine ⟨fun j hj => ArN_st hA (hcA j hj) (fun k hk => hcK k (by omega)) (t1 j hj), fun k8 n hn => ?_⟩
    rw [hKz n hn, acN_st hA hcK n hn]
    exact t2 k8 n hn
theorem jbV_st {n : Nat} (hn : n < 20) (hA : SmA P P' z) (hK : ∀ j, j < (G z).length → SmK P P' ((G z).getD j 0)) : jbV Θ P' z (G z) n w HV = jbV Θ P z (G z) n w HV := by
  unfold jbV
  have rc : ∀ (st : Nat) (f f' : Nat → Nat) (m : Nat), (∀ j, j < m → f j = f' j) → rcV st f m = rcV st f' m := by
    intro st f f' m
    induction m with
    | zero => intro _; rfl
    | succ m ih =>
      intro hh
      show v3O (rcV st f m) (f m) = v3O (rcV st f' m) (f' m)
      rw [ih (fun j hj => hh j (by omega)), hh m (by omega)]
  rw [hA 23 (by decide) (by decide), oI_cg (G z).length (fun j hj => by rw [hK j hj n hn]), aI_cg (G z).length (fun j hj => rc _ _ _ (n + 1) (fun q hq => by rw [hK j hj q (by omega)]))]
theorem NdQ.st (h : NdQ Θ G Ψ P z) (hA : SmA P P' z) (hKz : SmK P P' z) (hcA : ∀ j, j < (G z).length → SmB P P' ((G z).getD j 0)) (hcK : ∀ j, j < (G z).length → SmK P P' ((G z).getD j 0)) (g : Gr C Ψ Ψ') (hR : RoW Ψ) (hR' : RoW Ψ') (hC0 : ∀ n, n < Ψ.1.length → C n → (Ψ.2.1.getD n (0, 0)).1 ≠ 0) (hCz : ∀ n, n < Ψ.1.length → C n → (Ψ.2.1.getD n (0, 0)).2 ≠ z) : NdQ Θ G Ψ' P' z := by
  refine ⟨h.1.st hA hKz hcA hcK (Nat.le_succ _) g hR hR' hC0 hCz, fun k8 w HV gw n hn => ?_⟩
  rw [hKz n hn, jbV_st hn hA hcK]
  exact h.2 k8 w HV (gw.bk g hR hR' hC0) n hn
end
/-! what is emitted, and the pauses -/
section
variable (Θ : TrT)
def emV (P : Nat → Nat → Int32) (w : Nat → Nat) (s : Nat) (L : List Nat) (v : Nat) : Nat := L.foldl (fun v z => if Θ.2.2 5 z = 2 ∧ Θ.2.2 11 z = Int32.ofNat s then v3O v (lV w (P 22 z)) else v) v
def psV (P : Nat → Nat → Int32) (c j : Nat) (L : List Nat) (v : Int32) : Int32 := L.foldl (fun v z => if Θ.2.2 5 z = 1 ∧ Θ.2.2 11 z = Int32.ofNat j then P c z else v) v
def zpV (L : List Nat) (v : Int32) : Int32 := L.foldl (fun v z => if Θ.2.2 5 z = 1 then mx12 v (Θ.2.2 11 z).toNatClampNeg else v) v
def ExR (n0 : Nat) (Ψ' : Wg) (L : List Nat) (P P' : Nat → Nat → Int32) (zp zp' : Int32) : Prop := (∀ s, s < 16 → okI Ψ' (P' (n0 + 21) s)) ∧ (∀ w HV, gW Ψ' w HV → ∀ s, s < 16 → lV w (P' (n0 + 21) s) = emV Θ P' w s L (lV w (P (n0 + 21) s))) ∧ (∀ j, j < 24 → P' (n0 + 17) j = psV Θ P' 22 j L (P (n0 + 17) j) ∧ P' (n0 + 18) j = psV Θ P' 24 j L (P (n0 + 18) j) ∧ P' (n0 + 19) j = psV Θ P' 25 j L (P (n0 + 19) j)) ∧ zp' = zpV Θ L zp
/-- new nets are ands, held pauses, or what the nodes of L have begun -/
def NwQ (L : List Nat) (Ψ Ψ' : Wg) (P' : Nat → Nat → Int32) : Prop := ∀ n, Ψ.1.length ≤ n → n < Ψ'.1.length → r06 Ψ' n ∨ ∃ z, z ∈ L ∧ (Θ.2.2 5 z = 6 ∨ Θ.2.2 5 z = 9) ∧ P' 26 z = Int32.ofNat (2 * n)
end
section
variable {Θ : TrT} {G : Nat → List Nat} {n0 : Nat} {Ψ Ψ1 Ψ2 : Wg} {P P1 P2 : Nat → Nat → Int32} {L L1 L2 : List Nat} {z0 z1 z2 : Int32} {C : Nat → Prop} {w : Nat → Nat}
theorem fold_cg {α : Type} {f f' : α → Nat → α} : ∀ (L : List Nat) (v : α), (∀ v, ∀ z ∈ L, f v z = f' v z) → L.foldl f v = L.foldl f' v
  | [], _, _ => rfl
  | a :: L, v, h => by
    show L.foldl f (f v a) = L.foldl f' (f' v a)
    rw [h v a List.mem_cons_self]
    exact fold_cg L _ (fun v z hz => h v z (List.mem_cons_of_mem _ hz))
theorem emV_cg {s v : Nat} (h : ∀ z ∈ L, P1 22 z = P 22 z) : emV Θ P1 w s L v = emV Θ P w s L v := fold_cg L v (fun v z hz => by rw [h z hz])
theorem psV_cg {c j : Nat} {v : Int32} (h : ∀ z ∈ L, P1 c z = P c z) : psV Θ P1 c j L v = psV Θ P c j L v := fold_cg L v (fun v z hz => by rw [h z hz])
theorem ExR.tr (h : ExR Θ n0 Ψ1 L1 P P1 z0 z1) (k : ExR Θ n0 Ψ2 L2 P1 P2 z1 z2) (hs : ∀ z ∈ L1, SmA P1 P2 z) (g : Gr C Ψ1 Ψ2) (hR : RoW Ψ1) (hR' : RoW Ψ2) (hC0 : ∀ n, n < Ψ1.1.length → C n → (Ψ1.2.1.getD n (0, 0)).1 ≠ 0) : ExR Θ n0 Ψ2 (L1 ++ L2) P P2 z0 z2 := by
  obtain ⟨h1, h2, h3, h4⟩ := h
  obtain ⟨k1, k2, k3, k4⟩ := k
  refine ⟨k1, fun w HV gw s hs16 => ?_, fun j hj => ⟨?_, ?_, ?_⟩, ?_⟩
  · rw [k2 w HV gw s hs16, h2 w HV (gw.bk g hR hR' hC0) s hs16, ← emV_cg (P := P1) (P1 := P2) (L := L1) (fun z hz => hs z hz 22 (by decide) (by decide))]
    exact List.foldl_append.symm
  · rw [(k3 j hj).1, (h3 j hj).1, ← psV_cg (P := P1) (P1 := P2) (L := L1) (fun z hz => hs z hz 22 (by decide) (by decide))]
    exact List.foldl_append.symm
  · rw [(k3 j hj).2.1, (h3 j hj).2.1, ← psV_cg (P := P1) (P1 := P2) (L := L1) (fun z hz => hs z hz 24 (by decide) (by decide))]
    exact List.foldl_append.symm
  · rw [(k3 j hj).2.2, (h3 j hj).2.2, ← psV_cg (P := P1) (P1 := P2) (L := L1) (fun z hz => hs z hz 25 (by decide) (by decide))]
    exact List.foldl_append.symm
  · rw [k4, h4]; exact List.foldl_append.symm
theorem NwQ.tr (h : NwQ Θ L1 Ψ Ψ1 P1) (k : NwQ Θ L2 Ψ1 Ψ2 P2) (g : Gr C Ψ1 Ψ2) (s : ∀ z ∈ L1, P2 26 z = P1 26 z) : NwQ Θ (L1 ++ L2) Ψ Ψ2 P2 := fun n n1 n2 => by
  by_cases z : n < Ψ1.1.length
  · rcases h n n1 z with y | ⟨q, q1, q2, q3⟩
    · refine Or.inl ?_
      unfold r06 at y ⊢
      rw [g.2.2.1 n z]
      exact y
    · exact Or.inr ⟨q, List.mem_append.mpr (Or.inl q1), q2, by rw [s q q1]; exact q3⟩
  · rcases k n (by omega) n2 with y | ⟨q, q1, q2, q3⟩
    · exact Or.inl y
    · exact Or.inr ⟨q, List.mem_append.mpr (Or.inr q1), q2, q3⟩
theorem NwQ.nil (g : Gr C Ψ Ψ1) (hC : ∀ n, Ψ.1.length ≤ n → n < Ψ1.1.length → ¬ C n) : NwQ Θ [] Ψ Ψ1 P1 := fun n n1 n2 => Or.inl (g.2.2.2.2 n n1 n2 (hC n n1 n2))
theorem ExR.nil (hk : ∀ s, s < 16 → okI Ψ1 (P1 (n0 + 21) s)) (h : ∀ c j, n0 + 17 ≤ c → c ≤ n0 + 21 → P2 c j = P1 c j) (g : Gr C Ψ1 Ψ2) : ExR Θ n0 Ψ2 [] P1 P2 z0 z0 := by
  refine ⟨fun s hs => by rw [h _ s (by omega) (by omega)]; exact (hk s hs).gr g, fun w HV _ s hs => by rw [h _ s (by omega) (by omega)]; rfl, fun j hj => ⟨?_, ?_, ?_⟩, rfl⟩
  · rw [h _ j (by omega) (by omega)]; rfl
  · rw [h _ j (by omega) (by omega)]; rfl
  · rw [h _ j (by omega) (by omega)]; rfl
end
end
section
/-! the weaver's walk: its steps -/
section
variable {n0 l0 r0 N0 nb : Nat} {Θ : TrT} {G : Nat → List Nat} {M0 M M' : Mem} {Ψ Ψ' : Wg} {h : Nat} {Q : Option Value → Mem → Prop} {P : Nat → Nat → Int32} {zp : Int32} {x i : Nat}
theorem nk_en {P : Nat → Nat → Int32} {x : Nat} {kv : Nat → Int32} : nk (enP P x kv) x = szN kv 20 := sz_cg 20 (fun k hk => enP_i hk)
theorem nk_st {P P' : Nat → Nat → Int32} {z : Nat} (h : SmK P P' z) : nk P' z = nk P z := sz_cg 20 (fun k hk => h k hk)
theorem W_en2 (hB : WvB n0 l0 r0 M0) (hW : WvP n0 l0 r0 N0 Θ M0 Ψ M) (hP : RwP n0 P zp M) (hlim : Ψ.1.length < 99900) (hs : ShN Θ G nb x) (hok : ∀ c, 22 ≤ c → c ≤ 25 → okI Ψ (P c x)) (hem : ∀ s, s < 16 → okI Ψ (P (n0 + 21) s)) (K : ∀ M' Ψ' P' zp', WvP n0 l0 r0 N0 Θ M0 Ψ' M' → RwP n0 P' zp' M' → (Gr (nwN Ψ) Ψ Ψ' ∧ NwQ Θ [x] Ψ Ψ' P') → (Ψ'.1.length ≤ Ψ.1.length + 2 ∧ Ψ'.2.2.length ≤ Ψ.2.2.length + eH (Θ.2.2 5 x) ∧ Ψ'.1.length + nk P' x ≤ Ψ.1.length + eW (Θ.2.2 5 x)) → InQ Θ G Ψ' P' 0 0 x → ExR Θ n0 Ψ' [x] P P' zp zp' → (∀ z, z ≠ x → SmA P P' z ∧ SmK P P' z) → (∀ c, 22 ≤ c → c ≤ 25 → P' c x = P c x) → (Θ.2.2 5 x = 6 ∨ Θ.2.2 5 x = 9 → ∃ l, Ψ.1.length ≤ l ∧ l < Ψ'.1.length ∧ P' 26 x = Int32.ofNat (2 * l)) → Q none M') : E (h + 9) mdX9_enter [.ref 21, .int (Int32.ofNat x)] M Q := by
  obtain ⟨⟨x1, x2, x3⟩, ⟨cd, ecd, cd31, c1, c2, c3⟩, -⟩ := hs
  obtain ⟨n1, -⟩ := id hB.1
  have lcd : (Θ.2.2 11 x).toNatClampNeg = cd := by rw [ecd]; exact lt32 cd31
  refine W_ent (h := h) hB hW hP hlim x3 ecd c1 (fun z => ⟨c2 z, hem cd (c2 z)⟩) c3 (hok 22 (by decide) (by decide)) (hok 23 (by decide) (by decide)) (fun M' Ψ' P1 kv zp' W' R' G' L' en ok' s' => ?_)
  have low : ∀ c z, 22 ≤ c → c ≤ 25 → P1 c z = P c z := by
    intro c z z1 z2
    rcases en with ⟨-, e, -⟩ | ⟨-, -, e0, e, -⟩ | ⟨-, -, l, -, -, e, -⟩ | ⟨-, e, -⟩
    · rw [e, up2_row (by omega), up2_row (by omega), up2_row (by omega)]
    · rw [e, up2_row (by omega)]
    · rw [e, up2_row (by omega)]
    · rw [e]
  have r26 : ∀ z, z ≠ x → P1 26 z = P 26 z := by
    intro z hz
    rcases en with ⟨-, e, -⟩ | ⟨-, -, e0, e, -⟩ | ⟨-, -, l, -, -, e, -⟩ | ⟨-, e, -⟩
    · rw [e, up2_row (by omega), up2_row (by omega), up2_row (by omega)]
    · rw [e, up2_row (by omega)]
    · rw [e, up2_ne (fun y => hz y.2)]
    · rw [e]
  have r28 : ∀ j, P1 28 j = P 28 j := by
    intro j
    rcases en with ⟨-, e, -⟩ | ⟨-, -, e0, e, -⟩ | ⟨-, -, l, -, -, e, -⟩ | ⟨-, e, -⟩
    · rw [e, up2_row (by omega), up2_row (by omega), up2_row (by omega)]
    · rw [e, up2_row (by omega)]
    · rw [e, up2_row (by omega)]
    · rw [e]
  have q22 : ∀ c z, 22 ≤ c → c ≤ 25 → enP P1 x kv c z = P c z := fun c z z1 z2 => (enP_n (by omega)).trans (low c z z1 z2)
  have nq : NwQ Θ [x] Ψ Ψ' (enP P1 x kv) := fun n n1 n2 => by
    by_cases z : EnC (Θ.2.2 5 x) Ψ n
    · refine Or.inr ⟨x, List.mem_singleton.mpr rfl, z.1, ?_⟩
      rw [enP_n (by decide)]
      rcases en with ⟨k1, -⟩ | ⟨k2, -⟩ | ⟨-, -, l, e1, -, e3, -⟩ | ⟨⟨-, -, k6, k9⟩, -⟩
      · have hk := z.1
        rw [k1] at hk; rcases hk with y | y <;> exact absurd y (by decide)
      · have hk := z.1
        rw [k2] at hk; rcases hk with y | y <;> exact absurd y (by decide)
      · rw [e3, up2_eq, e1, z.2]
      · rcases z.1 with y | y
        · exact absurd y k6
        · exact absurd y k9
    · exact Or.inl (G'.2.2.2.2 n n1 n2 z)
  refine K M' Ψ' (enP P1 x kv) zp' W' R' ⟨G'.more (fun n _ z => by have := z.2; unfold nwN; omega), nq⟩ ⟨L'.1, L'.2.1, by rw [nk_en]; exact L'.2.2⟩ ⟨⟨fun c z1 z2 => by rw [q22 c x z1 z2]; exact (hok c z1 z2).gr G', fun n hn => by rw [enP_i hn]; exact ok' n⟩, fun hk => ?_, fun w HV g => ⟨fun j hj => absurd hj (Nat.not_lt_zero _), fun _ n hn => ?_⟩⟩ ?_ (fun z hz => ⟨fun c z1 z2 => ?_, fun n hn => by rw [enP_x hn hz]; exact r28 _⟩) (fun c z1 z2 => q22 c x z1 z2) (fun hk => ?_)
  · rcases en with ⟨k1, -⟩ | ⟨k2, -⟩ | ⟨-, -, l, e1, e2, e3, e4⟩ | ⟨⟨-, -, k6, k9⟩, -⟩
    · rw [k1] at hk; rcases hk with y | y <;> exact absurd y (by decide)
    · rw [k2] at hk; rcases hk with y | y <;> exact absurd y (by decide)
    · exact ⟨l, by rw [enP_n (by decide), e3, up2_eq], e2, e4, fun z => absurd z (Nat.lt_irrefl 0)⟩
    · rcases hk with y | y
      · exact absurd y k6
      · exact absurd y k9
  · rw [enP_i hn, s' w HV g n]
    show _ = enV (Θ.2.2 5 x) (Θ.2.2 11 x).toNatClampNeg n _ _ _
    rw [lcd, q22 22 x (by decide) (by decide), q22 23 x (by decide) (by decide)]
  · -- what is emitted, the pauses
    have e17 : ∀ c j, n0 + 17 ≤ c → enP P1 x kv c j = P1 c j := fun c j hc => enP_n (by omega)
    rcases en with ⟨k1, e, ez⟩ | ⟨k2, ez, ev, e, oe, se⟩ | ⟨k6, ez, l, -, -, e, -⟩ | ⟨⟨k1, k2, -, -⟩, e, ez⟩
    · have b : ∀ j, P1 (n0 + 21) j = P (n0 + 21) j := fun j => by rw [e, up2_row (by omega), up2_row (by omega), up2_row (by omega)]
      refine ⟨fun s hs => by rw [e17 _ s (by omega), b]; exact (hem s hs).gr G', fun w HV _ s hs => ?_, fun j hj => ?_, ?_⟩
      · rw [e17 _ s (by omega), b]
        show _ = if Θ.2.2 5 x = 2 ∧ _ then _ else _
        rw [if_neg (fun y => by have := y.1; rw [k1] at this; exact absurd this (by decide))]
      · rw [e17 _ j (by omega), e17 _ j (by omega), e17 _ j (by omega)]
        have cj : (Θ.2.2 5 x = 1 ∧ Θ.2.2 11 x = Int32.ofNat j) ↔ j = cd := ⟨fun y => (inj32 cd31 (by omega) (ecd.symm.trans y.2)).symm, fun y => ⟨k1, by rw [y]; exact ecd⟩⟩
        have v22 := q22 22 x (by decide) (by decide)
        have v24 := q22 24 x (by decide) (by decide)
        have v25 := q22 25 x (by decide) (by decide)
        show _ = (if Θ.2.2 5 x = 1 ∧ Θ.2.2 11 x = Int32.ofNat j then enP P1 x kv 22 x else P (n0 + 17) j) ∧ _ = (if Θ.2.2 5 x = 1 ∧ Θ.2.2 11 x = Int32.ofNat j then enP P1 x kv 24 x else P (n0 + 18) j) ∧ _ = (if Θ.2.2 5 x = 1 ∧ Θ.2.2 11 x = Int32.ofNat j then enP P1 x kv 25 x else P (n0 + 19) j)
        rw [v22, v24, v25, e]
        by_cases y : j = cd
        · rw [if_pos (cj.mpr y), if_pos (cj.mpr y), if_pos (cj.mpr y), y]
          refine ⟨?_, ?_, ?_⟩
          · rw [up2_row (by omega), up2_row (by omega), up2_eq]
          · rw [up2_row (by omega), up2_eq]
          · rw [up2_eq]
        · rw [if_neg (fun q => y (cj.mp q)), if_neg (fun q => y (cj.mp q)), if_neg (fun q => y (cj.mp q))]
          refine ⟨?_, ?_, ?_⟩
          · rw [up2_row (by omega), up2_row (by omega), up2_ne (fun q => y q.2)]
          · rw [up2_row (by omega), up2_ne (fun q => y q.2), up2_row (by omega)]
          · rw [up2_ne (fun q => y q.2), up2_row (by omega), up2_row (by omega)]
      · show zp' = if Θ.2.2 5 x = 1 then mx12 zp (Θ.2.2 11 x).toNatClampNeg else zp
        rw [if_pos k1, lcd]; exact ez
    · refine ⟨fun s hs => ?_, fun w HV g s hs => ?_, fun j hj => ?_, ?_⟩
      · rw [e17 _ s (by omega), e]
        by_cases y : s = cd
        · rw [y, up2_eq]; exact oe
        · rw [up2_ne (fun q => y q.2)]; exact (hem s hs).gr G'
      · rw [e17 _ s (by omega), e]
        show _ = if Θ.2.2 5 x = 2 ∧ Θ.2.2 11 x = Int32.ofNat s then v3O (lV w (P (n0 + 21) s)) (lV w (enP (up2 P (n0 + 21) cd ev) x kv 22 x)) else lV w (P (n0 + 21) s)
        rw [← e, q22 22 x (by decide) (by decide)]
        by_cases y : s = cd
        · rw [e, y, up2_eq, if_pos ⟨k2, ecd⟩]; exact se w HV g
        · rw [e, up2_ne (fun q => y q.2), if_neg (fun q => y ((inj32 cd31 (by omega) (ecd.symm.trans q.2)).symm))]
      · have nk : ∀ v, ¬ (Θ.2.2 5 x = 1 ∧ v) := fun v y => by have := y.1; rw [k2] at this; exact absurd this (by decide)
        rw [e17 _ j (by omega), e17 _ j (by omega), e17 _ j (by omega), e]
        show _ = (if Θ.2.2 5 x = 1 ∧ Θ.2.2 11 x = Int32.ofNat j then _ else _) ∧ _ = (if Θ.2.2 5 x = 1 ∧ Θ.2.2 11 x = Int32.ofNat j then _ else _) ∧ _ = (if Θ.2.2 5 x = 1 ∧ Θ.2.2 11 x = Int32.ofNat j then _ else _)
        rw [if_neg (nk _), if_neg (nk _), if_neg (nk _), up2_row (by omega), up2_row (by omega), up2_row (by omega)]
        exact ⟨rfl, rfl, rfl⟩
      · show zp' = if Θ.2.2 5 x = 1 then _ else zp
        rw [if_neg (by rw [k2]; decide)]; exact ez
    · have nk1 : Θ.2.2 5 x ≠ 1 := by rcases k6 with y | y <;> rw [y] <;> decide
      have nk2 : Θ.2.2 5 x ≠ 2 := by rcases k6 with y | y <;> rw [y] <;> decide
      have b : ∀ c j, n0 + 17 ≤ c → P1 c j = P c j := fun c j hc => by rw [e, up2_row (by omega)]
      refine ⟨fun s hs => by rw [e17 _ s (by omega), b _ s (by omega)]; exact (hem s hs).gr G', fun w HV _ s hs => ?_, fun j hj => ?_, ?_⟩
      · rw [e17 _ s (by omega), b _ s (by omega)]
        show _ = if Θ.2.2 5 x = 2 ∧ _ then _ else _
        rw [if_neg (fun y => nk2 y.1)]
      · rw [e17 _ j (by omega), e17 _ j (by omega), e17 _ j (by omega), b _ j (by omega), b _ j (by omega), b _ j (by omega)]
        show _ = (if Θ.2.2 5 x = 1 ∧ Θ.2.2 11 x = Int32.ofNat j then _ else _) ∧ _ = (if Θ.2.2 5 x = 1 ∧ Θ.2.2 11 x = Int32.ofNat j then _ else _) ∧ _ = (if Θ.2.2 5 x = 1 ∧ Θ.2.2 11 x = Int32.ofNat j then _ else _)
        rw [if_neg (fun y => nk1 y.1), if_neg (fun y => nk1 y.1), if_neg (fun y => nk1 y.1)]
        exact ⟨rfl, rfl, rfl⟩
      · show zp' = if Θ.2.2 5 x = 1 then _ else zp
        rw [if_neg nk1]; exact ez
    · refine ⟨fun s hs => by rw [e17 _ s (by omega), e]; exact (hem s hs).gr G', fun w HV _ s hs => ?_, fun j hj => ?_, ?_⟩
      · rw [e17 _ s (by omega), e]
        show _ = if Θ.2.2 5 x = 2 ∧ _ then _ else _
        rw [if_neg (fun y => k2 y.1)]
      · rw [e17 _ j (by omega), e17 _ j (by omega), e17 _ j (by omega), e]
        show _ = (if Θ.2.2 5 x = 1 ∧ Θ.2.2 11 x = Int32.ofNat j then _ else _) ∧ _ = (if Θ.2.2 5 x = 1 ∧ Θ.2.2 11 x = Int32.ofNat j then _ else _) ∧ _ = (if Θ.2.2 5 x = 1 ∧ Θ.2.2 11 x = Int32.ofNat j then _ else _)
        rw [if_neg (fun y => k1 y.1), if_neg (fun y => k1 y.1), if_neg (fun y => k1 y.1)]
        exact ⟨rfl, rfl, rfl⟩
      · show zp' = if Θ.2.2 5 x = 1 then _ else zp
        rw [if_neg k1]; exact ez
  · by_cases y : c = 26
    · rw [y, enP_n (by decide)]; exact r26 z hz
    · exact q22 c z z1 (by omega)
  · rcases en with ⟨k1, -⟩ | ⟨k2, -⟩ | ⟨-, -, l, e1, e2, e3, e4⟩ | ⟨⟨-, -, k6, k9⟩, -⟩
    · rw [k1] at hk; rcases hk with y | y <;> exact absurd y (by decide)
    · rw [k2] at hk; rcases hk with y | y <;> exact absurd y (by decide)
    · exact ⟨l, Nat.le_of_eq e1.symm, e2, by rw [enP_n (by decide), e3, up2_eq]⟩
    · rcases hk with y | y
      · exact absurd y k6
      · exact absurd y k9
/-- the branches of x are joined: x is woven -/
theorem W_jn2 (hB : WvB n0 l0 r0 M0) (hW : WvP n0 l0 r0 N0 Θ M0 Ψ M) (hP : RwP n0 P zp M) (hs : ShN Θ G nb x) (hlim : Ψ.1.length + 62 * (G x).length + 30 < 99900) (hI : InQ Θ G Ψ P (G x).length (G x).length x) (hc : ∀ j, j < (G x).length → OkR Ψ P ((G x).getD j 0)) (k8 : Θ.2.2 5 x = 8) (K : ∀ M' Ψ' P', WvP n0 l0 r0 N0 Θ M0 Ψ' M' → RwP n0 P' zp M' → Gr noN Ψ Ψ' → (Ψ'.1.length ≤ Ψ.1.length + 62 * (G x).length + 22 ∧ Ψ'.2.2.length ≤ Ψ.2.2.length + (G x).length + 1) → NdQ Θ G Ψ' P' x → (∀ z, SmA P P' z) → (∀ z, z ≠ x → SmK P P' z) → (∀ c j, n0 + 17 ≤ c → c ≤ n0 + 21 → P' c j = P c j) → Q none M') : E (h + 9) mdX9_joinBranches [.ref 21, .int (Int32.ofNat x)] M Q := by
  obtain ⟨⟨x1, x2, x3⟩, -, -, hL, -⟩ := hs
  obtain ⟨n1, -⟩ := id hB.1
  obtain ⟨-, -, -, -, hRo, -⟩ := hW.sees hB
  refine W_jb (h := h) hB hW hP hlim x3 hL (hI.1.1 23 (by decide) (by decide)) hI.1.2 (fun j n hj hn => (hc j hj).2 n hn) (fun M' Ψ' P1 kv W' R' q1 G' L' ok' s' => ?_)
  obtain ⟨-, -, -, -, hRo', -⟩ := W'.sees hB
  have sA : ∀ z, SmA P (enP P1 x kv) z := fun z c z1 z2 => by rw [enP_n (by omega)]; exact q1 c z (by omega)
  have sK : ∀ z, z ≠ x → SmK P (enP P1 x kv) z := fun z hz n hn => by rw [enP_x hn hz]; exact q1 _ _ (by decide)
  have hcx : ∀ j, j < (G x).length → (G x).getD j 0 ≠ x := fun j hj => (hL.2.2.1 j hj).2.2
  refine K M' Ψ' (enP P1 x kv) W' R' G' L' ⟨⟨⟨fun c z1 z2 => by rw [sA x c z1 (by omega)]; exact (hI.1.1 c z1 z2).gr G', fun n hn => by rw [enP_i hn]; exact ok' n hn⟩, fun y => ?_, fun w HV g => ⟨fun j hj => ?_, fun y => absurd k8 y⟩⟩, fun _ w HV g n hn => ?_⟩ sA sK (fun c j z1 z2 => by rw [enP_n (by omega)]; exact q1 c j (by omega))
  · rw [k8] at y; rcases y with y | y <;> exact absurd y (by decide)
  · exact ArN_st (sA x) (sA _).b (fun k hk => sK _ (hcx k (by omega))) (((hI.2.2 w HV (g.bk G' hRo hRo' (fun _ _ y => y.elim))).1) j hj)
  · rw [enP_i hn, s' w HV g n hn]
    exact (jbV_st hn (sA x) (fun j hj => sK _ (hcx j hj))).symm
end
end
section
/-! the weaver's walk: from child to child -/
/-- x's open net -/
def CxP (Θ : TrT) (P : Nat → Nat → Int32) (x n : Nat) : Prop := (Θ.2.2 5 x = 6 ∨ Θ.2.2 5 x = 9) ∧ P 26 x = Int32.ofNat (2 * n)
section
variable {n0 l0 r0 N0 nb : Nat} {Θ : TrT} {G : Nat → List Nat} {M0 M M' : Mem} {Ψ Ψ' : Wg} {h : Nat} {Q : Option Value → Mem → Prop} {P : Nat → Nat → Int32} {zp : Int32} {x i ar : Nat}
/-- x's open net has its role -/
theorem InQ.cx (hI : InQ Θ G Ψ P i ar x) (hl : Ψ.1.length < 100000) : ∀ n, n < Ψ.1.length → CxP Θ P x n → ((Ψ.2.1.getD n (0, 0)).1 ≠ 0 ∧ (Ψ.2.1.getD n (0, 0)).1 ≠ 6) ∧ (Ψ.2.1.getD n (0, 0)).2 = x := by
  rintro n hn ⟨k, e⟩
  obtain ⟨l, q1, q2, ⟨q3, q4, q5⟩, -⟩ := hI.2.1 k
  have en : n = l := by
    have := inj32 (a := 2 * n) (b := 2 * l) (by omega) (by omega) (e.symm.trans q1)
    omega
  rw [show 2 * l / 2 = l by omega] at q5
  rw [en, q5]
  refine ⟨?_, rfl⟩
  show (if Θ.2.2 5 x = 6 then 7 else 8) ≠ 0 ∧ (if Θ.2.2 5 x = 6 then 7 else 8) ≠ 6
  by_cases y : Θ.2.2 5 x = 6
  · rw [if_pos y]; decide
  · rw [if_neg y]; decide
theorem ShN.cd (hs : ShN Θ G nb x) (hn : nb ≤ Ψ.1.length) (hk : Θ.2.2 5 x = 4 ∨ Θ.2.2 5 x = 7) : okI Ψ (Θ.2.2 10 x) := by
  obtain ⟨l, e, hl⟩ := hs.2.2.1 hk
  exact ⟨l, e, by omega⟩
theorem W_lv2 (hB : WvB n0 l0 r0 M0) (hW : WvP n0 l0 r0 N0 Θ M0 Ψ M) (hP : RwP n0 P zp M) (hs : ShN Θ G nb x) (hnb : nb ≤ Ψ.1.length) (hlim : Ψ.1.length < 99890) (hi : i < (G x).length) (hI : InQ Θ G Ψ P i (i + 1) x) (hc : OkR Ψ P ((G x).getD i 0)) (K : ∀ M' Ψ' P', WvP n0 l0 r0 N0 Θ M0 Ψ' M' → RwP n0 P' zp M' → Gr (CxP Θ P x) Ψ Ψ' → (Ψ'.1.length ≤ Ψ.1.length + 24 ∧ Ψ'.2.2.length ≤ Ψ.2.2.length + lH (Θ.2.2 5 x) ∧ Ψ'.1.length + nk P' x ≤ Ψ.1.length + nk P x + nk P ((G x).getD i 0) + lW (Θ.2.2 5 x)) → InQ Θ G Ψ' P' (i + 1) (i + 1) x → (∀ z, SmA P P' z) → (∀ z, z ≠ x → SmK P P' z) → (∀ c j, n0 + 17 ≤ c → c ≤ n0 + 21 → P' c j = P c j) → Q none M') : E (h + 9) mdX9_leave [.ref 21, .int (Int32.ofNat ((G x).getD i 0))] M Q := by
  obtain ⟨⟨x1, x2, x3⟩, -, -, hL, hp, hk, h1⟩ := id hs
  obtain ⟨n1, -⟩ := id hB.1
  obtain ⟨-, -, -, -, hRo, -⟩ := hW.sees hB
  obtain ⟨c1, c2, c3⟩ := hL.2.2.1 i hi
  have hpi := hp i hi
  have ne : G x ≠ [] := fun e => by rw [e] at hi; exact absurd hi (Nat.not_lt_zero _)
  have kk := hk ne
  obtain ⟨⟨o1, o2⟩, op, sq⟩ := id hI
  by_cases k8 : Θ.2.2 5 x = 8
  · refine W_lv0 (h := h) hB hW c2 x3 hpi (by rw [k8]; decide) ?_
    refine K M Ψ P hW hP Gr.rf ⟨Nat.le_add_right _ _, Nat.le_add_right _ _, by omega⟩ ⟨⟨o1, o2⟩, fun y => ?_, fun w HV g => ⟨(sq w HV g).1, fun y => absurd k8 y⟩⟩ (fun _ _ _ _ => rfl) (fun _ _ _ _ => rfl) (fun _ _ _ _ => rfl)
    rw [k8] at y
    rcases y with y | y <;> exact absurd y (by decide)
  have kk : Θ.2.2 5 x = 4 ∨ Θ.2.2 5 x = 5 ∨ Θ.2.2 5 x = 6 ∨ Θ.2.2 5 x = 7 ∨ Θ.2.2 5 x = 9 := by
    rcases kk with y | y | y | y | y | y
    · exact Or.inl y
    · exact Or.inr (Or.inl y)
    · exact Or.inr (Or.inr (Or.inl y))
    · exact Or.inr (Or.inr (Or.inr (Or.inl y)))
    · exact absurd y k8
    · exact Or.inr (Or.inr (Or.inr (Or.inr y)))
  obtain ⟨l, hl⟩ : ∃ l, Θ.2.2 5 x = 6 ∨ Θ.2.2 5 x = 9 → P 26 x = Int32.ofNat (2 * l) ∧ l < Ψ.1.length ∧ rlC Ψ.2.1 (2 * l) (if Θ.2.2 5 x = 6 then 7 else 8) x := by
    by_cases y : Θ.2.2 5 x = 6 ∨ Θ.2.2 5 x = 9
    · obtain ⟨l, q1, q2, q3, -⟩ := op y
      exact ⟨l, fun _ => ⟨q1, q2, q3⟩⟩
    · exact ⟨0, fun z => absurd z y⟩
  have rl : Θ.2.2 5 x = 6 ∨ Θ.2.2 5 x = 9 → (Ψ.2.1.getD l (0, 0)).1 ≠ 0 ∧ (Ψ.2.1.getD l (0, 0)).1 ≠ 6 := fun y => by
    obtain ⟨q1, q2, -⟩ := hl y
    exact (hI.cx (by omega) l q2 ⟨y, q1⟩).1
  refine W_lv (h := h) (l := l) hB hW hP hlim x3 c2 c3 hpi kk o2 hc.2 (o1 22 (by decide) (by decide)) (o1 23 (by decide) (by decide)) (o1 25 (by decide) (by decide)) (fun y => hs.cd hnb (Or.inr y)) (fun y => ⟨(hl y).1, (hl y).2.1, rl y⟩) (fun M' Ψ' kv W' R' G' L' ok' cl' s' => ?_)
  obtain ⟨-, -, -, -, hRo', -⟩ := W'.sees hB
  have sA : ∀ z, SmA P (enP P x kv) z := fun z c z1 z2 => enP_n (by omega)
  have sK : ∀ z, z ≠ x → SmK P (enP P x kv) z := fun z hz n hn => enP_x hn hz
  have hcx : ∀ j, j < (G x).length → (G x).getD j 0 ≠ x := fun j hj => (hL.2.2.1 j hj).2.2
  have hC0 : ∀ n, n < Ψ.1.length → LvC (Θ.2.2 5 x) l n → (Ψ.2.1.getD n (0, 0)).1 ≠ 0 := fun n _ y => by rw [y.2]; exact (rl y.1).1
  refine K M' Ψ' (enP P x kv) W' R' (G'.more (fun n _ y => ⟨y.1, by rw [y.2]; exact (hl y.1).1⟩)) ⟨L'.1, L'.2.1, by rw [nk_en]; exact L'.2.2⟩ ⟨⟨fun c z1 z2 => by rw [sA x c z1 (by omega)]; exact (o1 c z1 z2).gr G', fun n hn => by rw [enP_i hn]; exact ok' n hn⟩, fun y => ?_, fun w HV g => ?_⟩ sA sK (fun c j z1 z2 => enP_n (by omega))
  · obtain ⟨q1, q2, q3, q4, q5⟩ := hl y
    have i0 : i = 0 := by have := h1 y; omega
    refine ⟨l, by rw [sA x 26 (by decide) (by decide)]; exact q1, by have := G'.1; omega, ⟨q3, by rw [hRo'.1]; have := G'.1; omega, by rw [show 2 * l / 2 = l by omega] at q5 ⊢; rw [G'.2.2.1 l q2]; exact q5⟩, fun _ => ?_⟩
    rw [clF_st (sA x) (sK _ (hcx 0 (by omega)))]
    have := cl' y
    rw [i0] at this
    exact this
  · have gb := g.bk G' hRo hRo' hC0
    obtain ⟨t1, t2⟩ := sq w HV gb
    refine ⟨fun j hj => ArN_st (sA x) (sA _).b (fun k hk => sK _ (hcx k (by omega))) (t1 j hj), fun _ n hn => ?_⟩
    rw [enP_i hn, s' w HV g n hn, acN_st (i := i + 1) (sA x) (fun j hj => sK _ (hcx j (by omega))) n hn]
    show _ = if Θ.2.2 5 x = 8 then _ else lvV _ n _ _ _ _ _
    rw [if_neg k8]
    exact lvV_cg (fun m hm => t2 k8 m hm) (fun m hm => rfl) n hn
theorem W_ar2 (hB : WvB n0 l0 r0 M0) (hW : WvP n0 l0 r0 N0 Θ M0 Ψ M) (hP : RwP n0 P zp M) (hs : ShN Θ G nb x) (hnb : nb ≤ Ψ.1.length) (hlim : Ψ.1.length < 99890) (hi : i < (G x).length) (hI : InQ Θ G Ψ P i i x) (K : ∀ M' Ψ' P', WvP n0 l0 r0 N0 Θ M0 Ψ' M' → RwP n0 P' zp M' → Gr noN Ψ Ψ' → (Ψ'.1.length ≤ Ψ.1.length + 5 ∧ Ψ'.1.length ≤ Ψ.1.length + aW (Θ.2.2 5 x) ∧ Ψ'.2.2.length ≤ Ψ.2.2.length + aH (Θ.2.2 5 x)) → InQ Θ G Ψ' P' i (i + 1) x → (∀ c, 22 ≤ c → c ≤ 25 → okI Ψ' (P' c ((G x).getD i 0))) → (∀ z, z ≠ (G x).getD i 0 → SmA P P' z) → (∀ z, SmK P P' z) → P' 26 ((G x).getD i 0) = P 26 ((G x).getD i 0) → (∀ c j, n0 + 17 ≤ c → c ≤ n0 + 21 → P' c j = P c j) → Q none M') : E (h + 9) mdX9_arrive [.ref 21, .int (Int32.ofNat ((G x).getD i 0))] M Q := by
  obtain ⟨⟨x1, x2, x3⟩, -, -, hL, hp, hk, h1⟩ := id hs
  obtain ⟨n1, -⟩ := id hB.1
  obtain ⟨-, -, -, -, hRo, -⟩ := hW.sees hB
  obtain ⟨c1, c2, c3⟩ := hL.2.2.1 i hi
  have hpi := hp i hi
  obtain ⟨⟨o1, o2⟩, op, sq⟩ := id hI
  have h5 : Θ.2.2 5 x = 5 → okI Ψ (P 28 (x * 20)) := fun _ => o2 0 (by decide)
  refine W_arr (h := h) hB hW hP (by omega) c2 x3 c3 hpi (o1 22 (by decide) (by decide)) (o1 23 (by decide) (by decide)) (o1 24 (by decide) (by decide)) (o1 25 (by decide) (by decide)) (fun y => hs.cd hnb y) h5 (fun y => ?_) (fun M' Ψ' g r s k W' R' G' L' ok' s' => ?_)
  · obtain ⟨l, q1, q2, -⟩ := op y
    exact ⟨2 * l, q1, by omega⟩
  obtain ⟨-, -, -, -, hRo', -⟩ := W'.sees hB
  obtain ⟨c, ec⟩ : ∃ c, c = (G x).getD i 0 := ⟨_, rfl⟩
  rw [← ec] at c1 c2 c3 R' s' K
  have sA : ∀ z, z ≠ c → SmA P (up4 P c g r s k) z := fun z hz c' _ _ => by unfold up4; rw [if_neg hz]
  have qn : ∀ c' j, 26 ≤ c' → up4 P c g r s k c' j = P c' j := fun c' j hc => by
    unfold up4
    by_cases hj : j = c
    · rw [if_pos hj, if_neg (by omega), if_neg (by omega), if_neg (by omega), if_neg (by omega)]
    · rw [if_neg hj]
  have sK : ∀ z, SmK P (up4 P c g r s k) z := fun z n _ => qn 28 _ (by decide)
  have nj : ∀ j, j < i → (G x).getD j 0 ≠ c := fun j hj e => by
    have := hL.2.2.2.1 j i (by omega) hi (e.trans ec)
    omega
  have hI' : InQ Θ G Ψ' (up4 P c g r s k) i i x := hI.st (sA x (fun e => c3 e.symm)) (sK x) (fun j hj => (sA _ (nj j hj)).b) (fun j _ => sK _) (Nat.le_succ _) G' hRo hRo' (fun _ _ y => y.elim) (fun _ _ y => y.elim)
  have q4 : up4 P c g r s k 22 c = g ∧ up4 P c g r s k 23 c = r ∧ up4 P c g r s k 24 c = s ∧ up4 P c g r s k 25 c = k := by unfold up4; simp
  refine K M' Ψ' (up4 P c g r s k) W' R' G' L' ⟨hI'.1, hI'.2.1, fun w HV gw => ⟨fun j hj => ?_, (hI'.2.2 w HV gw).2⟩⟩ (fun c' z1 z2 => ?_) sA sK (qn 26 c (by decide)) (fun c' j z1 z2 => qn c' j (by omega))
  · by_cases z : j = i
    · obtain ⟨t1, t2, t3, t4⟩ := s' w HV gw
      rw [z]
      unfold ArN
      rw [← ec, sA x (fun e => c3 e.symm) 22 (by decide) (by decide), sA x (fun e => c3 e.symm) 23 (by decide) (by decide), sA x (fun e => c3 e.symm) 24 (by decide) (by decide), sA x (fun e => c3 e.symm) 25 (by decide) (by decide), sA x (fun e => c3 e.symm) 26 (by decide) (by decide)]
      refine ⟨?_, t2, t3, t4⟩
      rw [t1]
      have df : decide (Θ.2.2 6 x = Int32.ofNat c) = decide (i = 0) := by
        by_cases y : i = 0
        · rw [decide_eq_true y, decide_eq_true]
          rw [hL.1, ec, y]
        · rw [decide_eq_false y, decide_eq_false]
          intro e
          rw [hL.1, ec] at e
          have hb0 := (hL.2.2.1 0 (by omega)).2.1
          have := inj32 (by omega) (by rw [← ec]; omega) e
          have := hL.2.2.2.1 0 i (by omega) hi this
          omega
      rw [df]
      by_cases k8 : Θ.2.2 5 x = 8
      · unfold arG
        rw [if_neg (by rw [k8]; decide), if_neg (by rw [k8]; decide), if_neg (by rw [k8]; decide), if_neg (by rw [k8]; decide), if_neg (by rw [k8]; decide)]
      · have e0 := (hI'.2.2 w HV gw).2 k8 0 (by decide)
        rw [qn 28 _ (by decide), Nat.add_zero] at e0
        rw [e0]
    · exact (hI'.2.2 w HV gw).1 j (by omega)
  · have : c' = 22 ∨ c' = 23 ∨ c' = 24 ∨ c' = 25 := by omega
    rcases this with e | e | e | e
    · rw [e, q4.1]; exact ok'.1
    · rw [e, q4.2.1]; exact ok'.2.1
    · rw [e, q4.2.2.1]; exact ok'.2.2.1
    · rw [e, q4.2.2.2]; exact ok'.2.2.2
end
end
section
/-! the weaver's walk: children one after the other -/
section
variable {G : Nat → List Nat}
theorem noL_ch : ∀ (g x z c : Nat), FtN G g x → z ∈ noL G g x → c ∈ G z → c ∈ noL G g x
  | 0, _, _, _, h, _, _ => False.elim h
  | g + 1, x, z, c, h, hz, hc => by
    rcases List.mem_cons.mp hz with e | e
    · rw [e] at hc
      refine List.mem_cons_of_mem _ (List.mem_flatMap.mpr ⟨c, hc, ?_⟩)
      have fc := h c hc
      cases g with
      | zero => exact False.elim fc
      | succ g => exact List.mem_cons_self
    · obtain ⟨d, d1, d2⟩ := List.mem_flatMap.mp e
      exact List.mem_cons_of_mem _ (List.mem_flatMap.mpr ⟨d, d1, noL_ch g d z c (h d d1) d2 hc⟩)
theorem noL_hd {g x : Nat} (h : FtN G g x) : x ∈ noL G g x := by
  cases g with
  | zero => exact False.elim h
  | succ g => exact List.mem_cons_self
theorem gd_el {l : List Nat} {i : Nat} (hi : i < l.length) : l.getD i 0 = l[i] := by rw [List.getD_eq_getElem?_getD, List.getElem?_eq_getElem hi]; rfl
theorem gd_in {l : List Nat} {i : Nat} (hi : i < l.length) : l.getD i 0 ∈ l := by rw [gd_el hi]; exact List.getElem_mem hi
theorem fl_step {l : List Nat} {f : Nat → List Nat} {i : Nat} (hn : (l.flatMap f).Nodup) (hi : i < l.length) : l.take (i + 1) = l.take i ++ [l.getD i 0] ∧ (f (l.getD i 0)).Nodup ∧ (∀ z, z ∈ (l.take i).flatMap f → z ∉ f (l.getD i 0)) := by
  have e1 : l.take (i + 1) = l.take i ++ [l.getD i 0] := by
    rw [List.take_succ, List.getElem?_eq_getElem hi, gd_el hi]; rfl
  have e2 : l = l.take (i + 1) ++ l.drop (i + 1) := (List.take_append_drop _ _).symm
  have h2 : ((l.take i).flatMap f ++ f (l.getD i 0)).Nodup := by
    have e3 : (l.take (i + 1)).flatMap f = (l.take i).flatMap f ++ f (l.getD i 0) := by
      rw [e1, List.flatMap_append]
      simp
    rw [← e3]
    rw [e2, List.flatMap_append] at hn
    exact (List.nodup_append.mp hn).1
  obtain ⟨-, q2, q3⟩ := List.nodup_append.mp h2
  exact ⟨e1, q2, fun z z1 z2 => q3 z z1 z z2 rfl⟩
theorem fl_sub {l : List Nat} {f : Nat → List Nat} {i z : Nat} (h : z ∈ (l.take i).flatMap f) : z ∈ l.flatMap f := by
  obtain ⟨d, d1, d2⟩ := List.mem_flatMap.mp h
  exact List.mem_flatMap.mpr ⟨d, List.mem_of_mem_take d1, d2⟩
theorem fl_ch {g x i z c : Nat} (h : FtN G (g + 1) x) (hz : z ∈ ((G x).take i).flatMap (noL G g)) (hc : c ∈ G z) : c ∈ ((G x).take i).flatMap (noL G g) := by
  obtain ⟨d, d1, d2⟩ := List.mem_flatMap.mp hz
  exact List.mem_flatMap.mpr ⟨d, d1, noL_ch g d z c (h d (List.mem_of_mem_take d1)) d2 hc⟩
end
/-- a sum over a list -/
def smL (f : Nat → Nat) : List Nat → Nat
  | [] => 0
  | a :: t => f a + smL f t
theorem smL_ap {f : Nat → Nat} : ∀ (l m : List Nat), smL f (l ++ m) = smL f l + smL f m
  | [], m => (Nat.zero_add _).symm
  | a :: t, m => by show f a + smL f (t ++ m) = f a + smL f t + smL f m; rw [smL_ap t m, Nat.add_assoc]
section
variable (Θ : TrT) (G : Nat → List Nat) (n0 : Nat)
/-- nets and held masks that joining the branches of z makes; that z makes, with all that is made for its children -/
def jW (z : Nat) : Nat := if Θ.2.2 5 z = 8 then 62 * (G z).length + 42 else 0
def jH (z : Nat) : Nat := if Θ.2.2 5 z = 8 then (G z).length + 1 else 0
def oW (z : Nat) : Nat := eW (Θ.2.2 5 z) + (G z).length * (aW (Θ.2.2 5 z) + lW (Θ.2.2 5 z)) + jW Θ G z
def oH (z : Nat) : Nat := eH (Θ.2.2 5 z) + (G z).length * (aH (Θ.2.2 5 z) + lH (Θ.2.2 5 z)) + jH Θ G z
/-- x and all below it have been woven, but x's branches are not yet joined -/
def WkQ (g x : Nat) (Ψ : Wg) (P : Nat → Nat → Int32) (zp : Int32) (Ψ' : Wg) (P' : Nat → Nat → Int32) (zp' : Int32) : Prop := (Gr (nwN Ψ) Ψ Ψ' ∧ NwQ Θ (noL G g x) Ψ Ψ' P') ∧ (Ψ'.1.length + 62 * (G x).length + 113 ≤ Ψ.1.length + 115 * (noL G g x).length ∧ Ψ'.1.length + nk P' x + jW Θ G x ≤ Ψ.1.length + smL (oW Θ G) (noL G g x) ∧ Ψ'.2.2.length + jH Θ G x ≤ Ψ.2.2.length + smL (oH Θ G) (noL G g x)) ∧ InQ Θ G Ψ' P' (G x).length (G x).length x ∧ (∀ z, z ∈ noL G g x → z ≠ x → NdQ Θ G Ψ' P' z) ∧ (∀ z, z ∉ noL G g x → SmA P P' z ∧ SmK P P' z) ∧ SmB P P' x ∧ ExR Θ n0 Ψ' (noL G g x) P P' zp zp'
/-- the first i children of x have been woven and left, ar have been come to -/
def LpQ (g x : Nat) (Ψ : Wg) (P : Nat → Nat → Int32) (zp : Int32) (i ar : Nat) (Ψ1 : Wg) (P1 : Nat → Nat → Int32) (z1 : Int32) : Prop := (Gr (nwN Ψ) Ψ Ψ1 ∧ NwQ Θ (x :: ((G x).take i).flatMap (noL G g)) Ψ Ψ1 P1) ∧ InQ Θ G Ψ1 P1 i ar x ∧ (∀ z, z ∈ ((G x).take i).flatMap (noL G g) → NdQ Θ G Ψ1 P1 z) ∧ (∀ z, z ∉ noL G (g + 1) x → SmA P P1 z ∧ SmK P P1 z) ∧ SmB P P1 x ∧ (Θ.2.2 5 x = 6 ∨ Θ.2.2 5 x = 9 → ∃ l, Ψ.1.length ≤ l ∧ l < Ψ1.1.length ∧ P1 26 x = Int32.ofNat (2 * l)) ∧ ExR Θ n0 Ψ1 (x :: ((G x).take i).flatMap (noL G g)) P P1 zp z1
/-- branches of c are joined, where there are such -/
def JnQ (c : Nat) (Ψ2 : Wg) (P2 : Nat → Nat → Int32) (Ψ3 : Wg) (P3 : Nat → Nat → Int32) : Prop := Gr noN Ψ2 Ψ3 ∧ NdQ Θ G Ψ3 P3 c ∧ (∀ z, SmA P2 P3 z) ∧ (∀ z, z ≠ c → SmK P2 P3 z) ∧ (∀ q j, n0 + 17 ≤ q → q ≤ n0 + 21 → P3 q j = P2 q j)
end
section
variable {Θ : TrT} {G : Nat → List Nat} {n0 nb g x i : Nat} {Ψ Ψ1 Ψ2 Ψ3 Ψ4 : Wg} {P P1 P2 P3 P4 : Nat → Nat → Int32} {zp z1 z2 : Int32}
theorem SmA.tr {z : Nat} (h : SmA P P1 z) (k : SmA P1 P2 z) : SmA P P2 z := fun c c1 c2 => (k c c1 c2).trans (h c c1 c2)
theorem SmB.tr {z : Nat} (h : SmB P P1 z) (k : SmB P1 P2 z) : SmB P P2 z := fun c c1 c2 => (k c c1 c2).trans (h c c1 c2)
theorem SmK.tr {z : Nat} (h : SmK P P1 z) (k : SmK P1 P2 z) : SmK P P2 z := fun n hn => (k n hn).trans (h n hn)
/-- the tree around x -/
def TrX (G : Nat → List Nat) (g x : Nat) : Prop := FtN G (g + 1) x ∧ (noL G (g + 1) x).Nodup ∧ ∀ z y y', z ∈ G y → z ∈ G y' → y = y'
theorem TrX.at (ht : TrX G g x) (hi : i < (G x).length) : FtN G g ((G x).getD i 0) ∧ (noL G g ((G x).getD i 0)).Nodup ∧ (∀ z, z ∈ ((G x).take i).flatMap (noL G g) → z ∉ noL G g ((G x).getD i 0)) ∧ (∀ z, z ∈ noL G g ((G x).getD i 0) → z ∈ noL G (g + 1) x) ∧ x ∉ noL G g ((G x).getD i 0) ∧ x ∉ ((G x).take i).flatMap (noL G g) ∧ (G x).take (i + 1) = (G x).take i ++ [(G x).getD i 0] := by
  obtain ⟨h1, h2, h3⟩ := ht
  obtain ⟨n1, n2⟩ := List.nodup_cons.mp h2
  obtain ⟨e1, e2, e3⟩ := fl_step n2 hi
  have hm := gd_in hi
  have sub : ∀ z, z ∈ noL G g ((G x).getD i 0) → z ∈ (G x).flatMap (noL G g) := fun z hz => List.mem_flatMap.mpr ⟨_, hm, hz⟩
  exact ⟨h1 _ hm, e2, e3, fun z hz => List.mem_cons_of_mem _ (sub z hz), fun y => n1 (sub x y), fun y => n1 (fl_sub y), e1⟩
/-- while child i is walked and joined, what is known of x stays -/
theorem LpQ.mid (ht : TrX G g x) (hi : i < (G x).length) (h : LpQ Θ G n0 g x Ψ P zp i (i + 1) Ψ1 P1 z1) (k : WkQ Θ G n0 g ((G x).getD i 0) Ψ1 P1 z1 Ψ2 P2 z2) (j : JnQ Θ G n0 ((G x).getD i 0) Ψ2 P2 Ψ3 P3) (hR1 : RoW Ψ1) (hR2 : RoW Ψ2) (hR3 : RoW Ψ3) : InQ Θ G Ψ3 P3 i (i + 1) x := by
  obtain ⟨t1, t2, t3, t4, t5, t6, t7⟩ := ht.at hi
  obtain ⟨-, hI, -⟩ := h
  obtain ⟨⟨k1, -⟩, -, -, -, k5, k6, -⟩ := k
  obtain ⟨j1, -, j3, j4, -⟩ := j
  have xc : x ≠ (G x).getD i 0 := fun e => t5 (by rw [← e] at t1; rw [← e]; exact noL_hd t1)
  have cj : ∀ q, q < i → (G x).getD q 0 ∈ ((G x).take i).flatMap (noL G g) := fun q hq => by
    refine List.mem_flatMap.mpr ⟨(G x).getD q 0, ?_, noL_hd (ht.1 _ (gd_in (by omega)))⟩
    rw [gd_el (by omega)]
    exact List.mem_take_iff_getElem.mpr ⟨q, by omega, rfl⟩
  have i2 : InQ Θ G Ψ2 P2 i (i + 1) x := hI.st (k5 x t5).1 (k5 x t5).2 (fun q hq => by
    by_cases e : q = i
    · rw [e]; exact k6
    · exact (k5 _ (t3 _ (cj q (by omega)))).1.b) (fun q hq => (k5 _ (t3 _ (cj q hq))).2) (Nat.le_refl _) k1 hR1 hR2 (fun _ hn y => absurd hn (Nat.not_lt.mpr y)) (fun _ hn y => absurd hn (Nat.not_lt.mpr y))
  refine i2.st (j3 x) (j4 x xc) (fun q _ => (j3 _).b) (fun q hq => j4 _ (fun e => ?_)) (Nat.le_refl _) j1 hR2 hR3 (fun _ _ y => y.elim) (fun _ _ y => y.elim)
  have := t3 _ (cj q hq)
  rw [e] at this
  exact this (noL_hd t1)
/-- child i has been left -/
theorem LpQ.lv (ht : TrX G g x) (hi : i < (G x).length) (h : LpQ Θ G n0 g x Ψ P zp i (i + 1) Ψ1 P1 z1) (k : WkQ Θ G n0 g ((G x).getD i 0) Ψ1 P1 z1 Ψ2 P2 z2) (j : JnQ Θ G n0 ((G x).getD i 0) Ψ2 P2 Ψ3 P3) (hR1 : RoW Ψ1) (hR2 : RoW Ψ2) (hR3 : RoW Ψ3) (hR4 : RoW Ψ4) (hl3 : Ψ3.1.length < 100000) (hl4 : Ψ4.1.length < 200000) (g4 : Gr (CxP Θ P3 x) Ψ3 Ψ4) (i4 : InQ Θ G Ψ4 P4 (i + 1) (i + 1) x) (a4 : ∀ z, SmA P3 P4 z) (s4 : ∀ z, z ≠ x → SmK P3 P4 z) (e4 : ∀ q j, n0 + 17 ≤ q → q ≤ n0 + 21 → P4 q j = P3 q j) : LpQ Θ G n0 g x Ψ P zp (i + 1) (i + 1) Ψ4 P4 z2 := by
  have i3 := h.mid ht hi k j hR1 hR2 hR3
  obtain ⟨t1, t2, t3, t4, t5, t6, t7⟩ := ht.at hi
  obtain ⟨⟨h1, h1n⟩, hI, h3, h4, h5, h6, h7⟩ := h
  obtain ⟨⟨k1, k1n⟩, -, -, k4, k5, k6, k7⟩ := k
  obtain ⟨j1, j2, j3, j4, j5⟩ := j
  have cx := i3.cx hl3
  have hC0 : ∀ n, n < Ψ3.1.length → CxP Θ P3 x n → (Ψ3.2.1.getD n (0, 0)).1 ≠ 0 := fun n hn y => (cx n hn y).1.1
  have hCz : ∀ z, z ≠ x → ∀ n, n < Ψ3.1.length → CxP Θ P3 x n → (Ψ3.2.1.getD n (0, 0)).2 ≠ z := fun z hz n hn y e => hz (e.symm.trans (cx n hn y).2)
  have xc : x ≠ (G x).getD i 0 := fun e => t5 (by rw [← e] at t1; rw [← e]; exact noL_hd t1)
  have x26 : P3 26 x = P1 26 x := (j3 x 26 (by decide) (by decide)).trans ((k5 x t5).1 26 (by decide) (by decide))
  have fl : ((G x).take (i + 1)).flatMap (noL G g) = ((G x).take i).flatMap (noL G g) ++ noL G g ((G x).getD i 0) := by rw [t7, List.flatMap_append]; simp
  -- what lies in the first i children's trees
  have old : ∀ z, z ∈ ((G x).take i).flatMap (noL G g) → SmA P1 P3 z ∧ SmK P1 P3 z ∧ z ≠ x ∧ SmA P1 P4 z ∧ SmK P1 P4 z := fun z hz => by
    have q := k5 z (t3 z hz)
    have nc : z ≠ (G x).getD i 0 := fun e => t3 z hz (by rw [e]; exact noL_hd t1)
    have nx : z ≠ x := fun e => t6 (by rw [e] at hz; exact hz)
    have a := q.1.tr (j3 z)
    have b := q.2.tr (j4 z nc)
    exact ⟨a, b, nx, a.tr (a4 z), b.tr (s4 z nx)⟩
  have g13 : Gr (nwN Ψ1) Ψ1 Ψ3 := k1.tr j1 (fun _ _ y => y.elim)
  have nC4 : ∀ n, Ψ3.1.length ≤ n → n < Ψ4.1.length → ¬ CxP Θ P3 x n := fun n n1 n2 y => by
    obtain ⟨l, l1, l2, l3⟩ := h6 y.1
    have e : P1 26 x = Int32.ofNat (2 * n) := by rw [← x26]; exact y.2
    have g13l := g13.1
    have := inj32 (a := 2 * n) (b := 2 * l) (by omega) (by omega) (e.symm.trans l3)
    omega
  refine ⟨⟨?_, ?_⟩, i4, fun z hz => ?_, fun z hz => ?_, ?_, fun hk => ?_, ?_⟩
  · have h1l := h1.1
    have g13l := g13.1
    refine (h1.tr g13 (fun n _ y => by unfold nwN at y ⊢; omega)).tr g4 (fun n hn y => ?_)
    unfold nwN
    rcases hn with hn | hn
    rotate_left
    · omega
    exfalso
    obtain ⟨l, l1, l2, l3⟩ := h6 y.1
    have e : P1 26 x = Int32.ofNat (2 * n) := by rw [← x26]; exact y.2
    have := inj32 (a := 2 * n) (b := 2 * l) (by omega) (by omega) (e.symm.trans l3)
    omega
  · have q1 := (h1n.tr k1n k1 (fun z hz => ?_)).tr (NwQ.nil (P1 := P3) j1 (fun _ _ _ y => y.elim)) j1 (fun z _ => j3 z 26 (by decide) (by decide))
    · have q2 := q1.tr (NwQ.nil (P1 := P4) g4 nC4) g4 (fun z _ => a4 z 26 (by decide) (by decide))
      rw [List.append_nil, List.append_nil] at q2
      rw [fl]
      exact q2
    · rcases List.mem_cons.mp hz with y | y
      · rw [y]; exact (k5 x t5).1 26 (by decide) (by decide)
      · exact (k5 z (t3 z y)).1 26 (by decide) (by decide)
  · rw [fl] at hz
    rcases List.mem_append.mp hz with y | y
    · have q := old z y
      have n3 : NdQ Θ G Ψ3 P3 z := (h3 z y).st q.1 q.2.1 (fun c hc => (old _ (fl_ch ht.1 y (gd_in hc))).1.b) (fun c hc => (old _ (fl_ch ht.1 y (gd_in hc))).2.1) g13 hR1 hR3 (fun _ hn y => absurd hn (Nat.not_lt.mpr y)) (fun _ hn y => absurd hn (Nat.not_lt.mpr y))
      exact n3.st (a4 z) (s4 z q.2.2.1) (fun c _ => (a4 _).b) (fun c hc => s4 _ (old _ (fl_ch ht.1 y (gd_in hc))).2.2.1) g4 hR3 hR4 hC0 (hCz z q.2.2.1)
    · have zx : z ≠ x := fun e => t5 (by rw [e] at y; exact y)
      have chx : ∀ c, c < (G z).length → (G z).getD c 0 ≠ x := fun c hc e => t5 (by have m := noL_ch g _ z _ t1 y (gd_in hc); rw [e] at m; exact m)
      have n3 : NdQ Θ G Ψ3 P3 z := by
        by_cases e : z = (G x).getD i 0
        · rw [e]; exact j2
        · refine (k4 z y e).st (j3 z) (j4 z e) (fun c _ => (j3 _).b) (fun c hc => j4 _ (fun e2 => ?_)) j1 hR2 hR3 (fun _ _ y => y.elim) (fun _ _ y => y.elim)
          have m1 : (G x).getD i 0 ∈ G z := by rw [← e2]; exact gd_in hc
          exact zx (ht.2.2 _ z x m1 (gd_in hi))
      exact n3.st (a4 z) (s4 z zx) (fun c _ => (a4 _).b) (fun c hc => s4 _ (chx c hc)) g4 hR3 hR4 hC0 (hCz z zx)
  · have q := h4 z hz
    have nc : z ∉ noL G g ((G x).getD i 0) := fun y => hz (t4 z y)
    have r := k5 z nc
    have ne : z ≠ (G x).getD i 0 := fun e => nc (by rw [e]; exact noL_hd t1)
    have nx : z ≠ x := fun e => hz (by rw [e]; exact List.mem_cons_self)
    exact ⟨((q.1.tr r.1).tr (j3 z)).tr (a4 z), ((q.2.tr r.2).tr (j4 z ne)).tr (s4 z nx)⟩
  · exact ((h5.tr (k5 x t5).1.b).tr (j3 x).b).tr (a4 x).b
  · obtain ⟨l, l1, l2, l3⟩ := h6 hk
    have := g13.1
    have := g4.1
    exact ⟨l, l1, by omega, by rw [a4 x 26 (by decide) (by decide), x26]; exact l3⟩
  · have e3 : ExR Θ n0 Ψ3 [] P2 P3 z2 z2 := ExR.nil k7.1 j5 j1
    have e4' : ExR Θ n0 Ψ4 [] P3 P4 z2 z2 := ExR.nil e3.1 e4 g4
    have q1 := h7.tr k7 (fun z hz => by
      rcases List.mem_cons.mp hz with y | y
      · rw [y]; exact (k5 x t5).1
      · exact (k5 z (t3 z y)).1) k1 hR1 hR2 (fun _ hn y => absurd hn (Nat.not_lt.mpr y))
    have q2 := q1.tr e3 (fun z _ => j3 z) j1 hR2 hR3 (fun _ _ y => y.elim)
    have q3 := q2.tr e4' (fun z _ => a4 z) g4 hR3 hR4 hC0
    rw [List.append_nil, List.append_nil] at q3
    rw [fl]
    exact q3
/-- child i has been come to -/
theorem LpQ.ar (ht : TrX G g x) (hi : i < (G x).length) (h : LpQ Θ G n0 g x Ψ P zp i i Ψ1 P1 z1) (hR1 : RoW Ψ1) (hR2 : RoW Ψ2) (g2 : Gr noN Ψ1 Ψ2) (i2 : InQ Θ G Ψ2 P2 i (i + 1) x) (a2 : ∀ z, z ≠ (G x).getD i 0 → SmA P1 P2 z) (s2 : ∀ z, SmK P1 P2 z) (e2 : ∀ q j, n0 + 17 ≤ q → q ≤ n0 + 21 → P2 q j = P1 q j) : LpQ Θ G n0 g x Ψ P zp i (i + 1) Ψ2 P2 z1 := by
  obtain ⟨t1, t2, t3, t4, t5, t6, t7⟩ := ht.at hi
  obtain ⟨⟨h1, h1n⟩, hI, h3, h4, h5, h6, h7⟩ := h
  have xc : x ≠ (G x).getD i 0 := fun e => t5 (by rw [← e] at t1; rw [← e]; exact noL_hd t1)
  have old : ∀ z, z ∈ ((G x).take i).flatMap (noL G g) → SmA P1 P2 z := fun z hz => a2 z (fun e => t3 z hz (by rw [e]; exact noL_hd t1))
  have nq : NwQ Θ (x :: ((G x).take i).flatMap (noL G g)) Ψ Ψ2 P2 := by
    have q1 := h1n.tr (NwQ.nil (P1 := P2) g2 (fun _ _ _ y => y.elim)) g2 (fun z hz => by
      rcases List.mem_cons.mp hz with y | y
      · rw [y]; exact a2 x xc 26 (by decide) (by decide)
      · exact old z y 26 (by decide) (by decide))
    rw [List.append_nil] at q1
    exact q1
  refine ⟨⟨h1.tr g2 (fun _ _ y => y.elim), nq⟩, i2, fun z hz => (h3 z hz).st (old z hz) (s2 z) (fun c hc => (old _ (fl_ch ht.1 hz (gd_in hc))).b) (fun c _ => s2 _) g2 hR1 hR2 (fun _ _ y => y.elim) (fun _ _ y => y.elim), fun z hz => ?_, h5.tr (a2 x xc).b, fun hk => ?_, ?_⟩
  · have q := h4 z hz
    have ne : z ≠ (G x).getD i 0 := fun e => hz (t4 z (by rw [e]; exact noL_hd t1))
    exact ⟨q.1.tr (a2 z ne), q.2.tr (s2 z)⟩
  · obtain ⟨l, l1, l2, l3⟩ := h6 hk
    have := g2.1
    exact ⟨l, l1, by omega, by rw [a2 x xc 26 (by decide) (by decide)]; exact l3⟩
  · have e3 : ExR Θ n0 Ψ2 [] P1 P2 z1 z1 := ExR.nil h7.1 e2 g2
    have q := h7.tr e3 (fun z hz => by
      rcases List.mem_cons.mp hz with y | y
      · rw [y]; exact a2 x xc
      · exact old z y) g2 hR1 hR2 (fun _ _ y => y.elim)
    rw [List.append_nil] at q
    exact q
end
end
section
/-! the weaver walks through the tree -/
/-- the weaver at node x, inward or not, after st steps -/
def T19 (h n0 x d st : Nat) (M : Mem) (Q : Option Value → Mem → Prop) : Prop := T (h + 10) mdX9_weave 19 [(0, .ref 21), (1, .ref n0), (2, .int (Int32.ofNat x)), (3, .int (Int32.ofNat d)), (4, .int (Int32.ofNat st))] [] M Q
section
variable {n0 l0 r0 N0 nb : Nat} {Θ : TrT} {G : Nat → List Nat} {M0 : Mem} {h : Nat} {Q : Option Value → Mem → Prop}
theorem W_arS {Ψ4 : Wg} {P4 : Nat → Nat → Int32} {z4 : Int32} {M4 : Mem} {g x k st4 : Nat} {Ψ : Wg} {P : Nat → Nat → Int32} {zp : Int32} {xx : Int32} (hB : WvB n0 l0 r0 M0) (ht : TrX G g x) (hs : ShN Θ G nb x) (hk : k < (G x).length) (hW : WvP n0 l0 r0 N0 Θ M0 Ψ4 M4) (hP : RwP n0 P4 z4 M4) (hL : LpQ Θ G n0 g x Ψ P zp k k Ψ4 P4 z4) (hnb : nb ≤ Ψ4.1.length) (hlim : Ψ4.1.length < 99890) (lp : ∀ M5 Ψ5 P5, WvP n0 l0 r0 N0 Θ M0 Ψ5 M5 → RwP n0 P5 z4 M5 → LpQ Θ G n0 g x Ψ P zp k (k + 1) Ψ5 P5 z4 → (Ψ5.1.length ≤ Ψ4.1.length + 5 ∧ Ψ5.1.length + nk P5 x ≤ Ψ4.1.length + nk P4 x + aW (Θ.2.2 5 x) ∧ Ψ5.2.2.length ≤ Ψ4.2.2.length + aH (Θ.2.2 5 x)) → nb ≤ Ψ5.1.length → (∀ c, 22 ≤ c → c ≤ 25 → okI Ψ5 (P5 c ((G x).getD k 0))) → T19 h n0 ((G x).getD k 0) 1 (st4 + 1) M5 Q) : DX9_weave_108 (h + 9) 21 n0 xx (Int32.ofNat st4) (Int32.ofNat ((G x).getD k 0)) M4 Q := by
  obtain ⟨F4, -, -, -, hR4, -⟩ := hW.sees hB
  obtain ⟨c1, c2, c3⟩ := hs.2.2.2.1.2.2.1 k hk
  have nz : ¬ Int32.ofNat ((G x).getD k 0) = 0 := fun z => by
    have := inj32 (a := (G x).getD k 0) (b := 0) (by omega) (by decide) z
    omega
  unfold DX9_weave_108 DX9_weave_118 DX9_weave_131
  refine ⟨fun z => absurd z nz, fun _ => ⟨fun z => absurd z (by decide), fun _ => ⟨ok21 F4, ?_⟩⟩⟩
  refine W_ar2 (h := h) hB hW hP hs hnb hlim hk hL.2.1 (fun M5 Ψ5 P5 W5 R5 G5 L5 I5 A5 S5 K5 _ E5 _ => ⟨rfl, ?_⟩)
  obtain ⟨-, -, -, -, hR5, -⟩ := W5.sees hB
  rw [succ32]
  exact lp M5 Ψ5 P5 W5 R5 (hL.ar ht hk hR4 hR5 G5 I5 S5 K5 E5) ⟨L5.1, by rw [nk_st (K5 x)]; have := L5.2.1; omega, L5.2.2⟩ (by have := G5.1; omega) A5
theorem W_walk (hB : WvB n0 l0 r0 M0) (hf : ∀ z y y', z ∈ G y → z ∈ G y' → y = y') : ∀ (g x : Nat) (M : Mem) (Ψ : Wg) (P : Nat → Nat → Int32) (zp : Int32) (st : Nat), FtN G g x → (noL G g x).Nodup → (∀ z, z ∈ noL G g x → ShN Θ G nb z) → WvP n0 l0 r0 N0 Θ M0 Ψ M → RwP n0 P zp M → nb ≤ Ψ.1.length → (∀ c, 22 ≤ c → c ≤ 25 → okI Ψ (P c x)) → (∀ s, s < 16 → okI Ψ (P (n0 + 21) s)) → Ψ.1.length + 115 * (noL G g x).length < 99000 → st + 2 * (noL G g x).length ≤ 1280 → (∀ M' Ψ' P' zp', WvP n0 l0 r0 N0 Θ M0 Ψ' M' → RwP n0 P' zp' M' → WkQ Θ G n0 g x Ψ P zp Ψ' P' zp' → T19 h n0 x 0 (st + 2 * (noL G g x).length - 1) M' Q) → T19 h n0 x 1 st M Q := by
  intro g
  induction g with
  | zero => intro x M Ψ P zp st hft; exact False.elim hft
  | succ g ih =>
    intro x M Ψ P zp st hft hnd hsh hW hP hnb hok hem hlim hst K
    have ht : TrX G g x := ⟨hft, hnd, hf⟩
    have hs := hsh x List.mem_cons_self
    obtain ⟨⟨x1, x2, x3⟩, -, -, hL, hpr, -⟩ := id hs
    obtain ⟨F, hT, h8, o8, hRo, -⟩ := hW.sees hB
    obtain ⟨fl, efl⟩ : ∃ fl, fl = fun i => ((G x).take i).flatMap (noL G g) := ⟨_, rfl⟩
    have fle : ∀ i, ((G x).take i).flatMap (noL G g) = fl i := fun i => by rw [efl]
    have lenA : (noL G (g + 1) x).length = 1 + (fl (G x).length).length := by
      show ((x :: (G x).flatMap (noL G g)).length) = _
      rw [← fle, List.take_length, List.length_cons, Nat.add_comm]
    have flS : ∀ i, i < (G x).length → (fl (i + 1)).length = (fl i).length + (noL G g ((G x).getD i 0)).length := fun i hi => by
      rw [← fle, ← fle, (ht.at hi).2.2.2.2.2.2, List.flatMap_append, List.length_append]
      simp
    have flM : ∀ i, i ≤ (G x).length → (fl i).length ≤ (fl (G x).length).length := by
      intro i hi
      have main : ∀ d i, i + d = (G x).length → (fl i).length ≤ (fl (G x).length).length := by
        intro d
        induction d with
        | zero => intro i e; rw [Nat.add_zero] at e; rw [e]; exact Nat.le_refl _
        | succ d ihd => intro i e; have := ihd (i + 1) (by omega); have := flS i (by omega); omega
      exact main ((G x).length - i) i (by omega)
    have flW : ∀ f i, i < (G x).length → smL f (fl (i + 1)) = smL f (fl i) + smL f (noL G g ((G x).getD i 0)) := fun f i hi => by
      rw [← fle, ← fle, (ht.at hi).2.2.2.2.2.2, List.flatMap_append, smL_ap]
      simp
    have lenW : ∀ f, smL f (noL G (g + 1) x) = f x + smL f (fl (G x).length) := fun f => by
      show f x + smL f ((G x).flatMap (noL G g)) = _
      rw [← fle, List.take_length]
    obtain ⟨kx, ekx⟩ : ∃ kx, kx = Θ.2.2 5 x := ⟨_, rfl⟩
    have mulS : ∀ i c : Nat, (i + 1) * c = i * c + c := fun i c => Nat.succ_mul i c
    -- all children have been left
    have fin : ∀ M1 Ψ1 P1 z1, WvP n0 l0 r0 N0 Θ M0 Ψ1 M1 → RwP n0 P1 z1 M1 → LpQ Θ G n0 g x Ψ P zp (G x).length (G x).length Ψ1 P1 z1 → (Ψ1.1.length + 62 * (G x).length ≤ Ψ.1.length + 2 + 115 * (fl (G x).length).length ∧ Ψ1.1.length + nk P1 x ≤ Ψ.1.length + eW kx + smL (oW Θ G) (fl (G x).length) + (G x).length * aW kx + (G x).length * lW kx ∧ Ψ1.2.2.length ≤ Ψ.2.2.length + eH kx + smL (oH Θ G) (fl (G x).length) + (G x).length * aH kx + (G x).length * lH kx) → T19 h n0 x 0 (st + 1 + 2 * (fl (G x).length).length) M1 Q := by
      intro M1 Ψ1 P1 z1 W1 R1 q b1
      obtain ⟨⟨q1, q1n⟩, q2, q3, q4, q5, q6, q7⟩ := q
      have e : st + 2 * (noL G (g + 1) x).length - 1 = st + 1 + 2 * (fl (G x).length).length := by rw [lenA]; omega
      have cW : Ψ1.1.length + nk P1 x + jW Θ G x ≤ Ψ.1.length + smL (oW Θ G) (noL G (g + 1) x) := by
        rw [lenW]
        show _ ≤ _ + (eW (Θ.2.2 5 x) + (G x).length * (aW (Θ.2.2 5 x) + lW (Θ.2.2 5 x)) + jW Θ G x + _)
        rw [← ekx, Nat.mul_add]
        have := b1.2.1
        omega
      have cH : Ψ1.2.2.length + jH Θ G x ≤ Ψ.2.2.length + smL (oH Θ G) (noL G (g + 1) x) := by
        rw [lenW]
        show _ ≤ _ + (eH (Θ.2.2 5 x) + (G x).length * (aH (Θ.2.2 5 x) + lH (Θ.2.2 5 x)) + jH Θ G x + _)
        rw [← ekx, Nat.mul_add]
        have := b1.2.2
        omega
      have k := K M1 Ψ1 P1 z1 W1 R1 ⟨⟨q1, ?_⟩, ⟨by rw [lenA]; have := b1.1; omega, cW, cH⟩, q2, fun z hz ne => ?_, q4, q5, ?_⟩
      rotate_left
      · rw [List.take_length] at q1n
        exact q1n
      rotate_right
      · rw [e] at k; exact k
      · rcases List.mem_cons.mp hz with y | y
        · exact absurd y ne
        · refine q3 z ?_
          rw [List.take_length]; exact y
      · rw [List.take_length] at q7
        exact q7
    -- child i has been come to
    have loop : ∀ (d i : Nat) (M1 : Mem) (Ψ1 : Wg) (P1 : Nat → Nat → Int32) (z1 : Int32), (G x).length - i = d → i < (G x).length → WvP n0 l0 r0 N0 Θ M0 Ψ1 M1 → RwP n0 P1 z1 M1 → LpQ Θ G n0 g x Ψ P zp i (i + 1) Ψ1 P1 z1 → (Ψ1.1.length + 62 * i ≤ Ψ.1.length + 7 + 115 * (fl i).length ∧ Ψ1.1.length + nk P1 x ≤ Ψ.1.length + eW kx + smL (oW Θ G) (fl i) + (i + 1) * aW kx + i * lW kx ∧ Ψ1.2.2.length ≤ Ψ.2.2.length + eH kx + smL (oH Θ G) (fl i) + (i + 1) * aH kx + i * lH kx) → nb ≤ Ψ1.1.length → (∀ c, 22 ≤ c → c ≤ 25 → okI Ψ1 (P1 c ((G x).getD i 0))) → T19 h n0 ((G x).getD i 0) 1 (st + 1 + 2 * (fl i).length) M1 Q := by
      intro d
      induction d with
      | zero => intro i M1 Ψ1 P1 z1 hd hi; omega
      | succ d ihd =>
        intro i M1 Ψ1 P1 z1 hd hi W1 R1 L1 b1 nb1 A1
        obtain ⟨t1, t2, t3, t4, t5, t6, t7⟩ := ht.at hi
        have fi := flS i hi
        have fm := flM (i + 1) hi
        obtain ⟨-, -, -, -, hR1, -⟩ := W1.sees hB
        have shc := hsh _ (t4 _ (noL_hd t1))
        obtain ⟨⟨y1, y2, y3⟩, -, -, hLc, -⟩ := id shc
        refine ih ((G x).getD i 0) M1 Ψ1 P1 z1 (st + 1 + 2 * (fl i).length) t1 t2 (fun z hz => hsh z (t4 z hz)) W1 R1 nb1 A1 L1.2.2.2.2.2.2.1 (by rw [lenA] at hlim; omega) (by rw [lenA] at hst; omega) (fun M2 Ψ2 P2 z2 W2 R2 q2 => ?_)
        obtain ⟨F2, hT2, -, -, hR2, -⟩ := W2.sees hB
        obtain ⟨c, ec⟩ : ∃ c, c = (G x).getD i 0 := ⟨_, rfl⟩
        obtain ⟨st', est⟩ : ∃ st', st' = st + 1 + 2 * (fl i).length + 2 * (noL G g ((G x).getD i 0)).length - 1 := ⟨_, rfl⟩
        have cl : 1 ≤ (noL G g ((G x).getD i 0)).length := List.length_pos_of_mem (noL_hd t1)
        rw [← est]
        have stl : st' < 1280 := by rw [lenA] at hst; omega
        have st2 : st' + 1 = st + 1 + 2 * (fl (i + 1)).length := by omega
        have lc : (Int32.ofNat ((G x).getD i 0)).toNatClampNeg = (G x).getD i 0 := lt32 (by omega)
        -- what follows the joining
        have aft : ∀ M3 Ψ3 P3, WvP n0 l0 r0 N0 Θ M0 Ψ3 M3 → RwP n0 P3 z2 M3 → JnQ Θ G n0 ((G x).getD i 0) Ψ2 P2 Ψ3 P3 → (Ψ3.1.length ≤ Ψ2.1.length + 62 * (G ((G x).getD i 0)).length + 22 ∧ Ψ3.1.length + nk P3 ((G x).getD i 0) ≤ Ψ2.1.length + nk P2 ((G x).getD i 0) + jW Θ G ((G x).getD i 0) ∧ Ψ3.2.2.length ≤ Ψ2.2.2.length + jH Θ G ((G x).getD i 0)) → DX9_weave_73 (h + 9) 21 n0 (Int32.ofNat ((G x).getD i 0)) (Int32.ofNat st') M3 Q := by
          intro M3 Ψ3 P3 W3 R3 j3 b3
          obtain ⟨F3, -, -, -, hR3, -⟩ := W3.sees hB
          have b2 := q2.2.1
          have xne : x ≠ (G x).getD i 0 := fun e => t5 (by rw [← e] at t1; rw [← e]; exact noL_hd t1)
          have kx3 : nk P3 x = nk P1 x := by rw [nk_st (j3.2.2.2.1 x xne), nk_st (q2.2.2.2.2.1 x t5).2]
          have l3 : Ψ3.1.length < 99880 := by rw [lenA] at hlim; omega
          have nb3 : nb ≤ Ψ3.1.length := by have := q2.1.1.1; have := j3.1.1; omega
          have i3 := L1.mid ht hi q2 j3 hR1 hR2 hR3
          unfold DX9_weave_73
          refine ⟨ok21 F3, W_lv2 (h := h) hB W3 R3 hs nb3 (by omega) hi i3 j3.2.1.1.1 (fun M4 Ψ4 P4 W4 R4 g4 b4 i4 a4 s4 e4 _ => ⟨rfl, ?_⟩)⟩
          obtain ⟨F4, hT4, -, -, hR4, -⟩ := W4.sees hB
          have L4 := L1.lv ht hi q2 j3 hR1 hR2 hR3 hR4 (by omega) (by omega) g4 i4 a4 s4 e4
          have b5 : Ψ4.1.length + 62 * (i + 1) ≤ Ψ.1.length + 2 + 115 * (fl (i + 1)).length ∧ Ψ4.1.length + nk P4 x ≤ Ψ.1.length + eW kx + smL (oW Θ G) (fl (i + 1)) + (i + 1) * aW kx + (i + 1) * lW kx ∧ Ψ4.2.2.length ≤ Ψ.2.2.length + eH kx + smL (oH Θ G) (fl (i + 1)) + (i + 1) * aH kx + (i + 1) * lH kx := by
            rw [flW _ i hi, flW _ i hi, mulS i (lW kx), mulS i (lH kx)]
            obtain ⟨y1, y2, y3⟩ := b1
            obtain ⟨w1, w2, w3⟩ := b2
            obtain ⟨v1, v2, v3⟩ := b3
            obtain ⟨u1, u2, u3⟩ := b4
            rw [← ekx] at u2 u3
            rw [kx3] at u3
            refine ⟨by omega, ?_, ?_⟩
            · generalize (i + 1) * aW kx = A at y2 ⊢
              generalize i * lW kx = B at y2 ⊢
              omega
            · generalize (i + 1) * aH kx = A at y3 ⊢
              generalize i * lH kx = B at y3 ⊢
              omega
          have g8 : mAI M4 8 ((G x).getD i 0) = Int32.ofNat ((G x).getD (i + 1) 0) := by rw [hT4.2.2.2.1 8 (by decide) (by decide)]; exact hL.2.1 i hi
          have g9 : mAI M4 9 ((G x).getD i 0) = Int32.ofNat x := by rw [hT4.2.2.2.1 9 (by decide) (by decide)]; exact hpr i hi
          rw [lc]
          refine ⟨4, rf21_0 F4, ok4 F4, 8, rf4_3 F4, ok8 F4, by rw [ln8 F4]; exact vp_of y3 (by decide), ?_⟩
          rw [g8]
          unfold DX9_weave_107
          by_cases hn : i + 1 < (G x).length
          · obtain ⟨w1, w2, w3⟩ := hL.2.2.1 (i + 1) hn
            have nz : ¬ Int32.ofNat ((G x).getD (i + 1) 0) = 0 := fun z => by
              have := inj32 (a := (G x).getD (i + 1) 0) (b := 0) (by omega) (by decide) z
              omega
            refine ⟨fun _ => ?_, fun z => absurd z nz⟩
            refine W_arS hB ht hs hn W4 R4 L4 (by have := g4.1; omega) (by omega) (fun M5 Ψ5 P5 W5 R5 L5 b6 nb5 A5 => ?_)
            rw [st2]
            refine ihd (i + 1) M5 Ψ5 P5 z2 (by omega) hn W5 R5 L5 ?_ nb5 A5
            obtain ⟨y1, y2, y3⟩ := b5
            obtain ⟨u1, u2, u3⟩ := b6
            rw [← ekx] at u2 u3
            rw [mulS (i + 1) (aW kx), mulS (i + 1) (aH kx)]
            refine ⟨by omega, ?_, ?_⟩
            · generalize (i + 1) * aW kx = A at y2 ⊢
              generalize (i + 1) * lW kx = B at y2 ⊢
              omega
            · generalize (i + 1) * aH kx = A at y3 ⊢
              generalize (i + 1) * lH kx = B at y3 ⊢
              omega
          · have ei : i + 1 = (G x).length := by omega
            have ez : (G x).getD (i + 1) 0 = 0 := by rw [ei]; exact gd_end
            rw [ez]
            refine ⟨fun z => absurd rfl z, fun _ => ⟨4, rf21_0 F4, ok4 F4, 9, rf4_4 F4, ok9 F4, by rw [ln9 F4]; exact vp_of y3 (by decide), ?_⟩⟩
            rw [g9]
            unfold DX9_weave_108 DX9_weave_118 DX9_weave_131
            refine ⟨fun _ => ⟨fun _ => ?_, fun z => absurd rfl z⟩, fun z => absurd rfl z⟩
            rw [succ32, st2, ei]
            rw [ei] at L4 b5
            exact fin M4 Ψ4 P4 z2 W4 R4 L4 b5
        unfold T19
        refine VX9_weave_19 (h := h + 9) ?_
        unfold DX9_weave_19
        have n1280 : ¬ (1280 : Int32) ≤ Int32.ofNat st' := fun z => by
          have := (le32 (a := 1280) (by decide) (by omega)).mp z
          omega
        have nz : ¬ Int32.ofNat ((G x).getD i 0) = 0 := fun z => by
          have := inj32 (a := (G x).getD i 0) (b := 0) (by omega) (by decide) z
          omega
        have g5 : mAI M2 5 ((G x).getD i 0) = Θ.2.2 5 ((G x).getD i 0) := by rw [hT2.2.2.2.1 5 (by decide) (by decide)]
        rw [lc]
        refine ⟨fun z => absurd z n1280, fun _ => ⟨fun z => absurd z nz, fun _ => ⟨fun _ => ⟨ok21 F2, 4, rf21_0 F2, ok4 F2, 5, rf4_0 F2, ok5 F2, by rw [ln5 F2]; exact vp_of y3 (by decide), ?_⟩, fun z => absurd rfl z⟩⟩⟩
        rw [g5]
        refine ⟨fun k8 => aft M2 Ψ2 P2 W2 R2 ⟨Gr.rf, ⟨q2.2.2.1, fun y => absurd y k8⟩, fun _ _ _ _ => rfl, fun _ _ _ _ => rfl, fun _ _ _ _ => rfl⟩ ⟨by omega, Nat.le_add_right _ _, Nat.le_add_right _ _⟩, fun k8 => ?_⟩
        have b2 := q2.2.1
        refine W_jn2 (h := h) hB W2 R2 shc (by rw [lenA] at hlim; omega) q2.2.2.1 (fun j hj => ?_) k8 (fun M3 Ψ3 P3 W3 R3 G3 b3 N3 a3 s3 e3 _ => ⟨rfl, aft M3 Ψ3 P3 W3 R3 ⟨G3, N3, a3, s3, e3⟩ ⟨b3.1, ?_, ?_⟩⟩)
        · have mc := noL_ch g _ _ _ t1 (noL_hd t1) (gd_in hj)
          exact (q2.2.2.2.1 _ mc (hLc.2.2.1 j hj).2.2).1.1
        · have e : jW Θ G ((G x).getD i 0) = 62 * (G ((G x).getD i 0)).length + 42 := by unfold jW; rw [if_pos k8]
          have := b3.1
          have := sz_le (f := fun n => P3 28 ((G x).getD i 0 * 20 + n)) 20
          have e2 : nk P3 ((G x).getD i 0) = szN (fun n => P3 28 ((G x).getD i 0 * 20 + n)) 20 := rfl
          rw [e, e2]
          omega
        · have e : jH Θ G ((G x).getD i 0) = (G ((G x).getD i 0)).length + 1 := by unfold jH; rw [if_pos k8]
          rw [e]
          exact b3.2
    -- entering
    unfold T19
    refine VX9_weave_19 (h := h + 9) ?_
    unfold DX9_weave_19
    have n1280 : ¬ (1280 : Int32) ≤ Int32.ofNat st := fun z => by
      rw [lenA] at hst
      have := (le32 (a := 1280) (by decide) (by omega)).mp z
      omega
    have nz : ¬ Int32.ofNat x = 0 := fun z => by
      have := inj32 (a := x) (b := 0) (by omega) (by decide) z
      omega
    rw [lt32 (show x < 2147483648 by omega)]
    refine ⟨fun z => absurd z n1280, fun _ => ⟨fun z => absurd z nz, fun _ => ⟨fun z => absurd z (by decide), fun _ => ⟨ok21 F, ?_⟩⟩⟩⟩
    refine W_en2 (h := h) hB hW hP (by omega) hs hok hem (fun M1 Ψ1 P1 z1 W1 R1 G1 b1 I1 E1 S1 X1 O1 _ => ⟨rfl, ?_⟩)
    obtain ⟨F1, hT1, -, -, hR1, -⟩ := W1.sees hB
    have f0 : fl 0 = [] := by rw [efl]; rfl
    have L1 : LpQ Θ G n0 g x Ψ P zp 0 0 Ψ1 P1 z1 := by
      refine ⟨G1, I1, fun z hz => ?_, fun z hz => S1 z (fun e => hz (by rw [e]; exact List.mem_cons_self)), X1, O1, ?_⟩
      · rw [fle, f0] at hz; exact absurd hz List.not_mem_nil
      · rw [fle, f0]; exact E1
    have g6 : mAI M1 6 x = Int32.ofNat ((G x).getD 0 0) := by rw [hT1.2.2.2.1 6 (by decide) (by decide)]; exact hL.1
    refine ⟨4, rf21_0 F1, ok4 F1, 6, rf4_1 F1, ok6 F1, by rw [ln6 F1]; exact vp_of x3 (by decide), ?_⟩
    rw [g6]
    have l1 : Ψ1.1.length < 99890 := by omega
    have nb1 : nb ≤ Ψ1.1.length := by have := G1.1.1; omega
    by_cases hc : 0 < (G x).length
    · refine W_arS (st4 := st) hB ht hs hc W1 R1 L1 nb1 l1 (fun M5 Ψ5 P5 W5 R5 L5 b6 nb5 A5 => ?_)
      have q := loop ((G x).length - 0) 0 M5 Ψ5 P5 z1 rfl hc W5 R5 L5 (by
        obtain ⟨u1, u2, u3⟩ := b6
        obtain ⟨v1, v2, v3⟩ := b1
        rw [← ekx] at u2 u3 v2 v3
        rw [f0]
        show _ ≤ Ψ.1.length + 7 + 115 * 0 ∧ _ ≤ Ψ.1.length + eW kx + 0 + (0 + 1) * aW kx + 0 * lW kx ∧ _ ≤ Ψ.2.2.length + eH kx + 0 + (0 + 1) * aH kx + 0 * lH kx
        rw [Nat.zero_mul, Nat.zero_mul, Nat.zero_add, Nat.one_mul, Nat.one_mul]
        omega) nb5 A5
      rw [f0] at q
      exact q
    · have e0 : (G x).length = 0 := by omega
      have ez : (G x).getD 0 0 = 0 := by have := gd_end (l := G x); rw [e0] at this; exact this
      rw [ez]
      unfold DX9_weave_108 DX9_weave_118 DX9_weave_131
      refine ⟨fun _ => ⟨fun _ => ?_, fun z => absurd rfl z⟩, fun z => absurd rfl z⟩
      have q := fin M1 Ψ1 P1 z1 W1 R1 (by rw [e0]; exact L1) (by
        obtain ⟨v1, v2, v3⟩ := b1
        rw [← ekx] at v2 v3
        rw [e0, f0]
        show _ ≤ _ ∧ _ ≤ Ψ.1.length + eW kx + 0 + 0 * aW kx + 0 * lW kx ∧ _ ≤ Ψ.2.2.length + eH kx + 0 + 0 * aH kx + 0 * lH kx
        rw [Nat.zero_mul, Nat.zero_mul, Nat.zero_mul, Nat.zero_mul]
        refine ⟨by omega, by omega, by omega⟩)
      rw [e0, f0] at q
      rw [succ32]
      exact q
end
end
section
/-! the kind of what is no node stays -/
def K5 (Θ Θ' : TrT) : Prop := 1 ≤ Θ.1 → 1 ≤ Θ'.1 ∧ Θ'.2.2 5 0 = Θ.2.2 5 0
section
variable {Θ Θ1 Θ2 : TrT} {c d v x aw a : Nat} {k l : Int32} {im : Bool}
theorem K5.rf : K5 Θ Θ := fun h => ⟨h, rfl⟩
theorem K5.tr (h : K5 Θ Θ1) (g : K5 Θ1 Θ2) : K5 Θ Θ2 := fun z => ⟨(g (h z).1).1, (g (h z).1).2.trans (h z).2⟩
theorem K5.of (e : Θ1 = Θ) : K5 Θ Θ1 := by rw [e]; exact K5.rf
theorem n5_mk : K5 Θ (mkT Θ k).1 := fun h => by
  unfold mkT
  by_cases z : Θ.1 < 640
  · rw [if_pos z]
    refine ⟨Nat.le_add_left _ _, ?_⟩
    show up2 (up2 (up2 (up2 (up2 (up2 (up2 (up2 (up2 Θ.2.2 5 Θ.1 k) 6 Θ.1 0) 7 Θ.1 0) 8 Θ.1 0) 9 Θ.1 0) 10 Θ.1 0) 11 Θ.1 0) 12 Θ.1 0) 13 Θ.1 (if k = 0 ∨ k = 5 then 1 else 0) 5 0 = _
    rw [up2_row (by decide), up2_row (by decide), up2_row (by decide), up2_row (by decide), up2_row (by decide), up2_row (by decide), up2_row (by decide), up2_row (by decide), up2_ne (fun y => by have := y.2; omega)]
  · rw [if_neg z]; exact ⟨h, rfl⟩
theorem n5_hg : K5 Θ (hgT Θ a c) := fun h => by
  unfold hgT
  by_cases z : a = 0 ∨ c = 0
  · rw [if_pos z]; exact ⟨h, rfl⟩
  · rw [if_neg z]
    refine ⟨h, ?_⟩
    show hgA Θ.2.2 a c 5 0 = _
    unfold hgA
    rw [up2_row (by decide)]
    by_cases y : Θ.2.2 6 a = 0
    · rw [if_pos y, up2_row (by decide), up2_row (by decide), up2_row (by decide), up2_row (by decide)]
    · rw [if_neg y, up2_row (by decide), up2_row (by decide), up2_row (by decide), up2_row (by decide)]
theorem n5_up {q j : Nat} {w : Int32} {n p : Nat} (hq : q ≠ 5) {A : Nat → Nat → Int32} : K5 (n, p, A) (n, p, up2 A q j w) := fun h => ⟨h, by show up2 A q j w 5 0 = A 5 0; rw [up2_row (fun e => hq e.symm)]⟩
theorem n5_p {n p p' : Nat} {A : Nat → Nat → Int32} : K5 (n, p, A) (n, p', A) := fun h => ⟨h, rfl⟩
theorem n5_wr : K5 Θ (wrT Θ k c).1 := n5_mk.tr n5_hg
theorem n5_pr : K5 Θ (prT Θ k c d).1 := (n5_mk.tr n5_hg).tr n5_hg
theorem n5_pa : K5 Θ (paT Θ).1 := (((n5_mk (k := 1)).tr (n5_p (p' := (mkT Θ 1).1.2.1 + 1))).tr (n5_up (q := 11) (by decide))).tr ((n5_up (q := 12) (by decide)).tr (n5_up (q := 13) (by decide)))
theorem n5_em : K5 Θ (emT Θ v).1 := (n5_mk (k := 2)).tr ((n5_up (q := 11) (by decide)).tr (n5_up (q := 13) (by decide)))
theorem n5_ex : K5 Θ (exT Θ v).1 := (n5_mk (k := 3)).tr ((n5_up (q := 11) (by decide)).tr (n5_up (q := 13) (by decide)))
theorem n5_ch : K5 Θ (chT Θ l c d).1 := n5_pr.tr (n5_up (q := 10) (by decide))
theorem n5_su : K5 Θ (suT Θ c l).1 := n5_wr.tr (n5_up (q := 10) (by decide))
theorem n5_ha : K5 Θ (haT Θ).1 := n5_pa.tr n5_wr
theorem n5_st : K5 Θ (stT Θ v).1 := ((n5_em.tr n5_pa).tr n5_pr).tr n5_wr
theorem n5_w1 : K5 Θ (wt1 Θ).1 := (n5_pa.tr n5_ex).tr n5_mk
theorem n5_w2 : K5 Θ (wt2 Θ l).1 := n5_w1.tr n5_ch
theorem n5_w3 : K5 Θ (wt3 Θ l im).1 := by
  cases im with
  | true => exact n5_w2.tr n5_pr
  | false => exact n5_w2.tr n5_pr
theorem n5_wa : K5 Θ (waT Θ l im).1 := n5_w3.tr n5_wr
theorem n5_aw : K5 Θ (awT Θ l im).1 := n5_wa.tr n5_wr
theorem n5_k1 : K5 Θ (wk1 Θ c).1 := n5_ex.tr n5_pr
theorem n5_k2 : K5 Θ (wk2 Θ c l im).1 := by unfold wk2; exact n5_k1.tr n5_wa
theorem n5_wk : K5 Θ (wkT Θ c l im).1 := by unfold wkT wk3; exact (n5_k2.tr n5_pr).tr n5_wr
theorem n5_ab : K5 Θ (abT Θ c l).1 := by unfold abT; exact n5_su.tr n5_wk
theorem n5_ev : K5 Θ (evT Θ x aw l).1 := by
  have a4 : K5 (haT Θ).1 (ev1 Θ x).1 := by unfold ev1; exact n5_pr
  have a3 : K5 (ev1 Θ x).1 (ev2 Θ x l).1 := by unfold ev2; exact n5_ab
  have a2 : K5 (ev2 Θ x l).1 (ev3 Θ x l).1 := by unfold ev3; exact n5_wr
  have a1 : K5 (ev3 Θ x l).1 (evT Θ x aw l).1 := by unfold evT; exact n5_pr
  exact (((n5_ha.tr a4).tr a3).tr a2).tr a1
end
section
variable {b : Nat → Int32} {n m : Nat} {τ : Td} {j i o f1 f2 fo x aw lit y : Nat} {k : Int32} {w : Int64} {K : List KE} {σ σ1 σ2 : PS}
def Ck (σ σ' : PS) : Prop := K5 (trS σ) (trS σ')
theorem Sx.ck {r : TrT} (h : Sx σ σ1) (g : K5 (trS σ1) r) : Ck σ (trP1 σ1 r) := by
  rw [h.2] at g; exact g
theorem br_k {j a x : Nat} {g u : Int32} : Ck σ (brP σ j a x g u) := by
  unfold brP
  split
  · exact n5_hg
  · exact n5_hg
theorem lf_k {r : Nat × PS × Nat} (e : lfM b n m τ k w j i K σ = .ok r) : Ck σ r.2.1 := by
  unfold lfM at e
  by_cases k1 : k = 38
  · rw [if_pos k1] at e; cases e; exact (Sx.rf.ck n5_pa)
  rw [if_neg k1] at e
  by_cases k2 : k = 39
  · rw [if_pos k2] at e; cases e; exact (Sx.rf.ck n5_ha)
  rw [if_neg k2] at e
  by_cases k3 : k = 40
  · rw [if_pos k3] at e
    obtain ⟨y, e1, e⟩ := bind_ok e
    cases e; exact ((em_x e1).ck n5_em)
  rw [if_neg k3] at e
  by_cases k4 : k = 41
  · rw [if_pos k4] at e
    obtain ⟨y, e1, e⟩ := bind_ok e
    cases e; exact ((em_x e1).ck n5_st)
  rw [if_neg k4] at e
  by_cases k5 : k = 47
  · rw [if_pos k5] at e
    obtain ⟨y, e1, e⟩ := bind_ok e
    cases e; exact ((at_x e1).ck n5_aw)
  rw [if_neg k5] at e
  by_cases k6 : k = 57
  · rw [if_pos k6] at e
    by_cases h1 : tK b n i = 2
    · rw [if_pos h1] at e
      cases h2 : trW K (tC b n i) with
      | none => rw [h2] at e; cases e
      | some q =>
        rw [h2] at e
        obtain ⟨i2, -, e⟩ := bind_ok e
        cases e; exact (Sx.ck (σ1 := raP σ (up2 σ.1.2.1 60 (40 * m + j) (Int32.ofNat q.2))) ⟨rfl, rfl⟩ n5_ex)
    · rw [if_neg h1] at e; cases e
  rw [if_neg k6] at e
  by_cases k7 : k = 2
  · rw [if_pos k7] at e
    obtain ⟨i2, -, e⟩ := bind_ok e
    obtain ⟨y, e1, e⟩ := bind_ok e
    have q := su_x e1
    cases e; exact (Sx.ck (σ := σ) ⟨q.1, q.2⟩ n5_mk)
  rw [if_neg k7] at e
  cases e; exact (Sx.rf.ck n5_mk)
theorem hd_k {r : Nat × PS × Nat × Bool × Nat × Option Int64} (e : hdM b n m τ k j i K σ = .ok r) : Ck σ r.2.1 := by
  unfold hdM at e
  by_cases k1 : k = 44
  · rw [if_pos k1] at e
    obtain ⟨y, e1, e⟩ := bind_ok e
    obtain ⟨i2, -, e⟩ := bind_ok e
    have q := co_x e1
    cases e; exact K5.of q.2
  rw [if_neg k1] at e
  by_cases k2 : k = 49
  · rw [if_pos k2] at e; cases e; exact K5.rf
  rw [if_neg k2] at e
  by_cases k3 : k = 50
  · rw [if_pos k3] at e
    obtain ⟨i2, -, e⟩ := bind_ok e
    cases e; exact K5.rf
  rw [if_neg k3] at e
  by_cases k4 : k = 53
  · rw [if_pos k4] at e
    obtain ⟨y, e1, e⟩ := bind_ok e
    obtain ⟨i2, -, e⟩ := bind_ok e
    cases e; exact ((at_x e1).ck n5_aw)
  rw [if_neg k4] at e
  by_cases k5 : k = 55
  · rw [if_pos k5] at e
    by_cases h1 : tK b n i = 2
    · rw [if_pos h1] at e
      by_cases h2 : toT (tC b n i) τ = true ∨ (trW K (tC b n i)).isSome = true
      · rw [if_pos h2] at e; cases e
      rw [if_neg h2] at e
      obtain ⟨i2, -, e⟩ := bind_ok e
      obtain ⟨i3, -, e⟩ := bind_ok e
      cases e; exact K5.rf
    · rw [if_neg h1] at e; cases e
  rw [if_neg k5] at e
  by_cases k6 : k = 58
  · rw [if_pos k6] at e
    obtain ⟨y, e1, e⟩ := bind_ok e
    have q := su_x e1
    by_cases h1 : 7 ≤ tK b n y.1 ∧ tK b n y.1 ≤ 12
    · rw [if_pos h1] at e
      obtain ⟨i2, -, e⟩ := bind_ok e
      obtain ⟨z, e2, e⟩ := bind_ok e
      obtain ⟨i3, -, e⟩ := bind_ok e
      have q2 := su_x e2
      have g1 : z.2.1.1 = σ.1.1 := q2.1.trans q.1
      have g2 : trS z.2 = trS σ := q2.2.trans q.2
      cases e; exact K5.of g2
    · rw [if_neg h1] at e; cases e
  rw [if_neg k6] at e
  by_cases k7 : k = 17
  · rw [if_pos k7] at e
    cases e; exact (Sx.rf.ck n5_mk)
  rw [if_neg k7] at e
  cases e; exact K5.rf
theorem tl_k {r : Nat × PS × Nat} (e : tlM b n m τ k j aw lit x i o σ = .ok r) : Ck σ r.2.1 := by
  unfold tlM at e
  by_cases k1 : k = 42
  · rw [if_pos k1] at e
    obtain ⟨i2, -, e⟩ := bind_ok e
    cases e
    by_cases h1 : (trS σ).2.2 13 x &&& 1 = 0
    · rw [if_pos h1]; exact (Sx.rf.ck n5_wr)
    · rw [if_neg h1]; exact (Sx.ck (σ := σ) (σ1 := paP σ j 2 7) ⟨rfl, rfl⟩ n5_wr)
  rw [if_neg k1] at e
  by_cases k2 : k = 49
  · rw [if_pos k2] at e
    obtain ⟨i2, -, e⟩ := bind_ok e
    obtain ⟨y, e1, e⟩ := bind_ok e
    obtain ⟨i3, -, e⟩ := bind_ok e
    have g := at_x e1
    by_cases h1 : y.2.2.2 = true
    · rw [if_pos h1] at e
      have b1 := n5_ab (Θ := trS y.2.1) (c := x) (l := Int32.ofNat y.2.2.1)
      have b2 := n5_mk (Θ := (abT (trS y.2.1) x (Int32.ofNat y.2.2.1)).1) (k := 0)
      have b3 := n5_ch (Θ := (mkT (abT (trS y.2.1) x (Int32.ofNat y.2.2.1)).1 0).1) (l := Int32.ofNat y.2.2.1) (c := (mkT (abT (trS y.2.1) x (Int32.ofNat y.2.2.1)).1 0).2) (d := (abT (trS y.2.1) x (Int32.ofNat y.2.2.1)).2)
      cases e
      exact g.ck ((b1.tr b2).tr b3)
    · rw [if_neg h1] at e
      cases e
      exact (g.ck n5_ab)
  rw [if_neg k2] at e
  by_cases k3 : k = 50
  · rw [if_pos k3] at e
    obtain ⟨i2, -, e⟩ := bind_ok e
    obtain ⟨y, e1, e⟩ := bind_ok e
    obtain ⟨i3, -, e⟩ := bind_ok e
    cases e
    exact ((at_x e1).ck n5_wk)
  rw [if_neg k3] at e
  by_cases k4 : k = 52
  · rw [if_pos k4] at e
    obtain ⟨i2, -, e⟩ := bind_ok e
    obtain ⟨y, e1, e⟩ := bind_ok e
    obtain ⟨i3, -, e⟩ := bind_ok e
    cases e
    exact ((co_x e1).ck n5_su)
  rw [if_neg k4] at e
  by_cases k5 : k = 53
  · rw [if_pos k5] at e
    obtain ⟨i2, -, e⟩ := bind_ok e
    cases e
    exact (Sx.rf.ck n5_ev)
  rw [if_neg k5] at e
  obtain ⟨i2, -, e⟩ := bind_ok e
  cases e
  exact (Sx.rf.ck n5_wr)
theorem ch_k {r : Nat × PS × Nat} (e : chM b n lit x y i σ = .ok r) : Ck σ r.2.1 := by
  unfold chM at e
  obtain ⟨i2, -, e⟩ := bind_ok e
  cases e
  exact Sx.rf.ck n5_ch
theorem rp_k5 : ∀ (g md : Nat) (K : List KE) (i : Nat) (σ : PS) (a1 a2 a3 a4 : Nat) (c1 c2 : Int32) (r : Nat × PS × Nat), md ≤ 3 → rp b n m τ g md K i σ a1 a2 a3 a4 c1 c2 = .ok r → K5 (trS σ) (trS r.2.1) := by
  intro g
  induction g with
  | zero => intro md K i σ a1 a2 a3 a4 c1 c2 r _ e; unfold rp at e; cases e
  | succ g ih =>
    intro md K i σ a1 a2 a3 a4 c1 c2 r hm e
    by_cases m2 : md = 2
    · subst m2
      rw [rp_bd] at e
      obtain ⟨u0, -, e⟩ := bind_ok e
      obtain ⟨i1, -, e⟩ := bind_ok e
      obtain ⟨u, eb, e⟩ := bind_ok e
      cases e
      show K5 (trS σ) (trS u.2.1)
      generalize tK b n i = k at eb
      generalize tC b n i = w at eb
      generalize npS σ = j at eb
      have q1 := (pb_bg (m := m) (σ := σ) (k := k) (pl := tP b n i) (q := sqK K) (d := K.length) (wh := whK k w τ)).2
      generalize bgP m k (tP b n i) (sqK K) K.length (whK k w τ) σ = s0 at eb q1
      rw [← q1]
      unfold bdM at eb
      by_cases ko : opnK k = false
      · rw [if_pos ko] at eb
        exact lf_k eb
      rw [if_neg ko] at eb
      obtain ⟨h, eh, eb⟩ := bind_ok eb
      have q2 : K5 (trS s0) (trS (rwP (40 * m + j) none h.2.1)) := hd_k eh
      by_cases k17 : k = 17
      · rw [if_pos k17] at eb
        obtain ⟨q, e1, eb⟩ := bind_ok eb
        cases eb
        exact q2.tr (ih 3 _ _ _ _ _ _ _ _ _ q (by decide) e1)
      rw [if_neg k17] at eb
      obtain ⟨q, e1, eb⟩ := bind_ok eb
      have hq := q2.tr (ih 0 _ _ _ _ _ _ _ _ _ q (by decide) e1)
      by_cases k4 : k = 44 ∨ k = 58
      · rw [if_pos k4] at eb
        by_cases k46 : tK b n q.1 = 46
        · rw [if_pos k46] at eb
          obtain ⟨i2, -, eb⟩ := bind_ok eb
          obtain ⟨t, e2, eb⟩ := bind_ok eb
          have ht : K5 (trS q.2.1) (trS t.2.1) := by
            have q9 := ih 0 _ _ _ _ _ _ _ _ _ t (by decide) e2
            exact q9
          exact (hq.tr ht).tr (ch_k eb)
        · rw [if_neg k46] at eb
          have c1 : Ck q.2.1 (trP1 q.2.1 (mkT (trS q.2.1) 0).1) := Sx.rf.ck n5_mk
          exact (hq.tr c1).tr (ch_k eb)
      rw [if_neg k4] at eb
      exact hq.tr (tl_k eb)
    by_cases m0 : md = 0
    · subst m0
      unfold rp at e
      rw [if_pos rfl] at e
      obtain ⟨q, e1, e⟩ := bind_ok e
      have c1 : Ck σ (trP1 σ (mkT (trS σ) 5).1) := Sx.rf.ck n5_mk
      have hq := K5.tr c1 (ih 2 _ _ _ _ _ _ _ _ _ q (by decide) e1)
      exact (hq.tr n5_hg).tr (ih 1 _ _ _ _ _ _ _ _ _ r (by decide) e)
    by_cases m1 : md = 1
    · subst m1
      unfold rp at e
      rw [if_neg (by decide), if_pos rfl] at e
      by_cases h13 : tK b n i = 13
      · rw [if_pos h13] at e
        obtain ⟨j, -, e⟩ := bind_ok e
        obtain ⟨q, e1, e⟩ := bind_ok e
        have hq := ih 2 _ _ _ _ _ _ _ _ _ q (by decide) e1
        exact (hq.tr n5_hg).tr (ih 1 _ _ _ _ _ _ _ _ _ r (by decide) e)
      · rw [if_neg h13] at e; cases e; exact K5.rf
    · have m3 : md = 3 := by omega
      subst m3
      unfold rp at e
      rw [if_neg m0, if_neg m1, if_neg m2] at e
      obtain ⟨q, e1, e⟩ := bind_ok e
      have hq := ih 0 _ _ _ _ _ _ _ _ _ q (by decide) e1
      have bn : K5 (trS q.2.1) (trS (brP q.2.1 a2 a1 q.2.2 c1 c2)) := br_k (σ := q.2.1) (j := a2) (a := a1) (x := q.2.2) (g := c1) (u := c2)
      by_cases h6 : tK b n q.1 = 6
      · rw [if_pos h6] at e
        by_cases h8 : a4 = 8
        · rw [if_pos h8] at e; cases e
        rw [if_neg h8] at e
        obtain ⟨j, -, e⟩ := bind_ok e
        have h3 : K5 (trS (brP q.2.1 a2 a1 q.2.2 c1 c2)) (trS r.2.1) := by
          have q9 := ih 3 _ _ _ _ _ _ _ _ _ r (by decide) e
          exact q9
        exact (hq.tr bn).tr h3
      · rw [if_neg h6] at e
        obtain ⟨j, -, e⟩ := bind_ok e
        cases e
        exact hq.tr bn
end
end
section
/-! the weaver begins; it walks; it comes to its finish -/
/-- the module as it is given to the weaver -/
def WvZ (n0 l0 r0 : Nat) (Θ : TrT) (N : Nt) (M : Mem) : Prop := WvB n0 l0 r0 M ∧ Fix M ∧ TrP M Θ ∧ CirP M (n0 + 8) l0 r0 N ∧ (ALi M (n0 + 13) (mBig + 5) [] ∧ ALi M (n0 + 14) (mBig + 5) []) ∧ (mR M n0 7 = some (n0 + 8) ∧ ok M n0 3) ∧ mI M (n0 + 8) 15 = 2 ∧ mI M (n0 + 8) 12 = 0 ∧ ∀ k, mAI M (n0 + 21) k = 0
section
variable {n0 l0 r0 nb : Nat} {Θ : TrT} {G : Nat → List Nat} {N : Nt} {Ro : List (Nat × Nat)} {M : Mem} {h x : Nat} {Q : Option Value → Mem → Prop}
theorem W_beg (hZ : WvZ n0 l0 r0 Θ N M) (hR : RoW (N, Ro, [])) (hx : x < 640) (K : ∀ M', WvP n0 l0 r0 N.length Θ M (N, Ro, []) M' → RwP n0 (up4 (mAI M) x 2 3 0 0) 0 M' → mE M M' → Q none M') : E (h + 2) mdX9_begin [.ref 21, .ref (n0 + 8), .int (Int32.ofNat x)] M Q := by
  obtain ⟨hB, F, hT, hC, ⟨hA1, hA2⟩, -, f15, f12, hem⟩ := hZ
  obtain ⟨⟨n1, n2⟩, n3, -, -, -, ⟨n5, n6⟩, -⟩ := id hB
  obtain ⟨⟨p1, p2, p3, p4, p5⟩, ⟨s1, s2, s3, s4, s5⟩⟩ := LcW.far (M0 := M) (Or.inl rfl) (Or.inl rfl) n3 n1 n2
  have lx : (Int32.ofNat x).toNatClampNeg = x := lt32 (by omega)
  have vx : ∀ {k : Nat}, k = 640 → vp_in (Int32.ofNat x) k := fun e => by rw [e]; exact vp_of hx (by decide)
  refine KX9_begin ?_
  unfold DX9_begin_0
  refine ⟨ok21 F, fun M2 e2 => ?_⟩
  have F2 : Fix M2 := by rw [e2]; exact F.r (by decide +kernel)
  have fr2 : fr (fun c => c = 21) M M2 := by rw [e2]; exact fr_wR rfl
  have row2 : ∀ c, c < mN M → c ≠ 21 → sameRow M M2 c := fun c z y => fr2.2 c z y
  have W2 : WvP n0 l0 r0 N.length Θ M (N, Ro, []) M2 := by
    have al : ∀ {a : Nat}, a = n0 + 13 ∨ a = n0 + 14 → ALi M a (mBig + 5) [] → ALi M2 a (mBig + 5) [] := by
      intro a ha hA
      refine hA.fr fr2 (fun z => by omega) (fun hb z => ?_) (fun d _ z w => ?_)
      · rw [z, (ok21 F).2] at hb; exact absurd hb (by decide)
      · rw [z, (ok21 F).2] at w; exact absurd w (by decide)
    refine ⟨l0, r0, mBig + 5, mBig + 5, [], ⟨F2, by rw [e2]; exact hT, by rw [e2, mR_wR, if_pos ⟨rfl, rfl⟩]⟩, hC.fr fr2.1 (row2 _ hC.1.1 (by omega)) (row2 _ n5.1 (by omega)) (row2 _ n6.1 (by omega)), ⟨Or.inl rfl, Or.inl rfl⟩, ⟨al (Or.inl rfl) hA1, al (Or.inr rfl) hA2, rfl⟩, ⟨Or.inl rfl, Or.inl rfl, fun _ => rfl⟩, ⟨fr2.more (fun c _ z => Or.inl (by omega)), fun f _ _ _ => by rw [e2]; rfl, fun f _ _ => ?_⟩, hR, ⟨fun i hi => absurd hi (Nat.not_lt_zero _), fun n i hn ri => absurd (hR.2.2 n i hn ri) (Nat.not_lt_zero _)⟩, ?_⟩
    · rw [e2, mR_wR, if_neg (by omega)]
    · unfold RmW
      rw [e2]
      have zz : ∀ X : Mem, Lb X (mBig + 5) = 0 := fun X => by unfold Lb; rw [if_neg (by omega)]
      rw [zz]
      refine ⟨⟨Nat.le_refl _, Nat.le_add_right _ _⟩, ⟨?_, Nat.zero_le _, Nat.zero_le _⟩, Nat.zero_le _⟩
      show mS M + 4 * mL M l0 ≤ mS M + 4 * mL M l0 + 4 * 0 + 4 * 0 + 2 * 0
      omega
  have P2 : RwP n0 (mAI M) 0 M2 := ⟨fun c j _ => by rw [e2]; rfl, by rw [e2]; exact f12⟩
  obtain ⟨-, -, h82, o82, -⟩ := W2.sees hB
  have g15 : mI M2 (n0 + 8) 15 = 2 := by rw [e2]; exact f15
  rw [lx]
  refine ⟨22, rf21_1 F2, n0 + 8, h82, o82, ok22 F2, vx (ln22 F2), fun M7 e7 => ?_⟩
  rw [g15] at e7
  have W7 := W2.wr hB (Or.inl (by omega)) e7
  have P7 := P2.up e7
  obtain ⟨F7, -, h87, o87, -⟩ := W7.sees hB
  have g7 : mI M7 (n0 + 8) 15 = Int32.ofNat 2 := by rw [e7]; exact g15
  refine ⟨23, rf21_2 F7, n0 + 8, h87, o87, ?_⟩
  rw [g7]
  refine S_not (h := h) (a := 2) (by decide) (fun _ => ⟨_, rfl, ok23 F7, vx (ln23 F7), fun M14 e14 => ?_⟩)
  have W14 := W7.wr hB (Or.inl (by omega)) e14
  have P14 := P7.up e14
  obtain ⟨F14, -⟩ := W14.sees hB
  refine ⟨24, rf21_3 F14, ok24 F14, vx (ln24 F14), fun M17 e17 => ?_⟩
  have W17 := W14.wr hB (Or.inl (by omega)) e17
  have P17 := P14.up e17
  obtain ⟨F17, -⟩ := W17.sees hB
  refine ⟨25, rf21_4 F17, ok25 F17, vx (ln25 F17), fun M20 e20 => ?_⟩
  have W20 := W17.wr hB (Or.inl (by omega)) e20
  have P20 := P17.up e20
  refine K M20 W20 (P20.cg (fun c j _ => ?_)) (by rw [e20, e17, e14, e7]; exact fr2.1.tr (((mE_wAI.tr mE_wAI).tr mE_wAI).tr mE_wAI))
  unfold up4 up2
  by_cases hj : j = x
  · by_cases h1 : c = 22
    · subst h1; simp [hj]
    · by_cases h2 : c = 23
      · subst h2; simp [hj]; rfl
      · by_cases h3 : c = 24
        · subst h3; simp [hj]
        · by_cases h4 : c = 25
          · subst h4; simp [hj]
          · simp [h1, h2, h3, h4]
  · simp [hj]
theorem W_wv {g : Nat} (hZ : WvZ n0 l0 r0 Θ N M) (hR : RoW (N, Ro, [])) (hN : 2 ≤ N.length ∧ N.length < 40000) (hf : ∀ z y y', z ∈ G y → z ∈ G y' → y = y') (hft : FtN G g x) (hnd : (noL G g x).Nodup) (hsh : ∀ z, z ∈ noL G g x → ShN Θ G nb z) (hlen : (noL G g x).length ≤ 400) (hnb : nb ≤ N.length) (e16 : mI M n0 16 = Int32.ofNat x) (p9 : Θ.2.2 9 x = 0) (p8 : Θ.2.2 8 x = 0) (k5 : Θ.2.2 5 x ≠ 8) (k0 : Θ.2.2 5 0 = 0) (K : ∀ M' Ψ' P' zp', WvP n0 l0 r0 N.length Θ M Ψ' M' → RwP n0 P' zp' M' → WkQ Θ G n0 g x (N, Ro, []) (up4 (mAI M) x 2 3 0 0) 0 Ψ' P' zp' → DX9_weave_137 (h + 9) 21 n0 M' Q) : E (h + 10) mdX9_weave [.ref 21, .ref n0] M Q := by
  have hs := hsh x (noL_hd hft)
  obtain ⟨⟨x1, x2, x3⟩, -⟩ := id hs
  obtain ⟨hB, F, hT, hC, -, ⟨f7, o3⟩, -, -, hem⟩ := id hZ
  have hn0 := hB.1.1
  refine KX9_weave (h := h + 9) ?_
  unfold DX9_weave_0
  refine ⟨o3, n0 + 8, f7, ok21 F, ?_⟩
  rw [e16]
  refine W_beg (h := h + 7) hZ hR x3 (fun M4 W4 P4 _ _ => ⟨rfl, ?_⟩)
  have okz : ∀ n, n < 4 → okI (N, Ro, []) (Int32.ofNat n) := fun n hn => ⟨n, rfl, by show n < 2 * N.length; omega⟩
  refine W_walk (h := h) (Q := Q) hB hf g x M4 (N, Ro, []) _ 0 0 hft hnd hsh W4 P4 hnb (fun c z1 z2 => ?_) (fun s hs => ?_) (by show N.length + _ < _; omega) (by omega) (fun M' Ψ' P' zp' W' R' q => ?_)
  · have : c = 22 ∨ c = 23 ∨ c = 24 ∨ c = 25 := by omega
    have q4 : up4 (mAI M) x 2 3 0 0 22 x = 2 ∧ up4 (mAI M) x 2 3 0 0 23 x = 3 ∧ up4 (mAI M) x 2 3 0 0 24 x = 0 ∧ up4 (mAI M) x 2 3 0 0 25 x = 0 := by unfold up4; simp
    rcases this with e | e | e | e
    · rw [e, q4.1]; exact okz 2 (by decide)
    · rw [e, q4.2.1]; exact okz 3 (by decide)
    · rw [e, q4.2.2.1]; exact okz 0 (by decide)
    · rw [e, q4.2.2.2]; exact okz 0 (by decide)
  · have e : up4 (mAI M) x 2 3 0 0 (n0 + 21) s = 0 := by
      unfold up4
      by_cases hj : s = x
      · rw [if_pos hj, if_neg (by omega), if_neg (by omega), if_neg (by omega), if_neg (by omega)]; exact hem s
      · rw [if_neg hj]; exact hem s
    rw [e]; exact okz 0 (by decide)
  obtain ⟨F', hT', -, -, hR', -⟩ := W'.sees hB
  have k := K M' Ψ' P' zp' W' R' q
  obtain ⟨st, est⟩ : ∃ st, st = 0 + 2 * (noL G g x).length - 1 := ⟨_, rfl⟩
  rw [← est]
  have lx : (Int32.ofNat x).toNatClampNeg = x := lt32 (by omega)
  have n1280 : ¬ (1280 : Int32) ≤ Int32.ofNat st := fun z => by
    have := (le32 (a := 1280) (by decide) (by omega)).mp z
    omega
  have nz : ¬ Int32.ofNat x = 0 := fun z => by
    have := inj32 (a := x) (b := 0) (by omega) (by decide) z
    omega
  have g5 : mAI M' 5 x = Θ.2.2 5 x := by rw [hT'.2.2.2.1 5 (by decide) (by decide)]
  have g8 : mAI M' 8 x = 0 := by rw [hT'.2.2.2.1 8 (by decide) (by decide)]; exact p8
  have g9 : mAI M' 9 x = 0 := by rw [hT'.2.2.2.1 9 (by decide) (by decide)]; exact p9
  unfold T19
  refine VX9_weave_19 (h := h + 9) ?_
  unfold DX9_weave_19
  rw [lx]
  refine ⟨fun z => absurd z n1280, fun _ => ⟨fun z => absurd z nz, fun _ => ⟨fun _ => ⟨ok21 F', 4, rf21_0 F', ok4 F', 5, rf4_0 F', ok5 F', by rw [ln5 F']; exact vp_of x3 (by decide), ?_⟩, fun z => absurd rfl z⟩⟩⟩
  rw [g5]
  refine ⟨fun _ => ?_, fun z => absurd z k5⟩
  unfold DX9_weave_73
  refine ⟨ok21 F', W_lv0 (h := h) (a := 0) hB W' x3 (by decide) p9 (by rw [k0]; decide) (fun _ => ⟨rfl, 4, rf21_0 F', ok4 F', 8, rf4_3 F', ok8 F', by rw [ln8 F']; exact vp_of x3 (by decide), ?_⟩)⟩
  rw [lx, g8]
  refine ⟨fun z => absurd rfl z, fun _ => ⟨4, rf21_0 F', ok4 F', 9, rf4_4 F', ok9 F', by rw [ln9 F']; exact vp_of x3 (by decide), ?_⟩⟩
  rw [g9]
  unfold DX9_weave_107 DX9_weave_108 DX9_weave_118 DX9_weave_131
  refine ⟨fun _ => ⟨fun _ => ?_, fun z => absurd rfl z⟩, fun z => absurd rfl z⟩
  refine VX9_weave_19 (h := h + 9) ?_
  unfold DX9_weave_19
  exact ⟨fun _ => k, fun _ => ⟨fun _ => k, fun z => absurd rfl z⟩⟩
end
end
section
/-! the weaver's finish: signals are closed -/
/-- the module's signals, as the weaver finds them -/
def FnB (n0 S : Nat) (ro : List Int32) (M0 : Mem) : Prop := ok M0 n0 3 ∧ (mI M0 n0 9 = Int32.ofNat S ∧ S ≤ 16) ∧ (mR M0 n0 1 = some (n0 + 2) ∧ ok M0 (n0 + 2) 21 ∧ mL M0 (n0 + 2) = 16 ∧ ∀ j, j < S → mAI M0 (n0 + 2) j = ro.getD j 0) ∧ (mR M0 (n0 + 8) 13 = some (n0 + 20) ∧ ok M0 (n0 + 20) 21 ∧ mL M0 (n0 + 20) = 16 ∧ ∀ j, j < S → mAI M0 (n0 + 20) j = Int32.ofNat (2 * (2 + j)))
/-- signals below s are closed -/
def FiQ (ro : List Int32) (em : Nat → Int32) (s : Nat) (Ψ Ψ' : Wg) : Prop := Ψ'.2 = Ψ.2 ∧ Ψ'.1.length = Ψ.1.length ∧ (∀ n, n < Ψ.1.length → (∀ t, t < s → ro.getD t 0 ≠ 30 → n ≠ 2 + t) → Ψ'.1.getD n (0, 0) = Ψ.1.getD n (0, 0)) ∧ ∀ t, t < s → ro.getD t 0 ≠ 30 → ∃ l, em t = Int32.ofNat l ∧ l < 2 * Ψ.1.length ∧ Ψ'.1.getD (2 + t) (0, 0) = (l, l)
section
variable {n0 l0 r0 N0 S x : Nat} {ro : List Int32} {Θ : TrT} {M0 M : Mem} {Ψ : Wg} {h : Nat} {Q : Option Value → Mem → Prop} {P : Nat → Nat → Int32} {zp : Int32}
theorem W_fin1 (hB : WvB n0 l0 r0 M0) (hW : WvP n0 l0 r0 N0 Θ M0 Ψ M) (hP : RwP n0 P zp M) (hlim : Ψ.1.length < 99000) (hF : FnB n0 S ro M0) (hro : ∀ t, t < S → 2 + t < Ψ.1.length ∧ (Ψ.2.1.getD (2 + t) (0, 0)).1 ≠ 0 ∧ (Ψ.2.1.getD (2 + t) (0, 0)).1 ≠ 6) (hem : ∀ s, s < 16 → okI Ψ (P (n0 + 21) s)) (hx : x < 640) (e16 : mI M0 n0 16 = Int32.ofNat x) (K : ∀ M' Ψ', WvP n0 l0 r0 N0 Θ M0 Ψ' M' → RwP n0 P zp M' → mI M' (n0 + 8) 16 = P 28 (x * 20) → FiQ ro (P (n0 + 21)) S Ψ Ψ' → T (h + 2) mdX9_finish 73 [(0, .ref 21), (1, .ref n0), (2, .int 0)] [] M' Q) : E (h + 2) mdX9_finish [.ref 21, .ref n0] M Q := by
  obtain ⟨o3, ⟨f9, S16⟩, ⟨f1, o2, l2, r2⟩, ⟨f13, o20, l20, r20⟩⟩ := hF
  obtain ⟨⟨n1, n2⟩, n3, ⟨-, -, -, -, -, f14⟩, -, ⟨n9, n10⟩, -⟩ := id hB
  have w28 : wvC n0 28 := Or.inl (by omega)
  have w21 : wvC n0 (n0 + 21) := Or.inr (Or.inr rfl)
  -- rows of the module that the weaver leaves alone
  have keep : ∀ {Ψi : Wg} {Mi : Mem}, WvP n0 l0 r0 N0 Θ M0 Ψi Mi → ∀ c, c = n0 ∨ c = n0 + 2 ∨ c = n0 + 20 → sameRow M0 Mi c ∧ mE M0 Mi := by
    intro Ψi Mi W c hc
    obtain ⟨lc, rc, b1, b2, hl, hH⟩ := W
    have f := hH.2.2.2.2.2.1.1
    refine ⟨f.2 c (by omega) (fun z => ?_), f.1⟩
    unfold wvS at z
    unfold LrB at n3
    omega
  obtain ⟨F, hT, h8, o8, hRo, -⟩ := hW.sees hB
  have k0 := keep hW n0 (Or.inl rfl)
  have e16' : mI M n0 16 = Int32.ofNat x := by rw [k0.1.1]; exact e16
  have e20 : Int32.ofNat x * 20 = Int32.ofNat (x * 20) := by rw [Int32.ofNat_mul]; rfl
  have g28 : mAI M 28 (x * 20) = P 28 (x * 20) := hP.1 28 _ w28
  refine KX9_finish (h := h + 1) ?_
  unfold DX9_finish_0
  rw [e16', e20, lt32 (show x * 20 < 2147483648 by omega)]
  refine ⟨ok21 F, n0 + 8, h8, 28, rf21_7 F, ok_E o3 k0.2, ok28 F, by rw [ln28 F]; exact vp_of (by omega) (by decide), o8, fun M7 e7 => ?_⟩
  rw [g28] at e7
  have W7 := hW.wi hB (Or.inr rfl) e7
  have P7 : RwP n0 P zp M7 := ⟨fun c j hc => by rw [e7]; exact hP.1 c j hc, by rw [e7, mI_wI, if_neg (by omega)]; exact hP.2⟩
  have i16 : mI M7 (n0 + 8) 16 = P 28 (x * 20) := by rw [e7]; exact mI_own _ _ _ _
  have main : ∀ (d s : Nat) (M1 : Mem) (Ψ1 : Wg), s + d = S → WvP n0 l0 r0 N0 Θ M0 Ψ1 M1 → RwP n0 P zp M1 → mI M1 (n0 + 8) 16 = P 28 (x * 20) → FiQ ro (P (n0 + 21)) s Ψ Ψ1 → T (h + 2) mdX9_finish 21 [(0, .ref 21), (1, .ref n0), (2, .int (Int32.ofNat s))] [] M1 Q := by
    intro d
    induction d with
    | zero =>
      intro s M1 Ψ1 hs W1 R1 q1 q2
      have e : s = S := by omega
      subst e
      have kn := keep W1 n0 (Or.inl rfl)
      refine VX9_finish_21 (h := h + 1) ?_
      unfold DX9_finish_21
      rw [show mI M1 n0 9 = Int32.ofNat s by rw [kn.1.1]; exact f9]
      exact ⟨ok_E o3 kn.2, fun _ => K M1 Ψ1 W1 R1 q1 q2, fun z => absurd Int32.le_rfl z⟩
    | succ d ih =>
      intro s M1 Ψ1 hs W1 R1 q1 q2
      obtain ⟨F1, -, h81, o81, hRo1, -, hRf1, hE1⟩ := W1.sees hB
      have kn := keep W1 n0 (Or.inl rfl)
      have kr := keep W1 (n0 + 2) (Or.inr (Or.inl rfl))
      have ks := keep W1 (n0 + 20) (Or.inr (Or.inr rfl))
      have ls : (Int32.ofNat s).toNatClampNeg = s := lt32 (by omega)
      have vs : ∀ {k : Nat}, k = 16 → vp_in (Int32.ofNat s) k := fun e => by rw [e]; exact vp_of (by omega) (by decide)
      have nle : ¬ Int32.ofNat S ≤ Int32.ofNat s := fun z => by
        have := (le32 (by omega) (by omega)).mp z
        omega
      have gr : mAI M1 (n0 + 2) s = ro.getD s 0 := by rw [kr.1.2.2.2.1]; exact r2 s (by omega)
      have gs : mAI M1 (n0 + 20) s = Int32.ofNat (2 * (2 + s)) := by rw [ks.1.2.2.2.1]; exact r20 s (by omega)
      have ge : mAI M1 (n0 + 21) s = P (n0 + 21) s := R1.1 _ s w21
      have ff : ∀ {f v : Nat}, f ≠ 0 → f ≠ 1 → mR M0 (n0 + 8) f = some v → mR M1 (n0 + 8) f = some v := fun z1 z2 e => by rw [hRf1 _ z1 z2]; exact e
      have nx : ∀ M2 Ψ2, WvP n0 l0 r0 N0 Θ M0 Ψ2 M2 → RwP n0 P zp M2 → mI M2 (n0 + 8) 16 = P 28 (x * 20) → FiQ ro (P (n0 + 21)) (s + 1) Ψ Ψ2 → DX9_finish_65 (h + 1) 21 n0 (Int32.ofNat s) M2 Q := by
        intro M2 Ψ2 W2 R2 p1 p2
        unfold DX9_finish_65
        rw [succ32]
        exact ih (s + 1) M2 Ψ2 (by omega) W2 R2 p1 p2
      refine VX9_finish_21 (h := h + 1) ?_
      unfold DX9_finish_21
      rw [show mI M1 n0 9 = Int32.ofNat S by rw [kn.1.1]; exact f9, ls]
      refine ⟨ok_E o3 kn.2, fun z => absurd z nle, fun _ => ⟨n0 + 2, by rw [kn.1.2.2.1]; exact f1, ok_E o2 hE1, vs ((hE1.2.2 _ o2.1).2.trans l2), ?_⟩⟩
      rw [gr]
      refine ⟨fun e => nx M1 Ψ1 W1 R1 q1 ⟨q2.1, q2.2.1, fun n hn hh => q2.2.2.1 n hn (fun t ht => hh t (by omega)), fun t ht e2 => ?_⟩, fun e => ?_⟩
      · by_cases y : t = s
        · rw [y] at e2; exact absurd e e2
        · exact q2.2.2.2 t (by omega) e2
      · refine ⟨ok21 F1, n0 + 8, h81, n0 + 8, h81, o81, n0 + 20, ff (by decide) (by decide) f13, ok_E o20 hE1, vs ((hE1.2.2 _ o20.1).2.trans l20), n0 + 8, h81, o81, n0 + 21, ff (by decide) (by decide) f14, ok_E n9 hE1, vs ((hE1.2.2 _ n9.1).2.trans n10), o81, ?_⟩
        rw [gs, ge]
        obtain ⟨l, el, hl⟩ := hem s (by omega)
        rw [el]
        obtain ⟨y1, y2⟩ := hro s (by omega)
        have len1 := q2.2.1
        have rol : (Ψ1.2.1.getD (2 + s) (0, 0)).1 ≠ 0 ∧ (Ψ1.2.1.getD (2 + s) (0, 0)).1 ≠ 6 := by rw [q2.1]; exact y2
        refine W_close (h := h) hB W1 (by omega) (by omega) rol (by omega) (fun M2 Ψ2 W2 O2 G2 L2 d2 e2 _ => ⟨rfl, nx M2 Ψ2 W2 (R1.ob O2) ((O2.2.2 16 (Or.inr rfl)).trans q1) ⟨e2.trans q2.1, L2.trans len1, fun n hn hh => ?_, fun t ht et => ?_⟩⟩)
        · rw [G2.2.1 n (by omega) (fun z => hh s (by omega) e z)]
          exact q2.2.2.1 n hn (fun t ht => hh t (by omega))
        · by_cases z : t = s
          · rw [z]
            exact ⟨l, el, hl, d2⟩
          · obtain ⟨l', p1, p2, p3⟩ := q2.2.2.2 t (by omega) et
            have := (hro t (by omega)).1
            exact ⟨l', p1, p2, by rw [G2.2.1 (2 + t) (by omega) (fun y => z (by omega))]; exact p3⟩
  exact main S 0 M7 Ψ (by omega) W7 P7 i16 ⟨rfl, rfl, fun _ _ _ => rfl, fun t ht => absurd ht (Nat.not_lt_zero _)⟩
end
end
