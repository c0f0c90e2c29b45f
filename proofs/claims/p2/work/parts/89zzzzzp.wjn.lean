/-! the weaver joins branches -/
def oI (f : Nat → Nat) : Nat → Nat
  | 0 => 0
  | i + 1 => v3O (oI f i) (f i)
def aI (f : Nat → Nat) : Nat → Nat
  | 0 => 1
  | i + 1 => v3A (aI f i) (f i)
def rcV (st : Nat) (f : Nat → Nat) : Nat → Nat
  | 0 => st
  | n + 1 => v3O (rcV st f n) (f n)
theorem oI_cg {f g : Nat → Nat} : ∀ (n : Nat), (∀ k, k < n → f k = g k) → oI f n = oI g n
  | 0, _ => rfl
  | n + 1, h => by
    show v3O (oI f n) (f n) = v3O (oI g n) (g n)
    rw [oI_cg n (fun k hk => h k (by omega)), h n (by omega)]
theorem aI_cg {f g : Nat → Nat} : ∀ (n : Nat), (∀ k, k < n → f k = g k) → aI f n = aI g n
  | 0, _ => rfl
  | n + 1, h => by
    show v3A (aI f n) (f n) = v3A (aI g n) (g n)
    rw [aI_cg n (fun k hk => h k (by omega)), h n (by omega)]
/-- the children of x, as the tree's links tell them -/
def ChL (Θ : TrT) (x : Nat) (l : List Nat) : Prop := Θ.2.2 6 x = Int32.ofNat (l.getD 0 0) ∧ (∀ i, i < l.length → Θ.2.2 8 (l.getD i 0) = Int32.ofNat (l.getD (i + 1) 0)) ∧ (∀ i, i < l.length → 1 ≤ l.getD i 0 ∧ l.getD i 0 < 640 ∧ l.getD i 0 ≠ x) ∧ (∀ i j, i < l.length → j < l.length → l.getD i 0 = l.getD j 0 → i = j) ∧ l.length < 640
theorem gd_end {l : List Nat} : l.getD l.length 0 = 0 := by rw [List.getD_eq_getElem?_getD, List.getElem?_eq_none (Nat.le_refl _)]; rfl
section
variable {n0 l0 r0 N0 : Nat} {Θ : TrT} {M0 M M' : Mem} {Ψ Ψ' : Wg} {h : Nat} {Q : Option Value → Mem → Prop} {P P1 : Nat → Nat → Int32} {zp : Int32} {x : Nat} {l : List Nat}
theorem W_jn {n : Nat} (hB : WvB n0 l0 r0 M0) (hW : WvP n0 l0 r0 N0 Θ M0 Ψ M) (hP : RwP n0 P zp M) (hlim : Ψ.1.length + 3 * l.length < 99900) (hx : x < 640) (hn : n < 20) (hL : ChL Θ x l) (hkc : ∀ i, i < l.length → okI Ψ (P 28 (l.getD i 0 * 20 + n))) (hrc : ∀ i, i < l.length → okI Ψ (P 27 (l.getD i 0))) (K : ∀ M' Ψ' P' r, WvP n0 l0 r0 N0 Θ M0 Ψ' M' → RwP n0 P' zp M' → Gr noN Ψ Ψ' → (Ψ'.1.length ≤ Ψ.1.length + 3 * l.length + 1 ∧ Ψ'.2.2.length = Ψ.2.2.length) → (∀ c j, c ≠ 27 → P' c j = P c j) → (∀ i, i < l.length → okI Ψ' (P' 27 (l.getD i 0))) → okI Ψ' r → (∀ w HV, gW Ψ' w HV → (∀ i, i < l.length → lV w (P' 27 (l.getD i 0)) = v3O (lV w (P 27 (l.getD i 0))) (lV w (P 28 (l.getD i 0 * 20 + n)))) ∧ lV w r = v3A (oI (fun i => lV w (P 28 (l.getD i 0 * 20 + n))) l.length) (aI (fun i => lV w (P' 27 (l.getD i 0))) l.length)) → Q (some (.int r)) M') : E (h + 6) mdX9_joined [.ref 21, .int (Int32.ofNat x), .int (Int32.ofNat n)] M Q := by
  obtain ⟨h6, h8n, hb, hnd, hln⟩ := hL
  obtain ⟨F, hT, h8, o8, hRo, l1, hRf, hE0⟩ := hW.sees hB
  have w27 : wvC n0 27 := Or.inl (by omega)
  have w28 : wvC n0 28 := Or.inl (by omega)
  have main : ∀ (d i : Nat) (M1 : Mem) (Ψ1 : Wg) (P1 : Nat → Nat → Int32) (any all : Int32), i + d = l.length → WvP n0 l0 r0 N0 Θ M0 Ψ1 M1 → RwP n0 P1 zp M1 → Gr noN Ψ Ψ1 → (Ψ1.1.length ≤ Ψ.1.length + 3 * i ∧ Ψ1.2.2.length = Ψ.2.2.length) → (∀ c j, c ≠ 27 → P1 c j = P c j) → (∀ k, i ≤ k → k < l.length → P1 27 (l.getD k 0) = P 27 (l.getD k 0)) → (∀ k, k < l.length → okI Ψ1 (P1 27 (l.getD k 0))) → okI Ψ1 any → okI Ψ1 all → (∀ w HV, gW Ψ1 w HV → (∀ k, k < i → lV w (P1 27 (l.getD k 0)) = v3O (lV w (P 27 (l.getD k 0))) (lV w (P 28 (l.getD k 0 * 20 + n)))) ∧ lV w any = oI (fun k => lV w (P 28 (l.getD k 0 * 20 + n))) i ∧ lV w all = aI (fun k => lV w (P1 27 (l.getD k 0))) i) → T (h + 6) mdX9_joined 19 [(0, .ref 21), (2, .int (Int32.ofNat n)), (3, .int any), (4, .int all), (5, .int (Int32.ofNat (l.getD i 0))), (6, .int (Int32.ofNat i))] [] M1 Q := by
    intro d
    induction d with
    | zero =>
      intro i M1 Ψ1 P1 any all hi W1 R1 G1 L1 q1 q2 q3 oa ol s1
      have e : i = l.length := by omega
      subst e
      obtain ⟨F1, -, h81, o81, hRo1, -⟩ := W1.sees hB
      refine VX9_joined_19 ?_
      unfold DX9_joined_19
      have fin : DX9_joined_116 (h + 5) 21 any all M1 Q := by
        unfold DX9_joined_116
        refine ⟨ok21 F1, n0 + 8, h81, o81, W_and (h := h + 1) hB W1 (by omega) oa ol (fun M4 Ψ4 r5 W4 O4 G4 L4 k5 s5 _ => ⟨_, rfl, ?_⟩)⟩
        obtain ⟨F4, -, -, -, hRo4, -⟩ := W4.sees hB
        refine K M4 Ψ4 P1 r5 W4 (R1.ob O4) (G1.tr G4 (fun _ _ z => z)) (by omega) q1 (fun k hk => (q3 k hk).gr G4) k5 (fun w HV g => ?_)
        have b1 := g.bk G4 hRo1 hRo4 (fun _ _ z => z.elim)
        obtain ⟨t1, t2, t3⟩ := s1 w HV b1
        exact ⟨t1, by rw [s5 w HV g, t2, t3]⟩
      exact ⟨fun _ => fin, fun _ => ⟨fun _ => fin, fun z => absurd (by rw [gd_end]; rfl) z⟩⟩
    | succ d ih =>
      intro i M1 Ψ1 P1 any all hi W1 R1 G1 L1 q1 q2 q3 oa ol s1
      have hi' : i < l.length := by omega
      obtain ⟨b1, b2, b3⟩ := hb i hi'
      obtain ⟨F1, -, h81, o81, hRo1, -⟩ := W1.sees hB
      have e8 := h8n i hi'
      obtain ⟨c, ec⟩ : ∃ c, c = l.getD i 0 := ⟨_, rfl⟩
      rw [← ec] at b1 b2 b3 e8 ⊢
      have ci : Int32.ofNat c * 20 + Int32.ofNat n = Int32.ofNat (c * 20 + n) := by rw [Int32.ofNat_add, Int32.ofNat_mul]; rfl
      have lci : (Int32.ofNat (c * 20 + n)).toNatClampNeg = c * 20 + n := lt32 (by omega)
      have lc : (Int32.ofNat c).toNatClampNeg = c := lt32 (by omega)
      have vc : ∀ {k : Nat}, k = 640 → vp_in (Int32.ofNat c) k := fun e => by rw [e]; exact vp_of b2 (by decide)
      have gk : mAI M1 28 (c * 20 + n) = P 28 (c * 20 + n) := (R1.1 28 _ w28).trans (q1 _ _ (by decide))
      have gr : mAI M1 27 c = P 27 c := (R1.1 27 _ w27).trans (by rw [ec]; exact q2 i (Nat.le_refl _) hi')
      have okk : okI Ψ1 (P 28 (c * 20 + n)) := by rw [ec]; exact (hkc i hi').gr G1
      have okr : okI Ψ1 (P 27 c) := by rw [ec]; exact (hrc i hi').gr G1
      have nz : ¬ Int32.ofNat c = 0 := fun z => by
        have := inj32 (a := c) (b := 0) (by omega) (by decide) z
        omega
      have nle : ¬ (640 : Int32) ≤ Int32.ofNat i := fun z => by
        have := (le32 (a := 640) (by decide) (by omega)).mp z
        omega
      refine VX9_joined_19 ?_
      unfold DX9_joined_19
      rw [ci, lci, lc]
      refine ⟨fun z => absurd z nle, fun _ => ⟨fun z => absurd z nz, fun _ => ⟨ok21 F1, 28, rf21_7 F1, ok28 F1, by rw [ln28 F1]; exact vp_of (by omega) (by decide), 27, rf21_6 F1, n0 + 8, h81, 27, rf21_6 F1, ok27 F1, vc (ln27 F1), o81, ?_⟩⟩⟩
      rw [gk, gr]
      refine W_or (h := h) hB W1 (by omega) okr okk (fun M9 Ψ9 r10 W9 O9 G9 L9 k10 s10 _ => ⟨_, rfl, ?_⟩)
      obtain ⟨F9, -, -, -, hRo9, -⟩ := W9.sees hB
      refine ⟨ok27 F9, vc (ln27 F9), fun M12 e12 => ?_⟩
      have W12 := W9.wr hB w27 e12
      have R12 := (R1.ob O9).up e12
      obtain ⟨F12, -, h812, o812, -⟩ := W12.sees hB
      refine ⟨n0 + 8, h812, o812, W_or (h := h) hB W12 (by omega) (oa.gr G9) (okk.gr G9) (fun M15 Ψ15 r16 W15 O15 G15 L15 k16 s16 _ => ⟨_, rfl, ?_⟩)⟩
      obtain ⟨F15, -, h815, o815, hRo15, -⟩ := W15.sees hB
      have R15 := R12.ob O15
      have g27 : mAI M15 27 c = r10 := (R15.1 27 _ w27).trans up2_eq
      refine ⟨n0 + 8, h815, 27, rf21_6 F15, ok27 F15, vc (ln27 F15), o815, ?_⟩
      rw [g27]
      refine W_and (h := h + 1) hB W15 (by omega) ((ol.gr G9).gr G15) (k10.gr G15) (fun M21 Ψ21 r22 W21 O21 G21 L21 k22 s22 _ => ⟨_, rfl, ?_⟩)
      obtain ⟨F21, hT21, -, -, hRo21, -⟩ := W21.sees hB
      have g8 : mAI M21 8 c = Int32.ofNat (l.getD (i + 1) 0) := by rw [hT21.2.2.2.1 8 (by decide) (by decide)]; exact e8
      refine ⟨4, rf21_0 F21, ok4 F21, 8, rf4_3 F21, ok8 F21, vc (ln8 F21), ?_⟩
      rw [g8, succ32]
      have GG : Gr noN Ψ1 Ψ21 := (G9.tr G15 (fun _ _ z => z)).tr G21 (fun _ _ z => z)
      have nec : ∀ k, k < l.length → k ≠ i → l.getD k 0 ≠ c := fun k hk ne z => ne (hnd k i hk hi' (z.trans ec))
      refine ih (i + 1) M21 Ψ21 (up2 P1 27 c r10) r16 r22 (by omega) W21 (R15.ob O21) (G1.tr GG (fun _ _ z => z)) (by omega) (fun c' j hc => by rw [up2_ne (fun z => hc z.1)]; exact q1 c' j hc) (fun k hk hk2 => by rw [up2_ne (fun z => nec k hk2 (by omega) z.2)]; exact q2 k (by omega) hk2) (fun k hk => ?_) (k16.gr G21) k22 (fun w HV g => ?_)
      · by_cases z : k = i
        · rw [z, ← ec, up2_eq]; exact (k10.gr G15).gr G21
        · rw [up2_ne (fun y => nec k hk z y.2)]; exact (q3 k hk).gr GG
      · have b15 := g.bk G21 hRo15 hRo21 (fun _ _ z => z.elim)
        have b9 := b15.bk G15 hRo9 hRo15 (fun _ _ z => z.elim)
        have b1 := b9.bk G9 hRo1 hRo9 (fun _ _ z => z.elim)
        obtain ⟨t1, t2, t3⟩ := s1 w HV b1
        have cg : aI (fun k => lV w (up2 P1 27 c r10 27 (l.getD k 0))) i = aI (fun k => lV w (P1 27 (l.getD k 0))) i := aI_cg i (fun k hk => by rw [up2_ne (fun y => nec k (by omega) (by omega) y.2)])
        refine ⟨fun k hk => ?_, ?_, ?_⟩
        · by_cases z : k = i
          · rw [z, ← ec, up2_eq, s10 w HV b9]
          · rw [up2_ne (fun y => nec k (by omega) z y.2)]; exact t1 k (by omega)
        · show _ = v3O (oI _ i) (lV w (P 28 (l.getD i 0 * 20 + n)))
          rw [s16 w HV b15, t2, ← ec]
        · show _ = v3A (aI _ i) (lV w (up2 P1 27 c r10 27 (l.getD i 0)))
          rw [s22 w HV g, t3, cg, ← ec, up2_eq]
  refine KX9_joined (h := h + 5) ?_
  unfold DX9_joined_0
  have g6 : mAI M 6 x = Int32.ofNat (l.getD 0 0) := by rw [hT.2.2.2.1 6 (by decide) (by decide)]; exact h6
  rw [lt32 (show x < 2147483648 by omega)]
  refine ⟨ok21 F, 4, rf21_0 F, ok4 F, 6, rf4_1 F, ok6 F, by rw [ln6 F]; exact vp_of hx (by decide), ?_⟩
  rw [g6]
  refine main l.length 0 M Ψ P 0 1 (by omega) hW hP Gr.rf (by omega) (fun _ _ _ => rfl) (fun _ _ _ => rfl) hrc ⟨0, rfl, by omega⟩ ⟨1, rfl, by omega⟩ (fun w HV g => ⟨fun k hk => absurd hk (Nat.not_lt_zero _), ?_, ?_⟩)
  · have e : (0 : Int32) = Int32.ofNat 0 := rfl
    rw [e, lV_of (by decide), lR_0 g.1]
    rfl
  · have e : (1 : Int32) = Int32.ofNat 1 := rfl
    rw [e, lV_of (by decide), lR_1 g.1]
    rfl
/-- code n of parallel branches l below x -/
def jbV (Θ : TrT) (P : Nat → Nat → Int32) (x : Nat) (l : List Nat) (n : Nat) (w : Nat → Nat) (HV : Int32 → Nat) : Nat := v3A (oI (fun i => lV w (P 28 (l.getD i 0 * 20 + n))) l.length) (aI (fun i => rcV (v3A (v3A (lV w (P 23 x)) (HV (Θ.2.2 12 x))) (v3N (HV (Θ.2.2 12 (l.getD i 0))))) (fun j => lV w (P 28 (l.getD i 0 * 20 + j))) (n + 1)) l.length)
theorem W_jb (hB : WvB n0 l0 r0 M0) (hW : WvP n0 l0 r0 N0 Θ M0 Ψ M) (hP : RwP n0 P zp M) (hlim : Ψ.1.length + 62 * l.length + 30 < 99900) (hx : x < 640) (hL : ChL Θ x l) (hr : okI Ψ (P 23 x)) (hkx : ∀ n, n < 20 → okI Ψ (P 28 (x * 20 + n))) (hkc : ∀ i n, i < l.length → n < 20 → okI Ψ (P 28 (l.getD i 0 * 20 + n))) (K : ∀ M' Ψ' P1 kv, WvP n0 l0 r0 N0 Θ M0 Ψ' M' → RwP n0 (enP P1 x kv) zp M' → (∀ c j, c ≠ 27 → P1 c j = P c j) → Gr noN Ψ Ψ' → (Ψ'.1.length ≤ Ψ.1.length + 62 * l.length + 22 ∧ Ψ'.2.2.length ≤ Ψ.2.2.length + l.length + 1) → (∀ n, n < 20 → okI Ψ' (kv n)) → (∀ w HV, gW Ψ' w HV → ∀ n, n < 20 → lV w (kv n) = jbV Θ P x l n w HV) → Q none M') : E (h + 9) mdX9_joinBranches [.ref 21, .int (Int32.ofNat x)] M Q := by
  obtain ⟨h6, h8n, hb, hnd, hln⟩ := id hL
  obtain ⟨F, hT, h8, o8, hRo, l1, hRf, hE0⟩ := hW.sees hB
  have w23 : wvC n0 23 := Or.inl (by omega)
  have w27 : wvC n0 27 := Or.inl (by omega)
  have w28 : wvC n0 28 := Or.inl (by omega)
  have lx : (Int32.ofNat x).toNatClampNeg = x := lt32 (by omega)
  have ex : ∀ n : Nat, Int32.ofNat x * 20 + Int32.ofNat n = Int32.ofNat (x * 20 + n) := fun n => by rw [Int32.ofNat_add, Int32.ofNat_mul]; rfl
  have g23 : mAI M 23 x = P 23 x := hP.1 23 x w23
  refine KX9_joinBranches (h := h + 8) ?_
  unfold DX9_joinBranches_0
  refine ⟨ok21 F, W_res (h := h) hB hW (by omega) hx (by rw [g23]; exact hr) (fun M2 Ψ2 r3 W2 O2 G2 L2 k3 s3 _ => ⟨_, rfl, ?_⟩)⟩
  obtain ⟨F2, hT2, h82, o82, hRo2, l12, -⟩ := W2.sees hB
  have R2 := hP.ob O2
  have g6 : mAI M2 6 x = Int32.ofNat (l.getD 0 0) := by rw [hT2.2.2.2.1 6 (by decide) (by decide)]; exact h6
  rw [lx]
  refine ⟨4, rf21_0 F2, ok4 F2, 6, rf4_1 F2, ok6 F2, by rw [ln6 F2]; exact vp_of hx (by decide), ?_⟩
  rw [g6]
  have sR : ∀ w HV, gW Ψ2 w HV → lV w r3 = v3A (lV w (P 23 x)) (HV (Θ.2.2 12 x)) := fun w HV g => by rw [s3 w HV g, g23]
  -- the codes, one after the other
  have two : ∀ (d n : Nat) (M1 : Mem) (Ψ1 : Wg) (P1 : Nat → Nat → Int32) (kv : Nat → Int32), n + d = 20 → WvP n0 l0 r0 N0 Θ M0 Ψ1 M1 → RwP n0 (enP P1 x kv) zp M1 → (∀ c j, c ≠ 27 → P1 c j = P c j) → Gr noN Ψ Ψ1 → (Ψ1.1.length ≤ Ψ.1.length + (2 + 2 * l.length) + n * (3 * l.length + 1) ∧ Ψ1.2.2.length ≤ Ψ.2.2.length + l.length + 1) → (∀ k, k < 20 → okI Ψ1 (kv k)) → (∀ i, i < l.length → okI Ψ1 (P1 27 (l.getD i 0))) → (∀ w HV, gW Ψ1 w HV → (∀ i, i < l.length → lV w (P1 27 (l.getD i 0)) = rcV (v3A (v3A (lV w (P 23 x)) (HV (Θ.2.2 12 x))) (v3N (HV (Θ.2.2 12 (l.getD i 0))))) (fun j => lV w (P 28 (l.getD i 0 * 20 + j))) n) ∧ ∀ k, k < n → lV w (kv k) = jbV Θ P x l k w HV) → T (h + 9) mdX9_joinBranches 87 [(0, .ref 21), (1, .int (Int32.ofNat x)), (4, .int (Int32.ofNat n))] [] M1 Q := by
    intro d
    induction d with
    | zero =>
      intro n M1 Ψ1 P1 kv hn W1 R1 q1 G1 L1 o1 o2 s1
      have e : n = 20 := by omega
      subst e
      refine VX9_joinBranches_87 ?_
      unfold DX9_joinBranches_87
      exact ⟨fun _ => K M1 Ψ1 P1 kv W1 R1 q1 G1 (by omega) o1 (fun w HV g => (s1 w HV g).2), fun z => absurd Int32.le_rfl z⟩
    | succ d ih =>
      intro n M1 Ψ1 P1 kv hn W1 R1 q1 G1 L1 o1 o2 s1
      have hn20 : n < 20 := by omega
      have bn : n * (3 * l.length + 1) + (3 * l.length + 1) ≤ 20 * (3 * l.length + 1) := by
        have : (n + 1) * (3 * l.length + 1) = n * (3 * l.length + 1) + (3 * l.length + 1) := Nat.succ_mul _ _
        rw [← this]
        exact Nat.mul_le_mul_right _ (by omega)
      have en1 : (n + 1) * (3 * l.length + 1) = n * (3 * l.length + 1) + (3 * l.length + 1) := Nat.succ_mul _ _
      obtain ⟨F1, -, h81, o81, hRo1, -⟩ := W1.sees hB
      have nle : ¬ (20 : Int32) ≤ Int32.ofNat n := fun z => by
        have := (le32 (a := 20) (by decide) (by omega)).mp z
        omega
      have kcn : ∀ i, i < l.length → ∀ j, j < 20 → enP P1 x kv 28 (l.getD i 0 * 20 + j) = P 28 (l.getD i 0 * 20 + j) := fun i hi j hj => (enP_x hj (hb i hi).2.2).trans (q1 _ _ (by decide))
      have r27 : ∀ i, enP P1 x kv 27 i = P1 27 i := fun i => enP_n (by decide)
      refine VX9_joinBranches_87 ?_
      unfold DX9_joinBranches_87
      rw [ex n, lt32 (show x * 20 + n < 2147483648 by omega)]
      refine ⟨fun z => absurd z nle, fun _ => ⟨ok21 F1, 28, rf21_7 F1, ?_⟩⟩
      refine W_jn (h := h + 2) (n := n) hB W1 R1 (by omega) hx hn20 hL (fun i hi => by rw [kcn i hi n hn20]; exact (hkc i n hi hn20).gr G1) (fun i hi => by rw [r27]; exact o2 i hi) (fun M3 Ψ3 P3 r4 W3 R3 G3 L3 q3 o3 k4 s4 _ => ⟨_, rfl, ?_⟩)
      obtain ⟨F3, -, -, -, hRo3, -⟩ := W3.sees hB
      refine ⟨ok28 F3, by rw [ln28 F3]; exact vp_of (by omega) (by decide), fun M6 e6 => ?_⟩
      rw [succ32]
      have R3' : RwP n0 (enP (fun c j => if c = 27 then P3 c j else P c j) x kv) zp M3 := R3.cg (fun c j _ => by
        by_cases z : c = 27
        · rw [enP_n (by omega)]
          show (if c = 27 then P3 c j else P c j) = _
          rw [if_pos z]
        · rw [q3 c j z]
          unfold enP
          by_cases y : c = 28 ∧ x * 20 ≤ j ∧ j < x * 20 + 20
          · rw [if_pos y, if_pos y]
          · rw [if_neg y, if_neg y]
            show (if c = 27 then P3 c j else P c j) = _
            rw [if_neg z, q1 c j z])
      refine ih (n + 1) M6 Ψ3 (fun c j => if c = 27 then P3 c j else P c j) (va_up kv n r4) (by omega) (W3.wr hB w28 e6) ((R3'.up e6).cg (fun c j _ => enP_k hn20 c j)) (fun c j z => if_neg z) (G1.tr G3 (fun _ _ z => z)) (by rw [en1]; omega) (fun k hk => ?_) (fun i hi => ?_) (fun w HV g => ?_)
      · by_cases z : k = n
        · rw [z, va_up_self]; exact k4
        · rw [va_up_ne _ _ z]; exact (o1 k hk).gr G3
      · show okI Ψ3 (if 27 = 27 then P3 27 (l.getD i 0) else _)
        rw [if_pos rfl]; exact o3 i hi
      · have b1 := g.bk G3 hRo1 hRo3 (fun _ _ z => z.elim)
        obtain ⟨t1, t2⟩ := s1 w HV b1
        obtain ⟨u1, u2⟩ := s4 w HV g
        have v1 : ∀ i, i < l.length → lV w (P3 27 (l.getD i 0)) = rcV (v3A (v3A (lV w (P 23 x)) (HV (Θ.2.2 12 x))) (v3N (HV (Θ.2.2 12 (l.getD i 0))))) (fun j => lV w (P 28 (l.getD i 0 * 20 + j))) (n + 1) := fun i hi => by
          rw [u1 i hi, r27, kcn i hi n hn20, t1 i hi]
          rfl
        refine ⟨fun i hi => ?_, fun k hk => ?_⟩
        · show lV w (if 27 = 27 then P3 27 (l.getD i 0) else _) = _
          rw [if_pos rfl]; exact v1 i hi
        · by_cases z : k = n
          · rw [z, va_up_self, u2]
            unfold jbV
            rw [oI_cg (g := fun i => lV w (P 28 (l.getD i 0 * 20 + n))) l.length (fun i hi => by rw [kcn i hi n hn20]), aI_cg l.length v1]
          · rw [va_up_ne _ _ z]; exact t2 k (by omega)
  -- the branches' begin
  have one : ∀ (d i : Nat) (M1 : Mem) (Ψ1 : Wg) (P1 : Nat → Nat → Int32), i + d = l.length → WvP n0 l0 r0 N0 Θ M0 Ψ1 M1 → RwP n0 P1 zp M1 → (∀ c j, c ≠ 27 → P1 c j = P c j) → Gr noN Ψ2 Ψ1 → (Ψ1.1.length ≤ Ψ2.1.length + 2 * i ∧ Ψ1.2.2.length ≤ Ψ2.2.2.length + i) → (∀ k, k < i → okI Ψ1 (P1 27 (l.getD k 0))) → (∀ w HV, gW Ψ1 w HV → ∀ k, k < i → lV w (P1 27 (l.getD k 0)) = v3A (v3A (lV w (P 23 x)) (HV (Θ.2.2 12 x))) (v3N (HV (Θ.2.2 12 (l.getD k 0))))) → T (h + 9) mdX9_joinBranches 19 [(0, .ref 21), (1, .int (Int32.ofNat x)), (2, .int r3), (3, .int (Int32.ofNat (l.getD i 0))), (4, .int (Int32.ofNat i))] [] M1 Q := by
    intro d
    induction d with
    | zero =>
      intro i M1 Ψ1 P1 hi W1 R1 q1 G1 L1 o1 s1
      have e : i = l.length := by omega
      subst e
      have GG := G2.tr G1 (fun _ _ z => z)
      have fin : DX9_joinBranches_84 (h + 8) 21 (Int32.ofNat x) M1 Q := by
        unfold DX9_joinBranches_84
        exact two 20 0 M1 Ψ1 P1 (fun n => P 28 (x * 20 + n)) (by omega) W1 (R1.cg (fun c j _ => by
          unfold enP
          by_cases y : c = 28 ∧ x * 20 ≤ j ∧ j < x * 20 + 20
          · rw [if_pos y]
            show P 28 (x * 20 + (j - x * 20)) = _
            rw [show x * 20 + (j - x * 20) = j by omega, q1 c j (by omega), y.1]
          · rw [if_neg y])) q1 GG (by omega) (fun k hk => (hkx k hk).gr GG) o1 (fun w HV g => ⟨s1 w HV g, fun k hk => absurd hk (Nat.not_lt_zero _)⟩)
      refine VX9_joinBranches_19 ?_
      unfold DX9_joinBranches_19
      exact ⟨fun _ => fin, fun _ => ⟨fun _ => fin, fun z => absurd (by rw [gd_end]; rfl) z⟩⟩
    | succ d ih =>
      intro i M1 Ψ1 P1 hi W1 R1 q1 G1 L1 o1 s1
      have hi' : i < l.length := by omega
      obtain ⟨b1, b2, b3⟩ := hb i hi'
      obtain ⟨F1, hT1, h81, o81, hRo1, -⟩ := W1.sees hB
      have e8 := h8n i hi'
      obtain ⟨c, ec⟩ : ∃ c, c = l.getD i 0 := ⟨_, rfl⟩
      rw [← ec] at b1 b2 b3 e8 ⊢
      have lc : (Int32.ofNat c).toNatClampNeg = c := lt32 (by omega)
      have vc : ∀ {k : Nat}, k = 640 → vp_in (Int32.ofNat c) k := fun e => by rw [e]; exact vp_of b2 (by decide)
      have g12 : mAI M1 12 c = Θ.2.2 12 c := by rw [hT1.2.2.2.1 12 (by decide) (by decide)]
      have nz : ¬ Int32.ofNat c = 0 := fun z => by
        have := inj32 (a := c) (b := 0) (by omega) (by decide) z
        omega
      have nle : ¬ (640 : Int32) ≤ Int32.ofNat i := fun z => by
        have := (le32 (a := 640) (by decide) (by omega)).mp z
        omega
      refine VX9_joinBranches_19 ?_
      unfold DX9_joinBranches_19
      rw [lc]
      refine ⟨fun z => absurd z nle, fun _ => ⟨fun z => absurd z nz, fun _ => ⟨ok21 F1, n0 + 8, h81, 4, rf21_0 F1, ok4 F1, 12, rf4_7 F1, ok12 F1, vc (ln12 F1), o81, ?_⟩⟩⟩
      rw [g12]
      refine W_hold (h := h + 1) hB W1 (by omega) (fun M8 Ψ8 r9 W8 O8 G8 L8 k9 s9 _ => ⟨_, rfl, ?_⟩)
      obtain ⟨F8, -, h88, o88, hRo8, -⟩ := W8.sees hB
      refine ⟨27, rf21_6 F8, n0 + 8, h88, W_not (h := h + 7) k9 (by omega) (fun r13 k13 s13 _ => ⟨_, rfl, o88, ?_⟩)⟩
      refine W_and (h := h + 4) hB W8 (by omega) ((k3.gr G1).gr G8) k13 (fun M15 Ψ15 r16 W15 O15 G15 L15 k16 s16 _ => ⟨_, rfl, ?_⟩)
      obtain ⟨F15, -, -, -, hRo15, -⟩ := W15.sees hB
      refine ⟨ok27 F15, vc (ln27 F15), fun M18 e18 => ?_⟩
      have W18 := W15.wr hB w27 e18
      have R18 := ((R1.ob O8).ob O15).up e18
      obtain ⟨F18, hT18, -⟩ := W18.sees hB
      have g8 : mAI M18 8 c = Int32.ofNat (l.getD (i + 1) 0) := by rw [hT18.2.2.2.1 8 (by decide) (by decide)]; exact e8
      refine ⟨4, rf21_0 F18, ok4 F18, 8, rf4_3 F18, ok8 F18, vc (ln8 F18), ?_⟩
      rw [g8, succ32]
      have GG : Gr noN Ψ1 Ψ15 := G8.tr G15 (fun _ _ z => z)
      have nec : ∀ k, k < l.length → k ≠ i → l.getD k 0 ≠ c := fun k hk ne z => ne (hnd k i hk hi' (z.trans ec))
      refine ih (i + 1) M18 Ψ15 (up2 P1 27 c r16) (by omega) W18 R18 (fun c' j hc => by rw [up2_ne (fun z => hc z.1)]; exact q1 c' j hc) (G1.tr GG (fun _ _ z => z)) (by omega) (fun k hk => ?_) (fun w HV g k hk => ?_)
      · by_cases z : k = i
        · rw [z, ← ec, up2_eq]; exact k16
        · rw [up2_ne (fun y => nec k (by omega) z y.2)]; exact (o1 k (by omega)).gr GG
      · have b8 := g.bk G15 hRo8 hRo15 (fun _ _ z => z.elim)
        have b1 := b8.bk G8 hRo1 hRo8 (fun _ _ z => z.elim)
        have b0 := b1.bk G1 hRo2 hRo1 (fun _ _ z => z.elim)
        by_cases z : k = i
        · rw [z, ← ec, up2_eq, s16 w HV g, s13 w HV b8, s9 w HV b8, sR w HV b0]
        · rw [up2_ne (fun y => nec k (by omega) z y.2)]
          exact s1 w HV b1 k (by omega)
  exact one l.length 0 M2 Ψ2 P (by omega) W2 R2 (fun _ _ _ => rfl) Gr.rf (by omega) (fun k hk => absurd hk (Nat.not_lt_zero _)) (fun _ _ _ k hk => absurd hk (Nat.not_lt_zero _))
end
