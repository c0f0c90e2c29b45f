/-! a governor's beat: moves are told, wires are recorded -/
/-- rows of a governor; rows of a module -/
def grR (nw nx wr gn : Nat) (ks : Nat → Nat) (r : Nat) : Prop := r = nw ∨ r = nx ∨ r = wr ∨ r = gn ∨ ∃ i, i < 3 ∧ r = ks i
def mrR (cc ia lc rc sc c9 c10 c11 : Nat) (r : Nat) : Prop := r = cc ∨ r = ia ∨ r = lc ∨ r = rc ∨ r = sc ∨ r = c9 ∨ r = c10 ∨ r = c11
def DjR (gr mr : Nat → Prop) (ya na : Nat) : Prop := (∀ r, gr r → r ≠ ya ∧ r ≠ na ∧ ¬ mr r) ∧ ∀ r, mr r → r ≠ ya ∧ r ≠ na
section
variable {M : Mem} {g c nw nx kp gn wr sm cc stc mx ia I pl pb x lc rc ya na sc a3 b3 c9 c10 c11 h : Nat} {ks : Nat → Nat} {cs : List Int32} {X : List Nd} {ps : List Nat} {Y Z : Nat → Int32} {Q : Option Value → Mem → Prop} {τ : Td} {m : Nat} {σ : PS} {root : Nat} {γ : Gh} {g0 n0 gw : Nat} {Z0 P : Nat → Nat → Int32} {zp : Int32} {Ψ1 Ψ2 : Wg} {R : RMo}
theorem S_tellMv (hW : MdW τ m σ root γ g0 n0 gw Z0 P zp Ψ1 Ψ2) (hR : MdR τ m σ R) (h16 : τ.1.length ≤ 16) (hX : X.length ≤ 810) (hB : BtS M g c nw nx kp gn wr ks sm cc stc mx ia I cs X pl pb ps τ.1.length τ.2.1 (ifS σ) Ψ2.1.length) (hL : CtL M x lc rc ya na sc a3 b3 τ.1.length (ifS σ) Ψ2.1 Y Z) (hV : TdV Ψ2.1.length (tbR R Ψ2) Y Z) (rw1 : RoG M nw) (dj : DjR (grR nw nx wr gn ks) (mrR cc ia lc rc sc c9 c10 c11) ya na) (K : ∀ M' Y' Z', BgF g sm stc (fun _ => False) (fun r => r = ya ∨ r = na) M M' → CtL M' x lc rc ya na sc a3 b3 τ.1.length (ifS σ) Ψ2.1 Y' Z' → TdV Ψ2.1.length (tbR R Ψ2) Y' Z' → Q none M') : E (h + 6) mdX2_tellMoves [.ref g, .ref x] M Q := by
  obtain ⟨hS, hP, ⟨p1, p2, p3⟩, -, -⟩ := id hB
  have og := hS.1.1
  have os := hP.2.1.1.1
  have o23 := hP.2.1.2.1.2.1.2
  have gs := hS.nsm os
  have I4 : I ≤ 4 := hP.2.2.2.2.2.1
  have h21 : ∀ r, (r = ya ∨ r = na) → mK M r = 21 := fun r z => by
    rcases z with z | z <;> rw [z]
    · exact hL.1.2.1.2.1.2
    · exact hL.1.2.2.1.2.1.2
  have ncc : ¬ (cc = ya ∨ cc = na) := fun z => z.elim (dj.2 cc (Or.inl rfl)).1 (dj.2 cc (Or.inl rfl)).2
  have nia : ¬ (ia = ya ∨ ia = na) := fun z => z.elim (dj.2 ia (Or.inr (Or.inl rfl))).1 (dj.2 ia (Or.inr (Or.inl rfl))).2
  have nnw : ¬ (nw = ya ∨ nw = na) := fun z => z.elim (dj.1 nw (Or.inl rfl)).1 (dj.1 nw (Or.inl rfl)).2.1
  have l2 : ∀ d i M1 Y1 Z1, i + d = ps.length → BgF g sm stc (fun _ => False) (fun r => r = ya ∨ r = na) M M1 → CtL M1 x lc rc ya na sc a3 b3 τ.1.length (ifS σ) Ψ2.1 Y1 Z1 → TdV Ψ2.1.length (tbR R Ψ2) Y1 Z1 → T (h + 6) mdX2_tellMoves 50 [(0, .ref g), (1, .ref x), (2, .int (Int32.ofNat i))] [] M1 Q := by
    intro d
    induction d with
    | zero =>
      intro i M1 Y1 Z1 hi k1 L1 V1
      obtain ⟨S1, P1, ⟨q1, q2, -⟩, -⟩ := hB.bg h21 ncc nia k1
      refine VX2_tellMoves_50 (h := h + 5) ?_
      unfold DX2_tellMoves_50
      refine ⟨S1.1.1, c, S1.1.2.1, P1.1.1, pl, q1, q2.1, S_alSize (h := h + 4) q2 (fun _ => ⟨_, rfl, fun _ => K M1 Y1 Z1 k1 L1 V1, fun z => absurd ?_ z⟩)⟩
      rw [show i = ps.length by omega]
      exact Int32.le_rfl
    | succ d ih =>
      intro i M1 Y1 Z1 hi k1 L1 V1
      have B1 := hB.bg h21 ncc nia k1
      obtain ⟨S1, P1, ⟨q1, q2, -⟩, hp, -⟩ := id B1
      obtain ⟨t1, t2, -⟩ := hp i (by omega)
      refine VX2_tellMoves_50 (h := h + 5) ?_
      unfold DX2_tellMoves_50 DX2_tellMoves_108
      rw [succ32]
      refine ⟨S1.1.1, c, S1.1.2.1, P1.1.1, pl, q1, q2.1, S_alSize (h := h + 4) q2 (fun _ => ⟨_, rfl, fun z => ?_, fun _ => ⟨c, S1.1.2.1, P1.1.1, pl, q1, q2.1, S_get (h := h + 2) q2 (by omega) (fun _ => ⟨_, rfl, t1.1, fun _ => ih (i + 1) M1 Y1 Z1 (by omega) k1 L1 V1, fun e3 => ?_⟩)⟩⟩)⟩
      · have := (le32 (by omega) (by omega)).mp z
        omega
      have hq : SuPt M1 X cs (ps.getD i 0) 5 ∧ SuPt M1 X cs (ps.getD i 0) 6 := by
        rcases t1.2 with q | q | q | q
        · rw [q] at e3; exact absurd e3 (by decide)
        · rw [q.1] at e3; exact absurd e3 (by decide)
        · rw [q.1] at e3; exact absurd e3 (by decide)
        · exact q.2
      obtain ⟨f, f1, f2⟩ := t2 e3
      refine S_isSo (h := h) hX S1 P1 (rw1.k (k1.2.2.2.2.2.1 nw nnw)) t1.1 hq.1 hq.2 (fun M15 r15 k15 _ _ => ⟨r15, rfl, ?_⟩)
      have kk : BgF g sm stc (fun _ => False) (fun r => r = ya ∨ r = na) M M15 := k1.tr (BgF.wc gs k15)
      have L15 := L1.wc k15 P1.2.1.1.1 P1.2.1.2.1.2.1.2
      have fin : ∀ w : Int32, DX2_tellMoves_105 (h + 5) g x (Int32.ofNat i) x (mI M1 (ps.getD i 0) 4) w M15 Q := by
        intro w
        unfold DX2_tellMoves_105 DX2_tellMoves_108
        rw [f2, succ32]
        refine ⟨L15.1.1.1, S_tfW (h := h + 1) hW L15 V1.1 f1 (fun M2 Y2 Z2 n L2 A2 n1 n2 n3 T2 _ => ⟨rfl, ih (i + 1) M2 Y2 Z2 (by omega) (kk.tr (BgF.ar A2)) L2 (V1.tl T2 ?_)⟩)⟩
        rw [tb_r n3 n2]; rfl
      exact ⟨fun _ => fin _, fun _ => fin _⟩
  have l1 : ∀ d i M1 Y1 Z1, i + d = I → BgF g sm stc (fun _ => False) (fun r => r = ya ∨ r = na) M M1 → CtL M1 x lc rc ya na sc a3 b3 τ.1.length (ifS σ) Ψ2.1 Y1 Z1 → TdV Ψ2.1.length (tbR R Ψ2) Y1 Z1 → T (h + 6) mdX2_tellMoves 2 [(0, .ref g), (1, .ref x), (2, .int (Int32.ofNat i))] [] M1 Q := by
    intro d
    induction d with
    | zero =>
      intro i M1 Y1 Z1 hi k1 L1 V1
      obtain ⟨S1, P1, -⟩ := hB.bg h21 ncc nia k1
      refine VX2_tellMoves_2 (h := h + 5) ?_
      unfold DX2_tellMoves_2
      refine ⟨S1.1.1, c, S1.1.2.1, P1.1.1, fun _ => l2 ps.length 0 M1 Y1 Z1 (by omega) k1 L1 V1, fun z => absurd ?_ z⟩
      rw [P1.1.2.2.2.2, show i = I by omega]
      exact Int32.le_rfl
    | succ d ih =>
      intro i M1 Y1 Z1 hi k1 L1 V1
      obtain ⟨S1, P1, -, -, hin⟩ := hB.bg h21 ncc nia k1
      obtain ⟨s, s1, s2, s3⟩ := hin i (by omega)
      refine VX2_tellMoves_2 (h := h + 5) ?_
      unfold DX2_tellMoves_2
      refine ⟨S1.1.1, c, S1.1.2.1, P1.1.1, fun z => ?_, fun _ => ⟨c, S1.1.2.1, P1.1.1, ia, P1.1.2.2.2.1, P1.2.2.2.1, by rw [P1.2.2.2.2.1]; exact vp_of (by omega) (by decide), ?_⟩⟩
      · rw [P1.1.2.2.2.2] at z
        have := (le32 (by omega) (by omega)).mp z
        omega
      have fin : ∀ w : Int32, DX2_tellMoves_39 (h + 5) g x (Int32.ofNat i) x (mAI M1 ia (Int32.ofNat i).toNatClampNeg) w M1 Q := by
        intro w
        unfold DX2_tellMoves_39
        rw [lt32 (show i < 2147483648 by omega), s3, succ32]
        refine ⟨L1.1.1.1, S_tiW (h := h + 3) hW h16 L1 V1.1 s1 (fun M2 Y2 Z2 L2 A2 T2 _ => ⟨rfl, ih (i + 1) M2 Y2 Z2 (by omega) (k1.tr (BgF.ar A2)) L2 (V1.tl T2 ?_)⟩)⟩
        rw [tb_r (hW.sg s1) (by omega), decide_eq_true ((hR.2.2.2.2 s s1).mpr s2)]; rfl
      exact ⟨fun _ => fin _, fun _ => fin _⟩
  refine KX2_tellMoves (h := h + 5) ?_
  unfold DX2_tellMoves_0
  exact l1 I 0 M Y Z (by omega) BgF.rf hL hV
theorem S_recW {Sn : Nat} {ro is : List Int32} {N : Nt} (hB : BtS M g c nw nx kp gn wr ks sm cc stc mx ia I cs X pl pb ps Sn ro is N.length) (hL : CtL M x lc rc ya na sc a3 b3 Sn is N Y Z) (hC : CoL N.length Y Z) (dj : DjR (grR nw nx wr gn ks) (mrR cc ia lc rc sc c9 c10 c11) ya na) (K : ∀ M', BgF g sm stc (fun _ => False) (fun r => r = wr) M M' → CtL M' x lc rc ya na sc a3 b3 Sn is N Y Z → Q none M') : E (h + 4) mdX2_recordWires [.ref g, .ref x] M Q := by
  obtain ⟨hS, hP, ⟨p1, p2, p3⟩, -, -⟩ := id hB
  have og := hS.1.1
  have os := hP.2.1.1.1
  have o23 := hP.2.1.2.1.2.1.2
  have gs := hS.nsm os
  obtain ⟨w1, w2, w3⟩ := dj.1 wr (Or.inr (Or.inr (Or.inl rfl)))
  have h21 : ∀ r, r = wr → mK M r = 21 := fun r z => by rw [z]; exact hS.2.1.2.2.2.1.2
  have ncc : ¬ (cc = wr) := fun z => w3 (Or.inl z.symm)
  have nia : ¬ (ia = wr) := fun z => w3 (Or.inr (Or.inl z.symm))
  have hn : ∀ r, r = wr → r ≠ lc ∧ r ≠ rc ∧ r ≠ ya ∧ r ≠ na := fun r z => by
    rw [z]
    exact ⟨fun y => w3 (Or.inr (Or.inr (Or.inl y))), fun y => w3 (Or.inr (Or.inr (Or.inr (Or.inl y)))), w1, w2⟩
  have nsc : ¬ (sc = wr) := fun z => w3 (Or.inr (Or.inr (Or.inr (Or.inr (Or.inl z.symm)))))
  have main : ∀ d i M1, i + d = ps.length → BgF g sm stc (fun _ => False) (fun r => r = wr) M M1 → T (h + 4) mdX2_recordWires 2 [(0, .ref g), (1, .ref x), (2, .int (Int32.ofNat i))] [] M1 Q := by
    intro d
    induction d with
    | zero =>
      intro i M1 hi k1
      obtain ⟨S1, -⟩ := hB.bg h21 ncc nia k1
      refine VX2_recordWires_2 (h := h + 3) ?_
      unfold DX2_recordWires_2
      refine ⟨S1.1.1, wr, S1.1.2.2.2.2.2.2, S1.2.1.2.2.2.1, fun _ => K M1 k1 (hL.bg og os o23 h21 hn nsc k1), fun z => absurd ?_ z⟩
      rw [S1.2.1.2.2.2.2, show i = ps.length by omega]
      exact Int32.le_rfl
    | succ d ih =>
      intro i M1 hi k1
      obtain ⟨S1, P1, ⟨q1, q2, -⟩, hp, -⟩ := hB.bg h21 ncc nia k1
      have L1 := hL.bg og os o23 h21 hn nsc k1
      obtain ⟨t1, -, t3⟩ := hp i (by omega)
      obtain ⟨u9, v9, e9⟩ := t3 9 (by decide) (by decide)
      obtain ⟨u10, v10, e10⟩ := t3 10 (by decide) (by decide)
      obtain ⟨u11, v11, e11⟩ := t3 11 (by decide) (by decide)
      obtain ⟨u12, v12, e12⟩ := t3 12 (by decide) (by decide)
      have fin : ∀ w : Int32, DX2_recordWires_45 (h + 3) g x (Int32.ofNat i) (ps.getD i 0) w M1 Q := by
        intro w
        unfold DX2_recordWires_45
        rw [succ32, e9]
        refine ⟨S1.1.1, wr, S1.1.2.2.2.2.2.2, t1.1, L1.1.1.1, S_truth (h := h) L1.1 hC v9 (fun _ => ⟨_, rfl, ?_⟩)⟩
        rw [e10]
        refine S_truth (h := h) L1.1 hC v10 (fun _ => ⟨_, rfl, ?_⟩)
        rw [e11]
        refine S_truth (h := h) L1.1 hC v11 (fun _ => ⟨_, rfl, ?_⟩)
        rw [e12]
        refine S_truth (h := h) L1.1 hC v12 (fun _ => ⟨_, rfl, S1.2.1.2.2.2.1, by rw [S1.2.1.2.2.2.2]; exact vp_of (by omega) (by omega), fun M14 e14 => ?_⟩)
        have k14 : GmF g (fun _ => False) (fun r => r = wr) M1 M14 := GmF.a rfl e14
        exact ih (i + 1) M14 (by omega) (k1.tr (BgF.gm gs k14))
      refine VX2_recordWires_2 (h := h + 3) ?_
      unfold DX2_recordWires_2
      refine ⟨S1.1.1, wr, S1.1.2.2.2.2.2.2, S1.2.1.2.2.2.1, fun z => ?_, fun _ => ⟨c, S1.1.2.1, P1.1.1, pl, q1, q2.1, S_get (h := h) q2 (by omega) (fun _ => ⟨_, rfl, t1.1, nw, S1.1.2.2.1, S1.2.1.1.1, by rw [S1.2.1.1.2]; exact vp_of (n := 0) (by decide) (by decide), fun _ => fin _, fun _ => fin _⟩)⟩⟩
      rw [S1.2.1.2.2.2.2] at z
      have := (le32 (by omega) (by omega)).mp z
      omega
  refine KX2_recordWires (h := h + 3) ?_
  unfold DX2_recordWires_0
  exact main ps.length 0 M (by omega) BgF.rf
end
