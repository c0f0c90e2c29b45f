/-! the weaver walks through the tree -/
/-- the weaver at node x, inward or not, after st steps -/
def T19 (h n0 x d st : Nat) (M : Mem) (Q : Option Value → Mem → Prop) : Prop := T (h + 10) mdX9_weave 19 [(0, .ref 21), (1, .ref n0), (2, .int (Int32.ofNat x)), (3, .int (Int32.ofNat d)), (4, .int (Int32.ofNat st))] [] M Q
section
variable {n0 l0 r0 N0 nb : Nat} {Θ : TrT} {G : Nat → List Nat} {M0 : Mem} {h : Nat} {Q : Option Value → Mem → Prop}
theorem W_arS {Ψ4 : Wg} {P4 : Nat → Nat → Int32} {z4 : Int32} {M4 : Mem} {g x k st4 : Nat} {Ψ : Wg} {P : Nat → Nat → Int32} {zp : Int32} {xx : Int32} (hB : WvB n0 l0 r0 M0) (ht : TrX G g x) (hs : ShN Θ G nb x) (hk : k < (G x).length) (hW : WvP n0 l0 r0 N0 Θ M0 Ψ4 M4) (hP : RwP n0 P4 z4 M4) (hL : LpQ Θ G n0 g x Ψ P zp k k Ψ4 P4 z4) (hnb : nb ≤ Ψ4.1.length) (hlim : Ψ4.1.length < 99890) (lp : ∀ M5 Ψ5 P5, WvP n0 l0 r0 N0 Θ M0 Ψ5 M5 → RwP n0 P5 z4 M5 → LpQ Θ G n0 g x Ψ P zp k (k + 1) Ψ5 P5 z4 → (Ψ5.1.length ≤ Ψ4.1.length + 5 ∧ Ψ5.1.length + nk P5 x ≤ Ψ4.1.length + nk P4 x + aW (Θ.2.2 5 x) ∧ Ψ5.2.2.length ≤ Ψ4.2.2.length + aH (Θ.2.2 5 x)) → nb ≤ Ψ5.1.length → (∀ c, 22 ≤ c → c ≤ 25 → okI Ψ5 (P5 c ((G x).getD k 0))) → T19 h n0 ((G x).getD k 0) 1 (st4 + 1) M5 Q) : DX9_weave_108 (h + 9) 21 n0 xx (Int32.ofNat st4) (Int32.ofNat ((G x).getD k 0)) M4 Q := by
  obtain ⟨F4, -, -, -, hR4, -⟩ := hW.sees hB
  obtain ⟨c1, c2, c3⟩ := hs.2.2.2.1.2.2.1 k hk
  have nz : ¬ Int32.ofNat ((G x).getD k 0) = 0 := fun z => by
    have := inj32 (a := (G x).getD k 0) (b := 0) (by omega) (by decide) z
    omega
  unfold DX9_weave_108 DX9_weave_118 DX9_weave_131
  refine ⟨fun z => absurd z nz, fun _ => ⟨fun z => absurd z (by decide), fun _ => ⟨ok21 F4, ?_⟩⟩⟩
  refine W_ar2 (h := h) hB hW hP hs hnb hlim hk hL.2.1 (fun M5 Ψ5 P5 W5 R5 G5 L5 I5 A5 S5 K5 _ E5 _ => ⟨rfl, ?_⟩)
  obtain ⟨-, -, -, -, hR5, -⟩ := W5.sees hB
  rw [succ32]
  exact lp M5 Ψ5 P5 W5 R5 (hL.ar ht hk hR4 hR5 G5 I5 S5 K5 E5) ⟨L5.1, by rw [nk_st (K5 x)]; have := L5.2.1; omega, L5.2.2⟩ (by have := G5.1; omega) A5
theorem W_walk (hB : WvB n0 l0 r0 M0) (hf : ∀ z y y', z ∈ G y → z ∈ G y' → y = y') : ∀ (g x : Nat) (M : Mem) (Ψ : Wg) (P : Nat → Nat → Int32) (zp : Int32) (st : Nat), FtN G g x → (noL G g x).Nodup → (∀ z, z ∈ noL G g x → ShN Θ G nb z) → WvP n0 l0 r0 N0 Θ M0 Ψ M → RwP n0 P zp M → nb ≤ Ψ.1.length → (∀ c, 22 ≤ c → c ≤ 25 → okI Ψ (P c x)) → (∀ s, s < 16 → okI Ψ (P (n0 + 21) s)) → Ψ.1.length + 115 * (noL G g x).length < 99000 → st + 2 * (noL G g x).length ≤ 1280 → (∀ M' Ψ' P' zp', WvP n0 l0 r0 N0 Θ M0 Ψ' M' → RwP n0 P' zp' M' → WkQ Θ G n0 g x Ψ P zp Ψ' P' zp' → T19 h n0 x 0 (st + 2 * (noL G g x).length - 1) M' Q) → T19 h n0 x 1 st M Q := by
  intro g
  induction g with
  | zero => intro x M Ψ P zp st hft; exact False.elim hft
  | succ g ih =>
    intro x M Ψ P zp st hft hnd hsh hW hP hnb hok hem hlim hst K
    have ht : TrX G g x := ⟨hft, hnd, hf⟩
    have hs := hsh x List.mem_cons_self
    obtain ⟨⟨x1, x2, x3⟩, -, -, hL, hpr, -⟩ := id hs
    obtain ⟨F, hT, h8, o8, hRo, -⟩ := hW.sees hB
    obtain ⟨fl, efl⟩ : ∃ fl, fl = fun i => ((G x).take i).flatMap (noL G g) := ⟨_, rfl⟩
    have fle : ∀ i, ((G x).take i).flatMap (noL G g) = fl i := fun i => by rw [efl]
    have lenA : (noL G (g + 1) x).length = 1 + (fl (G x).length).length := by
      show ((x :: (G x).flatMap (noL G g)).length) = _
      rw [← fle, List.take_length, List.length_cons, Nat.add_comm]
    have flS : ∀ i, i < (G x).length → (fl (i + 1)).length = (fl i).length + (noL G g ((G x).getD i 0)).length := fun i hi => by
      rw [← fle, ← fle, (ht.at hi).2.2.2.2.2.2, List.flatMap_append, List.length_append]
      simp
    have flM : ∀ i, i ≤ (G x).length → (fl i).length ≤ (fl (G x).length).length := by
      intro i hi
      have main : ∀ d i, i + d = (G x).length → (fl i).length ≤ (fl (G x).length).length := by
        intro d
        induction d with
        | zero => intro i e; rw [Nat.add_zero] at e; rw [e]; exact Nat.le_refl _
        | succ d ihd => intro i e; have := ihd (i + 1) (by omega); have := flS i (by omega); omega
      exact main ((G x).length - i) i (by omega)
    have flW : ∀ f i, i < (G x).length → smL f (fl (i + 1)) = smL f (fl i) + smL f (noL G g ((G x).getD i 0)) := fun f i hi => by
      rw [← fle, ← fle, (ht.at hi).2.2.2.2.2.2, List.flatMap_append, smL_ap]
      simp
    have lenW : ∀ f, smL f (noL G (g + 1) x) = f x + smL f (fl (G x).length) := fun f => by
      show f x + smL f ((G x).flatMap (noL G g)) = _
      rw [← fle, List.take_length]
    obtain ⟨kx, ekx⟩ : ∃ kx, kx = Θ.2.2 5 x := ⟨_, rfl⟩
    have mulS : ∀ i c : Nat, (i + 1) * c = i * c + c := fun i c => Nat.succ_mul i c
    -- all children have been left
    have fin : ∀ M1 Ψ1 P1 z1, WvP n0 l0 r0 N0 Θ M0 Ψ1 M1 → RwP n0 P1 z1 M1 → LpQ Θ G n0 g x Ψ P zp (G x).length (G x).length Ψ1 P1 z1 → (Ψ1.1.length + 62 * (G x).length ≤ Ψ.1.length + 2 + 115 * (fl (G x).length).length ∧ Ψ1.1.length + nk P1 x ≤ Ψ.1.length + eW kx + smL (oW Θ G) (fl (G x).length) + (G x).length * aW kx + (G x).length * lW kx ∧ Ψ1.2.2.length ≤ Ψ.2.2.length + eH kx + smL (oH Θ G) (fl (G x).length) + (G x).length * aH kx + (G x).length * lH kx) → T19 h n0 x 0 (st + 1 + 2 * (fl (G x).length).length) M1 Q := by
      intro M1 Ψ1 P1 z1 W1 R1 q b1
      obtain ⟨⟨q1, q1n⟩, q2, q3, q4, q5, q6, q7⟩ := q
      have e : st + 2 * (noL G (g + 1) x).length - 1 = st + 1 + 2 * (fl (G x).length).length := by rw [lenA]; omega
      have cW : Ψ1.1.length + nk P1 x + jW Θ G x ≤ Ψ.1.length + smL (oW Θ G) (noL G (g + 1) x) := by
        rw [lenW]
        show _ ≤ _ + (eW (Θ.2.2 5 x) + (G x).length * (aW (Θ.2.2 5 x) + lW (Θ.2.2 5 x)) + jW Θ G x + _)
        rw [← ekx, Nat.mul_add]
        have := b1.2.1
        omega
      have cH : Ψ1.2.2.length + jH Θ G x ≤ Ψ.2.2.length + smL (oH Θ G) (noL G (g + 1) x) := by
        rw [lenW]
        show _ ≤ _ + (eH (Θ.2.2 5 x) + (G x).length * (aH (Θ.2.2 5 x) + lH (Θ.2.2 5 x)) + jH Θ G x + _)
        rw [← ekx, Nat.mul_add]
        have := b1.2.2
        omega
      have k := K M1 Ψ1 P1 z1 W1 R1 ⟨⟨q1, ?_⟩, ⟨by rw [lenA]; have := b1.1; omega, cW, cH⟩, q2, fun z hz ne => ?_, q4, q5, ?_⟩
      rotate_left
      · rw [List.take_length] at q1n
        exact q1n
      rotate_right
      · rw [e] at k; exact k
      · rcases List.mem_cons.mp hz with y | y
        · exact absurd y ne
        · refine q3 z ?_
          rw [List.take_length]; exact y
      · rw [List.take_length] at q7
        exact q7
    -- child i has been come to
    have loop : ∀ (d i : Nat) (M1 : Mem) (Ψ1 : Wg) (P1 : Nat → Nat → Int32) (z1 : Int32), (G x).length - i = d → i < (G x).length → WvP n0 l0 r0 N0 Θ M0 Ψ1 M1 → RwP n0 P1 z1 M1 → LpQ Θ G n0 g x Ψ P zp i (i + 1) Ψ1 P1 z1 → (Ψ1.1.length + 62 * i ≤ Ψ.1.length + 7 + 115 * (fl i).length ∧ Ψ1.1.length + nk P1 x ≤ Ψ.1.length + eW kx + smL (oW Θ G) (fl i) + (i + 1) * aW kx + i * lW kx ∧ Ψ1.2.2.length ≤ Ψ.2.2.length + eH kx + smL (oH Θ G) (fl i) + (i + 1) * aH kx + i * lH kx) → nb ≤ Ψ1.1.length → (∀ c, 22 ≤ c → c ≤ 25 → okI Ψ1 (P1 c ((G x).getD i 0))) → T19 h n0 ((G x).getD i 0) 1 (st + 1 + 2 * (fl i).length) M1 Q := by
      intro d
      induction d with
      | zero => intro i M1 Ψ1 P1 z1 hd hi; omega
      | succ d ihd =>
        intro i M1 Ψ1 P1 z1 hd hi W1 R1 L1 b1 nb1 A1
        obtain ⟨t1, t2, t3, t4, t5, t6, t7⟩ := ht.at hi
        have fi := flS i hi
        have fm := flM (i + 1) hi
        obtain ⟨-, -, -, -, hR1, -⟩ := W1.sees hB
        have shc := hsh _ (t4 _ (noL_hd t1))
        obtain ⟨⟨y1, y2, y3⟩, -, -, hLc, -⟩ := id shc
        refine ih ((G x).getD i 0) M1 Ψ1 P1 z1 (st + 1 + 2 * (fl i).length) t1 t2 (fun z hz => hsh z (t4 z hz)) W1 R1 nb1 A1 L1.2.2.2.2.2.2.1 (by rw [lenA] at hlim; omega) (by rw [lenA] at hst; omega) (fun M2 Ψ2 P2 z2 W2 R2 q2 => ?_)
        obtain ⟨F2, hT2, -, -, hR2, -⟩ := W2.sees hB
        obtain ⟨c, ec⟩ : ∃ c, c = (G x).getD i 0 := ⟨_, rfl⟩
        obtain ⟨st', est⟩ : ∃ st', st' = st + 1 + 2 * (fl i).length + 2 * (noL G g ((G x).getD i 0)).length - 1 := ⟨_, rfl⟩
        have cl : 1 ≤ (noL G g ((G x).getD i 0)).length := List.length_pos_of_mem (noL_hd t1)
        rw [← est]
        have stl : st' < 1280 := by rw [lenA] at hst; omega
        have st2 : st' + 1 = st + 1 + 2 * (fl (i + 1)).length := by omega
        have lc : (Int32.ofNat ((G x).getD i 0)).toNatClampNeg = (G x).getD i 0 := lt32 (by omega)
        -- what follows the joining
        have aft : ∀ M3 Ψ3 P3, WvP n0 l0 r0 N0 Θ M0 Ψ3 M3 → RwP n0 P3 z2 M3 → JnQ Θ G n0 ((G x).getD i 0) Ψ2 P2 Ψ3 P3 → (Ψ3.1.length ≤ Ψ2.1.length + 62 * (G ((G x).getD i 0)).length + 22 ∧ Ψ3.1.length + nk P3 ((G x).getD i 0) ≤ Ψ2.1.length + nk P2 ((G x).getD i 0) + jW Θ G ((G x).getD i 0) ∧ Ψ3.2.2.length ≤ Ψ2.2.2.length + jH Θ G ((G x).getD i 0)) → DX9_weave_73 (h + 9) 21 n0 (Int32.ofNat ((G x).getD i 0)) (Int32.ofNat st') M3 Q := by
          intro M3 Ψ3 P3 W3 R3 j3 b3
          obtain ⟨F3, -, -, -, hR3, -⟩ := W3.sees hB
          have b2 := q2.2.1
          have xne : x ≠ (G x).getD i 0 := fun e => t5 (by rw [← e] at t1; rw [← e]; exact noL_hd t1)
          have kx3 : nk P3 x = nk P1 x := by rw [nk_st (j3.2.2.2.1 x xne), nk_st (q2.2.2.2.2.1 x t5).2]
          have l3 : Ψ3.1.length < 99880 := by rw [lenA] at hlim; omega
          have nb3 : nb ≤ Ψ3.1.length := by have := q2.1.1.1; have := j3.1.1; omega
          have i3 := L1.mid ht hi q2 j3 hR1 hR2 hR3
          unfold DX9_weave_73
          refine ⟨ok21 F3, W_lv2 (h := h) hB W3 R3 hs nb3 (by omega) hi i3 j3.2.1.1.1 (fun M4 Ψ4 P4 W4 R4 g4 b4 i4 a4 s4 e4 _ => ⟨rfl, ?_⟩)⟩
          obtain ⟨F4, hT4, -, -, hR4, -⟩ := W4.sees hB
          have L4 := L1.lv ht hi q2 j3 hR1 hR2 hR3 hR4 (by omega) (by omega) g4 i4 a4 s4 e4
          have b5 : Ψ4.1.length + 62 * (i + 1) ≤ Ψ.1.length + 2 + 115 * (fl (i + 1)).length ∧ Ψ4.1.length + nk P4 x ≤ Ψ.1.length + eW kx + smL (oW Θ G) (fl (i + 1)) + (i + 1) * aW kx + (i + 1) * lW kx ∧ Ψ4.2.2.length ≤ Ψ.2.2.length + eH kx + smL (oH Θ G) (fl (i + 1)) + (i + 1) * aH kx + (i + 1) * lH kx := by
            rw [flW _ i hi, flW _ i hi, mulS i (lW kx), mulS i (lH kx)]
            obtain ⟨y1, y2, y3⟩ := b1
            obtain ⟨w1, w2, w3⟩ := b2
            obtain ⟨v1, v2, v3⟩ := b3
            obtain ⟨u1, u2, u3⟩ := b4
            rw [← ekx] at u2 u3
            rw [kx3] at u3
            refine ⟨by omega, ?_, ?_⟩
            · generalize (i + 1) * aW kx = A at y2 ⊢
              generalize i * lW kx = B at y2 ⊢
              omega
            · generalize (i + 1) * aH kx = A at y3 ⊢
              generalize i * lH kx = B at y3 ⊢
              omega
          have g8 : mAI M4 8 ((G x).getD i 0) = Int32.ofNat ((G x).getD (i + 1) 0) := by rw [hT4.2.2.2.1 8 (by decide) (by decide)]; exact hL.2.1 i hi
          have g9 : mAI M4 9 ((G x).getD i 0) = Int32.ofNat x := by rw [hT4.2.2.2.1 9 (by decide) (by decide)]; exact hpr i hi
          rw [lc]
          refine ⟨4, rf21_0 F4, ok4 F4, 8, rf4_3 F4, ok8 F4, by rw [ln8 F4]; exact vp_of y3 (by decide), ?_⟩
          rw [g8]
          unfold DX9_weave_107
          by_cases hn : i + 1 < (G x).length
          · obtain ⟨w1, w2, w3⟩ := hL.2.2.1 (i + 1) hn
            have nz : ¬ Int32.ofNat ((G x).getD (i + 1) 0) = 0 := fun z => by
              have := inj32 (a := (G x).getD (i + 1) 0) (b := 0) (by omega) (by decide) z
              omega
            refine ⟨fun _ => ?_, fun z => absurd z nz⟩
            refine W_arS hB ht hs hn W4 R4 L4 (by have := g4.1; omega) (by omega) (fun M5 Ψ5 P5 W5 R5 L5 b6 nb5 A5 => ?_)
            rw [st2]
            refine ihd (i + 1) M5 Ψ5 P5 z2 (by omega) hn W5 R5 L5 ?_ nb5 A5
            obtain ⟨y1, y2, y3⟩ := b5
            obtain ⟨u1, u2, u3⟩ := b6
            rw [← ekx] at u2 u3
            rw [mulS (i + 1) (aW kx), mulS (i + 1) (aH kx)]
            refine ⟨by omega, ?_, ?_⟩
            · generalize (i + 1) * aW kx = A at y2 ⊢
              generalize (i + 1) * lW kx = B at y2 ⊢
              omega
            · generalize (i + 1) * aH kx = A at y3 ⊢
              generalize (i + 1) * lH kx = B at y3 ⊢
              omega
          · have ei : i + 1 = (G x).length := by omega
            have ez : (G x).getD (i + 1) 0 = 0 := by rw [ei]; exact gd_end
            rw [ez]
            refine ⟨fun z => absurd rfl z, fun _ => ⟨4, rf21_0 F4, ok4 F4, 9, rf4_4 F4, ok9 F4, by rw [ln9 F4]; exact vp_of y3 (by decide), ?_⟩⟩
            rw [g9]
            unfold DX9_weave_108 DX9_weave_118 DX9_weave_131
            refine ⟨fun _ => ⟨fun _ => ?_, fun z => absurd rfl z⟩, fun z => absurd rfl z⟩
            rw [succ32, st2, ei]
            rw [ei] at L4 b5
            exact fin M4 Ψ4 P4 z2 W4 R4 L4 b5
        unfold T19
        refine VX9_weave_19 (h := h + 9) ?_
        unfold DX9_weave_19
        have n1280 : ¬ (1280 : Int32) ≤ Int32.ofNat st' := fun z => by
          have := (le32 (a := 1280) (by decide) (by omega)).mp z
          omega
        have nz : ¬ Int32.ofNat ((G x).getD i 0) = 0 := fun z => by
          have := inj32 (a := (G x).getD i 0) (b := 0) (by omega) (by decide) z
          omega
        have g5 : mAI M2 5 ((G x).getD i 0) = Θ.2.2 5 ((G x).getD i 0) := by rw [hT2.2.2.2.1 5 (by decide) (by decide)]
        rw [lc]
        refine ⟨fun z => absurd z n1280, fun _ => ⟨fun z => absurd z nz, fun _ => ⟨fun _ => ⟨ok21 F2, 4, rf21_0 F2, ok4 F2, 5, rf4_0 F2, ok5 F2, by rw [ln5 F2]; exact vp_of y3 (by decide), ?_⟩, fun z => absurd rfl z⟩⟩⟩
        rw [g5]
        refine ⟨fun k8 => aft M2 Ψ2 P2 W2 R2 ⟨Gr.rf, ⟨q2.2.2.1, fun y => absurd y k8⟩, fun _ _ _ _ => rfl, fun _ _ _ _ => rfl, fun _ _ _ _ => rfl⟩ ⟨by omega, Nat.le_add_right _ _, Nat.le_add_right _ _⟩, fun k8 => ?_⟩
        have b2 := q2.2.1
        refine W_jn2 (h := h) hB W2 R2 shc (by rw [lenA] at hlim; omega) q2.2.2.1 (fun j hj => ?_) k8 (fun M3 Ψ3 P3 W3 R3 G3 b3 N3 a3 s3 e3 _ => ⟨rfl, aft M3 Ψ3 P3 W3 R3 ⟨G3, N3, a3, s3, e3⟩ ⟨b3.1, ?_, ?_⟩⟩)
        · have mc := noL_ch g _ _ _ t1 (noL_hd t1) (gd_in hj)
          exact (q2.2.2.2.1 _ mc (hLc.2.2.1 j hj).2.2).1.1
        · have e : jW Θ G ((G x).getD i 0) = 62 * (G ((G x).getD i 0)).length + 42 := by unfold jW; rw [if_pos k8]
          have := b3.1
          have := sz_le (f := fun n => P3 28 ((G x).getD i 0 * 20 + n)) 20
          have e2 : nk P3 ((G x).getD i 0) = szN (fun n => P3 28 ((G x).getD i 0 * 20 + n)) 20 := rfl
          rw [e, e2]
          omega
        · have e : jH Θ G ((G x).getD i 0) = (G ((G x).getD i 0)).length + 1 := by unfold jH; rw [if_pos k8]
          rw [e]
          exact b3.2
    -- entering
    unfold T19
    refine VX9_weave_19 (h := h + 9) ?_
    unfold DX9_weave_19
    have n1280 : ¬ (1280 : Int32) ≤ Int32.ofNat st := fun z => by
      rw [lenA] at hst
      have := (le32 (a := 1280) (by decide) (by omega)).mp z
      omega
    have nz : ¬ Int32.ofNat x = 0 := fun z => by
      have := inj32 (a := x) (b := 0) (by omega) (by decide) z
      omega
    rw [lt32 (show x < 2147483648 by omega)]
    refine ⟨fun z => absurd z n1280, fun _ => ⟨fun z => absurd z nz, fun _ => ⟨fun z => absurd z (by decide), fun _ => ⟨ok21 F, ?_⟩⟩⟩⟩
    refine W_en2 (h := h) hB hW hP (by omega) hs hok hem (fun M1 Ψ1 P1 z1 W1 R1 G1 b1 I1 E1 S1 X1 O1 _ => ⟨rfl, ?_⟩)
    obtain ⟨F1, hT1, -, -, hR1, -⟩ := W1.sees hB
    have f0 : fl 0 = [] := by rw [efl]; rfl
    have L1 : LpQ Θ G n0 g x Ψ P zp 0 0 Ψ1 P1 z1 := by
      refine ⟨G1, I1, fun z hz => ?_, fun z hz => S1 z (fun e => hz (by rw [e]; exact List.mem_cons_self)), X1, O1, ?_⟩
      · rw [fle, f0] at hz; exact absurd hz List.not_mem_nil
      · rw [fle, f0]; exact E1
    have g6 : mAI M1 6 x = Int32.ofNat ((G x).getD 0 0) := by rw [hT1.2.2.2.1 6 (by decide) (by decide)]; exact hL.1
    refine ⟨4, rf21_0 F1, ok4 F1, 6, rf4_1 F1, ok6 F1, by rw [ln6 F1]; exact vp_of x3 (by decide), ?_⟩
    rw [g6]
    have l1 : Ψ1.1.length < 99890 := by omega
    have nb1 : nb ≤ Ψ1.1.length := by have := G1.1.1; omega
    by_cases hc : 0 < (G x).length
    · refine W_arS (st4 := st) hB ht hs hc W1 R1 L1 nb1 l1 (fun M5 Ψ5 P5 W5 R5 L5 b6 nb5 A5 => ?_)
      have q := loop ((G x).length - 0) 0 M5 Ψ5 P5 z1 rfl hc W5 R5 L5 (by
        obtain ⟨u1, u2, u3⟩ := b6
        obtain ⟨v1, v2, v3⟩ := b1
        rw [← ekx] at u2 u3 v2 v3
        rw [f0]
        show _ ≤ Ψ.1.length + 7 + 115 * 0 ∧ _ ≤ Ψ.1.length + eW kx + 0 + (0 + 1) * aW kx + 0 * lW kx ∧ _ ≤ Ψ.2.2.length + eH kx + 0 + (0 + 1) * aH kx + 0 * lH kx
        rw [Nat.zero_mul, Nat.zero_mul, Nat.zero_add, Nat.one_mul, Nat.one_mul]
        omega) nb5 A5
      rw [f0] at q
      exact q
    · have e0 : (G x).length = 0 := by omega
      have ez : (G x).getD 0 0 = 0 := by have := gd_end (l := G x); rw [e0] at this; exact this
      rw [ez]
      unfold DX9_weave_108 DX9_weave_118 DX9_weave_131
      refine ⟨fun _ => ⟨fun _ => ?_, fun z => absurd rfl z⟩, fun z => absurd rfl z⟩
      have q := fin M1 Ψ1 P1 z1 W1 R1 (by rw [e0]; exact L1) (by
        obtain ⟨v1, v2, v3⟩ := b1
        rw [← ekx] at v2 v3
        rw [e0, f0]
        show _ ≤ _ ∧ _ ≤ Ψ.1.length + eW kx + 0 + 0 * aW kx + 0 * lW kx ∧ _ ≤ Ψ.2.2.length + eH kx + 0 + 0 * aH kx + 0 * lH kx
        rw [Nat.zero_mul, Nat.zero_mul, Nat.zero_mul, Nat.zero_mul]
        refine ⟨by omega, by omega, by omega⟩)
      rw [e0, f0] at q
      rw [succ32]
      exact q
end
